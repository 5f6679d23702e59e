theorem dX12_init_0 : decode cX12_init 0 = .ok (.aload_n 0, 1) := by decide +kernel
theorem dX12_init_1 : decode cX12_init 1 = .ok (.invokespecial 1, 3) := by decide +kernel
theorem dX12_init_4 : decode cX12_init 4 = .ok (.aload_n 0, 1) := by decide +kernel
theorem dX12_init_5 : decode cX12_init 5 = .ok (.sipush 988, 3) := by decide +kernel
theorem dX12_init_8 : decode cX12_init 8 = .ok (.newarray .int, 2) := by decide +kernel
theorem dX12_init_10 : decode cX12_init 10 = .ok (.putfield 7, 3) := by decide +kernel
theorem dX12_init_13 : decode cX12_init 13 = .ok (.aload_n 0, 1) := by decide +kernel
theorem dX12_init_14 : decode cX12_init 14 = .ok (.iconst 2, 1) := by decide +kernel
theorem dX12_init_15 : decode cX12_init 15 = .ok (.newarray .boolean, 2) := by decide +kernel
theorem dX12_init_17 : decode cX12_init 17 = .ok (.putfield 13, 3) := by decide +kernel
theorem dX12_init_20 : decode cX12_init 20 = .ok (.aload_n 0, 1) := by decide +kernel
theorem dX12_init_21 : decode cX12_init 21 = .ok (.iconst 3, 1) := by decide +kernel
theorem dX12_init_22 : decode cX12_init 22 = .ok (.newarray .int, 2) := by decide +kernel
theorem dX12_init_24 : decode cX12_init 24 = .ok (.putfield 17, 3) := by decide +kernel
theorem dX12_init_27 : decode cX12_init 27 = .ok (.aload_n 0, 1) := by decide +kernel
theorem dX12_init_28 : decode cX12_init 28 = .ok (.sipush 300, 3) := by decide +kernel
theorem dX12_init_31 : decode cX12_init 31 = .ok (.newarray .byte, 2) := by decide +kernel
theorem dX12_init_33 : decode cX12_init 33 = .ok (.putfield 20, 3) := by decide +kernel
theorem dX12_init_36 : decode cX12_init 36 = .ok (.aload_n 0, 1) := by decide +kernel
theorem dX12_init_37 : decode cX12_init 37 = .ok (.iconst 5, 1) := by decide +kernel
theorem dX12_init_38 : decode cX12_init 38 = .ok (.newarray .int, 2) := by decide +kernel
theorem dX12_init_40 : decode cX12_init 40 = .ok (.putfield 24, 3) := by decide +kernel
theorem dX12_init_43 : decode cX12_init 43 = .ok (.aload_n 0, 1) := by decide +kernel
theorem dX12_init_44 : decode cX12_init 44 = .ok (.bipush 100, 2) := by decide +kernel
theorem dX12_init_46 : decode cX12_init 46 = .ok (.newarray .int, 2) := by decide +kernel
theorem dX12_init_48 : decode cX12_init 48 = .ok (.putfield 27, 3) := by decide +kernel
theorem dX12_init_51 : decode cX12_init 51 = .ok (.aload_n 0, 1) := by decide +kernel
theorem dX12_init_52 : decode cX12_init 52 = .ok (.bipush 6, 2) := by decide +kernel
theorem dX12_init_54 : decode cX12_init 54 = .ok (.newarray .int, 2) := by decide +kernel
theorem dX12_init_56 : decode cX12_init 56 = .ok (.putfield 30, 3) := by decide +kernel
theorem dX12_init_59 : decode cX12_init 59 = .ok (.aload_n 0, 1) := by decide +kernel
theorem dX12_init_60 : decode cX12_init 60 = .ok (.bipush 6, 2) := by decide +kernel
theorem dX12_init_62 : decode cX12_init 62 = .ok (.newarray .int, 2) := by decide +kernel
theorem dX12_init_64 : decode cX12_init 64 = .ok (.putfield 33, 3) := by decide +kernel
theorem dX12_init_67 : decode cX12_init 67 = .ok (.aload_n 0, 1) := by decide +kernel
theorem dX12_init_68 : decode cX12_init 68 = .ok (.bipush 6, 2) := by decide +kernel
theorem dX12_init_70 : decode cX12_init 70 = .ok (.newarray .int, 2) := by decide +kernel
theorem dX12_init_72 : decode cX12_init 72 = .ok (.putfield 36, 3) := by decide +kernel
theorem dX12_init_75 : decode cX12_init 75 = .ok (.aload_n 0, 1) := by decide +kernel
theorem dX12_init_76 : decode cX12_init 76 = .ok (.sipush 7587, 3) := by decide +kernel
theorem dX12_init_79 : decode cX12_init 79 = .ok (.newarray .int, 2) := by decide +kernel
theorem dX12_init_81 : decode cX12_init 81 = .ok (.putfield 39, 3) := by decide +kernel
theorem dX12_init_84 : decode cX12_init 84 = .ok (.aload_n 0, 1) := by decide +kernel
theorem dX12_init_85 : decode cX12_init 85 = .ok (.bipush 6, 2) := by decide +kernel
theorem dX12_init_87 : decode cX12_init 87 = .ok (.newarray .int, 2) := by decide +kernel
theorem dX12_init_89 : decode cX12_init 89 = .ok (.putfield 42, 3) := by decide +kernel
theorem dX12_init_92 : decode cX12_init 92 = .ok (.aload_n 0, 1) := by decide +kernel
theorem dX12_init_93 : decode cX12_init 93 = .ok (.bipush 6, 2) := by decide +kernel
theorem dX12_init_95 : decode cX12_init 95 = .ok (.newarray .int, 2) := by decide +kernel
theorem dX12_init_97 : decode cX12_init 97 = .ok (.putfield 45, 3) := by decide +kernel
theorem dX12_init_100 : decode cX12_init 100 = .ok (.aload_n 0, 1) := by decide +kernel
theorem dX12_init_101 : decode cX12_init 101 = .ok (.bipush 12, 2) := by decide +kernel
theorem dX12_init_103 : decode cX12_init 103 = .ok (.newarray .int, 2) := by decide +kernel
theorem dX12_init_105 : decode cX12_init 105 = .ok (.putfield 48, 3) := by decide +kernel
theorem dX12_init_108 : decode cX12_init 108 = .ok (.aload_n 0, 1) := by decide +kernel
theorem dX12_init_109 : decode cX12_init 109 = .ok (.bipush 12, 2) := by decide +kernel
theorem dX12_init_111 : decode cX12_init 111 = .ok (.newarray .int, 2) := by decide +kernel
theorem dX12_init_113 : decode cX12_init 113 = .ok (.putfield 51, 3) := by decide +kernel
theorem dX12_init_116 : decode cX12_init 116 = .ok (.aload_n 0, 1) := by decide +kernel
theorem dX12_init_117 : decode cX12_init 117 = .ok (.bipush 12, 2) := by decide +kernel
theorem dX12_init_119 : decode cX12_init 119 = .ok (.newarray .int, 2) := by decide +kernel
theorem dX12_init_121 : decode cX12_init 121 = .ok (.putfield 54, 3) := by decide +kernel
theorem dX12_init_124 : decode cX12_init 124 = .ok (.aload_n 0, 1) := by decide +kernel
theorem dX12_init_125 : decode cX12_init 125 = .ok (.iconst 2, 1) := by decide +kernel
theorem dX12_init_126 : decode cX12_init 126 = .ok (.newarray .int, 2) := by decide +kernel
theorem dX12_init_128 : decode cX12_init 128 = .ok (.putfield 57, 3) := by decide +kernel
theorem dX12_init_131 : decode cX12_init 131 = .ok (.aload_n 0, 1) := by decide +kernel
theorem dX12_init_132 : decode cX12_init 132 = .ok (.bipush 8, 2) := by decide +kernel
theorem dX12_init_134 : decode cX12_init 134 = .ok (.newarray .int, 2) := by decide +kernel
theorem dX12_init_136 : decode cX12_init 136 = .ok (.putfield 60, 3) := by decide +kernel
theorem dX12_init_139 : decode cX12_init 139 = .ok (.aload_n 0, 1) := by decide +kernel
theorem dX12_init_140 : decode cX12_init 140 = .ok (.getfield 7, 3) := by decide +kernel
theorem dX12_init_143 : decode cX12_init 143 = .ok (.sipush 201, 3) := by decide +kernel
theorem dX12_init_146 : decode cX12_init 146 = .ok (.iconst 4, 1) := by decide +kernel
theorem dX12_init_147 : decode cX12_init 147 = .ok (.iastore, 1) := by decide +kernel
theorem dX12_init_148 : decode cX12_init 148 = .ok (.aload_n 0, 1) := by decide +kernel
theorem dX12_init_149 : decode cX12_init 149 = .ok (.getfield 7, 3) := by decide +kernel
theorem dX12_init_152 : decode cX12_init 152 = .ok (.sipush 202, 3) := by decide +kernel
theorem dX12_init_155 : decode cX12_init 155 = .ok (.bipush 30, 2) := by decide +kernel
theorem dX12_init_157 : decode cX12_init 157 = .ok (.iastore, 1) := by decide +kernel
theorem dX12_init_158 : decode cX12_init 158 = .ok (.aload_n 0, 1) := by decide +kernel
theorem dX12_init_159 : decode cX12_init 159 = .ok (.getfield 7, 3) := by decide +kernel
theorem dX12_init_162 : decode cX12_init 162 = .ok (.sipush 203, 3) := by decide +kernel
theorem dX12_init_165 : decode cX12_init 165 = .ok (.iconst 1, 1) := by decide +kernel
theorem dX12_init_166 : decode cX12_init 166 = .ok (.iastore, 1) := by decide +kernel
theorem dX12_init_167 : decode cX12_init 167 = .ok (.aload_n 0, 1) := by decide +kernel
theorem dX12_init_168 : decode cX12_init 168 = .ok (.getfield 39, 3) := by decide +kernel
theorem dX12_init_171 : decode cX12_init 171 = .ok (.bipush 27, 2) := by decide +kernel
theorem dX12_init_173 : decode cX12_init 173 = .ok (.iconst 1, 1) := by decide +kernel
theorem dX12_init_174 : decode cX12_init 174 = .ok (.iastore, 1) := by decide +kernel
theorem dX12_init_175 : decode cX12_init 175 = .ok (.return_, 1) := by decide +kernel
theorem dX12_in_0 : decode cX12_in 0 = .ok (.iload_n 0, 1) := by decide +kernel
theorem dX12_in_1 : decode cX12_in 1 = .ok (.iload_n 1, 1) := by decide +kernel
theorem dX12_in_2 : decode cX12_in 2 = .ok (.if_icmp .lt 12, 3) := by decide +kernel
theorem dX12_in_5 : decode cX12_in 5 = .ok (.iload_n 0, 1) := by decide +kernel
theorem dX12_in_6 : decode cX12_in 6 = .ok (.iload_n 2, 1) := by decide +kernel
theorem dX12_in_7 : decode cX12_in 7 = .ok (.if_icmp .gt 7, 3) := by decide +kernel
theorem dX12_in_10 : decode cX12_in 10 = .ok (.iconst 1, 1) := by decide +kernel
theorem dX12_in_11 : decode cX12_in 11 = .ok (.goto 4, 3) := by decide +kernel
theorem dX12_in_14 : decode cX12_in 14 = .ok (.iconst 0, 1) := by decide +kernel
theorem dX12_in_15 : decode cX12_in 15 = .ok (.ireturn, 1) := by decide +kernel
theorem bX12_in_0 {Z : ZT} {X : XT} {μ : Mu} {a0 : Int32} {a1 : Int32} {a2 : Int32} (E : Ent Z X mX12_in 0 0)  
    (kt : a0 < a1 → JS Z X 14 [] [] μ) (kf : ¬ (a0 < a1) → JS Z X 5 [(0, .int a0), (2, .int a2)] [] μ) :
    JS Z X 0 [(0, .int a0), (1, .int a1), (2, .int a2)] [] μ := by
  refine J_iload_n E dX12_in_0 rfl ?_
  refine J_iload_n E dX12_in_1 rfl ?_
  refine J_icmp_lt (tgt := 14) E dX12_in_2 (by decide) (fun c => ?_) (fun c => ?_)
  · refine J.weak [] rfl ?_
    exact kt c
  · refine J.weak [0, 2] rfl ?_
    exact kf c
theorem bX12_in_5 {Z : ZT} {X : XT} {μ : Mu} {a0 : Int32} {a2 : Int32} (E : Ent Z X mX12_in 0 0)  
    (kt : a2 < a0 → JS Z X 14 [] [] μ) (kf : ¬ (a2 < a0) → JS Z X 10 [] [] μ) :
    JS Z X 5 [(0, .int a0), (2, .int a2)] [] μ := by
  refine J_iload_n E dX12_in_5 rfl ?_
  refine J_iload_n E dX12_in_6 rfl ?_
  refine J_icmp_gt (tgt := 14) E dX12_in_7 (by decide) (fun c => ?_) (fun c => ?_)
  · refine J.weak [] rfl ?_
    exact kt c
  · refine J.weak [] rfl ?_
    exact kf c
theorem bX12_in_10 {Z : ZT} {X : XT} {μ : Mu} (E : Ent Z X mX12_in 0 0)  
    (k : JS Z X 15 [] [.int (nI 1)] μ) :
    JS Z X 10 [] [] μ := by
  refine J_iconst (v := nI 1) E dX12_in_10 rfl ?_
  refine J_goto (tgt := 15) E dX12_in_11 (by decide) ?_
  exact k
theorem bX12_in_14 {Z : ZT} {X : XT} {μ : Mu} (E : Ent Z X mX12_in 0 0)  
    (k : JS Z X 15 [] [.int (nI 0)] μ) :
    JS Z X 14 [] [] μ := by
  refine J_iconst (v := nI 0) E dX12_in_14 rfl ?_
  exact k
theorem bX12_in_15 {Z : ZT} {X : XT} {μ : Mu} {s0 : Int32} (E : Ent Z X mX12_in 0 0) {P : Option Value → Mu → Prop} (hB : BodS Z X P) (s1_ : narrow .boolean (.int s0) = .int s0)
    (k : P (some (.int s0)) μ) :
    JS Z X 15 [] [.int s0] μ := by
  exact S_zret E hB dX12_in_15 rfl s1_ k
theorem dX12_refuse_0 : decode cX12_refuse 0 = .ok (.iload_n 1, 1) := by decide +kernel
theorem dX12_refuse_1 : decode cX12_refuse 1 = .ok (.bipush (-2), 2) := by decide +kernel
theorem dX12_refuse_3 : decode cX12_refuse 3 = .ok (.if_icmp .eq 15, 3) := by decide +kernel
theorem dX12_refuse_6 : decode cX12_refuse 6 = .ok (.iload_n 1, 1) := by decide +kernel
theorem dX12_refuse_7 : decode cX12_refuse 7 = .ok (.bipush (-3), 2) := by decide +kernel
theorem dX12_refuse_9 : decode cX12_refuse 9 = .ok (.if_icmp .eq 9, 3) := by decide +kernel
theorem dX12_refuse_12 : decode cX12_refuse 12 = .ok (.iload_n 1, 1) := by decide +kernel
theorem dX12_refuse_13 : decode cX12_refuse 13 = .ok (.bipush (-4), 2) := by decide +kernel
theorem dX12_refuse_15 : decode cX12_refuse 15 = .ok (.if_icmp .ne 16, 3) := by decide +kernel
theorem dX12_refuse_18 : decode cX12_refuse 18 = .ok (.aload_n 0, 1) := by decide +kernel
theorem dX12_refuse_19 : decode cX12_refuse 19 = .ok (.getfield 17, 3) := by decide +kernel
theorem dX12_refuse_22 : decode cX12_refuse 22 = .ok (.bipush (-2), 2) := by decide +kernel
theorem dX12_refuse_24 : decode cX12_refuse 24 = .ok (.iload_n 1, 1) := by decide +kernel
theorem dX12_refuse_25 : decode cX12_refuse 25 = .ok (.isub, 1) := by decide +kernel
theorem dX12_refuse_26 : decode cX12_refuse 26 = .ok (.dup2, 1) := by decide +kernel
theorem dX12_refuse_27 : decode cX12_refuse 27 = .ok (.iaload, 1) := by decide +kernel
theorem dX12_refuse_28 : decode cX12_refuse 28 = .ok (.iconst 1, 1) := by decide +kernel
theorem dX12_refuse_29 : decode cX12_refuse 29 = .ok (.iadd, 1) := by decide +kernel
theorem dX12_refuse_30 : decode cX12_refuse 30 = .ok (.iastore, 1) := by decide +kernel
theorem dX12_refuse_31 : decode cX12_refuse 31 = .ok (.iload_n 1, 1) := by decide +kernel
theorem dX12_refuse_32 : decode cX12_refuse 32 = .ok (.ireturn, 1) := by decide +kernel
theorem bX12_refuse_0 {Z : ZT} {X : XT} {μ : Mu} {a1 : Int32} (E : Ent Z X mX12_refuse 0 0)  
    (kt : a1 = (-2) → JS Z X 18 [(0, .ref (Z.2.2.1 + 455)), (1, .int a1)] [] μ) (kf : ¬ (a1 = (-2)) → JS Z X 6 [(0, .ref (Z.2.2.1 + 455)), (1, .int a1)] [] μ) :
    JS Z X 0 [(0, .ref (Z.2.2.1 + 455)), (1, .int a1)] [] μ := by
  refine J_iload_n E dX12_refuse_0 rfl ?_
  refine J_bipush (v := -2) E dX12_refuse_1 rfl ?_
  refine J_icmp_eq (tgt := 18) E dX12_refuse_3 (by decide) (fun c => ?_) (fun c => ?_)
  · exact kt c
  · exact kf c
theorem bX12_refuse_6 {Z : ZT} {X : XT} {μ : Mu} {a1 : Int32} (E : Ent Z X mX12_refuse 0 0)  
    (kt : a1 = (-3) → JS Z X 18 [(0, .ref (Z.2.2.1 + 455)), (1, .int a1)] [] μ) (kf : ¬ (a1 = (-3)) → JS Z X 12 [(0, .ref (Z.2.2.1 + 455)), (1, .int a1)] [] μ) :
    JS Z X 6 [(0, .ref (Z.2.2.1 + 455)), (1, .int a1)] [] μ := by
  refine J_iload_n E dX12_refuse_6 rfl ?_
  refine J_bipush (v := -3) E dX12_refuse_7 rfl ?_
  refine J_icmp_eq (tgt := 18) E dX12_refuse_9 (by decide) (fun c => ?_) (fun c => ?_)
  · exact kt c
  · exact kf c
theorem bX12_refuse_12 {Z : ZT} {X : XT} {μ : Mu} {a1 : Int32} (E : Ent Z X mX12_refuse 0 0)  
    (kt : ¬ a1 = (-4) → JS Z X 31 [(1, .int a1)] [] μ) (kf : a1 = (-4) → JS Z X 18 [(0, .ref (Z.2.2.1 + 455)), (1, .int a1)] [] μ) :
    JS Z X 12 [(0, .ref (Z.2.2.1 + 455)), (1, .int a1)] [] μ := by
  refine J_iload_n E dX12_refuse_12 rfl ?_
  refine J_bipush (v := -4) E dX12_refuse_13 rfl ?_
  refine J_icmp_ne (tgt := 31) E dX12_refuse_15 (by decide) (fun c => ?_) (fun c => ?_)
  · refine J.weak [1] rfl ?_
    exact kt c
  · exact kf c
theorem bX12_refuse_18 {Z : ZT} {X : XT} {μ : Mu} {a1 : Int32} (E : Ent Z X mX12_refuse 0 0)  (s1_ : vp_in ((-2) - a1) 3) (s2_ : vp_in ((-2) - a1) 3)
    (k : JS Z X 31 [(1, .int a1)] [] (uR μ 458 (upd (μ 458) (ix ((-2) - a1)) ((μ 458 (ix ((-2) - a1))) + (nI 1))))) :
    JS Z X 18 [(0, .ref (Z.2.2.1 + 455)), (1, .int a1)] [] μ := by
  refine J_aload_n E dX12_refuse_18 rfl ?_
  refine S_get (ci := 12) (q := 2) (v := .ref (Z.2.2.1 + 458)) E dX12_refuse_19 fs_X12_17 sh455 rfl ?_
  refine J_bipush (v := -2) E dX12_refuse_22 rfl ?_
  refine J_iload_n E dX12_refuse_24 rfl ?_
  refine J_isub E dX12_refuse_25 ?_
  refine J_dup2_11 E dX12_refuse_26 rfl rfl ?_
  refine S_iald E dX12_refuse_27 sh458 s1_ ?_
  refine J_iconst (v := nI 1) E dX12_refuse_28 rfl ?_
  refine J_iadd E dX12_refuse_29 ?_
  refine S_iast E dX12_refuse_30 sh458 s2_ ?_
  refine J.weak [1] rfl ?_
  exact k
theorem bX12_refuse_31 {Z : ZT} {X : XT} {μ : Mu} {a1 : Int32} (E : Ent Z X mX12_refuse 0 0) {P : Option Value → Mu → Prop} (hB : BodS Z X P) 
    (k : P (some (.int a1)) μ) :
    JS Z X 31 [(1, .int a1)] [] μ := by
  refine J_iload_n E dX12_refuse_31 rfl ?_
  exact S_iret E hB dX12_refuse_32 rfl k
theorem dX12_no_0 : decode cX12_no 0 = .ok (.aload_n 0, 1) := by decide +kernel
theorem dX12_no_1 : decode cX12_no 1 = .ok (.iload_n 1, 1) := by decide +kernel
theorem dX12_no_2 : decode cX12_no 2 = .ok (.ifCond .eq 8, 3) := by decide +kernel
theorem dX12_no_5 : decode cX12_no 5 = .ok (.bipush (-2), 2) := by decide +kernel
theorem dX12_no_7 : decode cX12_no 7 = .ok (.goto 5, 3) := by decide +kernel
theorem dX12_no_10 : decode cX12_no 10 = .ok (.bipush (-3), 2) := by decide +kernel
theorem dX12_no_12 : decode cX12_no 12 = .ok (.invokevirtual 63, 3) := by decide +kernel
theorem dX12_no_15 : decode cX12_no 15 = .ok (.ireturn, 1) := by decide +kernel
theorem bX12_no_0 {Z : ZT} {X : XT} {μ : Mu} {a1 : Int32} (E : Ent Z X mX12_no 0 0)  
    (kt : a1 = 0 → JS Z X 10 [] [.ref (Z.2.2.1 + 455)] μ) (kf : ¬ (a1 = 0) → JS Z X 5 [] [.ref (Z.2.2.1 + 455)] μ) :
    JS Z X 0 [(0, .ref (Z.2.2.1 + 455)), (1, .int a1)] [] μ := by
  refine J_aload_n E dX12_no_0 rfl ?_
  refine J_iload_n E dX12_no_1 rfl ?_
  refine J_if_eq (tgt := 10) E dX12_no_2 (by decide) (fun c => ?_) (fun c => ?_)
  · refine J.weak [] rfl ?_
    exact kt c
  · refine J.weak [] rfl ?_
    exact kf c
theorem bX12_no_5 {Z : ZT} {X : XT} {μ : Mu} (E : Ent Z X mX12_no 0 0)  
    (k : JS Z X 12 [] [.int (-2), .ref (Z.2.2.1 + 455)] μ) :
    JS Z X 5 [] [.ref (Z.2.2.1 + 455)] μ := by
  refine J_bipush (v := -2) E dX12_no_5 rfl ?_
  refine J_goto (tgt := 12) E dX12_no_7 (by decide) ?_
  exact k
theorem bX12_no_10 {Z : ZT} {X : XT} {μ : Mu} (E : Ent Z X mX12_no 0 0)  
    (k : JS Z X 12 [] [.int (-3), .ref (Z.2.2.1 + 455)] μ) :
    JS Z X 10 [] [.ref (Z.2.2.1 + 455)] μ := by
  refine J_bipush (v := -3) E dX12_no_10 rfl ?_
  exact k
theorem bX12_no_12 {Z : ZT} {X : XT} {μ : Mu} {s1 : Int32} (E : Ent Z X mX12_no 0 0) {p : Int32 → Mu → Prop} 
    (c : CtrS Z mX12_refuse [.ref (Z.2.2.1 + 455), .int s1] μ (rI p)) (k : ∀ v μ1, p v μ1 → JS Z X 15 [] [.int v] μ1) :
    JS Z X 12 [] [.int s1, .ref (Z.2.2.1 + 455)] μ := by
  refine S_callV (As := [.int s1]) (rest := []) E dX12_no_12 c kX12_refuse ⟨Nat.le_of_ble_eq_true rfl, Nat.le_of_ble_eq_true rfl⟩ rfl (Nat.le_of_ble_eq_true rfl) sh455 rfl rfl w6_51 w6_53 wp_30 (fun r_ μ1 hp_ => ?_)
  obtain ⟨v, rfl, hp_⟩ := hp_
  exact k v μ1 hp_
theorem bX12_no_15 {Z : ZT} {X : XT} {μ : Mu} {s0 : Int32} (E : Ent Z X mX12_no 0 0) {P : Option Value → Mu → Prop} (hB : BodS Z X P) 
    (k : P (some (.int s0)) μ) :
    JS Z X 15 [] [.int s0] μ := by
  exact S_iret E hB dX12_no_15 rfl k
theorem dX12_isPlace_0 : decode cX12_isPlace 0 = .ok (.iload_n 2, 1) := by decide +kernel
theorem dX12_isPlace_1 : decode cX12_isPlace 1 = .ok (.iconst 0, 1) := by decide +kernel
theorem dX12_isPlace_2 : decode cX12_isPlace 2 = .ok (.aload_n 0, 1) := by decide +kernel
theorem dX12_isPlace_3 : decode cX12_isPlace 3 = .ok (.getfield 7, 3) := by decide +kernel
theorem dX12_isPlace_6 : decode cX12_isPlace 6 = .ok (.iload_n 1, 1) := by decide +kernel
theorem dX12_isPlace_7 : decode cX12_isPlace 7 = .ok (.iaload, 1) := by decide +kernel
theorem dX12_isPlace_8 : decode cX12_isPlace 8 = .ok (.iconst 1, 1) := by decide +kernel
theorem dX12_isPlace_9 : decode cX12_isPlace 9 = .ok (.isub, 1) := by decide +kernel
theorem dX12_isPlace_10 : decode cX12_isPlace 10 = .ok (.invokestatic 67, 3) := by decide +kernel
theorem dX12_isPlace_13 : decode cX12_isPlace 13 = .ok (.ireturn, 1) := by decide +kernel
theorem bX12_isPlace_0 {Z : ZT} {X : XT} {μ : Mu} {a1 : Int32} {a2 : Int32} (E : Ent Z X mX12_isPlace 0 0) {p : Int32 → Mu → Prop} (s1_ : vp_in a1 988)
    (c : CtrS Z mX12_in [.int a2, .int (nI 0), .int ((μ 456 (ix a1)) - (nI 1))] μ (rI p)) (k : ∀ v μ1, p v μ1 → JS Z X 13 [] [.int v] μ1) :
    JS Z X 0 [(0, .ref (Z.2.2.1 + 455)), (1, .int a1), (2, .int a2)] [] μ := by
  refine J_iload_n E dX12_isPlace_0 rfl ?_
  refine J_iconst (v := nI 0) E dX12_isPlace_1 rfl ?_
  refine J_aload_n E dX12_isPlace_2 rfl ?_
  refine S_get (ci := 12) (q := 0) (v := .ref (Z.2.2.1 + 456)) E dX12_isPlace_3 fs_X12_7 sh455 rfl ?_
  refine J_iload_n E dX12_isPlace_6 rfl ?_
  refine S_iald E dX12_isPlace_7 sh456 s1_ ?_
  refine J_iconst (v := nI 1) E dX12_isPlace_8 rfl ?_
  refine J_isub E dX12_isPlace_9 ?_
  refine S_callS (As := [.int a2, .int (nI 0), .int ((μ 456 (ix a1)) - (nI 1))]) (rest := []) E dX12_isPlace_10 c kX12_in ⟨Nat.le_of_ble_eq_true rfl, Nat.le_of_ble_eq_true rfl⟩ rfl (Nat.le_of_ble_eq_true rfl) w6_67 w6_68 (fun r_ μ1 hp_ => ?_)
  obtain ⟨v, rfl, hp_⟩ := hp_
  refine J.weak [] rfl ?_
  exact k v μ1 hp_
theorem bX12_isPlace_13 {Z : ZT} {X : XT} {μ : Mu} {s0 : Int32} (E : Ent Z X mX12_isPlace 0 0) {P : Option Value → Mu → Prop} (hB : BodS Z X P) (s1_ : narrow .boolean (.int s0) = .int s0)
    (k : P (some (.int s0)) μ) :
    JS Z X 13 [] [.int s0] μ := by
  exact S_zret E hB dX12_isPlace_13 rfl s1_ k
theorem dX12_isChild_0 : decode cX12_isChild 0 = .ok (.iload_n 2, 1) := by decide +kernel
theorem dX12_isChild_1 : decode cX12_isChild 1 = .ok (.iconst 0, 1) := by decide +kernel
theorem dX12_isChild_2 : decode cX12_isChild 2 = .ok (.aload_n 0, 1) := by decide +kernel
theorem dX12_isChild_3 : decode cX12_isChild 3 = .ok (.getfield 7, 3) := by decide +kernel
theorem dX12_isChild_6 : decode cX12_isChild 6 = .ok (.iload_n 1, 1) := by decide +kernel
theorem dX12_isChild_7 : decode cX12_isChild 7 = .ok (.bipush 111, 2) := by decide +kernel
theorem dX12_isChild_9 : decode cX12_isChild 9 = .ok (.iadd, 1) := by decide +kernel
theorem dX12_isChild_10 : decode cX12_isChild 10 = .ok (.iaload, 1) := by decide +kernel
theorem dX12_isChild_11 : decode cX12_isChild 11 = .ok (.iconst 1, 1) := by decide +kernel
theorem dX12_isChild_12 : decode cX12_isChild 12 = .ok (.isub, 1) := by decide +kernel
theorem dX12_isChild_13 : decode cX12_isChild 13 = .ok (.invokestatic 67, 3) := by decide +kernel
theorem dX12_isChild_16 : decode cX12_isChild 16 = .ok (.ireturn, 1) := by decide +kernel
theorem bX12_isChild_0 {Z : ZT} {X : XT} {μ : Mu} {a1 : Int32} {a2 : Int32} (E : Ent Z X mX12_isChild 0 0) {p : Int32 → Mu → Prop} (s1_ : vp_in (a1 + (nI 111)) 988)
    (c : CtrS Z mX12_in [.int a2, .int (nI 0), .int ((μ 456 (ix (a1 + (nI 111)))) - (nI 1))] μ (rI p)) (k : ∀ v μ1, p v μ1 → JS Z X 16 [] [.int v] μ1) :
    JS Z X 0 [(0, .ref (Z.2.2.1 + 455)), (1, .int a1), (2, .int a2)] [] μ := by
  refine J_iload_n E dX12_isChild_0 rfl ?_
  refine J_iconst (v := nI 0) E dX12_isChild_1 rfl ?_
  refine J_aload_n E dX12_isChild_2 rfl ?_
  refine S_get (ci := 12) (q := 0) (v := .ref (Z.2.2.1 + 456)) E dX12_isChild_3 fs_X12_7 sh455 rfl ?_
  refine J_iload_n E dX12_isChild_6 rfl ?_
  refine J_bipush (v := nI 111) E dX12_isChild_7 rfl ?_
  refine J_iadd E dX12_isChild_9 ?_
  refine S_iald E dX12_isChild_10 sh456 s1_ ?_
  refine J_iconst (v := nI 1) E dX12_isChild_11 rfl ?_
  refine J_isub E dX12_isChild_12 ?_
  refine S_callS (As := [.int a2, .int (nI 0), .int ((μ 456 (ix (a1 + (nI 111)))) - (nI 1))]) (rest := []) E dX12_isChild_13 c kX12_in ⟨Nat.le_of_ble_eq_true rfl, Nat.le_of_ble_eq_true rfl⟩ rfl (Nat.le_of_ble_eq_true rfl) w6_67 w6_68 (fun r_ μ1 hp_ => ?_)
  obtain ⟨v, rfl, hp_⟩ := hp_
  refine J.weak [] rfl ?_
  exact k v μ1 hp_
theorem bX12_isChild_16 {Z : ZT} {X : XT} {μ : Mu} {s0 : Int32} (E : Ent Z X mX12_isChild 0 0) {P : Option Value → Mu → Prop} (hB : BodS Z X P) (s1_ : narrow .boolean (.int s0) = .int s0)
    (k : P (some (.int s0)) μ) :
    JS Z X 16 [] [.int s0] μ := by
  exact S_zret E hB dX12_isChild_16 rfl s1_ k
theorem dX12_isSlip_0 : decode cX12_isSlip 0 = .ok (.iload_n 2, 1) := by decide +kernel
theorem dX12_isSlip_1 : decode cX12_isSlip 1 = .ok (.iconst 0, 1) := by decide +kernel
theorem dX12_isSlip_2 : decode cX12_isSlip 2 = .ok (.aload_n 0, 1) := by decide +kernel
theorem dX12_isSlip_3 : decode cX12_isSlip 3 = .ok (.getfield 7, 3) := by decide +kernel
theorem dX12_isSlip_6 : decode cX12_isSlip 6 = .ok (.iload_n 1, 1) := by decide +kernel
theorem dX12_isSlip_7 : decode cX12_isSlip 7 = .ok (.sipush 154, 3) := by decide +kernel
theorem dX12_isSlip_10 : decode cX12_isSlip 10 = .ok (.iadd, 1) := by decide +kernel
theorem dX12_isSlip_11 : decode cX12_isSlip 11 = .ok (.iaload, 1) := by decide +kernel
theorem dX12_isSlip_12 : decode cX12_isSlip 12 = .ok (.iconst 1, 1) := by decide +kernel
theorem dX12_isSlip_13 : decode cX12_isSlip 13 = .ok (.isub, 1) := by decide +kernel
theorem dX12_isSlip_14 : decode cX12_isSlip 14 = .ok (.invokestatic 67, 3) := by decide +kernel
theorem dX12_isSlip_17 : decode cX12_isSlip 17 = .ok (.ireturn, 1) := by decide +kernel
theorem bX12_isSlip_0 {Z : ZT} {X : XT} {μ : Mu} {a1 : Int32} {a2 : Int32} (E : Ent Z X mX12_isSlip 0 0) {p : Int32 → Mu → Prop} (s1_ : vp_in (a1 + (nI 154)) 988)
    (c : CtrS Z mX12_in [.int a2, .int (nI 0), .int ((μ 456 (ix (a1 + (nI 154)))) - (nI 1))] μ (rI p)) (k : ∀ v μ1, p v μ1 → JS Z X 17 [] [.int v] μ1) :
    JS Z X 0 [(0, .ref (Z.2.2.1 + 455)), (1, .int a1), (2, .int a2)] [] μ := by
  refine J_iload_n E dX12_isSlip_0 rfl ?_
  refine J_iconst (v := nI 0) E dX12_isSlip_1 rfl ?_
  refine J_aload_n E dX12_isSlip_2 rfl ?_
  refine S_get (ci := 12) (q := 0) (v := .ref (Z.2.2.1 + 456)) E dX12_isSlip_3 fs_X12_7 sh455 rfl ?_
  refine J_iload_n E dX12_isSlip_6 rfl ?_
  refine J_sipush (v := nI 154) E dX12_isSlip_7 rfl ?_
  refine J_iadd E dX12_isSlip_10 ?_
  refine S_iald E dX12_isSlip_11 sh456 s1_ ?_
  refine J_iconst (v := nI 1) E dX12_isSlip_12 rfl ?_
  refine J_isub E dX12_isSlip_13 ?_
  refine S_callS (As := [.int a2, .int (nI 0), .int ((μ 456 (ix (a1 + (nI 154)))) - (nI 1))]) (rest := []) E dX12_isSlip_14 c kX12_in ⟨Nat.le_of_ble_eq_true rfl, Nat.le_of_ble_eq_true rfl⟩ rfl (Nat.le_of_ble_eq_true rfl) w6_67 w6_68 (fun r_ μ1 hp_ => ?_)
  obtain ⟨v, rfl, hp_⟩ := hp_
  refine J.weak [] rfl ?_
  exact k v μ1 hp_
theorem bX12_isSlip_17 {Z : ZT} {X : XT} {μ : Mu} {s0 : Int32} (E : Ent Z X mX12_isSlip 0 0) {P : Option Value → Mu → Prop} (hB : BodS Z X P) (s1_ : narrow .boolean (.int s0) = .int s0)
    (k : P (some (.int s0)) μ) :
    JS Z X 17 [] [.int s0] μ := by
  exact S_zret E hB dX12_isSlip_17 rfl s1_ k
theorem dX12_isLot_0 : decode cX12_isLot 0 = .ok (.iload_n 0, 1) := by decide +kernel
theorem dX12_isLot_1 : decode cX12_isLot 1 = .ok (.iconst 0, 1) := by decide +kernel
theorem dX12_isLot_2 : decode cX12_isLot 2 = .ok (.iconst 1, 1) := by decide +kernel
theorem dX12_isLot_3 : decode cX12_isLot 3 = .ok (.invokestatic 67, 3) := by decide +kernel
theorem dX12_isLot_6 : decode cX12_isLot 6 = .ok (.ireturn, 1) := by decide +kernel
theorem bX12_isLot_0 {Z : ZT} {X : XT} {μ : Mu} {a0 : Int32} (E : Ent Z X mX12_isLot 0 0) {p : Int32 → Mu → Prop} 
    (c : CtrS Z mX12_in [.int a0, .int (nI 0), .int (nI 1)] μ (rI p)) (k : ∀ v μ1, p v μ1 → JS Z X 6 [] [.int v] μ1) :
    JS Z X 0 [(0, .int a0)] [] μ := by
  refine J_iload_n E dX12_isLot_0 rfl ?_
  refine J_iconst (v := nI 0) E dX12_isLot_1 rfl ?_
  refine J_iconst (v := nI 1) E dX12_isLot_2 rfl ?_
  refine S_callS (As := [.int a0, .int (nI 0), .int (nI 1)]) (rest := []) E dX12_isLot_3 c kX12_in ⟨Nat.le_of_ble_eq_true rfl, Nat.le_of_ble_eq_true rfl⟩ rfl (Nat.le_of_ble_eq_true rfl) w6_67 w6_68 (fun r_ μ1 hp_ => ?_)
  obtain ⟨v, rfl, hp_⟩ := hp_
  refine J.weak [] rfl ?_
  exact k v μ1 hp_
theorem bX12_isLot_6 {Z : ZT} {X : XT} {μ : Mu} {s0 : Int32} (E : Ent Z X mX12_isLot 0 0) {P : Option Value → Mu → Prop} (hB : BodS Z X P) (s1_ : narrow .boolean (.int s0) = .int s0)
    (k : P (some (.int s0)) μ) :
    JS Z X 6 [] [.int s0] μ := by
  exact S_zret E hB dX12_isLot_6 rfl s1_ k
theorem dX12_addPlace_0 : decode cX12_addPlace 0 = .ok (.aload_n 0, 1) := by decide +kernel
theorem dX12_addPlace_1 : decode cX12_addPlace 1 = .ok (.getfield 7, 3) := by decide +kernel
theorem dX12_addPlace_4 : decode cX12_addPlace 4 = .ok (.iload_n 1, 1) := by decide +kernel
theorem dX12_addPlace_5 : decode cX12_addPlace 5 = .ok (.iaload, 1) := by decide +kernel
theorem dX12_addPlace_6 : decode cX12_addPlace 6 = .ok (.bipush 10, 2) := by decide +kernel
theorem dX12_addPlace_8 : decode cX12_addPlace 8 = .ok (.if_icmp .ne 6, 3) := by decide +kernel
theorem dX12_addPlace_11 : decode cX12_addPlace 11 = .ok (.bipush (-4), 2) := by decide +kernel
theorem dX12_addPlace_13 : decode cX12_addPlace 13 = .ok (.ireturn, 1) := by decide +kernel
theorem dX12_addPlace_14 : decode cX12_addPlace 14 = .ok (.aload_n 0, 1) := by decide +kernel
theorem dX12_addPlace_15 : decode cX12_addPlace 15 = .ok (.getfield 7, 3) := by decide +kernel
theorem dX12_addPlace_18 : decode cX12_addPlace 18 = .ok (.iload_n 1, 1) := by decide +kernel
theorem dX12_addPlace_19 : decode cX12_addPlace 19 = .ok (.iaload, 1) := by decide +kernel
theorem dX12_addPlace_20 : decode cX12_addPlace 20 = .ok (.istore_n 2, 1) := by decide +kernel
theorem dX12_addPlace_21 : decode cX12_addPlace 21 = .ok (.iconst 0, 1) := by decide +kernel
theorem dX12_addPlace_22 : decode cX12_addPlace 22 = .ok (.istore_n 3, 1) := by decide +kernel
theorem dX12_addPlace_23 : decode cX12_addPlace 23 = .ok (.iload_n 3, 1) := by decide +kernel
theorem dX12_addPlace_24 : decode cX12_addPlace 24 = .ok (.bipush 10, 2) := by decide +kernel
theorem dX12_addPlace_26 : decode cX12_addPlace 26 = .ok (.if_icmp .ge 41, 3) := by decide +kernel
theorem dX12_addPlace_29 : decode cX12_addPlace 29 = .ok (.aload_n 0, 1) := by decide +kernel
theorem dX12_addPlace_30 : decode cX12_addPlace 30 = .ok (.getfield 7, 3) := by decide +kernel
theorem dX12_addPlace_33 : decode cX12_addPlace 33 = .ok (.iload_n 1, 1) := by decide +kernel
theorem dX12_addPlace_34 : decode cX12_addPlace 34 = .ok (.iconst 1, 1) := by decide +kernel
theorem dX12_addPlace_35 : decode cX12_addPlace 35 = .ok (.iadd, 1) := by decide +kernel
theorem dX12_addPlace_36 : decode cX12_addPlace 36 = .ok (.bipush 10, 2) := by decide +kernel
theorem dX12_addPlace_38 : decode cX12_addPlace 38 = .ok (.iload_n 2, 1) := by decide +kernel
theorem dX12_addPlace_39 : decode cX12_addPlace 39 = .ok (.imul, 1) := by decide +kernel
theorem dX12_addPlace_40 : decode cX12_addPlace 40 = .ok (.iadd, 1) := by decide +kernel
theorem dX12_addPlace_41 : decode cX12_addPlace 41 = .ok (.iload_n 3, 1) := by decide +kernel
theorem dX12_addPlace_42 : decode cX12_addPlace 42 = .ok (.iadd, 1) := by decide +kernel
theorem dX12_addPlace_43 : decode cX12_addPlace 43 = .ok (.iconst 0, 1) := by decide +kernel
theorem dX12_addPlace_44 : decode cX12_addPlace 44 = .ok (.iastore, 1) := by decide +kernel
theorem dX12_addPlace_45 : decode cX12_addPlace 45 = .ok (.aload_n 0, 1) := by decide +kernel
theorem dX12_addPlace_46 : decode cX12_addPlace 46 = .ok (.getfield 7, 3) := by decide +kernel
theorem dX12_addPlace_49 : decode cX12_addPlace 49 = .ok (.iload_n 1, 1) := by decide +kernel
theorem dX12_addPlace_50 : decode cX12_addPlace 50 = .ok (.iconst 1, 1) := by decide +kernel
theorem dX12_addPlace_51 : decode cX12_addPlace 51 = .ok (.iadd, 1) := by decide +kernel
theorem dX12_addPlace_52 : decode cX12_addPlace 52 = .ok (.bipush 10, 2) := by decide +kernel
theorem dX12_addPlace_54 : decode cX12_addPlace 54 = .ok (.iload_n 3, 1) := by decide +kernel
theorem dX12_addPlace_55 : decode cX12_addPlace 55 = .ok (.imul, 1) := by decide +kernel
theorem dX12_addPlace_56 : decode cX12_addPlace 56 = .ok (.iadd, 1) := by decide +kernel
theorem dX12_addPlace_57 : decode cX12_addPlace 57 = .ok (.iload_n 2, 1) := by decide +kernel
theorem dX12_addPlace_58 : decode cX12_addPlace 58 = .ok (.iadd, 1) := by decide +kernel
theorem dX12_addPlace_59 : decode cX12_addPlace 59 = .ok (.iconst 0, 1) := by decide +kernel
theorem dX12_addPlace_60 : decode cX12_addPlace 60 = .ok (.iastore, 1) := by decide +kernel
theorem dX12_addPlace_61 : decode cX12_addPlace 61 = .ok (.iinc 3 1, 3) := by decide +kernel
theorem dX12_addPlace_64 : decode cX12_addPlace 64 = .ok (.goto (-41), 3) := by decide +kernel
theorem dX12_addPlace_67 : decode cX12_addPlace 67 = .ok (.aload_n 0, 1) := by decide +kernel
theorem dX12_addPlace_68 : decode cX12_addPlace 68 = .ok (.getfield 7, 3) := by decide +kernel
theorem dX12_addPlace_71 : decode cX12_addPlace 71 = .ok (.iload_n 1, 1) := by decide +kernel
theorem dX12_addPlace_72 : decode cX12_addPlace 72 = .ok (.bipush 101, 2) := by decide +kernel
theorem dX12_addPlace_74 : decode cX12_addPlace 74 = .ok (.iadd, 1) := by decide +kernel
theorem dX12_addPlace_75 : decode cX12_addPlace 75 = .ok (.iload_n 2, 1) := by decide +kernel
theorem dX12_addPlace_76 : decode cX12_addPlace 76 = .ok (.iadd, 1) := by decide +kernel
theorem dX12_addPlace_77 : decode cX12_addPlace 77 = .ok (.iconst 1, 1) := by decide +kernel
theorem dX12_addPlace_78 : decode cX12_addPlace 78 = .ok (.iload_n 2, 1) := by decide +kernel
theorem dX12_addPlace_79 : decode cX12_addPlace 79 = .ok (.ishl, 1) := by decide +kernel
theorem dX12_addPlace_80 : decode cX12_addPlace 80 = .ok (.iastore, 1) := by decide +kernel
theorem dX12_addPlace_81 : decode cX12_addPlace 81 = .ok (.aload_n 0, 1) := by decide +kernel
theorem dX12_addPlace_82 : decode cX12_addPlace 82 = .ok (.getfield 7, 3) := by decide +kernel
theorem dX12_addPlace_85 : decode cX12_addPlace 85 = .ok (.iload_n 1, 1) := by decide +kernel
theorem dX12_addPlace_86 : decode cX12_addPlace 86 = .ok (.dup2, 1) := by decide +kernel
theorem dX12_addPlace_87 : decode cX12_addPlace 87 = .ok (.iaload, 1) := by decide +kernel
theorem dX12_addPlace_88 : decode cX12_addPlace 88 = .ok (.iconst 1, 1) := by decide +kernel
theorem dX12_addPlace_89 : decode cX12_addPlace 89 = .ok (.iadd, 1) := by decide +kernel
theorem dX12_addPlace_90 : decode cX12_addPlace 90 = .ok (.iastore, 1) := by decide +kernel
theorem dX12_addPlace_91 : decode cX12_addPlace 91 = .ok (.iload_n 2, 1) := by decide +kernel
theorem dX12_addPlace_92 : decode cX12_addPlace 92 = .ok (.ireturn, 1) := by decide +kernel
theorem bX12_addPlace_0 {Z : ZT} {X : XT} {μ : Mu} {a1 : Int32} (E : Ent Z X mX12_addPlace 0 0)  (s1_ : vp_in a1 988)
    (kt : ¬ (μ 456 (ix a1)) = (nI 10) → JS Z X 14 [(0, .ref (Z.2.2.1 + 455)), (1, .int a1)] [] μ) (kf : (μ 456 (ix a1)) = (nI 10) → JS Z X 11 [] [] μ) :
    JS Z X 0 [(0, .ref (Z.2.2.1 + 455)), (1, .int a1)] [] μ := by
  refine J_aload_n E dX12_addPlace_0 rfl ?_
  refine S_get (ci := 12) (q := 0) (v := .ref (Z.2.2.1 + 456)) E dX12_addPlace_1 fs_X12_7 sh455 rfl ?_
  refine J_iload_n E dX12_addPlace_4 rfl ?_
  refine S_iald E dX12_addPlace_5 sh456 s1_ ?_
  refine J_bipush (v := nI 10) E dX12_addPlace_6 rfl ?_
  refine J_icmp_ne (tgt := 14) E dX12_addPlace_8 (by decide) (fun c => ?_) (fun c => ?_)
  · exact kt c
  · refine J.weak [] rfl ?_
    exact kf c
theorem bX12_addPlace_11 {Z : ZT} {X : XT} {μ : Mu} (E : Ent Z X mX12_addPlace 0 0) {P : Option Value → Mu → Prop} (hB : BodS Z X P) 
    (k : P (some (.int (-4))) μ) :
    JS Z X 11 [] [] μ := by
  refine J_bipush (v := -4) E dX12_addPlace_11 rfl ?_
  exact S_iret E hB dX12_addPlace_13 rfl k
theorem bX12_addPlace_14 {Z : ZT} {X : XT} {μ : Mu} {a1 : Int32} (E : Ent Z X mX12_addPlace 0 0)  (s1_ : vp_in a1 988)
    (k : JS Z X 23 [(0, .ref (Z.2.2.1 + 455)), (1, .int a1), (2, .int (μ 456 (ix a1))), (3, .int (nI 0))] [] μ) :
    JS Z X 14 [(0, .ref (Z.2.2.1 + 455)), (1, .int a1)] [] μ := by
  refine J_aload_n E dX12_addPlace_14 rfl ?_
  refine S_get (ci := 12) (q := 0) (v := .ref (Z.2.2.1 + 456)) E dX12_addPlace_15 fs_X12_7 sh455 rfl ?_
  refine J_iload_n E dX12_addPlace_18 rfl ?_
  refine S_iald E dX12_addPlace_19 sh456 s1_ ?_
  refine J_istore_n (lv' := [(0, .ref (Z.2.2.1 + 455)), (1, .int a1), (2, .int (μ 456 (ix a1)))]) E dX12_addPlace_20 (Nat.le_of_ble_eq_true rfl) rfl ?_
  refine J_iconst (v := nI 0) E dX12_addPlace_21 rfl ?_
  refine J_istore_n (lv' := [(0, .ref (Z.2.2.1 + 455)), (1, .int a1), (2, .int (μ 456 (ix a1))), (3, .int (nI 0))]) E dX12_addPlace_22 (Nat.le_of_ble_eq_true rfl) rfl ?_
  exact k
theorem bX12_addPlace_23 {Z : ZT} {X : XT} {μ : Mu} {a1 : Int32} {a2 : Int32} {a3 : Int32} (E : Ent Z X mX12_addPlace 0 0)  
    (kt : (nI 10) ≤ a3 → JS Z X 67 [(0, .ref (Z.2.2.1 + 455)), (1, .int a1), (2, .int a2)] [] μ) (kf : ¬ ((nI 10) ≤ a3) → JS Z X 29 [(0, .ref (Z.2.2.1 + 455)), (1, .int a1), (2, .int a2), (3, .int a3)] [] μ) :
    JS Z X 23 [(0, .ref (Z.2.2.1 + 455)), (1, .int a1), (2, .int a2), (3, .int a3)] [] μ := by
  refine J_iload_n E dX12_addPlace_23 rfl ?_
  refine J_bipush (v := nI 10) E dX12_addPlace_24 rfl ?_
  refine J_icmp_ge (tgt := 67) E dX12_addPlace_26 (by decide) (fun c => ?_) (fun c => ?_)
  · refine J.weak [0, 1, 2] rfl ?_
    exact kt c
  · exact kf c
theorem bX12_addPlace_29 {Z : ZT} {X : XT} {μ : Mu} {a1 : Int32} {a2 : Int32} {a3 : Int32} (E : Ent Z X mX12_addPlace 0 0)  (s1_ : vp_in (((a1 + (nI 1)) + ((nI 10) * a2)) + a3) 988)
    (k : JS Z X 45 [(0, .ref (Z.2.2.1 + 455)), (1, .int a1), (2, .int a2), (3, .int a3)] [] (uR μ 456 (upd (μ 456) (ix (((a1 + (nI 1)) + ((nI 10) * a2)) + a3)) (nI 0)))) :
    JS Z X 29 [(0, .ref (Z.2.2.1 + 455)), (1, .int a1), (2, .int a2), (3, .int a3)] [] μ := by
  refine J_aload_n E dX12_addPlace_29 rfl ?_
  refine S_get (ci := 12) (q := 0) (v := .ref (Z.2.2.1 + 456)) E dX12_addPlace_30 fs_X12_7 sh455 rfl ?_
  refine J_iload_n E dX12_addPlace_33 rfl ?_
  refine J_iconst (v := nI 1) E dX12_addPlace_34 rfl ?_
  refine J_iadd E dX12_addPlace_35 ?_
  refine J_bipush (v := nI 10) E dX12_addPlace_36 rfl ?_
  refine J_iload_n E dX12_addPlace_38 rfl ?_
  refine J_imul E dX12_addPlace_39 ?_
  refine J_iadd E dX12_addPlace_40 ?_
  refine J_iload_n E dX12_addPlace_41 rfl ?_
  refine J_iadd E dX12_addPlace_42 ?_
  refine J_iconst (v := nI 0) E dX12_addPlace_43 rfl ?_
  refine S_iast E dX12_addPlace_44 sh456 s1_ ?_
  exact k
theorem bX12_addPlace_45 {Z : ZT} {X : XT} {μ : Mu} {a1 : Int32} {a2 : Int32} {a3 : Int32} (E : Ent Z X mX12_addPlace 0 0)  (s1_ : vp_in (((a1 + (nI 1)) + ((nI 10) * a3)) + a2) 988)
    (k : JS Z X 61 [(0, .ref (Z.2.2.1 + 455)), (1, .int a1), (2, .int a2), (3, .int a3)] [] (uR μ 456 (upd (μ 456) (ix (((a1 + (nI 1)) + ((nI 10) * a3)) + a2)) (nI 0)))) :
    JS Z X 45 [(0, .ref (Z.2.2.1 + 455)), (1, .int a1), (2, .int a2), (3, .int a3)] [] μ := by
  refine J_aload_n E dX12_addPlace_45 rfl ?_
  refine S_get (ci := 12) (q := 0) (v := .ref (Z.2.2.1 + 456)) E dX12_addPlace_46 fs_X12_7 sh455 rfl ?_
  refine J_iload_n E dX12_addPlace_49 rfl ?_
  refine J_iconst (v := nI 1) E dX12_addPlace_50 rfl ?_
  refine J_iadd E dX12_addPlace_51 ?_
  refine J_bipush (v := nI 10) E dX12_addPlace_52 rfl ?_
  refine J_iload_n E dX12_addPlace_54 rfl ?_
  refine J_imul E dX12_addPlace_55 ?_
  refine J_iadd E dX12_addPlace_56 ?_
  refine J_iload_n E dX12_addPlace_57 rfl ?_
  refine J_iadd E dX12_addPlace_58 ?_
  refine J_iconst (v := nI 0) E dX12_addPlace_59 rfl ?_
  refine S_iast E dX12_addPlace_60 sh456 s1_ ?_
  exact k
theorem bX12_addPlace_61 {Z : ZT} {X : XT} {μ : Mu} {a1 : Int32} {a2 : Int32} {a3 : Int32} (E : Ent Z X mX12_addPlace 0 0)  
    (k : JS Z X 23 [(0, .ref (Z.2.2.1 + 455)), (1, .int a1), (2, .int a2), (3, .int (a3 + nI 1))] [] μ) :
    JS Z X 61 [(0, .ref (Z.2.2.1 + 455)), (1, .int a1), (2, .int a2), (3, .int a3)] [] μ := by
  refine J_iinc (v := a3 + nI 1) (lv' := [(0, .ref (Z.2.2.1 + 455)), (1, .int a1), (2, .int a2), (3, .int (a3 + nI 1))]) E dX12_addPlace_61 rfl rfl (Nat.le_of_ble_eq_true rfl) rfl ?_
  refine J_goto (tgt := 23) E dX12_addPlace_64 (by decide) ?_
  exact k
theorem bX12_addPlace_67 {Z : ZT} {X : XT} {μ : Mu} {a1 : Int32} {a2 : Int32} (E : Ent Z X mX12_addPlace 0 0)  (s1_ : vp_in ((a1 + (nI 101)) + a2) 988)
    (k : JS Z X 81 [(0, .ref (Z.2.2.1 + 455)), (1, .int a1), (2, .int a2)] [] (uR μ 456 (upd (μ 456) (ix ((a1 + (nI 101)) + a2)) ((nI 1) <<< (a2 &&& 31))))) :
    JS Z X 67 [(0, .ref (Z.2.2.1 + 455)), (1, .int a1), (2, .int a2)] [] μ := by
  refine J_aload_n E dX12_addPlace_67 rfl ?_
  refine S_get (ci := 12) (q := 0) (v := .ref (Z.2.2.1 + 456)) E dX12_addPlace_68 fs_X12_7 sh455 rfl ?_
  refine J_iload_n E dX12_addPlace_71 rfl ?_
  refine J_bipush (v := nI 101) E dX12_addPlace_72 rfl ?_
  refine J_iadd E dX12_addPlace_74 ?_
  refine J_iload_n E dX12_addPlace_75 rfl ?_
  refine J_iadd E dX12_addPlace_76 ?_
  refine J_iconst (v := nI 1) E dX12_addPlace_77 rfl ?_
  refine J_iload_n E dX12_addPlace_78 rfl ?_
  refine J_ishl E dX12_addPlace_79 ?_
  refine S_iast E dX12_addPlace_80 sh456 s1_ ?_
  exact k
theorem bX12_addPlace_81 {Z : ZT} {X : XT} {μ : Mu} {a1 : Int32} {a2 : Int32} (E : Ent Z X mX12_addPlace 0 0)  (s1_ : vp_in a1 988) (s2_ : vp_in a1 988)
    (k : JS Z X 91 [(2, .int a2)] [] (uR μ 456 (upd (μ 456) (ix a1) ((μ 456 (ix a1)) + (nI 1))))) :
    JS Z X 81 [(0, .ref (Z.2.2.1 + 455)), (1, .int a1), (2, .int a2)] [] μ := by
  refine J_aload_n E dX12_addPlace_81 rfl ?_
  refine S_get (ci := 12) (q := 0) (v := .ref (Z.2.2.1 + 456)) E dX12_addPlace_82 fs_X12_7 sh455 rfl ?_
  refine J_iload_n E dX12_addPlace_85 rfl ?_
  refine J_dup2_11 E dX12_addPlace_86 rfl rfl ?_
  refine S_iald E dX12_addPlace_87 sh456 s1_ ?_
  refine J_iconst (v := nI 1) E dX12_addPlace_88 rfl ?_
  refine J_iadd E dX12_addPlace_89 ?_
  refine S_iast E dX12_addPlace_90 sh456 s2_ ?_
  refine J.weak [2] rfl ?_
  exact k
theorem bX12_addPlace_91 {Z : ZT} {X : XT} {μ : Mu} {a2 : Int32} (E : Ent Z X mX12_addPlace 0 0) {P : Option Value → Mu → Prop} (hB : BodS Z X P) 
    (k : P (some (.int a2)) μ) :
    JS Z X 91 [(2, .int a2)] [] μ := by
  refine J_iload_n E dX12_addPlace_91 rfl ?_
  exact S_iret E hB dX12_addPlace_92 rfl k
theorem dX12_setWay_0 : decode cX12_setWay 0 = .ok (.aload_n 0, 1) := by decide +kernel
theorem dX12_setWay_1 : decode cX12_setWay 1 = .ok (.iload_n 1, 1) := by decide +kernel
theorem dX12_setWay_2 : decode cX12_setWay 2 = .ok (.iload_n 2, 1) := by decide +kernel
theorem dX12_setWay_3 : decode cX12_setWay 3 = .ok (.invokevirtual 71, 3) := by decide +kernel
theorem dX12_setWay_6 : decode cX12_setWay 6 = .ok (.ifCond .eq 28, 3) := by decide +kernel
theorem dX12_setWay_9 : decode cX12_setWay 9 = .ok (.aload_n 0, 1) := by decide +kernel
theorem dX12_setWay_10 : decode cX12_setWay 10 = .ok (.iload_n 1, 1) := by decide +kernel
theorem dX12_setWay_11 : decode cX12_setWay 11 = .ok (.iload_n 3, 1) := by decide +kernel
theorem dX12_setWay_12 : decode cX12_setWay 12 = .ok (.invokevirtual 71, 3) := by decide +kernel
theorem dX12_setWay_15 : decode cX12_setWay 15 = .ok (.ifCond .eq 19, 3) := by decide +kernel
theorem dX12_setWay_18 : decode cX12_setWay 18 = .ok (.iload_n 2, 1) := by decide +kernel
theorem dX12_setWay_19 : decode cX12_setWay 19 = .ok (.iload_n 3, 1) := by decide +kernel
theorem dX12_setWay_20 : decode cX12_setWay 20 = .ok (.if_icmp .eq 14, 3) := by decide +kernel
theorem dX12_setWay_23 : decode cX12_setWay 23 = .ok (.iload 4, 2) := by decide +kernel
theorem dX12_setWay_25 : decode cX12_setWay 25 = .ok (.iconst 0, 1) := by decide +kernel
theorem dX12_setWay_26 : decode cX12_setWay 26 = .ok (.bipush 9, 2) := by decide +kernel
theorem dX12_setWay_28 : decode cX12_setWay 28 = .ok (.invokestatic 67, 3) := by decide +kernel
theorem dX12_setWay_31 : decode cX12_setWay 31 = .ok (.ifCond .ne 6, 3) := by decide +kernel
theorem dX12_setWay_34 : decode cX12_setWay 34 = .ok (.bipush (-2), 2) := by decide +kernel
theorem dX12_setWay_36 : decode cX12_setWay 36 = .ok (.ireturn, 1) := by decide +kernel
theorem dX12_setWay_37 : decode cX12_setWay 37 = .ok (.aload_n 0, 1) := by decide +kernel
theorem dX12_setWay_38 : decode cX12_setWay 38 = .ok (.getfield 7, 3) := by decide +kernel
theorem dX12_setWay_41 : decode cX12_setWay 41 = .ok (.iload_n 1, 1) := by decide +kernel
theorem dX12_setWay_42 : decode cX12_setWay 42 = .ok (.iconst 1, 1) := by decide +kernel
theorem dX12_setWay_43 : decode cX12_setWay 43 = .ok (.iadd, 1) := by decide +kernel
theorem dX12_setWay_44 : decode cX12_setWay 44 = .ok (.bipush 10, 2) := by decide +kernel
theorem dX12_setWay_46 : decode cX12_setWay 46 = .ok (.iload_n 2, 1) := by decide +kernel
theorem dX12_setWay_47 : decode cX12_setWay 47 = .ok (.imul, 1) := by decide +kernel
theorem dX12_setWay_48 : decode cX12_setWay 48 = .ok (.iadd, 1) := by decide +kernel
theorem dX12_setWay_49 : decode cX12_setWay 49 = .ok (.iload_n 3, 1) := by decide +kernel
theorem dX12_setWay_50 : decode cX12_setWay 50 = .ok (.iadd, 1) := by decide +kernel
theorem dX12_setWay_51 : decode cX12_setWay 51 = .ok (.iaload, 1) := by decide +kernel
theorem dX12_setWay_52 : decode cX12_setWay 52 = .ok (.istore 5, 2) := by decide +kernel
theorem dX12_setWay_54 : decode cX12_setWay 54 = .ok (.aload_n 0, 1) := by decide +kernel
theorem dX12_setWay_55 : decode cX12_setWay 55 = .ok (.getfield 7, 3) := by decide +kernel
theorem dX12_setWay_58 : decode cX12_setWay 58 = .ok (.iload_n 1, 1) := by decide +kernel
theorem dX12_setWay_59 : decode cX12_setWay 59 = .ok (.iconst 1, 1) := by decide +kernel
theorem dX12_setWay_60 : decode cX12_setWay 60 = .ok (.iadd, 1) := by decide +kernel
theorem dX12_setWay_61 : decode cX12_setWay 61 = .ok (.bipush 10, 2) := by decide +kernel
theorem dX12_setWay_63 : decode cX12_setWay 63 = .ok (.iload_n 2, 1) := by decide +kernel
theorem dX12_setWay_64 : decode cX12_setWay 64 = .ok (.imul, 1) := by decide +kernel
theorem dX12_setWay_65 : decode cX12_setWay 65 = .ok (.iadd, 1) := by decide +kernel
theorem dX12_setWay_66 : decode cX12_setWay 66 = .ok (.iload_n 3, 1) := by decide +kernel
theorem dX12_setWay_67 : decode cX12_setWay 67 = .ok (.iadd, 1) := by decide +kernel
theorem dX12_setWay_68 : decode cX12_setWay 68 = .ok (.iload 4, 2) := by decide +kernel
theorem dX12_setWay_70 : decode cX12_setWay 70 = .ok (.iastore, 1) := by decide +kernel
theorem dX12_setWay_71 : decode cX12_setWay 71 = .ok (.aload_n 0, 1) := by decide +kernel
theorem dX12_setWay_72 : decode cX12_setWay 72 = .ok (.getfield 7, 3) := by decide +kernel
theorem dX12_setWay_75 : decode cX12_setWay 75 = .ok (.iload_n 1, 1) := by decide +kernel
theorem dX12_setWay_76 : decode cX12_setWay 76 = .ok (.iconst 1, 1) := by decide +kernel
theorem dX12_setWay_77 : decode cX12_setWay 77 = .ok (.iadd, 1) := by decide +kernel
theorem dX12_setWay_78 : decode cX12_setWay 78 = .ok (.bipush 10, 2) := by decide +kernel
theorem dX12_setWay_80 : decode cX12_setWay 80 = .ok (.iload_n 3, 1) := by decide +kernel
theorem dX12_setWay_81 : decode cX12_setWay 81 = .ok (.imul, 1) := by decide +kernel
theorem dX12_setWay_82 : decode cX12_setWay 82 = .ok (.iadd, 1) := by decide +kernel
theorem dX12_setWay_83 : decode cX12_setWay 83 = .ok (.iload_n 2, 1) := by decide +kernel
theorem dX12_setWay_84 : decode cX12_setWay 84 = .ok (.iadd, 1) := by decide +kernel
theorem dX12_setWay_85 : decode cX12_setWay 85 = .ok (.iload 4, 2) := by decide +kernel
theorem dX12_setWay_87 : decode cX12_setWay 87 = .ok (.iastore, 1) := by decide +kernel
theorem dX12_setWay_88 : decode cX12_setWay 88 = .ok (.iload 5, 2) := by decide +kernel
theorem dX12_setWay_90 : decode cX12_setWay 90 = .ok (.ireturn, 1) := by decide +kernel
theorem bX12_setWay_0 {Z : ZT} {X : XT} {μ : Mu} {a1 : Int32} {a2 : Int32} {a3 : Int32} {a4 : Int32} (E : Ent Z X mX12_setWay 0 0) {p : Int32 → Mu → Prop} 
    (c : CtrS Z mX12_isPlace [.ref (Z.2.2.1 + 455), .int a1, .int a2] μ (rI p)) (k : ∀ v μ1, p v μ1 → JS Z X 6 [(0, .ref (Z.2.2.1 + 455)), (1, .int a1), (2, .int a2), (3, .int a3), (4, .int a4)] [.int v] μ1) :
    JS Z X 0 [(0, .ref (Z.2.2.1 + 455)), (1, .int a1), (2, .int a2), (3, .int a3), (4, .int a4)] [] μ := by
  refine J_aload_n E dX12_setWay_0 rfl ?_
  refine J_iload_n E dX12_setWay_1 rfl ?_
  refine J_iload_n E dX12_setWay_2 rfl ?_
  refine S_callV (As := [.int a1, .int a2]) (rest := []) E dX12_setWay_3 c kX12_isPlace ⟨Nat.le_of_ble_eq_true rfl, Nat.le_of_ble_eq_true rfl⟩ rfl (Nat.le_of_ble_eq_true rfl) sh455 rfl rfl w6_63 w6_65 wp_32 (fun r_ μ1 hp_ => ?_)
  obtain ⟨v, rfl, hp_⟩ := hp_
  exact k v μ1 hp_
theorem bX12_setWay_6 {Z : ZT} {X : XT} {μ : Mu} {a1 : Int32} {a2 : Int32} {a3 : Int32} {a4 : Int32} {s0 : Int32} (E : Ent Z X mX12_setWay 0 0)  
    (kt : s0 = 0 → JS Z X 34 [] [] μ) (kf : ¬ (s0 = 0) → JS Z X 9 [(0, .ref (Z.2.2.1 + 455)), (1, .int a1), (2, .int a2), (3, .int a3), (4, .int a4)] [] μ) :
    JS Z X 6 [(0, .ref (Z.2.2.1 + 455)), (1, .int a1), (2, .int a2), (3, .int a3), (4, .int a4)] [.int s0] μ := by
  refine J_if_eq (tgt := 34) E dX12_setWay_6 (by decide) (fun c => ?_) (fun c => ?_)
  · refine J.weak [] rfl ?_
    exact kt c
  · exact kf c
theorem bX12_setWay_9 {Z : ZT} {X : XT} {μ : Mu} {a1 : Int32} {a2 : Int32} {a3 : Int32} {a4 : Int32} (E : Ent Z X mX12_setWay 0 0) {p : Int32 → Mu → Prop} 
    (c : CtrS Z mX12_isPlace [.ref (Z.2.2.1 + 455), .int a1, .int a3] μ (rI p)) (k : ∀ v μ1, p v μ1 → JS Z X 15 [(0, .ref (Z.2.2.1 + 455)), (1, .int a1), (2, .int a2), (3, .int a3), (4, .int a4)] [.int v] μ1) :
    JS Z X 9 [(0, .ref (Z.2.2.1 + 455)), (1, .int a1), (2, .int a2), (3, .int a3), (4, .int a4)] [] μ := by
  refine J_aload_n E dX12_setWay_9 rfl ?_
  refine J_iload_n E dX12_setWay_10 rfl ?_
  refine J_iload_n E dX12_setWay_11 rfl ?_
  refine S_callV (As := [.int a1, .int a3]) (rest := []) E dX12_setWay_12 c kX12_isPlace ⟨Nat.le_of_ble_eq_true rfl, Nat.le_of_ble_eq_true rfl⟩ rfl (Nat.le_of_ble_eq_true rfl) sh455 rfl rfl w6_63 w6_65 wp_32 (fun r_ μ1 hp_ => ?_)
  obtain ⟨v, rfl, hp_⟩ := hp_
  exact k v μ1 hp_
theorem bX12_setWay_15 {Z : ZT} {X : XT} {μ : Mu} {a1 : Int32} {a2 : Int32} {a3 : Int32} {a4 : Int32} {s0 : Int32} (E : Ent Z X mX12_setWay 0 0)  
    (kt : s0 = 0 → JS Z X 34 [] [] μ) (kf : ¬ (s0 = 0) → JS Z X 18 [(0, .ref (Z.2.2.1 + 455)), (1, .int a1), (2, .int a2), (3, .int a3), (4, .int a4)] [] μ) :
    JS Z X 15 [(0, .ref (Z.2.2.1 + 455)), (1, .int a1), (2, .int a2), (3, .int a3), (4, .int a4)] [.int s0] μ := by
  refine J_if_eq (tgt := 34) E dX12_setWay_15 (by decide) (fun c => ?_) (fun c => ?_)
  · refine J.weak [] rfl ?_
    exact kt c
  · exact kf c
theorem bX12_setWay_18 {Z : ZT} {X : XT} {μ : Mu} {a1 : Int32} {a2 : Int32} {a3 : Int32} {a4 : Int32} (E : Ent Z X mX12_setWay 0 0)  
    (kt : a2 = a3 → JS Z X 34 [] [] μ) (kf : ¬ (a2 = a3) → JS Z X 23 [(0, .ref (Z.2.2.1 + 455)), (1, .int a1), (2, .int a2), (3, .int a3), (4, .int a4)] [] μ) :
    JS Z X 18 [(0, .ref (Z.2.2.1 + 455)), (1, .int a1), (2, .int a2), (3, .int a3), (4, .int a4)] [] μ := by
  refine J_iload_n E dX12_setWay_18 rfl ?_
  refine J_iload_n E dX12_setWay_19 rfl ?_
  refine J_icmp_eq (tgt := 34) E dX12_setWay_20 (by decide) (fun c => ?_) (fun c => ?_)
  · refine J.weak [] rfl ?_
    exact kt c
  · exact kf c
theorem bX12_setWay_23 {Z : ZT} {X : XT} {μ : Mu} {a1 : Int32} {a2 : Int32} {a3 : Int32} {a4 : Int32} (E : Ent Z X mX12_setWay 0 0) {p : Int32 → Mu → Prop} 
    (c : CtrS Z mX12_in [.int a4, .int (nI 0), .int (nI 9)] μ (rI p)) (k : ∀ v μ1, p v μ1 → JS Z X 31 [(0, .ref (Z.2.2.1 + 455)), (1, .int a1), (2, .int a2), (3, .int a3), (4, .int a4)] [.int v] μ1) :
    JS Z X 23 [(0, .ref (Z.2.2.1 + 455)), (1, .int a1), (2, .int a2), (3, .int a3), (4, .int a4)] [] μ := by
  refine J_iload E dX12_setWay_23 rfl ?_
  refine J_iconst (v := nI 0) E dX12_setWay_25 rfl ?_
  refine J_bipush (v := nI 9) E dX12_setWay_26 rfl ?_
  refine S_callS (As := [.int a4, .int (nI 0), .int (nI 9)]) (rest := []) E dX12_setWay_28 c kX12_in ⟨Nat.le_of_ble_eq_true rfl, Nat.le_of_ble_eq_true rfl⟩ rfl (Nat.le_of_ble_eq_true rfl) w6_67 w6_68 (fun r_ μ1 hp_ => ?_)
  obtain ⟨v, rfl, hp_⟩ := hp_
  exact k v μ1 hp_
theorem bX12_setWay_31 {Z : ZT} {X : XT} {μ : Mu} {a1 : Int32} {a2 : Int32} {a3 : Int32} {a4 : Int32} {s0 : Int32} (E : Ent Z X mX12_setWay 0 0)  
    (kt : ¬ s0 = 0 → JS Z X 37 [(0, .ref (Z.2.2.1 + 455)), (1, .int a1), (2, .int a2), (3, .int a3), (4, .int a4)] [] μ) (kf : s0 = 0 → JS Z X 34 [] [] μ) :
    JS Z X 31 [(0, .ref (Z.2.2.1 + 455)), (1, .int a1), (2, .int a2), (3, .int a3), (4, .int a4)] [.int s0] μ := by
  refine J_if_ne (tgt := 37) E dX12_setWay_31 (by decide) (fun c => ?_) (fun c => ?_)
  · exact kt c
  · refine J.weak [] rfl ?_
    exact kf c
theorem bX12_setWay_34 {Z : ZT} {X : XT} {μ : Mu} (E : Ent Z X mX12_setWay 0 0) {P : Option Value → Mu → Prop} (hB : BodS Z X P) 
    (k : P (some (.int (-2))) μ) :
    JS Z X 34 [] [] μ := by
  refine J_bipush (v := -2) E dX12_setWay_34 rfl ?_
  exact S_iret E hB dX12_setWay_36 rfl k
theorem bX12_setWay_37 {Z : ZT} {X : XT} {μ : Mu} {a1 : Int32} {a2 : Int32} {a3 : Int32} {a4 : Int32} (E : Ent Z X mX12_setWay 0 0)  (s1_ : vp_in (((a1 + (nI 1)) + ((nI 10) * a2)) + a3) 988) (s2_ : vp_in (((a1 + (nI 1)) + ((nI 10) * a2)) + a3) 988)
    (k : JS Z X 71 [(0, .ref (Z.2.2.1 + 455)), (1, .int a1), (2, .int a2), (3, .int a3), (4, .int a4), (5, .int (μ 456 (ix (((a1 + (nI 1)) + ((nI 10) * a2)) + a3))))] [] (uR μ 456 (upd (μ 456) (ix (((a1 + (nI 1)) + ((nI 10) * a2)) + a3)) a4))) :
    JS Z X 37 [(0, .ref (Z.2.2.1 + 455)), (1, .int a1), (2, .int a2), (3, .int a3), (4, .int a4)] [] μ := by
  refine J_aload_n E dX12_setWay_37 rfl ?_
  refine S_get (ci := 12) (q := 0) (v := .ref (Z.2.2.1 + 456)) E dX12_setWay_38 fs_X12_7 sh455 rfl ?_
  refine J_iload_n E dX12_setWay_41 rfl ?_
  refine J_iconst (v := nI 1) E dX12_setWay_42 rfl ?_
  refine J_iadd E dX12_setWay_43 ?_
  refine J_bipush (v := nI 10) E dX12_setWay_44 rfl ?_
  refine J_iload_n E dX12_setWay_46 rfl ?_
  refine J_imul E dX12_setWay_47 ?_
  refine J_iadd E dX12_setWay_48 ?_
  refine J_iload_n E dX12_setWay_49 rfl ?_
  refine J_iadd E dX12_setWay_50 ?_
  refine S_iald E dX12_setWay_51 sh456 s1_ ?_
  refine J_istore (lv' := [(0, .ref (Z.2.2.1 + 455)), (1, .int a1), (2, .int a2), (3, .int a3), (4, .int a4), (5, .int (μ 456 (ix (((a1 + (nI 1)) + ((nI 10) * a2)) + a3))))]) E dX12_setWay_52 (Nat.le_of_ble_eq_true rfl) rfl ?_
  refine J_aload_n E dX12_setWay_54 rfl ?_
  refine S_get (ci := 12) (q := 0) (v := .ref (Z.2.2.1 + 456)) E dX12_setWay_55 fs_X12_7 sh455 rfl ?_
  refine J_iload_n E dX12_setWay_58 rfl ?_
  refine J_iconst (v := nI 1) E dX12_setWay_59 rfl ?_
  refine J_iadd E dX12_setWay_60 ?_
  refine J_bipush (v := nI 10) E dX12_setWay_61 rfl ?_
  refine J_iload_n E dX12_setWay_63 rfl ?_
  refine J_imul E dX12_setWay_64 ?_
  refine J_iadd E dX12_setWay_65 ?_
  refine J_iload_n E dX12_setWay_66 rfl ?_
  refine J_iadd E dX12_setWay_67 ?_
  refine J_iload E dX12_setWay_68 rfl ?_
  refine S_iast E dX12_setWay_70 sh456 s2_ ?_
  exact k
theorem bX12_setWay_71 {Z : ZT} {X : XT} {μ : Mu} {a1 : Int32} {a2 : Int32} {a3 : Int32} {a4 : Int32} {a5 : Int32} (E : Ent Z X mX12_setWay 0 0)  (s1_ : vp_in (((a1 + (nI 1)) + ((nI 10) * a3)) + a2) 988)
    (k : JS Z X 88 [(5, .int a5)] [] (uR μ 456 (upd (μ 456) (ix (((a1 + (nI 1)) + ((nI 10) * a3)) + a2)) a4))) :
    JS Z X 71 [(0, .ref (Z.2.2.1 + 455)), (1, .int a1), (2, .int a2), (3, .int a3), (4, .int a4), (5, .int a5)] [] μ := by
  refine J_aload_n E dX12_setWay_71 rfl ?_
  refine S_get (ci := 12) (q := 0) (v := .ref (Z.2.2.1 + 456)) E dX12_setWay_72 fs_X12_7 sh455 rfl ?_
  refine J_iload_n E dX12_setWay_75 rfl ?_
  refine J_iconst (v := nI 1) E dX12_setWay_76 rfl ?_
  refine J_iadd E dX12_setWay_77 ?_
  refine J_bipush (v := nI 10) E dX12_setWay_78 rfl ?_
  refine J_iload_n E dX12_setWay_80 rfl ?_
  refine J_imul E dX12_setWay_81 ?_
  refine J_iadd E dX12_setWay_82 ?_
  refine J_iload_n E dX12_setWay_83 rfl ?_
  refine J_iadd E dX12_setWay_84 ?_
  refine J_iload E dX12_setWay_85 rfl ?_
  refine S_iast E dX12_setWay_87 sh456 s1_ ?_
  refine J.weak [5] rfl ?_
  exact k
theorem bX12_setWay_88 {Z : ZT} {X : XT} {μ : Mu} {a5 : Int32} (E : Ent Z X mX12_setWay 0 0) {P : Option Value → Mu → Prop} (hB : BodS Z X P) 
    (k : P (some (.int a5)) μ) :
    JS Z X 88 [(5, .int a5)] [] μ := by
  refine J_iload E dX12_setWay_88 rfl ?_
  exact S_iret E hB dX12_setWay_90 rfl k
theorem dX12_mark_0 : decode cX12_mark 0 = .ok (.aload_n 0, 1) := by decide +kernel
theorem dX12_mark_1 : decode cX12_mark 1 = .ok (.getfield 7, 3) := by decide +kernel
theorem dX12_mark_4 : decode cX12_mark 4 = .ok (.iload_n 1, 1) := by decide +kernel
theorem dX12_mark_5 : decode cX12_mark 5 = .ok (.iaload, 1) := by decide +kernel
theorem dX12_mark_6 : decode cX12_mark 6 = .ok (.iload_n 2, 1) := by decide +kernel
theorem dX12_mark_7 : decode cX12_mark 7 = .ok (.ishr, 1) := by decide +kernel
theorem dX12_mark_8 : decode cX12_mark 8 = .ok (.iconst 1, 1) := by decide +kernel
theorem dX12_mark_9 : decode cX12_mark 9 = .ok (.iand, 1) := by decide +kernel
theorem dX12_mark_10 : decode cX12_mark 10 = .ok (.iconst 1, 1) := by decide +kernel
theorem dX12_mark_11 : decode cX12_mark 11 = .ok (.if_icmp .ne 6, 3) := by decide +kernel
theorem dX12_mark_14 : decode cX12_mark 14 = .ok (.bipush (-3), 2) := by decide +kernel
theorem dX12_mark_16 : decode cX12_mark 16 = .ok (.ireturn, 1) := by decide +kernel
theorem dX12_mark_17 : decode cX12_mark 17 = .ok (.aload_n 0, 1) := by decide +kernel
theorem dX12_mark_18 : decode cX12_mark 18 = .ok (.getfield 7, 3) := by decide +kernel
theorem dX12_mark_21 : decode cX12_mark 21 = .ok (.iload_n 1, 1) := by decide +kernel
theorem dX12_mark_22 : decode cX12_mark 22 = .ok (.dup2, 1) := by decide +kernel
theorem dX12_mark_23 : decode cX12_mark 23 = .ok (.iaload, 1) := by decide +kernel
theorem dX12_mark_24 : decode cX12_mark 24 = .ok (.iconst 1, 1) := by decide +kernel
theorem dX12_mark_25 : decode cX12_mark 25 = .ok (.iload_n 2, 1) := by decide +kernel
theorem dX12_mark_26 : decode cX12_mark 26 = .ok (.ishl, 1) := by decide +kernel
theorem dX12_mark_27 : decode cX12_mark 27 = .ok (.ior, 1) := by decide +kernel
theorem dX12_mark_28 : decode cX12_mark 28 = .ok (.iastore, 1) := by decide +kernel
theorem dX12_mark_29 : decode cX12_mark 29 = .ok (.iconst 1, 1) := by decide +kernel
theorem dX12_mark_30 : decode cX12_mark 30 = .ok (.ireturn, 1) := by decide +kernel
theorem bX12_mark_0 {Z : ZT} {X : XT} {μ : Mu} {a1 : Int32} {a2 : Int32} (E : Ent Z X mX12_mark 0 0)  (s1_ : vp_in a1 988)
    (kt : ¬ (((μ 456 (ix a1)) >>> (a2 &&& 31)) &&& (nI 1)) = (nI 1) → JS Z X 17 [(0, .ref (Z.2.2.1 + 455)), (1, .int a1), (2, .int a2)] [] μ) (kf : (((μ 456 (ix a1)) >>> (a2 &&& 31)) &&& (nI 1)) = (nI 1) → JS Z X 14 [] [] μ) :
    JS Z X 0 [(0, .ref (Z.2.2.1 + 455)), (1, .int a1), (2, .int a2)] [] μ := by
  refine J_aload_n E dX12_mark_0 rfl ?_
  refine S_get (ci := 12) (q := 0) (v := .ref (Z.2.2.1 + 456)) E dX12_mark_1 fs_X12_7 sh455 rfl ?_
  refine J_iload_n E dX12_mark_4 rfl ?_
  refine S_iald E dX12_mark_5 sh456 s1_ ?_
  refine J_iload_n E dX12_mark_6 rfl ?_
  refine J_ishr E dX12_mark_7 ?_
  refine J_iconst (v := nI 1) E dX12_mark_8 rfl ?_
  refine J_iand E dX12_mark_9 ?_
  refine J_iconst (v := nI 1) E dX12_mark_10 rfl ?_
  refine J_icmp_ne (tgt := 17) E dX12_mark_11 (by decide) (fun c => ?_) (fun c => ?_)
  · exact kt c
  · refine J.weak [] rfl ?_
    exact kf c
theorem bX12_mark_14 {Z : ZT} {X : XT} {μ : Mu} (E : Ent Z X mX12_mark 0 0) {P : Option Value → Mu → Prop} (hB : BodS Z X P) 
    (k : P (some (.int (-3))) μ) :
    JS Z X 14 [] [] μ := by
  refine J_bipush (v := -3) E dX12_mark_14 rfl ?_
  exact S_iret E hB dX12_mark_16 rfl k
theorem bX12_mark_17 {Z : ZT} {X : XT} {μ : Mu} {a1 : Int32} {a2 : Int32} (E : Ent Z X mX12_mark 0 0)  (s1_ : vp_in a1 988) (s2_ : vp_in a1 988)
    (k : JS Z X 29 [] [] (uR μ 456 (upd (μ 456) (ix a1) ((μ 456 (ix a1)) ||| ((nI 1) <<< (a2 &&& 31)))))) :
    JS Z X 17 [(0, .ref (Z.2.2.1 + 455)), (1, .int a1), (2, .int a2)] [] μ := by
  refine J_aload_n E dX12_mark_17 rfl ?_
  refine S_get (ci := 12) (q := 0) (v := .ref (Z.2.2.1 + 456)) E dX12_mark_18 fs_X12_7 sh455 rfl ?_
  refine J_iload_n E dX12_mark_21 rfl ?_
  refine J_dup2_11 E dX12_mark_22 rfl rfl ?_
  refine S_iald E dX12_mark_23 sh456 s1_ ?_
  refine J_iconst (v := nI 1) E dX12_mark_24 rfl ?_
  refine J_iload_n E dX12_mark_25 rfl ?_
  refine J_ishl E dX12_mark_26 ?_
  refine J_ior E dX12_mark_27 ?_
  refine S_iast E dX12_mark_28 sh456 s2_ ?_
  refine J.weak [] rfl ?_
  exact k
theorem bX12_mark_29 {Z : ZT} {X : XT} {μ : Mu} (E : Ent Z X mX12_mark 0 0) {P : Option Value → Mu → Prop} (hB : BodS Z X P) 
    (k : P (some (.int (nI 1))) μ) :
    JS Z X 29 [] [] μ := by
  refine J_iconst (v := nI 1) E dX12_mark_29 rfl ?_
  exact S_iret E hB dX12_mark_30 rfl k
theorem dX12_setSeen_0 : decode cX12_setSeen 0 = .ok (.aload_n 0, 1) := by decide +kernel
theorem dX12_setSeen_1 : decode cX12_setSeen 1 = .ok (.iload_n 1, 1) := by decide +kernel
theorem dX12_setSeen_2 : decode cX12_setSeen 2 = .ok (.iload_n 2, 1) := by decide +kernel
theorem dX12_setSeen_3 : decode cX12_setSeen 3 = .ok (.invokevirtual 71, 3) := by decide +kernel
theorem dX12_setSeen_6 : decode cX12_setSeen 6 = .ok (.ifCond .eq 31, 3) := by decide +kernel
theorem dX12_setSeen_9 : decode cX12_setSeen 9 = .ok (.aload_n 0, 1) := by decide +kernel
theorem dX12_setSeen_10 : decode cX12_setSeen 10 = .ok (.iload_n 1, 1) := by decide +kernel
theorem dX12_setSeen_11 : decode cX12_setSeen 11 = .ok (.iload_n 3, 1) := by decide +kernel
theorem dX12_setSeen_12 : decode cX12_setSeen 12 = .ok (.invokevirtual 71, 3) := by decide +kernel
theorem dX12_setSeen_15 : decode cX12_setSeen 15 = .ok (.ifCond .eq 22, 3) := by decide +kernel
theorem dX12_setSeen_18 : decode cX12_setSeen 18 = .ok (.iload_n 2, 1) := by decide +kernel
theorem dX12_setSeen_19 : decode cX12_setSeen 19 = .ok (.iload_n 3, 1) := by decide +kernel
theorem dX12_setSeen_20 : decode cX12_setSeen 20 = .ok (.if_icmp .eq 17, 3) := by decide +kernel
theorem dX12_setSeen_23 : decode cX12_setSeen 23 = .ok (.aload_n 0, 1) := by decide +kernel
theorem dX12_setSeen_24 : decode cX12_setSeen 24 = .ok (.iload_n 1, 1) := by decide +kernel
theorem dX12_setSeen_25 : decode cX12_setSeen 25 = .ok (.bipush 101, 2) := by decide +kernel
theorem dX12_setSeen_27 : decode cX12_setSeen 27 = .ok (.iadd, 1) := by decide +kernel
theorem dX12_setSeen_28 : decode cX12_setSeen 28 = .ok (.iload_n 2, 1) := by decide +kernel
theorem dX12_setSeen_29 : decode cX12_setSeen 29 = .ok (.iadd, 1) := by decide +kernel
theorem dX12_setSeen_30 : decode cX12_setSeen 30 = .ok (.iload_n 3, 1) := by decide +kernel
theorem dX12_setSeen_31 : decode cX12_setSeen 31 = .ok (.invokevirtual 75, 3) := by decide +kernel
theorem dX12_setSeen_34 : decode cX12_setSeen 34 = .ok (.goto 5, 3) := by decide +kernel
theorem dX12_setSeen_37 : decode cX12_setSeen 37 = .ok (.bipush (-2), 2) := by decide +kernel
theorem dX12_setSeen_39 : decode cX12_setSeen 39 = .ok (.ireturn, 1) := by decide +kernel
theorem bX12_setSeen_0 {Z : ZT} {X : XT} {μ : Mu} {a1 : Int32} {a2 : Int32} {a3 : Int32} (E : Ent Z X mX12_setSeen 0 0) {p : Int32 → Mu → Prop} 
    (c : CtrS Z mX12_isPlace [.ref (Z.2.2.1 + 455), .int a1, .int a2] μ (rI p)) (k : ∀ v μ1, p v μ1 → JS Z X 6 [(0, .ref (Z.2.2.1 + 455)), (1, .int a1), (2, .int a2), (3, .int a3)] [.int v] μ1) :
    JS Z X 0 [(0, .ref (Z.2.2.1 + 455)), (1, .int a1), (2, .int a2), (3, .int a3)] [] μ := by
  refine J_aload_n E dX12_setSeen_0 rfl ?_
  refine J_iload_n E dX12_setSeen_1 rfl ?_
  refine J_iload_n E dX12_setSeen_2 rfl ?_
  refine S_callV (As := [.int a1, .int a2]) (rest := []) E dX12_setSeen_3 c kX12_isPlace ⟨Nat.le_of_ble_eq_true rfl, Nat.le_of_ble_eq_true rfl⟩ rfl (Nat.le_of_ble_eq_true rfl) sh455 rfl rfl w6_63 w6_65 wp_32 (fun r_ μ1 hp_ => ?_)
  obtain ⟨v, rfl, hp_⟩ := hp_
  exact k v μ1 hp_
theorem bX12_setSeen_6 {Z : ZT} {X : XT} {μ : Mu} {a1 : Int32} {a2 : Int32} {a3 : Int32} {s0 : Int32} (E : Ent Z X mX12_setSeen 0 0)  
    (kt : s0 = 0 → JS Z X 37 [] [] μ) (kf : ¬ (s0 = 0) → JS Z X 9 [(0, .ref (Z.2.2.1 + 455)), (1, .int a1), (2, .int a2), (3, .int a3)] [] μ) :
    JS Z X 6 [(0, .ref (Z.2.2.1 + 455)), (1, .int a1), (2, .int a2), (3, .int a3)] [.int s0] μ := by
  refine J_if_eq (tgt := 37) E dX12_setSeen_6 (by decide) (fun c => ?_) (fun c => ?_)
  · refine J.weak [] rfl ?_
    exact kt c
  · exact kf c
theorem bX12_setSeen_9 {Z : ZT} {X : XT} {μ : Mu} {a1 : Int32} {a2 : Int32} {a3 : Int32} (E : Ent Z X mX12_setSeen 0 0) {p : Int32 → Mu → Prop} 
    (c : CtrS Z mX12_isPlace [.ref (Z.2.2.1 + 455), .int a1, .int a3] μ (rI p)) (k : ∀ v μ1, p v μ1 → JS Z X 15 [(0, .ref (Z.2.2.1 + 455)), (1, .int a1), (2, .int a2), (3, .int a3)] [.int v] μ1) :
    JS Z X 9 [(0, .ref (Z.2.2.1 + 455)), (1, .int a1), (2, .int a2), (3, .int a3)] [] μ := by
  refine J_aload_n E dX12_setSeen_9 rfl ?_
  refine J_iload_n E dX12_setSeen_10 rfl ?_
  refine J_iload_n E dX12_setSeen_11 rfl ?_
  refine S_callV (As := [.int a1, .int a3]) (rest := []) E dX12_setSeen_12 c kX12_isPlace ⟨Nat.le_of_ble_eq_true rfl, Nat.le_of_ble_eq_true rfl⟩ rfl (Nat.le_of_ble_eq_true rfl) sh455 rfl rfl w6_63 w6_65 wp_32 (fun r_ μ1 hp_ => ?_)
  obtain ⟨v, rfl, hp_⟩ := hp_
  exact k v μ1 hp_
theorem bX12_setSeen_15 {Z : ZT} {X : XT} {μ : Mu} {a1 : Int32} {a2 : Int32} {a3 : Int32} {s0 : Int32} (E : Ent Z X mX12_setSeen 0 0)  
    (kt : s0 = 0 → JS Z X 37 [] [] μ) (kf : ¬ (s0 = 0) → JS Z X 18 [(0, .ref (Z.2.2.1 + 455)), (1, .int a1), (2, .int a2), (3, .int a3)] [] μ) :
    JS Z X 15 [(0, .ref (Z.2.2.1 + 455)), (1, .int a1), (2, .int a2), (3, .int a3)] [.int s0] μ := by
  refine J_if_eq (tgt := 37) E dX12_setSeen_15 (by decide) (fun c => ?_) (fun c => ?_)
  · refine J.weak [] rfl ?_
    exact kt c
  · exact kf c
theorem bX12_setSeen_18 {Z : ZT} {X : XT} {μ : Mu} {a1 : Int32} {a2 : Int32} {a3 : Int32} (E : Ent Z X mX12_setSeen 0 0)  
    (kt : a2 = a3 → JS Z X 37 [] [] μ) (kf : ¬ (a2 = a3) → JS Z X 23 [(0, .ref (Z.2.2.1 + 455)), (1, .int a1), (2, .int a2), (3, .int a3)] [] μ) :
    JS Z X 18 [(0, .ref (Z.2.2.1 + 455)), (1, .int a1), (2, .int a2), (3, .int a3)] [] μ := by
  refine J_iload_n E dX12_setSeen_18 rfl ?_
  refine J_iload_n E dX12_setSeen_19 rfl ?_
  refine J_icmp_eq (tgt := 37) E dX12_setSeen_20 (by decide) (fun c => ?_) (fun c => ?_)
  · refine J.weak [] rfl ?_
    exact kt c
  · exact kf c
theorem bX12_setSeen_23 {Z : ZT} {X : XT} {μ : Mu} {a1 : Int32} {a2 : Int32} {a3 : Int32} (E : Ent Z X mX12_setSeen 0 0) {p : Int32 → Mu → Prop} 
    (c : CtrS Z mX12_mark [.ref (Z.2.2.1 + 455), .int ((a1 + (nI 101)) + a2), .int a3] μ (rI p)) (k : ∀ v μ1, p v μ1 → JS Z X 34 [] [.int v] μ1) :
    JS Z X 23 [(0, .ref (Z.2.2.1 + 455)), (1, .int a1), (2, .int a2), (3, .int a3)] [] μ := by
  refine J_aload_n E dX12_setSeen_23 rfl ?_
  refine J_iload_n E dX12_setSeen_24 rfl ?_
  refine J_bipush (v := nI 101) E dX12_setSeen_25 rfl ?_
  refine J_iadd E dX12_setSeen_27 ?_
  refine J_iload_n E dX12_setSeen_28 rfl ?_
  refine J_iadd E dX12_setSeen_29 ?_
  refine J_iload_n E dX12_setSeen_30 rfl ?_
  refine S_callV (As := [.int ((a1 + (nI 101)) + a2), .int a3]) (rest := []) E dX12_setSeen_31 c kX12_mark ⟨Nat.le_of_ble_eq_true rfl, Nat.le_of_ble_eq_true rfl⟩ rfl (Nat.le_of_ble_eq_true rfl) sh455 rfl rfl w6_78 w6_80 wp_34 (fun r_ μ1 hp_ => ?_)
  obtain ⟨v, rfl, hp_⟩ := hp_
  refine J.weak [] rfl ?_
  exact k v μ1 hp_
theorem bX12_setSeen_34 {Z : ZT} {X : XT} {μ : Mu} {s0 : Int32} (E : Ent Z X mX12_setSeen 0 0)  
    (k : JS Z X 39 [] [.int s0] μ) :
    JS Z X 34 [] [.int s0] μ := by
  refine J_goto (tgt := 39) E dX12_setSeen_34 (by decide) ?_
  exact k
theorem bX12_setSeen_37 {Z : ZT} {X : XT} {μ : Mu} (E : Ent Z X mX12_setSeen 0 0)  
    (k : JS Z X 39 [] [.int (-2)] μ) :
    JS Z X 37 [] [] μ := by
  refine J_bipush (v := -2) E dX12_setSeen_37 rfl ?_
  exact k
theorem bX12_setSeen_39 {Z : ZT} {X : XT} {μ : Mu} {s0 : Int32} (E : Ent Z X mX12_setSeen 0 0) {P : Option Value → Mu → Prop} (hB : BodS Z X P) 
    (k : P (some (.int s0)) μ) :
    JS Z X 39 [] [.int s0] μ := by
  exact S_iret E hB dX12_setSeen_39 rfl k
theorem dX12_addChild_0 : decode cX12_addChild 0 = .ok (.iload_n 2, 1) := by decide +kernel
theorem dX12_addChild_1 : decode cX12_addChild 1 = .ok (.iconst 0, 1) := by decide +kernel
theorem dX12_addChild_2 : decode cX12_addChild 2 = .ok (.iconst 1, 1) := by decide +kernel
theorem dX12_addChild_3 : decode cX12_addChild 3 = .ok (.invokestatic 67, 3) := by decide +kernel
theorem dX12_addChild_6 : decode cX12_addChild 6 = .ok (.ifCond .eq 46, 3) := by decide +kernel
theorem dX12_addChild_9 : decode cX12_addChild 9 = .ok (.iload_n 3, 1) := by decide +kernel
theorem dX12_addChild_10 : decode cX12_addChild 10 = .ok (.iconst 0, 1) := by decide +kernel
theorem dX12_addChild_11 : decode cX12_addChild 11 = .ok (.bipush 9, 2) := by decide +kernel
theorem dX12_addChild_13 : decode cX12_addChild 13 = .ok (.invokestatic 67, 3) := by decide +kernel
theorem dX12_addChild_16 : decode cX12_addChild 16 = .ok (.ifCond .eq 36, 3) := by decide +kernel
theorem dX12_addChild_19 : decode cX12_addChild 19 = .ok (.iload 4, 2) := by decide +kernel
theorem dX12_addChild_21 : decode cX12_addChild 21 = .ok (.iconst 0, 1) := by decide +kernel
theorem dX12_addChild_22 : decode cX12_addChild 22 = .ok (.bipush 9, 2) := by decide +kernel
theorem dX12_addChild_24 : decode cX12_addChild 24 = .ok (.invokestatic 67, 3) := by decide +kernel
theorem dX12_addChild_27 : decode cX12_addChild 27 = .ok (.ifCond .eq 25, 3) := by decide +kernel
theorem dX12_addChild_30 : decode cX12_addChild 30 = .ok (.iload 5, 2) := by decide +kernel
theorem dX12_addChild_32 : decode cX12_addChild 32 = .ok (.iconst 0, 1) := by decide +kernel
theorem dX12_addChild_33 : decode cX12_addChild 33 = .ok (.bipush 9, 2) := by decide +kernel
theorem dX12_addChild_35 : decode cX12_addChild 35 = .ok (.invokestatic 67, 3) := by decide +kernel
theorem dX12_addChild_38 : decode cX12_addChild 38 = .ok (.ifCond .eq 14, 3) := by decide +kernel
theorem dX12_addChild_41 : decode cX12_addChild 41 = .ok (.iload 6, 2) := by decide +kernel
theorem dX12_addChild_43 : decode cX12_addChild 43 = .ok (.iconst 0, 1) := by decide +kernel
theorem dX12_addChild_44 : decode cX12_addChild 44 = .ok (.bipush 9, 2) := by decide +kernel
theorem dX12_addChild_46 : decode cX12_addChild 46 = .ok (.invokestatic 67, 3) := by decide +kernel
theorem dX12_addChild_49 : decode cX12_addChild 49 = .ok (.ifCond .ne 6, 3) := by decide +kernel
theorem dX12_addChild_52 : decode cX12_addChild 52 = .ok (.bipush (-2), 2) := by decide +kernel
theorem dX12_addChild_54 : decode cX12_addChild 54 = .ok (.ireturn, 1) := by decide +kernel
theorem dX12_addChild_55 : decode cX12_addChild 55 = .ok (.aload_n 0, 1) := by decide +kernel
theorem dX12_addChild_56 : decode cX12_addChild 56 = .ok (.getfield 7, 3) := by decide +kernel
theorem dX12_addChild_59 : decode cX12_addChild 59 = .ok (.iload_n 1, 1) := by decide +kernel
theorem dX12_addChild_60 : decode cX12_addChild 60 = .ok (.bipush 111, 2) := by decide +kernel
theorem dX12_addChild_62 : decode cX12_addChild 62 = .ok (.iadd, 1) := by decide +kernel
theorem dX12_addChild_63 : decode cX12_addChild 63 = .ok (.iaload, 1) := by decide +kernel
theorem dX12_addChild_64 : decode cX12_addChild 64 = .ok (.bipush 6, 2) := by decide +kernel
theorem dX12_addChild_66 : decode cX12_addChild 66 = .ok (.if_icmp .ne 6, 3) := by decide +kernel
theorem dX12_addChild_69 : decode cX12_addChild 69 = .ok (.bipush (-4), 2) := by decide +kernel
theorem dX12_addChild_71 : decode cX12_addChild 71 = .ok (.ireturn, 1) := by decide +kernel
theorem dX12_addChild_72 : decode cX12_addChild 72 = .ok (.aload_n 0, 1) := by decide +kernel
theorem dX12_addChild_73 : decode cX12_addChild 73 = .ok (.getfield 7, 3) := by decide +kernel
theorem dX12_addChild_76 : decode cX12_addChild 76 = .ok (.iload_n 1, 1) := by decide +kernel
theorem dX12_addChild_77 : decode cX12_addChild 77 = .ok (.bipush 111, 2) := by decide +kernel
theorem dX12_addChild_79 : decode cX12_addChild 79 = .ok (.iadd, 1) := by decide +kernel
theorem dX12_addChild_80 : decode cX12_addChild 80 = .ok (.iaload, 1) := by decide +kernel
theorem dX12_addChild_81 : decode cX12_addChild 81 = .ok (.istore 7, 2) := by decide +kernel
theorem dX12_addChild_83 : decode cX12_addChild 83 = .ok (.aload_n 0, 1) := by decide +kernel
theorem dX12_addChild_84 : decode cX12_addChild 84 = .ok (.getfield 7, 3) := by decide +kernel
theorem dX12_addChild_87 : decode cX12_addChild 87 = .ok (.iload_n 1, 1) := by decide +kernel
theorem dX12_addChild_88 : decode cX12_addChild 88 = .ok (.bipush 112, 2) := by decide +kernel
theorem dX12_addChild_90 : decode cX12_addChild 90 = .ok (.iadd, 1) := by decide +kernel
theorem dX12_addChild_91 : decode cX12_addChild 91 = .ok (.iload 7, 2) := by decide +kernel
theorem dX12_addChild_93 : decode cX12_addChild 93 = .ok (.iadd, 1) := by decide +kernel
theorem dX12_addChild_94 : decode cX12_addChild 94 = .ok (.iload_n 2, 1) := by decide +kernel
theorem dX12_addChild_95 : decode cX12_addChild 95 = .ok (.iastore, 1) := by decide +kernel
theorem dX12_addChild_96 : decode cX12_addChild 96 = .ok (.aload_n 0, 1) := by decide +kernel
theorem dX12_addChild_97 : decode cX12_addChild 97 = .ok (.getfield 7, 3) := by decide +kernel
theorem dX12_addChild_100 : decode cX12_addChild 100 = .ok (.iload_n 1, 1) := by decide +kernel
theorem dX12_addChild_101 : decode cX12_addChild 101 = .ok (.bipush 118, 2) := by decide +kernel
theorem dX12_addChild_103 : decode cX12_addChild 103 = .ok (.iadd, 1) := by decide +kernel
theorem dX12_addChild_104 : decode cX12_addChild 104 = .ok (.iconst 4, 1) := by decide +kernel
theorem dX12_addChild_105 : decode cX12_addChild 105 = .ok (.iload 7, 2) := by decide +kernel
theorem dX12_addChild_107 : decode cX12_addChild 107 = .ok (.imul, 1) := by decide +kernel
theorem dX12_addChild_108 : decode cX12_addChild 108 = .ok (.iadd, 1) := by decide +kernel
theorem dX12_addChild_109 : decode cX12_addChild 109 = .ok (.iload_n 3, 1) := by decide +kernel
theorem dX12_addChild_110 : decode cX12_addChild 110 = .ok (.iastore, 1) := by decide +kernel
theorem dX12_addChild_111 : decode cX12_addChild 111 = .ok (.aload_n 0, 1) := by decide +kernel
theorem dX12_addChild_112 : decode cX12_addChild 112 = .ok (.getfield 7, 3) := by decide +kernel
theorem dX12_addChild_115 : decode cX12_addChild 115 = .ok (.iload_n 1, 1) := by decide +kernel
theorem dX12_addChild_116 : decode cX12_addChild 116 = .ok (.bipush 118, 2) := by decide +kernel
theorem dX12_addChild_118 : decode cX12_addChild 118 = .ok (.iadd, 1) := by decide +kernel
theorem dX12_addChild_119 : decode cX12_addChild 119 = .ok (.iconst 4, 1) := by decide +kernel
theorem dX12_addChild_120 : decode cX12_addChild 120 = .ok (.iload 7, 2) := by decide +kernel
theorem dX12_addChild_122 : decode cX12_addChild 122 = .ok (.imul, 1) := by decide +kernel
theorem dX12_addChild_123 : decode cX12_addChild 123 = .ok (.iadd, 1) := by decide +kernel
theorem dX12_addChild_124 : decode cX12_addChild 124 = .ok (.iconst 1, 1) := by decide +kernel
theorem dX12_addChild_125 : decode cX12_addChild 125 = .ok (.iadd, 1) := by decide +kernel
theorem dX12_addChild_126 : decode cX12_addChild 126 = .ok (.iload 4, 2) := by decide +kernel
theorem dX12_addChild_128 : decode cX12_addChild 128 = .ok (.iastore, 1) := by decide +kernel
theorem dX12_addChild_129 : decode cX12_addChild 129 = .ok (.aload_n 0, 1) := by decide +kernel
theorem dX12_addChild_130 : decode cX12_addChild 130 = .ok (.getfield 7, 3) := by decide +kernel
theorem dX12_addChild_133 : decode cX12_addChild 133 = .ok (.iload_n 1, 1) := by decide +kernel
theorem dX12_addChild_134 : decode cX12_addChild 134 = .ok (.bipush 118, 2) := by decide +kernel
theorem dX12_addChild_136 : decode cX12_addChild 136 = .ok (.iadd, 1) := by decide +kernel
theorem dX12_addChild_137 : decode cX12_addChild 137 = .ok (.iconst 4, 1) := by decide +kernel
theorem dX12_addChild_138 : decode cX12_addChild 138 = .ok (.iload 7, 2) := by decide +kernel
theorem dX12_addChild_140 : decode cX12_addChild 140 = .ok (.imul, 1) := by decide +kernel
theorem dX12_addChild_141 : decode cX12_addChild 141 = .ok (.iadd, 1) := by decide +kernel
theorem dX12_addChild_142 : decode cX12_addChild 142 = .ok (.iconst 2, 1) := by decide +kernel
theorem dX12_addChild_143 : decode cX12_addChild 143 = .ok (.iadd, 1) := by decide +kernel
theorem dX12_addChild_144 : decode cX12_addChild 144 = .ok (.iload 5, 2) := by decide +kernel
theorem dX12_addChild_146 : decode cX12_addChild 146 = .ok (.iastore, 1) := by decide +kernel
theorem dX12_addChild_147 : decode cX12_addChild 147 = .ok (.aload_n 0, 1) := by decide +kernel
theorem dX12_addChild_148 : decode cX12_addChild 148 = .ok (.getfield 7, 3) := by decide +kernel
theorem dX12_addChild_151 : decode cX12_addChild 151 = .ok (.iload_n 1, 1) := by decide +kernel
theorem dX12_addChild_152 : decode cX12_addChild 152 = .ok (.bipush 118, 2) := by decide +kernel
theorem dX12_addChild_154 : decode cX12_addChild 154 = .ok (.iadd, 1) := by decide +kernel
theorem dX12_addChild_155 : decode cX12_addChild 155 = .ok (.iconst 4, 1) := by decide +kernel
theorem dX12_addChild_156 : decode cX12_addChild 156 = .ok (.iload 7, 2) := by decide +kernel
theorem dX12_addChild_158 : decode cX12_addChild 158 = .ok (.imul, 1) := by decide +kernel
theorem dX12_addChild_159 : decode cX12_addChild 159 = .ok (.iadd, 1) := by decide +kernel
theorem dX12_addChild_160 : decode cX12_addChild 160 = .ok (.iconst 3, 1) := by decide +kernel
theorem dX12_addChild_161 : decode cX12_addChild 161 = .ok (.iadd, 1) := by decide +kernel
theorem dX12_addChild_162 : decode cX12_addChild 162 = .ok (.iload 6, 2) := by decide +kernel
theorem dX12_addChild_164 : decode cX12_addChild 164 = .ok (.iastore, 1) := by decide +kernel
theorem dX12_addChild_165 : decode cX12_addChild 165 = .ok (.aload_n 0, 1) := by decide +kernel
theorem dX12_addChild_166 : decode cX12_addChild 166 = .ok (.getfield 7, 3) := by decide +kernel
theorem dX12_addChild_169 : decode cX12_addChild 169 = .ok (.iload_n 1, 1) := by decide +kernel
theorem dX12_addChild_170 : decode cX12_addChild 170 = .ok (.sipush 142, 3) := by decide +kernel
theorem dX12_addChild_173 : decode cX12_addChild 173 = .ok (.iadd, 1) := by decide +kernel
theorem dX12_addChild_174 : decode cX12_addChild 174 = .ok (.iload 7, 2) := by decide +kernel
theorem dX12_addChild_176 : decode cX12_addChild 176 = .ok (.iadd, 1) := by decide +kernel
theorem dX12_addChild_177 : decode cX12_addChild 177 = .ok (.iconst 0, 1) := by decide +kernel
theorem dX12_addChild_178 : decode cX12_addChild 178 = .ok (.iastore, 1) := by decide +kernel
theorem dX12_addChild_179 : decode cX12_addChild 179 = .ok (.aload_n 0, 1) := by decide +kernel
theorem dX12_addChild_180 : decode cX12_addChild 180 = .ok (.getfield 7, 3) := by decide +kernel
theorem dX12_addChild_183 : decode cX12_addChild 183 = .ok (.iload_n 1, 1) := by decide +kernel
theorem dX12_addChild_184 : decode cX12_addChild 184 = .ok (.sipush 148, 3) := by decide +kernel
theorem dX12_addChild_187 : decode cX12_addChild 187 = .ok (.iadd, 1) := by decide +kernel
theorem dX12_addChild_188 : decode cX12_addChild 188 = .ok (.iload 7, 2) := by decide +kernel
theorem dX12_addChild_190 : decode cX12_addChild 190 = .ok (.iadd, 1) := by decide +kernel
theorem dX12_addChild_191 : decode cX12_addChild 191 = .ok (.iconst (-1), 1) := by decide +kernel
theorem dX12_addChild_192 : decode cX12_addChild 192 = .ok (.iastore, 1) := by decide +kernel
theorem dX12_addChild_193 : decode cX12_addChild 193 = .ok (.aload_n 0, 1) := by decide +kernel
theorem dX12_addChild_194 : decode cX12_addChild 194 = .ok (.getfield 7, 3) := by decide +kernel
theorem dX12_addChild_197 : decode cX12_addChild 197 = .ok (.iload_n 1, 1) := by decide +kernel
theorem dX12_addChild_198 : decode cX12_addChild 198 = .ok (.bipush 111, 2) := by decide +kernel
theorem dX12_addChild_200 : decode cX12_addChild 200 = .ok (.iadd, 1) := by decide +kernel
theorem dX12_addChild_201 : decode cX12_addChild 201 = .ok (.dup2, 1) := by decide +kernel
theorem dX12_addChild_202 : decode cX12_addChild 202 = .ok (.iaload, 1) := by decide +kernel
theorem dX12_addChild_203 : decode cX12_addChild 203 = .ok (.iconst 1, 1) := by decide +kernel
theorem dX12_addChild_204 : decode cX12_addChild 204 = .ok (.iadd, 1) := by decide +kernel
theorem dX12_addChild_205 : decode cX12_addChild 205 = .ok (.iastore, 1) := by decide +kernel
theorem dX12_addChild_206 : decode cX12_addChild 206 = .ok (.iload 7, 2) := by decide +kernel
theorem dX12_addChild_208 : decode cX12_addChild 208 = .ok (.ireturn, 1) := by decide +kernel
theorem bX12_addChild_0 {Z : ZT} {X : XT} {μ : Mu} {a1 : Int32} {a2 : Int32} {a3 : Int32} {a4 : Int32} {a5 : Int32} {a6 : Int32} (E : Ent Z X mX12_addChild 0 0) {p : Int32 → Mu → Prop} 
    (c : CtrS Z mX12_in [.int a2, .int (nI 0), .int (nI 1)] μ (rI p)) (k : ∀ v μ1, p v μ1 → JS Z X 6 [(0, .ref (Z.2.2.1 + 455)), (1, .int a1), (2, .int a2), (3, .int a3), (4, .int a4), (5, .int a5), (6, .int a6)] [.int v] μ1) :
    JS Z X 0 [(0, .ref (Z.2.2.1 + 455)), (1, .int a1), (2, .int a2), (3, .int a3), (4, .int a4), (5, .int a5), (6, .int a6)] [] μ := by
  refine J_iload_n E dX12_addChild_0 rfl ?_
  refine J_iconst (v := nI 0) E dX12_addChild_1 rfl ?_
  refine J_iconst (v := nI 1) E dX12_addChild_2 rfl ?_
  refine S_callS (As := [.int a2, .int (nI 0), .int (nI 1)]) (rest := []) E dX12_addChild_3 c kX12_in ⟨Nat.le_of_ble_eq_true rfl, Nat.le_of_ble_eq_true rfl⟩ rfl (Nat.le_of_ble_eq_true rfl) w6_67 w6_68 (fun r_ μ1 hp_ => ?_)
  obtain ⟨v, rfl, hp_⟩ := hp_
  exact k v μ1 hp_
theorem bX12_addChild_6 {Z : ZT} {X : XT} {μ : Mu} {a1 : Int32} {a2 : Int32} {a3 : Int32} {a4 : Int32} {a5 : Int32} {a6 : Int32} {s0 : Int32} (E : Ent Z X mX12_addChild 0 0)  
    (kt : s0 = 0 → JS Z X 52 [] [] μ) (kf : ¬ (s0 = 0) → JS Z X 9 [(0, .ref (Z.2.2.1 + 455)), (1, .int a1), (2, .int a2), (3, .int a3), (4, .int a4), (5, .int a5), (6, .int a6)] [] μ) :
    JS Z X 6 [(0, .ref (Z.2.2.1 + 455)), (1, .int a1), (2, .int a2), (3, .int a3), (4, .int a4), (5, .int a5), (6, .int a6)] [.int s0] μ := by
  refine J_if_eq (tgt := 52) E dX12_addChild_6 (by decide) (fun c => ?_) (fun c => ?_)
  · refine J.weak [] rfl ?_
    exact kt c
  · exact kf c
theorem bX12_addChild_9 {Z : ZT} {X : XT} {μ : Mu} {a1 : Int32} {a2 : Int32} {a3 : Int32} {a4 : Int32} {a5 : Int32} {a6 : Int32} (E : Ent Z X mX12_addChild 0 0) {p : Int32 → Mu → Prop} 
    (c : CtrS Z mX12_in [.int a3, .int (nI 0), .int (nI 9)] μ (rI p)) (k : ∀ v μ1, p v μ1 → JS Z X 16 [(0, .ref (Z.2.2.1 + 455)), (1, .int a1), (2, .int a2), (3, .int a3), (4, .int a4), (5, .int a5), (6, .int a6)] [.int v] μ1) :
    JS Z X 9 [(0, .ref (Z.2.2.1 + 455)), (1, .int a1), (2, .int a2), (3, .int a3), (4, .int a4), (5, .int a5), (6, .int a6)] [] μ := by
  refine J_iload_n E dX12_addChild_9 rfl ?_
  refine J_iconst (v := nI 0) E dX12_addChild_10 rfl ?_
  refine J_bipush (v := nI 9) E dX12_addChild_11 rfl ?_
  refine S_callS (As := [.int a3, .int (nI 0), .int (nI 9)]) (rest := []) E dX12_addChild_13 c kX12_in ⟨Nat.le_of_ble_eq_true rfl, Nat.le_of_ble_eq_true rfl⟩ rfl (Nat.le_of_ble_eq_true rfl) w6_67 w6_68 (fun r_ μ1 hp_ => ?_)
  obtain ⟨v, rfl, hp_⟩ := hp_
  exact k v μ1 hp_
theorem bX12_addChild_16 {Z : ZT} {X : XT} {μ : Mu} {a1 : Int32} {a2 : Int32} {a3 : Int32} {a4 : Int32} {a5 : Int32} {a6 : Int32} {s0 : Int32} (E : Ent Z X mX12_addChild 0 0)  
    (kt : s0 = 0 → JS Z X 52 [] [] μ) (kf : ¬ (s0 = 0) → JS Z X 19 [(0, .ref (Z.2.2.1 + 455)), (1, .int a1), (2, .int a2), (3, .int a3), (4, .int a4), (5, .int a5), (6, .int a6)] [] μ) :
    JS Z X 16 [(0, .ref (Z.2.2.1 + 455)), (1, .int a1), (2, .int a2), (3, .int a3), (4, .int a4), (5, .int a5), (6, .int a6)] [.int s0] μ := by
  refine J_if_eq (tgt := 52) E dX12_addChild_16 (by decide) (fun c => ?_) (fun c => ?_)
  · refine J.weak [] rfl ?_
    exact kt c
  · exact kf c
theorem bX12_addChild_19 {Z : ZT} {X : XT} {μ : Mu} {a1 : Int32} {a2 : Int32} {a3 : Int32} {a4 : Int32} {a5 : Int32} {a6 : Int32} (E : Ent Z X mX12_addChild 0 0) {p : Int32 → Mu → Prop} 
    (c : CtrS Z mX12_in [.int a4, .int (nI 0), .int (nI 9)] μ (rI p)) (k : ∀ v μ1, p v μ1 → JS Z X 27 [(0, .ref (Z.2.2.1 + 455)), (1, .int a1), (2, .int a2), (3, .int a3), (4, .int a4), (5, .int a5), (6, .int a6)] [.int v] μ1) :
    JS Z X 19 [(0, .ref (Z.2.2.1 + 455)), (1, .int a1), (2, .int a2), (3, .int a3), (4, .int a4), (5, .int a5), (6, .int a6)] [] μ := by
  refine J_iload E dX12_addChild_19 rfl ?_
  refine J_iconst (v := nI 0) E dX12_addChild_21 rfl ?_
  refine J_bipush (v := nI 9) E dX12_addChild_22 rfl ?_
  refine S_callS (As := [.int a4, .int (nI 0), .int (nI 9)]) (rest := []) E dX12_addChild_24 c kX12_in ⟨Nat.le_of_ble_eq_true rfl, Nat.le_of_ble_eq_true rfl⟩ rfl (Nat.le_of_ble_eq_true rfl) w6_67 w6_68 (fun r_ μ1 hp_ => ?_)
  obtain ⟨v, rfl, hp_⟩ := hp_
  exact k v μ1 hp_
theorem bX12_addChild_27 {Z : ZT} {X : XT} {μ : Mu} {a1 : Int32} {a2 : Int32} {a3 : Int32} {a4 : Int32} {a5 : Int32} {a6 : Int32} {s0 : Int32} (E : Ent Z X mX12_addChild 0 0)  
    (kt : s0 = 0 → JS Z X 52 [] [] μ) (kf : ¬ (s0 = 0) → JS Z X 30 [(0, .ref (Z.2.2.1 + 455)), (1, .int a1), (2, .int a2), (3, .int a3), (4, .int a4), (5, .int a5), (6, .int a6)] [] μ) :
    JS Z X 27 [(0, .ref (Z.2.2.1 + 455)), (1, .int a1), (2, .int a2), (3, .int a3), (4, .int a4), (5, .int a5), (6, .int a6)] [.int s0] μ := by
  refine J_if_eq (tgt := 52) E dX12_addChild_27 (by decide) (fun c => ?_) (fun c => ?_)
  · refine J.weak [] rfl ?_
    exact kt c
  · exact kf c
theorem bX12_addChild_30 {Z : ZT} {X : XT} {μ : Mu} {a1 : Int32} {a2 : Int32} {a3 : Int32} {a4 : Int32} {a5 : Int32} {a6 : Int32} (E : Ent Z X mX12_addChild 0 0) {p : Int32 → Mu → Prop} 
    (c : CtrS Z mX12_in [.int a5, .int (nI 0), .int (nI 9)] μ (rI p)) (k : ∀ v μ1, p v μ1 → JS Z X 38 [(0, .ref (Z.2.2.1 + 455)), (1, .int a1), (2, .int a2), (3, .int a3), (4, .int a4), (5, .int a5), (6, .int a6)] [.int v] μ1) :
    JS Z X 30 [(0, .ref (Z.2.2.1 + 455)), (1, .int a1), (2, .int a2), (3, .int a3), (4, .int a4), (5, .int a5), (6, .int a6)] [] μ := by
  refine J_iload E dX12_addChild_30 rfl ?_
  refine J_iconst (v := nI 0) E dX12_addChild_32 rfl ?_
  refine J_bipush (v := nI 9) E dX12_addChild_33 rfl ?_
  refine S_callS (As := [.int a5, .int (nI 0), .int (nI 9)]) (rest := []) E dX12_addChild_35 c kX12_in ⟨Nat.le_of_ble_eq_true rfl, Nat.le_of_ble_eq_true rfl⟩ rfl (Nat.le_of_ble_eq_true rfl) w6_67 w6_68 (fun r_ μ1 hp_ => ?_)
  obtain ⟨v, rfl, hp_⟩ := hp_
  exact k v μ1 hp_
theorem bX12_addChild_38 {Z : ZT} {X : XT} {μ : Mu} {a1 : Int32} {a2 : Int32} {a3 : Int32} {a4 : Int32} {a5 : Int32} {a6 : Int32} {s0 : Int32} (E : Ent Z X mX12_addChild 0 0)  
    (kt : s0 = 0 → JS Z X 52 [] [] μ) (kf : ¬ (s0 = 0) → JS Z X 41 [(0, .ref (Z.2.2.1 + 455)), (1, .int a1), (2, .int a2), (3, .int a3), (4, .int a4), (5, .int a5), (6, .int a6)] [] μ) :
    JS Z X 38 [(0, .ref (Z.2.2.1 + 455)), (1, .int a1), (2, .int a2), (3, .int a3), (4, .int a4), (5, .int a5), (6, .int a6)] [.int s0] μ := by
  refine J_if_eq (tgt := 52) E dX12_addChild_38 (by decide) (fun c => ?_) (fun c => ?_)
  · refine J.weak [] rfl ?_
    exact kt c
  · exact kf c
theorem bX12_addChild_41 {Z : ZT} {X : XT} {μ : Mu} {a1 : Int32} {a2 : Int32} {a3 : Int32} {a4 : Int32} {a5 : Int32} {a6 : Int32} (E : Ent Z X mX12_addChild 0 0) {p : Int32 → Mu → Prop} 
    (c : CtrS Z mX12_in [.int a6, .int (nI 0), .int (nI 9)] μ (rI p)) (k : ∀ v μ1, p v μ1 → JS Z X 49 [(0, .ref (Z.2.2.1 + 455)), (1, .int a1), (2, .int a2), (3, .int a3), (4, .int a4), (5, .int a5), (6, .int a6)] [.int v] μ1) :
    JS Z X 41 [(0, .ref (Z.2.2.1 + 455)), (1, .int a1), (2, .int a2), (3, .int a3), (4, .int a4), (5, .int a5), (6, .int a6)] [] μ := by
  refine J_iload E dX12_addChild_41 rfl ?_
  refine J_iconst (v := nI 0) E dX12_addChild_43 rfl ?_
  refine J_bipush (v := nI 9) E dX12_addChild_44 rfl ?_
  refine S_callS (As := [.int a6, .int (nI 0), .int (nI 9)]) (rest := []) E dX12_addChild_46 c kX12_in ⟨Nat.le_of_ble_eq_true rfl, Nat.le_of_ble_eq_true rfl⟩ rfl (Nat.le_of_ble_eq_true rfl) w6_67 w6_68 (fun r_ μ1 hp_ => ?_)
  obtain ⟨v, rfl, hp_⟩ := hp_
  exact k v μ1 hp_
theorem bX12_addChild_49 {Z : ZT} {X : XT} {μ : Mu} {a1 : Int32} {a2 : Int32} {a3 : Int32} {a4 : Int32} {a5 : Int32} {a6 : Int32} {s0 : Int32} (E : Ent Z X mX12_addChild 0 0)  
    (kt : ¬ s0 = 0 → JS Z X 55 [(0, .ref (Z.2.2.1 + 455)), (1, .int a1), (2, .int a2), (3, .int a3), (4, .int a4), (5, .int a5), (6, .int a6)] [] μ) (kf : s0 = 0 → JS Z X 52 [] [] μ) :
    JS Z X 49 [(0, .ref (Z.2.2.1 + 455)), (1, .int a1), (2, .int a2), (3, .int a3), (4, .int a4), (5, .int a5), (6, .int a6)] [.int s0] μ := by
  refine J_if_ne (tgt := 55) E dX12_addChild_49 (by decide) (fun c => ?_) (fun c => ?_)
  · exact kt c
  · refine J.weak [] rfl ?_
    exact kf c
theorem bX12_addChild_52 {Z : ZT} {X : XT} {μ : Mu} (E : Ent Z X mX12_addChild 0 0) {P : Option Value → Mu → Prop} (hB : BodS Z X P) 
    (k : P (some (.int (-2))) μ) :
    JS Z X 52 [] [] μ := by
  refine J_bipush (v := -2) E dX12_addChild_52 rfl ?_
  exact S_iret E hB dX12_addChild_54 rfl k
theorem bX12_addChild_55 {Z : ZT} {X : XT} {μ : Mu} {a1 : Int32} {a2 : Int32} {a3 : Int32} {a4 : Int32} {a5 : Int32} {a6 : Int32} (E : Ent Z X mX12_addChild 0 0)  (s1_ : vp_in (a1 + (nI 111)) 988)
    (kt : ¬ (μ 456 (ix (a1 + (nI 111)))) = (nI 6) → JS Z X 72 [(0, .ref (Z.2.2.1 + 455)), (1, .int a1), (2, .int a2), (3, .int a3), (4, .int a4), (5, .int a5), (6, .int a6)] [] μ) (kf : (μ 456 (ix (a1 + (nI 111)))) = (nI 6) → JS Z X 69 [] [] μ) :
    JS Z X 55 [(0, .ref (Z.2.2.1 + 455)), (1, .int a1), (2, .int a2), (3, .int a3), (4, .int a4), (5, .int a5), (6, .int a6)] [] μ := by
  refine J_aload_n E dX12_addChild_55 rfl ?_
  refine S_get (ci := 12) (q := 0) (v := .ref (Z.2.2.1 + 456)) E dX12_addChild_56 fs_X12_7 sh455 rfl ?_
  refine J_iload_n E dX12_addChild_59 rfl ?_
  refine J_bipush (v := nI 111) E dX12_addChild_60 rfl ?_
  refine J_iadd E dX12_addChild_62 ?_
  refine S_iald E dX12_addChild_63 sh456 s1_ ?_
  refine J_bipush (v := nI 6) E dX12_addChild_64 rfl ?_
  refine J_icmp_ne (tgt := 72) E dX12_addChild_66 (by decide) (fun c => ?_) (fun c => ?_)
  · exact kt c
  · refine J.weak [] rfl ?_
    exact kf c
theorem bX12_addChild_69 {Z : ZT} {X : XT} {μ : Mu} (E : Ent Z X mX12_addChild 0 0) {P : Option Value → Mu → Prop} (hB : BodS Z X P) 
    (k : P (some (.int (-4))) μ) :
    JS Z X 69 [] [] μ := by
  refine J_bipush (v := -4) E dX12_addChild_69 rfl ?_
  exact S_iret E hB dX12_addChild_71 rfl k
theorem bX12_addChild_72 {Z : ZT} {X : XT} {μ : Mu} {a1 : Int32} {a2 : Int32} {a3 : Int32} {a4 : Int32} {a5 : Int32} {a6 : Int32} (E : Ent Z X mX12_addChild 0 0)  (s1_ : vp_in (a1 + (nI 111)) 988) (s2_ : vp_in ((a1 + (nI 112)) + (μ 456 (ix (a1 + (nI 111))))) 988)
    (k : JS Z X 96 [(0, .ref (Z.2.2.1 + 455)), (1, .int a1), (3, .int a3), (4, .int a4), (5, .int a5), (6, .int a6), (7, .int (μ 456 (ix (a1 + (nI 111)))))] [] (uR μ 456 (upd (μ 456) (ix ((a1 + (nI 112)) + (μ 456 (ix (a1 + (nI 111)))))) a2))) :
    JS Z X 72 [(0, .ref (Z.2.2.1 + 455)), (1, .int a1), (2, .int a2), (3, .int a3), (4, .int a4), (5, .int a5), (6, .int a6)] [] μ := by
  refine J_aload_n E dX12_addChild_72 rfl ?_
  refine S_get (ci := 12) (q := 0) (v := .ref (Z.2.2.1 + 456)) E dX12_addChild_73 fs_X12_7 sh455 rfl ?_
  refine J_iload_n E dX12_addChild_76 rfl ?_
  refine J_bipush (v := nI 111) E dX12_addChild_77 rfl ?_
  refine J_iadd E dX12_addChild_79 ?_
  refine S_iald E dX12_addChild_80 sh456 s1_ ?_
  refine J_istore (lv' := [(0, .ref (Z.2.2.1 + 455)), (1, .int a1), (2, .int a2), (3, .int a3), (4, .int a4), (5, .int a5), (6, .int a6), (7, .int (μ 456 (ix (a1 + (nI 111)))))]) E dX12_addChild_81 (Nat.le_of_ble_eq_true rfl) rfl ?_
  refine J_aload_n E dX12_addChild_83 rfl ?_
  refine S_get (ci := 12) (q := 0) (v := .ref (Z.2.2.1 + 456)) E dX12_addChild_84 fs_X12_7 sh455 rfl ?_
  refine J_iload_n E dX12_addChild_87 rfl ?_
  refine J_bipush (v := nI 112) E dX12_addChild_88 rfl ?_
  refine J_iadd E dX12_addChild_90 ?_
  refine J_iload E dX12_addChild_91 rfl ?_
  refine J_iadd E dX12_addChild_93 ?_
  refine J_iload_n E dX12_addChild_94 rfl ?_
  refine S_iast E dX12_addChild_95 sh456 s2_ ?_
  refine J.weak [0, 1, 3, 4, 5, 6, 7] rfl ?_
  exact k
theorem bX12_addChild_96 {Z : ZT} {X : XT} {μ : Mu} {a1 : Int32} {a3 : Int32} {a4 : Int32} {a5 : Int32} {a6 : Int32} {a7 : Int32} (E : Ent Z X mX12_addChild 0 0)  (s1_ : vp_in ((a1 + (nI 118)) + ((nI 4) * a7)) 988)
    (k : JS Z X 111 [(0, .ref (Z.2.2.1 + 455)), (1, .int a1), (4, .int a4), (5, .int a5), (6, .int a6), (7, .int a7)] [] (uR μ 456 (upd (μ 456) (ix ((a1 + (nI 118)) + ((nI 4) * a7))) a3))) :
    JS Z X 96 [(0, .ref (Z.2.2.1 + 455)), (1, .int a1), (3, .int a3), (4, .int a4), (5, .int a5), (6, .int a6), (7, .int a7)] [] μ := by
  refine J_aload_n E dX12_addChild_96 rfl ?_
  refine S_get (ci := 12) (q := 0) (v := .ref (Z.2.2.1 + 456)) E dX12_addChild_97 fs_X12_7 sh455 rfl ?_
  refine J_iload_n E dX12_addChild_100 rfl ?_
  refine J_bipush (v := nI 118) E dX12_addChild_101 rfl ?_
  refine J_iadd E dX12_addChild_103 ?_
  refine J_iconst (v := nI 4) E dX12_addChild_104 rfl ?_
  refine J_iload E dX12_addChild_105 rfl ?_
  refine J_imul E dX12_addChild_107 ?_
  refine J_iadd E dX12_addChild_108 ?_
  refine J_iload_n E dX12_addChild_109 rfl ?_
  refine S_iast E dX12_addChild_110 sh456 s1_ ?_
  refine J.weak [0, 1, 3, 4, 5, 6] rfl ?_
  exact k
theorem bX12_addChild_111 {Z : ZT} {X : XT} {μ : Mu} {a1 : Int32} {a4 : Int32} {a5 : Int32} {a6 : Int32} {a7 : Int32} (E : Ent Z X mX12_addChild 0 0)  (s1_ : vp_in (((a1 + (nI 118)) + ((nI 4) * a7)) + (nI 1)) 988)
    (k : JS Z X 129 [(0, .ref (Z.2.2.1 + 455)), (1, .int a1), (5, .int a5), (6, .int a6), (7, .int a7)] [] (uR μ 456 (upd (μ 456) (ix (((a1 + (nI 118)) + ((nI 4) * a7)) + (nI 1))) a4))) :
    JS Z X 111 [(0, .ref (Z.2.2.1 + 455)), (1, .int a1), (4, .int a4), (5, .int a5), (6, .int a6), (7, .int a7)] [] μ := by
  refine J_aload_n E dX12_addChild_111 rfl ?_
  refine S_get (ci := 12) (q := 0) (v := .ref (Z.2.2.1 + 456)) E dX12_addChild_112 fs_X12_7 sh455 rfl ?_
  refine J_iload_n E dX12_addChild_115 rfl ?_
  refine J_bipush (v := nI 118) E dX12_addChild_116 rfl ?_
  refine J_iadd E dX12_addChild_118 ?_
  refine J_iconst (v := nI 4) E dX12_addChild_119 rfl ?_
  refine J_iload E dX12_addChild_120 rfl ?_
  refine J_imul E dX12_addChild_122 ?_
  refine J_iadd E dX12_addChild_123 ?_
  refine J_iconst (v := nI 1) E dX12_addChild_124 rfl ?_
  refine J_iadd E dX12_addChild_125 ?_
  refine J_iload E dX12_addChild_126 rfl ?_
  refine S_iast E dX12_addChild_128 sh456 s1_ ?_
  refine J.weak [0, 1, 3, 4, 5] rfl ?_
  exact k
theorem bX12_addChild_129 {Z : ZT} {X : XT} {μ : Mu} {a1 : Int32} {a5 : Int32} {a6 : Int32} {a7 : Int32} (E : Ent Z X mX12_addChild 0 0)  (s1_ : vp_in (((a1 + (nI 118)) + ((nI 4) * a7)) + (nI 2)) 988)
    (k : JS Z X 147 [(0, .ref (Z.2.2.1 + 455)), (1, .int a1), (6, .int a6), (7, .int a7)] [] (uR μ 456 (upd (μ 456) (ix (((a1 + (nI 118)) + ((nI 4) * a7)) + (nI 2))) a5))) :
    JS Z X 129 [(0, .ref (Z.2.2.1 + 455)), (1, .int a1), (5, .int a5), (6, .int a6), (7, .int a7)] [] μ := by
  refine J_aload_n E dX12_addChild_129 rfl ?_
  refine S_get (ci := 12) (q := 0) (v := .ref (Z.2.2.1 + 456)) E dX12_addChild_130 fs_X12_7 sh455 rfl ?_
  refine J_iload_n E dX12_addChild_133 rfl ?_
  refine J_bipush (v := nI 118) E dX12_addChild_134 rfl ?_
  refine J_iadd E dX12_addChild_136 ?_
  refine J_iconst (v := nI 4) E dX12_addChild_137 rfl ?_
  refine J_iload E dX12_addChild_138 rfl ?_
  refine J_imul E dX12_addChild_140 ?_
  refine J_iadd E dX12_addChild_141 ?_
  refine J_iconst (v := nI 2) E dX12_addChild_142 rfl ?_
  refine J_iadd E dX12_addChild_143 ?_
  refine J_iload E dX12_addChild_144 rfl ?_
  refine S_iast E dX12_addChild_146 sh456 s1_ ?_
  refine J.weak [0, 1, 3, 4] rfl ?_
  exact k
theorem bX12_addChild_147 {Z : ZT} {X : XT} {μ : Mu} {a1 : Int32} {a6 : Int32} {a7 : Int32} (E : Ent Z X mX12_addChild 0 0)  (s1_ : vp_in (((a1 + (nI 118)) + ((nI 4) * a7)) + (nI 3)) 988)
    (k : JS Z X 165 [(0, .ref (Z.2.2.1 + 455)), (1, .int a1), (7, .int a7)] [] (uR μ 456 (upd (μ 456) (ix (((a1 + (nI 118)) + ((nI 4) * a7)) + (nI 3))) a6))) :
    JS Z X 147 [(0, .ref (Z.2.2.1 + 455)), (1, .int a1), (6, .int a6), (7, .int a7)] [] μ := by
  refine J_aload_n E dX12_addChild_147 rfl ?_
  refine S_get (ci := 12) (q := 0) (v := .ref (Z.2.2.1 + 456)) E dX12_addChild_148 fs_X12_7 sh455 rfl ?_
  refine J_iload_n E dX12_addChild_151 rfl ?_
  refine J_bipush (v := nI 118) E dX12_addChild_152 rfl ?_
  refine J_iadd E dX12_addChild_154 ?_
  refine J_iconst (v := nI 4) E dX12_addChild_155 rfl ?_
  refine J_iload E dX12_addChild_156 rfl ?_
  refine J_imul E dX12_addChild_158 ?_
  refine J_iadd E dX12_addChild_159 ?_
  refine J_iconst (v := nI 3) E dX12_addChild_160 rfl ?_
  refine J_iadd E dX12_addChild_161 ?_
  refine J_iload E dX12_addChild_162 rfl ?_
  refine S_iast E dX12_addChild_164 sh456 s1_ ?_
  refine J.weak [0, 1, 3] rfl ?_
  exact k
theorem bX12_addChild_165 {Z : ZT} {X : XT} {μ : Mu} {a1 : Int32} {a7 : Int32} (E : Ent Z X mX12_addChild 0 0)  (s1_ : vp_in ((a1 + (nI 142)) + a7) 988)
    (k : JS Z X 179 [(0, .ref (Z.2.2.1 + 455)), (1, .int a1), (7, .int a7)] [] (uR μ 456 (upd (μ 456) (ix ((a1 + (nI 142)) + a7)) (nI 0)))) :
    JS Z X 165 [(0, .ref (Z.2.2.1 + 455)), (1, .int a1), (7, .int a7)] [] μ := by
  refine J_aload_n E dX12_addChild_165 rfl ?_
  refine S_get (ci := 12) (q := 0) (v := .ref (Z.2.2.1 + 456)) E dX12_addChild_166 fs_X12_7 sh455 rfl ?_
  refine J_iload_n E dX12_addChild_169 rfl ?_
  refine J_sipush (v := nI 142) E dX12_addChild_170 rfl ?_
  refine J_iadd E dX12_addChild_173 ?_
  refine J_iload E dX12_addChild_174 rfl ?_
  refine J_iadd E dX12_addChild_176 ?_
  refine J_iconst (v := nI 0) E dX12_addChild_177 rfl ?_
  refine S_iast E dX12_addChild_178 sh456 s1_ ?_
  exact k
theorem bX12_addChild_179 {Z : ZT} {X : XT} {μ : Mu} {a1 : Int32} {a7 : Int32} (E : Ent Z X mX12_addChild 0 0)  (s1_ : vp_in ((a1 + (nI 148)) + a7) 988)
    (k : JS Z X 193 [(0, .ref (Z.2.2.1 + 455)), (1, .int a1), (7, .int a7)] [] (uR μ 456 (upd (μ 456) (ix ((a1 + (nI 148)) + a7)) (-1)))) :
    JS Z X 179 [(0, .ref (Z.2.2.1 + 455)), (1, .int a1), (7, .int a7)] [] μ := by
  refine J_aload_n E dX12_addChild_179 rfl ?_
  refine S_get (ci := 12) (q := 0) (v := .ref (Z.2.2.1 + 456)) E dX12_addChild_180 fs_X12_7 sh455 rfl ?_
  refine J_iload_n E dX12_addChild_183 rfl ?_
  refine J_sipush (v := nI 148) E dX12_addChild_184 rfl ?_
  refine J_iadd E dX12_addChild_187 ?_
  refine J_iload E dX12_addChild_188 rfl ?_
  refine J_iadd E dX12_addChild_190 ?_
  refine J_iconst (v := -1) E dX12_addChild_191 rfl ?_
  refine S_iast E dX12_addChild_192 sh456 s1_ ?_
  exact k
theorem bX12_addChild_193 {Z : ZT} {X : XT} {μ : Mu} {a1 : Int32} {a7 : Int32} (E : Ent Z X mX12_addChild 0 0)  (s1_ : vp_in (a1 + (nI 111)) 988) (s2_ : vp_in (a1 + (nI 111)) 988)
    (k : JS Z X 206 [(7, .int a7)] [] (uR μ 456 (upd (μ 456) (ix (a1 + (nI 111))) ((μ 456 (ix (a1 + (nI 111)))) + (nI 1))))) :
    JS Z X 193 [(0, .ref (Z.2.2.1 + 455)), (1, .int a1), (7, .int a7)] [] μ := by
  refine J_aload_n E dX12_addChild_193 rfl ?_
  refine S_get (ci := 12) (q := 0) (v := .ref (Z.2.2.1 + 456)) E dX12_addChild_194 fs_X12_7 sh455 rfl ?_
  refine J_iload_n E dX12_addChild_197 rfl ?_
  refine J_bipush (v := nI 111) E dX12_addChild_198 rfl ?_
  refine J_iadd E dX12_addChild_200 ?_
  refine J_dup2_11 E dX12_addChild_201 rfl rfl ?_
  refine S_iald E dX12_addChild_202 sh456 s1_ ?_
  refine J_iconst (v := nI 1) E dX12_addChild_203 rfl ?_
  refine J_iadd E dX12_addChild_204 ?_
  refine S_iast E dX12_addChild_205 sh456 s2_ ?_
  refine J.weak [2] rfl ?_
  exact k
theorem bX12_addChild_206 {Z : ZT} {X : XT} {μ : Mu} {a7 : Int32} (E : Ent Z X mX12_addChild 0 0) {P : Option Value → Mu → Prop} (hB : BodS Z X P) 
    (k : P (some (.int a7)) μ) :
    JS Z X 206 [(7, .int a7)] [] μ := by
  refine J_iload E dX12_addChild_206 rfl ?_
  exact S_iret E hB dX12_addChild_208 rfl k
theorem dX12_setBar_0 : decode cX12_setBar 0 = .ok (.aload_n 0, 1) := by decide +kernel
theorem dX12_setBar_1 : decode cX12_setBar 1 = .ok (.iload_n 1, 1) := by decide +kernel
theorem dX12_setBar_2 : decode cX12_setBar 2 = .ok (.iload_n 2, 1) := by decide +kernel
theorem dX12_setBar_3 : decode cX12_setBar 3 = .ok (.invokevirtual 79, 3) := by decide +kernel
theorem dX12_setBar_6 : decode cX12_setBar 6 = .ok (.ifCond .eq 27, 3) := by decide +kernel
theorem dX12_setBar_9 : decode cX12_setBar 9 = .ok (.aload_n 0, 1) := by decide +kernel
theorem dX12_setBar_10 : decode cX12_setBar 10 = .ok (.iload_n 1, 1) := by decide +kernel
theorem dX12_setBar_11 : decode cX12_setBar 11 = .ok (.iload_n 3, 1) := by decide +kernel
theorem dX12_setBar_12 : decode cX12_setBar 12 = .ok (.invokevirtual 71, 3) := by decide +kernel
theorem dX12_setBar_15 : decode cX12_setBar 15 = .ok (.ifCond .eq 18, 3) := by decide +kernel
theorem dX12_setBar_18 : decode cX12_setBar 18 = .ok (.aload_n 0, 1) := by decide +kernel
theorem dX12_setBar_19 : decode cX12_setBar 19 = .ok (.iload_n 1, 1) := by decide +kernel
theorem dX12_setBar_20 : decode cX12_setBar 20 = .ok (.sipush 142, 3) := by decide +kernel
theorem dX12_setBar_23 : decode cX12_setBar 23 = .ok (.iadd, 1) := by decide +kernel
theorem dX12_setBar_24 : decode cX12_setBar 24 = .ok (.iload_n 2, 1) := by decide +kernel
theorem dX12_setBar_25 : decode cX12_setBar 25 = .ok (.iadd, 1) := by decide +kernel
theorem dX12_setBar_26 : decode cX12_setBar 26 = .ok (.iload_n 3, 1) := by decide +kernel
theorem dX12_setBar_27 : decode cX12_setBar 27 = .ok (.invokevirtual 75, 3) := by decide +kernel
theorem dX12_setBar_30 : decode cX12_setBar 30 = .ok (.goto 5, 3) := by decide +kernel
theorem dX12_setBar_33 : decode cX12_setBar 33 = .ok (.bipush (-2), 2) := by decide +kernel
theorem dX12_setBar_35 : decode cX12_setBar 35 = .ok (.ireturn, 1) := by decide +kernel
theorem bX12_setBar_0 {Z : ZT} {X : XT} {μ : Mu} {a1 : Int32} {a2 : Int32} {a3 : Int32} (E : Ent Z X mX12_setBar 0 0) {p : Int32 → Mu → Prop} 
    (c : CtrS Z mX12_isChild [.ref (Z.2.2.1 + 455), .int a1, .int a2] μ (rI p)) (k : ∀ v μ1, p v μ1 → JS Z X 6 [(0, .ref (Z.2.2.1 + 455)), (1, .int a1), (2, .int a2), (3, .int a3)] [.int v] μ1) :
    JS Z X 0 [(0, .ref (Z.2.2.1 + 455)), (1, .int a1), (2, .int a2), (3, .int a3)] [] μ := by
  refine J_aload_n E dX12_setBar_0 rfl ?_
  refine J_iload_n E dX12_setBar_1 rfl ?_
  refine J_iload_n E dX12_setBar_2 rfl ?_
  refine S_callV (As := [.int a1, .int a2]) (rest := []) E dX12_setBar_3 c kX12_isChild ⟨Nat.le_of_ble_eq_true rfl, Nat.le_of_ble_eq_true rfl⟩ rfl (Nat.le_of_ble_eq_true rfl) sh455 rfl rfl w6_98 w6_100 wp_37 (fun r_ μ1 hp_ => ?_)
  obtain ⟨v, rfl, hp_⟩ := hp_
  exact k v μ1 hp_
theorem bX12_setBar_6 {Z : ZT} {X : XT} {μ : Mu} {a1 : Int32} {a2 : Int32} {a3 : Int32} {s0 : Int32} (E : Ent Z X mX12_setBar 0 0)  
    (kt : s0 = 0 → JS Z X 33 [] [] μ) (kf : ¬ (s0 = 0) → JS Z X 9 [(0, .ref (Z.2.2.1 + 455)), (1, .int a1), (2, .int a2), (3, .int a3)] [] μ) :
    JS Z X 6 [(0, .ref (Z.2.2.1 + 455)), (1, .int a1), (2, .int a2), (3, .int a3)] [.int s0] μ := by
  refine J_if_eq (tgt := 33) E dX12_setBar_6 (by decide) (fun c => ?_) (fun c => ?_)
  · refine J.weak [] rfl ?_
    exact kt c
  · exact kf c
theorem bX12_setBar_9 {Z : ZT} {X : XT} {μ : Mu} {a1 : Int32} {a2 : Int32} {a3 : Int32} (E : Ent Z X mX12_setBar 0 0) {p : Int32 → Mu → Prop} 
    (c : CtrS Z mX12_isPlace [.ref (Z.2.2.1 + 455), .int a1, .int a3] μ (rI p)) (k : ∀ v μ1, p v μ1 → JS Z X 15 [(0, .ref (Z.2.2.1 + 455)), (1, .int a1), (2, .int a2), (3, .int a3)] [.int v] μ1) :
    JS Z X 9 [(0, .ref (Z.2.2.1 + 455)), (1, .int a1), (2, .int a2), (3, .int a3)] [] μ := by
  refine J_aload_n E dX12_setBar_9 rfl ?_
  refine J_iload_n E dX12_setBar_10 rfl ?_
  refine J_iload_n E dX12_setBar_11 rfl ?_
  refine S_callV (As := [.int a1, .int a3]) (rest := []) E dX12_setBar_12 c kX12_isPlace ⟨Nat.le_of_ble_eq_true rfl, Nat.le_of_ble_eq_true rfl⟩ rfl (Nat.le_of_ble_eq_true rfl) sh455 rfl rfl w6_63 w6_65 wp_32 (fun r_ μ1 hp_ => ?_)
  obtain ⟨v, rfl, hp_⟩ := hp_
  exact k v μ1 hp_
theorem bX12_setBar_15 {Z : ZT} {X : XT} {μ : Mu} {a1 : Int32} {a2 : Int32} {a3 : Int32} {s0 : Int32} (E : Ent Z X mX12_setBar 0 0)  
    (kt : s0 = 0 → JS Z X 33 [] [] μ) (kf : ¬ (s0 = 0) → JS Z X 18 [(0, .ref (Z.2.2.1 + 455)), (1, .int a1), (2, .int a2), (3, .int a3)] [] μ) :
    JS Z X 15 [(0, .ref (Z.2.2.1 + 455)), (1, .int a1), (2, .int a2), (3, .int a3)] [.int s0] μ := by
  refine J_if_eq (tgt := 33) E dX12_setBar_15 (by decide) (fun c => ?_) (fun c => ?_)
  · refine J.weak [] rfl ?_
    exact kt c
  · exact kf c
theorem bX12_setBar_18 {Z : ZT} {X : XT} {μ : Mu} {a1 : Int32} {a2 : Int32} {a3 : Int32} (E : Ent Z X mX12_setBar 0 0) {p : Int32 → Mu → Prop} 
    (c : CtrS Z mX12_mark [.ref (Z.2.2.1 + 455), .int ((a1 + (nI 142)) + a2), .int a3] μ (rI p)) (k : ∀ v μ1, p v μ1 → JS Z X 30 [] [.int v] μ1) :
    JS Z X 18 [(0, .ref (Z.2.2.1 + 455)), (1, .int a1), (2, .int a2), (3, .int a3)] [] μ := by
  refine J_aload_n E dX12_setBar_18 rfl ?_
  refine J_iload_n E dX12_setBar_19 rfl ?_
  refine J_sipush (v := nI 142) E dX12_setBar_20 rfl ?_
  refine J_iadd E dX12_setBar_23 ?_
  refine J_iload_n E dX12_setBar_24 rfl ?_
  refine J_iadd E dX12_setBar_25 ?_
  refine J_iload_n E dX12_setBar_26 rfl ?_
  refine S_callV (As := [.int ((a1 + (nI 142)) + a2), .int a3]) (rest := []) E dX12_setBar_27 c kX12_mark ⟨Nat.le_of_ble_eq_true rfl, Nat.le_of_ble_eq_true rfl⟩ rfl (Nat.le_of_ble_eq_true rfl) sh455 rfl rfl w6_78 w6_80 wp_34 (fun r_ μ1 hp_ => ?_)
  obtain ⟨v, rfl, hp_⟩ := hp_
  refine J.weak [] rfl ?_
  exact k v μ1 hp_
theorem bX12_setBar_30 {Z : ZT} {X : XT} {μ : Mu} {s0 : Int32} (E : Ent Z X mX12_setBar 0 0)  
    (k : JS Z X 35 [] [.int s0] μ) :
    JS Z X 30 [] [.int s0] μ := by
  refine J_goto (tgt := 35) E dX12_setBar_30 (by decide) ?_
  exact k
theorem bX12_setBar_33 {Z : ZT} {X : XT} {μ : Mu} (E : Ent Z X mX12_setBar 0 0)  
    (k : JS Z X 35 [] [.int (-2)] μ) :
    JS Z X 33 [] [] μ := by
  refine J_bipush (v := -2) E dX12_setBar_33 rfl ?_
  exact k
theorem bX12_setBar_35 {Z : ZT} {X : XT} {μ : Mu} {s0 : Int32} (E : Ent Z X mX12_setBar 0 0) {P : Option Value → Mu → Prop} (hB : BodS Z X P) 
    (k : P (some (.int s0)) μ) :
    JS Z X 35 [] [.int s0] μ := by
  exact S_iret E hB dX12_setBar_35 rfl k
theorem dX12_addSlip_0 : decode cX12_addSlip 0 = .ok (.aload_n 0, 1) := by decide +kernel
theorem dX12_addSlip_1 : decode cX12_addSlip 1 = .ok (.iload_n 1, 1) := by decide +kernel
theorem dX12_addSlip_2 : decode cX12_addSlip 2 = .ok (.iload_n 2, 1) := by decide +kernel
theorem dX12_addSlip_3 : decode cX12_addSlip 3 = .ok (.invokevirtual 71, 3) := by decide +kernel
theorem dX12_addSlip_6 : decode cX12_addSlip 6 = .ok (.ifCond .eq 12, 3) := by decide +kernel
theorem dX12_addSlip_9 : decode cX12_addSlip 9 = .ok (.iload_n 3, 1) := by decide +kernel
theorem dX12_addSlip_10 : decode cX12_addSlip 10 = .ok (.iconst 0, 1) := by decide +kernel
theorem dX12_addSlip_11 : decode cX12_addSlip 11 = .ok (.iconst 3, 1) := by decide +kernel
theorem dX12_addSlip_12 : decode cX12_addSlip 12 = .ok (.invokestatic 67, 3) := by decide +kernel
theorem dX12_addSlip_15 : decode cX12_addSlip 15 = .ok (.ifCond .ne 6, 3) := by decide +kernel
theorem dX12_addSlip_18 : decode cX12_addSlip 18 = .ok (.bipush (-2), 2) := by decide +kernel
theorem dX12_addSlip_20 : decode cX12_addSlip 20 = .ok (.ireturn, 1) := by decide +kernel
theorem dX12_addSlip_21 : decode cX12_addSlip 21 = .ok (.aload_n 0, 1) := by decide +kernel
theorem dX12_addSlip_22 : decode cX12_addSlip 22 = .ok (.getfield 7, 3) := by decide +kernel
theorem dX12_addSlip_25 : decode cX12_addSlip 25 = .ok (.iload_n 1, 1) := by decide +kernel
theorem dX12_addSlip_26 : decode cX12_addSlip 26 = .ok (.sipush 154, 3) := by decide +kernel
theorem dX12_addSlip_29 : decode cX12_addSlip 29 = .ok (.iadd, 1) := by decide +kernel
theorem dX12_addSlip_30 : decode cX12_addSlip 30 = .ok (.iaload, 1) := by decide +kernel
theorem dX12_addSlip_31 : decode cX12_addSlip 31 = .ok (.bipush 8, 2) := by decide +kernel
theorem dX12_addSlip_33 : decode cX12_addSlip 33 = .ok (.if_icmp .ne 6, 3) := by decide +kernel
theorem dX12_addSlip_36 : decode cX12_addSlip 36 = .ok (.bipush (-4), 2) := by decide +kernel
theorem dX12_addSlip_38 : decode cX12_addSlip 38 = .ok (.ireturn, 1) := by decide +kernel
theorem dX12_addSlip_39 : decode cX12_addSlip 39 = .ok (.aload_n 0, 1) := by decide +kernel
theorem dX12_addSlip_40 : decode cX12_addSlip 40 = .ok (.getfield 7, 3) := by decide +kernel
theorem dX12_addSlip_43 : decode cX12_addSlip 43 = .ok (.iload_n 1, 1) := by decide +kernel
theorem dX12_addSlip_44 : decode cX12_addSlip 44 = .ok (.sipush 154, 3) := by decide +kernel
theorem dX12_addSlip_47 : decode cX12_addSlip 47 = .ok (.iadd, 1) := by decide +kernel
theorem dX12_addSlip_48 : decode cX12_addSlip 48 = .ok (.iaload, 1) := by decide +kernel
theorem dX12_addSlip_49 : decode cX12_addSlip 49 = .ok (.istore 4, 2) := by decide +kernel
theorem dX12_addSlip_51 : decode cX12_addSlip 51 = .ok (.aload_n 0, 1) := by decide +kernel
theorem dX12_addSlip_52 : decode cX12_addSlip 52 = .ok (.getfield 7, 3) := by decide +kernel
theorem dX12_addSlip_55 : decode cX12_addSlip 55 = .ok (.iload_n 1, 1) := by decide +kernel
theorem dX12_addSlip_56 : decode cX12_addSlip 56 = .ok (.sipush 155, 3) := by decide +kernel
theorem dX12_addSlip_59 : decode cX12_addSlip 59 = .ok (.iadd, 1) := by decide +kernel
theorem dX12_addSlip_60 : decode cX12_addSlip 60 = .ok (.iload 4, 2) := by decide +kernel
theorem dX12_addSlip_62 : decode cX12_addSlip 62 = .ok (.iadd, 1) := by decide +kernel
theorem dX12_addSlip_63 : decode cX12_addSlip 63 = .ok (.iload_n 2, 1) := by decide +kernel
theorem dX12_addSlip_64 : decode cX12_addSlip 64 = .ok (.iastore, 1) := by decide +kernel
theorem dX12_addSlip_65 : decode cX12_addSlip 65 = .ok (.aload_n 0, 1) := by decide +kernel
theorem dX12_addSlip_66 : decode cX12_addSlip 66 = .ok (.getfield 7, 3) := by decide +kernel
theorem dX12_addSlip_69 : decode cX12_addSlip 69 = .ok (.iload_n 1, 1) := by decide +kernel
theorem dX12_addSlip_70 : decode cX12_addSlip 70 = .ok (.sipush 163, 3) := by decide +kernel
theorem dX12_addSlip_73 : decode cX12_addSlip 73 = .ok (.iadd, 1) := by decide +kernel
theorem dX12_addSlip_74 : decode cX12_addSlip 74 = .ok (.iload 4, 2) := by decide +kernel
theorem dX12_addSlip_76 : decode cX12_addSlip 76 = .ok (.iadd, 1) := by decide +kernel
theorem dX12_addSlip_77 : decode cX12_addSlip 77 = .ok (.iload_n 3, 1) := by decide +kernel
theorem dX12_addSlip_78 : decode cX12_addSlip 78 = .ok (.iastore, 1) := by decide +kernel
theorem dX12_addSlip_79 : decode cX12_addSlip 79 = .ok (.aload_n 0, 1) := by decide +kernel
theorem dX12_addSlip_80 : decode cX12_addSlip 80 = .ok (.getfield 7, 3) := by decide +kernel
theorem dX12_addSlip_83 : decode cX12_addSlip 83 = .ok (.iload_n 1, 1) := by decide +kernel
theorem dX12_addSlip_84 : decode cX12_addSlip 84 = .ok (.sipush 171, 3) := by decide +kernel
theorem dX12_addSlip_87 : decode cX12_addSlip 87 = .ok (.iadd, 1) := by decide +kernel
theorem dX12_addSlip_88 : decode cX12_addSlip 88 = .ok (.iload 4, 2) := by decide +kernel
theorem dX12_addSlip_90 : decode cX12_addSlip 90 = .ok (.iadd, 1) := by decide +kernel
theorem dX12_addSlip_91 : decode cX12_addSlip 91 = .ok (.iconst 0, 1) := by decide +kernel
theorem dX12_addSlip_92 : decode cX12_addSlip 92 = .ok (.iastore, 1) := by decide +kernel
theorem dX12_addSlip_93 : decode cX12_addSlip 93 = .ok (.aload_n 0, 1) := by decide +kernel
theorem dX12_addSlip_94 : decode cX12_addSlip 94 = .ok (.getfield 7, 3) := by decide +kernel
theorem dX12_addSlip_97 : decode cX12_addSlip 97 = .ok (.iload_n 1, 1) := by decide +kernel
theorem dX12_addSlip_98 : decode cX12_addSlip 98 = .ok (.sipush 179, 3) := by decide +kernel
theorem dX12_addSlip_101 : decode cX12_addSlip 101 = .ok (.iadd, 1) := by decide +kernel
theorem dX12_addSlip_102 : decode cX12_addSlip 102 = .ok (.iload 4, 2) := by decide +kernel
theorem dX12_addSlip_104 : decode cX12_addSlip 104 = .ok (.iadd, 1) := by decide +kernel
theorem dX12_addSlip_105 : decode cX12_addSlip 105 = .ok (.iconst 0, 1) := by decide +kernel
theorem dX12_addSlip_106 : decode cX12_addSlip 106 = .ok (.iastore, 1) := by decide +kernel
theorem dX12_addSlip_107 : decode cX12_addSlip 107 = .ok (.aload_n 0, 1) := by decide +kernel
theorem dX12_addSlip_108 : decode cX12_addSlip 108 = .ok (.getfield 7, 3) := by decide +kernel
theorem dX12_addSlip_111 : decode cX12_addSlip 111 = .ok (.iload_n 1, 1) := by decide +kernel
theorem dX12_addSlip_112 : decode cX12_addSlip 112 = .ok (.sipush 154, 3) := by decide +kernel
theorem dX12_addSlip_115 : decode cX12_addSlip 115 = .ok (.iadd, 1) := by decide +kernel
theorem dX12_addSlip_116 : decode cX12_addSlip 116 = .ok (.dup2, 1) := by decide +kernel
theorem dX12_addSlip_117 : decode cX12_addSlip 117 = .ok (.iaload, 1) := by decide +kernel
theorem dX12_addSlip_118 : decode cX12_addSlip 118 = .ok (.iconst 1, 1) := by decide +kernel
theorem dX12_addSlip_119 : decode cX12_addSlip 119 = .ok (.iadd, 1) := by decide +kernel
theorem dX12_addSlip_120 : decode cX12_addSlip 120 = .ok (.iastore, 1) := by decide +kernel
theorem dX12_addSlip_121 : decode cX12_addSlip 121 = .ok (.iload 4, 2) := by decide +kernel
theorem dX12_addSlip_123 : decode cX12_addSlip 123 = .ok (.ireturn, 1) := by decide +kernel
theorem bX12_addSlip_0 {Z : ZT} {X : XT} {μ : Mu} {a1 : Int32} {a2 : Int32} {a3 : Int32} (E : Ent Z X mX12_addSlip 0 0) {p : Int32 → Mu → Prop} 
    (c : CtrS Z mX12_isPlace [.ref (Z.2.2.1 + 455), .int a1, .int a2] μ (rI p)) (k : ∀ v μ1, p v μ1 → JS Z X 6 [(0, .ref (Z.2.2.1 + 455)), (1, .int a1), (2, .int a2), (3, .int a3)] [.int v] μ1) :
    JS Z X 0 [(0, .ref (Z.2.2.1 + 455)), (1, .int a1), (2, .int a2), (3, .int a3)] [] μ := by
  refine J_aload_n E dX12_addSlip_0 rfl ?_
  refine J_iload_n E dX12_addSlip_1 rfl ?_
  refine J_iload_n E dX12_addSlip_2 rfl ?_
  refine S_callV (As := [.int a1, .int a2]) (rest := []) E dX12_addSlip_3 c kX12_isPlace ⟨Nat.le_of_ble_eq_true rfl, Nat.le_of_ble_eq_true rfl⟩ rfl (Nat.le_of_ble_eq_true rfl) sh455 rfl rfl w6_63 w6_65 wp_32 (fun r_ μ1 hp_ => ?_)
  obtain ⟨v, rfl, hp_⟩ := hp_
  exact k v μ1 hp_
theorem bX12_addSlip_6 {Z : ZT} {X : XT} {μ : Mu} {a1 : Int32} {a2 : Int32} {a3 : Int32} {s0 : Int32} (E : Ent Z X mX12_addSlip 0 0)  
    (kt : s0 = 0 → JS Z X 18 [] [] μ) (kf : ¬ (s0 = 0) → JS Z X 9 [(0, .ref (Z.2.2.1 + 455)), (1, .int a1), (2, .int a2), (3, .int a3)] [] μ) :
    JS Z X 6 [(0, .ref (Z.2.2.1 + 455)), (1, .int a1), (2, .int a2), (3, .int a3)] [.int s0] μ := by
  refine J_if_eq (tgt := 18) E dX12_addSlip_6 (by decide) (fun c => ?_) (fun c => ?_)
  · refine J.weak [] rfl ?_
    exact kt c
  · exact kf c
theorem bX12_addSlip_9 {Z : ZT} {X : XT} {μ : Mu} {a1 : Int32} {a2 : Int32} {a3 : Int32} (E : Ent Z X mX12_addSlip 0 0) {p : Int32 → Mu → Prop} 
    (c : CtrS Z mX12_in [.int a3, .int (nI 0), .int (nI 3)] μ (rI p)) (k : ∀ v μ1, p v μ1 → JS Z X 15 [(0, .ref (Z.2.2.1 + 455)), (1, .int a1), (2, .int a2), (3, .int a3)] [.int v] μ1) :
    JS Z X 9 [(0, .ref (Z.2.2.1 + 455)), (1, .int a1), (2, .int a2), (3, .int a3)] [] μ := by
  refine J_iload_n E dX12_addSlip_9 rfl ?_
  refine J_iconst (v := nI 0) E dX12_addSlip_10 rfl ?_
  refine J_iconst (v := nI 3) E dX12_addSlip_11 rfl ?_
  refine S_callS (As := [.int a3, .int (nI 0), .int (nI 3)]) (rest := []) E dX12_addSlip_12 c kX12_in ⟨Nat.le_of_ble_eq_true rfl, Nat.le_of_ble_eq_true rfl⟩ rfl (Nat.le_of_ble_eq_true rfl) w6_67 w6_68 (fun r_ μ1 hp_ => ?_)
  obtain ⟨v, rfl, hp_⟩ := hp_
  exact k v μ1 hp_
theorem bX12_addSlip_15 {Z : ZT} {X : XT} {μ : Mu} {a1 : Int32} {a2 : Int32} {a3 : Int32} {s0 : Int32} (E : Ent Z X mX12_addSlip 0 0)  
    (kt : ¬ s0 = 0 → JS Z X 21 [(0, .ref (Z.2.2.1 + 455)), (1, .int a1), (2, .int a2), (3, .int a3)] [] μ) (kf : s0 = 0 → JS Z X 18 [] [] μ) :
    JS Z X 15 [(0, .ref (Z.2.2.1 + 455)), (1, .int a1), (2, .int a2), (3, .int a3)] [.int s0] μ := by
  refine J_if_ne (tgt := 21) E dX12_addSlip_15 (by decide) (fun c => ?_) (fun c => ?_)
  · exact kt c
  · refine J.weak [] rfl ?_
    exact kf c
theorem bX12_addSlip_18 {Z : ZT} {X : XT} {μ : Mu} (E : Ent Z X mX12_addSlip 0 0) {P : Option Value → Mu → Prop} (hB : BodS Z X P) 
    (k : P (some (.int (-2))) μ) :
    JS Z X 18 [] [] μ := by
  refine J_bipush (v := -2) E dX12_addSlip_18 rfl ?_
  exact S_iret E hB dX12_addSlip_20 rfl k
theorem bX12_addSlip_21 {Z : ZT} {X : XT} {μ : Mu} {a1 : Int32} {a2 : Int32} {a3 : Int32} (E : Ent Z X mX12_addSlip 0 0)  (s1_ : vp_in (a1 + (nI 154)) 988)
    (kt : ¬ (μ 456 (ix (a1 + (nI 154)))) = (nI 8) → JS Z X 39 [(0, .ref (Z.2.2.1 + 455)), (1, .int a1), (2, .int a2), (3, .int a3)] [] μ) (kf : (μ 456 (ix (a1 + (nI 154)))) = (nI 8) → JS Z X 36 [] [] μ) :
    JS Z X 21 [(0, .ref (Z.2.2.1 + 455)), (1, .int a1), (2, .int a2), (3, .int a3)] [] μ := by
  refine J_aload_n E dX12_addSlip_21 rfl ?_
  refine S_get (ci := 12) (q := 0) (v := .ref (Z.2.2.1 + 456)) E dX12_addSlip_22 fs_X12_7 sh455 rfl ?_
  refine J_iload_n E dX12_addSlip_25 rfl ?_
  refine J_sipush (v := nI 154) E dX12_addSlip_26 rfl ?_
  refine J_iadd E dX12_addSlip_29 ?_
  refine S_iald E dX12_addSlip_30 sh456 s1_ ?_
  refine J_bipush (v := nI 8) E dX12_addSlip_31 rfl ?_
  refine J_icmp_ne (tgt := 39) E dX12_addSlip_33 (by decide) (fun c => ?_) (fun c => ?_)
  · exact kt c
  · refine J.weak [] rfl ?_
    exact kf c
theorem bX12_addSlip_36 {Z : ZT} {X : XT} {μ : Mu} (E : Ent Z X mX12_addSlip 0 0) {P : Option Value → Mu → Prop} (hB : BodS Z X P) 
    (k : P (some (.int (-4))) μ) :
    JS Z X 36 [] [] μ := by
  refine J_bipush (v := -4) E dX12_addSlip_36 rfl ?_
  exact S_iret E hB dX12_addSlip_38 rfl k
theorem bX12_addSlip_39 {Z : ZT} {X : XT} {μ : Mu} {a1 : Int32} {a2 : Int32} {a3 : Int32} (E : Ent Z X mX12_addSlip 0 0)  (s1_ : vp_in (a1 + (nI 154)) 988) (s2_ : vp_in ((a1 + (nI 155)) + (μ 456 (ix (a1 + (nI 154))))) 988)
    (k : JS Z X 65 [(0, .ref (Z.2.2.1 + 455)), (1, .int a1), (3, .int a3), (4, .int (μ 456 (ix (a1 + (nI 154)))))] [] (uR μ 456 (upd (μ 456) (ix ((a1 + (nI 155)) + (μ 456 (ix (a1 + (nI 154)))))) a2))) :
    JS Z X 39 [(0, .ref (Z.2.2.1 + 455)), (1, .int a1), (2, .int a2), (3, .int a3)] [] μ := by
  refine J_aload_n E dX12_addSlip_39 rfl ?_
  refine S_get (ci := 12) (q := 0) (v := .ref (Z.2.2.1 + 456)) E dX12_addSlip_40 fs_X12_7 sh455 rfl ?_
  refine J_iload_n E dX12_addSlip_43 rfl ?_
  refine J_sipush (v := nI 154) E dX12_addSlip_44 rfl ?_
  refine J_iadd E dX12_addSlip_47 ?_
  refine S_iald E dX12_addSlip_48 sh456 s1_ ?_
  refine J_istore (lv' := [(0, .ref (Z.2.2.1 + 455)), (1, .int a1), (2, .int a2), (3, .int a3), (4, .int (μ 456 (ix (a1 + (nI 154)))))]) E dX12_addSlip_49 (Nat.le_of_ble_eq_true rfl) rfl ?_
  refine J_aload_n E dX12_addSlip_51 rfl ?_
  refine S_get (ci := 12) (q := 0) (v := .ref (Z.2.2.1 + 456)) E dX12_addSlip_52 fs_X12_7 sh455 rfl ?_
  refine J_iload_n E dX12_addSlip_55 rfl ?_
  refine J_sipush (v := nI 155) E dX12_addSlip_56 rfl ?_
  refine J_iadd E dX12_addSlip_59 ?_
  refine J_iload E dX12_addSlip_60 rfl ?_
  refine J_iadd E dX12_addSlip_62 ?_
  refine J_iload_n E dX12_addSlip_63 rfl ?_
  refine S_iast E dX12_addSlip_64 sh456 s2_ ?_
  refine J.weak [0, 1, 3, 4] rfl ?_
  exact k
theorem bX12_addSlip_65 {Z : ZT} {X : XT} {μ : Mu} {a1 : Int32} {a3 : Int32} {a4 : Int32} (E : Ent Z X mX12_addSlip 0 0)  (s1_ : vp_in ((a1 + (nI 163)) + a4) 988)
    (k : JS Z X 79 [(0, .ref (Z.2.2.1 + 455)), (1, .int a1), (4, .int a4)] [] (uR μ 456 (upd (μ 456) (ix ((a1 + (nI 163)) + a4)) a3))) :
    JS Z X 65 [(0, .ref (Z.2.2.1 + 455)), (1, .int a1), (3, .int a3), (4, .int a4)] [] μ := by
  refine J_aload_n E dX12_addSlip_65 rfl ?_
  refine S_get (ci := 12) (q := 0) (v := .ref (Z.2.2.1 + 456)) E dX12_addSlip_66 fs_X12_7 sh455 rfl ?_
  refine J_iload_n E dX12_addSlip_69 rfl ?_
  refine J_sipush (v := nI 163) E dX12_addSlip_70 rfl ?_
  refine J_iadd E dX12_addSlip_73 ?_
  refine J_iload E dX12_addSlip_74 rfl ?_
  refine J_iadd E dX12_addSlip_76 ?_
  refine J_iload_n E dX12_addSlip_77 rfl ?_
  refine S_iast E dX12_addSlip_78 sh456 s1_ ?_
  refine J.weak [0, 1, 3] rfl ?_
  exact k
theorem bX12_addSlip_79 {Z : ZT} {X : XT} {μ : Mu} {a1 : Int32} {a4 : Int32} (E : Ent Z X mX12_addSlip 0 0)  (s1_ : vp_in ((a1 + (nI 171)) + a4) 988)
    (k : JS Z X 93 [(0, .ref (Z.2.2.1 + 455)), (1, .int a1), (4, .int a4)] [] (uR μ 456 (upd (μ 456) (ix ((a1 + (nI 171)) + a4)) (nI 0)))) :
    JS Z X 79 [(0, .ref (Z.2.2.1 + 455)), (1, .int a1), (4, .int a4)] [] μ := by
  refine J_aload_n E dX12_addSlip_79 rfl ?_
  refine S_get (ci := 12) (q := 0) (v := .ref (Z.2.2.1 + 456)) E dX12_addSlip_80 fs_X12_7 sh455 rfl ?_
  refine J_iload_n E dX12_addSlip_83 rfl ?_
  refine J_sipush (v := nI 171) E dX12_addSlip_84 rfl ?_
  refine J_iadd E dX12_addSlip_87 ?_
  refine J_iload E dX12_addSlip_88 rfl ?_
  refine J_iadd E dX12_addSlip_90 ?_
  refine J_iconst (v := nI 0) E dX12_addSlip_91 rfl ?_
  refine S_iast E dX12_addSlip_92 sh456 s1_ ?_
  exact k
theorem bX12_addSlip_93 {Z : ZT} {X : XT} {μ : Mu} {a1 : Int32} {a4 : Int32} (E : Ent Z X mX12_addSlip 0 0)  (s1_ : vp_in ((a1 + (nI 179)) + a4) 988)
    (k : JS Z X 107 [(0, .ref (Z.2.2.1 + 455)), (1, .int a1), (4, .int a4)] [] (uR μ 456 (upd (μ 456) (ix ((a1 + (nI 179)) + a4)) (nI 0)))) :
    JS Z X 93 [(0, .ref (Z.2.2.1 + 455)), (1, .int a1), (4, .int a4)] [] μ := by
  refine J_aload_n E dX12_addSlip_93 rfl ?_
  refine S_get (ci := 12) (q := 0) (v := .ref (Z.2.2.1 + 456)) E dX12_addSlip_94 fs_X12_7 sh455 rfl ?_
  refine J_iload_n E dX12_addSlip_97 rfl ?_
  refine J_sipush (v := nI 179) E dX12_addSlip_98 rfl ?_
  refine J_iadd E dX12_addSlip_101 ?_
  refine J_iload E dX12_addSlip_102 rfl ?_
  refine J_iadd E dX12_addSlip_104 ?_
  refine J_iconst (v := nI 0) E dX12_addSlip_105 rfl ?_
  refine S_iast E dX12_addSlip_106 sh456 s1_ ?_
  exact k
theorem bX12_addSlip_107 {Z : ZT} {X : XT} {μ : Mu} {a1 : Int32} {a4 : Int32} (E : Ent Z X mX12_addSlip 0 0)  (s1_ : vp_in (a1 + (nI 154)) 988) (s2_ : vp_in (a1 + (nI 154)) 988)
    (k : JS Z X 121 [(4, .int a4)] [] (uR μ 456 (upd (μ 456) (ix (a1 + (nI 154))) ((μ 456 (ix (a1 + (nI 154)))) + (nI 1))))) :
    JS Z X 107 [(0, .ref (Z.2.2.1 + 455)), (1, .int a1), (4, .int a4)] [] μ := by
  refine J_aload_n E dX12_addSlip_107 rfl ?_
  refine S_get (ci := 12) (q := 0) (v := .ref (Z.2.2.1 + 456)) E dX12_addSlip_108 fs_X12_7 sh455 rfl ?_
  refine J_iload_n E dX12_addSlip_111 rfl ?_
  refine J_sipush (v := nI 154) E dX12_addSlip_112 rfl ?_
  refine J_iadd E dX12_addSlip_115 ?_
  refine J_dup2_11 E dX12_addSlip_116 rfl rfl ?_
  refine S_iald E dX12_addSlip_117 sh456 s1_ ?_
  refine J_iconst (v := nI 1) E dX12_addSlip_118 rfl ?_
  refine J_iadd E dX12_addSlip_119 ?_
  refine S_iast E dX12_addSlip_120 sh456 s2_ ?_
  refine J.weak [2] rfl ?_
  exact k
theorem bX12_addSlip_121 {Z : ZT} {X : XT} {μ : Mu} {a4 : Int32} (E : Ent Z X mX12_addSlip 0 0) {P : Option Value → Mu → Prop} (hB : BodS Z X P) 
    (k : P (some (.int a4)) μ) :
    JS Z X 121 [(4, .int a4)] [] μ := by
  refine J_iload E dX12_addSlip_121 rfl ?_
  exact S_iret E hB dX12_addSlip_123 rfl k
theorem dX12_setMeans_0 : decode cX12_setMeans 0 = .ok (.aload_n 0, 1) := by decide +kernel
theorem dX12_setMeans_1 : decode cX12_setMeans 1 = .ok (.iload_n 1, 1) := by decide +kernel
theorem dX12_setMeans_2 : decode cX12_setMeans 2 = .ok (.iload_n 2, 1) := by decide +kernel
theorem dX12_setMeans_3 : decode cX12_setMeans 3 = .ok (.invokevirtual 82, 3) := by decide +kernel
theorem dX12_setMeans_6 : decode cX12_setMeans 6 = .ok (.ifCond .eq 27, 3) := by decide +kernel
theorem dX12_setMeans_9 : decode cX12_setMeans 9 = .ok (.aload_n 0, 1) := by decide +kernel
theorem dX12_setMeans_10 : decode cX12_setMeans 10 = .ok (.iload_n 1, 1) := by decide +kernel
theorem dX12_setMeans_11 : decode cX12_setMeans 11 = .ok (.iload_n 3, 1) := by decide +kernel
theorem dX12_setMeans_12 : decode cX12_setMeans 12 = .ok (.invokevirtual 71, 3) := by decide +kernel
theorem dX12_setMeans_15 : decode cX12_setMeans 15 = .ok (.ifCond .eq 18, 3) := by decide +kernel
theorem dX12_setMeans_18 : decode cX12_setMeans 18 = .ok (.aload_n 0, 1) := by decide +kernel
theorem dX12_setMeans_19 : decode cX12_setMeans 19 = .ok (.iload_n 1, 1) := by decide +kernel
theorem dX12_setMeans_20 : decode cX12_setMeans 20 = .ok (.sipush 179, 3) := by decide +kernel
theorem dX12_setMeans_23 : decode cX12_setMeans 23 = .ok (.iadd, 1) := by decide +kernel
theorem dX12_setMeans_24 : decode cX12_setMeans 24 = .ok (.iload_n 2, 1) := by decide +kernel
theorem dX12_setMeans_25 : decode cX12_setMeans 25 = .ok (.iadd, 1) := by decide +kernel
theorem dX12_setMeans_26 : decode cX12_setMeans 26 = .ok (.iload_n 3, 1) := by decide +kernel
theorem dX12_setMeans_27 : decode cX12_setMeans 27 = .ok (.invokevirtual 75, 3) := by decide +kernel
theorem dX12_setMeans_30 : decode cX12_setMeans 30 = .ok (.goto 5, 3) := by decide +kernel
theorem dX12_setMeans_33 : decode cX12_setMeans 33 = .ok (.bipush (-2), 2) := by decide +kernel
theorem dX12_setMeans_35 : decode cX12_setMeans 35 = .ok (.ireturn, 1) := by decide +kernel
theorem bX12_setMeans_0 {Z : ZT} {X : XT} {μ : Mu} {a1 : Int32} {a2 : Int32} {a3 : Int32} (E : Ent Z X mX12_setMeans 0 0) {p : Int32 → Mu → Prop} 
    (c : CtrS Z mX12_isSlip [.ref (Z.2.2.1 + 455), .int a1, .int a2] μ (rI p)) (k : ∀ v μ1, p v μ1 → JS Z X 6 [(0, .ref (Z.2.2.1 + 455)), (1, .int a1), (2, .int a2), (3, .int a3)] [.int v] μ1) :
    JS Z X 0 [(0, .ref (Z.2.2.1 + 455)), (1, .int a1), (2, .int a2), (3, .int a3)] [] μ := by
  refine J_aload_n E dX12_setMeans_0 rfl ?_
  refine J_iload_n E dX12_setMeans_1 rfl ?_
  refine J_iload_n E dX12_setMeans_2 rfl ?_
  refine S_callV (As := [.int a1, .int a2]) (rest := []) E dX12_setMeans_3 c kX12_isSlip ⟨Nat.le_of_ble_eq_true rfl, Nat.le_of_ble_eq_true rfl⟩ rfl (Nat.le_of_ble_eq_true rfl) sh455 rfl rfl w6_118 w6_120 wp_39 (fun r_ μ1 hp_ => ?_)
  obtain ⟨v, rfl, hp_⟩ := hp_
  exact k v μ1 hp_
theorem bX12_setMeans_6 {Z : ZT} {X : XT} {μ : Mu} {a1 : Int32} {a2 : Int32} {a3 : Int32} {s0 : Int32} (E : Ent Z X mX12_setMeans 0 0)  
    (kt : s0 = 0 → JS Z X 33 [] [] μ) (kf : ¬ (s0 = 0) → JS Z X 9 [(0, .ref (Z.2.2.1 + 455)), (1, .int a1), (2, .int a2), (3, .int a3)] [] μ) :
    JS Z X 6 [(0, .ref (Z.2.2.1 + 455)), (1, .int a1), (2, .int a2), (3, .int a3)] [.int s0] μ := by
  refine J_if_eq (tgt := 33) E dX12_setMeans_6 (by decide) (fun c => ?_) (fun c => ?_)
  · refine J.weak [] rfl ?_
    exact kt c
  · exact kf c
theorem bX12_setMeans_9 {Z : ZT} {X : XT} {μ : Mu} {a1 : Int32} {a2 : Int32} {a3 : Int32} (E : Ent Z X mX12_setMeans 0 0) {p : Int32 → Mu → Prop} 
    (c : CtrS Z mX12_isPlace [.ref (Z.2.2.1 + 455), .int a1, .int a3] μ (rI p)) (k : ∀ v μ1, p v μ1 → JS Z X 15 [(0, .ref (Z.2.2.1 + 455)), (1, .int a1), (2, .int a2), (3, .int a3)] [.int v] μ1) :
    JS Z X 9 [(0, .ref (Z.2.2.1 + 455)), (1, .int a1), (2, .int a2), (3, .int a3)] [] μ := by
  refine J_aload_n E dX12_setMeans_9 rfl ?_
  refine J_iload_n E dX12_setMeans_10 rfl ?_
  refine J_iload_n E dX12_setMeans_11 rfl ?_
  refine S_callV (As := [.int a1, .int a3]) (rest := []) E dX12_setMeans_12 c kX12_isPlace ⟨Nat.le_of_ble_eq_true rfl, Nat.le_of_ble_eq_true rfl⟩ rfl (Nat.le_of_ble_eq_true rfl) sh455 rfl rfl w6_63 w6_65 wp_32 (fun r_ μ1 hp_ => ?_)
  obtain ⟨v, rfl, hp_⟩ := hp_
  exact k v μ1 hp_
theorem bX12_setMeans_15 {Z : ZT} {X : XT} {μ : Mu} {a1 : Int32} {a2 : Int32} {a3 : Int32} {s0 : Int32} (E : Ent Z X mX12_setMeans 0 0)  
    (kt : s0 = 0 → JS Z X 33 [] [] μ) (kf : ¬ (s0 = 0) → JS Z X 18 [(0, .ref (Z.2.2.1 + 455)), (1, .int a1), (2, .int a2), (3, .int a3)] [] μ) :
    JS Z X 15 [(0, .ref (Z.2.2.1 + 455)), (1, .int a1), (2, .int a2), (3, .int a3)] [.int s0] μ := by
  refine J_if_eq (tgt := 33) E dX12_setMeans_15 (by decide) (fun c => ?_) (fun c => ?_)
  · refine J.weak [] rfl ?_
    exact kt c
  · exact kf c
theorem bX12_setMeans_18 {Z : ZT} {X : XT} {μ : Mu} {a1 : Int32} {a2 : Int32} {a3 : Int32} (E : Ent Z X mX12_setMeans 0 0) {p : Int32 → Mu → Prop} 
    (c : CtrS Z mX12_mark [.ref (Z.2.2.1 + 455), .int ((a1 + (nI 179)) + a2), .int a3] μ (rI p)) (k : ∀ v μ1, p v μ1 → JS Z X 30 [] [.int v] μ1) :
    JS Z X 18 [(0, .ref (Z.2.2.1 + 455)), (1, .int a1), (2, .int a2), (3, .int a3)] [] μ := by
  refine J_aload_n E dX12_setMeans_18 rfl ?_
  refine J_iload_n E dX12_setMeans_19 rfl ?_
  refine J_sipush (v := nI 179) E dX12_setMeans_20 rfl ?_
  refine J_iadd E dX12_setMeans_23 ?_
  refine J_iload_n E dX12_setMeans_24 rfl ?_
  refine J_iadd E dX12_setMeans_25 ?_
  refine J_iload_n E dX12_setMeans_26 rfl ?_
  refine S_callV (As := [.int ((a1 + (nI 179)) + a2), .int a3]) (rest := []) E dX12_setMeans_27 c kX12_mark ⟨Nat.le_of_ble_eq_true rfl, Nat.le_of_ble_eq_true rfl⟩ rfl (Nat.le_of_ble_eq_true rfl) sh455 rfl rfl w6_78 w6_80 wp_34 (fun r_ μ1 hp_ => ?_)
  obtain ⟨v, rfl, hp_⟩ := hp_
  refine J.weak [] rfl ?_
  exact k v μ1 hp_
theorem bX12_setMeans_30 {Z : ZT} {X : XT} {μ : Mu} {s0 : Int32} (E : Ent Z X mX12_setMeans 0 0)  
    (k : JS Z X 35 [] [.int s0] μ) :
    JS Z X 30 [] [.int s0] μ := by
  refine J_goto (tgt := 35) E dX12_setMeans_30 (by decide) ?_
  exact k
theorem bX12_setMeans_33 {Z : ZT} {X : XT} {μ : Mu} (E : Ent Z X mX12_setMeans 0 0)  
    (k : JS Z X 35 [] [.int (-2)] μ) :
    JS Z X 33 [] [] μ := by
  refine J_bipush (v := -2) E dX12_setMeans_33 rfl ?_
  exact k
theorem bX12_setMeans_35 {Z : ZT} {X : XT} {μ : Mu} {s0 : Int32} (E : Ent Z X mX12_setMeans 0 0) {P : Option Value → Mu → Prop} (hB : BodS Z X P) 
    (k : P (some (.int s0)) μ) :
    JS Z X 35 [] [.int s0] μ := by
  exact S_iret E hB dX12_setMeans_35 rfl k
theorem dX12_addRow_0 : decode cX12_addRow 0 = .ok (.iload_n 2, 1) := by decide +kernel
theorem dX12_addRow_1 : decode cX12_addRow 1 = .ok (.invokestatic 85, 3) := by decide +kernel
theorem dX12_addRow_4 : decode cX12_addRow 4 = .ok (.ifCond .eq 12, 3) := by decide +kernel
theorem dX12_addRow_7 : decode cX12_addRow 7 = .ok (.aload_n 0, 1) := by decide +kernel
theorem dX12_addRow_8 : decode cX12_addRow 8 = .ok (.iload_n 1, 1) := by decide +kernel
theorem dX12_addRow_9 : decode cX12_addRow 9 = .ok (.iload_n 3, 1) := by decide +kernel
theorem dX12_addRow_10 : decode cX12_addRow 10 = .ok (.invokevirtual 82, 3) := by decide +kernel
theorem dX12_addRow_13 : decode cX12_addRow 13 = .ok (.ifCond .ne 6, 3) := by decide +kernel
theorem dX12_addRow_16 : decode cX12_addRow 16 = .ok (.bipush (-2), 2) := by decide +kernel
theorem dX12_addRow_18 : decode cX12_addRow 18 = .ok (.ireturn, 1) := by decide +kernel
theorem dX12_addRow_19 : decode cX12_addRow 19 = .ok (.aload_n 0, 1) := by decide +kernel
theorem dX12_addRow_20 : decode cX12_addRow 20 = .ok (.getfield 7, 3) := by decide +kernel
theorem dX12_addRow_23 : decode cX12_addRow 23 = .ok (.iload_n 1, 1) := by decide +kernel
theorem dX12_addRow_24 : decode cX12_addRow 24 = .ok (.sipush 187, 3) := by decide +kernel
theorem dX12_addRow_27 : decode cX12_addRow 27 = .ok (.iadd, 1) := by decide +kernel
theorem dX12_addRow_28 : decode cX12_addRow 28 = .ok (.iload_n 2, 1) := by decide +kernel
theorem dX12_addRow_29 : decode cX12_addRow 29 = .ok (.iadd, 1) := by decide +kernel
theorem dX12_addRow_30 : decode cX12_addRow 30 = .ok (.iaload, 1) := by decide +kernel
theorem dX12_addRow_31 : decode cX12_addRow 31 = .ok (.istore 4, 2) := by decide +kernel
theorem dX12_addRow_33 : decode cX12_addRow 33 = .ok (.iconst 0, 1) := by decide +kernel
theorem dX12_addRow_34 : decode cX12_addRow 34 = .ok (.istore 5, 2) := by decide +kernel
theorem dX12_addRow_36 : decode cX12_addRow 36 = .ok (.iload 5, 2) := by decide +kernel
theorem dX12_addRow_38 : decode cX12_addRow 38 = .ok (.iload 4, 2) := by decide +kernel
theorem dX12_addRow_40 : decode cX12_addRow 40 = .ok (.if_icmp .ge 34, 3) := by decide +kernel
theorem dX12_addRow_43 : decode cX12_addRow 43 = .ok (.aload_n 0, 1) := by decide +kernel
theorem dX12_addRow_44 : decode cX12_addRow 44 = .ok (.getfield 7, 3) := by decide +kernel
theorem dX12_addRow_47 : decode cX12_addRow 47 = .ok (.iload_n 1, 1) := by decide +kernel
theorem dX12_addRow_48 : decode cX12_addRow 48 = .ok (.sipush 189, 3) := by decide +kernel
theorem dX12_addRow_51 : decode cX12_addRow 51 = .ok (.iadd, 1) := by decide +kernel
theorem dX12_addRow_52 : decode cX12_addRow 52 = .ok (.bipush 6, 2) := by decide +kernel
theorem dX12_addRow_54 : decode cX12_addRow 54 = .ok (.iload_n 2, 1) := by decide +kernel
theorem dX12_addRow_55 : decode cX12_addRow 55 = .ok (.imul, 1) := by decide +kernel
theorem dX12_addRow_56 : decode cX12_addRow 56 = .ok (.iadd, 1) := by decide +kernel
theorem dX12_addRow_57 : decode cX12_addRow 57 = .ok (.iload 5, 2) := by decide +kernel
theorem dX12_addRow_59 : decode cX12_addRow 59 = .ok (.iadd, 1) := by decide +kernel
theorem dX12_addRow_60 : decode cX12_addRow 60 = .ok (.iaload, 1) := by decide +kernel
theorem dX12_addRow_61 : decode cX12_addRow 61 = .ok (.iload_n 3, 1) := by decide +kernel
theorem dX12_addRow_62 : decode cX12_addRow 62 = .ok (.if_icmp .ne 6, 3) := by decide +kernel
theorem dX12_addRow_65 : decode cX12_addRow 65 = .ok (.bipush (-3), 2) := by decide +kernel
theorem dX12_addRow_67 : decode cX12_addRow 67 = .ok (.ireturn, 1) := by decide +kernel
theorem dX12_addRow_68 : decode cX12_addRow 68 = .ok (.iinc 5 1, 3) := by decide +kernel
theorem dX12_addRow_71 : decode cX12_addRow 71 = .ok (.goto (-35), 3) := by decide +kernel
theorem dX12_addRow_74 : decode cX12_addRow 74 = .ok (.iload 4, 2) := by decide +kernel
theorem dX12_addRow_76 : decode cX12_addRow 76 = .ok (.bipush 6, 2) := by decide +kernel
theorem dX12_addRow_78 : decode cX12_addRow 78 = .ok (.if_icmp .ne 6, 3) := by decide +kernel
theorem dX12_addRow_81 : decode cX12_addRow 81 = .ok (.bipush (-4), 2) := by decide +kernel
theorem dX12_addRow_83 : decode cX12_addRow 83 = .ok (.ireturn, 1) := by decide +kernel
theorem dX12_addRow_84 : decode cX12_addRow 84 = .ok (.aload_n 0, 1) := by decide +kernel
theorem dX12_addRow_85 : decode cX12_addRow 85 = .ok (.getfield 7, 3) := by decide +kernel
theorem dX12_addRow_88 : decode cX12_addRow 88 = .ok (.iload_n 1, 1) := by decide +kernel
theorem dX12_addRow_89 : decode cX12_addRow 89 = .ok (.sipush 189, 3) := by decide +kernel
theorem dX12_addRow_92 : decode cX12_addRow 92 = .ok (.iadd, 1) := by decide +kernel
theorem dX12_addRow_93 : decode cX12_addRow 93 = .ok (.bipush 6, 2) := by decide +kernel
theorem dX12_addRow_95 : decode cX12_addRow 95 = .ok (.iload_n 2, 1) := by decide +kernel
theorem dX12_addRow_96 : decode cX12_addRow 96 = .ok (.imul, 1) := by decide +kernel
theorem dX12_addRow_97 : decode cX12_addRow 97 = .ok (.iadd, 1) := by decide +kernel
theorem dX12_addRow_98 : decode cX12_addRow 98 = .ok (.iload 4, 2) := by decide +kernel
theorem dX12_addRow_100 : decode cX12_addRow 100 = .ok (.iadd, 1) := by decide +kernel
theorem dX12_addRow_101 : decode cX12_addRow 101 = .ok (.iload_n 3, 1) := by decide +kernel
theorem dX12_addRow_102 : decode cX12_addRow 102 = .ok (.iastore, 1) := by decide +kernel
theorem dX12_addRow_103 : decode cX12_addRow 103 = .ok (.aload_n 0, 1) := by decide +kernel
theorem dX12_addRow_104 : decode cX12_addRow 104 = .ok (.getfield 7, 3) := by decide +kernel
theorem dX12_addRow_107 : decode cX12_addRow 107 = .ok (.iload_n 1, 1) := by decide +kernel
theorem dX12_addRow_108 : decode cX12_addRow 108 = .ok (.sipush 187, 3) := by decide +kernel
theorem dX12_addRow_111 : decode cX12_addRow 111 = .ok (.iadd, 1) := by decide +kernel
theorem dX12_addRow_112 : decode cX12_addRow 112 = .ok (.iload_n 2, 1) := by decide +kernel
theorem dX12_addRow_113 : decode cX12_addRow 113 = .ok (.iadd, 1) := by decide +kernel
theorem dX12_addRow_114 : decode cX12_addRow 114 = .ok (.dup2, 1) := by decide +kernel
theorem dX12_addRow_115 : decode cX12_addRow 115 = .ok (.iaload, 1) := by decide +kernel
theorem dX12_addRow_116 : decode cX12_addRow 116 = .ok (.iconst 1, 1) := by decide +kernel
theorem dX12_addRow_117 : decode cX12_addRow 117 = .ok (.iadd, 1) := by decide +kernel
theorem dX12_addRow_118 : decode cX12_addRow 118 = .ok (.iastore, 1) := by decide +kernel
theorem dX12_addRow_119 : decode cX12_addRow 119 = .ok (.iload 4, 2) := by decide +kernel
theorem dX12_addRow_121 : decode cX12_addRow 121 = .ok (.iconst 1, 1) := by decide +kernel
theorem dX12_addRow_122 : decode cX12_addRow 122 = .ok (.iadd, 1) := by decide +kernel
theorem dX12_addRow_123 : decode cX12_addRow 123 = .ok (.ireturn, 1) := by decide +kernel
theorem bX12_addRow_0 {Z : ZT} {X : XT} {μ : Mu} {a1 : Int32} {a2 : Int32} {a3 : Int32} (E : Ent Z X mX12_addRow 0 0) {p : Int32 → Mu → Prop} 
    (c : CtrS Z mX12_isLot [.int a2] μ (rI p)) (k : ∀ v μ1, p v μ1 → JS Z X 4 [(0, .ref (Z.2.2.1 + 455)), (1, .int a1), (2, .int a2), (3, .int a3)] [.int v] μ1) :
    JS Z X 0 [(0, .ref (Z.2.2.1 + 455)), (1, .int a1), (2, .int a2), (3, .int a3)] [] μ := by
  refine J_iload_n E dX12_addRow_0 rfl ?_
  refine S_callS (As := [.int a2]) (rest := []) E dX12_addRow_1 c kX12_isLot ⟨Nat.le_of_ble_eq_true rfl, Nat.le_of_ble_eq_true rfl⟩ rfl (Nat.le_of_ble_eq_true rfl) w6_138 w6_139 (fun r_ μ1 hp_ => ?_)
  obtain ⟨v, rfl, hp_⟩ := hp_
  exact k v μ1 hp_
theorem bX12_addRow_4 {Z : ZT} {X : XT} {μ : Mu} {a1 : Int32} {a2 : Int32} {a3 : Int32} {s0 : Int32} (E : Ent Z X mX12_addRow 0 0)  
    (kt : s0 = 0 → JS Z X 16 [] [] μ) (kf : ¬ (s0 = 0) → JS Z X 7 [(0, .ref (Z.2.2.1 + 455)), (1, .int a1), (2, .int a2), (3, .int a3)] [] μ) :
    JS Z X 4 [(0, .ref (Z.2.2.1 + 455)), (1, .int a1), (2, .int a2), (3, .int a3)] [.int s0] μ := by
  refine J_if_eq (tgt := 16) E dX12_addRow_4 (by decide) (fun c => ?_) (fun c => ?_)
  · refine J.weak [] rfl ?_
    exact kt c
  · exact kf c
theorem bX12_addRow_7 {Z : ZT} {X : XT} {μ : Mu} {a1 : Int32} {a2 : Int32} {a3 : Int32} (E : Ent Z X mX12_addRow 0 0) {p : Int32 → Mu → Prop} 
    (c : CtrS Z mX12_isSlip [.ref (Z.2.2.1 + 455), .int a1, .int a3] μ (rI p)) (k : ∀ v μ1, p v μ1 → JS Z X 13 [(0, .ref (Z.2.2.1 + 455)), (1, .int a1), (2, .int a2), (3, .int a3)] [.int v] μ1) :
    JS Z X 7 [(0, .ref (Z.2.2.1 + 455)), (1, .int a1), (2, .int a2), (3, .int a3)] [] μ := by
  refine J_aload_n E dX12_addRow_7 rfl ?_
  refine J_iload_n E dX12_addRow_8 rfl ?_
  refine J_iload_n E dX12_addRow_9 rfl ?_
  refine S_callV (As := [.int a1, .int a3]) (rest := []) E dX12_addRow_10 c kX12_isSlip ⟨Nat.le_of_ble_eq_true rfl, Nat.le_of_ble_eq_true rfl⟩ rfl (Nat.le_of_ble_eq_true rfl) sh455 rfl rfl w6_118 w6_120 wp_39 (fun r_ μ1 hp_ => ?_)
  obtain ⟨v, rfl, hp_⟩ := hp_
  exact k v μ1 hp_
theorem bX12_addRow_13 {Z : ZT} {X : XT} {μ : Mu} {a1 : Int32} {a2 : Int32} {a3 : Int32} {s0 : Int32} (E : Ent Z X mX12_addRow 0 0)  
    (kt : ¬ s0 = 0 → JS Z X 19 [(0, .ref (Z.2.2.1 + 455)), (1, .int a1), (2, .int a2), (3, .int a3)] [] μ) (kf : s0 = 0 → JS Z X 16 [] [] μ) :
    JS Z X 13 [(0, .ref (Z.2.2.1 + 455)), (1, .int a1), (2, .int a2), (3, .int a3)] [.int s0] μ := by
  refine J_if_ne (tgt := 19) E dX12_addRow_13 (by decide) (fun c => ?_) (fun c => ?_)
  · exact kt c
  · refine J.weak [] rfl ?_
    exact kf c
theorem bX12_addRow_16 {Z : ZT} {X : XT} {μ : Mu} (E : Ent Z X mX12_addRow 0 0) {P : Option Value → Mu → Prop} (hB : BodS Z X P) 
    (k : P (some (.int (-2))) μ) :
    JS Z X 16 [] [] μ := by
  refine J_bipush (v := -2) E dX12_addRow_16 rfl ?_
  exact S_iret E hB dX12_addRow_18 rfl k
theorem bX12_addRow_19 {Z : ZT} {X : XT} {μ : Mu} {a1 : Int32} {a2 : Int32} {a3 : Int32} (E : Ent Z X mX12_addRow 0 0)  (s1_ : vp_in ((a1 + (nI 187)) + a2) 988)
    (k : JS Z X 36 [(0, .ref (Z.2.2.1 + 455)), (1, .int a1), (2, .int a2), (3, .int a3), (4, .int (μ 456 (ix ((a1 + (nI 187)) + a2)))), (5, .int (nI 0))] [] μ) :
    JS Z X 19 [(0, .ref (Z.2.2.1 + 455)), (1, .int a1), (2, .int a2), (3, .int a3)] [] μ := by
  refine J_aload_n E dX12_addRow_19 rfl ?_
  refine S_get (ci := 12) (q := 0) (v := .ref (Z.2.2.1 + 456)) E dX12_addRow_20 fs_X12_7 sh455 rfl ?_
  refine J_iload_n E dX12_addRow_23 rfl ?_
  refine J_sipush (v := nI 187) E dX12_addRow_24 rfl ?_
  refine J_iadd E dX12_addRow_27 ?_
  refine J_iload_n E dX12_addRow_28 rfl ?_
  refine J_iadd E dX12_addRow_29 ?_
  refine S_iald E dX12_addRow_30 sh456 s1_ ?_
  refine J_istore (lv' := [(0, .ref (Z.2.2.1 + 455)), (1, .int a1), (2, .int a2), (3, .int a3), (4, .int (μ 456 (ix ((a1 + (nI 187)) + a2))))]) E dX12_addRow_31 (Nat.le_of_ble_eq_true rfl) rfl ?_
  refine J_iconst (v := nI 0) E dX12_addRow_33 rfl ?_
  refine J_istore (lv' := [(0, .ref (Z.2.2.1 + 455)), (1, .int a1), (2, .int a2), (3, .int a3), (4, .int (μ 456 (ix ((a1 + (nI 187)) + a2)))), (5, .int (nI 0))]) E dX12_addRow_34 (Nat.le_of_ble_eq_true rfl) rfl ?_
  exact k
theorem bX12_addRow_36 {Z : ZT} {X : XT} {μ : Mu} {a1 : Int32} {a2 : Int32} {a3 : Int32} {a4 : Int32} {a5 : Int32} (E : Ent Z X mX12_addRow 0 0)  
    (kt : a4 ≤ a5 → JS Z X 74 [(0, .ref (Z.2.2.1 + 455)), (1, .int a1), (2, .int a2), (3, .int a3), (4, .int a4)] [] μ) (kf : ¬ (a4 ≤ a5) → JS Z X 43 [(0, .ref (Z.2.2.1 + 455)), (1, .int a1), (2, .int a2), (3, .int a3), (4, .int a4), (5, .int a5)] [] μ) :
    JS Z X 36 [(0, .ref (Z.2.2.1 + 455)), (1, .int a1), (2, .int a2), (3, .int a3), (4, .int a4), (5, .int a5)] [] μ := by
  refine J_iload E dX12_addRow_36 rfl ?_
  refine J_iload E dX12_addRow_38 rfl ?_
  refine J_icmp_ge (tgt := 74) E dX12_addRow_40 (by decide) (fun c => ?_) (fun c => ?_)
  · refine J.weak [0, 1, 2, 3, 4] rfl ?_
    exact kt c
  · exact kf c
theorem bX12_addRow_43 {Z : ZT} {X : XT} {μ : Mu} {a1 : Int32} {a2 : Int32} {a3 : Int32} {a4 : Int32} {a5 : Int32} (E : Ent Z X mX12_addRow 0 0)  (s1_ : vp_in (((a1 + (nI 189)) + ((nI 6) * a2)) + a5) 988)
    (kt : ¬ (μ 456 (ix (((a1 + (nI 189)) + ((nI 6) * a2)) + a5))) = a3 → JS Z X 68 [(0, .ref (Z.2.2.1 + 455)), (1, .int a1), (2, .int a2), (3, .int a3), (4, .int a4), (5, .int a5)] [] μ) (kf : (μ 456 (ix (((a1 + (nI 189)) + ((nI 6) * a2)) + a5))) = a3 → JS Z X 65 [] [] μ) :
    JS Z X 43 [(0, .ref (Z.2.2.1 + 455)), (1, .int a1), (2, .int a2), (3, .int a3), (4, .int a4), (5, .int a5)] [] μ := by
  refine J_aload_n E dX12_addRow_43 rfl ?_
  refine S_get (ci := 12) (q := 0) (v := .ref (Z.2.2.1 + 456)) E dX12_addRow_44 fs_X12_7 sh455 rfl ?_
  refine J_iload_n E dX12_addRow_47 rfl ?_
  refine J_sipush (v := nI 189) E dX12_addRow_48 rfl ?_
  refine J_iadd E dX12_addRow_51 ?_
  refine J_bipush (v := nI 6) E dX12_addRow_52 rfl ?_
  refine J_iload_n E dX12_addRow_54 rfl ?_
  refine J_imul E dX12_addRow_55 ?_
  refine J_iadd E dX12_addRow_56 ?_
  refine J_iload E dX12_addRow_57 rfl ?_
  refine J_iadd E dX12_addRow_59 ?_
  refine S_iald E dX12_addRow_60 sh456 s1_ ?_
  refine J_iload_n E dX12_addRow_61 rfl ?_
  refine J_icmp_ne (tgt := 68) E dX12_addRow_62 (by decide) (fun c => ?_) (fun c => ?_)
  · exact kt c
  · refine J.weak [] rfl ?_
    exact kf c
theorem bX12_addRow_65 {Z : ZT} {X : XT} {μ : Mu} (E : Ent Z X mX12_addRow 0 0) {P : Option Value → Mu → Prop} (hB : BodS Z X P) 
    (k : P (some (.int (-3))) μ) :
    JS Z X 65 [] [] μ := by
  refine J_bipush (v := -3) E dX12_addRow_65 rfl ?_
  exact S_iret E hB dX12_addRow_67 rfl k
theorem bX12_addRow_68 {Z : ZT} {X : XT} {μ : Mu} {a1 : Int32} {a2 : Int32} {a3 : Int32} {a4 : Int32} {a5 : Int32} (E : Ent Z X mX12_addRow 0 0)  
    (k : JS Z X 36 [(0, .ref (Z.2.2.1 + 455)), (1, .int a1), (2, .int a2), (3, .int a3), (4, .int a4), (5, .int (a5 + nI 1))] [] μ) :
    JS Z X 68 [(0, .ref (Z.2.2.1 + 455)), (1, .int a1), (2, .int a2), (3, .int a3), (4, .int a4), (5, .int a5)] [] μ := by
  refine J_iinc (v := a5 + nI 1) (lv' := [(0, .ref (Z.2.2.1 + 455)), (1, .int a1), (2, .int a2), (3, .int a3), (4, .int a4), (5, .int (a5 + nI 1))]) E dX12_addRow_68 rfl rfl (Nat.le_of_ble_eq_true rfl) rfl ?_
  refine J_goto (tgt := 36) E dX12_addRow_71 (by decide) ?_
  exact k
theorem bX12_addRow_74 {Z : ZT} {X : XT} {μ : Mu} {a1 : Int32} {a2 : Int32} {a3 : Int32} {a4 : Int32} (E : Ent Z X mX12_addRow 0 0)  
    (kt : ¬ a4 = (nI 6) → JS Z X 84 [(0, .ref (Z.2.2.1 + 455)), (1, .int a1), (2, .int a2), (3, .int a3), (4, .int a4)] [] μ) (kf : a4 = (nI 6) → JS Z X 81 [] [] μ) :
    JS Z X 74 [(0, .ref (Z.2.2.1 + 455)), (1, .int a1), (2, .int a2), (3, .int a3), (4, .int a4)] [] μ := by
  refine J_iload E dX12_addRow_74 rfl ?_
  refine J_bipush (v := nI 6) E dX12_addRow_76 rfl ?_
  refine J_icmp_ne (tgt := 84) E dX12_addRow_78 (by decide) (fun c => ?_) (fun c => ?_)
  · exact kt c
  · refine J.weak [] rfl ?_
    exact kf c
theorem bX12_addRow_81 {Z : ZT} {X : XT} {μ : Mu} (E : Ent Z X mX12_addRow 0 0) {P : Option Value → Mu → Prop} (hB : BodS Z X P) 
    (k : P (some (.int (-4))) μ) :
    JS Z X 81 [] [] μ := by
  refine J_bipush (v := -4) E dX12_addRow_81 rfl ?_
  exact S_iret E hB dX12_addRow_83 rfl k
theorem bX12_addRow_84 {Z : ZT} {X : XT} {μ : Mu} {a1 : Int32} {a2 : Int32} {a3 : Int32} {a4 : Int32} (E : Ent Z X mX12_addRow 0 0)  (s1_ : vp_in (((a1 + (nI 189)) + ((nI 6) * a2)) + a4) 988)
    (k : JS Z X 103 [(0, .ref (Z.2.2.1 + 455)), (1, .int a1), (2, .int a2), (4, .int a4)] [] (uR μ 456 (upd (μ 456) (ix (((a1 + (nI 189)) + ((nI 6) * a2)) + a4)) a3))) :
    JS Z X 84 [(0, .ref (Z.2.2.1 + 455)), (1, .int a1), (2, .int a2), (3, .int a3), (4, .int a4)] [] μ := by
  refine J_aload_n E dX12_addRow_84 rfl ?_
  refine S_get (ci := 12) (q := 0) (v := .ref (Z.2.2.1 + 456)) E dX12_addRow_85 fs_X12_7 sh455 rfl ?_
  refine J_iload_n E dX12_addRow_88 rfl ?_
  refine J_sipush (v := nI 189) E dX12_addRow_89 rfl ?_
  refine J_iadd E dX12_addRow_92 ?_
  refine J_bipush (v := nI 6) E dX12_addRow_93 rfl ?_
  refine J_iload_n E dX12_addRow_95 rfl ?_
  refine J_imul E dX12_addRow_96 ?_
  refine J_iadd E dX12_addRow_97 ?_
  refine J_iload E dX12_addRow_98 rfl ?_
  refine J_iadd E dX12_addRow_100 ?_
  refine J_iload_n E dX12_addRow_101 rfl ?_
  refine S_iast E dX12_addRow_102 sh456 s1_ ?_
  refine J.weak [0, 1, 2, 4] rfl ?_
  exact k
theorem bX12_addRow_103 {Z : ZT} {X : XT} {μ : Mu} {a1 : Int32} {a2 : Int32} {a4 : Int32} (E : Ent Z X mX12_addRow 0 0)  (s1_ : vp_in ((a1 + (nI 187)) + a2) 988) (s2_ : vp_in ((a1 + (nI 187)) + a2) 988)
    (k : JS Z X 119 [(4, .int a4)] [] (uR μ 456 (upd (μ 456) (ix ((a1 + (nI 187)) + a2)) ((μ 456 (ix ((a1 + (nI 187)) + a2))) + (nI 1))))) :
    JS Z X 103 [(0, .ref (Z.2.2.1 + 455)), (1, .int a1), (2, .int a2), (4, .int a4)] [] μ := by
  refine J_aload_n E dX12_addRow_103 rfl ?_
  refine S_get (ci := 12) (q := 0) (v := .ref (Z.2.2.1 + 456)) E dX12_addRow_104 fs_X12_7 sh455 rfl ?_
  refine J_iload_n E dX12_addRow_107 rfl ?_
  refine J_sipush (v := nI 187) E dX12_addRow_108 rfl ?_
  refine J_iadd E dX12_addRow_111 ?_
  refine J_iload_n E dX12_addRow_112 rfl ?_
  refine J_iadd E dX12_addRow_113 ?_
  refine J_dup2_11 E dX12_addRow_114 rfl rfl ?_
  refine S_iald E dX12_addRow_115 sh456 s1_ ?_
  refine J_iconst (v := nI 1) E dX12_addRow_116 rfl ?_
  refine J_iadd E dX12_addRow_117 ?_
  refine S_iast E dX12_addRow_118 sh456 s2_ ?_
  refine J.weak [3] rfl ?_
  exact k
theorem bX12_addRow_119 {Z : ZT} {X : XT} {μ : Mu} {a4 : Int32} (E : Ent Z X mX12_addRow 0 0) {P : Option Value → Mu → Prop} (hB : BodS Z X P) 
    (k : P (some (.int (a4 + (nI 1)))) μ) :
    JS Z X 119 [(4, .int a4)] [] μ := by
  refine J_iload E dX12_addRow_119 rfl ?_
  refine J_iconst (v := nI 1) E dX12_addRow_121 rfl ?_
  refine J_iadd E dX12_addRow_122 ?_
  exact S_iret E hB dX12_addRow_123 rfl k
theorem dX12_place_0 : decode cX12_place 0 = .ok (.aload_n 0, 1) := by decide +kernel
theorem dX12_place_1 : decode cX12_place 1 = .ok (.aload_n 0, 1) := by decide +kernel
theorem dX12_place_2 : decode cX12_place 2 = .ok (.iconst 0, 1) := by decide +kernel
theorem dX12_place_3 : decode cX12_place 3 = .ok (.invokevirtual 89, 3) := by decide +kernel
theorem dX12_place_6 : decode cX12_place 6 = .ok (.invokevirtual 63, 3) := by decide +kernel
theorem dX12_place_9 : decode cX12_place 9 = .ok (.ireturn, 1) := by decide +kernel
theorem bX12_place_0 {Z : ZT} {X : XT} {μ : Mu} (E : Ent Z X mX12_place 0 0) {p : Int32 → Mu → Prop} 
    (c : CtrS Z mX12_addPlace [.ref (Z.2.2.1 + 455), .int (nI 0)] μ (rI p)) (k : ∀ v μ1, p v μ1 → JS Z X 6 [] [.int v, .ref (Z.2.2.1 + 455)] μ1) :
    JS Z X 0 [(0, .ref (Z.2.2.1 + 455))] [] μ := by
  refine J_aload_n E dX12_place_0 rfl ?_
  refine J_aload_n E dX12_place_1 rfl ?_
  refine J_iconst (v := nI 0) E dX12_place_2 rfl ?_
  refine S_callV (As := [.int (nI 0)]) (rest := [.ref (Z.2.2.1 + 455)]) E dX12_place_3 c kX12_addPlace ⟨Nat.le_of_ble_eq_true rfl, Nat.le_of_ble_eq_true rfl⟩ rfl (Nat.le_of_ble_eq_true rfl) sh455 rfl rfl w6_47 w6_49 wp_29 (fun r_ μ1 hp_ => ?_)
  obtain ⟨v, rfl, hp_⟩ := hp_
  refine J.weak [] rfl ?_
  exact k v μ1 hp_
theorem bX12_place_6 {Z : ZT} {X : XT} {μ : Mu} {s1 : Int32} (E : Ent Z X mX12_place 0 0) {p : Int32 → Mu → Prop} 
    (c : CtrS Z mX12_refuse [.ref (Z.2.2.1 + 455), .int s1] μ (rI p)) (k : ∀ v μ1, p v μ1 → JS Z X 9 [] [.int v] μ1) :
    JS Z X 6 [] [.int s1, .ref (Z.2.2.1 + 455)] μ := by
  refine S_callV (As := [.int s1]) (rest := []) E dX12_place_6 c kX12_refuse ⟨Nat.le_of_ble_eq_true rfl, Nat.le_of_ble_eq_true rfl⟩ rfl (Nat.le_of_ble_eq_true rfl) sh455 rfl rfl w6_51 w6_53 wp_30 (fun r_ μ1 hp_ => ?_)
  obtain ⟨v, rfl, hp_⟩ := hp_
  exact k v μ1 hp_
theorem bX12_place_9 {Z : ZT} {X : XT} {μ : Mu} {s0 : Int32} (E : Ent Z X mX12_place 0 0) {P : Option Value → Mu → Prop} (hB : BodS Z X P) 
    (k : P (some (.int s0)) μ) :
    JS Z X 9 [] [.int s0] μ := by
  exact S_iret E hB dX12_place_9 rfl k
theorem dX12_way_0 : decode cX12_way 0 = .ok (.aload_n 0, 1) := by decide +kernel
theorem dX12_way_1 : decode cX12_way 1 = .ok (.aload_n 0, 1) := by decide +kernel
theorem dX12_way_2 : decode cX12_way 2 = .ok (.iconst 0, 1) := by decide +kernel
theorem dX12_way_3 : decode cX12_way 3 = .ok (.iload_n 1, 1) := by decide +kernel
theorem dX12_way_4 : decode cX12_way 4 = .ok (.iload_n 2, 1) := by decide +kernel
theorem dX12_way_5 : decode cX12_way 5 = .ok (.iload_n 3, 1) := by decide +kernel
theorem dX12_way_6 : decode cX12_way 6 = .ok (.invokevirtual 92, 3) := by decide +kernel
theorem dX12_way_9 : decode cX12_way 9 = .ok (.invokevirtual 63, 3) := by decide +kernel
theorem dX12_way_12 : decode cX12_way 12 = .ok (.ireturn, 1) := by decide +kernel
theorem bX12_way_0 {Z : ZT} {X : XT} {μ : Mu} {a1 : Int32} {a2 : Int32} {a3 : Int32} (E : Ent Z X mX12_way 0 0) {p : Int32 → Mu → Prop} 
    (c : CtrS Z mX12_setWay [.ref (Z.2.2.1 + 455), .int (nI 0), .int a1, .int a2, .int a3] μ (rI p)) (k : ∀ v μ1, p v μ1 → JS Z X 9 [] [.int v, .ref (Z.2.2.1 + 455)] μ1) :
    JS Z X 0 [(0, .ref (Z.2.2.1 + 455)), (1, .int a1), (2, .int a2), (3, .int a3)] [] μ := by
  refine J_aload_n E dX12_way_0 rfl ?_
  refine J_aload_n E dX12_way_1 rfl ?_
  refine J_iconst (v := nI 0) E dX12_way_2 rfl ?_
  refine J_iload_n E dX12_way_3 rfl ?_
  refine J_iload_n E dX12_way_4 rfl ?_
  refine J_iload_n E dX12_way_5 rfl ?_
  refine S_callV (As := [.int (nI 0), .int a1, .int a2, .int a3]) (rest := [.ref (Z.2.2.1 + 455)]) E dX12_way_6 c kX12_setWay ⟨Nat.le_of_ble_eq_true rfl, Nat.le_of_ble_eq_true rfl⟩ rfl (Nat.le_of_ble_eq_true rfl) sh455 rfl rfl w6_59 w6_61 wp_31 (fun r_ μ1 hp_ => ?_)
  obtain ⟨v, rfl, hp_⟩ := hp_
  refine J.weak [] rfl ?_
  exact k v μ1 hp_
theorem bX12_way_9 {Z : ZT} {X : XT} {μ : Mu} {s1 : Int32} (E : Ent Z X mX12_way 0 0) {p : Int32 → Mu → Prop} 
    (c : CtrS Z mX12_refuse [.ref (Z.2.2.1 + 455), .int s1] μ (rI p)) (k : ∀ v μ1, p v μ1 → JS Z X 12 [] [.int v] μ1) :
    JS Z X 9 [] [.int s1, .ref (Z.2.2.1 + 455)] μ := by
  refine S_callV (As := [.int s1]) (rest := []) E dX12_way_9 c kX12_refuse ⟨Nat.le_of_ble_eq_true rfl, Nat.le_of_ble_eq_true rfl⟩ rfl (Nat.le_of_ble_eq_true rfl) sh455 rfl rfl w6_51 w6_53 wp_30 (fun r_ μ1 hp_ => ?_)
  obtain ⟨v, rfl, hp_⟩ := hp_
  exact k v μ1 hp_
theorem bX12_way_12 {Z : ZT} {X : XT} {μ : Mu} {s0 : Int32} (E : Ent Z X mX12_way 0 0) {P : Option Value → Mu → Prop} (hB : BodS Z X P) 
    (k : P (some (.int s0)) μ) :
    JS Z X 12 [] [.int s0] μ := by
  exact S_iret E hB dX12_way_12 rfl k
theorem dX12_sees_0 : decode cX12_sees 0 = .ok (.aload_n 0, 1) := by decide +kernel
theorem dX12_sees_1 : decode cX12_sees 1 = .ok (.aload_n 0, 1) := by decide +kernel
theorem dX12_sees_2 : decode cX12_sees 2 = .ok (.iconst 0, 1) := by decide +kernel
theorem dX12_sees_3 : decode cX12_sees 3 = .ok (.iload_n 1, 1) := by decide +kernel
theorem dX12_sees_4 : decode cX12_sees 4 = .ok (.iload_n 2, 1) := by decide +kernel
theorem dX12_sees_5 : decode cX12_sees 5 = .ok (.invokevirtual 96, 3) := by decide +kernel
theorem dX12_sees_8 : decode cX12_sees 8 = .ok (.invokevirtual 63, 3) := by decide +kernel
theorem dX12_sees_11 : decode cX12_sees 11 = .ok (.ireturn, 1) := by decide +kernel
theorem bX12_sees_0 {Z : ZT} {X : XT} {μ : Mu} {a1 : Int32} {a2 : Int32} (E : Ent Z X mX12_sees 0 0) {p : Int32 → Mu → Prop} 
    (c : CtrS Z mX12_setSeen [.ref (Z.2.2.1 + 455), .int (nI 0), .int a1, .int a2] μ (rI p)) (k : ∀ v μ1, p v μ1 → JS Z X 8 [] [.int v, .ref (Z.2.2.1 + 455)] μ1) :
    JS Z X 0 [(0, .ref (Z.2.2.1 + 455)), (1, .int a1), (2, .int a2)] [] μ := by
  refine J_aload_n E dX12_sees_0 rfl ?_
  refine J_aload_n E dX12_sees_1 rfl ?_
  refine J_iconst (v := nI 0) E dX12_sees_2 rfl ?_
  refine J_iload_n E dX12_sees_3 rfl ?_
  refine J_iload_n E dX12_sees_4 rfl ?_
  refine S_callV (As := [.int (nI 0), .int a1, .int a2]) (rest := [.ref (Z.2.2.1 + 455)]) E dX12_sees_5 c kX12_setSeen ⟨Nat.le_of_ble_eq_true rfl, Nat.le_of_ble_eq_true rfl⟩ rfl (Nat.le_of_ble_eq_true rfl) sh455 rfl rfl w6_74 w6_76 wp_33 (fun r_ μ1 hp_ => ?_)
  obtain ⟨v, rfl, hp_⟩ := hp_
  refine J.weak [] rfl ?_
  exact k v μ1 hp_
theorem bX12_sees_8 {Z : ZT} {X : XT} {μ : Mu} {s1 : Int32} (E : Ent Z X mX12_sees 0 0) {p : Int32 → Mu → Prop} 
    (c : CtrS Z mX12_refuse [.ref (Z.2.2.1 + 455), .int s1] μ (rI p)) (k : ∀ v μ1, p v μ1 → JS Z X 11 [] [.int v] μ1) :
    JS Z X 8 [] [.int s1, .ref (Z.2.2.1 + 455)] μ := by
  refine S_callV (As := [.int s1]) (rest := []) E dX12_sees_8 c kX12_refuse ⟨Nat.le_of_ble_eq_true rfl, Nat.le_of_ble_eq_true rfl⟩ rfl (Nat.le_of_ble_eq_true rfl) sh455 rfl rfl w6_51 w6_53 wp_30 (fun r_ μ1 hp_ => ?_)
  obtain ⟨v, rfl, hp_⟩ := hp_
  exact k v μ1 hp_
theorem bX12_sees_11 {Z : ZT} {X : XT} {μ : Mu} {s0 : Int32} (E : Ent Z X mX12_sees 0 0) {P : Option Value → Mu → Prop} (hB : BodS Z X P) 
    (k : P (some (.int s0)) μ) :
    JS Z X 11 [] [.int s0] μ := by
  exact S_iret E hB dX12_sees_11 rfl k
theorem dX12_child_0 : decode cX12_child 0 = .ok (.aload_n 0, 1) := by decide +kernel
theorem dX12_child_1 : decode cX12_child 1 = .ok (.aload_n 0, 1) := by decide +kernel
theorem dX12_child_2 : decode cX12_child 2 = .ok (.iconst 0, 1) := by decide +kernel
theorem dX12_child_3 : decode cX12_child 3 = .ok (.iload_n 1, 1) := by decide +kernel
theorem dX12_child_4 : decode cX12_child 4 = .ok (.ifCond .eq 7, 3) := by decide +kernel
theorem dX12_child_7 : decode cX12_child 7 = .ok (.iconst 1, 1) := by decide +kernel
theorem dX12_child_8 : decode cX12_child 8 = .ok (.goto 4, 3) := by decide +kernel
theorem dX12_child_11 : decode cX12_child 11 = .ok (.iconst 0, 1) := by decide +kernel
theorem dX12_child_12 : decode cX12_child 12 = .ok (.iload_n 2, 1) := by decide +kernel
theorem dX12_child_13 : decode cX12_child 13 = .ok (.iload_n 3, 1) := by decide +kernel
theorem dX12_child_14 : decode cX12_child 14 = .ok (.iload 4, 2) := by decide +kernel
theorem dX12_child_16 : decode cX12_child 16 = .ok (.iload 5, 2) := by decide +kernel
theorem dX12_child_18 : decode cX12_child 18 = .ok (.invokevirtual 100, 3) := by decide +kernel
theorem dX12_child_21 : decode cX12_child 21 = .ok (.invokevirtual 63, 3) := by decide +kernel
theorem dX12_child_24 : decode cX12_child 24 = .ok (.ireturn, 1) := by decide +kernel
theorem bX12_child_0 {Z : ZT} {X : XT} {μ : Mu} {a1 : Int32} {a2 : Int32} {a3 : Int32} {a4 : Int32} {a5 : Int32} (E : Ent Z X mX12_child 0 0)  
    (kt : a1 = 0 → JS Z X 11 [(2, .int a2), (3, .int a3), (4, .int a4), (5, .int a5)] [.int (nI 0), .ref (Z.2.2.1 + 455), .ref (Z.2.2.1 + 455)] μ) (kf : ¬ (a1 = 0) → JS Z X 7 [(2, .int a2), (3, .int a3), (4, .int a4), (5, .int a5)] [.int (nI 0), .ref (Z.2.2.1 + 455), .ref (Z.2.2.1 + 455)] μ) :
    JS Z X 0 [(0, .ref (Z.2.2.1 + 455)), (1, .int a1), (2, .int a2), (3, .int a3), (4, .int a4), (5, .int a5)] [] μ := by
  refine J_aload_n E dX12_child_0 rfl ?_
  refine J_aload_n E dX12_child_1 rfl ?_
  refine J_iconst (v := nI 0) E dX12_child_2 rfl ?_
  refine J_iload_n E dX12_child_3 rfl ?_
  refine J_if_eq (tgt := 11) E dX12_child_4 (by decide) (fun c => ?_) (fun c => ?_)
  · refine J.weak [2, 3, 4, 5] rfl ?_
    exact kt c
  · refine J.weak [2, 3, 4, 5] rfl ?_
    exact kf c
theorem bX12_child_7 {Z : ZT} {X : XT} {μ : Mu} {a2 : Int32} {a3 : Int32} {a4 : Int32} {a5 : Int32} {s2 : Int32} (E : Ent Z X mX12_child 0 0)  
    (k : JS Z X 12 [(2, .int a2), (3, .int a3), (4, .int a4), (5, .int a5)] [.int (nI 1), .int s2, .ref (Z.2.2.1 + 455), .ref (Z.2.2.1 + 455)] μ) :
    JS Z X 7 [(2, .int a2), (3, .int a3), (4, .int a4), (5, .int a5)] [.int s2, .ref (Z.2.2.1 + 455), .ref (Z.2.2.1 + 455)] μ := by
  refine J_iconst (v := nI 1) E dX12_child_7 rfl ?_
  refine J_goto (tgt := 12) E dX12_child_8 (by decide) ?_
  exact k
theorem bX12_child_11 {Z : ZT} {X : XT} {μ : Mu} {a2 : Int32} {a3 : Int32} {a4 : Int32} {a5 : Int32} {s2 : Int32} (E : Ent Z X mX12_child 0 0)  
    (k : JS Z X 12 [(2, .int a2), (3, .int a3), (4, .int a4), (5, .int a5)] [.int (nI 0), .int s2, .ref (Z.2.2.1 + 455), .ref (Z.2.2.1 + 455)] μ) :
    JS Z X 11 [(2, .int a2), (3, .int a3), (4, .int a4), (5, .int a5)] [.int s2, .ref (Z.2.2.1 + 455), .ref (Z.2.2.1 + 455)] μ := by
  refine J_iconst (v := nI 0) E dX12_child_11 rfl ?_
  exact k
theorem bX12_child_12 {Z : ZT} {X : XT} {μ : Mu} {a2 : Int32} {a3 : Int32} {a4 : Int32} {a5 : Int32} {s2 : Int32} {s3 : Int32} (E : Ent Z X mX12_child 0 0) {p : Int32 → Mu → Prop} 
    (c : CtrS Z mX12_addChild [.ref (Z.2.2.1 + 455), .int s2, .int s3, .int a2, .int a3, .int a4, .int a5] μ (rI p)) (k : ∀ v μ1, p v μ1 → JS Z X 21 [] [.int v, .ref (Z.2.2.1 + 455)] μ1) :
    JS Z X 12 [(2, .int a2), (3, .int a3), (4, .int a4), (5, .int a5)] [.int s3, .int s2, .ref (Z.2.2.1 + 455), .ref (Z.2.2.1 + 455)] μ := by
  refine J_iload_n E dX12_child_12 rfl ?_
  refine J_iload_n E dX12_child_13 rfl ?_
  refine J_iload E dX12_child_14 rfl ?_
  refine J_iload E dX12_child_16 rfl ?_
  refine S_callV (As := [.int s2, .int s3, .int a2, .int a3, .int a4, .int a5]) (rest := [.ref (Z.2.2.1 + 455)]) E dX12_child_18 c kX12_addChild ⟨Nat.le_of_ble_eq_true rfl, Nat.le_of_ble_eq_true rfl⟩ rfl (Nat.le_of_ble_eq_true rfl) sh455 rfl rfl w6_86 w6_88 wp_35 (fun r_ μ1 hp_ => ?_)
  obtain ⟨v, rfl, hp_⟩ := hp_
  refine J.weak [] rfl ?_
  exact k v μ1 hp_
theorem bX12_child_21 {Z : ZT} {X : XT} {μ : Mu} {s1 : Int32} (E : Ent Z X mX12_child 0 0) {p : Int32 → Mu → Prop} 
    (c : CtrS Z mX12_refuse [.ref (Z.2.2.1 + 455), .int s1] μ (rI p)) (k : ∀ v μ1, p v μ1 → JS Z X 24 [] [.int v] μ1) :
    JS Z X 21 [] [.int s1, .ref (Z.2.2.1 + 455)] μ := by
  refine S_callV (As := [.int s1]) (rest := []) E dX12_child_21 c kX12_refuse ⟨Nat.le_of_ble_eq_true rfl, Nat.le_of_ble_eq_true rfl⟩ rfl (Nat.le_of_ble_eq_true rfl) sh455 rfl rfl w6_51 w6_53 wp_30 (fun r_ μ1 hp_ => ?_)
  obtain ⟨v, rfl, hp_⟩ := hp_
  exact k v μ1 hp_
theorem bX12_child_24 {Z : ZT} {X : XT} {μ : Mu} {s0 : Int32} (E : Ent Z X mX12_child 0 0) {P : Option Value → Mu → Prop} (hB : BodS Z X P) 
    (k : P (some (.int s0)) μ) :
    JS Z X 24 [] [.int s0] μ := by
  exact S_iret E hB dX12_child_24 rfl k
theorem dX12_bar_0 : decode cX12_bar 0 = .ok (.aload_n 0, 1) := by decide +kernel
theorem dX12_bar_1 : decode cX12_bar 1 = .ok (.aload_n 0, 1) := by decide +kernel
theorem dX12_bar_2 : decode cX12_bar 2 = .ok (.iconst 0, 1) := by decide +kernel
theorem dX12_bar_3 : decode cX12_bar 3 = .ok (.iload_n 1, 1) := by decide +kernel
theorem dX12_bar_4 : decode cX12_bar 4 = .ok (.iload_n 2, 1) := by decide +kernel
theorem dX12_bar_5 : decode cX12_bar 5 = .ok (.invokevirtual 104, 3) := by decide +kernel
theorem dX12_bar_8 : decode cX12_bar 8 = .ok (.invokevirtual 63, 3) := by decide +kernel
theorem dX12_bar_11 : decode cX12_bar 11 = .ok (.ireturn, 1) := by decide +kernel
theorem bX12_bar_0 {Z : ZT} {X : XT} {μ : Mu} {a1 : Int32} {a2 : Int32} (E : Ent Z X mX12_bar 0 0) {p : Int32 → Mu → Prop} 
    (c : CtrS Z mX12_setBar [.ref (Z.2.2.1 + 455), .int (nI 0), .int a1, .int a2] μ (rI p)) (k : ∀ v μ1, p v μ1 → JS Z X 8 [] [.int v, .ref (Z.2.2.1 + 455)] μ1) :
    JS Z X 0 [(0, .ref (Z.2.2.1 + 455)), (1, .int a1), (2, .int a2)] [] μ := by
  refine J_aload_n E dX12_bar_0 rfl ?_
  refine J_aload_n E dX12_bar_1 rfl ?_
  refine J_iconst (v := nI 0) E dX12_bar_2 rfl ?_
  refine J_iload_n E dX12_bar_3 rfl ?_
  refine J_iload_n E dX12_bar_4 rfl ?_
  refine S_callV (As := [.int (nI 0), .int a1, .int a2]) (rest := [.ref (Z.2.2.1 + 455)]) E dX12_bar_5 c kX12_setBar ⟨Nat.le_of_ble_eq_true rfl, Nat.le_of_ble_eq_true rfl⟩ rfl (Nat.le_of_ble_eq_true rfl) sh455 rfl rfl w6_94 w6_96 wp_36 (fun r_ μ1 hp_ => ?_)
  obtain ⟨v, rfl, hp_⟩ := hp_
  refine J.weak [] rfl ?_
  exact k v μ1 hp_
theorem bX12_bar_8 {Z : ZT} {X : XT} {μ : Mu} {s1 : Int32} (E : Ent Z X mX12_bar 0 0) {p : Int32 → Mu → Prop} 
    (c : CtrS Z mX12_refuse [.ref (Z.2.2.1 + 455), .int s1] μ (rI p)) (k : ∀ v μ1, p v μ1 → JS Z X 11 [] [.int v] μ1) :
    JS Z X 8 [] [.int s1, .ref (Z.2.2.1 + 455)] μ := by
  refine S_callV (As := [.int s1]) (rest := []) E dX12_bar_8 c kX12_refuse ⟨Nat.le_of_ble_eq_true rfl, Nat.le_of_ble_eq_true rfl⟩ rfl (Nat.le_of_ble_eq_true rfl) sh455 rfl rfl w6_51 w6_53 wp_30 (fun r_ μ1 hp_ => ?_)
  obtain ⟨v, rfl, hp_⟩ := hp_
  exact k v μ1 hp_
theorem bX12_bar_11 {Z : ZT} {X : XT} {μ : Mu} {s0 : Int32} (E : Ent Z X mX12_bar 0 0) {P : Option Value → Mu → Prop} (hB : BodS Z X P) 
    (k : P (some (.int s0)) μ) :
    JS Z X 11 [] [.int s0] μ := by
  exact S_iret E hB dX12_bar_11 rfl k
theorem dX12_join_0 : decode cX12_join 0 = .ok (.aload_n 0, 1) := by decide +kernel
theorem dX12_join_1 : decode cX12_join 1 = .ok (.iconst 0, 1) := by decide +kernel
theorem dX12_join_2 : decode cX12_join 2 = .ok (.iload_n 1, 1) := by decide +kernel
theorem dX12_join_3 : decode cX12_join 3 = .ok (.invokevirtual 79, 3) := by decide +kernel
theorem dX12_join_6 : decode cX12_join 6 = .ok (.ifCond .eq 12, 3) := by decide +kernel
theorem dX12_join_9 : decode cX12_join 9 = .ok (.iload_n 2, 1) := by decide +kernel
theorem dX12_join_10 : decode cX12_join 10 = .ok (.iconst (-1), 1) := by decide +kernel
theorem dX12_join_11 : decode cX12_join 11 = .ok (.iconst 1, 1) := by decide +kernel
theorem dX12_join_12 : decode cX12_join 12 = .ok (.invokestatic 67, 3) := by decide +kernel
theorem dX12_join_15 : decode cX12_join 15 = .ok (.ifCond .ne 13, 3) := by decide +kernel
theorem dX12_join_18 : decode cX12_join 18 = .ok (.aload_n 0, 1) := by decide +kernel
theorem dX12_join_19 : decode cX12_join 19 = .ok (.bipush (-2), 2) := by decide +kernel
theorem dX12_join_21 : decode cX12_join 21 = .ok (.invokevirtual 63, 3) := by decide +kernel
theorem dX12_join_24 : decode cX12_join 24 = .ok (.pop, 1) := by decide +kernel
theorem dX12_join_25 : decode cX12_join 25 = .ok (.bipush (-10), 2) := by decide +kernel
theorem dX12_join_27 : decode cX12_join 27 = .ok (.ireturn, 1) := by decide +kernel
theorem dX12_join_28 : decode cX12_join 28 = .ok (.aload_n 0, 1) := by decide +kernel
theorem dX12_join_29 : decode cX12_join 29 = .ok (.getfield 7, 3) := by decide +kernel
theorem dX12_join_32 : decode cX12_join 32 = .ok (.sipush 148, 3) := by decide +kernel
theorem dX12_join_35 : decode cX12_join 35 = .ok (.iload_n 1, 1) := by decide +kernel
theorem dX12_join_36 : decode cX12_join 36 = .ok (.iadd, 1) := by decide +kernel
theorem dX12_join_37 : decode cX12_join 37 = .ok (.iaload, 1) := by decide +kernel
theorem dX12_join_38 : decode cX12_join 38 = .ok (.istore_n 3, 1) := by decide +kernel
theorem dX12_join_39 : decode cX12_join 39 = .ok (.aload_n 0, 1) := by decide +kernel
theorem dX12_join_40 : decode cX12_join 40 = .ok (.getfield 7, 3) := by decide +kernel
theorem dX12_join_43 : decode cX12_join 43 = .ok (.sipush 148, 3) := by decide +kernel
theorem dX12_join_46 : decode cX12_join 46 = .ok (.iload_n 1, 1) := by decide +kernel
theorem dX12_join_47 : decode cX12_join 47 = .ok (.iadd, 1) := by decide +kernel
theorem dX12_join_48 : decode cX12_join 48 = .ok (.iload_n 2, 1) := by decide +kernel
theorem dX12_join_49 : decode cX12_join 49 = .ok (.iastore, 1) := by decide +kernel
theorem dX12_join_50 : decode cX12_join 50 = .ok (.iload_n 3, 1) := by decide +kernel
theorem dX12_join_51 : decode cX12_join 51 = .ok (.ireturn, 1) := by decide +kernel
theorem bX12_join_0 {Z : ZT} {X : XT} {μ : Mu} {a1 : Int32} {a2 : Int32} (E : Ent Z X mX12_join 0 0) {p : Int32 → Mu → Prop} 
    (c : CtrS Z mX12_isChild [.ref (Z.2.2.1 + 455), .int (nI 0), .int a1] μ (rI p)) (k : ∀ v μ1, p v μ1 → JS Z X 6 [(0, .ref (Z.2.2.1 + 455)), (1, .int a1), (2, .int a2)] [.int v] μ1) :
    JS Z X 0 [(0, .ref (Z.2.2.1 + 455)), (1, .int a1), (2, .int a2)] [] μ := by
  refine J_aload_n E dX12_join_0 rfl ?_
  refine J_iconst (v := nI 0) E dX12_join_1 rfl ?_
  refine J_iload_n E dX12_join_2 rfl ?_
  refine S_callV (As := [.int (nI 0), .int a1]) (rest := []) E dX12_join_3 c kX12_isChild ⟨Nat.le_of_ble_eq_true rfl, Nat.le_of_ble_eq_true rfl⟩ rfl (Nat.le_of_ble_eq_true rfl) sh455 rfl rfl w6_98 w6_100 wp_37 (fun r_ μ1 hp_ => ?_)
  obtain ⟨v, rfl, hp_⟩ := hp_
  exact k v μ1 hp_
theorem bX12_join_6 {Z : ZT} {X : XT} {μ : Mu} {a1 : Int32} {a2 : Int32} {s0 : Int32} (E : Ent Z X mX12_join 0 0)  
    (kt : s0 = 0 → JS Z X 18 [(0, .ref (Z.2.2.1 + 455))] [] μ) (kf : ¬ (s0 = 0) → JS Z X 9 [(0, .ref (Z.2.2.1 + 455)), (1, .int a1), (2, .int a2)] [] μ) :
    JS Z X 6 [(0, .ref (Z.2.2.1 + 455)), (1, .int a1), (2, .int a2)] [.int s0] μ := by
  refine J_if_eq (tgt := 18) E dX12_join_6 (by decide) (fun c => ?_) (fun c => ?_)
  · refine J.weak [0] rfl ?_
    exact kt c
  · exact kf c
theorem bX12_join_9 {Z : ZT} {X : XT} {μ : Mu} {a1 : Int32} {a2 : Int32} (E : Ent Z X mX12_join 0 0) {p : Int32 → Mu → Prop} 
    (c : CtrS Z mX12_in [.int a2, .int (-1), .int (nI 1)] μ (rI p)) (k : ∀ v μ1, p v μ1 → JS Z X 15 [(0, .ref (Z.2.2.1 + 455)), (1, .int a1), (2, .int a2)] [.int v] μ1) :
    JS Z X 9 [(0, .ref (Z.2.2.1 + 455)), (1, .int a1), (2, .int a2)] [] μ := by
  refine J_iload_n E dX12_join_9 rfl ?_
  refine J_iconst (v := -1) E dX12_join_10 rfl ?_
  refine J_iconst (v := nI 1) E dX12_join_11 rfl ?_
  refine S_callS (As := [.int a2, .int (-1), .int (nI 1)]) (rest := []) E dX12_join_12 c kX12_in ⟨Nat.le_of_ble_eq_true rfl, Nat.le_of_ble_eq_true rfl⟩ rfl (Nat.le_of_ble_eq_true rfl) w6_67 w6_68 (fun r_ μ1 hp_ => ?_)
  obtain ⟨v, rfl, hp_⟩ := hp_
  exact k v μ1 hp_
theorem bX12_join_15 {Z : ZT} {X : XT} {μ : Mu} {a1 : Int32} {a2 : Int32} {s0 : Int32} (E : Ent Z X mX12_join 0 0)  
    (kt : ¬ s0 = 0 → JS Z X 28 [(0, .ref (Z.2.2.1 + 455)), (1, .int a1), (2, .int a2)] [] μ) (kf : s0 = 0 → JS Z X 18 [(0, .ref (Z.2.2.1 + 455))] [] μ) :
    JS Z X 15 [(0, .ref (Z.2.2.1 + 455)), (1, .int a1), (2, .int a2)] [.int s0] μ := by
  refine J_if_ne (tgt := 28) E dX12_join_15 (by decide) (fun c => ?_) (fun c => ?_)
  · exact kt c
  · refine J.weak [0] rfl ?_
    exact kf c
theorem bX12_join_18 {Z : ZT} {X : XT} {μ : Mu} (E : Ent Z X mX12_join 0 0) {p : Int32 → Mu → Prop} 
    (c : CtrS Z mX12_refuse [.ref (Z.2.2.1 + 455), .int (-2)] μ (rI p)) (k : ∀ v μ1, p v μ1 → JS Z X 24 [] [.int v] μ1) :
    JS Z X 18 [(0, .ref (Z.2.2.1 + 455))] [] μ := by
  refine J_aload_n E dX12_join_18 rfl ?_
  refine J_bipush (v := -2) E dX12_join_19 rfl ?_
  refine S_callV (As := [.int (-2)]) (rest := []) E dX12_join_21 c kX12_refuse ⟨Nat.le_of_ble_eq_true rfl, Nat.le_of_ble_eq_true rfl⟩ rfl (Nat.le_of_ble_eq_true rfl) sh455 rfl rfl w6_51 w6_53 wp_30 (fun r_ μ1 hp_ => ?_)
  obtain ⟨v, rfl, hp_⟩ := hp_
  refine J.weak [] rfl ?_
  exact k v μ1 hp_
theorem bX12_join_24 {Z : ZT} {X : XT} {μ : Mu} {s0 : Int32} (E : Ent Z X mX12_join 0 0) {P : Option Value → Mu → Prop} (hB : BodS Z X P) 
    (k : P (some (.int (-10))) μ) :
    JS Z X 24 [] [.int s0] μ := by
  refine J_pop E dX12_join_24 rfl ?_
  refine J_bipush (v := -10) E dX12_join_25 rfl ?_
  exact S_iret E hB dX12_join_27 rfl k
theorem bX12_join_28 {Z : ZT} {X : XT} {μ : Mu} {a1 : Int32} {a2 : Int32} (E : Ent Z X mX12_join 0 0)  (s1_ : vp_in ((nI 148) + a1) 988) (s2_ : vp_in ((nI 148) + a1) 988)
    (k : JS Z X 50 [(3, .int (μ 456 (ix ((nI 148) + a1))))] [] (uR μ 456 (upd (μ 456) (ix ((nI 148) + a1)) a2))) :
    JS Z X 28 [(0, .ref (Z.2.2.1 + 455)), (1, .int a1), (2, .int a2)] [] μ := by
  refine J_aload_n E dX12_join_28 rfl ?_
  refine S_get (ci := 12) (q := 0) (v := .ref (Z.2.2.1 + 456)) E dX12_join_29 fs_X12_7 sh455 rfl ?_
  refine J_sipush (v := nI 148) E dX12_join_32 rfl ?_
  refine J_iload_n E dX12_join_35 rfl ?_
  refine J_iadd E dX12_join_36 ?_
  refine S_iald E dX12_join_37 sh456 s1_ ?_
  refine J_istore_n (lv' := [(0, .ref (Z.2.2.1 + 455)), (1, .int a1), (2, .int a2), (3, .int (μ 456 (ix ((nI 148) + a1))))]) E dX12_join_38 (Nat.le_of_ble_eq_true rfl) rfl ?_
  refine J_aload_n E dX12_join_39 rfl ?_
  refine S_get (ci := 12) (q := 0) (v := .ref (Z.2.2.1 + 456)) E dX12_join_40 fs_X12_7 sh455 rfl ?_
  refine J_sipush (v := nI 148) E dX12_join_43 rfl ?_
  refine J_iload_n E dX12_join_46 rfl ?_
  refine J_iadd E dX12_join_47 ?_
  refine J_iload_n E dX12_join_48 rfl ?_
  refine S_iast E dX12_join_49 sh456 s2_ ?_
  refine J.weak [3] rfl ?_
  exact k
theorem bX12_join_50 {Z : ZT} {X : XT} {μ : Mu} {a3 : Int32} (E : Ent Z X mX12_join 0 0) {P : Option Value → Mu → Prop} (hB : BodS Z X P) 
    (k : P (some (.int a3)) μ) :
    JS Z X 50 [(3, .int a3)] [] μ := by
  refine J_iload_n E dX12_join_50 rfl ?_
  exact S_iret E hB dX12_join_51 rfl k
theorem dX12_slip_0 : decode cX12_slip 0 = .ok (.aload_n 0, 1) := by decide +kernel
theorem dX12_slip_1 : decode cX12_slip 1 = .ok (.aload_n 0, 1) := by decide +kernel
theorem dX12_slip_2 : decode cX12_slip 2 = .ok (.iconst 0, 1) := by decide +kernel
theorem dX12_slip_3 : decode cX12_slip 3 = .ok (.iload_n 1, 1) := by decide +kernel
theorem dX12_slip_4 : decode cX12_slip 4 = .ok (.iload_n 2, 1) := by decide +kernel
theorem dX12_slip_5 : decode cX12_slip 5 = .ok (.invokevirtual 107, 3) := by decide +kernel
theorem dX12_slip_8 : decode cX12_slip 8 = .ok (.invokevirtual 63, 3) := by decide +kernel
theorem dX12_slip_11 : decode cX12_slip 11 = .ok (.ireturn, 1) := by decide +kernel
theorem bX12_slip_0 {Z : ZT} {X : XT} {μ : Mu} {a1 : Int32} {a2 : Int32} (E : Ent Z X mX12_slip 0 0) {p : Int32 → Mu → Prop} 
    (c : CtrS Z mX12_addSlip [.ref (Z.2.2.1 + 455), .int (nI 0), .int a1, .int a2] μ (rI p)) (k : ∀ v μ1, p v μ1 → JS Z X 8 [] [.int v, .ref (Z.2.2.1 + 455)] μ1) :
    JS Z X 0 [(0, .ref (Z.2.2.1 + 455)), (1, .int a1), (2, .int a2)] [] μ := by
  refine J_aload_n E dX12_slip_0 rfl ?_
  refine J_aload_n E dX12_slip_1 rfl ?_
  refine J_iconst (v := nI 0) E dX12_slip_2 rfl ?_
  refine J_iload_n E dX12_slip_3 rfl ?_
  refine J_iload_n E dX12_slip_4 rfl ?_
  refine S_callV (As := [.int (nI 0), .int a1, .int a2]) (rest := [.ref (Z.2.2.1 + 455)]) E dX12_slip_5 c kX12_addSlip ⟨Nat.le_of_ble_eq_true rfl, Nat.le_of_ble_eq_true rfl⟩ rfl (Nat.le_of_ble_eq_true rfl) sh455 rfl rfl w6_110 w6_112 wp_38 (fun r_ μ1 hp_ => ?_)
  obtain ⟨v, rfl, hp_⟩ := hp_
  refine J.weak [] rfl ?_
  exact k v μ1 hp_
theorem bX12_slip_8 {Z : ZT} {X : XT} {μ : Mu} {s1 : Int32} (E : Ent Z X mX12_slip 0 0) {p : Int32 → Mu → Prop} 
    (c : CtrS Z mX12_refuse [.ref (Z.2.2.1 + 455), .int s1] μ (rI p)) (k : ∀ v μ1, p v μ1 → JS Z X 11 [] [.int v] μ1) :
    JS Z X 8 [] [.int s1, .ref (Z.2.2.1 + 455)] μ := by
  refine S_callV (As := [.int s1]) (rest := []) E dX12_slip_8 c kX12_refuse ⟨Nat.le_of_ble_eq_true rfl, Nat.le_of_ble_eq_true rfl⟩ rfl (Nat.le_of_ble_eq_true rfl) sh455 rfl rfl w6_51 w6_53 wp_30 (fun r_ μ1 hp_ => ?_)
  obtain ⟨v, rfl, hp_⟩ := hp_
  exact k v μ1 hp_
theorem bX12_slip_11 {Z : ZT} {X : XT} {μ : Mu} {s0 : Int32} (E : Ent Z X mX12_slip 0 0) {P : Option Value → Mu → Prop} (hB : BodS Z X P) 
    (k : P (some (.int s0)) μ) :
    JS Z X 11 [] [.int s0] μ := by
  exact S_iret E hB dX12_slip_11 rfl k
theorem dX12_spare_0 : decode cX12_spare 0 = .ok (.aload_n 0, 1) := by decide +kernel
theorem dX12_spare_1 : decode cX12_spare 1 = .ok (.aload_n 0, 1) := by decide +kernel
theorem dX12_spare_2 : decode cX12_spare 2 = .ok (.iconst 0, 1) := by decide +kernel
theorem dX12_spare_3 : decode cX12_spare 3 = .ok (.iload_n 1, 1) := by decide +kernel
theorem dX12_spare_4 : decode cX12_spare 4 = .ok (.invokevirtual 82, 3) := by decide +kernel
theorem dX12_spare_7 : decode cX12_spare 7 = .ok (.ifCond .eq 16, 3) := by decide +kernel
theorem dX12_spare_10 : decode cX12_spare 10 = .ok (.aload_n 0, 1) := by decide +kernel
theorem dX12_spare_11 : decode cX12_spare 11 = .ok (.sipush 171, 3) := by decide +kernel
theorem dX12_spare_14 : decode cX12_spare 14 = .ok (.iload_n 1, 1) := by decide +kernel
theorem dX12_spare_15 : decode cX12_spare 15 = .ok (.iadd, 1) := by decide +kernel
theorem dX12_spare_16 : decode cX12_spare 16 = .ok (.iconst 0, 1) := by decide +kernel
theorem dX12_spare_17 : decode cX12_spare 17 = .ok (.invokevirtual 75, 3) := by decide +kernel
theorem dX12_spare_20 : decode cX12_spare 20 = .ok (.goto 5, 3) := by decide +kernel
theorem dX12_spare_23 : decode cX12_spare 23 = .ok (.bipush (-2), 2) := by decide +kernel
theorem dX12_spare_25 : decode cX12_spare 25 = .ok (.invokevirtual 63, 3) := by decide +kernel
theorem dX12_spare_28 : decode cX12_spare 28 = .ok (.ireturn, 1) := by decide +kernel
theorem bX12_spare_0 {Z : ZT} {X : XT} {μ : Mu} {a1 : Int32} (E : Ent Z X mX12_spare 0 0) {p : Int32 → Mu → Prop} 
    (c : CtrS Z mX12_isSlip [.ref (Z.2.2.1 + 455), .int (nI 0), .int a1] μ (rI p)) (k : ∀ v μ1, p v μ1 → JS Z X 7 [(0, .ref (Z.2.2.1 + 455)), (1, .int a1)] [.int v, .ref (Z.2.2.1 + 455)] μ1) :
    JS Z X 0 [(0, .ref (Z.2.2.1 + 455)), (1, .int a1)] [] μ := by
  refine J_aload_n E dX12_spare_0 rfl ?_
  refine J_aload_n E dX12_spare_1 rfl ?_
  refine J_iconst (v := nI 0) E dX12_spare_2 rfl ?_
  refine J_iload_n E dX12_spare_3 rfl ?_
  refine S_callV (As := [.int (nI 0), .int a1]) (rest := [.ref (Z.2.2.1 + 455)]) E dX12_spare_4 c kX12_isSlip ⟨Nat.le_of_ble_eq_true rfl, Nat.le_of_ble_eq_true rfl⟩ rfl (Nat.le_of_ble_eq_true rfl) sh455 rfl rfl w6_118 w6_120 wp_39 (fun r_ μ1 hp_ => ?_)
  obtain ⟨v, rfl, hp_⟩ := hp_
  exact k v μ1 hp_
theorem bX12_spare_7 {Z : ZT} {X : XT} {μ : Mu} {a1 : Int32} {s1 : Int32} (E : Ent Z X mX12_spare 0 0)  
    (kt : s1 = 0 → JS Z X 23 [] [.ref (Z.2.2.1 + 455)] μ) (kf : ¬ (s1 = 0) → JS Z X 10 [(0, .ref (Z.2.2.1 + 455)), (1, .int a1)] [.ref (Z.2.2.1 + 455)] μ) :
    JS Z X 7 [(0, .ref (Z.2.2.1 + 455)), (1, .int a1)] [.int s1, .ref (Z.2.2.1 + 455)] μ := by
  refine J_if_eq (tgt := 23) E dX12_spare_7 (by decide) (fun c => ?_) (fun c => ?_)
  · refine J.weak [] rfl ?_
    exact kt c
  · exact kf c
theorem bX12_spare_10 {Z : ZT} {X : XT} {μ : Mu} {a1 : Int32} (E : Ent Z X mX12_spare 0 0) {p : Int32 → Mu → Prop} 
    (c : CtrS Z mX12_mark [.ref (Z.2.2.1 + 455), .int ((nI 171) + a1), .int (nI 0)] μ (rI p)) (k : ∀ v μ1, p v μ1 → JS Z X 20 [] [.int v, .ref (Z.2.2.1 + 455)] μ1) :
    JS Z X 10 [(0, .ref (Z.2.2.1 + 455)), (1, .int a1)] [.ref (Z.2.2.1 + 455)] μ := by
  refine J_aload_n E dX12_spare_10 rfl ?_
  refine J_sipush (v := nI 171) E dX12_spare_11 rfl ?_
  refine J_iload_n E dX12_spare_14 rfl ?_
  refine J_iadd E dX12_spare_15 ?_
  refine J_iconst (v := nI 0) E dX12_spare_16 rfl ?_
  refine S_callV (As := [.int ((nI 171) + a1), .int (nI 0)]) (rest := [.ref (Z.2.2.1 + 455)]) E dX12_spare_17 c kX12_mark ⟨Nat.le_of_ble_eq_true rfl, Nat.le_of_ble_eq_true rfl⟩ rfl (Nat.le_of_ble_eq_true rfl) sh455 rfl rfl w6_78 w6_80 wp_34 (fun r_ μ1 hp_ => ?_)
  obtain ⟨v, rfl, hp_⟩ := hp_
  refine J.weak [] rfl ?_
  exact k v μ1 hp_
theorem bX12_spare_20 {Z : ZT} {X : XT} {μ : Mu} {s1 : Int32} (E : Ent Z X mX12_spare 0 0)  
    (k : JS Z X 25 [] [.int s1, .ref (Z.2.2.1 + 455)] μ) :
    JS Z X 20 [] [.int s1, .ref (Z.2.2.1 + 455)] μ := by
  refine J_goto (tgt := 25) E dX12_spare_20 (by decide) ?_
  exact k
theorem bX12_spare_23 {Z : ZT} {X : XT} {μ : Mu} (E : Ent Z X mX12_spare 0 0)  
    (k : JS Z X 25 [] [.int (-2), .ref (Z.2.2.1 + 455)] μ) :
    JS Z X 23 [] [.ref (Z.2.2.1 + 455)] μ := by
  refine J_bipush (v := -2) E dX12_spare_23 rfl ?_
  exact k
theorem bX12_spare_25 {Z : ZT} {X : XT} {μ : Mu} {s1 : Int32} (E : Ent Z X mX12_spare 0 0) {p : Int32 → Mu → Prop} 
    (c : CtrS Z mX12_refuse [.ref (Z.2.2.1 + 455), .int s1] μ (rI p)) (k : ∀ v μ1, p v μ1 → JS Z X 28 [] [.int v] μ1) :
    JS Z X 25 [] [.int s1, .ref (Z.2.2.1 + 455)] μ := by
  refine S_callV (As := [.int s1]) (rest := []) E dX12_spare_25 c kX12_refuse ⟨Nat.le_of_ble_eq_true rfl, Nat.le_of_ble_eq_true rfl⟩ rfl (Nat.le_of_ble_eq_true rfl) sh455 rfl rfl w6_51 w6_53 wp_30 (fun r_ μ1 hp_ => ?_)
  obtain ⟨v, rfl, hp_⟩ := hp_
  exact k v μ1 hp_
theorem bX12_spare_28 {Z : ZT} {X : XT} {μ : Mu} {s0 : Int32} (E : Ent Z X mX12_spare 0 0) {P : Option Value → Mu → Prop} (hB : BodS Z X P) 
    (k : P (some (.int s0)) μ) :
    JS Z X 28 [] [.int s0] μ := by
  exact S_iret E hB dX12_spare_28 rfl k
theorem dX12_means_0 : decode cX12_means 0 = .ok (.aload_n 0, 1) := by decide +kernel
theorem dX12_means_1 : decode cX12_means 1 = .ok (.aload_n 0, 1) := by decide +kernel
theorem dX12_means_2 : decode cX12_means 2 = .ok (.iconst 0, 1) := by decide +kernel
theorem dX12_means_3 : decode cX12_means 3 = .ok (.iload_n 1, 1) := by decide +kernel
theorem dX12_means_4 : decode cX12_means 4 = .ok (.iload_n 2, 1) := by decide +kernel
theorem dX12_means_5 : decode cX12_means 5 = .ok (.invokevirtual 110, 3) := by decide +kernel
theorem dX12_means_8 : decode cX12_means 8 = .ok (.invokevirtual 63, 3) := by decide +kernel
theorem dX12_means_11 : decode cX12_means 11 = .ok (.ireturn, 1) := by decide +kernel
theorem bX12_means_0 {Z : ZT} {X : XT} {μ : Mu} {a1 : Int32} {a2 : Int32} (E : Ent Z X mX12_means 0 0) {p : Int32 → Mu → Prop} 
    (c : CtrS Z mX12_setMeans [.ref (Z.2.2.1 + 455), .int (nI 0), .int a1, .int a2] μ (rI p)) (k : ∀ v μ1, p v μ1 → JS Z X 8 [] [.int v, .ref (Z.2.2.1 + 455)] μ1) :
    JS Z X 0 [(0, .ref (Z.2.2.1 + 455)), (1, .int a1), (2, .int a2)] [] μ := by
  refine J_aload_n E dX12_means_0 rfl ?_
  refine J_aload_n E dX12_means_1 rfl ?_
  refine J_iconst (v := nI 0) E dX12_means_2 rfl ?_
  refine J_iload_n E dX12_means_3 rfl ?_
  refine J_iload_n E dX12_means_4 rfl ?_
  refine S_callV (As := [.int (nI 0), .int a1, .int a2]) (rest := [.ref (Z.2.2.1 + 455)]) E dX12_means_5 c kX12_setMeans ⟨Nat.le_of_ble_eq_true rfl, Nat.le_of_ble_eq_true rfl⟩ rfl (Nat.le_of_ble_eq_true rfl) sh455 rfl rfl w6_126 w6_128 wp_40 (fun r_ μ1 hp_ => ?_)
  obtain ⟨v, rfl, hp_⟩ := hp_
  refine J.weak [] rfl ?_
  exact k v μ1 hp_
theorem bX12_means_8 {Z : ZT} {X : XT} {μ : Mu} {s1 : Int32} (E : Ent Z X mX12_means 0 0) {p : Int32 → Mu → Prop} 
    (c : CtrS Z mX12_refuse [.ref (Z.2.2.1 + 455), .int s1] μ (rI p)) (k : ∀ v μ1, p v μ1 → JS Z X 11 [] [.int v] μ1) :
    JS Z X 8 [] [.int s1, .ref (Z.2.2.1 + 455)] μ := by
  refine S_callV (As := [.int s1]) (rest := []) E dX12_means_8 c kX12_refuse ⟨Nat.le_of_ble_eq_true rfl, Nat.le_of_ble_eq_true rfl⟩ rfl (Nat.le_of_ble_eq_true rfl) sh455 rfl rfl w6_51 w6_53 wp_30 (fun r_ μ1 hp_ => ?_)
  obtain ⟨v, rfl, hp_⟩ := hp_
  exact k v μ1 hp_
theorem bX12_means_11 {Z : ZT} {X : XT} {μ : Mu} {s0 : Int32} (E : Ent Z X mX12_means 0 0) {P : Option Value → Mu → Prop} (hB : BodS Z X P) 
    (k : P (some (.int s0)) μ) :
    JS Z X 11 [] [.int s0] μ := by
  exact S_iret E hB dX12_means_11 rfl k
theorem dX12_row_0 : decode cX12_row 0 = .ok (.aload_n 0, 1) := by decide +kernel
theorem dX12_row_1 : decode cX12_row 1 = .ok (.aload_n 0, 1) := by decide +kernel
theorem dX12_row_2 : decode cX12_row 2 = .ok (.iconst 0, 1) := by decide +kernel
theorem dX12_row_3 : decode cX12_row 3 = .ok (.iload_n 1, 1) := by decide +kernel
theorem dX12_row_4 : decode cX12_row 4 = .ok (.iload_n 2, 1) := by decide +kernel
theorem dX12_row_5 : decode cX12_row 5 = .ok (.invokevirtual 113, 3) := by decide +kernel
theorem dX12_row_8 : decode cX12_row 8 = .ok (.invokevirtual 63, 3) := by decide +kernel
theorem dX12_row_11 : decode cX12_row 11 = .ok (.ireturn, 1) := by decide +kernel
theorem bX12_row_0 {Z : ZT} {X : XT} {μ : Mu} {a1 : Int32} {a2 : Int32} (E : Ent Z X mX12_row 0 0) {p : Int32 → Mu → Prop} 
    (c : CtrS Z mX12_addRow [.ref (Z.2.2.1 + 455), .int (nI 0), .int a1, .int a2] μ (rI p)) (k : ∀ v μ1, p v μ1 → JS Z X 8 [] [.int v, .ref (Z.2.2.1 + 455)] μ1) :
    JS Z X 0 [(0, .ref (Z.2.2.1 + 455)), (1, .int a1), (2, .int a2)] [] μ := by
  refine J_aload_n E dX12_row_0 rfl ?_
  refine J_aload_n E dX12_row_1 rfl ?_
  refine J_iconst (v := nI 0) E dX12_row_2 rfl ?_
  refine J_iload_n E dX12_row_3 rfl ?_
  refine J_iload_n E dX12_row_4 rfl ?_
  refine S_callV (As := [.int (nI 0), .int a1, .int a2]) (rest := [.ref (Z.2.2.1 + 455)]) E dX12_row_5 c kX12_addRow ⟨Nat.le_of_ble_eq_true rfl, Nat.le_of_ble_eq_true rfl⟩ rfl (Nat.le_of_ble_eq_true rfl) sh455 rfl rfl w6_134 w6_136 wp_41 (fun r_ μ1 hp_ => ?_)
  obtain ⟨v, rfl, hp_⟩ := hp_
  refine J.weak [] rfl ?_
  exact k v μ1 hp_
theorem bX12_row_8 {Z : ZT} {X : XT} {μ : Mu} {s1 : Int32} (E : Ent Z X mX12_row 0 0) {p : Int32 → Mu → Prop} 
    (c : CtrS Z mX12_refuse [.ref (Z.2.2.1 + 455), .int s1] μ (rI p)) (k : ∀ v μ1, p v μ1 → JS Z X 11 [] [.int v] μ1) :
    JS Z X 8 [] [.int s1, .ref (Z.2.2.1 + 455)] μ := by
  refine S_callV (As := [.int s1]) (rest := []) E dX12_row_8 c kX12_refuse ⟨Nat.le_of_ble_eq_true rfl, Nat.le_of_ble_eq_true rfl⟩ rfl (Nat.le_of_ble_eq_true rfl) sh455 rfl rfl w6_51 w6_53 wp_30 (fun r_ μ1 hp_ => ?_)
  obtain ⟨v, rfl, hp_⟩ := hp_
  exact k v μ1 hp_
theorem bX12_row_11 {Z : ZT} {X : XT} {μ : Mu} {s0 : Int32} (E : Ent Z X mX12_row 0 0) {P : Option Value → Mu → Prop} (hB : BodS Z X P) 
    (k : P (some (.int s0)) μ) :
    JS Z X 11 [] [.int s0] μ := by
  exact S_iret E hB dX12_row_11 rfl k
theorem dX12_unrow_0 : decode cX12_unrow 0 = .ok (.iload_n 1, 1) := by decide +kernel
theorem dX12_unrow_1 : decode cX12_unrow 1 = .ok (.invokestatic 85, 3) := by decide +kernel
theorem dX12_unrow_4 : decode cX12_unrow 4 = .ok (.ifCond .ne 10, 3) := by decide +kernel
theorem dX12_unrow_7 : decode cX12_unrow 7 = .ok (.aload_n 0, 1) := by decide +kernel
theorem dX12_unrow_8 : decode cX12_unrow 8 = .ok (.bipush (-2), 2) := by decide +kernel
theorem dX12_unrow_10 : decode cX12_unrow 10 = .ok (.invokevirtual 63, 3) := by decide +kernel
theorem dX12_unrow_13 : decode cX12_unrow 13 = .ok (.ireturn, 1) := by decide +kernel
theorem dX12_unrow_14 : decode cX12_unrow 14 = .ok (.aload_n 0, 1) := by decide +kernel
theorem dX12_unrow_15 : decode cX12_unrow 15 = .ok (.getfield 7, 3) := by decide +kernel
theorem dX12_unrow_18 : decode cX12_unrow 18 = .ok (.sipush 187, 3) := by decide +kernel
theorem dX12_unrow_21 : decode cX12_unrow 21 = .ok (.iload_n 1, 1) := by decide +kernel
theorem dX12_unrow_22 : decode cX12_unrow 22 = .ok (.iadd, 1) := by decide +kernel
theorem dX12_unrow_23 : decode cX12_unrow 23 = .ok (.iaload, 1) := by decide +kernel
theorem dX12_unrow_24 : decode cX12_unrow 24 = .ok (.istore_n 2, 1) := by decide +kernel
theorem dX12_unrow_25 : decode cX12_unrow 25 = .ok (.aload_n 0, 1) := by decide +kernel
theorem dX12_unrow_26 : decode cX12_unrow 26 = .ok (.getfield 7, 3) := by decide +kernel
theorem dX12_unrow_29 : decode cX12_unrow 29 = .ok (.sipush 187, 3) := by decide +kernel
theorem dX12_unrow_32 : decode cX12_unrow 32 = .ok (.iload_n 1, 1) := by decide +kernel
theorem dX12_unrow_33 : decode cX12_unrow 33 = .ok (.iadd, 1) := by decide +kernel
theorem dX12_unrow_34 : decode cX12_unrow 34 = .ok (.iconst 0, 1) := by decide +kernel
theorem dX12_unrow_35 : decode cX12_unrow 35 = .ok (.iastore, 1) := by decide +kernel
theorem dX12_unrow_36 : decode cX12_unrow 36 = .ok (.iload_n 2, 1) := by decide +kernel
theorem dX12_unrow_37 : decode cX12_unrow 37 = .ok (.ireturn, 1) := by decide +kernel
theorem bX12_unrow_0 {Z : ZT} {X : XT} {μ : Mu} {a1 : Int32} (E : Ent Z X mX12_unrow 0 0) {p : Int32 → Mu → Prop} 
    (c : CtrS Z mX12_isLot [.int a1] μ (rI p)) (k : ∀ v μ1, p v μ1 → JS Z X 4 [(0, .ref (Z.2.2.1 + 455)), (1, .int a1)] [.int v] μ1) :
    JS Z X 0 [(0, .ref (Z.2.2.1 + 455)), (1, .int a1)] [] μ := by
  refine J_iload_n E dX12_unrow_0 rfl ?_
  refine S_callS (As := [.int a1]) (rest := []) E dX12_unrow_1 c kX12_isLot ⟨Nat.le_of_ble_eq_true rfl, Nat.le_of_ble_eq_true rfl⟩ rfl (Nat.le_of_ble_eq_true rfl) w6_138 w6_139 (fun r_ μ1 hp_ => ?_)
  obtain ⟨v, rfl, hp_⟩ := hp_
  exact k v μ1 hp_
theorem bX12_unrow_4 {Z : ZT} {X : XT} {μ : Mu} {a1 : Int32} {s0 : Int32} (E : Ent Z X mX12_unrow 0 0)  
    (kt : ¬ s0 = 0 → JS Z X 14 [(0, .ref (Z.2.2.1 + 455)), (1, .int a1)] [] μ) (kf : s0 = 0 → JS Z X 7 [(0, .ref (Z.2.2.1 + 455))] [] μ) :
    JS Z X 4 [(0, .ref (Z.2.2.1 + 455)), (1, .int a1)] [.int s0] μ := by
  refine J_if_ne (tgt := 14) E dX12_unrow_4 (by decide) (fun c => ?_) (fun c => ?_)
  · exact kt c
  · refine J.weak [0] rfl ?_
    exact kf c
theorem bX12_unrow_7 {Z : ZT} {X : XT} {μ : Mu} (E : Ent Z X mX12_unrow 0 0) {p : Int32 → Mu → Prop} 
    (c : CtrS Z mX12_refuse [.ref (Z.2.2.1 + 455), .int (-2)] μ (rI p)) (k : ∀ v μ1, p v μ1 → JS Z X 13 [] [.int v] μ1) :
    JS Z X 7 [(0, .ref (Z.2.2.1 + 455))] [] μ := by
  refine J_aload_n E dX12_unrow_7 rfl ?_
  refine J_bipush (v := -2) E dX12_unrow_8 rfl ?_
  refine S_callV (As := [.int (-2)]) (rest := []) E dX12_unrow_10 c kX12_refuse ⟨Nat.le_of_ble_eq_true rfl, Nat.le_of_ble_eq_true rfl⟩ rfl (Nat.le_of_ble_eq_true rfl) sh455 rfl rfl w6_51 w6_53 wp_30 (fun r_ μ1 hp_ => ?_)
  obtain ⟨v, rfl, hp_⟩ := hp_
  refine J.weak [] rfl ?_
  exact k v μ1 hp_
theorem bX12_unrow_13 {Z : ZT} {X : XT} {μ : Mu} {s0 : Int32} (E : Ent Z X mX12_unrow 0 0) {P : Option Value → Mu → Prop} (hB : BodS Z X P) 
    (k : P (some (.int s0)) μ) :
    JS Z X 13 [] [.int s0] μ := by
  exact S_iret E hB dX12_unrow_13 rfl k
theorem bX12_unrow_14 {Z : ZT} {X : XT} {μ : Mu} {a1 : Int32} (E : Ent Z X mX12_unrow 0 0)  (s1_ : vp_in ((nI 187) + a1) 988) (s2_ : vp_in ((nI 187) + a1) 988)
    (k : JS Z X 36 [(2, .int (μ 456 (ix ((nI 187) + a1))))] [] (uR μ 456 (upd (μ 456) (ix ((nI 187) + a1)) (nI 0)))) :
    JS Z X 14 [(0, .ref (Z.2.2.1 + 455)), (1, .int a1)] [] μ := by
  refine J_aload_n E dX12_unrow_14 rfl ?_
  refine S_get (ci := 12) (q := 0) (v := .ref (Z.2.2.1 + 456)) E dX12_unrow_15 fs_X12_7 sh455 rfl ?_
  refine J_sipush (v := nI 187) E dX12_unrow_18 rfl ?_
  refine J_iload_n E dX12_unrow_21 rfl ?_
  refine J_iadd E dX12_unrow_22 ?_
  refine S_iald E dX12_unrow_23 sh456 s1_ ?_
  refine J_istore_n (lv' := [(0, .ref (Z.2.2.1 + 455)), (1, .int a1), (2, .int (μ 456 (ix ((nI 187) + a1))))]) E dX12_unrow_24 (Nat.le_of_ble_eq_true rfl) rfl ?_
  refine J_aload_n E dX12_unrow_25 rfl ?_
  refine S_get (ci := 12) (q := 0) (v := .ref (Z.2.2.1 + 456)) E dX12_unrow_26 fs_X12_7 sh455 rfl ?_
  refine J_sipush (v := nI 187) E dX12_unrow_29 rfl ?_
  refine J_iload_n E dX12_unrow_32 rfl ?_
  refine J_iadd E dX12_unrow_33 ?_
  refine J_iconst (v := nI 0) E dX12_unrow_34 rfl ?_
  refine S_iast E dX12_unrow_35 sh456 s2_ ?_
  refine J.weak [2] rfl ?_
  exact k
theorem bX12_unrow_36 {Z : ZT} {X : XT} {μ : Mu} {a2 : Int32} (E : Ent Z X mX12_unrow 0 0) {P : Option Value → Mu → Prop} (hB : BodS Z X P) 
    (k : P (some (.int a2)) μ) :
    JS Z X 36 [(2, .int a2)] [] μ := by
  refine J_iload_n E dX12_unrow_36 rfl ?_
  exact S_iret E hB dX12_unrow_37 rfl k
theorem dX12_put_0 : decode cX12_put 0 = .ok (.iload_n 1, 1) := by decide +kernel
theorem dX12_put_1 : decode cX12_put 1 = .ok (.ifCond .ne 7, 3) := by decide +kernel
theorem dX12_put_4 : decode cX12_put 4 = .ok (.iconst 1, 1) := by decide +kernel
theorem dX12_put_5 : decode cX12_put 5 = .ok (.goto 4, 3) := by decide +kernel
theorem dX12_put_8 : decode cX12_put 8 = .ok (.iconst 0, 1) := by decide +kernel
theorem dX12_put_9 : decode cX12_put 9 = .ok (.istore_n 3, 1) := by decide +kernel
theorem dX12_put_10 : decode cX12_put 10 = .ok (.iload_n 1, 1) := by decide +kernel
theorem dX12_put_11 : decode cX12_put 11 = .ok (.ifCond .ne 8, 3) := by decide +kernel
theorem dX12_put_14 : decode cX12_put 14 = .ok (.bipush 6, 2) := by decide +kernel
theorem dX12_put_16 : decode cX12_put 16 = .ok (.goto 26, 3) := by decide +kernel
theorem dX12_put_19 : decode cX12_put 19 = .ok (.iload_n 1, 1) := by decide +kernel
theorem dX12_put_20 : decode cX12_put 20 = .ok (.iconst 1, 1) := by decide +kernel
theorem dX12_put_21 : decode cX12_put 21 = .ok (.if_icmp .ne 9, 3) := by decide +kernel
theorem dX12_put_24 : decode cX12_put 24 = .ok (.sipush 200, 3) := by decide +kernel
theorem dX12_put_27 : decode cX12_put 27 = .ok (.goto 15, 3) := by decide +kernel
theorem dX12_put_30 : decode cX12_put 30 = .ok (.iload_n 1, 1) := by decide +kernel
theorem dX12_put_31 : decode cX12_put 31 = .ok (.iconst 2, 1) := by decide +kernel
theorem dX12_put_32 : decode cX12_put 32 = .ok (.if_icmp .ne 8, 3) := by decide +kernel
theorem dX12_put_35 : decode cX12_put 35 = .ok (.bipush 10, 2) := by decide +kernel
theorem dX12_put_37 : decode cX12_put 37 = .ok (.goto 5, 3) := by decide +kernel
theorem dX12_put_40 : decode cX12_put 40 = .ok (.bipush 9, 2) := by decide +kernel
theorem dX12_put_42 : decode cX12_put 42 = .ok (.istore 4, 2) := by decide +kernel
theorem dX12_put_44 : decode cX12_put 44 = .ok (.iload_n 1, 1) := by decide +kernel
theorem dX12_put_45 : decode cX12_put 45 = .ok (.iconst 0, 1) := by decide +kernel
theorem dX12_put_46 : decode cX12_put 46 = .ok (.iconst 4, 1) := by decide +kernel
theorem dX12_put_47 : decode cX12_put 47 = .ok (.invokestatic 67, 3) := by decide +kernel
theorem dX12_put_50 : decode cX12_put 50 = .ok (.ifCond .eq 13, 3) := by decide +kernel
theorem dX12_put_53 : decode cX12_put 53 = .ok (.iload_n 2, 1) := by decide +kernel
theorem dX12_put_54 : decode cX12_put 54 = .ok (.iload_n 3, 1) := by decide +kernel
theorem dX12_put_55 : decode cX12_put 55 = .ok (.iload 4, 2) := by decide +kernel
theorem dX12_put_57 : decode cX12_put 57 = .ok (.invokestatic 67, 3) := by decide +kernel
theorem dX12_put_60 : decode cX12_put 60 = .ok (.ifCond .ne 10, 3) := by decide +kernel
theorem dX12_put_63 : decode cX12_put 63 = .ok (.aload_n 0, 1) := by decide +kernel
theorem dX12_put_64 : decode cX12_put 64 = .ok (.bipush (-2), 2) := by decide +kernel
theorem dX12_put_66 : decode cX12_put 66 = .ok (.invokevirtual 63, 3) := by decide +kernel
theorem dX12_put_69 : decode cX12_put 69 = .ok (.ireturn, 1) := by decide +kernel
theorem dX12_put_70 : decode cX12_put 70 = .ok (.aload_n 0, 1) := by decide +kernel
theorem dX12_put_71 : decode cX12_put 71 = .ok (.getfield 7, 3) := by decide +kernel
theorem dX12_put_74 : decode cX12_put 74 = .ok (.sipush 201, 3) := by decide +kernel
theorem dX12_put_77 : decode cX12_put 77 = .ok (.iload_n 1, 1) := by decide +kernel
theorem dX12_put_78 : decode cX12_put 78 = .ok (.iadd, 1) := by decide +kernel
theorem dX12_put_79 : decode cX12_put 79 = .ok (.iaload, 1) := by decide +kernel
theorem dX12_put_80 : decode cX12_put 80 = .ok (.istore 5, 2) := by decide +kernel
theorem dX12_put_82 : decode cX12_put 82 = .ok (.aload_n 0, 1) := by decide +kernel
theorem dX12_put_83 : decode cX12_put 83 = .ok (.getfield 7, 3) := by decide +kernel
theorem dX12_put_86 : decode cX12_put 86 = .ok (.sipush 201, 3) := by decide +kernel
theorem dX12_put_89 : decode cX12_put 89 = .ok (.iload_n 1, 1) := by decide +kernel
theorem dX12_put_90 : decode cX12_put 90 = .ok (.iadd, 1) := by decide +kernel
theorem dX12_put_91 : decode cX12_put 91 = .ok (.iload_n 2, 1) := by decide +kernel
theorem dX12_put_92 : decode cX12_put 92 = .ok (.iastore, 1) := by decide +kernel
theorem dX12_put_93 : decode cX12_put 93 = .ok (.iload 5, 2) := by decide +kernel
theorem dX12_put_95 : decode cX12_put 95 = .ok (.ireturn, 1) := by decide +kernel
theorem bX12_put_0 {Z : ZT} {X : XT} {μ : Mu} {a1 : Int32} {a2 : Int32} (E : Ent Z X mX12_put 0 0)  
    (kt : ¬ a1 = 0 → JS Z X 8 [(0, .ref (Z.2.2.1 + 455)), (1, .int a1), (2, .int a2)] [] μ) (kf : a1 = 0 → JS Z X 4 [(0, .ref (Z.2.2.1 + 455)), (1, .int a1), (2, .int a2)] [] μ) :
    JS Z X 0 [(0, .ref (Z.2.2.1 + 455)), (1, .int a1), (2, .int a2)] [] μ := by
  refine J_iload_n E dX12_put_0 rfl ?_
  refine J_if_ne (tgt := 8) E dX12_put_1 (by decide) (fun c => ?_) (fun c => ?_)
  · exact kt c
  · exact kf c
theorem bX12_put_4 {Z : ZT} {X : XT} {μ : Mu} {a1 : Int32} {a2 : Int32} (E : Ent Z X mX12_put 0 0)  
    (k : JS Z X 9 [(0, .ref (Z.2.2.1 + 455)), (1, .int a1), (2, .int a2)] [.int (nI 1)] μ) :
    JS Z X 4 [(0, .ref (Z.2.2.1 + 455)), (1, .int a1), (2, .int a2)] [] μ := by
  refine J_iconst (v := nI 1) E dX12_put_4 rfl ?_
  refine J_goto (tgt := 9) E dX12_put_5 (by decide) ?_
  exact k
theorem bX12_put_8 {Z : ZT} {X : XT} {μ : Mu} {a1 : Int32} {a2 : Int32} (E : Ent Z X mX12_put 0 0)  
    (k : JS Z X 9 [(0, .ref (Z.2.2.1 + 455)), (1, .int a1), (2, .int a2)] [.int (nI 0)] μ) :
    JS Z X 8 [(0, .ref (Z.2.2.1 + 455)), (1, .int a1), (2, .int a2)] [] μ := by
  refine J_iconst (v := nI 0) E dX12_put_8 rfl ?_
  exact k
theorem bX12_put_9 {Z : ZT} {X : XT} {μ : Mu} {a1 : Int32} {a2 : Int32} {s0 : Int32} (E : Ent Z X mX12_put 0 0)  
    (kt : ¬ a1 = 0 → JS Z X 19 [(0, .ref (Z.2.2.1 + 455)), (1, .int a1), (2, .int a2), (3, .int s0)] [] μ) (kf : a1 = 0 → JS Z X 14 [(0, .ref (Z.2.2.1 + 455)), (1, .int a1), (2, .int a2), (3, .int s0)] [] μ) :
    JS Z X 9 [(0, .ref (Z.2.2.1 + 455)), (1, .int a1), (2, .int a2)] [.int s0] μ := by
  refine J_istore_n (lv' := [(0, .ref (Z.2.2.1 + 455)), (1, .int a1), (2, .int a2), (3, .int s0)]) E dX12_put_9 (Nat.le_of_ble_eq_true rfl) rfl ?_
  refine J_iload_n E dX12_put_10 rfl ?_
  refine J_if_ne (tgt := 19) E dX12_put_11 (by decide) (fun c => ?_) (fun c => ?_)
  · exact kt c
  · exact kf c
theorem bX12_put_14 {Z : ZT} {X : XT} {μ : Mu} {a1 : Int32} {a2 : Int32} {a3 : Int32} (E : Ent Z X mX12_put 0 0)  
    (k : JS Z X 42 [(0, .ref (Z.2.2.1 + 455)), (1, .int a1), (2, .int a2), (3, .int a3)] [.int (nI 6)] μ) :
    JS Z X 14 [(0, .ref (Z.2.2.1 + 455)), (1, .int a1), (2, .int a2), (3, .int a3)] [] μ := by
  refine J_bipush (v := nI 6) E dX12_put_14 rfl ?_
  refine J_goto (tgt := 42) E dX12_put_16 (by decide) ?_
  exact k
theorem bX12_put_19 {Z : ZT} {X : XT} {μ : Mu} {a1 : Int32} {a2 : Int32} {a3 : Int32} (E : Ent Z X mX12_put 0 0)  
    (kt : ¬ a1 = (nI 1) → JS Z X 30 [(0, .ref (Z.2.2.1 + 455)), (1, .int a1), (2, .int a2), (3, .int a3)] [] μ) (kf : a1 = (nI 1) → JS Z X 24 [(0, .ref (Z.2.2.1 + 455)), (1, .int a1), (2, .int a2), (3, .int a3)] [] μ) :
    JS Z X 19 [(0, .ref (Z.2.2.1 + 455)), (1, .int a1), (2, .int a2), (3, .int a3)] [] μ := by
  refine J_iload_n E dX12_put_19 rfl ?_
  refine J_iconst (v := nI 1) E dX12_put_20 rfl ?_
  refine J_icmp_ne (tgt := 30) E dX12_put_21 (by decide) (fun c => ?_) (fun c => ?_)
  · exact kt c
  · exact kf c
theorem bX12_put_24 {Z : ZT} {X : XT} {μ : Mu} {a1 : Int32} {a2 : Int32} {a3 : Int32} (E : Ent Z X mX12_put 0 0)  
    (k : JS Z X 42 [(0, .ref (Z.2.2.1 + 455)), (1, .int a1), (2, .int a2), (3, .int a3)] [.int (nI 200)] μ) :
    JS Z X 24 [(0, .ref (Z.2.2.1 + 455)), (1, .int a1), (2, .int a2), (3, .int a3)] [] μ := by
  refine J_sipush (v := nI 200) E dX12_put_24 rfl ?_
  refine J_goto (tgt := 42) E dX12_put_27 (by decide) ?_
  exact k
theorem bX12_put_30 {Z : ZT} {X : XT} {μ : Mu} {a1 : Int32} {a2 : Int32} {a3 : Int32} (E : Ent Z X mX12_put 0 0)  
    (kt : ¬ a1 = (nI 2) → JS Z X 40 [(0, .ref (Z.2.2.1 + 455)), (1, .int a1), (2, .int a2), (3, .int a3)] [] μ) (kf : a1 = (nI 2) → JS Z X 35 [(0, .ref (Z.2.2.1 + 455)), (1, .int a1), (2, .int a2), (3, .int a3)] [] μ) :
    JS Z X 30 [(0, .ref (Z.2.2.1 + 455)), (1, .int a1), (2, .int a2), (3, .int a3)] [] μ := by
  refine J_iload_n E dX12_put_30 rfl ?_
  refine J_iconst (v := nI 2) E dX12_put_31 rfl ?_
  refine J_icmp_ne (tgt := 40) E dX12_put_32 (by decide) (fun c => ?_) (fun c => ?_)
  · exact kt c
  · exact kf c
theorem bX12_put_35 {Z : ZT} {X : XT} {μ : Mu} {a1 : Int32} {a2 : Int32} {a3 : Int32} (E : Ent Z X mX12_put 0 0)  
    (k : JS Z X 42 [(0, .ref (Z.2.2.1 + 455)), (1, .int a1), (2, .int a2), (3, .int a3)] [.int (nI 10)] μ) :
    JS Z X 35 [(0, .ref (Z.2.2.1 + 455)), (1, .int a1), (2, .int a2), (3, .int a3)] [] μ := by
  refine J_bipush (v := nI 10) E dX12_put_35 rfl ?_
  refine J_goto (tgt := 42) E dX12_put_37 (by decide) ?_
  exact k
theorem bX12_put_40 {Z : ZT} {X : XT} {μ : Mu} {a1 : Int32} {a2 : Int32} {a3 : Int32} (E : Ent Z X mX12_put 0 0)  
    (k : JS Z X 42 [(0, .ref (Z.2.2.1 + 455)), (1, .int a1), (2, .int a2), (3, .int a3)] [.int (nI 9)] μ) :
    JS Z X 40 [(0, .ref (Z.2.2.1 + 455)), (1, .int a1), (2, .int a2), (3, .int a3)] [] μ := by
  refine J_bipush (v := nI 9) E dX12_put_40 rfl ?_
  exact k
theorem bX12_put_42 {Z : ZT} {X : XT} {μ : Mu} {a1 : Int32} {a2 : Int32} {a3 : Int32} {s0 : Int32} (E : Ent Z X mX12_put 0 0) {p : Int32 → Mu → Prop} 
    (c : CtrS Z mX12_in [.int a1, .int (nI 0), .int (nI 4)] μ (rI p)) (k : ∀ v μ1, p v μ1 → JS Z X 50 [(0, .ref (Z.2.2.1 + 455)), (1, .int a1), (2, .int a2), (3, .int a3), (4, .int s0)] [.int v] μ1) :
    JS Z X 42 [(0, .ref (Z.2.2.1 + 455)), (1, .int a1), (2, .int a2), (3, .int a3)] [.int s0] μ := by
  refine J_istore (lv' := [(0, .ref (Z.2.2.1 + 455)), (1, .int a1), (2, .int a2), (3, .int a3), (4, .int s0)]) E dX12_put_42 (Nat.le_of_ble_eq_true rfl) rfl ?_
  refine J_iload_n E dX12_put_44 rfl ?_
  refine J_iconst (v := nI 0) E dX12_put_45 rfl ?_
  refine J_iconst (v := nI 4) E dX12_put_46 rfl ?_
  refine S_callS (As := [.int a1, .int (nI 0), .int (nI 4)]) (rest := []) E dX12_put_47 c kX12_in ⟨Nat.le_of_ble_eq_true rfl, Nat.le_of_ble_eq_true rfl⟩ rfl (Nat.le_of_ble_eq_true rfl) w6_67 w6_68 (fun r_ μ1 hp_ => ?_)
  obtain ⟨v, rfl, hp_⟩ := hp_
  exact k v μ1 hp_
theorem bX12_put_50 {Z : ZT} {X : XT} {μ : Mu} {a1 : Int32} {a2 : Int32} {a3 : Int32} {a4 : Int32} {s0 : Int32} (E : Ent Z X mX12_put 0 0)  
    (kt : s0 = 0 → JS Z X 63 [(0, .ref (Z.2.2.1 + 455))] [] μ) (kf : ¬ (s0 = 0) → JS Z X 53 [(0, .ref (Z.2.2.1 + 455)), (1, .int a1), (2, .int a2), (3, .int a3), (4, .int a4)] [] μ) :
    JS Z X 50 [(0, .ref (Z.2.2.1 + 455)), (1, .int a1), (2, .int a2), (3, .int a3), (4, .int a4)] [.int s0] μ := by
  refine J_if_eq (tgt := 63) E dX12_put_50 (by decide) (fun c => ?_) (fun c => ?_)
  · refine J.weak [0] rfl ?_
    exact kt c
  · exact kf c
theorem bX12_put_53 {Z : ZT} {X : XT} {μ : Mu} {a1 : Int32} {a2 : Int32} {a3 : Int32} {a4 : Int32} (E : Ent Z X mX12_put 0 0) {p : Int32 → Mu → Prop} 
    (c : CtrS Z mX12_in [.int a2, .int a3, .int a4] μ (rI p)) (k : ∀ v μ1, p v μ1 → JS Z X 60 [(0, .ref (Z.2.2.1 + 455)), (1, .int a1), (2, .int a2)] [.int v] μ1) :
    JS Z X 53 [(0, .ref (Z.2.2.1 + 455)), (1, .int a1), (2, .int a2), (3, .int a3), (4, .int a4)] [] μ := by
  refine J_iload_n E dX12_put_53 rfl ?_
  refine J_iload_n E dX12_put_54 rfl ?_
  refine J_iload E dX12_put_55 rfl ?_
  refine S_callS (As := [.int a2, .int a3, .int a4]) (rest := []) E dX12_put_57 c kX12_in ⟨Nat.le_of_ble_eq_true rfl, Nat.le_of_ble_eq_true rfl⟩ rfl (Nat.le_of_ble_eq_true rfl) w6_67 w6_68 (fun r_ μ1 hp_ => ?_)
  obtain ⟨v, rfl, hp_⟩ := hp_
  refine J.weak [0, 1, 2] rfl ?_
  exact k v μ1 hp_
theorem bX12_put_60 {Z : ZT} {X : XT} {μ : Mu} {a1 : Int32} {a2 : Int32} {s0 : Int32} (E : Ent Z X mX12_put 0 0)  
    (kt : ¬ s0 = 0 → JS Z X 70 [(0, .ref (Z.2.2.1 + 455)), (1, .int a1), (2, .int a2)] [] μ) (kf : s0 = 0 → JS Z X 63 [(0, .ref (Z.2.2.1 + 455))] [] μ) :
    JS Z X 60 [(0, .ref (Z.2.2.1 + 455)), (1, .int a1), (2, .int a2)] [.int s0] μ := by
  refine J_if_ne (tgt := 70) E dX12_put_60 (by decide) (fun c => ?_) (fun c => ?_)
  · exact kt c
  · refine J.weak [0] rfl ?_
    exact kf c
theorem bX12_put_63 {Z : ZT} {X : XT} {μ : Mu} (E : Ent Z X mX12_put 0 0) {p : Int32 → Mu → Prop} 
    (c : CtrS Z mX12_refuse [.ref (Z.2.2.1 + 455), .int (-2)] μ (rI p)) (k : ∀ v μ1, p v μ1 → JS Z X 69 [] [.int v] μ1) :
    JS Z X 63 [(0, .ref (Z.2.2.1 + 455))] [] μ := by
  refine J_aload_n E dX12_put_63 rfl ?_
  refine J_bipush (v := -2) E dX12_put_64 rfl ?_
  refine S_callV (As := [.int (-2)]) (rest := []) E dX12_put_66 c kX12_refuse ⟨Nat.le_of_ble_eq_true rfl, Nat.le_of_ble_eq_true rfl⟩ rfl (Nat.le_of_ble_eq_true rfl) sh455 rfl rfl w6_51 w6_53 wp_30 (fun r_ μ1 hp_ => ?_)
  obtain ⟨v, rfl, hp_⟩ := hp_
  refine J.weak [] rfl ?_
  exact k v μ1 hp_
theorem bX12_put_69 {Z : ZT} {X : XT} {μ : Mu} {s0 : Int32} (E : Ent Z X mX12_put 0 0) {P : Option Value → Mu → Prop} (hB : BodS Z X P) 
    (k : P (some (.int s0)) μ) :
    JS Z X 69 [] [.int s0] μ := by
  exact S_iret E hB dX12_put_69 rfl k
theorem bX12_put_70 {Z : ZT} {X : XT} {μ : Mu} {a1 : Int32} {a2 : Int32} (E : Ent Z X mX12_put 0 0)  (s1_ : vp_in ((nI 201) + a1) 988) (s2_ : vp_in ((nI 201) + a1) 988)
    (k : JS Z X 93 [(5, .int (μ 456 (ix ((nI 201) + a1))))] [] (uR μ 456 (upd (μ 456) (ix ((nI 201) + a1)) a2))) :
    JS Z X 70 [(0, .ref (Z.2.2.1 + 455)), (1, .int a1), (2, .int a2)] [] μ := by
  refine J_aload_n E dX12_put_70 rfl ?_
  refine S_get (ci := 12) (q := 0) (v := .ref (Z.2.2.1 + 456)) E dX12_put_71 fs_X12_7 sh455 rfl ?_
  refine J_sipush (v := nI 201) E dX12_put_74 rfl ?_
  refine J_iload_n E dX12_put_77 rfl ?_
  refine J_iadd E dX12_put_78 ?_
  refine S_iald E dX12_put_79 sh456 s1_ ?_
  refine J_istore (lv' := [(0, .ref (Z.2.2.1 + 455)), (1, .int a1), (2, .int a2), (5, .int (μ 456 (ix ((nI 201) + a1))))]) E dX12_put_80 (Nat.le_of_ble_eq_true rfl) rfl ?_
  refine J_aload_n E dX12_put_82 rfl ?_
  refine S_get (ci := 12) (q := 0) (v := .ref (Z.2.2.1 + 456)) E dX12_put_83 fs_X12_7 sh455 rfl ?_
  refine J_sipush (v := nI 201) E dX12_put_86 rfl ?_
  refine J_iload_n E dX12_put_89 rfl ?_
  refine J_iadd E dX12_put_90 ?_
  refine J_iload_n E dX12_put_91 rfl ?_
  refine S_iast E dX12_put_92 sh456 s2_ ?_
  refine J.weak [3] rfl ?_
  exact k
theorem bX12_put_93 {Z : ZT} {X : XT} {μ : Mu} {a5 : Int32} (E : Ent Z X mX12_put 0 0) {P : Option Value → Mu → Prop} (hB : BodS Z X P) 
    (k : P (some (.int a5)) μ) :
    JS Z X 93 [(5, .int a5)] [] μ := by
  refine J_iload E dX12_put_93 rfl ?_
  exact S_iret E hB dX12_put_95 rfl k
theorem dX12_type_0 : decode cX12_type 0 = .ok (.iload_n 3, 1) := by decide +kernel
theorem dX12_type_1 : decode cX12_type 1 = .ok (.iconst 1, 1) := by decide +kernel
theorem dX12_type_2 : decode cX12_type 2 = .ok (.bipush 8, 2) := by decide +kernel
theorem dX12_type_4 : decode cX12_type 4 = .ok (.invokestatic 67, 3) := by decide +kernel
theorem dX12_type_7 : decode cX12_type 7 = .ok (.ifCond .ne 10, 3) := by decide +kernel
theorem dX12_type_10 : decode cX12_type 10 = .ok (.aload_n 0, 1) := by decide +kernel
theorem dX12_type_11 : decode cX12_type 11 = .ok (.bipush (-2), 2) := by decide +kernel
theorem dX12_type_13 : decode cX12_type 13 = .ok (.invokevirtual 63, 3) := by decide +kernel
theorem dX12_type_16 : decode cX12_type 16 = .ok (.ireturn, 1) := by decide +kernel
theorem dX12_type_17 : decode cX12_type 17 = .ok (.aload_n 0, 1) := by decide +kernel
theorem dX12_type_18 : decode cX12_type 18 = .ok (.getfield 116, 3) := by decide +kernel
theorem dX12_type_21 : decode cX12_type 21 = .ok (.iload_n 3, 1) := by decide +kernel
theorem dX12_type_22 : decode cX12_type 22 = .ok (.iadd, 1) := by decide +kernel
theorem dX12_type_23 : decode cX12_type 23 = .ok (.sipush 300, 3) := by decide +kernel
theorem dX12_type_26 : decode cX12_type 26 = .ok (.if_icmp .le 10, 3) := by decide +kernel
theorem dX12_type_29 : decode cX12_type 29 = .ok (.aload_n 0, 1) := by decide +kernel
theorem dX12_type_30 : decode cX12_type 30 = .ok (.bipush (-4), 2) := by decide +kernel
theorem dX12_type_32 : decode cX12_type 32 = .ok (.invokevirtual 63, 3) := by decide +kernel
theorem dX12_type_35 : decode cX12_type 35 = .ok (.ireturn, 1) := by decide +kernel
theorem dX12_type_36 : decode cX12_type 36 = .ok (.iload_n 3, 1) := by decide +kernel
theorem dX12_type_37 : decode cX12_type 37 = .ok (.iconst 1, 1) := by decide +kernel
theorem dX12_type_38 : decode cX12_type 38 = .ok (.isub, 1) := by decide +kernel
theorem dX12_type_39 : decode cX12_type 39 = .ok (.istore 4, 2) := by decide +kernel
theorem dX12_type_41 : decode cX12_type 41 = .ok (.iload 4, 2) := by decide +kernel
theorem dX12_type_43 : decode cX12_type 43 = .ok (.ifCond .lt 41, 3) := by decide +kernel
theorem dX12_type_46 : decode cX12_type 46 = .ok (.aload_n 0, 1) := by decide +kernel
theorem dX12_type_47 : decode cX12_type 47 = .ok (.getfield 20, 3) := by decide +kernel
theorem dX12_type_50 : decode cX12_type 50 = .ok (.aload_n 0, 1) := by decide +kernel
theorem dX12_type_51 : decode cX12_type 51 = .ok (.getfield 116, 3) := by decide +kernel
theorem dX12_type_54 : decode cX12_type 54 = .ok (.lload_n 1, 1) := by decide +kernel
theorem dX12_type_55 : decode cX12_type 55 = .ok (.bipush 8, 2) := by decide +kernel
theorem dX12_type_57 : decode cX12_type 57 = .ok (.iload 4, 2) := by decide +kernel
theorem dX12_type_59 : decode cX12_type 59 = .ok (.imul, 1) := by decide +kernel
theorem dX12_type_60 : decode cX12_type 60 = .ok (.lshr, 1) := by decide +kernel
theorem dX12_type_61 : decode cX12_type 61 = .ok (.ldc2_w 120, 3) := by decide +kernel
theorem dX12_type_64 : decode cX12_type 64 = .ok (.land, 1) := by decide +kernel
theorem dX12_type_65 : decode cX12_type 65 = .ok (.l2i, 1) := by decide +kernel
theorem dX12_type_66 : decode cX12_type 66 = .ok (.i2b, 1) := by decide +kernel
theorem dX12_type_67 : decode cX12_type 67 = .ok (.bastore, 1) := by decide +kernel
theorem dX12_type_68 : decode cX12_type 68 = .ok (.aload_n 0, 1) := by decide +kernel
theorem dX12_type_69 : decode cX12_type 69 = .ok (.dup, 1) := by decide +kernel
theorem dX12_type_70 : decode cX12_type 70 = .ok (.getfield 116, 3) := by decide +kernel
theorem dX12_type_73 : decode cX12_type 73 = .ok (.iconst 1, 1) := by decide +kernel
theorem dX12_type_74 : decode cX12_type 74 = .ok (.iadd, 1) := by decide +kernel
theorem dX12_type_75 : decode cX12_type 75 = .ok (.putfield 116, 3) := by decide +kernel
theorem dX12_type_78 : decode cX12_type 78 = .ok (.iinc 4 (-1), 3) := by decide +kernel
theorem dX12_type_81 : decode cX12_type 81 = .ok (.goto (-40), 3) := by decide +kernel
theorem dX12_type_84 : decode cX12_type 84 = .ok (.aload_n 0, 1) := by decide +kernel
theorem dX12_type_85 : decode cX12_type 85 = .ok (.getfield 116, 3) := by decide +kernel
theorem dX12_type_88 : decode cX12_type 88 = .ok (.ireturn, 1) := by decide +kernel
theorem bX12_type_0 {Z : ZT} {X : XT} {μ : Mu} {a1 : Int64} {a3 : Int32} (E : Ent Z X mX12_type 0 0) {p : Int32 → Mu → Prop} 
    (c : CtrS Z mX12_in [.int a3, .int (nI 1), .int (nI 8)] μ (rI p)) (k : ∀ v μ1, p v μ1 → JS Z X 7 [(0, .ref (Z.2.2.1 + 455)), (1, .long a1), (3, .int a3)] [.int v] μ1) :
    JS Z X 0 [(0, .ref (Z.2.2.1 + 455)), (1, .long a1), (3, .int a3)] [] μ := by
  refine J_iload_n E dX12_type_0 rfl ?_
  refine J_iconst (v := nI 1) E dX12_type_1 rfl ?_
  refine J_bipush (v := nI 8) E dX12_type_2 rfl ?_
  refine S_callS (As := [.int a3, .int (nI 1), .int (nI 8)]) (rest := []) E dX12_type_4 c kX12_in ⟨Nat.le_of_ble_eq_true rfl, Nat.le_of_ble_eq_true rfl⟩ rfl (Nat.le_of_ble_eq_true rfl) w6_67 w6_68 (fun r_ μ1 hp_ => ?_)
  obtain ⟨v, rfl, hp_⟩ := hp_
  exact k v μ1 hp_
theorem bX12_type_7 {Z : ZT} {X : XT} {μ : Mu} {a1 : Int64} {a3 : Int32} {s0 : Int32} (E : Ent Z X mX12_type 0 0)  
    (kt : ¬ s0 = 0 → JS Z X 17 [(0, .ref (Z.2.2.1 + 455)), (1, .long a1), (3, .int a3)] [] μ) (kf : s0 = 0 → JS Z X 10 [(0, .ref (Z.2.2.1 + 455))] [] μ) :
    JS Z X 7 [(0, .ref (Z.2.2.1 + 455)), (1, .long a1), (3, .int a3)] [.int s0] μ := by
  refine J_if_ne (tgt := 17) E dX12_type_7 (by decide) (fun c => ?_) (fun c => ?_)
  · exact kt c
  · refine J.weak [0] rfl ?_
    exact kf c
theorem bX12_type_10 {Z : ZT} {X : XT} {μ : Mu} (E : Ent Z X mX12_type 0 0) {p : Int32 → Mu → Prop} 
    (c : CtrS Z mX12_refuse [.ref (Z.2.2.1 + 455), .int (-2)] μ (rI p)) (k : ∀ v μ1, p v μ1 → JS Z X 16 [] [.int v] μ1) :
    JS Z X 10 [(0, .ref (Z.2.2.1 + 455))] [] μ := by
  refine J_aload_n E dX12_type_10 rfl ?_
  refine J_bipush (v := -2) E dX12_type_11 rfl ?_
  refine S_callV (As := [.int (-2)]) (rest := []) E dX12_type_13 c kX12_refuse ⟨Nat.le_of_ble_eq_true rfl, Nat.le_of_ble_eq_true rfl⟩ rfl (Nat.le_of_ble_eq_true rfl) sh455 rfl rfl w6_51 w6_53 wp_30 (fun r_ μ1 hp_ => ?_)
  obtain ⟨v, rfl, hp_⟩ := hp_
  refine J.weak [] rfl ?_
  exact k v μ1 hp_
theorem bX12_type_16 {Z : ZT} {X : XT} {μ : Mu} {s0 : Int32} (E : Ent Z X mX12_type 0 0) {P : Option Value → Mu → Prop} (hB : BodS Z X P) 
    (k : P (some (.int s0)) μ) :
    JS Z X 16 [] [.int s0] μ := by
  exact S_iret E hB dX12_type_16 rfl k
theorem bX12_type_17 {Z : ZT} {X : XT} {μ : Mu} {a1 : Int64} {a3 : Int32} (E : Ent Z X mX12_type 0 0)  
    (kt : ((μ 455 4) + a3) ≤ (nI 300) → JS Z X 36 [(0, .ref (Z.2.2.1 + 455)), (1, .long a1), (3, .int a3)] [] μ) (kf : ¬ (((μ 455 4) + a3) ≤ (nI 300)) → JS Z X 29 [(0, .ref (Z.2.2.1 + 455))] [] μ) :
    JS Z X 17 [(0, .ref (Z.2.2.1 + 455)), (1, .long a1), (3, .int a3)] [] μ := by
  refine J_aload_n E dX12_type_17 rfl ?_
  refine S_get (ci := 12) (q := 4) (v := .int (μ 455 4)) E dX12_type_18 fs_X12_116 sh455 rfl ?_
  refine J_iload_n E dX12_type_21 rfl ?_
  refine J_iadd E dX12_type_22 ?_
  refine J_sipush (v := nI 300) E dX12_type_23 rfl ?_
  refine J_icmp_le (tgt := 36) E dX12_type_26 (by decide) (fun c => ?_) (fun c => ?_)
  · exact kt c
  · refine J.weak [0] rfl ?_
    exact kf c
theorem bX12_type_29 {Z : ZT} {X : XT} {μ : Mu} (E : Ent Z X mX12_type 0 0) {p : Int32 → Mu → Prop} 
    (c : CtrS Z mX12_refuse [.ref (Z.2.2.1 + 455), .int (-4)] μ (rI p)) (k : ∀ v μ1, p v μ1 → JS Z X 35 [] [.int v] μ1) :
    JS Z X 29 [(0, .ref (Z.2.2.1 + 455))] [] μ := by
  refine J_aload_n E dX12_type_29 rfl ?_
  refine J_bipush (v := -4) E dX12_type_30 rfl ?_
  refine S_callV (As := [.int (-4)]) (rest := []) E dX12_type_32 c kX12_refuse ⟨Nat.le_of_ble_eq_true rfl, Nat.le_of_ble_eq_true rfl⟩ rfl (Nat.le_of_ble_eq_true rfl) sh455 rfl rfl w6_51 w6_53 wp_30 (fun r_ μ1 hp_ => ?_)
  obtain ⟨v, rfl, hp_⟩ := hp_
  refine J.weak [] rfl ?_
  exact k v μ1 hp_
theorem bX12_type_35 {Z : ZT} {X : XT} {μ : Mu} {s0 : Int32} (E : Ent Z X mX12_type 0 0) {P : Option Value → Mu → Prop} (hB : BodS Z X P) 
    (k : P (some (.int s0)) μ) :
    JS Z X 35 [] [.int s0] μ := by
  exact S_iret E hB dX12_type_35 rfl k
theorem bX12_type_36 {Z : ZT} {X : XT} {μ : Mu} {a1 : Int64} {a3 : Int32} (E : Ent Z X mX12_type 0 0)  
    (k : JS Z X 41 [(0, .ref (Z.2.2.1 + 455)), (1, .long a1), (4, .int (a3 - (nI 1)))] [] μ) :
    JS Z X 36 [(0, .ref (Z.2.2.1 + 455)), (1, .long a1), (3, .int a3)] [] μ := by
  refine J_iload_n E dX12_type_36 rfl ?_
  refine J_iconst (v := nI 1) E dX12_type_37 rfl ?_
  refine J_isub E dX12_type_38 ?_
  refine J_istore (lv' := [(0, .ref (Z.2.2.1 + 455)), (1, .long a1), (3, .int a3), (4, .int (a3 - (nI 1)))]) E dX12_type_39 (Nat.le_of_ble_eq_true rfl) rfl ?_
  refine J.weak [0, 1, 3] rfl ?_
  exact k
theorem bX12_type_41 {Z : ZT} {X : XT} {μ : Mu} {a1 : Int64} {a4 : Int32} (E : Ent Z X mX12_type 0 0)  
    (kt : a4 < 0 → JS Z X 84 [(0, .ref (Z.2.2.1 + 455))] [] μ) (kf : ¬ (a4 < 0) → JS Z X 46 [(0, .ref (Z.2.2.1 + 455)), (1, .long a1), (4, .int a4)] [] μ) :
    JS Z X 41 [(0, .ref (Z.2.2.1 + 455)), (1, .long a1), (4, .int a4)] [] μ := by
  refine J_iload E dX12_type_41 rfl ?_
  refine J_if_lt (tgt := 84) E dX12_type_43 (by decide) (fun c => ?_) (fun c => ?_)
  · refine J.weak [0] rfl ?_
    exact kt c
  · exact kf c
theorem bX12_type_46 {Z : ZT} {X : XT} {μ : Mu} {a1 : Int64} {a4 : Int32} (E : Ent Z X mX12_type 0 0)  (s1_ : vp_in (μ 455 4) 300)
    (k : JS Z X 68 [(0, .ref (Z.2.2.1 + 455)), (1, .long a1), (4, .int a4)] [] (uR μ 459 (upd (μ 459) (ix (μ 455 4)) (vp_nar .byte ((((a1 >>> (((nI 8) * a4).toInt64 &&& 63)) &&& (lN 255)).toInt32).toInt8.toInt32))))) :
    JS Z X 46 [(0, .ref (Z.2.2.1 + 455)), (1, .long a1), (4, .int a4)] [] μ := by
  refine J_aload_n E dX12_type_46 rfl ?_
  refine S_get (ci := 12) (q := 3) (v := .ref (Z.2.2.1 + 459)) E dX12_type_47 fs_X12_20 sh455 rfl ?_
  refine J_aload_n E dX12_type_50 rfl ?_
  refine S_get (ci := 12) (q := 4) (v := .int (μ 455 4)) E dX12_type_51 fs_X12_116 sh455 rfl ?_
  refine J_lload_n E dX12_type_54 rfl ?_
  refine J_bipush (v := nI 8) E dX12_type_55 rfl ?_
  refine J_iload E dX12_type_57 rfl ?_
  refine J_imul E dX12_type_59 ?_
  refine J_lshr E dX12_type_60 ?_
  refine J_ldc2 (v := lN 255) E dX12_type_61 w6_153 ?_
  refine J_land E dX12_type_64 ?_
  refine J_l2i E dX12_type_65 ?_
  refine J_i2b E dX12_type_66 ?_
  refine S_bast E dX12_type_67 sh459 s1_ ?_
  exact k
theorem bX12_type_68 {Z : ZT} {X : XT} {μ : Mu} {a1 : Int64} {a4 : Int32} (E : Ent Z X mX12_type 0 0)  
    (k : JS Z X 78 [(0, .ref (Z.2.2.1 + 455)), (1, .long a1), (4, .int a4)] [] (uR μ 455 (upd (μ 455) 4 ((μ 455 4) + (nI 1))))) :
    JS Z X 68 [(0, .ref (Z.2.2.1 + 455)), (1, .long a1), (4, .int a4)] [] μ := by
  refine J_aload_n E dX12_type_68 rfl ?_
  refine J_dup E dX12_type_69 rfl ?_
  refine S_get (ci := 12) (q := 4) (v := .int (μ 455 4)) E dX12_type_70 fs_X12_116 sh455 rfl ?_
  refine J_iconst (v := nI 1) E dX12_type_73 rfl ?_
  refine J_iadd E dX12_type_74 ?_
  refine S_puti E dX12_type_75 fs_X12_116 fp_X12_4 sh455 rfl ?_
  exact k
theorem bX12_type_78 {Z : ZT} {X : XT} {μ : Mu} {a1 : Int64} {a4 : Int32} (E : Ent Z X mX12_type 0 0)  
    (k : JS Z X 41 [(0, .ref (Z.2.2.1 + 455)), (1, .long a1), (4, .int (a4 + (-1)))] [] μ) :
    JS Z X 78 [(0, .ref (Z.2.2.1 + 455)), (1, .long a1), (4, .int a4)] [] μ := by
  refine J_iinc (v := a4 + (-1)) (lv' := [(0, .ref (Z.2.2.1 + 455)), (1, .long a1), (4, .int (a4 + (-1)))]) E dX12_type_78 rfl rfl (Nat.le_of_ble_eq_true rfl) rfl ?_
  refine J_goto (tgt := 41) E dX12_type_81 (by decide) ?_
  exact k
theorem bX12_type_84 {Z : ZT} {X : XT} {μ : Mu} (E : Ent Z X mX12_type 0 0) {P : Option Value → Mu → Prop} (hB : BodS Z X P) 
    (k : P (some (.int (μ 455 4))) μ) :
    JS Z X 84 [(0, .ref (Z.2.2.1 + 455))] [] μ := by
  refine J_aload_n E dX12_type_84 rfl ?_
  refine S_get (ci := 12) (q := 4) (v := .int (μ 455 4)) E dX12_type_85 fs_X12_116 sh455 rfl ?_
  exact S_iret E hB dX12_type_88 rfl k
theorem dX12_clear_0 : decode cX12_clear 0 = .ok (.aload_n 0, 1) := by decide +kernel
theorem dX12_clear_1 : decode cX12_clear 1 = .ok (.getfield 116, 3) := by decide +kernel
theorem dX12_clear_4 : decode cX12_clear 4 = .ok (.istore_n 1, 1) := by decide +kernel
theorem dX12_clear_5 : decode cX12_clear 5 = .ok (.aload_n 0, 1) := by decide +kernel
theorem dX12_clear_6 : decode cX12_clear 6 = .ok (.iconst 0, 1) := by decide +kernel
theorem dX12_clear_7 : decode cX12_clear 7 = .ok (.putfield 116, 3) := by decide +kernel
theorem dX12_clear_10 : decode cX12_clear 10 = .ok (.iload_n 1, 1) := by decide +kernel
theorem dX12_clear_11 : decode cX12_clear 11 = .ok (.ireturn, 1) := by decide +kernel
theorem bX12_clear_0 {Z : ZT} {X : XT} {μ : Mu} (E : Ent Z X mX12_clear 0 0)  
    (k : JS Z X 10 [(1, .int (μ 455 4))] [] (uR μ 455 (upd (μ 455) 4 (nI 0)))) :
    JS Z X 0 [(0, .ref (Z.2.2.1 + 455))] [] μ := by
  refine J_aload_n E dX12_clear_0 rfl ?_
  refine S_get (ci := 12) (q := 4) (v := .int (μ 455 4)) E dX12_clear_1 fs_X12_116 sh455 rfl ?_
  refine J_istore_n (lv' := [(0, .ref (Z.2.2.1 + 455)), (1, .int (μ 455 4))]) E dX12_clear_4 (Nat.le_of_ble_eq_true rfl) rfl ?_
  refine J_aload_n E dX12_clear_5 rfl ?_
  refine J_iconst (v := nI 0) E dX12_clear_6 rfl ?_
  refine S_puti E dX12_clear_7 fs_X12_116 fp_X12_4 sh455 rfl ?_
  refine J.weak [1] rfl ?_
  exact k
theorem bX12_clear_10 {Z : ZT} {X : XT} {μ : Mu} {a1 : Int32} (E : Ent Z X mX12_clear 0 0) {P : Option Value → Mu → Prop} (hB : BodS Z X P) 
    (k : P (some (.int a1)) μ) :
    JS Z X 10 [(1, .int a1)] [] μ := by
  refine J_iload_n E dX12_clear_10 rfl ?_
  exact S_iret E hB dX12_clear_11 rfl k
theorem dX12_here_0 : decode cX12_here 0 = .ok (.aload_n 0, 1) := by decide +kernel
theorem dX12_here_1 : decode cX12_here 1 = .ok (.getfield 122, 3) := by decide +kernel
theorem dX12_here_4 : decode cX12_here 4 = .ok (.aload_n 0, 1) := by decide +kernel
theorem dX12_here_5 : decode cX12_here 5 = .ok (.getfield 116, 3) := by decide +kernel
theorem dX12_here_8 : decode cX12_here 8 = .ok (.if_icmp .ge 19, 3) := by decide +kernel
theorem dX12_here_11 : decode cX12_here 11 = .ok (.aload_n 0, 1) := by decide +kernel
theorem dX12_here_12 : decode cX12_here 12 = .ok (.getfield 20, 3) := by decide +kernel
theorem dX12_here_15 : decode cX12_here 15 = .ok (.aload_n 0, 1) := by decide +kernel
theorem dX12_here_16 : decode cX12_here 16 = .ok (.getfield 122, 3) := by decide +kernel
theorem dX12_here_19 : decode cX12_here 19 = .ok (.baload, 1) := by decide +kernel
theorem dX12_here_20 : decode cX12_here 20 = .ok (.sipush 255, 3) := by decide +kernel
theorem dX12_here_23 : decode cX12_here 23 = .ok (.iand, 1) := by decide +kernel
theorem dX12_here_24 : decode cX12_here 24 = .ok (.goto 4, 3) := by decide +kernel
theorem dX12_here_27 : decode cX12_here 27 = .ok (.iconst (-1), 1) := by decide +kernel
theorem dX12_here_28 : decode cX12_here 28 = .ok (.ireturn, 1) := by decide +kernel
theorem bX12_here_0 {Z : ZT} {X : XT} {μ : Mu} (E : Ent Z X mX12_here 0 0)  
    (kt : (μ 455 4) ≤ (μ 455 5) → JS Z X 27 [] [] μ) (kf : ¬ ((μ 455 4) ≤ (μ 455 5)) → JS Z X 11 [(0, .ref (Z.2.2.1 + 455))] [] μ) :
    JS Z X 0 [(0, .ref (Z.2.2.1 + 455))] [] μ := by
  refine J_aload_n E dX12_here_0 rfl ?_
  refine S_get (ci := 12) (q := 5) (v := .int (μ 455 5)) E dX12_here_1 fs_X12_122 sh455 rfl ?_
  refine J_aload_n E dX12_here_4 rfl ?_
  refine S_get (ci := 12) (q := 4) (v := .int (μ 455 4)) E dX12_here_5 fs_X12_116 sh455 rfl ?_
  refine J_icmp_ge (tgt := 27) E dX12_here_8 (by decide) (fun c => ?_) (fun c => ?_)
  · refine J.weak [] rfl ?_
    exact kt c
  · exact kf c
theorem bX12_here_11 {Z : ZT} {X : XT} {μ : Mu} (E : Ent Z X mX12_here 0 0)  (s1_ : vp_in (μ 455 5) 300)
    (k : JS Z X 28 [] [.int ((μ 459 (ix (μ 455 5))) &&& (nI 255))] μ) :
    JS Z X 11 [(0, .ref (Z.2.2.1 + 455))] [] μ := by
  refine J_aload_n E dX12_here_11 rfl ?_
  refine S_get (ci := 12) (q := 3) (v := .ref (Z.2.2.1 + 459)) E dX12_here_12 fs_X12_20 sh455 rfl ?_
  refine J_aload_n E dX12_here_15 rfl ?_
  refine S_get (ci := 12) (q := 5) (v := .int (μ 455 5)) E dX12_here_16 fs_X12_122 sh455 rfl ?_
  refine S_bald E dX12_here_19 sh459 s1_ ?_
  refine J_sipush (v := nI 255) E dX12_here_20 rfl ?_
  refine J_iand E dX12_here_23 ?_
  refine J_goto (tgt := 28) E dX12_here_24 (by decide) ?_
  refine J.weak [] rfl ?_
  exact k
theorem bX12_here_27 {Z : ZT} {X : XT} {μ : Mu} (E : Ent Z X mX12_here 0 0)  
    (k : JS Z X 28 [] [.int (-1)] μ) :
    JS Z X 27 [] [] μ := by
  refine J_iconst (v := -1) E dX12_here_27 rfl ?_
  exact k
theorem bX12_here_28 {Z : ZT} {X : XT} {μ : Mu} {s0 : Int32} (E : Ent Z X mX12_here 0 0) {P : Option Value → Mu → Prop} (hB : BodS Z X P) 
    (k : P (some (.int s0)) μ) :
    JS Z X 28 [] [.int s0] μ := by
  exact S_iret E hB dX12_here_28 rfl k
theorem dX12_meaning_0 : decode cX12_meaning 0 = .ok (.iload_n 0, 1) := by decide +kernel
theorem dX12_meaning_1 : decode cX12_meaning 1 = .ok (.lookupswitch 121 #[(1503, 103), (13550, 118), (16819, 94), (208022, 106), (377776, 97), (382984, 109), (1758676, 100), (7008274, 115), (8740067, 91), (10413527, 112)], 91) := by decide +kernel
theorem dX12_meaning_92 : decode cX12_meaning 92 = .ok (.bipush 10, 2) := by decide +kernel
theorem dX12_meaning_94 : decode cX12_meaning 94 = .ok (.ireturn, 1) := by decide +kernel
theorem dX12_meaning_95 : decode cX12_meaning 95 = .ok (.bipush 11, 2) := by decide +kernel
theorem dX12_meaning_97 : decode cX12_meaning 97 = .ok (.ireturn, 1) := by decide +kernel
theorem dX12_meaning_98 : decode cX12_meaning 98 = .ok (.bipush 12, 2) := by decide +kernel
theorem dX12_meaning_100 : decode cX12_meaning 100 = .ok (.ireturn, 1) := by decide +kernel
theorem dX12_meaning_101 : decode cX12_meaning 101 = .ok (.bipush 13, 2) := by decide +kernel
theorem dX12_meaning_103 : decode cX12_meaning 103 = .ok (.ireturn, 1) := by decide +kernel
theorem dX12_meaning_104 : decode cX12_meaning 104 = .ok (.bipush 14, 2) := by decide +kernel
theorem dX12_meaning_106 : decode cX12_meaning 106 = .ok (.ireturn, 1) := by decide +kernel
theorem dX12_meaning_107 : decode cX12_meaning 107 = .ok (.bipush 15, 2) := by decide +kernel
theorem dX12_meaning_109 : decode cX12_meaning 109 = .ok (.ireturn, 1) := by decide +kernel
theorem dX12_meaning_110 : decode cX12_meaning 110 = .ok (.bipush 16, 2) := by decide +kernel
theorem dX12_meaning_112 : decode cX12_meaning 112 = .ok (.ireturn, 1) := by decide +kernel
theorem dX12_meaning_113 : decode cX12_meaning 113 = .ok (.bipush 17, 2) := by decide +kernel
theorem dX12_meaning_115 : decode cX12_meaning 115 = .ok (.ireturn, 1) := by decide +kernel
theorem dX12_meaning_116 : decode cX12_meaning 116 = .ok (.bipush 18, 2) := by decide +kernel
theorem dX12_meaning_118 : decode cX12_meaning 118 = .ok (.ireturn, 1) := by decide +kernel
theorem dX12_meaning_119 : decode cX12_meaning 119 = .ok (.bipush 19, 2) := by decide +kernel
theorem dX12_meaning_121 : decode cX12_meaning 121 = .ok (.ireturn, 1) := by decide +kernel
theorem dX12_meaning_122 : decode cX12_meaning 122 = .ok (.iconst 3, 1) := by decide +kernel
theorem dX12_meaning_123 : decode cX12_meaning 123 = .ok (.ireturn, 1) := by decide +kernel
theorem bX12_meaning_0 {Z : ZT} {X : XT} {μ : Mu} {a0 : Int32} (E : Ent Z X mX12_meaning 0 0)  
    (kd : ¬ a0 = nI 1503 → ¬ a0 = nI 13550 → ¬ a0 = nI 16819 → ¬ a0 = nI 208022 → ¬ a0 = nI 377776 → ¬ a0 = nI 382984 → ¬ a0 = nI 1758676 → ¬ a0 = nI 7008274 → ¬ a0 = nI 8740067 → ¬ a0 = nI 10413527 → JS Z X 122 [] [] μ) (k0 : a0 = nI 1503 → JS Z X 104 [] [] μ) (k1 : a0 = nI 13550 → JS Z X 119 [] [] μ) (k2 : a0 = nI 16819 → JS Z X 95 [] [] μ) (k3 : a0 = nI 208022 → JS Z X 107 [] [] μ) (k4 : a0 = nI 377776 → JS Z X 98 [] [] μ) (k5 : a0 = nI 382984 → JS Z X 110 [] [] μ) (k6 : a0 = nI 1758676 → JS Z X 101 [] [] μ) (k7 : a0 = nI 7008274 → JS Z X 116 [] [] μ) (k8 : a0 = nI 8740067 → JS Z X 92 [] [] μ) (k9 : a0 = nI 10413527 → JS Z X 113 [] [] μ) :
    JS Z X 0 [(0, .int a0)] [] μ := by
  refine J_iload_n E dX12_meaning_0 rfl ?_
  by_cases g0 : a0 = nI 1503
  · refine J_lookup (tgt := 104) E dX12_meaning_1 (by decide) (by first | (rw [g0]; done) | (rw [g0]; rfl)) (by decide) ?_
    refine J.weak [] rfl ?_
    exact k0 g0
  by_cases g1 : a0 = nI 13550
  · refine J_lookup (tgt := 119) E dX12_meaning_1 (by decide) (by first | (rw [g1]; done) | (rw [g1]; rfl)) (by decide) ?_
    refine J.weak [] rfl ?_
    exact k1 g1
  by_cases g2 : a0 = nI 16819
  · refine J_lookup (tgt := 95) E dX12_meaning_1 (by decide) (by first | (rw [g2]; done) | (rw [g2]; rfl)) (by decide) ?_
    refine J.weak [] rfl ?_
    exact k2 g2
  by_cases g3 : a0 = nI 208022
  · refine J_lookup (tgt := 107) E dX12_meaning_1 (by decide) (by first | (rw [g3]; done) | (rw [g3]; rfl)) (by decide) ?_
    refine J.weak [] rfl ?_
    exact k3 g3
  by_cases g4 : a0 = nI 377776
  · refine J_lookup (tgt := 98) E dX12_meaning_1 (by decide) (by first | (rw [g4]; done) | (rw [g4]; rfl)) (by decide) ?_
    refine J.weak [] rfl ?_
    exact k4 g4
  by_cases g5 : a0 = nI 382984
  · refine J_lookup (tgt := 110) E dX12_meaning_1 (by decide) (by first | (rw [g5]; done) | (rw [g5]; rfl)) (by decide) ?_
    refine J.weak [] rfl ?_
    exact k5 g5
  by_cases g6 : a0 = nI 1758676
  · refine J_lookup (tgt := 101) E dX12_meaning_1 (by decide) (by first | (rw [g6]; done) | (rw [g6]; rfl)) (by decide) ?_
    refine J.weak [] rfl ?_
    exact k6 g6
  by_cases g7 : a0 = nI 7008274
  · refine J_lookup (tgt := 116) E dX12_meaning_1 (by decide) (by first | (rw [g7]; done) | (rw [g7]; rfl)) (by decide) ?_
    refine J.weak [] rfl ?_
    exact k7 g7
  by_cases g8 : a0 = nI 8740067
  · refine J_lookup (tgt := 92) E dX12_meaning_1 (by decide) (by first | (rw [g8]; done) | (rw [g8]; rfl)) (by decide) ?_
    refine J.weak [] rfl ?_
    exact k8 g8
  by_cases g9 : a0 = nI 10413527
  · refine J_lookup (tgt := 113) E dX12_meaning_1 (by decide) (by first | (rw [g9]; done) | (rw [g9]; rfl)) (by decide) ?_
    refine J.weak [] rfl ?_
    exact k9 g9
  refine J_lookup (tgt := 122) E dX12_meaning_1 (by decide) (lookup_none (List.forall_mem_cons.mpr ⟨sw_ne g0 rfl, List.forall_mem_cons.mpr ⟨sw_ne g1 rfl, List.forall_mem_cons.mpr ⟨sw_ne g2 rfl, List.forall_mem_cons.mpr ⟨sw_ne g3 rfl, List.forall_mem_cons.mpr ⟨sw_ne g4 rfl, List.forall_mem_cons.mpr ⟨sw_ne g5 rfl, List.forall_mem_cons.mpr ⟨sw_ne g6 rfl, List.forall_mem_cons.mpr ⟨sw_ne g7 rfl, List.forall_mem_cons.mpr ⟨sw_ne g8 rfl, List.forall_mem_cons.mpr ⟨sw_ne g9 rfl, (fun _ h => absurd h List.not_mem_nil)⟩⟩⟩⟩⟩⟩⟩⟩⟩⟩)) (by decide) ?_
  refine J.weak [] rfl ?_
  exact kd g0 g1 g2 g3 g4 g5 g6 g7 g8 g9
theorem bX12_meaning_92 {Z : ZT} {X : XT} {μ : Mu} (E : Ent Z X mX12_meaning 0 0) {P : Option Value → Mu → Prop} (hB : BodS Z X P) 
    (k : P (some (.int (nI 10))) μ) :
    JS Z X 92 [] [] μ := by
  refine J_bipush (v := nI 10) E dX12_meaning_92 rfl ?_
  exact S_iret E hB dX12_meaning_94 rfl k
theorem bX12_meaning_95 {Z : ZT} {X : XT} {μ : Mu} (E : Ent Z X mX12_meaning 0 0) {P : Option Value → Mu → Prop} (hB : BodS Z X P) 
    (k : P (some (.int (nI 11))) μ) :
    JS Z X 95 [] [] μ := by
  refine J_bipush (v := nI 11) E dX12_meaning_95 rfl ?_
  exact S_iret E hB dX12_meaning_97 rfl k
theorem bX12_meaning_98 {Z : ZT} {X : XT} {μ : Mu} (E : Ent Z X mX12_meaning 0 0) {P : Option Value → Mu → Prop} (hB : BodS Z X P) 
    (k : P (some (.int (nI 12))) μ) :
    JS Z X 98 [] [] μ := by
  refine J_bipush (v := nI 12) E dX12_meaning_98 rfl ?_
  exact S_iret E hB dX12_meaning_100 rfl k
theorem bX12_meaning_101 {Z : ZT} {X : XT} {μ : Mu} (E : Ent Z X mX12_meaning 0 0) {P : Option Value → Mu → Prop} (hB : BodS Z X P) 
    (k : P (some (.int (nI 13))) μ) :
    JS Z X 101 [] [] μ := by
  refine J_bipush (v := nI 13) E dX12_meaning_101 rfl ?_
  exact S_iret E hB dX12_meaning_103 rfl k
theorem bX12_meaning_104 {Z : ZT} {X : XT} {μ : Mu} (E : Ent Z X mX12_meaning 0 0) {P : Option Value → Mu → Prop} (hB : BodS Z X P) 
    (k : P (some (.int (nI 14))) μ) :
    JS Z X 104 [] [] μ := by
  refine J_bipush (v := nI 14) E dX12_meaning_104 rfl ?_
  exact S_iret E hB dX12_meaning_106 rfl k
theorem bX12_meaning_107 {Z : ZT} {X : XT} {μ : Mu} (E : Ent Z X mX12_meaning 0 0) {P : Option Value → Mu → Prop} (hB : BodS Z X P) 
    (k : P (some (.int (nI 15))) μ) :
    JS Z X 107 [] [] μ := by
  refine J_bipush (v := nI 15) E dX12_meaning_107 rfl ?_
  exact S_iret E hB dX12_meaning_109 rfl k
theorem bX12_meaning_110 {Z : ZT} {X : XT} {μ : Mu} (E : Ent Z X mX12_meaning 0 0) {P : Option Value → Mu → Prop} (hB : BodS Z X P) 
    (k : P (some (.int (nI 16))) μ) :
    JS Z X 110 [] [] μ := by
  refine J_bipush (v := nI 16) E dX12_meaning_110 rfl ?_
  exact S_iret E hB dX12_meaning_112 rfl k
theorem bX12_meaning_113 {Z : ZT} {X : XT} {μ : Mu} (E : Ent Z X mX12_meaning 0 0) {P : Option Value → Mu → Prop} (hB : BodS Z X P) 
    (k : P (some (.int (nI 17))) μ) :
    JS Z X 113 [] [] μ := by
  refine J_bipush (v := nI 17) E dX12_meaning_113 rfl ?_
  exact S_iret E hB dX12_meaning_115 rfl k
theorem bX12_meaning_116 {Z : ZT} {X : XT} {μ : Mu} (E : Ent Z X mX12_meaning 0 0) {P : Option Value → Mu → Prop} (hB : BodS Z X P) 
    (k : P (some (.int (nI 18))) μ) :
    JS Z X 116 [] [] μ := by
  refine J_bipush (v := nI 18) E dX12_meaning_116 rfl ?_
  exact S_iret E hB dX12_meaning_118 rfl k
theorem bX12_meaning_119 {Z : ZT} {X : XT} {μ : Mu} (E : Ent Z X mX12_meaning 0 0) {P : Option Value → Mu → Prop} (hB : BodS Z X P) 
    (k : P (some (.int (nI 19))) μ) :
    JS Z X 119 [] [] μ := by
  refine J_bipush (v := nI 19) E dX12_meaning_119 rfl ?_
  exact S_iret E hB dX12_meaning_121 rfl k
theorem bX12_meaning_122 {Z : ZT} {X : XT} {μ : Mu} (E : Ent Z X mX12_meaning 0 0) {P : Option Value → Mu → Prop} (hB : BodS Z X P) 
    (k : P (some (.int (nI 3))) μ) :
    JS Z X 122 [] [] μ := by
  refine J_iconst (v := nI 3) E dX12_meaning_122 rfl ?_
  exact S_iret E hB dX12_meaning_123 rfl k
theorem dX12_next_0 : decode cX12_next 0 = .ok (.aload_n 0, 1) := by decide +kernel
theorem dX12_next_1 : decode cX12_next 1 = .ok (.invokevirtual 125, 3) := by decide +kernel
theorem dX12_next_4 : decode cX12_next 4 = .ok (.bipush 32, 2) := by decide +kernel
theorem dX12_next_6 : decode cX12_next 6 = .ok (.if_icmp .ne 16, 3) := by decide +kernel
theorem dX12_next_9 : decode cX12_next 9 = .ok (.aload_n 0, 1) := by decide +kernel
theorem dX12_next_10 : decode cX12_next 10 = .ok (.dup, 1) := by decide +kernel
theorem dX12_next_11 : decode cX12_next 11 = .ok (.getfield 122, 3) := by decide +kernel
theorem dX12_next_14 : decode cX12_next 14 = .ok (.iconst 1, 1) := by decide +kernel
theorem dX12_next_15 : decode cX12_next 15 = .ok (.iadd, 1) := by decide +kernel
theorem dX12_next_16 : decode cX12_next 16 = .ok (.putfield 122, 3) := by decide +kernel
theorem dX12_next_19 : decode cX12_next 19 = .ok (.goto (-19), 3) := by decide +kernel
theorem dX12_next_22 : decode cX12_next 22 = .ok (.aload_n 0, 1) := by decide +kernel
theorem dX12_next_23 : decode cX12_next 23 = .ok (.aload_n 0, 1) := by decide +kernel
theorem dX12_next_24 : decode cX12_next 24 = .ok (.getfield 122, 3) := by decide +kernel
theorem dX12_next_27 : decode cX12_next 27 = .ok (.putfield 129, 3) := by decide +kernel
theorem dX12_next_30 : decode cX12_next 30 = .ok (.aload_n 0, 1) := by decide +kernel
theorem dX12_next_31 : decode cX12_next 31 = .ok (.iconst 0, 1) := by decide +kernel
theorem dX12_next_32 : decode cX12_next 32 = .ok (.putfield 132, 3) := by decide +kernel
theorem dX12_next_35 : decode cX12_next 35 = .ok (.aload_n 0, 1) := by decide +kernel
theorem dX12_next_36 : decode cX12_next 36 = .ok (.invokevirtual 125, 3) := by decide +kernel
theorem dX12_next_39 : decode cX12_next 39 = .ok (.istore_n 1, 1) := by decide +kernel
theorem dX12_next_40 : decode cX12_next 40 = .ok (.iload_n 1, 1) := by decide +kernel
theorem dX12_next_41 : decode cX12_next 41 = .ok (.ifCond .ge 11, 3) := by decide +kernel
theorem dX12_next_44 : decode cX12_next 44 = .ok (.aload_n 0, 1) := by decide +kernel
theorem dX12_next_45 : decode cX12_next 45 = .ok (.iconst 0, 1) := by decide +kernel
theorem dX12_next_46 : decode cX12_next 46 = .ok (.putfield 135, 3) := by decide +kernel
theorem dX12_next_49 : decode cX12_next 49 = .ok (.goto 228, 3) := by decide +kernel
theorem dX12_next_52 : decode cX12_next 52 = .ok (.iload_n 1, 1) := by decide +kernel
theorem dX12_next_53 : decode cX12_next 53 = .ok (.bipush 97, 2) := by decide +kernel
theorem dX12_next_55 : decode cX12_next 55 = .ok (.bipush 122, 2) := by decide +kernel
theorem dX12_next_57 : decode cX12_next 57 = .ok (.invokestatic 67, 3) := by decide +kernel
theorem dX12_next_60 : decode cX12_next 60 = .ok (.ifCond .eq 90, 3) := by decide +kernel
theorem dX12_next_63 : decode cX12_next 63 = .ok (.iconst 0, 1) := by decide +kernel
theorem dX12_next_64 : decode cX12_next 64 = .ok (.istore_n 2, 1) := by decide +kernel
theorem dX12_next_65 : decode cX12_next 65 = .ok (.aload_n 0, 1) := by decide +kernel
theorem dX12_next_66 : decode cX12_next 66 = .ok (.invokevirtual 125, 3) := by decide +kernel
theorem dX12_next_69 : decode cX12_next 69 = .ok (.bipush 97, 2) := by decide +kernel
theorem dX12_next_71 : decode cX12_next 71 = .ok (.bipush 122, 2) := by decide +kernel
theorem dX12_next_73 : decode cX12_next 73 = .ok (.invokestatic 67, 3) := by decide +kernel
theorem dX12_next_76 : decode cX12_next 76 = .ok (.ifCond .eq 46, 3) := by decide +kernel
theorem dX12_next_79 : decode cX12_next 79 = .ok (.aload_n 0, 1) := by decide +kernel
theorem dX12_next_80 : decode cX12_next 80 = .ok (.getfield 122, 3) := by decide +kernel
theorem dX12_next_83 : decode cX12_next 83 = .ok (.aload_n 0, 1) := by decide +kernel
theorem dX12_next_84 : decode cX12_next 84 = .ok (.getfield 129, 3) := by decide +kernel
theorem dX12_next_87 : decode cX12_next 87 = .ok (.isub, 1) := by decide +kernel
theorem dX12_next_88 : decode cX12_next 88 = .ok (.iconst 5, 1) := by decide +kernel
theorem dX12_next_89 : decode cX12_next 89 = .ok (.if_icmp .ge 18, 3) := by decide +kernel
theorem dX12_next_92 : decode cX12_next 92 = .ok (.bipush 27, 2) := by decide +kernel
theorem dX12_next_94 : decode cX12_next 94 = .ok (.iload_n 2, 1) := by decide +kernel
theorem dX12_next_95 : decode cX12_next 95 = .ok (.imul, 1) := by decide +kernel
theorem dX12_next_96 : decode cX12_next 96 = .ok (.aload_n 0, 1) := by decide +kernel
theorem dX12_next_97 : decode cX12_next 97 = .ok (.invokevirtual 125, 3) := by decide +kernel
theorem dX12_next_100 : decode cX12_next 100 = .ok (.iadd, 1) := by decide +kernel
theorem dX12_next_101 : decode cX12_next 101 = .ok (.bipush 96, 2) := by decide +kernel
theorem dX12_next_103 : decode cX12_next 103 = .ok (.isub, 1) := by decide +kernel
theorem dX12_next_104 : decode cX12_next 104 = .ok (.goto 4, 3) := by decide +kernel
theorem dX12_next_107 : decode cX12_next 107 = .ok (.iconst 0, 1) := by decide +kernel
theorem dX12_next_108 : decode cX12_next 108 = .ok (.istore_n 2, 1) := by decide +kernel
theorem dX12_next_109 : decode cX12_next 109 = .ok (.aload_n 0, 1) := by decide +kernel
theorem dX12_next_110 : decode cX12_next 110 = .ok (.dup, 1) := by decide +kernel
theorem dX12_next_111 : decode cX12_next 111 = .ok (.getfield 122, 3) := by decide +kernel
theorem dX12_next_114 : decode cX12_next 114 = .ok (.iconst 1, 1) := by decide +kernel
theorem dX12_next_115 : decode cX12_next 115 = .ok (.iadd, 1) := by decide +kernel
theorem dX12_next_116 : decode cX12_next 116 = .ok (.putfield 122, 3) := by decide +kernel
theorem dX12_next_119 : decode cX12_next 119 = .ok (.goto (-54), 3) := by decide +kernel
theorem dX12_next_122 : decode cX12_next 122 = .ok (.aload_n 0, 1) := by decide +kernel
theorem dX12_next_123 : decode cX12_next 123 = .ok (.aload_n 0, 1) := by decide +kernel
theorem dX12_next_124 : decode cX12_next 124 = .ok (.getfield 122, 3) := by decide +kernel
theorem dX12_next_127 : decode cX12_next 127 = .ok (.aload_n 0, 1) := by decide +kernel
theorem dX12_next_128 : decode cX12_next 128 = .ok (.getfield 129, 3) := by decide +kernel
theorem dX12_next_131 : decode cX12_next 131 = .ok (.isub, 1) := by decide +kernel
theorem dX12_next_132 : decode cX12_next 132 = .ok (.iconst 5, 1) := by decide +kernel
theorem dX12_next_133 : decode cX12_next 133 = .ok (.if_icmp .le 7, 3) := by decide +kernel
theorem dX12_next_136 : decode cX12_next 136 = .ok (.iconst 0, 1) := by decide +kernel
theorem dX12_next_137 : decode cX12_next 137 = .ok (.goto 4, 3) := by decide +kernel
theorem dX12_next_140 : decode cX12_next 140 = .ok (.iload_n 2, 1) := by decide +kernel
theorem dX12_next_141 : decode cX12_next 141 = .ok (.invokestatic 138, 3) := by decide +kernel
theorem dX12_next_144 : decode cX12_next 144 = .ok (.putfield 135, 3) := by decide +kernel
theorem dX12_next_147 : decode cX12_next 147 = .ok (.goto 130, 3) := by decide +kernel
theorem dX12_next_150 : decode cX12_next 150 = .ok (.iload_n 1, 1) := by decide +kernel
theorem dX12_next_151 : decode cX12_next 151 = .ok (.bipush 48, 2) := by decide +kernel
theorem dX12_next_153 : decode cX12_next 153 = .ok (.bipush 57, 2) := by decide +kernel
theorem dX12_next_155 : decode cX12_next 155 = .ok (.invokestatic 67, 3) := by decide +kernel
theorem dX12_next_158 : decode cX12_next 158 = .ok (.ifCond .eq 94, 3) := by decide +kernel
theorem dX12_next_161 : decode cX12_next 161 = .ok (.aload_n 0, 1) := by decide +kernel
theorem dX12_next_162 : decode cX12_next 162 = .ok (.invokevirtual 125, 3) := by decide +kernel
theorem dX12_next_165 : decode cX12_next 165 = .ok (.bipush 48, 2) := by decide +kernel
theorem dX12_next_167 : decode cX12_next 167 = .ok (.bipush 57, 2) := by decide +kernel
theorem dX12_next_169 : decode cX12_next 169 = .ok (.invokestatic 67, 3) := by decide +kernel
theorem dX12_next_172 : decode cX12_next 172 = .ok (.ifCond .eq 55, 3) := by decide +kernel
theorem dX12_next_175 : decode cX12_next 175 = .ok (.aload_n 0, 1) := by decide +kernel
theorem dX12_next_176 : decode cX12_next 176 = .ok (.aload_n 0, 1) := by decide +kernel
theorem dX12_next_177 : decode cX12_next 177 = .ok (.getfield 122, 3) := by decide +kernel
theorem dX12_next_180 : decode cX12_next 180 = .ok (.aload_n 0, 1) := by decide +kernel
theorem dX12_next_181 : decode cX12_next 181 = .ok (.getfield 129, 3) := by decide +kernel
theorem dX12_next_184 : decode cX12_next 184 = .ok (.isub, 1) := by decide +kernel
theorem dX12_next_185 : decode cX12_next 185 = .ok (.iconst 3, 1) := by decide +kernel
theorem dX12_next_186 : decode cX12_next 186 = .ok (.if_icmp .ge 21, 3) := by decide +kernel
theorem dX12_next_189 : decode cX12_next 189 = .ok (.bipush 10, 2) := by decide +kernel
theorem dX12_next_191 : decode cX12_next 191 = .ok (.aload_n 0, 1) := by decide +kernel
theorem dX12_next_192 : decode cX12_next 192 = .ok (.getfield 132, 3) := by decide +kernel
theorem dX12_next_195 : decode cX12_next 195 = .ok (.imul, 1) := by decide +kernel
theorem dX12_next_196 : decode cX12_next 196 = .ok (.aload_n 0, 1) := by decide +kernel
theorem dX12_next_197 : decode cX12_next 197 = .ok (.invokevirtual 125, 3) := by decide +kernel
theorem dX12_next_200 : decode cX12_next 200 = .ok (.iadd, 1) := by decide +kernel
theorem dX12_next_201 : decode cX12_next 201 = .ok (.bipush 48, 2) := by decide +kernel
theorem dX12_next_203 : decode cX12_next 203 = .ok (.isub, 1) := by decide +kernel
theorem dX12_next_204 : decode cX12_next 204 = .ok (.goto 7, 3) := by decide +kernel
theorem dX12_next_207 : decode cX12_next 207 = .ok (.aload_n 0, 1) := by decide +kernel
theorem dX12_next_208 : decode cX12_next 208 = .ok (.getfield 132, 3) := by decide +kernel
theorem dX12_next_211 : decode cX12_next 211 = .ok (.putfield 132, 3) := by decide +kernel
theorem dX12_next_214 : decode cX12_next 214 = .ok (.aload_n 0, 1) := by decide +kernel
theorem dX12_next_215 : decode cX12_next 215 = .ok (.dup, 1) := by decide +kernel
theorem dX12_next_216 : decode cX12_next 216 = .ok (.getfield 122, 3) := by decide +kernel
theorem dX12_next_219 : decode cX12_next 219 = .ok (.iconst 1, 1) := by decide +kernel
theorem dX12_next_220 : decode cX12_next 220 = .ok (.iadd, 1) := by decide +kernel
theorem dX12_next_221 : decode cX12_next 221 = .ok (.putfield 122, 3) := by decide +kernel
theorem dX12_next_224 : decode cX12_next 224 = .ok (.goto (-63), 3) := by decide +kernel
theorem dX12_next_227 : decode cX12_next 227 = .ok (.aload_n 0, 1) := by decide +kernel
theorem dX12_next_228 : decode cX12_next 228 = .ok (.aload_n 0, 1) := by decide +kernel
theorem dX12_next_229 : decode cX12_next 229 = .ok (.getfield 122, 3) := by decide +kernel
theorem dX12_next_232 : decode cX12_next 232 = .ok (.aload_n 0, 1) := by decide +kernel
theorem dX12_next_233 : decode cX12_next 233 = .ok (.getfield 129, 3) := by decide +kernel
theorem dX12_next_236 : decode cX12_next 236 = .ok (.isub, 1) := by decide +kernel
theorem dX12_next_237 : decode cX12_next 237 = .ok (.iconst 3, 1) := by decide +kernel
theorem dX12_next_238 : decode cX12_next 238 = .ok (.if_icmp .le 7, 3) := by decide +kernel
theorem dX12_next_241 : decode cX12_next 241 = .ok (.iconst 3, 1) := by decide +kernel
theorem dX12_next_242 : decode cX12_next 242 = .ok (.goto 4, 3) := by decide +kernel
theorem dX12_next_245 : decode cX12_next 245 = .ok (.iconst 1, 1) := by decide +kernel
theorem dX12_next_246 : decode cX12_next 246 = .ok (.putfield 135, 3) := by decide +kernel
theorem dX12_next_249 : decode cX12_next 249 = .ok (.goto 28, 3) := by decide +kernel
theorem dX12_next_252 : decode cX12_next 252 = .ok (.aload_n 0, 1) := by decide +kernel
theorem dX12_next_253 : decode cX12_next 253 = .ok (.dup, 1) := by decide +kernel
theorem dX12_next_254 : decode cX12_next 254 = .ok (.getfield 122, 3) := by decide +kernel
theorem dX12_next_257 : decode cX12_next 257 = .ok (.iconst 1, 1) := by decide +kernel
theorem dX12_next_258 : decode cX12_next 258 = .ok (.iadd, 1) := by decide +kernel
theorem dX12_next_259 : decode cX12_next 259 = .ok (.putfield 122, 3) := by decide +kernel
theorem dX12_next_262 : decode cX12_next 262 = .ok (.aload_n 0, 1) := by decide +kernel
theorem dX12_next_263 : decode cX12_next 263 = .ok (.iload_n 1, 1) := by decide +kernel
theorem dX12_next_264 : decode cX12_next 264 = .ok (.bipush 59, 2) := by decide +kernel
theorem dX12_next_266 : decode cX12_next 266 = .ok (.if_icmp .ne 7, 3) := by decide +kernel
theorem dX12_next_269 : decode cX12_next 269 = .ok (.iconst 2, 1) := by decide +kernel
theorem dX12_next_270 : decode cX12_next 270 = .ok (.goto 4, 3) := by decide +kernel
theorem dX12_next_273 : decode cX12_next 273 = .ok (.iconst 3, 1) := by decide +kernel
theorem dX12_next_274 : decode cX12_next 274 = .ok (.putfield 135, 3) := by decide +kernel
theorem dX12_next_277 : decode cX12_next 277 = .ok (.return_, 1) := by decide +kernel
theorem bX12_next_0 {Z : ZT} {X : XT} {μ : Mu} (E : Ent Z X mX12_next 0 0) {p : Int32 → Mu → Prop} 
    (c : CtrS Z mX12_here [.ref (Z.2.2.1 + 455)] μ (rI p)) (k : ∀ v μ1, p v μ1 → JS Z X 4 [(0, .ref (Z.2.2.1 + 455))] [.int v] μ1) :
    JS Z X 0 [(0, .ref (Z.2.2.1 + 455))] [] μ := by
  refine J_aload_n E dX12_next_0 rfl ?_
  refine S_callV (As := []) (rest := []) E dX12_next_1 c kX12_here ⟨Nat.le_of_ble_eq_true rfl, Nat.le_of_ble_eq_true rfl⟩ rfl (Nat.le_of_ble_eq_true rfl) sh455 rfl rfl w6_166 w6_168 wp_43 (fun r_ μ1 hp_ => ?_)
  obtain ⟨v, rfl, hp_⟩ := hp_
  exact k v μ1 hp_
theorem bX12_next_4 {Z : ZT} {X : XT} {μ : Mu} {s0 : Int32} (E : Ent Z X mX12_next 0 0)  
    (kt : ¬ s0 = (nI 32) → JS Z X 22 [(0, .ref (Z.2.2.1 + 455))] [] μ) (kf : s0 = (nI 32) → JS Z X 9 [(0, .ref (Z.2.2.1 + 455))] [] μ) :
    JS Z X 4 [(0, .ref (Z.2.2.1 + 455))] [.int s0] μ := by
  refine J_bipush (v := nI 32) E dX12_next_4 rfl ?_
  refine J_icmp_ne (tgt := 22) E dX12_next_6 (by decide) (fun c => ?_) (fun c => ?_)
  · exact kt c
  · exact kf c
theorem bX12_next_9 {Z : ZT} {X : XT} {μ : Mu} (E : Ent Z X mX12_next 0 0)  
    (k : JS Z X 19 [(0, .ref (Z.2.2.1 + 455))] [] (uR μ 455 (upd (μ 455) 5 ((μ 455 5) + (nI 1))))) :
    JS Z X 9 [(0, .ref (Z.2.2.1 + 455))] [] μ := by
  refine J_aload_n E dX12_next_9 rfl ?_
  refine J_dup E dX12_next_10 rfl ?_
  refine S_get (ci := 12) (q := 5) (v := .int (μ 455 5)) E dX12_next_11 fs_X12_122 sh455 rfl ?_
  refine J_iconst (v := nI 1) E dX12_next_14 rfl ?_
  refine J_iadd E dX12_next_15 ?_
  refine S_puti E dX12_next_16 fs_X12_122 fp_X12_5 sh455 rfl ?_
  exact k
theorem bX12_next_19 {Z : ZT} {X : XT} {μ : Mu} (E : Ent Z X mX12_next 0 0)  
    (k : JS Z X 0 [(0, .ref (Z.2.2.1 + 455))] [] μ) :
    JS Z X 19 [(0, .ref (Z.2.2.1 + 455))] [] μ := by
  refine J_goto (tgt := 0) E dX12_next_19 (by decide) ?_
  exact k
theorem bX12_next_22 {Z : ZT} {X : XT} {μ : Mu} (E : Ent Z X mX12_next 0 0)  
    (k : JS Z X 30 [(0, .ref (Z.2.2.1 + 455))] [] (uR μ 455 (upd (μ 455) 6 (μ 455 5)))) :
    JS Z X 22 [(0, .ref (Z.2.2.1 + 455))] [] μ := by
  refine J_aload_n E dX12_next_22 rfl ?_
  refine J_aload_n E dX12_next_23 rfl ?_
  refine S_get (ci := 12) (q := 5) (v := .int (μ 455 5)) E dX12_next_24 fs_X12_122 sh455 rfl ?_
  refine S_puti E dX12_next_27 fs_X12_129 fp_X12_6 sh455 rfl ?_
  exact k
theorem bX12_next_30 {Z : ZT} {X : XT} {μ : Mu} (E : Ent Z X mX12_next 0 0)  
    (k : JS Z X 35 [(0, .ref (Z.2.2.1 + 455))] [] (uR μ 455 (upd (μ 455) 8 (nI 0)))) :
    JS Z X 30 [(0, .ref (Z.2.2.1 + 455))] [] μ := by
  refine J_aload_n E dX12_next_30 rfl ?_
  refine J_iconst (v := nI 0) E dX12_next_31 rfl ?_
  refine S_puti E dX12_next_32 fs_X12_132 fp_X12_8 sh455 rfl ?_
  exact k
theorem bX12_next_35 {Z : ZT} {X : XT} {μ : Mu} (E : Ent Z X mX12_next 0 0) {p : Int32 → Mu → Prop} 
    (c : CtrS Z mX12_here [.ref (Z.2.2.1 + 455)] μ (rI p)) (k : ∀ v μ1, p v μ1 → JS Z X 39 [(0, .ref (Z.2.2.1 + 455))] [.int v] μ1) :
    JS Z X 35 [(0, .ref (Z.2.2.1 + 455))] [] μ := by
  refine J_aload_n E dX12_next_35 rfl ?_
  refine S_callV (As := []) (rest := []) E dX12_next_36 c kX12_here ⟨Nat.le_of_ble_eq_true rfl, Nat.le_of_ble_eq_true rfl⟩ rfl (Nat.le_of_ble_eq_true rfl) sh455 rfl rfl w6_166 w6_168 wp_43 (fun r_ μ1 hp_ => ?_)
  obtain ⟨v, rfl, hp_⟩ := hp_
  exact k v μ1 hp_
theorem bX12_next_39 {Z : ZT} {X : XT} {μ : Mu} {s0 : Int32} (E : Ent Z X mX12_next 0 0)  
    (kt : 0 ≤ s0 → JS Z X 52 [(0, .ref (Z.2.2.1 + 455)), (1, .int s0)] [] μ) (kf : ¬ (0 ≤ s0) → JS Z X 44 [(0, .ref (Z.2.2.1 + 455))] [] μ) :
    JS Z X 39 [(0, .ref (Z.2.2.1 + 455))] [.int s0] μ := by
  refine J_istore_n (lv' := [(0, .ref (Z.2.2.1 + 455)), (1, .int s0)]) E dX12_next_39 (Nat.le_of_ble_eq_true rfl) rfl ?_
  refine J_iload_n E dX12_next_40 rfl ?_
  refine J_if_ge (tgt := 52) E dX12_next_41 (by decide) (fun c => ?_) (fun c => ?_)
  · exact kt c
  · refine J.weak [0] rfl ?_
    exact kf c
theorem bX12_next_44 {Z : ZT} {X : XT} {μ : Mu} (E : Ent Z X mX12_next 0 0)  
    (k : JS Z X 49 [] [] (uR μ 455 (upd (μ 455) 7 (nI 0)))) :
    JS Z X 44 [(0, .ref (Z.2.2.1 + 455))] [] μ := by
  refine J_aload_n E dX12_next_44 rfl ?_
  refine J_iconst (v := nI 0) E dX12_next_45 rfl ?_
  refine S_puti E dX12_next_46 fs_X12_135 fp_X12_7 sh455 rfl ?_
  refine J.weak [] rfl ?_
  exact k
theorem bX12_next_49 {Z : ZT} {X : XT} {μ : Mu} (E : Ent Z X mX12_next 0 0)  
    (k : JS Z X 277 [] [] μ) :
    JS Z X 49 [] [] μ := by
  refine J_goto (tgt := 277) E dX12_next_49 (by decide) ?_
  exact k
theorem bX12_next_52 {Z : ZT} {X : XT} {μ : Mu} {a1 : Int32} (E : Ent Z X mX12_next 0 0) {p : Int32 → Mu → Prop} 
    (c : CtrS Z mX12_in [.int a1, .int (nI 97), .int (nI 122)] μ (rI p)) (k : ∀ v μ1, p v μ1 → JS Z X 60 [(0, .ref (Z.2.2.1 + 455)), (1, .int a1)] [.int v] μ1) :
    JS Z X 52 [(0, .ref (Z.2.2.1 + 455)), (1, .int a1)] [] μ := by
  refine J_iload_n E dX12_next_52 rfl ?_
  refine J_bipush (v := nI 97) E dX12_next_53 rfl ?_
  refine J_bipush (v := nI 122) E dX12_next_55 rfl ?_
  refine S_callS (As := [.int a1, .int (nI 97), .int (nI 122)]) (rest := []) E dX12_next_57 c kX12_in ⟨Nat.le_of_ble_eq_true rfl, Nat.le_of_ble_eq_true rfl⟩ rfl (Nat.le_of_ble_eq_true rfl) w6_67 w6_68 (fun r_ μ1 hp_ => ?_)
  obtain ⟨v, rfl, hp_⟩ := hp_
  exact k v μ1 hp_
theorem bX12_next_60 {Z : ZT} {X : XT} {μ : Mu} {a1 : Int32} {s0 : Int32} (E : Ent Z X mX12_next 0 0)  
    (kt : s0 = 0 → JS Z X 150 [(0, .ref (Z.2.2.1 + 455)), (1, .int a1)] [] μ) (kf : ¬ (s0 = 0) → JS Z X 63 [(0, .ref (Z.2.2.1 + 455))] [] μ) :
    JS Z X 60 [(0, .ref (Z.2.2.1 + 455)), (1, .int a1)] [.int s0] μ := by
  refine J_if_eq (tgt := 150) E dX12_next_60 (by decide) (fun c => ?_) (fun c => ?_)
  · exact kt c
  · refine J.weak [0] rfl ?_
    exact kf c
theorem bX12_next_63 {Z : ZT} {X : XT} {μ : Mu} (E : Ent Z X mX12_next 0 0)  
    (k : JS Z X 65 [(0, .ref (Z.2.2.1 + 455)), (2, .int (nI 0))] [] μ) :
    JS Z X 63 [(0, .ref (Z.2.2.1 + 455))] [] μ := by
  refine J_iconst (v := nI 0) E dX12_next_63 rfl ?_
  refine J_istore_n (lv' := [(0, .ref (Z.2.2.1 + 455)), (2, .int (nI 0))]) E dX12_next_64 (Nat.le_of_ble_eq_true rfl) rfl ?_
  exact k
theorem bX12_next_65 {Z : ZT} {X : XT} {μ : Mu} {a2 : Int32} (E : Ent Z X mX12_next 0 0) {p : Int32 → Mu → Prop} 
    (c : CtrS Z mX12_here [.ref (Z.2.2.1 + 455)] μ (rI p)) (k : ∀ v μ1, p v μ1 → JS Z X 69 [(0, .ref (Z.2.2.1 + 455)), (2, .int a2)] [.int v] μ1) :
    JS Z X 65 [(0, .ref (Z.2.2.1 + 455)), (2, .int a2)] [] μ := by
  refine J_aload_n E dX12_next_65 rfl ?_
  refine S_callV (As := []) (rest := []) E dX12_next_66 c kX12_here ⟨Nat.le_of_ble_eq_true rfl, Nat.le_of_ble_eq_true rfl⟩ rfl (Nat.le_of_ble_eq_true rfl) sh455 rfl rfl w6_166 w6_168 wp_43 (fun r_ μ1 hp_ => ?_)
  obtain ⟨v, rfl, hp_⟩ := hp_
  exact k v μ1 hp_
theorem bX12_next_69 {Z : ZT} {X : XT} {μ : Mu} {a2 : Int32} {s0 : Int32} (E : Ent Z X mX12_next 0 0) {p : Int32 → Mu → Prop} 
    (c : CtrS Z mX12_in [.int s0, .int (nI 97), .int (nI 122)] μ (rI p)) (k : ∀ v μ1, p v μ1 → JS Z X 76 [(0, .ref (Z.2.2.1 + 455)), (2, .int a2)] [.int v] μ1) :
    JS Z X 69 [(0, .ref (Z.2.2.1 + 455)), (2, .int a2)] [.int s0] μ := by
  refine J_bipush (v := nI 97) E dX12_next_69 rfl ?_
  refine J_bipush (v := nI 122) E dX12_next_71 rfl ?_
  refine S_callS (As := [.int s0, .int (nI 97), .int (nI 122)]) (rest := []) E dX12_next_73 c kX12_in ⟨Nat.le_of_ble_eq_true rfl, Nat.le_of_ble_eq_true rfl⟩ rfl (Nat.le_of_ble_eq_true rfl) w6_67 w6_68 (fun r_ μ1 hp_ => ?_)
  obtain ⟨v, rfl, hp_⟩ := hp_
  exact k v μ1 hp_
theorem bX12_next_76 {Z : ZT} {X : XT} {μ : Mu} {a2 : Int32} {s0 : Int32} (E : Ent Z X mX12_next 0 0)  
    (kt : s0 = 0 → JS Z X 122 [(0, .ref (Z.2.2.1 + 455)), (2, .int a2)] [] μ) (kf : ¬ (s0 = 0) → JS Z X 79 [(0, .ref (Z.2.2.1 + 455)), (2, .int a2)] [] μ) :
    JS Z X 76 [(0, .ref (Z.2.2.1 + 455)), (2, .int a2)] [.int s0] μ := by
  refine J_if_eq (tgt := 122) E dX12_next_76 (by decide) (fun c => ?_) (fun c => ?_)
  · exact kt c
  · exact kf c
theorem bX12_next_79 {Z : ZT} {X : XT} {μ : Mu} {a2 : Int32} (E : Ent Z X mX12_next 0 0)  
    (kt : (nI 5) ≤ ((μ 455 5) - (μ 455 6)) → JS Z X 107 [(0, .ref (Z.2.2.1 + 455))] [] μ) (kf : ¬ ((nI 5) ≤ ((μ 455 5) - (μ 455 6))) → JS Z X 92 [(0, .ref (Z.2.2.1 + 455)), (2, .int a2)] [] μ) :
    JS Z X 79 [(0, .ref (Z.2.2.1 + 455)), (2, .int a2)] [] μ := by
  refine J_aload_n E dX12_next_79 rfl ?_
  refine S_get (ci := 12) (q := 5) (v := .int (μ 455 5)) E dX12_next_80 fs_X12_122 sh455 rfl ?_
  refine J_aload_n E dX12_next_83 rfl ?_
  refine S_get (ci := 12) (q := 6) (v := .int (μ 455 6)) E dX12_next_84 fs_X12_129 sh455 rfl ?_
  refine J_isub E dX12_next_87 ?_
  refine J_iconst (v := nI 5) E dX12_next_88 rfl ?_
  refine J_icmp_ge (tgt := 107) E dX12_next_89 (by decide) (fun c => ?_) (fun c => ?_)
  · refine J.weak [0] rfl ?_
    exact kt c
  · exact kf c
theorem bX12_next_92 {Z : ZT} {X : XT} {μ : Mu} {a2 : Int32} (E : Ent Z X mX12_next 0 0) {p : Int32 → Mu → Prop} 
    (c : CtrS Z mX12_here [.ref (Z.2.2.1 + 455)] μ (rI p)) (k : ∀ v μ1, p v μ1 → JS Z X 100 [(0, .ref (Z.2.2.1 + 455))] [.int v, .int ((nI 27) * a2)] μ1) :
    JS Z X 92 [(0, .ref (Z.2.2.1 + 455)), (2, .int a2)] [] μ := by
  refine J_bipush (v := nI 27) E dX12_next_92 rfl ?_
  refine J_iload_n E dX12_next_94 rfl ?_
  refine J_imul E dX12_next_95 ?_
  refine J_aload_n E dX12_next_96 rfl ?_
  refine S_callV (As := []) (rest := [.int ((nI 27) * a2)]) E dX12_next_97 c kX12_here ⟨Nat.le_of_ble_eq_true rfl, Nat.le_of_ble_eq_true rfl⟩ rfl (Nat.le_of_ble_eq_true rfl) sh455 rfl rfl w6_166 w6_168 wp_43 (fun r_ μ1 hp_ => ?_)
  obtain ⟨v, rfl, hp_⟩ := hp_
  refine J.weak [0] rfl ?_
  exact k v μ1 hp_
theorem bX12_next_100 {Z : ZT} {X : XT} {μ : Mu} {s0 : Int32} {s1 : Int32} (E : Ent Z X mX12_next 0 0)  
    (k : JS Z X 108 [(0, .ref (Z.2.2.1 + 455))] [.int ((s0 + s1) - (nI 96))] μ) :
    JS Z X 100 [(0, .ref (Z.2.2.1 + 455))] [.int s1, .int s0] μ := by
  refine J_iadd E dX12_next_100 ?_
  refine J_bipush (v := nI 96) E dX12_next_101 rfl ?_
  refine J_isub E dX12_next_103 ?_
  refine J_goto (tgt := 108) E dX12_next_104 (by decide) ?_
  exact k
theorem bX12_next_107 {Z : ZT} {X : XT} {μ : Mu} (E : Ent Z X mX12_next 0 0)  
    (k : JS Z X 108 [(0, .ref (Z.2.2.1 + 455))] [.int (nI 0)] μ) :
    JS Z X 107 [(0, .ref (Z.2.2.1 + 455))] [] μ := by
  refine J_iconst (v := nI 0) E dX12_next_107 rfl ?_
  exact k
theorem bX12_next_108 {Z : ZT} {X : XT} {μ : Mu} {s0 : Int32} (E : Ent Z X mX12_next 0 0)  
    (k : JS Z X 119 [(0, .ref (Z.2.2.1 + 455)), (2, .int s0)] [] (uR μ 455 (upd (μ 455) 5 ((μ 455 5) + (nI 1))))) :
    JS Z X 108 [(0, .ref (Z.2.2.1 + 455))] [.int s0] μ := by
  refine J_istore_n (lv' := [(0, .ref (Z.2.2.1 + 455)), (2, .int s0)]) E dX12_next_108 (Nat.le_of_ble_eq_true rfl) rfl ?_
  refine J_aload_n E dX12_next_109 rfl ?_
  refine J_dup E dX12_next_110 rfl ?_
  refine S_get (ci := 12) (q := 5) (v := .int (μ 455 5)) E dX12_next_111 fs_X12_122 sh455 rfl ?_
  refine J_iconst (v := nI 1) E dX12_next_114 rfl ?_
  refine J_iadd E dX12_next_115 ?_
  refine S_puti E dX12_next_116 fs_X12_122 fp_X12_5 sh455 rfl ?_
  exact k
theorem bX12_next_119 {Z : ZT} {X : XT} {μ : Mu} {a2 : Int32} (E : Ent Z X mX12_next 0 0)  
    (k : JS Z X 65 [(0, .ref (Z.2.2.1 + 455)), (2, .int a2)] [] μ) :
    JS Z X 119 [(0, .ref (Z.2.2.1 + 455)), (2, .int a2)] [] μ := by
  refine J_goto (tgt := 65) E dX12_next_119 (by decide) ?_
  exact k
theorem bX12_next_122 {Z : ZT} {X : XT} {μ : Mu} {a2 : Int32} (E : Ent Z X mX12_next 0 0)  
    (kt : ((μ 455 5) - (μ 455 6)) ≤ (nI 5) → JS Z X 140 [(2, .int a2)] [.ref (Z.2.2.1 + 455)] μ) (kf : ¬ (((μ 455 5) - (μ 455 6)) ≤ (nI 5)) → JS Z X 136 [] [.ref (Z.2.2.1 + 455)] μ) :
    JS Z X 122 [(0, .ref (Z.2.2.1 + 455)), (2, .int a2)] [] μ := by
  refine J_aload_n E dX12_next_122 rfl ?_
  refine J_aload_n E dX12_next_123 rfl ?_
  refine S_get (ci := 12) (q := 5) (v := .int (μ 455 5)) E dX12_next_124 fs_X12_122 sh455 rfl ?_
  refine J_aload_n E dX12_next_127 rfl ?_
  refine S_get (ci := 12) (q := 6) (v := .int (μ 455 6)) E dX12_next_128 fs_X12_129 sh455 rfl ?_
  refine J_isub E dX12_next_131 ?_
  refine J_iconst (v := nI 5) E dX12_next_132 rfl ?_
  refine J_icmp_le (tgt := 140) E dX12_next_133 (by decide) (fun c => ?_) (fun c => ?_)
  · refine J.weak [1] rfl ?_
    exact kt c
  · refine J.weak [] rfl ?_
    exact kf c
theorem bX12_next_136 {Z : ZT} {X : XT} {μ : Mu} (E : Ent Z X mX12_next 0 0)  
    (k : JS Z X 141 [] [.int (nI 0), .ref (Z.2.2.1 + 455)] μ) :
    JS Z X 136 [] [.ref (Z.2.2.1 + 455)] μ := by
  refine J_iconst (v := nI 0) E dX12_next_136 rfl ?_
  refine J_goto (tgt := 141) E dX12_next_137 (by decide) ?_
  exact k
theorem bX12_next_140 {Z : ZT} {X : XT} {μ : Mu} {a2 : Int32} (E : Ent Z X mX12_next 0 0)  
    (k : JS Z X 141 [] [.int a2, .ref (Z.2.2.1 + 455)] μ) :
    JS Z X 140 [(2, .int a2)] [.ref (Z.2.2.1 + 455)] μ := by
  refine J_iload_n E dX12_next_140 rfl ?_
  refine J.weak [] rfl ?_
  exact k
theorem bX12_next_141 {Z : ZT} {X : XT} {μ : Mu} {s1 : Int32} (E : Ent Z X mX12_next 0 0) {p : Int32 → Mu → Prop} 
    (c : CtrS Z mX12_meaning [.int s1] μ (rI p)) (k : ∀ v μ1, p v μ1 → JS Z X 144 [] [.int v, .ref (Z.2.2.1 + 455)] μ1) :
    JS Z X 141 [] [.int s1, .ref (Z.2.2.1 + 455)] μ := by
  refine S_callS (As := [.int s1]) (rest := [.ref (Z.2.2.1 + 455)]) E dX12_next_141 c kX12_meaning ⟨Nat.le_of_ble_eq_true rfl, Nat.le_of_ble_eq_true rfl⟩ rfl (Nat.le_of_ble_eq_true rfl) w6_170 w6_171 (fun r_ μ1 hp_ => ?_)
  obtain ⟨v, rfl, hp_⟩ := hp_
  exact k v μ1 hp_
theorem bX12_next_144 {Z : ZT} {X : XT} {μ : Mu} {s1 : Int32} (E : Ent Z X mX12_next 0 0)  
    (k : JS Z X 147 [] [] (uR μ 455 (upd (μ 455) 7 s1))) :
    JS Z X 144 [] [.int s1, .ref (Z.2.2.1 + 455)] μ := by
  refine S_puti E dX12_next_144 fs_X12_135 fp_X12_7 sh455 rfl ?_
  exact k
theorem bX12_next_147 {Z : ZT} {X : XT} {μ : Mu} (E : Ent Z X mX12_next 0 0)  
    (k : JS Z X 277 [] [] μ) :
    JS Z X 147 [] [] μ := by
  refine J_goto (tgt := 277) E dX12_next_147 (by decide) ?_
  exact k
theorem bX12_next_150 {Z : ZT} {X : XT} {μ : Mu} {a1 : Int32} (E : Ent Z X mX12_next 0 0) {p : Int32 → Mu → Prop} 
    (c : CtrS Z mX12_in [.int a1, .int (nI 48), .int (nI 57)] μ (rI p)) (k : ∀ v μ1, p v μ1 → JS Z X 158 [(0, .ref (Z.2.2.1 + 455)), (1, .int a1)] [.int v] μ1) :
    JS Z X 150 [(0, .ref (Z.2.2.1 + 455)), (1, .int a1)] [] μ := by
  refine J_iload_n E dX12_next_150 rfl ?_
  refine J_bipush (v := nI 48) E dX12_next_151 rfl ?_
  refine J_bipush (v := nI 57) E dX12_next_153 rfl ?_
  refine S_callS (As := [.int a1, .int (nI 48), .int (nI 57)]) (rest := []) E dX12_next_155 c kX12_in ⟨Nat.le_of_ble_eq_true rfl, Nat.le_of_ble_eq_true rfl⟩ rfl (Nat.le_of_ble_eq_true rfl) w6_67 w6_68 (fun r_ μ1 hp_ => ?_)
  obtain ⟨v, rfl, hp_⟩ := hp_
  exact k v μ1 hp_
theorem bX12_next_158 {Z : ZT} {X : XT} {μ : Mu} {a1 : Int32} {s0 : Int32} (E : Ent Z X mX12_next 0 0)  
    (kt : s0 = 0 → JS Z X 252 [(0, .ref (Z.2.2.1 + 455)), (1, .int a1)] [] μ) (kf : ¬ (s0 = 0) → JS Z X 161 [(0, .ref (Z.2.2.1 + 455))] [] μ) :
    JS Z X 158 [(0, .ref (Z.2.2.1 + 455)), (1, .int a1)] [.int s0] μ := by
  refine J_if_eq (tgt := 252) E dX12_next_158 (by decide) (fun c => ?_) (fun c => ?_)
  · exact kt c
  · refine J.weak [0] rfl ?_
    exact kf c
theorem bX12_next_161 {Z : ZT} {X : XT} {μ : Mu} (E : Ent Z X mX12_next 0 0) {p : Int32 → Mu → Prop} 
    (c : CtrS Z mX12_here [.ref (Z.2.2.1 + 455)] μ (rI p)) (k : ∀ v μ1, p v μ1 → JS Z X 165 [(0, .ref (Z.2.2.1 + 455))] [.int v] μ1) :
    JS Z X 161 [(0, .ref (Z.2.2.1 + 455))] [] μ := by
  refine J_aload_n E dX12_next_161 rfl ?_
  refine S_callV (As := []) (rest := []) E dX12_next_162 c kX12_here ⟨Nat.le_of_ble_eq_true rfl, Nat.le_of_ble_eq_true rfl⟩ rfl (Nat.le_of_ble_eq_true rfl) sh455 rfl rfl w6_166 w6_168 wp_43 (fun r_ μ1 hp_ => ?_)
  obtain ⟨v, rfl, hp_⟩ := hp_
  exact k v μ1 hp_
theorem bX12_next_165 {Z : ZT} {X : XT} {μ : Mu} {s0 : Int32} (E : Ent Z X mX12_next 0 0) {p : Int32 → Mu → Prop} 
    (c : CtrS Z mX12_in [.int s0, .int (nI 48), .int (nI 57)] μ (rI p)) (k : ∀ v μ1, p v μ1 → JS Z X 172 [(0, .ref (Z.2.2.1 + 455))] [.int v] μ1) :
    JS Z X 165 [(0, .ref (Z.2.2.1 + 455))] [.int s0] μ := by
  refine J_bipush (v := nI 48) E dX12_next_165 rfl ?_
  refine J_bipush (v := nI 57) E dX12_next_167 rfl ?_
  refine S_callS (As := [.int s0, .int (nI 48), .int (nI 57)]) (rest := []) E dX12_next_169 c kX12_in ⟨Nat.le_of_ble_eq_true rfl, Nat.le_of_ble_eq_true rfl⟩ rfl (Nat.le_of_ble_eq_true rfl) w6_67 w6_68 (fun r_ μ1 hp_ => ?_)
  obtain ⟨v, rfl, hp_⟩ := hp_
  exact k v μ1 hp_
theorem bX12_next_172 {Z : ZT} {X : XT} {μ : Mu} {s0 : Int32} (E : Ent Z X mX12_next 0 0)  
    (kt : s0 = 0 → JS Z X 227 [(0, .ref (Z.2.2.1 + 455))] [] μ) (kf : ¬ (s0 = 0) → JS Z X 175 [(0, .ref (Z.2.2.1 + 455))] [] μ) :
    JS Z X 172 [(0, .ref (Z.2.2.1 + 455))] [.int s0] μ := by
  refine J_if_eq (tgt := 227) E dX12_next_172 (by decide) (fun c => ?_) (fun c => ?_)
  · exact kt c
  · exact kf c
theorem bX12_next_175 {Z : ZT} {X : XT} {μ : Mu} (E : Ent Z X mX12_next 0 0)  
    (kt : (nI 3) ≤ ((μ 455 5) - (μ 455 6)) → JS Z X 207 [(0, .ref (Z.2.2.1 + 455))] [.ref (Z.2.2.1 + 455)] μ) (kf : ¬ ((nI 3) ≤ ((μ 455 5) - (μ 455 6))) → JS Z X 189 [(0, .ref (Z.2.2.1 + 455))] [.ref (Z.2.2.1 + 455)] μ) :
    JS Z X 175 [(0, .ref (Z.2.2.1 + 455))] [] μ := by
  refine J_aload_n E dX12_next_175 rfl ?_
  refine J_aload_n E dX12_next_176 rfl ?_
  refine S_get (ci := 12) (q := 5) (v := .int (μ 455 5)) E dX12_next_177 fs_X12_122 sh455 rfl ?_
  refine J_aload_n E dX12_next_180 rfl ?_
  refine S_get (ci := 12) (q := 6) (v := .int (μ 455 6)) E dX12_next_181 fs_X12_129 sh455 rfl ?_
  refine J_isub E dX12_next_184 ?_
  refine J_iconst (v := nI 3) E dX12_next_185 rfl ?_
  refine J_icmp_ge (tgt := 207) E dX12_next_186 (by decide) (fun c => ?_) (fun c => ?_)
  · exact kt c
  · exact kf c
theorem bX12_next_189 {Z : ZT} {X : XT} {μ : Mu} (E : Ent Z X mX12_next 0 0) {p : Int32 → Mu → Prop} 
    (c : CtrS Z mX12_here [.ref (Z.2.2.1 + 455)] μ (rI p)) (k : ∀ v μ1, p v μ1 → JS Z X 200 [(0, .ref (Z.2.2.1 + 455))] [.int v, .int ((nI 10) * (μ 455 8)), .ref (Z.2.2.1 + 455)] μ1) :
    JS Z X 189 [(0, .ref (Z.2.2.1 + 455))] [.ref (Z.2.2.1 + 455)] μ := by
  refine J_bipush (v := nI 10) E dX12_next_189 rfl ?_
  refine J_aload_n E dX12_next_191 rfl ?_
  refine S_get (ci := 12) (q := 8) (v := .int (μ 455 8)) E dX12_next_192 fs_X12_132 sh455 rfl ?_
  refine J_imul E dX12_next_195 ?_
  refine J_aload_n E dX12_next_196 rfl ?_
  refine S_callV (As := []) (rest := [.int ((nI 10) * (μ 455 8)), .ref (Z.2.2.1 + 455)]) E dX12_next_197 c kX12_here ⟨Nat.le_of_ble_eq_true rfl, Nat.le_of_ble_eq_true rfl⟩ rfl (Nat.le_of_ble_eq_true rfl) sh455 rfl rfl w6_166 w6_168 wp_43 (fun r_ μ1 hp_ => ?_)
  obtain ⟨v, rfl, hp_⟩ := hp_
  exact k v μ1 hp_
theorem bX12_next_200 {Z : ZT} {X : XT} {μ : Mu} {s1 : Int32} {s2 : Int32} (E : Ent Z X mX12_next 0 0)  
    (k : JS Z X 211 [(0, .ref (Z.2.2.1 + 455))] [.int ((s1 + s2) - (nI 48)), .ref (Z.2.2.1 + 455)] μ) :
    JS Z X 200 [(0, .ref (Z.2.2.1 + 455))] [.int s2, .int s1, .ref (Z.2.2.1 + 455)] μ := by
  refine J_iadd E dX12_next_200 ?_
  refine J_bipush (v := nI 48) E dX12_next_201 rfl ?_
  refine J_isub E dX12_next_203 ?_
  refine J_goto (tgt := 211) E dX12_next_204 (by decide) ?_
  exact k
theorem bX12_next_207 {Z : ZT} {X : XT} {μ : Mu} (E : Ent Z X mX12_next 0 0)  
    (k : JS Z X 211 [(0, .ref (Z.2.2.1 + 455))] [.int (μ 455 8), .ref (Z.2.2.1 + 455)] μ) :
    JS Z X 207 [(0, .ref (Z.2.2.1 + 455))] [.ref (Z.2.2.1 + 455)] μ := by
  refine J_aload_n E dX12_next_207 rfl ?_
  refine S_get (ci := 12) (q := 8) (v := .int (μ 455 8)) E dX12_next_208 fs_X12_132 sh455 rfl ?_
  exact k
theorem bX12_next_211 {Z : ZT} {X : XT} {μ : Mu} {s1 : Int32} (E : Ent Z X mX12_next 0 0)  
    (k : JS Z X 214 [(0, .ref (Z.2.2.1 + 455))] [] (uR μ 455 (upd (μ 455) 8 s1))) :
    JS Z X 211 [(0, .ref (Z.2.2.1 + 455))] [.int s1, .ref (Z.2.2.1 + 455)] μ := by
  refine S_puti E dX12_next_211 fs_X12_132 fp_X12_8 sh455 rfl ?_
  exact k
theorem bX12_next_214 {Z : ZT} {X : XT} {μ : Mu} (E : Ent Z X mX12_next 0 0)  
    (k : JS Z X 224 [(0, .ref (Z.2.2.1 + 455))] [] (uR μ 455 (upd (μ 455) 5 ((μ 455 5) + (nI 1))))) :
    JS Z X 214 [(0, .ref (Z.2.2.1 + 455))] [] μ := by
  refine J_aload_n E dX12_next_214 rfl ?_
  refine J_dup E dX12_next_215 rfl ?_
  refine S_get (ci := 12) (q := 5) (v := .int (μ 455 5)) E dX12_next_216 fs_X12_122 sh455 rfl ?_
  refine J_iconst (v := nI 1) E dX12_next_219 rfl ?_
  refine J_iadd E dX12_next_220 ?_
  refine S_puti E dX12_next_221 fs_X12_122 fp_X12_5 sh455 rfl ?_
  exact k
theorem bX12_next_224 {Z : ZT} {X : XT} {μ : Mu} (E : Ent Z X mX12_next 0 0)  
    (k : JS Z X 161 [(0, .ref (Z.2.2.1 + 455))] [] μ) :
    JS Z X 224 [(0, .ref (Z.2.2.1 + 455))] [] μ := by
  refine J_goto (tgt := 161) E dX12_next_224 (by decide) ?_
  exact k
theorem bX12_next_227 {Z : ZT} {X : XT} {μ : Mu} (E : Ent Z X mX12_next 0 0)  
    (kt : ((μ 455 5) - (μ 455 6)) ≤ (nI 3) → JS Z X 245 [] [.ref (Z.2.2.1 + 455)] μ) (kf : ¬ (((μ 455 5) - (μ 455 6)) ≤ (nI 3)) → JS Z X 241 [] [.ref (Z.2.2.1 + 455)] μ) :
    JS Z X 227 [(0, .ref (Z.2.2.1 + 455))] [] μ := by
  refine J_aload_n E dX12_next_227 rfl ?_
  refine J_aload_n E dX12_next_228 rfl ?_
  refine S_get (ci := 12) (q := 5) (v := .int (μ 455 5)) E dX12_next_229 fs_X12_122 sh455 rfl ?_
  refine J_aload_n E dX12_next_232 rfl ?_
  refine S_get (ci := 12) (q := 6) (v := .int (μ 455 6)) E dX12_next_233 fs_X12_129 sh455 rfl ?_
  refine J_isub E dX12_next_236 ?_
  refine J_iconst (v := nI 3) E dX12_next_237 rfl ?_
  refine J_icmp_le (tgt := 245) E dX12_next_238 (by decide) (fun c => ?_) (fun c => ?_)
  · refine J.weak [] rfl ?_
    exact kt c
  · refine J.weak [] rfl ?_
    exact kf c
theorem bX12_next_241 {Z : ZT} {X : XT} {μ : Mu} (E : Ent Z X mX12_next 0 0)  
    (k : JS Z X 246 [] [.int (nI 3), .ref (Z.2.2.1 + 455)] μ) :
    JS Z X 241 [] [.ref (Z.2.2.1 + 455)] μ := by
  refine J_iconst (v := nI 3) E dX12_next_241 rfl ?_
  refine J_goto (tgt := 246) E dX12_next_242 (by decide) ?_
  exact k
theorem bX12_next_245 {Z : ZT} {X : XT} {μ : Mu} (E : Ent Z X mX12_next 0 0)  
    (k : JS Z X 246 [] [.int (nI 1), .ref (Z.2.2.1 + 455)] μ) :
    JS Z X 245 [] [.ref (Z.2.2.1 + 455)] μ := by
  refine J_iconst (v := nI 1) E dX12_next_245 rfl ?_
  exact k
theorem bX12_next_246 {Z : ZT} {X : XT} {μ : Mu} {s1 : Int32} (E : Ent Z X mX12_next 0 0)  
    (k : JS Z X 249 [] [] (uR μ 455 (upd (μ 455) 7 s1))) :
    JS Z X 246 [] [.int s1, .ref (Z.2.2.1 + 455)] μ := by
  refine S_puti E dX12_next_246 fs_X12_135 fp_X12_7 sh455 rfl ?_
  exact k
theorem bX12_next_249 {Z : ZT} {X : XT} {μ : Mu} (E : Ent Z X mX12_next 0 0)  
    (k : JS Z X 277 [] [] μ) :
    JS Z X 249 [] [] μ := by
  refine J_goto (tgt := 277) E dX12_next_249 (by decide) ?_
  exact k
theorem bX12_next_252 {Z : ZT} {X : XT} {μ : Mu} {a1 : Int32} (E : Ent Z X mX12_next 0 0)  
    (k : JS Z X 262 [(0, .ref (Z.2.2.1 + 455)), (1, .int a1)] [] (uR μ 455 (upd (μ 455) 5 ((μ 455 5) + (nI 1))))) :
    JS Z X 252 [(0, .ref (Z.2.2.1 + 455)), (1, .int a1)] [] μ := by
  refine J_aload_n E dX12_next_252 rfl ?_
  refine J_dup E dX12_next_253 rfl ?_
  refine S_get (ci := 12) (q := 5) (v := .int (μ 455 5)) E dX12_next_254 fs_X12_122 sh455 rfl ?_
  refine J_iconst (v := nI 1) E dX12_next_257 rfl ?_
  refine J_iadd E dX12_next_258 ?_
  refine S_puti E dX12_next_259 fs_X12_122 fp_X12_5 sh455 rfl ?_
  exact k
theorem bX12_next_262 {Z : ZT} {X : XT} {μ : Mu} {a1 : Int32} (E : Ent Z X mX12_next 0 0)  
    (kt : ¬ a1 = (nI 59) → JS Z X 273 [] [.ref (Z.2.2.1 + 455)] μ) (kf : a1 = (nI 59) → JS Z X 269 [] [.ref (Z.2.2.1 + 455)] μ) :
    JS Z X 262 [(0, .ref (Z.2.2.1 + 455)), (1, .int a1)] [] μ := by
  refine J_aload_n E dX12_next_262 rfl ?_
  refine J_iload_n E dX12_next_263 rfl ?_
  refine J_bipush (v := nI 59) E dX12_next_264 rfl ?_
  refine J_icmp_ne (tgt := 273) E dX12_next_266 (by decide) (fun c => ?_) (fun c => ?_)
  · refine J.weak [] rfl ?_
    exact kt c
  · refine J.weak [] rfl ?_
    exact kf c
theorem bX12_next_269 {Z : ZT} {X : XT} {μ : Mu} (E : Ent Z X mX12_next 0 0)  
    (k : JS Z X 274 [] [.int (nI 2), .ref (Z.2.2.1 + 455)] μ) :
    JS Z X 269 [] [.ref (Z.2.2.1 + 455)] μ := by
  refine J_iconst (v := nI 2) E dX12_next_269 rfl ?_
  refine J_goto (tgt := 274) E dX12_next_270 (by decide) ?_
  exact k
theorem bX12_next_273 {Z : ZT} {X : XT} {μ : Mu} (E : Ent Z X mX12_next 0 0)  
    (k : JS Z X 274 [] [.int (nI 3), .ref (Z.2.2.1 + 455)] μ) :
    JS Z X 273 [] [.ref (Z.2.2.1 + 455)] μ := by
  refine J_iconst (v := nI 3) E dX12_next_273 rfl ?_
  exact k
theorem bX12_next_274 {Z : ZT} {X : XT} {μ : Mu} {s1 : Int32} (E : Ent Z X mX12_next 0 0)  
    (k : JS Z X 277 [] [] (uR μ 455 (upd (μ 455) 7 s1))) :
    JS Z X 274 [] [.int s1, .ref (Z.2.2.1 + 455)] μ := by
  refine S_puti E dX12_next_274 fs_X12_135 fp_X12_7 sh455 rfl ?_
  exact k
theorem bX12_next_277 {Z : ZT} {X : XT} {μ : Mu} (E : Ent Z X mX12_next 0 0) {P : Option Value → Mu → Prop} (hB : BodS Z X P) 
    (k : P none μ) :
    JS Z X 277 [] [] μ := by
  exact S_vret E hB dX12_next_277 rfl k
theorem dX12_due_0 : decode cX12_due 0 = .ok (.aload_n 0, 1) := by decide +kernel
theorem dX12_due_1 : decode cX12_due 1 = .ok (.getfield 132, 3) := by decide +kernel
theorem dX12_due_4 : decode cX12_due 4 = .ok (.istore_n 2, 1) := by decide +kernel
theorem dX12_due_5 : decode cX12_due 5 = .ok (.aload_n 0, 1) := by decide +kernel
theorem dX12_due_6 : decode cX12_due 6 = .ok (.getfield 141, 3) := by decide +kernel
theorem dX12_due_9 : decode cX12_due 9 = .ok (.iconst (-1), 1) := by decide +kernel
theorem dX12_due_10 : decode cX12_due 10 = .ok (.if_icmp .ne 22, 3) := by decide +kernel
theorem dX12_due_13 : decode cX12_due 13 = .ok (.iload_n 1, 1) := by decide +kernel
theorem dX12_due_14 : decode cX12_due 14 = .ok (.ifCond .eq 10, 3) := by decide +kernel
theorem dX12_due_17 : decode cX12_due 17 = .ok (.aload_n 0, 1) := by decide +kernel
theorem dX12_due_18 : decode cX12_due 18 = .ok (.invokevirtual 144, 3) := by decide +kernel
theorem dX12_due_21 : decode cX12_due 21 = .ok (.goto 11, 3) := by decide +kernel
theorem dX12_due_24 : decode cX12_due 24 = .ok (.aload_n 0, 1) := by decide +kernel
theorem dX12_due_25 : decode cX12_due 25 = .ok (.aload_n 0, 1) := by decide +kernel
theorem dX12_due_26 : decode cX12_due 26 = .ok (.getfield 129, 3) := by decide +kernel
theorem dX12_due_29 : decode cX12_due 29 = .ok (.putfield 141, 3) := by decide +kernel
theorem dX12_due_32 : decode cX12_due 32 = .ok (.iload_n 2, 1) := by decide +kernel
theorem dX12_due_33 : decode cX12_due 33 = .ok (.ireturn, 1) := by decide +kernel
theorem bX12_due_0 {Z : ZT} {X : XT} {μ : Mu} {a1 : Int32} (E : Ent Z X mX12_due 0 0)  
    (kt : ¬ (μ 455 9) = (-1) → JS Z X 32 [(2, .int (μ 455 8))] [] μ) (kf : (μ 455 9) = (-1) → JS Z X 13 [(0, .ref (Z.2.2.1 + 455)), (1, .int a1), (2, .int (μ 455 8))] [] μ) :
    JS Z X 0 [(0, .ref (Z.2.2.1 + 455)), (1, .int a1)] [] μ := by
  refine J_aload_n E dX12_due_0 rfl ?_
  refine S_get (ci := 12) (q := 8) (v := .int (μ 455 8)) E dX12_due_1 fs_X12_132 sh455 rfl ?_
  refine J_istore_n (lv' := [(0, .ref (Z.2.2.1 + 455)), (1, .int a1), (2, .int (μ 455 8))]) E dX12_due_4 (Nat.le_of_ble_eq_true rfl) rfl ?_
  refine J_aload_n E dX12_due_5 rfl ?_
  refine S_get (ci := 12) (q := 9) (v := .int (μ 455 9)) E dX12_due_6 fs_X12_141 sh455 rfl ?_
  refine J_iconst (v := -1) E dX12_due_9 rfl ?_
  refine J_icmp_ne (tgt := 32) E dX12_due_10 (by decide) (fun c => ?_) (fun c => ?_)
  · refine J.weak [2] rfl ?_
    exact kt c
  · exact kf c
theorem bX12_due_13 {Z : ZT} {X : XT} {μ : Mu} {a1 : Int32} {a2 : Int32} (E : Ent Z X mX12_due 0 0)  
    (kt : a1 = 0 → JS Z X 24 [(0, .ref (Z.2.2.1 + 455)), (2, .int a2)] [] μ) (kf : ¬ (a1 = 0) → JS Z X 17 [(0, .ref (Z.2.2.1 + 455)), (2, .int a2)] [] μ) :
    JS Z X 13 [(0, .ref (Z.2.2.1 + 455)), (1, .int a1), (2, .int a2)] [] μ := by
  refine J_iload_n E dX12_due_13 rfl ?_
  refine J_if_eq (tgt := 24) E dX12_due_14 (by decide) (fun c => ?_) (fun c => ?_)
  · refine J.weak [0, 2] rfl ?_
    exact kt c
  · refine J.weak [0, 2] rfl ?_
    exact kf c
theorem bX12_due_17 {Z : ZT} {X : XT} {μ : Mu} {a2 : Int32} (E : Ent Z X mX12_due 0 0) {p : Mu → Prop} 
    (c : CtrS Z mX12_next [.ref (Z.2.2.1 + 455)] μ (rV p)) (k : ∀ μ1, p μ1 → JS Z X 21 [(2, .int a2)] [] μ1) :
    JS Z X 17 [(0, .ref (Z.2.2.1 + 455)), (2, .int a2)] [] μ := by
  refine J_aload_n E dX12_due_17 rfl ?_
  refine S_callV (As := []) (rest := []) E dX12_due_18 c kX12_next ⟨Nat.le_of_ble_eq_true rfl, Nat.le_of_ble_eq_true rfl⟩ rfl (Nat.le_of_ble_eq_true rfl) sh455 rfl rfl w6_162 w6_164 wp_42 (fun r_ μ1 hp_ => ?_)
  obtain ⟨rfl, hp_⟩ := hp_
  refine J.weak [1] rfl ?_
  exact k μ1 hp_
theorem bX12_due_21 {Z : ZT} {X : XT} {μ : Mu} {a2 : Int32} (E : Ent Z X mX12_due 0 0)  
    (k : JS Z X 32 [(2, .int a2)] [] μ) :
    JS Z X 21 [(2, .int a2)] [] μ := by
  refine J_goto (tgt := 32) E dX12_due_21 (by decide) ?_
  exact k
theorem bX12_due_24 {Z : ZT} {X : XT} {μ : Mu} {a2 : Int32} (E : Ent Z X mX12_due 0 0)  
    (k : JS Z X 32 [(2, .int a2)] [] (uR μ 455 (upd (μ 455) 9 (μ 455 6)))) :
    JS Z X 24 [(0, .ref (Z.2.2.1 + 455)), (2, .int a2)] [] μ := by
  refine J_aload_n E dX12_due_24 rfl ?_
  refine J_aload_n E dX12_due_25 rfl ?_
  refine S_get (ci := 12) (q := 6) (v := .int (μ 455 6)) E dX12_due_26 fs_X12_129 sh455 rfl ?_
  refine S_puti E dX12_due_29 fs_X12_141 fp_X12_9 sh455 rfl ?_
  refine J.weak [1] rfl ?_
  exact k
theorem bX12_due_32 {Z : ZT} {X : XT} {μ : Mu} {a2 : Int32} (E : Ent Z X mX12_due 0 0) {P : Option Value → Mu → Prop} (hB : BodS Z X P) 
    (k : P (some (.int a2)) μ) :
    JS Z X 32 [(2, .int a2)] [] μ := by
  refine J_iload_n E dX12_due_32 rfl ?_
  exact S_iret E hB dX12_due_33 rfl k
theorem dX12_numbersOf_0 : decode cX12_numbersOf 0 = .ok (.iload_n 0, 1) := by decide +kernel
theorem dX12_numbersOf_1 : decode cX12_numbersOf 1 = .ok (.bipush 10, 2) := by decide +kernel
theorem dX12_numbersOf_3 : decode cX12_numbersOf 3 = .ok (.if_icmp .ne 7, 3) := by decide +kernel
theorem dX12_numbersOf_6 : decode cX12_numbersOf 6 = .ok (.iconst 0, 1) := by decide +kernel
theorem dX12_numbersOf_7 : decode cX12_numbersOf 7 = .ok (.goto 34, 3) := by decide +kernel
theorem dX12_numbersOf_10 : decode cX12_numbersOf 10 = .ok (.iload_n 0, 1) := by decide +kernel
theorem dX12_numbersOf_11 : decode cX12_numbersOf 11 = .ok (.bipush 17, 2) := by decide +kernel
theorem dX12_numbersOf_13 : decode cX12_numbersOf 13 = .ok (.if_icmp .ne 7, 3) := by decide +kernel
theorem dX12_numbersOf_16 : decode cX12_numbersOf 16 = .ok (.iconst 1, 1) := by decide +kernel
theorem dX12_numbersOf_17 : decode cX12_numbersOf 17 = .ok (.goto 24, 3) := by decide +kernel
theorem dX12_numbersOf_20 : decode cX12_numbersOf 20 = .ok (.iload_n 0, 1) := by decide +kernel
theorem dX12_numbersOf_21 : decode cX12_numbersOf 21 = .ok (.bipush 11, 2) := by decide +kernel
theorem dX12_numbersOf_23 : decode cX12_numbersOf 23 = .ok (.if_icmp .ne 7, 3) := by decide +kernel
theorem dX12_numbersOf_26 : decode cX12_numbersOf 26 = .ok (.iconst 3, 1) := by decide +kernel
theorem dX12_numbersOf_27 : decode cX12_numbersOf 27 = .ok (.goto 14, 3) := by decide +kernel
theorem dX12_numbersOf_30 : decode cX12_numbersOf 30 = .ok (.iload_n 0, 1) := by decide +kernel
theorem dX12_numbersOf_31 : decode cX12_numbersOf 31 = .ok (.bipush 13, 2) := by decide +kernel
theorem dX12_numbersOf_33 : decode cX12_numbersOf 33 = .ok (.if_icmp .ne 7, 3) := by decide +kernel
theorem dX12_numbersOf_36 : decode cX12_numbersOf 36 = .ok (.iconst 5, 1) := by decide +kernel
theorem dX12_numbersOf_37 : decode cX12_numbersOf 37 = .ok (.goto 4, 3) := by decide +kernel
theorem dX12_numbersOf_40 : decode cX12_numbersOf 40 = .ok (.iconst 2, 1) := by decide +kernel
theorem dX12_numbersOf_41 : decode cX12_numbersOf 41 = .ok (.ireturn, 1) := by decide +kernel
theorem bX12_numbersOf_0 {Z : ZT} {X : XT} {μ : Mu} {a0 : Int32} (E : Ent Z X mX12_numbersOf 0 0)  
    (kt : ¬ a0 = (nI 10) → JS Z X 10 [(0, .int a0)] [] μ) (kf : a0 = (nI 10) → JS Z X 6 [] [] μ) :
    JS Z X 0 [(0, .int a0)] [] μ := by
  refine J_iload_n E dX12_numbersOf_0 rfl ?_
  refine J_bipush (v := nI 10) E dX12_numbersOf_1 rfl ?_
  refine J_icmp_ne (tgt := 10) E dX12_numbersOf_3 (by decide) (fun c => ?_) (fun c => ?_)
  · exact kt c
  · refine J.weak [] rfl ?_
    exact kf c
theorem bX12_numbersOf_6 {Z : ZT} {X : XT} {μ : Mu} (E : Ent Z X mX12_numbersOf 0 0)  
    (k : JS Z X 41 [] [.int (nI 0)] μ) :
    JS Z X 6 [] [] μ := by
  refine J_iconst (v := nI 0) E dX12_numbersOf_6 rfl ?_
  refine J_goto (tgt := 41) E dX12_numbersOf_7 (by decide) ?_
  exact k
theorem bX12_numbersOf_10 {Z : ZT} {X : XT} {μ : Mu} {a0 : Int32} (E : Ent Z X mX12_numbersOf 0 0)  
    (kt : ¬ a0 = (nI 17) → JS Z X 20 [(0, .int a0)] [] μ) (kf : a0 = (nI 17) → JS Z X 16 [] [] μ) :
    JS Z X 10 [(0, .int a0)] [] μ := by
  refine J_iload_n E dX12_numbersOf_10 rfl ?_
  refine J_bipush (v := nI 17) E dX12_numbersOf_11 rfl ?_
  refine J_icmp_ne (tgt := 20) E dX12_numbersOf_13 (by decide) (fun c => ?_) (fun c => ?_)
  · exact kt c
  · refine J.weak [] rfl ?_
    exact kf c
theorem bX12_numbersOf_16 {Z : ZT} {X : XT} {μ : Mu} (E : Ent Z X mX12_numbersOf 0 0)  
    (k : JS Z X 41 [] [.int (nI 1)] μ) :
    JS Z X 16 [] [] μ := by
  refine J_iconst (v := nI 1) E dX12_numbersOf_16 rfl ?_
  refine J_goto (tgt := 41) E dX12_numbersOf_17 (by decide) ?_
  exact k
theorem bX12_numbersOf_20 {Z : ZT} {X : XT} {μ : Mu} {a0 : Int32} (E : Ent Z X mX12_numbersOf 0 0)  
    (kt : ¬ a0 = (nI 11) → JS Z X 30 [(0, .int a0)] [] μ) (kf : a0 = (nI 11) → JS Z X 26 [] [] μ) :
    JS Z X 20 [(0, .int a0)] [] μ := by
  refine J_iload_n E dX12_numbersOf_20 rfl ?_
  refine J_bipush (v := nI 11) E dX12_numbersOf_21 rfl ?_
  refine J_icmp_ne (tgt := 30) E dX12_numbersOf_23 (by decide) (fun c => ?_) (fun c => ?_)
  · exact kt c
  · refine J.weak [] rfl ?_
    exact kf c
theorem bX12_numbersOf_26 {Z : ZT} {X : XT} {μ : Mu} (E : Ent Z X mX12_numbersOf 0 0)  
    (k : JS Z X 41 [] [.int (nI 3)] μ) :
    JS Z X 26 [] [] μ := by
  refine J_iconst (v := nI 3) E dX12_numbersOf_26 rfl ?_
  refine J_goto (tgt := 41) E dX12_numbersOf_27 (by decide) ?_
  exact k
theorem bX12_numbersOf_30 {Z : ZT} {X : XT} {μ : Mu} {a0 : Int32} (E : Ent Z X mX12_numbersOf 0 0)  
    (kt : ¬ a0 = (nI 13) → JS Z X 40 [] [] μ) (kf : a0 = (nI 13) → JS Z X 36 [] [] μ) :
    JS Z X 30 [(0, .int a0)] [] μ := by
  refine J_iload_n E dX12_numbersOf_30 rfl ?_
  refine J_bipush (v := nI 13) E dX12_numbersOf_31 rfl ?_
  refine J_icmp_ne (tgt := 40) E dX12_numbersOf_33 (by decide) (fun c => ?_) (fun c => ?_)
  · refine J.weak [] rfl ?_
    exact kt c
  · refine J.weak [] rfl ?_
    exact kf c
theorem bX12_numbersOf_36 {Z : ZT} {X : XT} {μ : Mu} (E : Ent Z X mX12_numbersOf 0 0)  
    (k : JS Z X 41 [] [.int (nI 5)] μ) :
    JS Z X 36 [] [] μ := by
  refine J_iconst (v := nI 5) E dX12_numbersOf_36 rfl ?_
  refine J_goto (tgt := 41) E dX12_numbersOf_37 (by decide) ?_
  exact k
theorem bX12_numbersOf_40 {Z : ZT} {X : XT} {μ : Mu} (E : Ent Z X mX12_numbersOf 0 0)  
    (k : JS Z X 41 [] [.int (nI 2)] μ) :
    JS Z X 40 [] [] μ := by
  refine J_iconst (v := nI 2) E dX12_numbersOf_40 rfl ?_
  exact k
theorem bX12_numbersOf_41 {Z : ZT} {X : XT} {μ : Mu} {s0 : Int32} (E : Ent Z X mX12_numbersOf 0 0) {P : Option Value → Mu → Prop} (hB : BodS Z X P) 
    (k : P (some (.int s0)) μ) :
    JS Z X 41 [] [.int s0] μ := by
  exact S_iret E hB dX12_numbersOf_41 rfl k
theorem dX12_build_0 : decode cX12_build 0 = .ok (.aload_n 0, 1) := by decide +kernel
theorem dX12_build_1 : decode cX12_build 1 = .ok (.getfield 24, 3) := by decide +kernel
theorem dX12_build_4 : decode cX12_build 4 = .ok (.iconst 0, 1) := by decide +kernel
theorem dX12_build_5 : decode cX12_build 5 = .ok (.iaload, 1) := by decide +kernel
theorem dX12_build_6 : decode cX12_build 6 = .ok (.istore_n 2, 1) := by decide +kernel
theorem dX12_build_7 : decode cX12_build 7 = .ok (.aload_n 0, 1) := by decide +kernel
theorem dX12_build_8 : decode cX12_build 8 = .ok (.getfield 24, 3) := by decide +kernel
theorem dX12_build_11 : decode cX12_build 11 = .ok (.iconst 1, 1) := by decide +kernel
theorem dX12_build_12 : decode cX12_build 12 = .ok (.iaload, 1) := by decide +kernel
theorem dX12_build_13 : decode cX12_build 13 = .ok (.istore_n 3, 1) := by decide +kernel
theorem dX12_build_14 : decode cX12_build 14 = .ok (.iload_n 1, 1) := by decide +kernel
theorem dX12_build_15 : decode cX12_build 15 = .ok (.tableswitch 202 10 18 #[49, 57, 73, 83, 111, 121, 155, 165, 192], 49) := by decide +kernel
theorem dX12_build_64 : decode cX12_build 64 = .ok (.aload_n 0, 1) := by decide +kernel
theorem dX12_build_65 : decode cX12_build 65 = .ok (.sipush 741, 3) := by decide +kernel
theorem dX12_build_68 : decode cX12_build 68 = .ok (.invokevirtual 89, 3) := by decide +kernel
theorem dX12_build_71 : decode cX12_build 71 = .ok (.ireturn, 1) := by decide +kernel
theorem dX12_build_72 : decode cX12_build 72 = .ok (.aload_n 0, 1) := by decide +kernel
theorem dX12_build_73 : decode cX12_build 73 = .ok (.sipush 741, 3) := by decide +kernel
theorem dX12_build_76 : decode cX12_build 76 = .ok (.iload_n 2, 1) := by decide +kernel
theorem dX12_build_77 : decode cX12_build 77 = .ok (.iload_n 3, 1) := by decide +kernel
theorem dX12_build_78 : decode cX12_build 78 = .ok (.aload_n 0, 1) := by decide +kernel
theorem dX12_build_79 : decode cX12_build 79 = .ok (.getfield 24, 3) := by decide +kernel
theorem dX12_build_82 : decode cX12_build 82 = .ok (.iconst 2, 1) := by decide +kernel
theorem dX12_build_83 : decode cX12_build 83 = .ok (.iaload, 1) := by decide +kernel
theorem dX12_build_84 : decode cX12_build 84 = .ok (.invokevirtual 92, 3) := by decide +kernel
theorem dX12_build_87 : decode cX12_build 87 = .ok (.ireturn, 1) := by decide +kernel
theorem dX12_build_88 : decode cX12_build 88 = .ok (.aload_n 0, 1) := by decide +kernel
theorem dX12_build_89 : decode cX12_build 89 = .ok (.sipush 741, 3) := by decide +kernel
theorem dX12_build_92 : decode cX12_build 92 = .ok (.iload_n 2, 1) := by decide +kernel
theorem dX12_build_93 : decode cX12_build 93 = .ok (.iload_n 3, 1) := by decide +kernel
theorem dX12_build_94 : decode cX12_build 94 = .ok (.invokevirtual 96, 3) := by decide +kernel
theorem dX12_build_97 : decode cX12_build 97 = .ok (.ireturn, 1) := by decide +kernel
theorem dX12_build_98 : decode cX12_build 98 = .ok (.aload_n 0, 1) := by decide +kernel
theorem dX12_build_99 : decode cX12_build 99 = .ok (.sipush 741, 3) := by decide +kernel
theorem dX12_build_102 : decode cX12_build 102 = .ok (.iload_n 2, 1) := by decide +kernel
theorem dX12_build_103 : decode cX12_build 103 = .ok (.iload_n 3, 1) := by decide +kernel
theorem dX12_build_104 : decode cX12_build 104 = .ok (.aload_n 0, 1) := by decide +kernel
theorem dX12_build_105 : decode cX12_build 105 = .ok (.getfield 24, 3) := by decide +kernel
theorem dX12_build_108 : decode cX12_build 108 = .ok (.iconst 2, 1) := by decide +kernel
theorem dX12_build_109 : decode cX12_build 109 = .ok (.iaload, 1) := by decide +kernel
theorem dX12_build_110 : decode cX12_build 110 = .ok (.aload_n 0, 1) := by decide +kernel
theorem dX12_build_111 : decode cX12_build 111 = .ok (.getfield 24, 3) := by decide +kernel
theorem dX12_build_114 : decode cX12_build 114 = .ok (.iconst 3, 1) := by decide +kernel
theorem dX12_build_115 : decode cX12_build 115 = .ok (.iaload, 1) := by decide +kernel
theorem dX12_build_116 : decode cX12_build 116 = .ok (.aload_n 0, 1) := by decide +kernel
theorem dX12_build_117 : decode cX12_build 117 = .ok (.getfield 24, 3) := by decide +kernel
theorem dX12_build_120 : decode cX12_build 120 = .ok (.iconst 4, 1) := by decide +kernel
theorem dX12_build_121 : decode cX12_build 121 = .ok (.iaload, 1) := by decide +kernel
theorem dX12_build_122 : decode cX12_build 122 = .ok (.invokevirtual 100, 3) := by decide +kernel
theorem dX12_build_125 : decode cX12_build 125 = .ok (.ireturn, 1) := by decide +kernel
theorem dX12_build_126 : decode cX12_build 126 = .ok (.aload_n 0, 1) := by decide +kernel
theorem dX12_build_127 : decode cX12_build 127 = .ok (.sipush 741, 3) := by decide +kernel
theorem dX12_build_130 : decode cX12_build 130 = .ok (.iload_n 2, 1) := by decide +kernel
theorem dX12_build_131 : decode cX12_build 131 = .ok (.iload_n 3, 1) := by decide +kernel
theorem dX12_build_132 : decode cX12_build 132 = .ok (.invokevirtual 104, 3) := by decide +kernel
theorem dX12_build_135 : decode cX12_build 135 = .ok (.ireturn, 1) := by decide +kernel
theorem dX12_build_136 : decode cX12_build 136 = .ok (.aload_n 0, 1) := by decide +kernel
theorem dX12_build_137 : decode cX12_build 137 = .ok (.sipush 741, 3) := by decide +kernel
theorem dX12_build_140 : decode cX12_build 140 = .ok (.iload_n 2, 1) := by decide +kernel
theorem dX12_build_141 : decode cX12_build 141 = .ok (.invokevirtual 79, 3) := by decide +kernel
theorem dX12_build_144 : decode cX12_build 144 = .ok (.ifCond .eq 10, 3) := by decide +kernel
theorem dX12_build_147 : decode cX12_build 147 = .ok (.iload_n 3, 1) := by decide +kernel
theorem dX12_build_148 : decode cX12_build 148 = .ok (.invokestatic 85, 3) := by decide +kernel
theorem dX12_build_151 : decode cX12_build 151 = .ok (.ifCond .ne 6, 3) := by decide +kernel
theorem dX12_build_154 : decode cX12_build 154 = .ok (.bipush (-2), 2) := by decide +kernel
theorem dX12_build_156 : decode cX12_build 156 = .ok (.ireturn, 1) := by decide +kernel
theorem dX12_build_157 : decode cX12_build 157 = .ok (.aload_n 0, 1) := by decide +kernel
theorem dX12_build_158 : decode cX12_build 158 = .ok (.getfield 7, 3) := by decide +kernel
theorem dX12_build_161 : decode cX12_build 161 = .ok (.sipush 889, 3) := by decide +kernel
theorem dX12_build_164 : decode cX12_build 164 = .ok (.iload_n 2, 1) := by decide +kernel
theorem dX12_build_165 : decode cX12_build 165 = .ok (.iadd, 1) := by decide +kernel
theorem dX12_build_166 : decode cX12_build 166 = .ok (.iload_n 3, 1) := by decide +kernel
theorem dX12_build_167 : decode cX12_build 167 = .ok (.iastore, 1) := by decide +kernel
theorem dX12_build_168 : decode cX12_build 168 = .ok (.iconst 1, 1) := by decide +kernel
theorem dX12_build_169 : decode cX12_build 169 = .ok (.ireturn, 1) := by decide +kernel
theorem dX12_build_170 : decode cX12_build 170 = .ok (.aload_n 0, 1) := by decide +kernel
theorem dX12_build_171 : decode cX12_build 171 = .ok (.sipush 741, 3) := by decide +kernel
theorem dX12_build_174 : decode cX12_build 174 = .ok (.iload_n 2, 1) := by decide +kernel
theorem dX12_build_175 : decode cX12_build 175 = .ok (.iload_n 3, 1) := by decide +kernel
theorem dX12_build_176 : decode cX12_build 176 = .ok (.invokevirtual 107, 3) := by decide +kernel
theorem dX12_build_179 : decode cX12_build 179 = .ok (.ireturn, 1) := by decide +kernel
theorem dX12_build_180 : decode cX12_build 180 = .ok (.aload_n 0, 1) := by decide +kernel
theorem dX12_build_181 : decode cX12_build 181 = .ok (.sipush 741, 3) := by decide +kernel
theorem dX12_build_184 : decode cX12_build 184 = .ok (.iload_n 2, 1) := by decide +kernel
theorem dX12_build_185 : decode cX12_build 185 = .ok (.invokevirtual 82, 3) := by decide +kernel
theorem dX12_build_188 : decode cX12_build 188 = .ok (.ifCond .eq 16, 3) := by decide +kernel
theorem dX12_build_191 : decode cX12_build 191 = .ok (.aload_n 0, 1) := by decide +kernel
theorem dX12_build_192 : decode cX12_build 192 = .ok (.sipush 912, 3) := by decide +kernel
theorem dX12_build_195 : decode cX12_build 195 = .ok (.iload_n 2, 1) := by decide +kernel
theorem dX12_build_196 : decode cX12_build 196 = .ok (.iadd, 1) := by decide +kernel
theorem dX12_build_197 : decode cX12_build 197 = .ok (.iconst 0, 1) := by decide +kernel
theorem dX12_build_198 : decode cX12_build 198 = .ok (.invokevirtual 75, 3) := by decide +kernel
theorem dX12_build_201 : decode cX12_build 201 = .ok (.goto 5, 3) := by decide +kernel
theorem dX12_build_204 : decode cX12_build 204 = .ok (.bipush (-2), 2) := by decide +kernel
theorem dX12_build_206 : decode cX12_build 206 = .ok (.ireturn, 1) := by decide +kernel
theorem dX12_build_207 : decode cX12_build 207 = .ok (.aload_n 0, 1) := by decide +kernel
theorem dX12_build_208 : decode cX12_build 208 = .ok (.sipush 741, 3) := by decide +kernel
theorem dX12_build_211 : decode cX12_build 211 = .ok (.iload_n 2, 1) := by decide +kernel
theorem dX12_build_212 : decode cX12_build 212 = .ok (.iload_n 3, 1) := by decide +kernel
theorem dX12_build_213 : decode cX12_build 213 = .ok (.invokevirtual 110, 3) := by decide +kernel
theorem dX12_build_216 : decode cX12_build 216 = .ok (.ireturn, 1) := by decide +kernel
theorem dX12_build_217 : decode cX12_build 217 = .ok (.aload_n 0, 1) := by decide +kernel
theorem dX12_build_218 : decode cX12_build 218 = .ok (.sipush 741, 3) := by decide +kernel
theorem dX12_build_221 : decode cX12_build 221 = .ok (.iload_n 2, 1) := by decide +kernel
theorem dX12_build_222 : decode cX12_build 222 = .ok (.iload_n 3, 1) := by decide +kernel
theorem dX12_build_223 : decode cX12_build 223 = .ok (.invokevirtual 113, 3) := by decide +kernel
theorem dX12_build_226 : decode cX12_build 226 = .ok (.ireturn, 1) := by decide +kernel
theorem bX12_build_0 {Z : ZT} {X : XT} {μ : Mu} {a1 : Int32} (E : Ent Z X mX12_build 0 0)  (s1_ : vp_in (nI 0) 5) (s2_ : vp_in (nI 1) 5)
    (kd : (a1.toInt < 10 ∨ 18 < a1.toInt) → JS Z X 217 [(0, .ref (Z.2.2.1 + 455)), (2, .int (μ 460 (ix (nI 0)))), (3, .int (μ 460 (ix (nI 1))))] [] μ) (k10 : a1 = nI 10 → JS Z X 64 [(0, .ref (Z.2.2.1 + 455))] [] μ) (k11 : a1 = nI 11 → JS Z X 72 [(0, .ref (Z.2.2.1 + 455)), (2, .int (μ 460 (ix (nI 0)))), (3, .int (μ 460 (ix (nI 1))))] [] μ) (k12 : a1 = nI 12 → JS Z X 88 [(0, .ref (Z.2.2.1 + 455)), (2, .int (μ 460 (ix (nI 0)))), (3, .int (μ 460 (ix (nI 1))))] [] μ) (k13 : a1 = nI 13 → JS Z X 98 [(0, .ref (Z.2.2.1 + 455)), (2, .int (μ 460 (ix (nI 0)))), (3, .int (μ 460 (ix (nI 1))))] [] μ) (k14 : a1 = nI 14 → JS Z X 126 [(0, .ref (Z.2.2.1 + 455)), (2, .int (μ 460 (ix (nI 0)))), (3, .int (μ 460 (ix (nI 1))))] [] μ) (k15 : a1 = nI 15 → JS Z X 136 [(0, .ref (Z.2.2.1 + 455)), (2, .int (μ 460 (ix (nI 0)))), (3, .int (μ 460 (ix (nI 1))))] [] μ) (k16 : a1 = nI 16 → JS Z X 170 [(0, .ref (Z.2.2.1 + 455)), (2, .int (μ 460 (ix (nI 0)))), (3, .int (μ 460 (ix (nI 1))))] [] μ) (k17 : a1 = nI 17 → JS Z X 180 [(0, .ref (Z.2.2.1 + 455)), (2, .int (μ 460 (ix (nI 0))))] [] μ) (k18 : a1 = nI 18 → JS Z X 207 [(0, .ref (Z.2.2.1 + 455)), (2, .int (μ 460 (ix (nI 0)))), (3, .int (μ 460 (ix (nI 1))))] [] μ) :
    JS Z X 0 [(0, .ref (Z.2.2.1 + 455)), (1, .int a1)] [] μ := by
  refine J_aload_n E dX12_build_0 rfl ?_
  refine S_get (ci := 12) (q := 10) (v := .ref (Z.2.2.1 + 460)) E dX12_build_1 fs_X12_24 sh455 rfl ?_
  refine J_iconst (v := nI 0) E dX12_build_4 rfl ?_
  refine S_iald E dX12_build_5 sh460 s1_ ?_
  refine J_istore_n (lv' := [(0, .ref (Z.2.2.1 + 455)), (1, .int a1), (2, .int (μ 460 (ix (nI 0))))]) E dX12_build_6 (Nat.le_of_ble_eq_true rfl) rfl ?_
  refine J_aload_n E dX12_build_7 rfl ?_
  refine S_get (ci := 12) (q := 10) (v := .ref (Z.2.2.1 + 460)) E dX12_build_8 fs_X12_24 sh455 rfl ?_
  refine J_iconst (v := nI 1) E dX12_build_11 rfl ?_
  refine S_iald E dX12_build_12 sh460 s2_ ?_
  refine J_istore_n (lv' := [(0, .ref (Z.2.2.1 + 455)), (1, .int a1), (2, .int (μ 460 (ix (nI 0)))), (3, .int (μ 460 (ix (nI 1))))]) E dX12_build_13 (Nat.le_of_ble_eq_true rfl) rfl ?_
  refine J_iload_n E dX12_build_14 rfl ?_
  rcases sw_le (x := a1) (lo := 10) (hi := 18) with g | ⟨j, hj, hj2, g⟩
  · refine J_tableOut (tgt := 217) E dX12_build_15 g (by decide) ?_
    refine J.weak [0, 2, 3] rfl ?_
    exact kd g
  · rcases (show j = 10 ∨ j = 11 ∨ j = 12 ∨ j = 13 ∨ j = 14 ∨ j = 15 ∨ j = 16 ∨ j = 17 ∨ j = 18 by omega) with e | e | e | e | e | e | e | e | e
    · have g : a1 = nI 10 := by rw [g, e]
      refine J_tableIn (tgt := 64) E dX12_build_15 (by rw [g]; decide) (by rw [g]; decide) (by rw [g]; rfl) (by decide) ?_
      refine J.weak [0] rfl ?_
      exact k10 g
    · have g : a1 = nI 11 := by rw [g, e]
      refine J_tableIn (tgt := 72) E dX12_build_15 (by rw [g]; decide) (by rw [g]; decide) (by rw [g]; rfl) (by decide) ?_
      refine J.weak [0, 2, 3] rfl ?_
      exact k11 g
    · have g : a1 = nI 12 := by rw [g, e]
      refine J_tableIn (tgt := 88) E dX12_build_15 (by rw [g]; decide) (by rw [g]; decide) (by rw [g]; rfl) (by decide) ?_
      refine J.weak [0, 2, 3] rfl ?_
      exact k12 g
    · have g : a1 = nI 13 := by rw [g, e]
      refine J_tableIn (tgt := 98) E dX12_build_15 (by rw [g]; decide) (by rw [g]; decide) (by rw [g]; rfl) (by decide) ?_
      refine J.weak [0, 2, 3] rfl ?_
      exact k13 g
    · have g : a1 = nI 14 := by rw [g, e]
      refine J_tableIn (tgt := 126) E dX12_build_15 (by rw [g]; decide) (by rw [g]; decide) (by rw [g]; rfl) (by decide) ?_
      refine J.weak [0, 2, 3] rfl ?_
      exact k14 g
    · have g : a1 = nI 15 := by rw [g, e]
      refine J_tableIn (tgt := 136) E dX12_build_15 (by rw [g]; decide) (by rw [g]; decide) (by rw [g]; rfl) (by decide) ?_
      refine J.weak [0, 2, 3] rfl ?_
      exact k15 g
    · have g : a1 = nI 16 := by rw [g, e]
      refine J_tableIn (tgt := 170) E dX12_build_15 (by rw [g]; decide) (by rw [g]; decide) (by rw [g]; rfl) (by decide) ?_
      refine J.weak [0, 2, 3] rfl ?_
      exact k16 g
    · have g : a1 = nI 17 := by rw [g, e]
      refine J_tableIn (tgt := 180) E dX12_build_15 (by rw [g]; decide) (by rw [g]; decide) (by rw [g]; rfl) (by decide) ?_
      refine J.weak [0, 2] rfl ?_
      exact k17 g
    · have g : a1 = nI 18 := by rw [g, e]
      refine J_tableIn (tgt := 207) E dX12_build_15 (by rw [g]; decide) (by rw [g]; decide) (by rw [g]; rfl) (by decide) ?_
      refine J.weak [0, 2, 3] rfl ?_
      exact k18 g
theorem bX12_build_64 {Z : ZT} {X : XT} {μ : Mu} (E : Ent Z X mX12_build 0 0) {p : Int32 → Mu → Prop} 
    (c : CtrS Z mX12_addPlace [.ref (Z.2.2.1 + 455), .int (nI 741)] μ (rI p)) (k : ∀ v μ1, p v μ1 → JS Z X 71 [] [.int v] μ1) :
    JS Z X 64 [(0, .ref (Z.2.2.1 + 455))] [] μ := by
  refine J_aload_n E dX12_build_64 rfl ?_
  refine J_sipush (v := nI 741) E dX12_build_65 rfl ?_
  refine S_callV (As := [.int (nI 741)]) (rest := []) E dX12_build_68 c kX12_addPlace ⟨Nat.le_of_ble_eq_true rfl, Nat.le_of_ble_eq_true rfl⟩ rfl (Nat.le_of_ble_eq_true rfl) sh455 rfl rfl w6_47 w6_49 wp_29 (fun r_ μ1 hp_ => ?_)
  obtain ⟨v, rfl, hp_⟩ := hp_
  refine J.weak [] rfl ?_
  exact k v μ1 hp_
theorem bX12_build_71 {Z : ZT} {X : XT} {μ : Mu} {s0 : Int32} (E : Ent Z X mX12_build 0 0) {P : Option Value → Mu → Prop} (hB : BodS Z X P) 
    (k : P (some (.int s0)) μ) :
    JS Z X 71 [] [.int s0] μ := by
  exact S_iret E hB dX12_build_71 rfl k
theorem bX12_build_72 {Z : ZT} {X : XT} {μ : Mu} {a2 : Int32} {a3 : Int32} (E : Ent Z X mX12_build 0 0) {p : Int32 → Mu → Prop} (s1_ : vp_in (nI 2) 5)
    (c : CtrS Z mX12_setWay [.ref (Z.2.2.1 + 455), .int (nI 741), .int a2, .int a3, .int (μ 460 (ix (nI 2)))] μ (rI p)) (k : ∀ v μ1, p v μ1 → JS Z X 87 [] [.int v] μ1) :
    JS Z X 72 [(0, .ref (Z.2.2.1 + 455)), (2, .int a2), (3, .int a3)] [] μ := by
  refine J_aload_n E dX12_build_72 rfl ?_
  refine J_sipush (v := nI 741) E dX12_build_73 rfl ?_
  refine J_iload_n E dX12_build_76 rfl ?_
  refine J_iload_n E dX12_build_77 rfl ?_
  refine J_aload_n E dX12_build_78 rfl ?_
  refine S_get (ci := 12) (q := 10) (v := .ref (Z.2.2.1 + 460)) E dX12_build_79 fs_X12_24 sh455 rfl ?_
  refine J_iconst (v := nI 2) E dX12_build_82 rfl ?_
  refine S_iald E dX12_build_83 sh460 s1_ ?_
  refine S_callV (As := [.int (nI 741), .int a2, .int a3, .int (μ 460 (ix (nI 2)))]) (rest := []) E dX12_build_84 c kX12_setWay ⟨Nat.le_of_ble_eq_true rfl, Nat.le_of_ble_eq_true rfl⟩ rfl (Nat.le_of_ble_eq_true rfl) sh455 rfl rfl w6_59 w6_61 wp_31 (fun r_ μ1 hp_ => ?_)
  obtain ⟨v, rfl, hp_⟩ := hp_
  refine J.weak [] rfl ?_
  exact k v μ1 hp_
theorem bX12_build_87 {Z : ZT} {X : XT} {μ : Mu} {s0 : Int32} (E : Ent Z X mX12_build 0 0) {P : Option Value → Mu → Prop} (hB : BodS Z X P) 
    (k : P (some (.int s0)) μ) :
    JS Z X 87 [] [.int s0] μ := by
  exact S_iret E hB dX12_build_87 rfl k
theorem bX12_build_88 {Z : ZT} {X : XT} {μ : Mu} {a2 : Int32} {a3 : Int32} (E : Ent Z X mX12_build 0 0) {p : Int32 → Mu → Prop} 
    (c : CtrS Z mX12_setSeen [.ref (Z.2.2.1 + 455), .int (nI 741), .int a2, .int a3] μ (rI p)) (k : ∀ v μ1, p v μ1 → JS Z X 97 [] [.int v] μ1) :
    JS Z X 88 [(0, .ref (Z.2.2.1 + 455)), (2, .int a2), (3, .int a3)] [] μ := by
  refine J_aload_n E dX12_build_88 rfl ?_
  refine J_sipush (v := nI 741) E dX12_build_89 rfl ?_
  refine J_iload_n E dX12_build_92 rfl ?_
  refine J_iload_n E dX12_build_93 rfl ?_
  refine S_callV (As := [.int (nI 741), .int a2, .int a3]) (rest := []) E dX12_build_94 c kX12_setSeen ⟨Nat.le_of_ble_eq_true rfl, Nat.le_of_ble_eq_true rfl⟩ rfl (Nat.le_of_ble_eq_true rfl) sh455 rfl rfl w6_74 w6_76 wp_33 (fun r_ μ1 hp_ => ?_)
  obtain ⟨v, rfl, hp_⟩ := hp_
  refine J.weak [] rfl ?_
  exact k v μ1 hp_
theorem bX12_build_97 {Z : ZT} {X : XT} {μ : Mu} {s0 : Int32} (E : Ent Z X mX12_build 0 0) {P : Option Value → Mu → Prop} (hB : BodS Z X P) 
    (k : P (some (.int s0)) μ) :
    JS Z X 97 [] [.int s0] μ := by
  exact S_iret E hB dX12_build_97 rfl k
theorem bX12_build_98 {Z : ZT} {X : XT} {μ : Mu} {a2 : Int32} {a3 : Int32} (E : Ent Z X mX12_build 0 0) {p : Int32 → Mu → Prop} (s1_ : vp_in (nI 2) 5) (s2_ : vp_in (nI 3) 5) (s3_ : vp_in (nI 4) 5)
    (c : CtrS Z mX12_addChild [.ref (Z.2.2.1 + 455), .int (nI 741), .int a2, .int a3, .int (μ 460 (ix (nI 2))), .int (μ 460 (ix (nI 3))), .int (μ 460 (ix (nI 4)))] μ (rI p)) (k : ∀ v μ1, p v μ1 → JS Z X 125 [] [.int v] μ1) :
    JS Z X 98 [(0, .ref (Z.2.2.1 + 455)), (2, .int a2), (3, .int a3)] [] μ := by
  refine J_aload_n E dX12_build_98 rfl ?_
  refine J_sipush (v := nI 741) E dX12_build_99 rfl ?_
  refine J_iload_n E dX12_build_102 rfl ?_
  refine J_iload_n E dX12_build_103 rfl ?_
  refine J_aload_n E dX12_build_104 rfl ?_
  refine S_get (ci := 12) (q := 10) (v := .ref (Z.2.2.1 + 460)) E dX12_build_105 fs_X12_24 sh455 rfl ?_
  refine J_iconst (v := nI 2) E dX12_build_108 rfl ?_
  refine S_iald E dX12_build_109 sh460 s1_ ?_
  refine J_aload_n E dX12_build_110 rfl ?_
  refine S_get (ci := 12) (q := 10) (v := .ref (Z.2.2.1 + 460)) E dX12_build_111 fs_X12_24 sh455 rfl ?_
  refine J_iconst (v := nI 3) E dX12_build_114 rfl ?_
  refine S_iald E dX12_build_115 sh460 s2_ ?_
  refine J_aload_n E dX12_build_116 rfl ?_
  refine S_get (ci := 12) (q := 10) (v := .ref (Z.2.2.1 + 460)) E dX12_build_117 fs_X12_24 sh455 rfl ?_
  refine J_iconst (v := nI 4) E dX12_build_120 rfl ?_
  refine S_iald E dX12_build_121 sh460 s3_ ?_
  refine S_callV (As := [.int (nI 741), .int a2, .int a3, .int (μ 460 (ix (nI 2))), .int (μ 460 (ix (nI 3))), .int (μ 460 (ix (nI 4)))]) (rest := []) E dX12_build_122 c kX12_addChild ⟨Nat.le_of_ble_eq_true rfl, Nat.le_of_ble_eq_true rfl⟩ rfl (Nat.le_of_ble_eq_true rfl) sh455 rfl rfl w6_86 w6_88 wp_35 (fun r_ μ1 hp_ => ?_)
  obtain ⟨v, rfl, hp_⟩ := hp_
  refine J.weak [] rfl ?_
  exact k v μ1 hp_
theorem bX12_build_125 {Z : ZT} {X : XT} {μ : Mu} {s0 : Int32} (E : Ent Z X mX12_build 0 0) {P : Option Value → Mu → Prop} (hB : BodS Z X P) 
    (k : P (some (.int s0)) μ) :
    JS Z X 125 [] [.int s0] μ := by
  exact S_iret E hB dX12_build_125 rfl k
theorem bX12_build_126 {Z : ZT} {X : XT} {μ : Mu} {a2 : Int32} {a3 : Int32} (E : Ent Z X mX12_build 0 0) {p : Int32 → Mu → Prop} 
    (c : CtrS Z mX12_setBar [.ref (Z.2.2.1 + 455), .int (nI 741), .int a2, .int a3] μ (rI p)) (k : ∀ v μ1, p v μ1 → JS Z X 135 [] [.int v] μ1) :
    JS Z X 126 [(0, .ref (Z.2.2.1 + 455)), (2, .int a2), (3, .int a3)] [] μ := by
  refine J_aload_n E dX12_build_126 rfl ?_
  refine J_sipush (v := nI 741) E dX12_build_127 rfl ?_
  refine J_iload_n E dX12_build_130 rfl ?_
  refine J_iload_n E dX12_build_131 rfl ?_
  refine S_callV (As := [.int (nI 741), .int a2, .int a3]) (rest := []) E dX12_build_132 c kX12_setBar ⟨Nat.le_of_ble_eq_true rfl, Nat.le_of_ble_eq_true rfl⟩ rfl (Nat.le_of_ble_eq_true rfl) sh455 rfl rfl w6_94 w6_96 wp_36 (fun r_ μ1 hp_ => ?_)
  obtain ⟨v, rfl, hp_⟩ := hp_
  refine J.weak [] rfl ?_
  exact k v μ1 hp_
theorem bX12_build_135 {Z : ZT} {X : XT} {μ : Mu} {s0 : Int32} (E : Ent Z X mX12_build 0 0) {P : Option Value → Mu → Prop} (hB : BodS Z X P) 
    (k : P (some (.int s0)) μ) :
    JS Z X 135 [] [.int s0] μ := by
  exact S_iret E hB dX12_build_135 rfl k
theorem bX12_build_136 {Z : ZT} {X : XT} {μ : Mu} {a2 : Int32} {a3 : Int32} (E : Ent Z X mX12_build 0 0) {p : Int32 → Mu → Prop} 
    (c : CtrS Z mX12_isChild [.ref (Z.2.2.1 + 455), .int (nI 741), .int a2] μ (rI p)) (k : ∀ v μ1, p v μ1 → JS Z X 144 [(0, .ref (Z.2.2.1 + 455)), (2, .int a2), (3, .int a3)] [.int v] μ1) :
    JS Z X 136 [(0, .ref (Z.2.2.1 + 455)), (2, .int a2), (3, .int a3)] [] μ := by
  refine J_aload_n E dX12_build_136 rfl ?_
  refine J_sipush (v := nI 741) E dX12_build_137 rfl ?_
  refine J_iload_n E dX12_build_140 rfl ?_
  refine S_callV (As := [.int (nI 741), .int a2]) (rest := []) E dX12_build_141 c kX12_isChild ⟨Nat.le_of_ble_eq_true rfl, Nat.le_of_ble_eq_true rfl⟩ rfl (Nat.le_of_ble_eq_true rfl) sh455 rfl rfl w6_98 w6_100 wp_37 (fun r_ μ1 hp_ => ?_)
  obtain ⟨v, rfl, hp_⟩ := hp_
  exact k v μ1 hp_
theorem bX12_build_144 {Z : ZT} {X : XT} {μ : Mu} {a2 : Int32} {a3 : Int32} {s0 : Int32} (E : Ent Z X mX12_build 0 0)  
    (kt : s0 = 0 → JS Z X 154 [] [] μ) (kf : ¬ (s0 = 0) → JS Z X 147 [(0, .ref (Z.2.2.1 + 455)), (2, .int a2), (3, .int a3)] [] μ) :
    JS Z X 144 [(0, .ref (Z.2.2.1 + 455)), (2, .int a2), (3, .int a3)] [.int s0] μ := by
  refine J_if_eq (tgt := 154) E dX12_build_144 (by decide) (fun c => ?_) (fun c => ?_)
  · refine J.weak [] rfl ?_
    exact kt c
  · exact kf c
theorem bX12_build_147 {Z : ZT} {X : XT} {μ : Mu} {a2 : Int32} {a3 : Int32} (E : Ent Z X mX12_build 0 0) {p : Int32 → Mu → Prop} 
    (c : CtrS Z mX12_isLot [.int a3] μ (rI p)) (k : ∀ v μ1, p v μ1 → JS Z X 151 [(0, .ref (Z.2.2.1 + 455)), (2, .int a2), (3, .int a3)] [.int v] μ1) :
    JS Z X 147 [(0, .ref (Z.2.2.1 + 455)), (2, .int a2), (3, .int a3)] [] μ := by
  refine J_iload_n E dX12_build_147 rfl ?_
  refine S_callS (As := [.int a3]) (rest := []) E dX12_build_148 c kX12_isLot ⟨Nat.le_of_ble_eq_true rfl, Nat.le_of_ble_eq_true rfl⟩ rfl (Nat.le_of_ble_eq_true rfl) w6_138 w6_139 (fun r_ μ1 hp_ => ?_)
  obtain ⟨v, rfl, hp_⟩ := hp_
  exact k v μ1 hp_
theorem bX12_build_151 {Z : ZT} {X : XT} {μ : Mu} {a2 : Int32} {a3 : Int32} {s0 : Int32} (E : Ent Z X mX12_build 0 0)  
    (kt : ¬ s0 = 0 → JS Z X 157 [(0, .ref (Z.2.2.1 + 455)), (2, .int a2), (3, .int a3)] [] μ) (kf : s0 = 0 → JS Z X 154 [] [] μ) :
    JS Z X 151 [(0, .ref (Z.2.2.1 + 455)), (2, .int a2), (3, .int a3)] [.int s0] μ := by
  refine J_if_ne (tgt := 157) E dX12_build_151 (by decide) (fun c => ?_) (fun c => ?_)
  · exact kt c
  · refine J.weak [] rfl ?_
    exact kf c
theorem bX12_build_154 {Z : ZT} {X : XT} {μ : Mu} (E : Ent Z X mX12_build 0 0) {P : Option Value → Mu → Prop} (hB : BodS Z X P) 
    (k : P (some (.int (-2))) μ) :
    JS Z X 154 [] [] μ := by
  refine J_bipush (v := -2) E dX12_build_154 rfl ?_
  exact S_iret E hB dX12_build_156 rfl k
theorem bX12_build_157 {Z : ZT} {X : XT} {μ : Mu} {a2 : Int32} {a3 : Int32} (E : Ent Z X mX12_build 0 0)  (s1_ : vp_in ((nI 889) + a2) 988)
    (k : JS Z X 168 [] [] (uR μ 456 (upd (μ 456) (ix ((nI 889) + a2)) a3))) :
    JS Z X 157 [(0, .ref (Z.2.2.1 + 455)), (2, .int a2), (3, .int a3)] [] μ := by
  refine J_aload_n E dX12_build_157 rfl ?_
  refine S_get (ci := 12) (q := 0) (v := .ref (Z.2.2.1 + 456)) E dX12_build_158 fs_X12_7 sh455 rfl ?_
  refine J_sipush (v := nI 889) E dX12_build_161 rfl ?_
  refine J_iload_n E dX12_build_164 rfl ?_
  refine J_iadd E dX12_build_165 ?_
  refine J_iload_n E dX12_build_166 rfl ?_
  refine S_iast E dX12_build_167 sh456 s1_ ?_
  refine J.weak [] rfl ?_
  exact k
theorem bX12_build_168 {Z : ZT} {X : XT} {μ : Mu} (E : Ent Z X mX12_build 0 0) {P : Option Value → Mu → Prop} (hB : BodS Z X P) 
    (k : P (some (.int (nI 1))) μ) :
    JS Z X 168 [] [] μ := by
  refine J_iconst (v := nI 1) E dX12_build_168 rfl ?_
  exact S_iret E hB dX12_build_169 rfl k
theorem bX12_build_170 {Z : ZT} {X : XT} {μ : Mu} {a2 : Int32} {a3 : Int32} (E : Ent Z X mX12_build 0 0) {p : Int32 → Mu → Prop} 
    (c : CtrS Z mX12_addSlip [.ref (Z.2.2.1 + 455), .int (nI 741), .int a2, .int a3] μ (rI p)) (k : ∀ v μ1, p v μ1 → JS Z X 179 [] [.int v] μ1) :
    JS Z X 170 [(0, .ref (Z.2.2.1 + 455)), (2, .int a2), (3, .int a3)] [] μ := by
  refine J_aload_n E dX12_build_170 rfl ?_
  refine J_sipush (v := nI 741) E dX12_build_171 rfl ?_
  refine J_iload_n E dX12_build_174 rfl ?_
  refine J_iload_n E dX12_build_175 rfl ?_
  refine S_callV (As := [.int (nI 741), .int a2, .int a3]) (rest := []) E dX12_build_176 c kX12_addSlip ⟨Nat.le_of_ble_eq_true rfl, Nat.le_of_ble_eq_true rfl⟩ rfl (Nat.le_of_ble_eq_true rfl) sh455 rfl rfl w6_110 w6_112 wp_38 (fun r_ μ1 hp_ => ?_)
  obtain ⟨v, rfl, hp_⟩ := hp_
  refine J.weak [] rfl ?_
  exact k v μ1 hp_
theorem bX12_build_179 {Z : ZT} {X : XT} {μ : Mu} {s0 : Int32} (E : Ent Z X mX12_build 0 0) {P : Option Value → Mu → Prop} (hB : BodS Z X P) 
    (k : P (some (.int s0)) μ) :
    JS Z X 179 [] [.int s0] μ := by
  exact S_iret E hB dX12_build_179 rfl k
theorem bX12_build_180 {Z : ZT} {X : XT} {μ : Mu} {a2 : Int32} (E : Ent Z X mX12_build 0 0) {p : Int32 → Mu → Prop} 
    (c : CtrS Z mX12_isSlip [.ref (Z.2.2.1 + 455), .int (nI 741), .int a2] μ (rI p)) (k : ∀ v μ1, p v μ1 → JS Z X 188 [(0, .ref (Z.2.2.1 + 455)), (2, .int a2)] [.int v] μ1) :
    JS Z X 180 [(0, .ref (Z.2.2.1 + 455)), (2, .int a2)] [] μ := by
  refine J_aload_n E dX12_build_180 rfl ?_
  refine J_sipush (v := nI 741) E dX12_build_181 rfl ?_
  refine J_iload_n E dX12_build_184 rfl ?_
  refine S_callV (As := [.int (nI 741), .int a2]) (rest := []) E dX12_build_185 c kX12_isSlip ⟨Nat.le_of_ble_eq_true rfl, Nat.le_of_ble_eq_true rfl⟩ rfl (Nat.le_of_ble_eq_true rfl) sh455 rfl rfl w6_118 w6_120 wp_39 (fun r_ μ1 hp_ => ?_)
  obtain ⟨v, rfl, hp_⟩ := hp_
  exact k v μ1 hp_
theorem bX12_build_188 {Z : ZT} {X : XT} {μ : Mu} {a2 : Int32} {s0 : Int32} (E : Ent Z X mX12_build 0 0)  
    (kt : s0 = 0 → JS Z X 204 [] [] μ) (kf : ¬ (s0 = 0) → JS Z X 191 [(0, .ref (Z.2.2.1 + 455)), (2, .int a2)] [] μ) :
    JS Z X 188 [(0, .ref (Z.2.2.1 + 455)), (2, .int a2)] [.int s0] μ := by
  refine J_if_eq (tgt := 204) E dX12_build_188 (by decide) (fun c => ?_) (fun c => ?_)
  · refine J.weak [] rfl ?_
    exact kt c
  · exact kf c
theorem bX12_build_191 {Z : ZT} {X : XT} {μ : Mu} {a2 : Int32} (E : Ent Z X mX12_build 0 0) {p : Int32 → Mu → Prop} 
    (c : CtrS Z mX12_mark [.ref (Z.2.2.1 + 455), .int ((nI 912) + a2), .int (nI 0)] μ (rI p)) (k : ∀ v μ1, p v μ1 → JS Z X 201 [] [.int v] μ1) :
    JS Z X 191 [(0, .ref (Z.2.2.1 + 455)), (2, .int a2)] [] μ := by
  refine J_aload_n E dX12_build_191 rfl ?_
  refine J_sipush (v := nI 912) E dX12_build_192 rfl ?_
  refine J_iload_n E dX12_build_195 rfl ?_
  refine J_iadd E dX12_build_196 ?_
  refine J_iconst (v := nI 0) E dX12_build_197 rfl ?_
  refine S_callV (As := [.int ((nI 912) + a2), .int (nI 0)]) (rest := []) E dX12_build_198 c kX12_mark ⟨Nat.le_of_ble_eq_true rfl, Nat.le_of_ble_eq_true rfl⟩ rfl (Nat.le_of_ble_eq_true rfl) sh455 rfl rfl w6_78 w6_80 wp_34 (fun r_ μ1 hp_ => ?_)
  obtain ⟨v, rfl, hp_⟩ := hp_
  refine J.weak [] rfl ?_
  exact k v μ1 hp_
theorem bX12_build_201 {Z : ZT} {X : XT} {μ : Mu} {s0 : Int32} (E : Ent Z X mX12_build 0 0)  
    (k : JS Z X 206 [] [.int s0] μ) :
    JS Z X 201 [] [.int s0] μ := by
  refine J_goto (tgt := 206) E dX12_build_201 (by decide) ?_
  exact k
theorem bX12_build_204 {Z : ZT} {X : XT} {μ : Mu} (E : Ent Z X mX12_build 0 0)  
    (k : JS Z X 206 [] [.int (-2)] μ) :
    JS Z X 204 [] [] μ := by
  refine J_bipush (v := -2) E dX12_build_204 rfl ?_
  exact k
theorem bX12_build_206 {Z : ZT} {X : XT} {μ : Mu} {s0 : Int32} (E : Ent Z X mX12_build 0 0) {P : Option Value → Mu → Prop} (hB : BodS Z X P) 
    (k : P (some (.int s0)) μ) :
    JS Z X 206 [] [.int s0] μ := by
  exact S_iret E hB dX12_build_206 rfl k
theorem bX12_build_207 {Z : ZT} {X : XT} {μ : Mu} {a2 : Int32} {a3 : Int32} (E : Ent Z X mX12_build 0 0) {p : Int32 → Mu → Prop} 
    (c : CtrS Z mX12_setMeans [.ref (Z.2.2.1 + 455), .int (nI 741), .int a2, .int a3] μ (rI p)) (k : ∀ v μ1, p v μ1 → JS Z X 216 [] [.int v] μ1) :
    JS Z X 207 [(0, .ref (Z.2.2.1 + 455)), (2, .int a2), (3, .int a3)] [] μ := by
  refine J_aload_n E dX12_build_207 rfl ?_
  refine J_sipush (v := nI 741) E dX12_build_208 rfl ?_
  refine J_iload_n E dX12_build_211 rfl ?_
  refine J_iload_n E dX12_build_212 rfl ?_
  refine S_callV (As := [.int (nI 741), .int a2, .int a3]) (rest := []) E dX12_build_213 c kX12_setMeans ⟨Nat.le_of_ble_eq_true rfl, Nat.le_of_ble_eq_true rfl⟩ rfl (Nat.le_of_ble_eq_true rfl) sh455 rfl rfl w6_126 w6_128 wp_40 (fun r_ μ1 hp_ => ?_)
  obtain ⟨v, rfl, hp_⟩ := hp_
  refine J.weak [] rfl ?_
  exact k v μ1 hp_
theorem bX12_build_216 {Z : ZT} {X : XT} {μ : Mu} {s0 : Int32} (E : Ent Z X mX12_build 0 0) {P : Option Value → Mu → Prop} (hB : BodS Z X P) 
    (k : P (some (.int s0)) μ) :
    JS Z X 216 [] [.int s0] μ := by
  exact S_iret E hB dX12_build_216 rfl k
theorem bX12_build_217 {Z : ZT} {X : XT} {μ : Mu} {a2 : Int32} {a3 : Int32} (E : Ent Z X mX12_build 0 0) {p : Int32 → Mu → Prop} 
    (c : CtrS Z mX12_addRow [.ref (Z.2.2.1 + 455), .int (nI 741), .int a2, .int a3] μ (rI p)) (k : ∀ v μ1, p v μ1 → JS Z X 226 [] [.int v] μ1) :
    JS Z X 217 [(0, .ref (Z.2.2.1 + 455)), (2, .int a2), (3, .int a3)] [] μ := by
  refine J_aload_n E dX12_build_217 rfl ?_
  refine J_sipush (v := nI 741) E dX12_build_218 rfl ?_
  refine J_iload_n E dX12_build_221 rfl ?_
  refine J_iload_n E dX12_build_222 rfl ?_
  refine S_callV (As := [.int (nI 741), .int a2, .int a3]) (rest := []) E dX12_build_223 c kX12_addRow ⟨Nat.le_of_ble_eq_true rfl, Nat.le_of_ble_eq_true rfl⟩ rfl (Nat.le_of_ble_eq_true rfl) sh455 rfl rfl w6_134 w6_136 wp_41 (fun r_ μ1 hp_ => ?_)
  obtain ⟨v, rfl, hp_⟩ := hp_
  refine J.weak [] rfl ?_
  exact k v μ1 hp_
theorem bX12_build_226 {Z : ZT} {X : XT} {μ : Mu} {s0 : Int32} (E : Ent Z X mX12_build 0 0) {P : Option Value → Mu → Prop} (hB : BodS Z X P) 
    (k : P (some (.int s0)) μ) :
    JS Z X 226 [] [.int s0] μ := by
  exact S_iret E hB dX12_build_226 rfl k
theorem dX12_house_0 : decode cX12_house 0 = .ok (.aload_n 0, 1) := by decide +kernel
theorem dX12_house_1 : decode cX12_house 1 = .ok (.iconst 0, 1) := by decide +kernel
theorem dX12_house_2 : decode cX12_house 2 = .ok (.putfield 122, 3) := by decide +kernel
theorem dX12_house_5 : decode cX12_house 5 = .ok (.aload_n 0, 1) := by decide +kernel
theorem dX12_house_6 : decode cX12_house 6 = .ok (.iconst (-1), 1) := by decide +kernel
theorem dX12_house_7 : decode cX12_house 7 = .ok (.putfield 141, 3) := by decide +kernel
theorem dX12_house_10 : decode cX12_house 10 = .ok (.aload_n 0, 1) := by decide +kernel
theorem dX12_house_11 : decode cX12_house 11 = .ok (.getfield 7, 3) := by decide +kernel
theorem dX12_house_14 : decode cX12_house 14 = .ok (.sipush 741, 3) := by decide +kernel
theorem dX12_house_17 : decode cX12_house 17 = .ok (.iconst 0, 1) := by decide +kernel
theorem dX12_house_18 : decode cX12_house 18 = .ok (.iastore, 1) := by decide +kernel
theorem dX12_house_19 : decode cX12_house 19 = .ok (.aload_n 0, 1) := by decide +kernel
theorem dX12_house_20 : decode cX12_house 20 = .ok (.getfield 7, 3) := by decide +kernel
theorem dX12_house_23 : decode cX12_house 23 = .ok (.sipush 852, 3) := by decide +kernel
theorem dX12_house_26 : decode cX12_house 26 = .ok (.iconst 0, 1) := by decide +kernel
theorem dX12_house_27 : decode cX12_house 27 = .ok (.iastore, 1) := by decide +kernel
theorem dX12_house_28 : decode cX12_house 28 = .ok (.aload_n 0, 1) := by decide +kernel
theorem dX12_house_29 : decode cX12_house 29 = .ok (.getfield 7, 3) := by decide +kernel
theorem dX12_house_32 : decode cX12_house 32 = .ok (.sipush 895, 3) := by decide +kernel
theorem dX12_house_35 : decode cX12_house 35 = .ok (.iconst 0, 1) := by decide +kernel
theorem dX12_house_36 : decode cX12_house 36 = .ok (.iastore, 1) := by decide +kernel
theorem dX12_house_37 : decode cX12_house 37 = .ok (.aload_n 0, 1) := by decide +kernel
theorem dX12_house_38 : decode cX12_house 38 = .ok (.getfield 7, 3) := by decide +kernel
theorem dX12_house_41 : decode cX12_house 41 = .ok (.sipush 928, 3) := by decide +kernel
theorem dX12_house_44 : decode cX12_house 44 = .ok (.iconst 0, 1) := by decide +kernel
theorem dX12_house_45 : decode cX12_house 45 = .ok (.iastore, 1) := by decide +kernel
theorem dX12_house_46 : decode cX12_house 46 = .ok (.aload_n 0, 1) := by decide +kernel
theorem dX12_house_47 : decode cX12_house 47 = .ok (.getfield 7, 3) := by decide +kernel
theorem dX12_house_50 : decode cX12_house 50 = .ok (.sipush 929, 3) := by decide +kernel
theorem dX12_house_53 : decode cX12_house 53 = .ok (.iconst 0, 1) := by decide +kernel
theorem dX12_house_54 : decode cX12_house 54 = .ok (.iastore, 1) := by decide +kernel
theorem dX12_house_55 : decode cX12_house 55 = .ok (.iconst 0, 1) := by decide +kernel
theorem dX12_house_56 : decode cX12_house 56 = .ok (.istore_n 1, 1) := by decide +kernel
theorem dX12_house_57 : decode cX12_house 57 = .ok (.iconst (-1), 1) := by decide +kernel
theorem dX12_house_58 : decode cX12_house 58 = .ok (.istore_n 2, 1) := by decide +kernel
theorem dX12_house_59 : decode cX12_house 59 = .ok (.aload_n 0, 1) := by decide +kernel
theorem dX12_house_60 : decode cX12_house 60 = .ok (.invokevirtual 144, 3) := by decide +kernel
theorem dX12_house_63 : decode cX12_house 63 = .ok (.aload_n 0, 1) := by decide +kernel
theorem dX12_house_64 : decode cX12_house 64 = .ok (.getfield 141, 3) := by decide +kernel
theorem dX12_house_67 : decode cX12_house 67 = .ok (.iconst (-1), 1) := by decide +kernel
theorem dX12_house_68 : decode cX12_house 68 = .ok (.if_icmp .ne 136, 3) := by decide +kernel
theorem dX12_house_71 : decode cX12_house 71 = .ok (.aload_n 0, 1) := by decide +kernel
theorem dX12_house_72 : decode cX12_house 72 = .ok (.getfield 135, 3) := by decide +kernel
theorem dX12_house_75 : decode cX12_house 75 = .ok (.ifCond .eq 129, 3) := by decide +kernel
theorem dX12_house_78 : decode cX12_house 78 = .ok (.aload_n 0, 1) := by decide +kernel
theorem dX12_house_79 : decode cX12_house 79 = .ok (.getfield 135, 3) := by decide +kernel
theorem dX12_house_82 : decode cX12_house 82 = .ok (.istore_n 3, 1) := by decide +kernel
theorem dX12_house_83 : decode cX12_house 83 = .ok (.aload_n 0, 1) := by decide +kernel
theorem dX12_house_84 : decode cX12_house 84 = .ok (.iload_n 3, 1) := by decide +kernel
theorem dX12_house_85 : decode cX12_house 85 = .ok (.bipush 10, 2) := by decide +kernel
theorem dX12_house_87 : decode cX12_house 87 = .ok (.if_icmp .lt 7, 3) := by decide +kernel
theorem dX12_house_90 : decode cX12_house 90 = .ok (.iconst 1, 1) := by decide +kernel
theorem dX12_house_91 : decode cX12_house 91 = .ok (.goto 4, 3) := by decide +kernel
theorem dX12_house_94 : decode cX12_house 94 = .ok (.iconst 0, 1) := by decide +kernel
theorem dX12_house_95 : decode cX12_house 95 = .ok (.invokevirtual 147, 3) := by decide +kernel
theorem dX12_house_98 : decode cX12_house 98 = .ok (.pop, 1) := by decide +kernel
theorem dX12_house_99 : decode cX12_house 99 = .ok (.iload_n 3, 1) := by decide +kernel
theorem dX12_house_100 : decode cX12_house 100 = .ok (.invokestatic 151, 3) := by decide +kernel
theorem dX12_house_103 : decode cX12_house 103 = .ok (.istore 4, 2) := by decide +kernel
theorem dX12_house_105 : decode cX12_house 105 = .ok (.iconst 0, 1) := by decide +kernel
theorem dX12_house_106 : decode cX12_house 106 = .ok (.istore 5, 2) := by decide +kernel
theorem dX12_house_108 : decode cX12_house 108 = .ok (.iload 5, 2) := by decide +kernel
theorem dX12_house_110 : decode cX12_house 110 = .ok (.iload 4, 2) := by decide +kernel
theorem dX12_house_112 : decode cX12_house 112 = .ok (.if_icmp .ge 41, 3) := by decide +kernel
theorem dX12_house_115 : decode cX12_house 115 = .ok (.aload_n 0, 1) := by decide +kernel
theorem dX12_house_116 : decode cX12_house 116 = .ok (.getfield 141, 3) := by decide +kernel
theorem dX12_house_119 : decode cX12_house 119 = .ok (.iconst (-1), 1) := by decide +kernel
theorem dX12_house_120 : decode cX12_house 120 = .ok (.if_icmp .ne 33, 3) := by decide +kernel
theorem dX12_house_123 : decode cX12_house 123 = .ok (.aload_n 0, 1) := by decide +kernel
theorem dX12_house_124 : decode cX12_house 124 = .ok (.getfield 24, 3) := by decide +kernel
theorem dX12_house_127 : decode cX12_house 127 = .ok (.iload 5, 2) := by decide +kernel
theorem dX12_house_129 : decode cX12_house 129 = .ok (.aload_n 0, 1) := by decide +kernel
theorem dX12_house_130 : decode cX12_house 130 = .ok (.aload_n 0, 1) := by decide +kernel
theorem dX12_house_131 : decode cX12_house 131 = .ok (.getfield 135, 3) := by decide +kernel
theorem dX12_house_134 : decode cX12_house 134 = .ok (.iconst 1, 1) := by decide +kernel
theorem dX12_house_135 : decode cX12_house 135 = .ok (.if_icmp .ne 7, 3) := by decide +kernel
theorem dX12_house_138 : decode cX12_house 138 = .ok (.iconst 1, 1) := by decide +kernel
theorem dX12_house_139 : decode cX12_house 139 = .ok (.goto 4, 3) := by decide +kernel
theorem dX12_house_142 : decode cX12_house 142 = .ok (.iconst 0, 1) := by decide +kernel
theorem dX12_house_143 : decode cX12_house 143 = .ok (.invokevirtual 147, 3) := by decide +kernel
theorem dX12_house_146 : decode cX12_house 146 = .ok (.iastore, 1) := by decide +kernel
theorem dX12_house_147 : decode cX12_house 147 = .ok (.iinc 5 1, 3) := by decide +kernel
theorem dX12_house_150 : decode cX12_house 150 = .ok (.goto (-42), 3) := by decide +kernel
theorem dX12_house_153 : decode cX12_house 153 = .ok (.aload_n 0, 1) := by decide +kernel
theorem dX12_house_154 : decode cX12_house 154 = .ok (.aload_n 0, 1) := by decide +kernel
theorem dX12_house_155 : decode cX12_house 155 = .ok (.getfield 135, 3) := by decide +kernel
theorem dX12_house_158 : decode cX12_house 158 = .ok (.iconst 2, 1) := by decide +kernel
theorem dX12_house_159 : decode cX12_house 159 = .ok (.if_icmp .ne 7, 3) := by decide +kernel
theorem dX12_house_162 : decode cX12_house 162 = .ok (.iconst 1, 1) := by decide +kernel
theorem dX12_house_163 : decode cX12_house 163 = .ok (.goto 4, 3) := by decide +kernel
theorem dX12_house_166 : decode cX12_house 166 = .ok (.iconst 0, 1) := by decide +kernel
theorem dX12_house_167 : decode cX12_house 167 = .ok (.invokevirtual 147, 3) := by decide +kernel
theorem dX12_house_170 : decode cX12_house 170 = .ok (.pop, 1) := by decide +kernel
theorem dX12_house_171 : decode cX12_house 171 = .ok (.aload_n 0, 1) := by decide +kernel
theorem dX12_house_172 : decode cX12_house 172 = .ok (.getfield 141, 3) := by decide +kernel
theorem dX12_house_175 : decode cX12_house 175 = .ok (.iconst (-1), 1) := by decide +kernel
theorem dX12_house_176 : decode cX12_house 176 = .ok (.if_icmp .ne 25, 3) := by decide +kernel
theorem dX12_house_179 : decode cX12_house 179 = .ok (.iload_n 2, 1) := by decide +kernel
theorem dX12_house_180 : decode cX12_house 180 = .ok (.iconst (-1), 1) := by decide +kernel
theorem dX12_house_181 : decode cX12_house 181 = .ok (.if_icmp .ne 15, 3) := by decide +kernel
theorem dX12_house_184 : decode cX12_house 184 = .ok (.aload_n 0, 1) := by decide +kernel
theorem dX12_house_185 : decode cX12_house 185 = .ok (.iload_n 3, 1) := by decide +kernel
theorem dX12_house_186 : decode cX12_house 186 = .ok (.invokevirtual 154, 3) := by decide +kernel
theorem dX12_house_189 : decode cX12_house 189 = .ok (.ifCond .ge 7, 3) := by decide +kernel
theorem dX12_house_192 : decode cX12_house 192 = .ok (.iload_n 1, 1) := by decide +kernel
theorem dX12_house_193 : decode cX12_house 193 = .ok (.goto 4, 3) := by decide +kernel
theorem dX12_house_196 : decode cX12_house 196 = .ok (.iload_n 2, 1) := by decide +kernel
theorem dX12_house_197 : decode cX12_house 197 = .ok (.istore_n 2, 1) := by decide +kernel
theorem dX12_house_198 : decode cX12_house 198 = .ok (.iinc 1 1, 3) := by decide +kernel
theorem dX12_house_201 : decode cX12_house 201 = .ok (.goto (-138), 3) := by decide +kernel
theorem dX12_house_204 : decode cX12_house 204 = .ok (.aload_n 0, 1) := by decide +kernel
theorem dX12_house_205 : decode cX12_house 205 = .ok (.getfield 141, 3) := by decide +kernel
theorem dX12_house_208 : decode cX12_house 208 = .ok (.iconst (-1), 1) := by decide +kernel
theorem dX12_house_209 : decode cX12_house 209 = .ok (.if_icmp .eq 11, 3) := by decide +kernel
theorem dX12_house_212 : decode cX12_house 212 = .ok (.bipush (-10), 2) := by decide +kernel
theorem dX12_house_214 : decode cX12_house 214 = .ok (.aload_n 0, 1) := by decide +kernel
theorem dX12_house_215 : decode cX12_house 215 = .ok (.getfield 141, 3) := by decide +kernel
theorem dX12_house_218 : decode cX12_house 218 = .ok (.isub, 1) := by decide +kernel
theorem dX12_house_219 : decode cX12_house 219 = .ok (.ireturn, 1) := by decide +kernel
theorem dX12_house_220 : decode cX12_house 220 = .ok (.iload_n 2, 1) := by decide +kernel
theorem dX12_house_221 : decode cX12_house 221 = .ok (.iconst (-1), 1) := by decide +kernel
theorem dX12_house_222 : decode cX12_house 222 = .ok (.if_icmp .eq 9, 3) := by decide +kernel
theorem dX12_house_225 : decode cX12_house 225 = .ok (.sipush (-1000), 3) := by decide +kernel
theorem dX12_house_228 : decode cX12_house 228 = .ok (.iload_n 2, 1) := by decide +kernel
theorem dX12_house_229 : decode cX12_house 229 = .ok (.isub, 1) := by decide +kernel
theorem dX12_house_230 : decode cX12_house 230 = .ok (.ireturn, 1) := by decide +kernel
theorem dX12_house_231 : decode cX12_house 231 = .ok (.iconst 0, 1) := by decide +kernel
theorem dX12_house_232 : decode cX12_house 232 = .ok (.istore_n 3, 1) := by decide +kernel
theorem dX12_house_233 : decode cX12_house 233 = .ok (.iload_n 3, 1) := by decide +kernel
theorem dX12_house_234 : decode cX12_house 234 = .ok (.sipush 201, 3) := by decide +kernel
theorem dX12_house_237 : decode cX12_house 237 = .ok (.if_icmp .ge 25, 3) := by decide +kernel
theorem dX12_house_240 : decode cX12_house 240 = .ok (.aload_n 0, 1) := by decide +kernel
theorem dX12_house_241 : decode cX12_house 241 = .ok (.getfield 7, 3) := by decide +kernel
theorem dX12_house_244 : decode cX12_house 244 = .ok (.iload_n 3, 1) := by decide +kernel
theorem dX12_house_245 : decode cX12_house 245 = .ok (.aload_n 0, 1) := by decide +kernel
theorem dX12_house_246 : decode cX12_house 246 = .ok (.getfield 7, 3) := by decide +kernel
theorem dX12_house_249 : decode cX12_house 249 = .ok (.sipush 741, 3) := by decide +kernel
theorem dX12_house_252 : decode cX12_house 252 = .ok (.iload_n 3, 1) := by decide +kernel
theorem dX12_house_253 : decode cX12_house 253 = .ok (.iadd, 1) := by decide +kernel
theorem dX12_house_254 : decode cX12_house 254 = .ok (.iaload, 1) := by decide +kernel
theorem dX12_house_255 : decode cX12_house 255 = .ok (.iastore, 1) := by decide +kernel
theorem dX12_house_256 : decode cX12_house 256 = .ok (.iinc 3 1, 3) := by decide +kernel
theorem dX12_house_259 : decode cX12_house 259 = .ok (.goto (-26), 3) := by decide +kernel
theorem dX12_house_262 : decode cX12_house 262 = .ok (.iload_n 1, 1) := by decide +kernel
theorem dX12_house_263 : decode cX12_house 263 = .ok (.ireturn, 1) := by decide +kernel
theorem bX12_house_0 {Z : ZT} {X : XT} {μ : Mu} (E : Ent Z X mX12_house 0 0)  
    (k : JS Z X 5 [(0, .ref (Z.2.2.1 + 455))] [] (uR μ 455 (upd (μ 455) 5 (nI 0)))) :
    JS Z X 0 [(0, .ref (Z.2.2.1 + 455))] [] μ := by
  refine J_aload_n E dX12_house_0 rfl ?_
  refine J_iconst (v := nI 0) E dX12_house_1 rfl ?_
  refine S_puti E dX12_house_2 fs_X12_122 fp_X12_5 sh455 rfl ?_
  exact k
theorem bX12_house_5 {Z : ZT} {X : XT} {μ : Mu} (E : Ent Z X mX12_house 0 0)  
    (k : JS Z X 10 [(0, .ref (Z.2.2.1 + 455))] [] (uR μ 455 (upd (μ 455) 9 (-1)))) :
    JS Z X 5 [(0, .ref (Z.2.2.1 + 455))] [] μ := by
  refine J_aload_n E dX12_house_5 rfl ?_
  refine J_iconst (v := -1) E dX12_house_6 rfl ?_
  refine S_puti E dX12_house_7 fs_X12_141 fp_X12_9 sh455 rfl ?_
  exact k
theorem bX12_house_10 {Z : ZT} {X : XT} {μ : Mu} (E : Ent Z X mX12_house 0 0)  (s1_ : vp_in (nI 741) 988)
    (k : JS Z X 19 [(0, .ref (Z.2.2.1 + 455))] [] (uR μ 456 (upd (μ 456) (ix (nI 741)) (nI 0)))) :
    JS Z X 10 [(0, .ref (Z.2.2.1 + 455))] [] μ := by
  refine J_aload_n E dX12_house_10 rfl ?_
  refine S_get (ci := 12) (q := 0) (v := .ref (Z.2.2.1 + 456)) E dX12_house_11 fs_X12_7 sh455 rfl ?_
  refine J_sipush (v := nI 741) E dX12_house_14 rfl ?_
  refine J_iconst (v := nI 0) E dX12_house_17 rfl ?_
  refine S_iast E dX12_house_18 sh456 s1_ ?_
  exact k
theorem bX12_house_19 {Z : ZT} {X : XT} {μ : Mu} (E : Ent Z X mX12_house 0 0)  (s1_ : vp_in (nI 852) 988)
    (k : JS Z X 28 [(0, .ref (Z.2.2.1 + 455))] [] (uR μ 456 (upd (μ 456) (ix (nI 852)) (nI 0)))) :
    JS Z X 19 [(0, .ref (Z.2.2.1 + 455))] [] μ := by
  refine J_aload_n E dX12_house_19 rfl ?_
  refine S_get (ci := 12) (q := 0) (v := .ref (Z.2.2.1 + 456)) E dX12_house_20 fs_X12_7 sh455 rfl ?_
  refine J_sipush (v := nI 852) E dX12_house_23 rfl ?_
  refine J_iconst (v := nI 0) E dX12_house_26 rfl ?_
  refine S_iast E dX12_house_27 sh456 s1_ ?_
  exact k
theorem bX12_house_28 {Z : ZT} {X : XT} {μ : Mu} (E : Ent Z X mX12_house 0 0)  (s1_ : vp_in (nI 895) 988)
    (k : JS Z X 37 [(0, .ref (Z.2.2.1 + 455))] [] (uR μ 456 (upd (μ 456) (ix (nI 895)) (nI 0)))) :
    JS Z X 28 [(0, .ref (Z.2.2.1 + 455))] [] μ := by
  refine J_aload_n E dX12_house_28 rfl ?_
  refine S_get (ci := 12) (q := 0) (v := .ref (Z.2.2.1 + 456)) E dX12_house_29 fs_X12_7 sh455 rfl ?_
  refine J_sipush (v := nI 895) E dX12_house_32 rfl ?_
  refine J_iconst (v := nI 0) E dX12_house_35 rfl ?_
  refine S_iast E dX12_house_36 sh456 s1_ ?_
  exact k
theorem bX12_house_37 {Z : ZT} {X : XT} {μ : Mu} (E : Ent Z X mX12_house 0 0)  (s1_ : vp_in (nI 928) 988)
    (k : JS Z X 46 [(0, .ref (Z.2.2.1 + 455))] [] (uR μ 456 (upd (μ 456) (ix (nI 928)) (nI 0)))) :
    JS Z X 37 [(0, .ref (Z.2.2.1 + 455))] [] μ := by
  refine J_aload_n E dX12_house_37 rfl ?_
  refine S_get (ci := 12) (q := 0) (v := .ref (Z.2.2.1 + 456)) E dX12_house_38 fs_X12_7 sh455 rfl ?_
  refine J_sipush (v := nI 928) E dX12_house_41 rfl ?_
  refine J_iconst (v := nI 0) E dX12_house_44 rfl ?_
  refine S_iast E dX12_house_45 sh456 s1_ ?_
  exact k
theorem bX12_house_46 {Z : ZT} {X : XT} {μ : Mu} (E : Ent Z X mX12_house 0 0)  (s1_ : vp_in (nI 929) 988)
    (k : JS Z X 55 [(0, .ref (Z.2.2.1 + 455))] [] (uR μ 456 (upd (μ 456) (ix (nI 929)) (nI 0)))) :
    JS Z X 46 [(0, .ref (Z.2.2.1 + 455))] [] μ := by
  refine J_aload_n E dX12_house_46 rfl ?_
  refine S_get (ci := 12) (q := 0) (v := .ref (Z.2.2.1 + 456)) E dX12_house_47 fs_X12_7 sh455 rfl ?_
  refine J_sipush (v := nI 929) E dX12_house_50 rfl ?_
  refine J_iconst (v := nI 0) E dX12_house_53 rfl ?_
  refine S_iast E dX12_house_54 sh456 s1_ ?_
  exact k
theorem bX12_house_55 {Z : ZT} {X : XT} {μ : Mu} (E : Ent Z X mX12_house 0 0) {p : Mu → Prop} 
    (c : CtrS Z mX12_next [.ref (Z.2.2.1 + 455)] μ (rV p)) (k : ∀ μ1, p μ1 → JS Z X 63 [(0, .ref (Z.2.2.1 + 455)), (1, .int (nI 0)), (2, .int (-1))] [] μ1) :
    JS Z X 55 [(0, .ref (Z.2.2.1 + 455))] [] μ := by
  refine J_iconst (v := nI 0) E dX12_house_55 rfl ?_
  refine J_istore_n (lv' := [(0, .ref (Z.2.2.1 + 455)), (1, .int (nI 0))]) E dX12_house_56 (Nat.le_of_ble_eq_true rfl) rfl ?_
  refine J_iconst (v := -1) E dX12_house_57 rfl ?_
  refine J_istore_n (lv' := [(0, .ref (Z.2.2.1 + 455)), (1, .int (nI 0)), (2, .int (-1))]) E dX12_house_58 (Nat.le_of_ble_eq_true rfl) rfl ?_
  refine J_aload_n E dX12_house_59 rfl ?_
  refine S_callV (As := []) (rest := []) E dX12_house_60 c kX12_next ⟨Nat.le_of_ble_eq_true rfl, Nat.le_of_ble_eq_true rfl⟩ rfl (Nat.le_of_ble_eq_true rfl) sh455 rfl rfl w6_162 w6_164 wp_42 (fun r_ μ1 hp_ => ?_)
  obtain ⟨rfl, hp_⟩ := hp_
  exact k μ1 hp_
theorem bX12_house_63 {Z : ZT} {X : XT} {μ : Mu} {a1 : Int32} {a2 : Int32} (E : Ent Z X mX12_house 0 0)  
    (kt : ¬ (μ 455 9) = (-1) → JS Z X 204 [(0, .ref (Z.2.2.1 + 455)), (1, .int a1), (2, .int a2)] [] μ) (kf : (μ 455 9) = (-1) → JS Z X 71 [(0, .ref (Z.2.2.1 + 455)), (1, .int a1), (2, .int a2)] [] μ) :
    JS Z X 63 [(0, .ref (Z.2.2.1 + 455)), (1, .int a1), (2, .int a2)] [] μ := by
  refine J_aload_n E dX12_house_63 rfl ?_
  refine S_get (ci := 12) (q := 9) (v := .int (μ 455 9)) E dX12_house_64 fs_X12_141 sh455 rfl ?_
  refine J_iconst (v := -1) E dX12_house_67 rfl ?_
  refine J_icmp_ne (tgt := 204) E dX12_house_68 (by decide) (fun c => ?_) (fun c => ?_)
  · exact kt c
  · exact kf c
theorem bX12_house_71 {Z : ZT} {X : XT} {μ : Mu} {a1 : Int32} {a2 : Int32} (E : Ent Z X mX12_house 0 0)  
    (kt : (μ 455 7) = 0 → JS Z X 204 [(0, .ref (Z.2.2.1 + 455)), (1, .int a1), (2, .int a2)] [] μ) (kf : ¬ ((μ 455 7) = 0) → JS Z X 78 [(0, .ref (Z.2.2.1 + 455)), (1, .int a1), (2, .int a2)] [] μ) :
    JS Z X 71 [(0, .ref (Z.2.2.1 + 455)), (1, .int a1), (2, .int a2)] [] μ := by
  refine J_aload_n E dX12_house_71 rfl ?_
  refine S_get (ci := 12) (q := 7) (v := .int (μ 455 7)) E dX12_house_72 fs_X12_135 sh455 rfl ?_
  refine J_if_eq (tgt := 204) E dX12_house_75 (by decide) (fun c => ?_) (fun c => ?_)
  · exact kt c
  · exact kf c
theorem bX12_house_78 {Z : ZT} {X : XT} {μ : Mu} {a1 : Int32} {a2 : Int32} (E : Ent Z X mX12_house 0 0)  
    (kt : (μ 455 7) < (nI 10) → JS Z X 94 [(0, .ref (Z.2.2.1 + 455)), (1, .int a1), (2, .int a2), (3, .int (μ 455 7))] [.ref (Z.2.2.1 + 455)] μ) (kf : ¬ ((μ 455 7) < (nI 10)) → JS Z X 90 [(0, .ref (Z.2.2.1 + 455)), (1, .int a1), (2, .int a2), (3, .int (μ 455 7))] [.ref (Z.2.2.1 + 455)] μ) :
    JS Z X 78 [(0, .ref (Z.2.2.1 + 455)), (1, .int a1), (2, .int a2)] [] μ := by
  refine J_aload_n E dX12_house_78 rfl ?_
  refine S_get (ci := 12) (q := 7) (v := .int (μ 455 7)) E dX12_house_79 fs_X12_135 sh455 rfl ?_
  refine J_istore_n (lv' := [(0, .ref (Z.2.2.1 + 455)), (1, .int a1), (2, .int a2), (3, .int (μ 455 7))]) E dX12_house_82 (Nat.le_of_ble_eq_true rfl) rfl ?_
  refine J_aload_n E dX12_house_83 rfl ?_
  refine J_iload_n E dX12_house_84 rfl ?_
  refine J_bipush (v := nI 10) E dX12_house_85 rfl ?_
  refine J_icmp_lt (tgt := 94) E dX12_house_87 (by decide) (fun c => ?_) (fun c => ?_)
  · exact kt c
  · exact kf c
theorem bX12_house_90 {Z : ZT} {X : XT} {μ : Mu} {a1 : Int32} {a2 : Int32} {a3 : Int32} (E : Ent Z X mX12_house 0 0)  
    (k : JS Z X 95 [(0, .ref (Z.2.2.1 + 455)), (1, .int a1), (2, .int a2), (3, .int a3)] [.int (nI 1), .ref (Z.2.2.1 + 455)] μ) :
    JS Z X 90 [(0, .ref (Z.2.2.1 + 455)), (1, .int a1), (2, .int a2), (3, .int a3)] [.ref (Z.2.2.1 + 455)] μ := by
  refine J_iconst (v := nI 1) E dX12_house_90 rfl ?_
  refine J_goto (tgt := 95) E dX12_house_91 (by decide) ?_
  exact k
theorem bX12_house_94 {Z : ZT} {X : XT} {μ : Mu} {a1 : Int32} {a2 : Int32} {a3 : Int32} (E : Ent Z X mX12_house 0 0)  
    (k : JS Z X 95 [(0, .ref (Z.2.2.1 + 455)), (1, .int a1), (2, .int a2), (3, .int a3)] [.int (nI 0), .ref (Z.2.2.1 + 455)] μ) :
    JS Z X 94 [(0, .ref (Z.2.2.1 + 455)), (1, .int a1), (2, .int a2), (3, .int a3)] [.ref (Z.2.2.1 + 455)] μ := by
  refine J_iconst (v := nI 0) E dX12_house_94 rfl ?_
  exact k
theorem bX12_house_95 {Z : ZT} {X : XT} {μ : Mu} {a1 : Int32} {a2 : Int32} {a3 : Int32} {s1 : Int32} (E : Ent Z X mX12_house 0 0) {p : Int32 → Mu → Prop} 
    (c : CtrS Z mX12_due [.ref (Z.2.2.1 + 455), .int s1] μ (rI p)) (k : ∀ v μ1, p v μ1 → JS Z X 98 [(0, .ref (Z.2.2.1 + 455)), (1, .int a1), (2, .int a2), (3, .int a3)] [.int v] μ1) :
    JS Z X 95 [(0, .ref (Z.2.2.1 + 455)), (1, .int a1), (2, .int a2), (3, .int a3)] [.int s1, .ref (Z.2.2.1 + 455)] μ := by
  refine S_callV (As := [.int s1]) (rest := []) E dX12_house_95 c kX12_due ⟨Nat.le_of_ble_eq_true rfl, Nat.le_of_ble_eq_true rfl⟩ rfl (Nat.le_of_ble_eq_true rfl) sh455 rfl rfl w6_173 w6_175 wp_44 (fun r_ μ1 hp_ => ?_)
  obtain ⟨v, rfl, hp_⟩ := hp_
  exact k v μ1 hp_
theorem bX12_house_98 {Z : ZT} {X : XT} {μ : Mu} {a1 : Int32} {a2 : Int32} {a3 : Int32} {s0 : Int32} (E : Ent Z X mX12_house 0 0) {p : Int32 → Mu → Prop} 
    (c : CtrS Z mX12_numbersOf [.int a3] μ (rI p)) (k : ∀ v μ1, p v μ1 → JS Z X 103 [(0, .ref (Z.2.2.1 + 455)), (1, .int a1), (2, .int a2), (3, .int a3)] [.int v] μ1) :
    JS Z X 98 [(0, .ref (Z.2.2.1 + 455)), (1, .int a1), (2, .int a2), (3, .int a3)] [.int s0] μ := by
  refine J_pop E dX12_house_98 rfl ?_
  refine J_iload_n E dX12_house_99 rfl ?_
  refine S_callS (As := [.int a3]) (rest := []) E dX12_house_100 c kX12_numbersOf ⟨Nat.le_of_ble_eq_true rfl, Nat.le_of_ble_eq_true rfl⟩ rfl (Nat.le_of_ble_eq_true rfl) w6_177 w6_178 (fun r_ μ1 hp_ => ?_)
  obtain ⟨v, rfl, hp_⟩ := hp_
  exact k v μ1 hp_
theorem bX12_house_103 {Z : ZT} {X : XT} {μ : Mu} {a1 : Int32} {a2 : Int32} {a3 : Int32} {s0 : Int32} (E : Ent Z X mX12_house 0 0)  
    (k : JS Z X 108 [(0, .ref (Z.2.2.1 + 455)), (1, .int a1), (2, .int a2), (3, .int a3), (4, .int s0), (5, .int (nI 0))] [] μ) :
    JS Z X 103 [(0, .ref (Z.2.2.1 + 455)), (1, .int a1), (2, .int a2), (3, .int a3)] [.int s0] μ := by
  refine J_istore (lv' := [(0, .ref (Z.2.2.1 + 455)), (1, .int a1), (2, .int a2), (3, .int a3), (4, .int s0)]) E dX12_house_103 (Nat.le_of_ble_eq_true rfl) rfl ?_
  refine J_iconst (v := nI 0) E dX12_house_105 rfl ?_
  refine J_istore (lv' := [(0, .ref (Z.2.2.1 + 455)), (1, .int a1), (2, .int a2), (3, .int a3), (4, .int s0), (5, .int (nI 0))]) E dX12_house_106 (Nat.le_of_ble_eq_true rfl) rfl ?_
  exact k
theorem bX12_house_108 {Z : ZT} {X : XT} {μ : Mu} {a1 : Int32} {a2 : Int32} {a3 : Int32} {a4 : Int32} {a5 : Int32} (E : Ent Z X mX12_house 0 0)  
    (kt : a4 ≤ a5 → JS Z X 153 [(0, .ref (Z.2.2.1 + 455)), (1, .int a1), (2, .int a2), (3, .int a3)] [] μ) (kf : ¬ (a4 ≤ a5) → JS Z X 115 [(0, .ref (Z.2.2.1 + 455)), (1, .int a1), (2, .int a2), (3, .int a3), (4, .int a4), (5, .int a5)] [] μ) :
    JS Z X 108 [(0, .ref (Z.2.2.1 + 455)), (1, .int a1), (2, .int a2), (3, .int a3), (4, .int a4), (5, .int a5)] [] μ := by
  refine J_iload E dX12_house_108 rfl ?_
  refine J_iload E dX12_house_110 rfl ?_
  refine J_icmp_ge (tgt := 153) E dX12_house_112 (by decide) (fun c => ?_) (fun c => ?_)
  · refine J.weak [0, 1, 2, 3] rfl ?_
    exact kt c
  · exact kf c
theorem bX12_house_115 {Z : ZT} {X : XT} {μ : Mu} {a1 : Int32} {a2 : Int32} {a3 : Int32} {a4 : Int32} {a5 : Int32} (E : Ent Z X mX12_house 0 0)  
    (kt : ¬ (μ 455 9) = (-1) → JS Z X 153 [(0, .ref (Z.2.2.1 + 455)), (1, .int a1), (2, .int a2), (3, .int a3)] [] μ) (kf : (μ 455 9) = (-1) → JS Z X 123 [(0, .ref (Z.2.2.1 + 455)), (1, .int a1), (2, .int a2), (3, .int a3), (4, .int a4), (5, .int a5)] [] μ) :
    JS Z X 115 [(0, .ref (Z.2.2.1 + 455)), (1, .int a1), (2, .int a2), (3, .int a3), (4, .int a4), (5, .int a5)] [] μ := by
  refine J_aload_n E dX12_house_115 rfl ?_
  refine S_get (ci := 12) (q := 9) (v := .int (μ 455 9)) E dX12_house_116 fs_X12_141 sh455 rfl ?_
  refine J_iconst (v := -1) E dX12_house_119 rfl ?_
  refine J_icmp_ne (tgt := 153) E dX12_house_120 (by decide) (fun c => ?_) (fun c => ?_)
  · refine J.weak [0, 1, 2, 3] rfl ?_
    exact kt c
  · exact kf c
theorem bX12_house_123 {Z : ZT} {X : XT} {μ : Mu} {a1 : Int32} {a2 : Int32} {a3 : Int32} {a4 : Int32} {a5 : Int32} (E : Ent Z X mX12_house 0 0)  
    (kt : ¬ (μ 455 7) = (nI 1) → JS Z X 142 [(0, .ref (Z.2.2.1 + 455)), (1, .int a1), (2, .int a2), (3, .int a3), (4, .int a4), (5, .int a5)] [.ref (Z.2.2.1 + 455), .int a5, .ref (Z.2.2.1 + 460)] μ) (kf : (μ 455 7) = (nI 1) → JS Z X 138 [(0, .ref (Z.2.2.1 + 455)), (1, .int a1), (2, .int a2), (3, .int a3), (4, .int a4), (5, .int a5)] [.ref (Z.2.2.1 + 455), .int a5, .ref (Z.2.2.1 + 460)] μ) :
    JS Z X 123 [(0, .ref (Z.2.2.1 + 455)), (1, .int a1), (2, .int a2), (3, .int a3), (4, .int a4), (5, .int a5)] [] μ := by
  refine J_aload_n E dX12_house_123 rfl ?_
  refine S_get (ci := 12) (q := 10) (v := .ref (Z.2.2.1 + 460)) E dX12_house_124 fs_X12_24 sh455 rfl ?_
  refine J_iload E dX12_house_127 rfl ?_
  refine J_aload_n E dX12_house_129 rfl ?_
  refine J_aload_n E dX12_house_130 rfl ?_
  refine S_get (ci := 12) (q := 7) (v := .int (μ 455 7)) E dX12_house_131 fs_X12_135 sh455 rfl ?_
  refine J_iconst (v := nI 1) E dX12_house_134 rfl ?_
  refine J_icmp_ne (tgt := 142) E dX12_house_135 (by decide) (fun c => ?_) (fun c => ?_)
  · exact kt c
  · exact kf c
theorem bX12_house_138 {Z : ZT} {X : XT} {μ : Mu} {a1 : Int32} {a2 : Int32} {a3 : Int32} {a4 : Int32} {a5 : Int32} {s0 : Nat} {s1 : Int32} (E : Ent Z X mX12_house 0 0) (hs0 : SH s0 = .inr (0, 5)) 
    (k : JS Z X 143 [(0, .ref (Z.2.2.1 + 455)), (1, .int a1), (2, .int a2), (3, .int a3), (4, .int a4), (5, .int a5)] [.int (nI 1), .ref (Z.2.2.1 + 455), .int s1, .ref (Z.2.2.1 + s0)] μ) :
    JS Z X 138 [(0, .ref (Z.2.2.1 + 455)), (1, .int a1), (2, .int a2), (3, .int a3), (4, .int a4), (5, .int a5)] [.ref (Z.2.2.1 + 455), .int s1, .ref (Z.2.2.1 + s0)] μ := by
  refine J_iconst (v := nI 1) E dX12_house_138 rfl ?_
  refine J_goto (tgt := 143) E dX12_house_139 (by decide) ?_
  exact k
theorem bX12_house_142 {Z : ZT} {X : XT} {μ : Mu} {a1 : Int32} {a2 : Int32} {a3 : Int32} {a4 : Int32} {a5 : Int32} {s0 : Nat} {s1 : Int32} (E : Ent Z X mX12_house 0 0) (hs0 : SH s0 = .inr (0, 5)) 
    (k : JS Z X 143 [(0, .ref (Z.2.2.1 + 455)), (1, .int a1), (2, .int a2), (3, .int a3), (4, .int a4), (5, .int a5)] [.int (nI 0), .ref (Z.2.2.1 + 455), .int s1, .ref (Z.2.2.1 + s0)] μ) :
    JS Z X 142 [(0, .ref (Z.2.2.1 + 455)), (1, .int a1), (2, .int a2), (3, .int a3), (4, .int a4), (5, .int a5)] [.ref (Z.2.2.1 + 455), .int s1, .ref (Z.2.2.1 + s0)] μ := by
  refine J_iconst (v := nI 0) E dX12_house_142 rfl ?_
  exact k
theorem bX12_house_143 {Z : ZT} {X : XT} {μ : Mu} {a1 : Int32} {a2 : Int32} {a3 : Int32} {a4 : Int32} {a5 : Int32} {s0 : Nat} {s1 : Int32} {s3 : Int32} (E : Ent Z X mX12_house 0 0) (hs0 : SH s0 = .inr (0, 5)) {p : Int32 → Mu → Prop} 
    (c : CtrS Z mX12_due [.ref (Z.2.2.1 + 455), .int s3] μ (rI p)) (k : ∀ v μ1, p v μ1 → JS Z X 146 [(0, .ref (Z.2.2.1 + 455)), (1, .int a1), (2, .int a2), (3, .int a3), (4, .int a4), (5, .int a5)] [.int v, .int s1, .ref (Z.2.2.1 + s0)] μ1) :
    JS Z X 143 [(0, .ref (Z.2.2.1 + 455)), (1, .int a1), (2, .int a2), (3, .int a3), (4, .int a4), (5, .int a5)] [.int s3, .ref (Z.2.2.1 + 455), .int s1, .ref (Z.2.2.1 + s0)] μ := by
  refine S_callV (As := [.int s3]) (rest := [.int s1, .ref (Z.2.2.1 + s0)]) E dX12_house_143 c kX12_due ⟨Nat.le_of_ble_eq_true rfl, Nat.le_of_ble_eq_true rfl⟩ rfl (Nat.le_of_ble_eq_true rfl) sh455 rfl rfl w6_173 w6_175 wp_44 (fun r_ μ1 hp_ => ?_)
  obtain ⟨v, rfl, hp_⟩ := hp_
  exact k v μ1 hp_
theorem bX12_house_146 {Z : ZT} {X : XT} {μ : Mu} {a1 : Int32} {a2 : Int32} {a3 : Int32} {a4 : Int32} {a5 : Int32} {s0 : Nat} {s1 : Int32} {s2 : Int32} (E : Ent Z X mX12_house 0 0) (hs0 : SH s0 = .inr (0, 5)) (s1_ : vp_in s1 5)
    (k : JS Z X 147 [(0, .ref (Z.2.2.1 + 455)), (1, .int a1), (2, .int a2), (3, .int a3), (4, .int a4), (5, .int a5)] [] (uR μ s0 (upd (μ s0) (ix s1) s2))) :
    JS Z X 146 [(0, .ref (Z.2.2.1 + 455)), (1, .int a1), (2, .int a2), (3, .int a3), (4, .int a4), (5, .int a5)] [.int s2, .int s1, .ref (Z.2.2.1 + s0)] μ := by
  refine S_iast E dX12_house_146 hs0 s1_ ?_
  exact k
theorem bX12_house_147 {Z : ZT} {X : XT} {μ : Mu} {a1 : Int32} {a2 : Int32} {a3 : Int32} {a4 : Int32} {a5 : Int32} (E : Ent Z X mX12_house 0 0)  
    (k : JS Z X 108 [(0, .ref (Z.2.2.1 + 455)), (1, .int a1), (2, .int a2), (3, .int a3), (4, .int a4), (5, .int (a5 + nI 1))] [] μ) :
    JS Z X 147 [(0, .ref (Z.2.2.1 + 455)), (1, .int a1), (2, .int a2), (3, .int a3), (4, .int a4), (5, .int a5)] [] μ := by
  refine J_iinc (v := a5 + nI 1) (lv' := [(0, .ref (Z.2.2.1 + 455)), (1, .int a1), (2, .int a2), (3, .int a3), (4, .int a4), (5, .int (a5 + nI 1))]) E dX12_house_147 rfl rfl (Nat.le_of_ble_eq_true rfl) rfl ?_
  refine J_goto (tgt := 108) E dX12_house_150 (by decide) ?_
  exact k
theorem bX12_house_153 {Z : ZT} {X : XT} {μ : Mu} {a1 : Int32} {a2 : Int32} {a3 : Int32} (E : Ent Z X mX12_house 0 0)  
    (kt : ¬ (μ 455 7) = (nI 2) → JS Z X 166 [(0, .ref (Z.2.2.1 + 455)), (1, .int a1), (2, .int a2), (3, .int a3)] [.ref (Z.2.2.1 + 455)] μ) (kf : (μ 455 7) = (nI 2) → JS Z X 162 [(0, .ref (Z.2.2.1 + 455)), (1, .int a1), (2, .int a2), (3, .int a3)] [.ref (Z.2.2.1 + 455)] μ) :
    JS Z X 153 [(0, .ref (Z.2.2.1 + 455)), (1, .int a1), (2, .int a2), (3, .int a3)] [] μ := by
  refine J_aload_n E dX12_house_153 rfl ?_
  refine J_aload_n E dX12_house_154 rfl ?_
  refine S_get (ci := 12) (q := 7) (v := .int (μ 455 7)) E dX12_house_155 fs_X12_135 sh455 rfl ?_
  refine J_iconst (v := nI 2) E dX12_house_158 rfl ?_
  refine J_icmp_ne (tgt := 166) E dX12_house_159 (by decide) (fun c => ?_) (fun c => ?_)
  · exact kt c
  · exact kf c
theorem bX12_house_162 {Z : ZT} {X : XT} {μ : Mu} {a1 : Int32} {a2 : Int32} {a3 : Int32} (E : Ent Z X mX12_house 0 0)  
    (k : JS Z X 167 [(0, .ref (Z.2.2.1 + 455)), (1, .int a1), (2, .int a2), (3, .int a3)] [.int (nI 1), .ref (Z.2.2.1 + 455)] μ) :
    JS Z X 162 [(0, .ref (Z.2.2.1 + 455)), (1, .int a1), (2, .int a2), (3, .int a3)] [.ref (Z.2.2.1 + 455)] μ := by
  refine J_iconst (v := nI 1) E dX12_house_162 rfl ?_
  refine J_goto (tgt := 167) E dX12_house_163 (by decide) ?_
  exact k
theorem bX12_house_166 {Z : ZT} {X : XT} {μ : Mu} {a1 : Int32} {a2 : Int32} {a3 : Int32} (E : Ent Z X mX12_house 0 0)  
    (k : JS Z X 167 [(0, .ref (Z.2.2.1 + 455)), (1, .int a1), (2, .int a2), (3, .int a3)] [.int (nI 0), .ref (Z.2.2.1 + 455)] μ) :
    JS Z X 166 [(0, .ref (Z.2.2.1 + 455)), (1, .int a1), (2, .int a2), (3, .int a3)] [.ref (Z.2.2.1 + 455)] μ := by
  refine J_iconst (v := nI 0) E dX12_house_166 rfl ?_
  exact k
theorem bX12_house_167 {Z : ZT} {X : XT} {μ : Mu} {a1 : Int32} {a2 : Int32} {a3 : Int32} {s1 : Int32} (E : Ent Z X mX12_house 0 0) {p : Int32 → Mu → Prop} 
    (c : CtrS Z mX12_due [.ref (Z.2.2.1 + 455), .int s1] μ (rI p)) (k : ∀ v μ1, p v μ1 → JS Z X 170 [(0, .ref (Z.2.2.1 + 455)), (1, .int a1), (2, .int a2), (3, .int a3)] [.int v] μ1) :
    JS Z X 167 [(0, .ref (Z.2.2.1 + 455)), (1, .int a1), (2, .int a2), (3, .int a3)] [.int s1, .ref (Z.2.2.1 + 455)] μ := by
  refine S_callV (As := [.int s1]) (rest := []) E dX12_house_167 c kX12_due ⟨Nat.le_of_ble_eq_true rfl, Nat.le_of_ble_eq_true rfl⟩ rfl (Nat.le_of_ble_eq_true rfl) sh455 rfl rfl w6_173 w6_175 wp_44 (fun r_ μ1 hp_ => ?_)
  obtain ⟨v, rfl, hp_⟩ := hp_
  exact k v μ1 hp_
theorem bX12_house_170 {Z : ZT} {X : XT} {μ : Mu} {a1 : Int32} {a2 : Int32} {a3 : Int32} {s0 : Int32} (E : Ent Z X mX12_house 0 0)  
    (kt : ¬ (μ 455 9) = (-1) → JS Z X 201 [(0, .ref (Z.2.2.1 + 455)), (1, .int a1), (2, .int a2)] [] μ) (kf : (μ 455 9) = (-1) → JS Z X 179 [(0, .ref (Z.2.2.1 + 455)), (1, .int a1), (2, .int a2), (3, .int a3)] [] μ) :
    JS Z X 170 [(0, .ref (Z.2.2.1 + 455)), (1, .int a1), (2, .int a2), (3, .int a3)] [.int s0] μ := by
  refine J_pop E dX12_house_170 rfl ?_
  refine J_aload_n E dX12_house_171 rfl ?_
  refine S_get (ci := 12) (q := 9) (v := .int (μ 455 9)) E dX12_house_172 fs_X12_141 sh455 rfl ?_
  refine J_iconst (v := -1) E dX12_house_175 rfl ?_
  refine J_icmp_ne (tgt := 201) E dX12_house_176 (by decide) (fun c => ?_) (fun c => ?_)
  · refine J.weak [0, 1, 2] rfl ?_
    exact kt c
  · exact kf c
theorem bX12_house_179 {Z : ZT} {X : XT} {μ : Mu} {a1 : Int32} {a2 : Int32} {a3 : Int32} (E : Ent Z X mX12_house 0 0)  
    (kt : ¬ a2 = (-1) → JS Z X 196 [(0, .ref (Z.2.2.1 + 455)), (1, .int a1), (2, .int a2)] [] μ) (kf : a2 = (-1) → JS Z X 184 [(0, .ref (Z.2.2.1 + 455)), (1, .int a1), (2, .int a2), (3, .int a3)] [] μ) :
    JS Z X 179 [(0, .ref (Z.2.2.1 + 455)), (1, .int a1), (2, .int a2), (3, .int a3)] [] μ := by
  refine J_iload_n E dX12_house_179 rfl ?_
  refine J_iconst (v := -1) E dX12_house_180 rfl ?_
  refine J_icmp_ne (tgt := 196) E dX12_house_181 (by decide) (fun c => ?_) (fun c => ?_)
  · refine J.weak [0, 1, 2] rfl ?_
    exact kt c
  · exact kf c
theorem bX12_house_184 {Z : ZT} {X : XT} {μ : Mu} {a1 : Int32} {a2 : Int32} {a3 : Int32} (E : Ent Z X mX12_house 0 0) {p : Int32 → Mu → Prop} 
    (c : CtrS Z mX12_build [.ref (Z.2.2.1 + 455), .int a3] μ (rI p)) (k : ∀ v μ1, p v μ1 → JS Z X 189 [(0, .ref (Z.2.2.1 + 455)), (1, .int a1), (2, .int a2)] [.int v] μ1) :
    JS Z X 184 [(0, .ref (Z.2.2.1 + 455)), (1, .int a1), (2, .int a2), (3, .int a3)] [] μ := by
  refine J_aload_n E dX12_house_184 rfl ?_
  refine J_iload_n E dX12_house_185 rfl ?_
  refine S_callV (As := [.int a3]) (rest := []) E dX12_house_186 c kX12_build ⟨Nat.le_of_ble_eq_true rfl, Nat.le_of_ble_eq_true rfl⟩ rfl (Nat.le_of_ble_eq_true rfl) sh455 rfl rfl w6_180 w6_182 wp_45 (fun r_ μ1 hp_ => ?_)
  obtain ⟨v, rfl, hp_⟩ := hp_
  refine J.weak [0, 1, 2] rfl ?_
  exact k v μ1 hp_
theorem bX12_house_189 {Z : ZT} {X : XT} {μ : Mu} {a1 : Int32} {a2 : Int32} {s0 : Int32} (E : Ent Z X mX12_house 0 0)  
    (kt : 0 ≤ s0 → JS Z X 196 [(0, .ref (Z.2.2.1 + 455)), (1, .int a1), (2, .int a2)] [] μ) (kf : ¬ (0 ≤ s0) → JS Z X 192 [(0, .ref (Z.2.2.1 + 455)), (1, .int a1)] [] μ) :
    JS Z X 189 [(0, .ref (Z.2.2.1 + 455)), (1, .int a1), (2, .int a2)] [.int s0] μ := by
  refine J_if_ge (tgt := 196) E dX12_house_189 (by decide) (fun c => ?_) (fun c => ?_)
  · exact kt c
  · refine J.weak [0, 1] rfl ?_
    exact kf c
theorem bX12_house_192 {Z : ZT} {X : XT} {μ : Mu} {a1 : Int32} (E : Ent Z X mX12_house 0 0)  
    (k : JS Z X 197 [(0, .ref (Z.2.2.1 + 455)), (1, .int a1)] [.int a1] μ) :
    JS Z X 192 [(0, .ref (Z.2.2.1 + 455)), (1, .int a1)] [] μ := by
  refine J_iload_n E dX12_house_192 rfl ?_
  refine J_goto (tgt := 197) E dX12_house_193 (by decide) ?_
  exact k
theorem bX12_house_196 {Z : ZT} {X : XT} {μ : Mu} {a1 : Int32} {a2 : Int32} (E : Ent Z X mX12_house 0 0)  
    (k : JS Z X 197 [(0, .ref (Z.2.2.1 + 455)), (1, .int a1)] [.int a2] μ) :
    JS Z X 196 [(0, .ref (Z.2.2.1 + 455)), (1, .int a1), (2, .int a2)] [] μ := by
  refine J_iload_n E dX12_house_196 rfl ?_
  refine J.weak [0, 1] rfl ?_
  exact k
theorem bX12_house_197 {Z : ZT} {X : XT} {μ : Mu} {a1 : Int32} {s0 : Int32} (E : Ent Z X mX12_house 0 0)  
    (k : JS Z X 201 [(0, .ref (Z.2.2.1 + 455)), (1, .int (a1 + nI 1)), (2, .int s0)] [] μ) :
    JS Z X 197 [(0, .ref (Z.2.2.1 + 455)), (1, .int a1)] [.int s0] μ := by
  refine J_istore_n (lv' := [(0, .ref (Z.2.2.1 + 455)), (1, .int a1), (2, .int s0)]) E dX12_house_197 (Nat.le_of_ble_eq_true rfl) rfl ?_
  refine J_iinc (v := a1 + nI 1) (lv' := [(0, .ref (Z.2.2.1 + 455)), (1, .int (a1 + nI 1)), (2, .int s0)]) E dX12_house_198 rfl rfl (Nat.le_of_ble_eq_true rfl) rfl ?_
  exact k
theorem bX12_house_201 {Z : ZT} {X : XT} {μ : Mu} {a1 : Int32} {a2 : Int32} (E : Ent Z X mX12_house 0 0)  
    (k : JS Z X 63 [(0, .ref (Z.2.2.1 + 455)), (1, .int a1), (2, .int a2)] [] μ) :
    JS Z X 201 [(0, .ref (Z.2.2.1 + 455)), (1, .int a1), (2, .int a2)] [] μ := by
  refine J_goto (tgt := 63) E dX12_house_201 (by decide) ?_
  exact k
theorem bX12_house_204 {Z : ZT} {X : XT} {μ : Mu} {a1 : Int32} {a2 : Int32} (E : Ent Z X mX12_house 0 0)  
    (kt : (μ 455 9) = (-1) → JS Z X 220 [(0, .ref (Z.2.2.1 + 455)), (1, .int a1), (2, .int a2)] [] μ) (kf : ¬ ((μ 455 9) = (-1)) → JS Z X 212 [(0, .ref (Z.2.2.1 + 455))] [] μ) :
    JS Z X 204 [(0, .ref (Z.2.2.1 + 455)), (1, .int a1), (2, .int a2)] [] μ := by
  refine J_aload_n E dX12_house_204 rfl ?_
  refine S_get (ci := 12) (q := 9) (v := .int (μ 455 9)) E dX12_house_205 fs_X12_141 sh455 rfl ?_
  refine J_iconst (v := -1) E dX12_house_208 rfl ?_
  refine J_icmp_eq (tgt := 220) E dX12_house_209 (by decide) (fun c => ?_) (fun c => ?_)
  · exact kt c
  · refine J.weak [0] rfl ?_
    exact kf c
theorem bX12_house_212 {Z : ZT} {X : XT} {μ : Mu} (E : Ent Z X mX12_house 0 0) {P : Option Value → Mu → Prop} (hB : BodS Z X P) 
    (k : P (some (.int ((-10) - (μ 455 9)))) μ) :
    JS Z X 212 [(0, .ref (Z.2.2.1 + 455))] [] μ := by
  refine J_bipush (v := -10) E dX12_house_212 rfl ?_
  refine J_aload_n E dX12_house_214 rfl ?_
  refine S_get (ci := 12) (q := 9) (v := .int (μ 455 9)) E dX12_house_215 fs_X12_141 sh455 rfl ?_
  refine J_isub E dX12_house_218 ?_
  exact S_iret E hB dX12_house_219 rfl k
theorem bX12_house_220 {Z : ZT} {X : XT} {μ : Mu} {a1 : Int32} {a2 : Int32} (E : Ent Z X mX12_house 0 0)  
    (kt : a2 = (-1) → JS Z X 231 [(0, .ref (Z.2.2.1 + 455)), (1, .int a1)] [] μ) (kf : ¬ (a2 = (-1)) → JS Z X 225 [(2, .int a2)] [] μ) :
    JS Z X 220 [(0, .ref (Z.2.2.1 + 455)), (1, .int a1), (2, .int a2)] [] μ := by
  refine J_iload_n E dX12_house_220 rfl ?_
  refine J_iconst (v := -1) E dX12_house_221 rfl ?_
  refine J_icmp_eq (tgt := 231) E dX12_house_222 (by decide) (fun c => ?_) (fun c => ?_)
  · refine J.weak [0, 1] rfl ?_
    exact kt c
  · refine J.weak [2] rfl ?_
    exact kf c
theorem bX12_house_225 {Z : ZT} {X : XT} {μ : Mu} {a2 : Int32} (E : Ent Z X mX12_house 0 0) {P : Option Value → Mu → Prop} (hB : BodS Z X P) 
    (k : P (some (.int ((-1000) - a2))) μ) :
    JS Z X 225 [(2, .int a2)] [] μ := by
  refine J_sipush (v := -1000) E dX12_house_225 rfl ?_
  refine J_iload_n E dX12_house_228 rfl ?_
  refine J_isub E dX12_house_229 ?_
  exact S_iret E hB dX12_house_230 rfl k
theorem bX12_house_231 {Z : ZT} {X : XT} {μ : Mu} {a1 : Int32} (E : Ent Z X mX12_house 0 0)  
    (k : JS Z X 233 [(0, .ref (Z.2.2.1 + 455)), (1, .int a1), (3, .int (nI 0))] [] μ) :
    JS Z X 231 [(0, .ref (Z.2.2.1 + 455)), (1, .int a1)] [] μ := by
  refine J_iconst (v := nI 0) E dX12_house_231 rfl ?_
  refine J_istore_n (lv' := [(0, .ref (Z.2.2.1 + 455)), (1, .int a1), (3, .int (nI 0))]) E dX12_house_232 (Nat.le_of_ble_eq_true rfl) rfl ?_
  exact k
theorem bX12_house_233 {Z : ZT} {X : XT} {μ : Mu} {a1 : Int32} {a3 : Int32} (E : Ent Z X mX12_house 0 0)  
    (kt : (nI 201) ≤ a3 → JS Z X 262 [(1, .int a1)] [] μ) (kf : ¬ ((nI 201) ≤ a3) → JS Z X 240 [(0, .ref (Z.2.2.1 + 455)), (1, .int a1), (3, .int a3)] [] μ) :
    JS Z X 233 [(0, .ref (Z.2.2.1 + 455)), (1, .int a1), (3, .int a3)] [] μ := by
  refine J_iload_n E dX12_house_233 rfl ?_
  refine J_sipush (v := nI 201) E dX12_house_234 rfl ?_
  refine J_icmp_ge (tgt := 262) E dX12_house_237 (by decide) (fun c => ?_) (fun c => ?_)
  · refine J.weak [1] rfl ?_
    exact kt c
  · exact kf c
theorem bX12_house_240 {Z : ZT} {X : XT} {μ : Mu} {a1 : Int32} {a3 : Int32} (E : Ent Z X mX12_house 0 0)  (s1_ : vp_in ((nI 741) + a3) 988) (s2_ : vp_in a3 988)
    (k : JS Z X 256 [(0, .ref (Z.2.2.1 + 455)), (1, .int a1), (3, .int a3)] [] (uR μ 456 (upd (μ 456) (ix a3) (μ 456 (ix ((nI 741) + a3)))))) :
    JS Z X 240 [(0, .ref (Z.2.2.1 + 455)), (1, .int a1), (3, .int a3)] [] μ := by
  refine J_aload_n E dX12_house_240 rfl ?_
  refine S_get (ci := 12) (q := 0) (v := .ref (Z.2.2.1 + 456)) E dX12_house_241 fs_X12_7 sh455 rfl ?_
  refine J_iload_n E dX12_house_244 rfl ?_
  refine J_aload_n E dX12_house_245 rfl ?_
  refine S_get (ci := 12) (q := 0) (v := .ref (Z.2.2.1 + 456)) E dX12_house_246 fs_X12_7 sh455 rfl ?_
  refine J_sipush (v := nI 741) E dX12_house_249 rfl ?_
  refine J_iload_n E dX12_house_252 rfl ?_
  refine J_iadd E dX12_house_253 ?_
  refine S_iald E dX12_house_254 sh456 s1_ ?_
  refine S_iast E dX12_house_255 sh456 s2_ ?_
  exact k
theorem bX12_house_256 {Z : ZT} {X : XT} {μ : Mu} {a1 : Int32} {a3 : Int32} (E : Ent Z X mX12_house 0 0)  
    (k : JS Z X 233 [(0, .ref (Z.2.2.1 + 455)), (1, .int a1), (3, .int (a3 + nI 1))] [] μ) :
    JS Z X 256 [(0, .ref (Z.2.2.1 + 455)), (1, .int a1), (3, .int a3)] [] μ := by
  refine J_iinc (v := a3 + nI 1) (lv' := [(0, .ref (Z.2.2.1 + 455)), (1, .int a1), (3, .int (a3 + nI 1))]) E dX12_house_256 rfl rfl (Nat.le_of_ble_eq_true rfl) rfl ?_
  refine J_goto (tgt := 233) E dX12_house_259 (by decide) ?_
  exact k
theorem bX12_house_262 {Z : ZT} {X : XT} {μ : Mu} {a1 : Int32} (E : Ent Z X mX12_house 0 0) {P : Option Value → Mu → Prop} (hB : BodS Z X P) 
    (k : P (some (.int a1)) μ) :
    JS Z X 262 [(1, .int a1)] [] μ := by
  refine J_iload_n E dX12_house_262 rfl ?_
  exact S_iret E hB dX12_house_263 rfl k
theorem dX12_findWalks_0 : decode cX12_findWalks 0 = .ok (.aload_n 0, 1) := by decide +kernel
theorem dX12_findWalks_1 : decode cX12_findWalks 1 = .ok (.getfield 7, 3) := by decide +kernel
theorem dX12_findWalks_4 : decode cX12_findWalks 4 = .ok (.iconst 0, 1) := by decide +kernel
theorem dX12_findWalks_5 : decode cX12_findWalks 5 = .ok (.iaload, 1) := by decide +kernel
theorem dX12_findWalks_6 : decode cX12_findWalks 6 = .ok (.istore_n 1, 1) := by decide +kernel
theorem dX12_findWalks_7 : decode cX12_findWalks 7 = .ok (.iconst 0, 1) := by decide +kernel
theorem dX12_findWalks_8 : decode cX12_findWalks 8 = .ok (.istore_n 2, 1) := by decide +kernel
theorem dX12_findWalks_9 : decode cX12_findWalks 9 = .ok (.iload_n 2, 1) := by decide +kernel
theorem dX12_findWalks_10 : decode cX12_findWalks 10 = .ok (.bipush 100, 2) := by decide +kernel
theorem dX12_findWalks_12 : decode cX12_findWalks 12 = .ok (.if_icmp .ge 70, 3) := by decide +kernel
theorem dX12_findWalks_15 : decode cX12_findWalks 15 = .ok (.aload_n 0, 1) := by decide +kernel
theorem dX12_findWalks_16 : decode cX12_findWalks 16 = .ok (.getfield 27, 3) := by decide +kernel
theorem dX12_findWalks_19 : decode cX12_findWalks 19 = .ok (.iload_n 2, 1) := by decide +kernel
theorem dX12_findWalks_20 : decode cX12_findWalks 20 = .ok (.iload_n 2, 1) := by decide +kernel
theorem dX12_findWalks_21 : decode cX12_findWalks 21 = .ok (.bipush 10, 2) := by decide +kernel
theorem dX12_findWalks_23 : decode cX12_findWalks 23 = .ok (.idiv, 1) := by decide +kernel
theorem dX12_findWalks_24 : decode cX12_findWalks 24 = .ok (.iload_n 2, 1) := by decide +kernel
theorem dX12_findWalks_25 : decode cX12_findWalks 25 = .ok (.bipush 10, 2) := by decide +kernel
theorem dX12_findWalks_27 : decode cX12_findWalks 27 = .ok (.irem, 1) := by decide +kernel
theorem dX12_findWalks_28 : decode cX12_findWalks 28 = .ok (.if_icmp .ne 7, 3) := by decide +kernel
theorem dX12_findWalks_31 : decode cX12_findWalks 31 = .ok (.iconst 0, 1) := by decide +kernel
theorem dX12_findWalks_32 : decode cX12_findWalks 32 = .ok (.goto 43, 3) := by decide +kernel
theorem dX12_findWalks_35 : decode cX12_findWalks 35 = .ok (.aload_n 0, 1) := by decide +kernel
theorem dX12_findWalks_36 : decode cX12_findWalks 36 = .ok (.getfield 7, 3) := by decide +kernel
theorem dX12_findWalks_39 : decode cX12_findWalks 39 = .ok (.iconst 1, 1) := by decide +kernel
theorem dX12_findWalks_40 : decode cX12_findWalks 40 = .ok (.iload_n 2, 1) := by decide +kernel
theorem dX12_findWalks_41 : decode cX12_findWalks 41 = .ok (.iadd, 1) := by decide +kernel
theorem dX12_findWalks_42 : decode cX12_findWalks 42 = .ok (.iaload, 1) := by decide +kernel
theorem dX12_findWalks_43 : decode cX12_findWalks 43 = .ok (.ifCond .le 30, 3) := by decide +kernel
theorem dX12_findWalks_46 : decode cX12_findWalks 46 = .ok (.iload_n 2, 1) := by decide +kernel
theorem dX12_findWalks_47 : decode cX12_findWalks 47 = .ok (.bipush 10, 2) := by decide +kernel
theorem dX12_findWalks_49 : decode cX12_findWalks 49 = .ok (.idiv, 1) := by decide +kernel
theorem dX12_findWalks_50 : decode cX12_findWalks 50 = .ok (.iload_n 1, 1) := by decide +kernel
theorem dX12_findWalks_51 : decode cX12_findWalks 51 = .ok (.if_icmp .ge 22, 3) := by decide +kernel
theorem dX12_findWalks_54 : decode cX12_findWalks 54 = .ok (.iload_n 2, 1) := by decide +kernel
theorem dX12_findWalks_55 : decode cX12_findWalks 55 = .ok (.bipush 10, 2) := by decide +kernel
theorem dX12_findWalks_57 : decode cX12_findWalks 57 = .ok (.irem, 1) := by decide +kernel
theorem dX12_findWalks_58 : decode cX12_findWalks 58 = .ok (.iload_n 1, 1) := by decide +kernel
theorem dX12_findWalks_59 : decode cX12_findWalks 59 = .ok (.if_icmp .ge 14, 3) := by decide +kernel
theorem dX12_findWalks_62 : decode cX12_findWalks 62 = .ok (.aload_n 0, 1) := by decide +kernel
theorem dX12_findWalks_63 : decode cX12_findWalks 63 = .ok (.getfield 7, 3) := by decide +kernel
theorem dX12_findWalks_66 : decode cX12_findWalks 66 = .ok (.iconst 1, 1) := by decide +kernel
theorem dX12_findWalks_67 : decode cX12_findWalks 67 = .ok (.iload_n 2, 1) := by decide +kernel
theorem dX12_findWalks_68 : decode cX12_findWalks 68 = .ok (.iadd, 1) := by decide +kernel
theorem dX12_findWalks_69 : decode cX12_findWalks 69 = .ok (.iaload, 1) := by decide +kernel
theorem dX12_findWalks_70 : decode cX12_findWalks 70 = .ok (.goto 5, 3) := by decide +kernel
theorem dX12_findWalks_73 : decode cX12_findWalks 73 = .ok (.ldc 157, 2) := by decide +kernel
theorem dX12_findWalks_75 : decode cX12_findWalks 75 = .ok (.iastore, 1) := by decide +kernel
theorem dX12_findWalks_76 : decode cX12_findWalks 76 = .ok (.iinc 2 1, 3) := by decide +kernel
theorem dX12_findWalks_79 : decode cX12_findWalks 79 = .ok (.goto (-70), 3) := by decide +kernel
theorem dX12_findWalks_82 : decode cX12_findWalks 82 = .ok (.iconst 0, 1) := by decide +kernel
theorem dX12_findWalks_83 : decode cX12_findWalks 83 = .ok (.istore_n 2, 1) := by decide +kernel
theorem dX12_findWalks_84 : decode cX12_findWalks 84 = .ok (.iload_n 2, 1) := by decide +kernel
theorem dX12_findWalks_85 : decode cX12_findWalks 85 = .ok (.iload_n 1, 1) := by decide +kernel
theorem dX12_findWalks_86 : decode cX12_findWalks 86 = .ok (.if_icmp .ge 82, 3) := by decide +kernel
theorem dX12_findWalks_89 : decode cX12_findWalks 89 = .ok (.iconst 0, 1) := by decide +kernel
theorem dX12_findWalks_90 : decode cX12_findWalks 90 = .ok (.istore_n 3, 1) := by decide +kernel
theorem dX12_findWalks_91 : decode cX12_findWalks 91 = .ok (.iload_n 3, 1) := by decide +kernel
theorem dX12_findWalks_92 : decode cX12_findWalks 92 = .ok (.bipush 100, 2) := by decide +kernel
theorem dX12_findWalks_94 : decode cX12_findWalks 94 = .ok (.if_icmp .ge 68, 3) := by decide +kernel
theorem dX12_findWalks_97 : decode cX12_findWalks 97 = .ok (.aload_n 0, 1) := by decide +kernel
theorem dX12_findWalks_98 : decode cX12_findWalks 98 = .ok (.getfield 27, 3) := by decide +kernel
theorem dX12_findWalks_101 : decode cX12_findWalks 101 = .ok (.iload_n 3, 1) := by decide +kernel
theorem dX12_findWalks_102 : decode cX12_findWalks 102 = .ok (.bipush 10, 2) := by decide +kernel
theorem dX12_findWalks_104 : decode cX12_findWalks 104 = .ok (.idiv, 1) := by decide +kernel
theorem dX12_findWalks_105 : decode cX12_findWalks 105 = .ok (.bipush 10, 2) := by decide +kernel
theorem dX12_findWalks_107 : decode cX12_findWalks 107 = .ok (.imul, 1) := by decide +kernel
theorem dX12_findWalks_108 : decode cX12_findWalks 108 = .ok (.iload_n 2, 1) := by decide +kernel
theorem dX12_findWalks_109 : decode cX12_findWalks 109 = .ok (.iadd, 1) := by decide +kernel
theorem dX12_findWalks_110 : decode cX12_findWalks 110 = .ok (.iaload, 1) := by decide +kernel
theorem dX12_findWalks_111 : decode cX12_findWalks 111 = .ok (.aload_n 0, 1) := by decide +kernel
theorem dX12_findWalks_112 : decode cX12_findWalks 112 = .ok (.getfield 27, 3) := by decide +kernel
theorem dX12_findWalks_115 : decode cX12_findWalks 115 = .ok (.bipush 10, 2) := by decide +kernel
theorem dX12_findWalks_117 : decode cX12_findWalks 117 = .ok (.iload_n 2, 1) := by decide +kernel
theorem dX12_findWalks_118 : decode cX12_findWalks 118 = .ok (.imul, 1) := by decide +kernel
theorem dX12_findWalks_119 : decode cX12_findWalks 119 = .ok (.iload_n 3, 1) := by decide +kernel
theorem dX12_findWalks_120 : decode cX12_findWalks 120 = .ok (.bipush 10, 2) := by decide +kernel
theorem dX12_findWalks_122 : decode cX12_findWalks 122 = .ok (.irem, 1) := by decide +kernel
theorem dX12_findWalks_123 : decode cX12_findWalks 123 = .ok (.iadd, 1) := by decide +kernel
theorem dX12_findWalks_124 : decode cX12_findWalks 124 = .ok (.iaload, 1) := by decide +kernel
theorem dX12_findWalks_125 : decode cX12_findWalks 125 = .ok (.iadd, 1) := by decide +kernel
theorem dX12_findWalks_126 : decode cX12_findWalks 126 = .ok (.istore 4, 2) := by decide +kernel
theorem dX12_findWalks_128 : decode cX12_findWalks 128 = .ok (.aload_n 0, 1) := by decide +kernel
theorem dX12_findWalks_129 : decode cX12_findWalks 129 = .ok (.getfield 27, 3) := by decide +kernel
theorem dX12_findWalks_132 : decode cX12_findWalks 132 = .ok (.iload_n 3, 1) := by decide +kernel
theorem dX12_findWalks_133 : decode cX12_findWalks 133 = .ok (.iload 4, 2) := by decide +kernel
theorem dX12_findWalks_135 : decode cX12_findWalks 135 = .ok (.aload_n 0, 1) := by decide +kernel
theorem dX12_findWalks_136 : decode cX12_findWalks 136 = .ok (.getfield 27, 3) := by decide +kernel
theorem dX12_findWalks_139 : decode cX12_findWalks 139 = .ok (.iload_n 3, 1) := by decide +kernel
theorem dX12_findWalks_140 : decode cX12_findWalks 140 = .ok (.iaload, 1) := by decide +kernel
theorem dX12_findWalks_141 : decode cX12_findWalks 141 = .ok (.if_icmp .ge 8, 3) := by decide +kernel
theorem dX12_findWalks_144 : decode cX12_findWalks 144 = .ok (.iload 4, 2) := by decide +kernel
theorem dX12_findWalks_146 : decode cX12_findWalks 146 = .ok (.goto 9, 3) := by decide +kernel
theorem dX12_findWalks_149 : decode cX12_findWalks 149 = .ok (.aload_n 0, 1) := by decide +kernel
theorem dX12_findWalks_150 : decode cX12_findWalks 150 = .ok (.getfield 27, 3) := by decide +kernel
theorem dX12_findWalks_153 : decode cX12_findWalks 153 = .ok (.iload_n 3, 1) := by decide +kernel
theorem dX12_findWalks_154 : decode cX12_findWalks 154 = .ok (.iaload, 1) := by decide +kernel
theorem dX12_findWalks_155 : decode cX12_findWalks 155 = .ok (.iastore, 1) := by decide +kernel
theorem dX12_findWalks_156 : decode cX12_findWalks 156 = .ok (.iinc 3 1, 3) := by decide +kernel
theorem dX12_findWalks_159 : decode cX12_findWalks 159 = .ok (.goto (-68), 3) := by decide +kernel
theorem dX12_findWalks_162 : decode cX12_findWalks 162 = .ok (.iinc 2 1, 3) := by decide +kernel
theorem dX12_findWalks_165 : decode cX12_findWalks 165 = .ok (.goto (-81), 3) := by decide +kernel
theorem dX12_findWalks_168 : decode cX12_findWalks 168 = .ok (.return_, 1) := by decide +kernel
theorem bX12_findWalks_0 {Z : ZT} {X : XT} {μ : Mu} (E : Ent Z X mX12_findWalks 0 0)  (s1_ : vp_in (nI 0) 988)
    (k : JS Z X 9 [(0, .ref (Z.2.2.1 + 455)), (1, .int (μ 456 (ix (nI 0)))), (2, .int (nI 0))] [] μ) :
    JS Z X 0 [(0, .ref (Z.2.2.1 + 455))] [] μ := by
  refine J_aload_n E dX12_findWalks_0 rfl ?_
  refine S_get (ci := 12) (q := 0) (v := .ref (Z.2.2.1 + 456)) E dX12_findWalks_1 fs_X12_7 sh455 rfl ?_
  refine J_iconst (v := nI 0) E dX12_findWalks_4 rfl ?_
  refine S_iald E dX12_findWalks_5 sh456 s1_ ?_
  refine J_istore_n (lv' := [(0, .ref (Z.2.2.1 + 455)), (1, .int (μ 456 (ix (nI 0))))]) E dX12_findWalks_6 (Nat.le_of_ble_eq_true rfl) rfl ?_
  refine J_iconst (v := nI 0) E dX12_findWalks_7 rfl ?_
  refine J_istore_n (lv' := [(0, .ref (Z.2.2.1 + 455)), (1, .int (μ 456 (ix (nI 0)))), (2, .int (nI 0))]) E dX12_findWalks_8 (Nat.le_of_ble_eq_true rfl) rfl ?_
  exact k
theorem bX12_findWalks_9 {Z : ZT} {X : XT} {μ : Mu} {a1 : Int32} {a2 : Int32} (E : Ent Z X mX12_findWalks 0 0)  
    (kt : (nI 100) ≤ a2 → JS Z X 82 [(0, .ref (Z.2.2.1 + 455)), (1, .int a1)] [] μ) (kf : ¬ ((nI 100) ≤ a2) → JS Z X 15 [(0, .ref (Z.2.2.1 + 455)), (1, .int a1), (2, .int a2)] [] μ) :
    JS Z X 9 [(0, .ref (Z.2.2.1 + 455)), (1, .int a1), (2, .int a2)] [] μ := by
  refine J_iload_n E dX12_findWalks_9 rfl ?_
  refine J_bipush (v := nI 100) E dX12_findWalks_10 rfl ?_
  refine J_icmp_ge (tgt := 82) E dX12_findWalks_12 (by decide) (fun c => ?_) (fun c => ?_)
  · refine J.weak [0, 1] rfl ?_
    exact kt c
  · exact kf c
theorem bX12_findWalks_15 {Z : ZT} {X : XT} {μ : Mu} {a1 : Int32} {a2 : Int32} (E : Ent Z X mX12_findWalks 0 0)  
    (kt : ¬ (a2 / (nI 10)) = (a2 - a2 / (nI 10) * (nI 10)) → JS Z X 35 [(0, .ref (Z.2.2.1 + 455)), (1, .int a1), (2, .int a2)] [.int a2, .ref (Z.2.2.1 + 461)] μ) (kf : (a2 / (nI 10)) = (a2 - a2 / (nI 10) * (nI 10)) → JS Z X 31 [(0, .ref (Z.2.2.1 + 455)), (1, .int a1), (2, .int a2)] [.int a2, .ref (Z.2.2.1 + 461)] μ) :
    JS Z X 15 [(0, .ref (Z.2.2.1 + 455)), (1, .int a1), (2, .int a2)] [] μ := by
  refine J_aload_n E dX12_findWalks_15 rfl ?_
  refine S_get (ci := 12) (q := 11) (v := .ref (Z.2.2.1 + 461)) E dX12_findWalks_16 fs_X12_27 sh455 rfl ?_
  refine J_iload_n E dX12_findWalks_19 rfl ?_
  refine J_iload_n E dX12_findWalks_20 rfl ?_
  refine J_bipush (v := nI 10) E dX12_findWalks_21 rfl ?_
  refine J_idiv E dX12_findWalks_23 (by decide) ?_
  refine J_iload_n E dX12_findWalks_24 rfl ?_
  refine J_bipush (v := nI 10) E dX12_findWalks_25 rfl ?_
  refine J_irem E dX12_findWalks_27 (by decide) ?_
  refine J_icmp_ne (tgt := 35) E dX12_findWalks_28 (by decide) (fun c => ?_) (fun c => ?_)
  · exact kt c
  · exact kf c
theorem bX12_findWalks_31 {Z : ZT} {X : XT} {μ : Mu} {a1 : Int32} {a2 : Int32} {s0 : Nat} {s1 : Int32} (E : Ent Z X mX12_findWalks 0 0) (hs0 : SH s0 = .inr (0, 100)) 
    (k : JS Z X 75 [(0, .ref (Z.2.2.1 + 455)), (1, .int a1), (2, .int a2)] [.int (nI 0), .int s1, .ref (Z.2.2.1 + s0)] μ) :
    JS Z X 31 [(0, .ref (Z.2.2.1 + 455)), (1, .int a1), (2, .int a2)] [.int s1, .ref (Z.2.2.1 + s0)] μ := by
  refine J_iconst (v := nI 0) E dX12_findWalks_31 rfl ?_
  refine J_goto (tgt := 75) E dX12_findWalks_32 (by decide) ?_
  exact k
theorem bX12_findWalks_35 {Z : ZT} {X : XT} {μ : Mu} {a1 : Int32} {a2 : Int32} {s0 : Nat} {s1 : Int32} (E : Ent Z X mX12_findWalks 0 0) (hs0 : SH s0 = .inr (0, 100)) (s1_ : vp_in ((nI 1) + a2) 988)
    (kt : (μ 456 (ix ((nI 1) + a2))) ≤ 0 → JS Z X 73 [(0, .ref (Z.2.2.1 + 455)), (1, .int a1), (2, .int a2)] [.int s1, .ref (Z.2.2.1 + s0)] μ) (kf : ¬ ((μ 456 (ix ((nI 1) + a2))) ≤ 0) → JS Z X 46 [(0, .ref (Z.2.2.1 + 455)), (1, .int a1), (2, .int a2)] [.int s1, .ref (Z.2.2.1 + s0)] μ) :
    JS Z X 35 [(0, .ref (Z.2.2.1 + 455)), (1, .int a1), (2, .int a2)] [.int s1, .ref (Z.2.2.1 + s0)] μ := by
  refine J_aload_n E dX12_findWalks_35 rfl ?_
  refine S_get (ci := 12) (q := 0) (v := .ref (Z.2.2.1 + 456)) E dX12_findWalks_36 fs_X12_7 sh455 rfl ?_
  refine J_iconst (v := nI 1) E dX12_findWalks_39 rfl ?_
  refine J_iload_n E dX12_findWalks_40 rfl ?_
  refine J_iadd E dX12_findWalks_41 ?_
  refine S_iald E dX12_findWalks_42 sh456 s1_ ?_
  refine J_if_le (tgt := 73) E dX12_findWalks_43 (by decide) (fun c => ?_) (fun c => ?_)
  · exact kt c
  · exact kf c
theorem bX12_findWalks_46 {Z : ZT} {X : XT} {μ : Mu} {a1 : Int32} {a2 : Int32} {s0 : Nat} {s1 : Int32} (E : Ent Z X mX12_findWalks 0 0) (hs0 : SH s0 = .inr (0, 100)) 
    (kt : a1 ≤ (a2 / (nI 10)) → JS Z X 73 [(0, .ref (Z.2.2.1 + 455)), (1, .int a1), (2, .int a2)] [.int s1, .ref (Z.2.2.1 + s0)] μ) (kf : ¬ (a1 ≤ (a2 / (nI 10))) → JS Z X 54 [(0, .ref (Z.2.2.1 + 455)), (1, .int a1), (2, .int a2)] [.int s1, .ref (Z.2.2.1 + s0)] μ) :
    JS Z X 46 [(0, .ref (Z.2.2.1 + 455)), (1, .int a1), (2, .int a2)] [.int s1, .ref (Z.2.2.1 + s0)] μ := by
  refine J_iload_n E dX12_findWalks_46 rfl ?_
  refine J_bipush (v := nI 10) E dX12_findWalks_47 rfl ?_
  refine J_idiv E dX12_findWalks_49 (by decide) ?_
  refine J_iload_n E dX12_findWalks_50 rfl ?_
  refine J_icmp_ge (tgt := 73) E dX12_findWalks_51 (by decide) (fun c => ?_) (fun c => ?_)
  · exact kt c
  · exact kf c
theorem bX12_findWalks_54 {Z : ZT} {X : XT} {μ : Mu} {a1 : Int32} {a2 : Int32} {s0 : Nat} {s1 : Int32} (E : Ent Z X mX12_findWalks 0 0) (hs0 : SH s0 = .inr (0, 100)) 
    (kt : a1 ≤ (a2 - a2 / (nI 10) * (nI 10)) → JS Z X 73 [(0, .ref (Z.2.2.1 + 455)), (1, .int a1), (2, .int a2)] [.int s1, .ref (Z.2.2.1 + s0)] μ) (kf : ¬ (a1 ≤ (a2 - a2 / (nI 10) * (nI 10))) → JS Z X 62 [(0, .ref (Z.2.2.1 + 455)), (1, .int a1), (2, .int a2)] [.int s1, .ref (Z.2.2.1 + s0)] μ) :
    JS Z X 54 [(0, .ref (Z.2.2.1 + 455)), (1, .int a1), (2, .int a2)] [.int s1, .ref (Z.2.2.1 + s0)] μ := by
  refine J_iload_n E dX12_findWalks_54 rfl ?_
  refine J_bipush (v := nI 10) E dX12_findWalks_55 rfl ?_
  refine J_irem E dX12_findWalks_57 (by decide) ?_
  refine J_iload_n E dX12_findWalks_58 rfl ?_
  refine J_icmp_ge (tgt := 73) E dX12_findWalks_59 (by decide) (fun c => ?_) (fun c => ?_)
  · exact kt c
  · exact kf c
theorem bX12_findWalks_62 {Z : ZT} {X : XT} {μ : Mu} {a1 : Int32} {a2 : Int32} {s0 : Nat} {s1 : Int32} (E : Ent Z X mX12_findWalks 0 0) (hs0 : SH s0 = .inr (0, 100)) (s1_ : vp_in ((nI 1) + a2) 988)
    (k : JS Z X 75 [(0, .ref (Z.2.2.1 + 455)), (1, .int a1), (2, .int a2)] [.int (μ 456 (ix ((nI 1) + a2))), .int s1, .ref (Z.2.2.1 + s0)] μ) :
    JS Z X 62 [(0, .ref (Z.2.2.1 + 455)), (1, .int a1), (2, .int a2)] [.int s1, .ref (Z.2.2.1 + s0)] μ := by
  refine J_aload_n E dX12_findWalks_62 rfl ?_
  refine S_get (ci := 12) (q := 0) (v := .ref (Z.2.2.1 + 456)) E dX12_findWalks_63 fs_X12_7 sh455 rfl ?_
  refine J_iconst (v := nI 1) E dX12_findWalks_66 rfl ?_
  refine J_iload_n E dX12_findWalks_67 rfl ?_
  refine J_iadd E dX12_findWalks_68 ?_
  refine S_iald E dX12_findWalks_69 sh456 s1_ ?_
  refine J_goto (tgt := 75) E dX12_findWalks_70 (by decide) ?_
  exact k
theorem bX12_findWalks_73 {Z : ZT} {X : XT} {μ : Mu} {a1 : Int32} {a2 : Int32} {s0 : Nat} {s1 : Int32} (E : Ent Z X mX12_findWalks 0 0) (hs0 : SH s0 = .inr (0, 100)) 
    (k : JS Z X 75 [(0, .ref (Z.2.2.1 + 455)), (1, .int a1), (2, .int a2)] [.int (nI 100000), .int s1, .ref (Z.2.2.1 + s0)] μ) :
    JS Z X 73 [(0, .ref (Z.2.2.1 + 455)), (1, .int a1), (2, .int a2)] [.int s1, .ref (Z.2.2.1 + s0)] μ := by
  refine J_ldc (v := nI 100000) E dX12_findWalks_73 w6_192 ?_
  exact k
theorem bX12_findWalks_75 {Z : ZT} {X : XT} {μ : Mu} {a1 : Int32} {a2 : Int32} {s0 : Nat} {s1 : Int32} {s2 : Int32} (E : Ent Z X mX12_findWalks 0 0) (hs0 : SH s0 = .inr (0, 100)) (s1_ : vp_in s1 100)
    (k : JS Z X 76 [(0, .ref (Z.2.2.1 + 455)), (1, .int a1), (2, .int a2)] [] (uR μ s0 (upd (μ s0) (ix s1) s2))) :
    JS Z X 75 [(0, .ref (Z.2.2.1 + 455)), (1, .int a1), (2, .int a2)] [.int s2, .int s1, .ref (Z.2.2.1 + s0)] μ := by
  refine S_iast E dX12_findWalks_75 hs0 s1_ ?_
  exact k
theorem bX12_findWalks_76 {Z : ZT} {X : XT} {μ : Mu} {a1 : Int32} {a2 : Int32} (E : Ent Z X mX12_findWalks 0 0)  
    (k : JS Z X 9 [(0, .ref (Z.2.2.1 + 455)), (1, .int a1), (2, .int (a2 + nI 1))] [] μ) :
    JS Z X 76 [(0, .ref (Z.2.2.1 + 455)), (1, .int a1), (2, .int a2)] [] μ := by
  refine J_iinc (v := a2 + nI 1) (lv' := [(0, .ref (Z.2.2.1 + 455)), (1, .int a1), (2, .int (a2 + nI 1))]) E dX12_findWalks_76 rfl rfl (Nat.le_of_ble_eq_true rfl) rfl ?_
  refine J_goto (tgt := 9) E dX12_findWalks_79 (by decide) ?_
  exact k
theorem bX12_findWalks_82 {Z : ZT} {X : XT} {μ : Mu} {a1 : Int32} (E : Ent Z X mX12_findWalks 0 0)  
    (k : JS Z X 84 [(0, .ref (Z.2.2.1 + 455)), (1, .int a1), (2, .int (nI 0))] [] μ) :
    JS Z X 82 [(0, .ref (Z.2.2.1 + 455)), (1, .int a1)] [] μ := by
  refine J_iconst (v := nI 0) E dX12_findWalks_82 rfl ?_
  refine J_istore_n (lv' := [(0, .ref (Z.2.2.1 + 455)), (1, .int a1), (2, .int (nI 0))]) E dX12_findWalks_83 (Nat.le_of_ble_eq_true rfl) rfl ?_
  exact k
theorem bX12_findWalks_84 {Z : ZT} {X : XT} {μ : Mu} {a1 : Int32} {a2 : Int32} (E : Ent Z X mX12_findWalks 0 0)  
    (kt : a1 ≤ a2 → JS Z X 168 [] [] μ) (kf : ¬ (a1 ≤ a2) → JS Z X 89 [(0, .ref (Z.2.2.1 + 455)), (1, .int a1), (2, .int a2)] [] μ) :
    JS Z X 84 [(0, .ref (Z.2.2.1 + 455)), (1, .int a1), (2, .int a2)] [] μ := by
  refine J_iload_n E dX12_findWalks_84 rfl ?_
  refine J_iload_n E dX12_findWalks_85 rfl ?_
  refine J_icmp_ge (tgt := 168) E dX12_findWalks_86 (by decide) (fun c => ?_) (fun c => ?_)
  · refine J.weak [] rfl ?_
    exact kt c
  · exact kf c
theorem bX12_findWalks_89 {Z : ZT} {X : XT} {μ : Mu} {a1 : Int32} {a2 : Int32} (E : Ent Z X mX12_findWalks 0 0)  
    (k : JS Z X 91 [(0, .ref (Z.2.2.1 + 455)), (1, .int a1), (2, .int a2), (3, .int (nI 0))] [] μ) :
    JS Z X 89 [(0, .ref (Z.2.2.1 + 455)), (1, .int a1), (2, .int a2)] [] μ := by
  refine J_iconst (v := nI 0) E dX12_findWalks_89 rfl ?_
  refine J_istore_n (lv' := [(0, .ref (Z.2.2.1 + 455)), (1, .int a1), (2, .int a2), (3, .int (nI 0))]) E dX12_findWalks_90 (Nat.le_of_ble_eq_true rfl) rfl ?_
  exact k
theorem bX12_findWalks_91 {Z : ZT} {X : XT} {μ : Mu} {a1 : Int32} {a2 : Int32} {a3 : Int32} (E : Ent Z X mX12_findWalks 0 0)  
    (kt : (nI 100) ≤ a3 → JS Z X 162 [(0, .ref (Z.2.2.1 + 455)), (1, .int a1), (2, .int a2)] [] μ) (kf : ¬ ((nI 100) ≤ a3) → JS Z X 97 [(0, .ref (Z.2.2.1 + 455)), (1, .int a1), (2, .int a2), (3, .int a3)] [] μ) :
    JS Z X 91 [(0, .ref (Z.2.2.1 + 455)), (1, .int a1), (2, .int a2), (3, .int a3)] [] μ := by
  refine J_iload_n E dX12_findWalks_91 rfl ?_
  refine J_bipush (v := nI 100) E dX12_findWalks_92 rfl ?_
  refine J_icmp_ge (tgt := 162) E dX12_findWalks_94 (by decide) (fun c => ?_) (fun c => ?_)
  · refine J.weak [0, 1, 2] rfl ?_
    exact kt c
  · exact kf c
theorem bX12_findWalks_97 {Z : ZT} {X : XT} {μ : Mu} {a1 : Int32} {a2 : Int32} {a3 : Int32} (E : Ent Z X mX12_findWalks 0 0)  (s1_ : vp_in (((a3 / (nI 10)) * (nI 10)) + a2) 100) (s2_ : vp_in (((nI 10) * a2) + (a3 - a3 / (nI 10) * (nI 10))) 100) (s3_ : vp_in a3 100)
    (kt : (μ 461 (ix a3)) ≤ ((μ 461 (ix (((a3 / (nI 10)) * (nI 10)) + a2))) + (μ 461 (ix (((nI 10) * a2) + (a3 - a3 / (nI 10) * (nI 10)))))) → JS Z X 149 [(0, .ref (Z.2.2.1 + 455)), (1, .int a1), (2, .int a2), (3, .int a3)] [.int a3, .ref (Z.2.2.1 + 461)] μ) (kf : ¬ ((μ 461 (ix a3)) ≤ ((μ 461 (ix (((a3 / (nI 10)) * (nI 10)) + a2))) + (μ 461 (ix (((nI 10) * a2) + (a3 - a3 / (nI 10) * (nI 10))))))) → JS Z X 144 [(0, .ref (Z.2.2.1 + 455)), (1, .int a1), (2, .int a2), (3, .int a3), (4, .int ((μ 461 (ix (((a3 / (nI 10)) * (nI 10)) + a2))) + (μ 461 (ix (((nI 10) * a2) + (a3 - a3 / (nI 10) * (nI 10)))))))] [.int a3, .ref (Z.2.2.1 + 461)] μ) :
    JS Z X 97 [(0, .ref (Z.2.2.1 + 455)), (1, .int a1), (2, .int a2), (3, .int a3)] [] μ := by
  refine J_aload_n E dX12_findWalks_97 rfl ?_
  refine S_get (ci := 12) (q := 11) (v := .ref (Z.2.2.1 + 461)) E dX12_findWalks_98 fs_X12_27 sh455 rfl ?_
  refine J_iload_n E dX12_findWalks_101 rfl ?_
  refine J_bipush (v := nI 10) E dX12_findWalks_102 rfl ?_
  refine J_idiv E dX12_findWalks_104 (by decide) ?_
  refine J_bipush (v := nI 10) E dX12_findWalks_105 rfl ?_
  refine J_imul E dX12_findWalks_107 ?_
  refine J_iload_n E dX12_findWalks_108 rfl ?_
  refine J_iadd E dX12_findWalks_109 ?_
  refine S_iald E dX12_findWalks_110 sh461 s1_ ?_
  refine J_aload_n E dX12_findWalks_111 rfl ?_
  refine S_get (ci := 12) (q := 11) (v := .ref (Z.2.2.1 + 461)) E dX12_findWalks_112 fs_X12_27 sh455 rfl ?_
  refine J_bipush (v := nI 10) E dX12_findWalks_115 rfl ?_
  refine J_iload_n E dX12_findWalks_117 rfl ?_
  refine J_imul E dX12_findWalks_118 ?_
  refine J_iload_n E dX12_findWalks_119 rfl ?_
  refine J_bipush (v := nI 10) E dX12_findWalks_120 rfl ?_
  refine J_irem E dX12_findWalks_122 (by decide) ?_
  refine J_iadd E dX12_findWalks_123 ?_
  refine S_iald E dX12_findWalks_124 sh461 s2_ ?_
  refine J_iadd E dX12_findWalks_125 ?_
  refine J_istore (lv' := [(0, .ref (Z.2.2.1 + 455)), (1, .int a1), (2, .int a2), (3, .int a3), (4, .int ((μ 461 (ix (((a3 / (nI 10)) * (nI 10)) + a2))) + (μ 461 (ix (((nI 10) * a2) + (a3 - a3 / (nI 10) * (nI 10)))))))]) E dX12_findWalks_126 (Nat.le_of_ble_eq_true rfl) rfl ?_
  refine J_aload_n E dX12_findWalks_128 rfl ?_
  refine S_get (ci := 12) (q := 11) (v := .ref (Z.2.2.1 + 461)) E dX12_findWalks_129 fs_X12_27 sh455 rfl ?_
  refine J_iload_n E dX12_findWalks_132 rfl ?_
  refine J_iload E dX12_findWalks_133 rfl ?_
  refine J_aload_n E dX12_findWalks_135 rfl ?_
  refine S_get (ci := 12) (q := 11) (v := .ref (Z.2.2.1 + 461)) E dX12_findWalks_136 fs_X12_27 sh455 rfl ?_
  refine J_iload_n E dX12_findWalks_139 rfl ?_
  refine S_iald E dX12_findWalks_140 sh461 s3_ ?_
  refine J_icmp_ge (tgt := 149) E dX12_findWalks_141 (by decide) (fun c => ?_) (fun c => ?_)
  · refine J.weak [0, 1, 2, 3] rfl ?_
    exact kt c
  · exact kf c
theorem bX12_findWalks_144 {Z : ZT} {X : XT} {μ : Mu} {a1 : Int32} {a2 : Int32} {a3 : Int32} {a4 : Int32} {s0 : Nat} {s1 : Int32} (E : Ent Z X mX12_findWalks 0 0) (hs0 : SH s0 = .inr (0, 100)) 
    (k : JS Z X 155 [(0, .ref (Z.2.2.1 + 455)), (1, .int a1), (2, .int a2), (3, .int a3)] [.int a4, .int s1, .ref (Z.2.2.1 + s0)] μ) :
    JS Z X 144 [(0, .ref (Z.2.2.1 + 455)), (1, .int a1), (2, .int a2), (3, .int a3), (4, .int a4)] [.int s1, .ref (Z.2.2.1 + s0)] μ := by
  refine J_iload E dX12_findWalks_144 rfl ?_
  refine J_goto (tgt := 155) E dX12_findWalks_146 (by decide) ?_
  refine J.weak [0, 1, 2, 3] rfl ?_
  exact k
theorem bX12_findWalks_149 {Z : ZT} {X : XT} {μ : Mu} {a1 : Int32} {a2 : Int32} {a3 : Int32} {s0 : Nat} {s1 : Int32} (E : Ent Z X mX12_findWalks 0 0) (hs0 : SH s0 = .inr (0, 100)) (s1_ : vp_in a3 100)
    (k : JS Z X 155 [(0, .ref (Z.2.2.1 + 455)), (1, .int a1), (2, .int a2), (3, .int a3)] [.int (μ 461 (ix a3)), .int s1, .ref (Z.2.2.1 + s0)] μ) :
    JS Z X 149 [(0, .ref (Z.2.2.1 + 455)), (1, .int a1), (2, .int a2), (3, .int a3)] [.int s1, .ref (Z.2.2.1 + s0)] μ := by
  refine J_aload_n E dX12_findWalks_149 rfl ?_
  refine S_get (ci := 12) (q := 11) (v := .ref (Z.2.2.1 + 461)) E dX12_findWalks_150 fs_X12_27 sh455 rfl ?_
  refine J_iload_n E dX12_findWalks_153 rfl ?_
  refine S_iald E dX12_findWalks_154 sh461 s1_ ?_
  exact k
theorem bX12_findWalks_155 {Z : ZT} {X : XT} {μ : Mu} {a1 : Int32} {a2 : Int32} {a3 : Int32} {s0 : Nat} {s1 : Int32} {s2 : Int32} (E : Ent Z X mX12_findWalks 0 0) (hs0 : SH s0 = .inr (0, 100)) (s1_ : vp_in s1 100)
    (k : JS Z X 156 [(0, .ref (Z.2.2.1 + 455)), (1, .int a1), (2, .int a2), (3, .int a3)] [] (uR μ s0 (upd (μ s0) (ix s1) s2))) :
    JS Z X 155 [(0, .ref (Z.2.2.1 + 455)), (1, .int a1), (2, .int a2), (3, .int a3)] [.int s2, .int s1, .ref (Z.2.2.1 + s0)] μ := by
  refine S_iast E dX12_findWalks_155 hs0 s1_ ?_
  exact k
theorem bX12_findWalks_156 {Z : ZT} {X : XT} {μ : Mu} {a1 : Int32} {a2 : Int32} {a3 : Int32} (E : Ent Z X mX12_findWalks 0 0)  
    (k : JS Z X 91 [(0, .ref (Z.2.2.1 + 455)), (1, .int a1), (2, .int a2), (3, .int (a3 + nI 1))] [] μ) :
    JS Z X 156 [(0, .ref (Z.2.2.1 + 455)), (1, .int a1), (2, .int a2), (3, .int a3)] [] μ := by
  refine J_iinc (v := a3 + nI 1) (lv' := [(0, .ref (Z.2.2.1 + 455)), (1, .int a1), (2, .int a2), (3, .int (a3 + nI 1))]) E dX12_findWalks_156 rfl rfl (Nat.le_of_ble_eq_true rfl) rfl ?_
  refine J_goto (tgt := 91) E dX12_findWalks_159 (by decide) ?_
  exact k
theorem bX12_findWalks_162 {Z : ZT} {X : XT} {μ : Mu} {a1 : Int32} {a2 : Int32} (E : Ent Z X mX12_findWalks 0 0)  
    (k : JS Z X 84 [(0, .ref (Z.2.2.1 + 455)), (1, .int a1), (2, .int (a2 + nI 1))] [] μ) :
    JS Z X 162 [(0, .ref (Z.2.2.1 + 455)), (1, .int a1), (2, .int a2)] [] μ := by
  refine J_iinc (v := a2 + nI 1) (lv' := [(0, .ref (Z.2.2.1 + 455)), (1, .int a1), (2, .int (a2 + nI 1))]) E dX12_findWalks_162 rfl rfl (Nat.le_of_ble_eq_true rfl) rfl ?_
  refine J_goto (tgt := 84) E dX12_findWalks_165 (by decide) ?_
  exact k
theorem bX12_findWalks_168 {Z : ZT} {X : XT} {μ : Mu} (E : Ent Z X mX12_findWalks 0 0) {P : Option Value → Mu → Prop} (hB : BodS Z X P) 
    (k : P none μ) :
    JS Z X 168 [] [] μ := by
  exact S_vret E hB dX12_findWalks_168 rfl k
theorem dX12_walk_0 : decode cX12_walk 0 = .ok (.aload_n 0, 1) := by decide +kernel
theorem dX12_walk_1 : decode cX12_walk 1 = .ok (.iconst 0, 1) := by decide +kernel
theorem dX12_walk_2 : decode cX12_walk 2 = .ok (.iload_n 1, 1) := by decide +kernel
theorem dX12_walk_3 : decode cX12_walk 3 = .ok (.invokevirtual 71, 3) := by decide +kernel
theorem dX12_walk_6 : decode cX12_walk 6 = .ok (.ifCond .eq 12, 3) := by decide +kernel
theorem dX12_walk_9 : decode cX12_walk 9 = .ok (.aload_n 0, 1) := by decide +kernel
theorem dX12_walk_10 : decode cX12_walk 10 = .ok (.iconst 0, 1) := by decide +kernel
theorem dX12_walk_11 : decode cX12_walk 11 = .ok (.iload_n 2, 1) := by decide +kernel
theorem dX12_walk_12 : decode cX12_walk 12 = .ok (.invokevirtual 71, 3) := by decide +kernel
theorem dX12_walk_15 : decode cX12_walk 15 = .ok (.ifCond .ne 10, 3) := by decide +kernel
theorem dX12_walk_18 : decode cX12_walk 18 = .ok (.aload_n 0, 1) := by decide +kernel
theorem dX12_walk_19 : decode cX12_walk 19 = .ok (.bipush (-2), 2) := by decide +kernel
theorem dX12_walk_21 : decode cX12_walk 21 = .ok (.invokevirtual 63, 3) := by decide +kernel
theorem dX12_walk_24 : decode cX12_walk 24 = .ok (.ireturn, 1) := by decide +kernel
theorem dX12_walk_25 : decode cX12_walk 25 = .ok (.aload_n 0, 1) := by decide +kernel
theorem dX12_walk_26 : decode cX12_walk 26 = .ok (.invokevirtual 158, 3) := by decide +kernel
theorem dX12_walk_29 : decode cX12_walk 29 = .ok (.aload_n 0, 1) := by decide +kernel
theorem dX12_walk_30 : decode cX12_walk 30 = .ok (.getfield 27, 3) := by decide +kernel
theorem dX12_walk_33 : decode cX12_walk 33 = .ok (.bipush 10, 2) := by decide +kernel
theorem dX12_walk_35 : decode cX12_walk 35 = .ok (.iload_n 1, 1) := by decide +kernel
theorem dX12_walk_36 : decode cX12_walk 36 = .ok (.imul, 1) := by decide +kernel
theorem dX12_walk_37 : decode cX12_walk 37 = .ok (.iload_n 2, 1) := by decide +kernel
theorem dX12_walk_38 : decode cX12_walk 38 = .ok (.iadd, 1) := by decide +kernel
theorem dX12_walk_39 : decode cX12_walk 39 = .ok (.iaload, 1) := by decide +kernel
theorem dX12_walk_40 : decode cX12_walk 40 = .ok (.ldc 157, 2) := by decide +kernel
theorem dX12_walk_42 : decode cX12_walk 42 = .ok (.if_icmp .lt 7, 3) := by decide +kernel
theorem dX12_walk_45 : decode cX12_walk 45 = .ok (.iconst (-1), 1) := by decide +kernel
theorem dX12_walk_46 : decode cX12_walk 46 = .ok (.goto 14, 3) := by decide +kernel
theorem dX12_walk_49 : decode cX12_walk 49 = .ok (.aload_n 0, 1) := by decide +kernel
theorem dX12_walk_50 : decode cX12_walk 50 = .ok (.getfield 27, 3) := by decide +kernel
theorem dX12_walk_53 : decode cX12_walk 53 = .ok (.bipush 10, 2) := by decide +kernel
theorem dX12_walk_55 : decode cX12_walk 55 = .ok (.iload_n 1, 1) := by decide +kernel
theorem dX12_walk_56 : decode cX12_walk 56 = .ok (.imul, 1) := by decide +kernel
theorem dX12_walk_57 : decode cX12_walk 57 = .ok (.iload_n 2, 1) := by decide +kernel
theorem dX12_walk_58 : decode cX12_walk 58 = .ok (.iadd, 1) := by decide +kernel
theorem dX12_walk_59 : decode cX12_walk 59 = .ok (.iaload, 1) := by decide +kernel
theorem dX12_walk_60 : decode cX12_walk 60 = .ok (.ireturn, 1) := by decide +kernel
theorem bX12_walk_0 {Z : ZT} {X : XT} {μ : Mu} {a1 : Int32} {a2 : Int32} (E : Ent Z X mX12_walk 0 0) {p : Int32 → Mu → Prop} 
    (c : CtrS Z mX12_isPlace [.ref (Z.2.2.1 + 455), .int (nI 0), .int a1] μ (rI p)) (k : ∀ v μ1, p v μ1 → JS Z X 6 [(0, .ref (Z.2.2.1 + 455)), (1, .int a1), (2, .int a2)] [.int v] μ1) :
    JS Z X 0 [(0, .ref (Z.2.2.1 + 455)), (1, .int a1), (2, .int a2)] [] μ := by
  refine J_aload_n E dX12_walk_0 rfl ?_
  refine J_iconst (v := nI 0) E dX12_walk_1 rfl ?_
  refine J_iload_n E dX12_walk_2 rfl ?_
  refine S_callV (As := [.int (nI 0), .int a1]) (rest := []) E dX12_walk_3 c kX12_isPlace ⟨Nat.le_of_ble_eq_true rfl, Nat.le_of_ble_eq_true rfl⟩ rfl (Nat.le_of_ble_eq_true rfl) sh455 rfl rfl w6_63 w6_65 wp_32 (fun r_ μ1 hp_ => ?_)
  obtain ⟨v, rfl, hp_⟩ := hp_
  exact k v μ1 hp_
theorem bX12_walk_6 {Z : ZT} {X : XT} {μ : Mu} {a1 : Int32} {a2 : Int32} {s0 : Int32} (E : Ent Z X mX12_walk 0 0)  
    (kt : s0 = 0 → JS Z X 18 [(0, .ref (Z.2.2.1 + 455))] [] μ) (kf : ¬ (s0 = 0) → JS Z X 9 [(0, .ref (Z.2.2.1 + 455)), (1, .int a1), (2, .int a2)] [] μ) :
    JS Z X 6 [(0, .ref (Z.2.2.1 + 455)), (1, .int a1), (2, .int a2)] [.int s0] μ := by
  refine J_if_eq (tgt := 18) E dX12_walk_6 (by decide) (fun c => ?_) (fun c => ?_)
  · refine J.weak [0] rfl ?_
    exact kt c
  · exact kf c
theorem bX12_walk_9 {Z : ZT} {X : XT} {μ : Mu} {a1 : Int32} {a2 : Int32} (E : Ent Z X mX12_walk 0 0) {p : Int32 → Mu → Prop} 
    (c : CtrS Z mX12_isPlace [.ref (Z.2.2.1 + 455), .int (nI 0), .int a2] μ (rI p)) (k : ∀ v μ1, p v μ1 → JS Z X 15 [(0, .ref (Z.2.2.1 + 455)), (1, .int a1), (2, .int a2)] [.int v] μ1) :
    JS Z X 9 [(0, .ref (Z.2.2.1 + 455)), (1, .int a1), (2, .int a2)] [] μ := by
  refine J_aload_n E dX12_walk_9 rfl ?_
  refine J_iconst (v := nI 0) E dX12_walk_10 rfl ?_
  refine J_iload_n E dX12_walk_11 rfl ?_
  refine S_callV (As := [.int (nI 0), .int a2]) (rest := []) E dX12_walk_12 c kX12_isPlace ⟨Nat.le_of_ble_eq_true rfl, Nat.le_of_ble_eq_true rfl⟩ rfl (Nat.le_of_ble_eq_true rfl) sh455 rfl rfl w6_63 w6_65 wp_32 (fun r_ μ1 hp_ => ?_)
  obtain ⟨v, rfl, hp_⟩ := hp_
  exact k v μ1 hp_
theorem bX12_walk_15 {Z : ZT} {X : XT} {μ : Mu} {a1 : Int32} {a2 : Int32} {s0 : Int32} (E : Ent Z X mX12_walk 0 0)  
    (kt : ¬ s0 = 0 → JS Z X 25 [(0, .ref (Z.2.2.1 + 455)), (1, .int a1), (2, .int a2)] [] μ) (kf : s0 = 0 → JS Z X 18 [(0, .ref (Z.2.2.1 + 455))] [] μ) :
    JS Z X 15 [(0, .ref (Z.2.2.1 + 455)), (1, .int a1), (2, .int a2)] [.int s0] μ := by
  refine J_if_ne (tgt := 25) E dX12_walk_15 (by decide) (fun c => ?_) (fun c => ?_)
  · exact kt c
  · refine J.weak [0] rfl ?_
    exact kf c
theorem bX12_walk_18 {Z : ZT} {X : XT} {μ : Mu} (E : Ent Z X mX12_walk 0 0) {p : Int32 → Mu → Prop} 
    (c : CtrS Z mX12_refuse [.ref (Z.2.2.1 + 455), .int (-2)] μ (rI p)) (k : ∀ v μ1, p v μ1 → JS Z X 24 [] [.int v] μ1) :
    JS Z X 18 [(0, .ref (Z.2.2.1 + 455))] [] μ := by
  refine J_aload_n E dX12_walk_18 rfl ?_
  refine J_bipush (v := -2) E dX12_walk_19 rfl ?_
  refine S_callV (As := [.int (-2)]) (rest := []) E dX12_walk_21 c kX12_refuse ⟨Nat.le_of_ble_eq_true rfl, Nat.le_of_ble_eq_true rfl⟩ rfl (Nat.le_of_ble_eq_true rfl) sh455 rfl rfl w6_51 w6_53 wp_30 (fun r_ μ1 hp_ => ?_)
  obtain ⟨v, rfl, hp_⟩ := hp_
  refine J.weak [] rfl ?_
  exact k v μ1 hp_
theorem bX12_walk_24 {Z : ZT} {X : XT} {μ : Mu} {s0 : Int32} (E : Ent Z X mX12_walk 0 0) {P : Option Value → Mu → Prop} (hB : BodS Z X P) 
    (k : P (some (.int s0)) μ) :
    JS Z X 24 [] [.int s0] μ := by
  exact S_iret E hB dX12_walk_24 rfl k
theorem bX12_walk_25 {Z : ZT} {X : XT} {μ : Mu} {a1 : Int32} {a2 : Int32} (E : Ent Z X mX12_walk 0 0) {p : Mu → Prop} 
    (c : CtrS Z mX12_findWalks [.ref (Z.2.2.1 + 455)] μ (rV p)) (k : ∀ μ1, p μ1 → JS Z X 29 [(0, .ref (Z.2.2.1 + 455)), (1, .int a1), (2, .int a2)] [] μ1) :
    JS Z X 25 [(0, .ref (Z.2.2.1 + 455)), (1, .int a1), (2, .int a2)] [] μ := by
  refine J_aload_n E dX12_walk_25 rfl ?_
  refine S_callV (As := []) (rest := []) E dX12_walk_26 c kX12_findWalks ⟨Nat.le_of_ble_eq_true rfl, Nat.le_of_ble_eq_true rfl⟩ rfl (Nat.le_of_ble_eq_true rfl) sh455 rfl rfl w6_188 w6_190 wp_46 (fun r_ μ1 hp_ => ?_)
  obtain ⟨rfl, hp_⟩ := hp_
  exact k μ1 hp_
theorem bX12_walk_29 {Z : ZT} {X : XT} {μ : Mu} {a1 : Int32} {a2 : Int32} (E : Ent Z X mX12_walk 0 0)  (s1_ : vp_in (((nI 10) * a1) + a2) 100)
    (kt : (μ 461 (ix (((nI 10) * a1) + a2))) < (nI 100000) → JS Z X 49 [(0, .ref (Z.2.2.1 + 455)), (1, .int a1), (2, .int a2)] [] μ) (kf : ¬ ((μ 461 (ix (((nI 10) * a1) + a2))) < (nI 100000)) → JS Z X 45 [] [] μ) :
    JS Z X 29 [(0, .ref (Z.2.2.1 + 455)), (1, .int a1), (2, .int a2)] [] μ := by
  refine J_aload_n E dX12_walk_29 rfl ?_
  refine S_get (ci := 12) (q := 11) (v := .ref (Z.2.2.1 + 461)) E dX12_walk_30 fs_X12_27 sh455 rfl ?_
  refine J_bipush (v := nI 10) E dX12_walk_33 rfl ?_
  refine J_iload_n E dX12_walk_35 rfl ?_
  refine J_imul E dX12_walk_36 ?_
  refine J_iload_n E dX12_walk_37 rfl ?_
  refine J_iadd E dX12_walk_38 ?_
  refine S_iald E dX12_walk_39 sh461 s1_ ?_
  refine J_ldc (v := nI 100000) E dX12_walk_40 w6_192 ?_
  refine J_icmp_lt (tgt := 49) E dX12_walk_42 (by decide) (fun c => ?_) (fun c => ?_)
  · exact kt c
  · refine J.weak [] rfl ?_
    exact kf c
theorem bX12_walk_45 {Z : ZT} {X : XT} {μ : Mu} (E : Ent Z X mX12_walk 0 0)  
    (k : JS Z X 60 [] [.int (-1)] μ) :
    JS Z X 45 [] [] μ := by
  refine J_iconst (v := -1) E dX12_walk_45 rfl ?_
  refine J_goto (tgt := 60) E dX12_walk_46 (by decide) ?_
  exact k
theorem bX12_walk_49 {Z : ZT} {X : XT} {μ : Mu} {a1 : Int32} {a2 : Int32} (E : Ent Z X mX12_walk 0 0)  (s1_ : vp_in (((nI 10) * a1) + a2) 100)
    (k : JS Z X 60 [] [.int (μ 461 (ix (((nI 10) * a1) + a2)))] μ) :
    JS Z X 49 [(0, .ref (Z.2.2.1 + 455)), (1, .int a1), (2, .int a2)] [] μ := by
  refine J_aload_n E dX12_walk_49 rfl ?_
  refine S_get (ci := 12) (q := 11) (v := .ref (Z.2.2.1 + 461)) E dX12_walk_50 fs_X12_27 sh455 rfl ?_
  refine J_bipush (v := nI 10) E dX12_walk_53 rfl ?_
  refine J_iload_n E dX12_walk_55 rfl ?_
  refine J_imul E dX12_walk_56 ?_
  refine J_iload_n E dX12_walk_57 rfl ?_
  refine J_iadd E dX12_walk_58 ?_
  refine S_iald E dX12_walk_59 sh461 s1_ ?_
  refine J.weak [] rfl ?_
  exact k
theorem bX12_walk_60 {Z : ZT} {X : XT} {μ : Mu} {s0 : Int32} (E : Ent Z X mX12_walk 0 0) {P : Option Value → Mu → Prop} (hB : BodS Z X P) 
    (k : P (some (.int s0)) μ) :
    JS Z X 60 [] [.int s0] μ := by
  exact S_iret E hB dX12_walk_60 rfl k
theorem dX12_seePath_0 : decode cX12_seePath 0 = .ok (.iload_n 1, 1) := by decide +kernel
theorem dX12_seePath_1 : decode cX12_seePath 1 = .ok (.istore_n 3, 1) := by decide +kernel
theorem dX12_seePath_2 : decode cX12_seePath 2 = .ok (.aload_n 0, 1) := by decide +kernel
theorem dX12_seePath_3 : decode cX12_seePath 3 = .ok (.dup, 1) := by decide +kernel
theorem dX12_seePath_4 : decode cX12_seePath 4 = .ok (.getfield 161, 3) := by decide +kernel
theorem dX12_seePath_7 : decode cX12_seePath 7 = .ok (.aload_n 0, 1) := by decide +kernel
theorem dX12_seePath_8 : decode cX12_seePath 8 = .ok (.getfield 7, 3) := by decide +kernel
theorem dX12_seePath_11 : decode cX12_seePath 11 = .ok (.bipush 101, 2) := by decide +kernel
theorem dX12_seePath_13 : decode cX12_seePath 13 = .ok (.iload_n 3, 1) := by decide +kernel
theorem dX12_seePath_14 : decode cX12_seePath 14 = .ok (.iadd, 1) := by decide +kernel
theorem dX12_seePath_15 : decode cX12_seePath 15 = .ok (.iaload, 1) := by decide +kernel
theorem dX12_seePath_16 : decode cX12_seePath 16 = .ok (.ior, 1) := by decide +kernel
theorem dX12_seePath_17 : decode cX12_seePath 17 = .ok (.putfield 161, 3) := by decide +kernel
theorem dX12_seePath_20 : decode cX12_seePath 20 = .ok (.iload_n 3, 1) := by decide +kernel
theorem dX12_seePath_21 : decode cX12_seePath 21 = .ok (.iload_n 2, 1) := by decide +kernel
theorem dX12_seePath_22 : decode cX12_seePath 22 = .ok (.if_icmp .eq 100, 3) := by decide +kernel
theorem dX12_seePath_25 : decode cX12_seePath 25 = .ok (.iconst 0, 1) := by decide +kernel
theorem dX12_seePath_26 : decode cX12_seePath 26 = .ok (.istore 4, 2) := by decide +kernel
theorem dX12_seePath_28 : decode cX12_seePath 28 = .ok (.iload 4, 2) := by decide +kernel
theorem dX12_seePath_30 : decode cX12_seePath 30 = .ok (.iload_n 3, 1) := by decide +kernel
theorem dX12_seePath_31 : decode cX12_seePath 31 = .ok (.if_icmp .eq 61, 3) := by decide +kernel
theorem dX12_seePath_34 : decode cX12_seePath 34 = .ok (.aload_n 0, 1) := by decide +kernel
theorem dX12_seePath_35 : decode cX12_seePath 35 = .ok (.getfield 7, 3) := by decide +kernel
theorem dX12_seePath_38 : decode cX12_seePath 38 = .ok (.iconst 1, 1) := by decide +kernel
theorem dX12_seePath_39 : decode cX12_seePath 39 = .ok (.bipush 10, 2) := by decide +kernel
theorem dX12_seePath_41 : decode cX12_seePath 41 = .ok (.iload_n 3, 1) := by decide +kernel
theorem dX12_seePath_42 : decode cX12_seePath 42 = .ok (.imul, 1) := by decide +kernel
theorem dX12_seePath_43 : decode cX12_seePath 43 = .ok (.iadd, 1) := by decide +kernel
theorem dX12_seePath_44 : decode cX12_seePath 44 = .ok (.iload 4, 2) := by decide +kernel
theorem dX12_seePath_46 : decode cX12_seePath 46 = .ok (.iadd, 1) := by decide +kernel
theorem dX12_seePath_47 : decode cX12_seePath 47 = .ok (.iaload, 1) := by decide +kernel
theorem dX12_seePath_48 : decode cX12_seePath 48 = .ok (.ifCond .eq 44, 3) := by decide +kernel
theorem dX12_seePath_51 : decode cX12_seePath 51 = .ok (.aload_n 0, 1) := by decide +kernel
theorem dX12_seePath_52 : decode cX12_seePath 52 = .ok (.getfield 7, 3) := by decide +kernel
theorem dX12_seePath_55 : decode cX12_seePath 55 = .ok (.iconst 1, 1) := by decide +kernel
theorem dX12_seePath_56 : decode cX12_seePath 56 = .ok (.bipush 10, 2) := by decide +kernel
theorem dX12_seePath_58 : decode cX12_seePath 58 = .ok (.iload_n 3, 1) := by decide +kernel
theorem dX12_seePath_59 : decode cX12_seePath 59 = .ok (.imul, 1) := by decide +kernel
theorem dX12_seePath_60 : decode cX12_seePath 60 = .ok (.iadd, 1) := by decide +kernel
theorem dX12_seePath_61 : decode cX12_seePath 61 = .ok (.iload 4, 2) := by decide +kernel
theorem dX12_seePath_63 : decode cX12_seePath 63 = .ok (.iadd, 1) := by decide +kernel
theorem dX12_seePath_64 : decode cX12_seePath 64 = .ok (.iaload, 1) := by decide +kernel
theorem dX12_seePath_65 : decode cX12_seePath 65 = .ok (.aload_n 0, 1) := by decide +kernel
theorem dX12_seePath_66 : decode cX12_seePath 66 = .ok (.getfield 27, 3) := by decide +kernel
theorem dX12_seePath_69 : decode cX12_seePath 69 = .ok (.bipush 10, 2) := by decide +kernel
theorem dX12_seePath_71 : decode cX12_seePath 71 = .ok (.iload 4, 2) := by decide +kernel
theorem dX12_seePath_73 : decode cX12_seePath 73 = .ok (.imul, 1) := by decide +kernel
theorem dX12_seePath_74 : decode cX12_seePath 74 = .ok (.iload_n 2, 1) := by decide +kernel
theorem dX12_seePath_75 : decode cX12_seePath 75 = .ok (.iadd, 1) := by decide +kernel
theorem dX12_seePath_76 : decode cX12_seePath 76 = .ok (.iaload, 1) := by decide +kernel
theorem dX12_seePath_77 : decode cX12_seePath 77 = .ok (.iadd, 1) := by decide +kernel
theorem dX12_seePath_78 : decode cX12_seePath 78 = .ok (.aload_n 0, 1) := by decide +kernel
theorem dX12_seePath_79 : decode cX12_seePath 79 = .ok (.getfield 27, 3) := by decide +kernel
theorem dX12_seePath_82 : decode cX12_seePath 82 = .ok (.bipush 10, 2) := by decide +kernel
theorem dX12_seePath_84 : decode cX12_seePath 84 = .ok (.iload_n 3, 1) := by decide +kernel
theorem dX12_seePath_85 : decode cX12_seePath 85 = .ok (.imul, 1) := by decide +kernel
theorem dX12_seePath_86 : decode cX12_seePath 86 = .ok (.iload_n 2, 1) := by decide +kernel
theorem dX12_seePath_87 : decode cX12_seePath 87 = .ok (.iadd, 1) := by decide +kernel
theorem dX12_seePath_88 : decode cX12_seePath 88 = .ok (.iaload, 1) := by decide +kernel
theorem dX12_seePath_89 : decode cX12_seePath 89 = .ok (.if_icmp .eq 9, 3) := by decide +kernel
theorem dX12_seePath_92 : decode cX12_seePath 92 = .ok (.iinc 4 1, 3) := by decide +kernel
theorem dX12_seePath_95 : decode cX12_seePath 95 = .ok (.goto (-67), 3) := by decide +kernel
theorem dX12_seePath_98 : decode cX12_seePath 98 = .ok (.iload 4, 2) := by decide +kernel
theorem dX12_seePath_100 : decode cX12_seePath 100 = .ok (.istore_n 3, 1) := by decide +kernel
theorem dX12_seePath_101 : decode cX12_seePath 101 = .ok (.aload_n 0, 1) := by decide +kernel
theorem dX12_seePath_102 : decode cX12_seePath 102 = .ok (.dup, 1) := by decide +kernel
theorem dX12_seePath_103 : decode cX12_seePath 103 = .ok (.getfield 161, 3) := by decide +kernel
theorem dX12_seePath_106 : decode cX12_seePath 106 = .ok (.aload_n 0, 1) := by decide +kernel
theorem dX12_seePath_107 : decode cX12_seePath 107 = .ok (.getfield 7, 3) := by decide +kernel
theorem dX12_seePath_110 : decode cX12_seePath 110 = .ok (.bipush 101, 2) := by decide +kernel
theorem dX12_seePath_112 : decode cX12_seePath 112 = .ok (.iload_n 3, 1) := by decide +kernel
theorem dX12_seePath_113 : decode cX12_seePath 113 = .ok (.iadd, 1) := by decide +kernel
theorem dX12_seePath_114 : decode cX12_seePath 114 = .ok (.iaload, 1) := by decide +kernel
theorem dX12_seePath_115 : decode cX12_seePath 115 = .ok (.ior, 1) := by decide +kernel
theorem dX12_seePath_116 : decode cX12_seePath 116 = .ok (.putfield 161, 3) := by decide +kernel
theorem dX12_seePath_119 : decode cX12_seePath 119 = .ok (.goto (-99), 3) := by decide +kernel
theorem dX12_seePath_122 : decode cX12_seePath 122 = .ok (.return_, 1) := by decide +kernel
theorem bX12_seePath_0 {Z : ZT} {X : XT} {μ : Mu} {a1 : Int32} {a2 : Int32} (E : Ent Z X mX12_seePath 0 0)  (s1_ : vp_in ((nI 101) + a1) 988)
    (k : JS Z X 20 [(0, .ref (Z.2.2.1 + 455)), (2, .int a2), (3, .int a1)] [] (uR μ 455 (upd (μ 455) 12 ((μ 455 12) ||| (μ 456 (ix ((nI 101) + a1))))))) :
    JS Z X 0 [(0, .ref (Z.2.2.1 + 455)), (1, .int a1), (2, .int a2)] [] μ := by
  refine J_iload_n E dX12_seePath_0 rfl ?_
  refine J_istore_n (lv' := [(0, .ref (Z.2.2.1 + 455)), (1, .int a1), (2, .int a2), (3, .int a1)]) E dX12_seePath_1 (Nat.le_of_ble_eq_true rfl) rfl ?_
  refine J_aload_n E dX12_seePath_2 rfl ?_
  refine J_dup E dX12_seePath_3 rfl ?_
  refine S_get (ci := 12) (q := 12) (v := .int (μ 455 12)) E dX12_seePath_4 fs_X12_161 sh455 rfl ?_
  refine J_aload_n E dX12_seePath_7 rfl ?_
  refine S_get (ci := 12) (q := 0) (v := .ref (Z.2.2.1 + 456)) E dX12_seePath_8 fs_X12_7 sh455 rfl ?_
  refine J_bipush (v := nI 101) E dX12_seePath_11 rfl ?_
  refine J_iload_n E dX12_seePath_13 rfl ?_
  refine J_iadd E dX12_seePath_14 ?_
  refine S_iald E dX12_seePath_15 sh456 s1_ ?_
  refine J_ior E dX12_seePath_16 ?_
  refine S_puti E dX12_seePath_17 fs_X12_161 fp_X12_12 sh455 rfl ?_
  refine J.weak [0, 2, 3] rfl ?_
  exact k
theorem bX12_seePath_20 {Z : ZT} {X : XT} {μ : Mu} {a2 : Int32} {a3 : Int32} (E : Ent Z X mX12_seePath 0 0)  
    (kt : a3 = a2 → JS Z X 122 [] [] μ) (kf : ¬ (a3 = a2) → JS Z X 25 [(0, .ref (Z.2.2.1 + 455)), (2, .int a2), (3, .int a3)] [] μ) :
    JS Z X 20 [(0, .ref (Z.2.2.1 + 455)), (2, .int a2), (3, .int a3)] [] μ := by
  refine J_iload_n E dX12_seePath_20 rfl ?_
  refine J_iload_n E dX12_seePath_21 rfl ?_
  refine J_icmp_eq (tgt := 122) E dX12_seePath_22 (by decide) (fun c => ?_) (fun c => ?_)
  · refine J.weak [] rfl ?_
    exact kt c
  · exact kf c
theorem bX12_seePath_25 {Z : ZT} {X : XT} {μ : Mu} {a2 : Int32} {a3 : Int32} (E : Ent Z X mX12_seePath 0 0)  
    (k : JS Z X 28 [(0, .ref (Z.2.2.1 + 455)), (2, .int a2), (3, .int a3), (4, .int (nI 0))] [] μ) :
    JS Z X 25 [(0, .ref (Z.2.2.1 + 455)), (2, .int a2), (3, .int a3)] [] μ := by
  refine J_iconst (v := nI 0) E dX12_seePath_25 rfl ?_
  refine J_istore (lv' := [(0, .ref (Z.2.2.1 + 455)), (2, .int a2), (3, .int a3), (4, .int (nI 0))]) E dX12_seePath_26 (Nat.le_of_ble_eq_true rfl) rfl ?_
  exact k
theorem bX12_seePath_28 {Z : ZT} {X : XT} {μ : Mu} {a2 : Int32} {a3 : Int32} {a4 : Int32} (E : Ent Z X mX12_seePath 0 0)  
    (kt : a4 = a3 → JS Z X 92 [(0, .ref (Z.2.2.1 + 455)), (2, .int a2), (3, .int a3), (4, .int a4)] [] μ) (kf : ¬ (a4 = a3) → JS Z X 34 [(0, .ref (Z.2.2.1 + 455)), (2, .int a2), (3, .int a3), (4, .int a4)] [] μ) :
    JS Z X 28 [(0, .ref (Z.2.2.1 + 455)), (2, .int a2), (3, .int a3), (4, .int a4)] [] μ := by
  refine J_iload E dX12_seePath_28 rfl ?_
  refine J_iload_n E dX12_seePath_30 rfl ?_
  refine J_icmp_eq (tgt := 92) E dX12_seePath_31 (by decide) (fun c => ?_) (fun c => ?_)
  · exact kt c
  · exact kf c
theorem bX12_seePath_34 {Z : ZT} {X : XT} {μ : Mu} {a2 : Int32} {a3 : Int32} {a4 : Int32} (E : Ent Z X mX12_seePath 0 0)  (s1_ : vp_in (((nI 1) + ((nI 10) * a3)) + a4) 988)
    (kt : (μ 456 (ix (((nI 1) + ((nI 10) * a3)) + a4))) = 0 → JS Z X 92 [(0, .ref (Z.2.2.1 + 455)), (2, .int a2), (3, .int a3), (4, .int a4)] [] μ) (kf : ¬ ((μ 456 (ix (((nI 1) + ((nI 10) * a3)) + a4))) = 0) → JS Z X 51 [(0, .ref (Z.2.2.1 + 455)), (2, .int a2), (3, .int a3), (4, .int a4)] [] μ) :
    JS Z X 34 [(0, .ref (Z.2.2.1 + 455)), (2, .int a2), (3, .int a3), (4, .int a4)] [] μ := by
  refine J_aload_n E dX12_seePath_34 rfl ?_
  refine S_get (ci := 12) (q := 0) (v := .ref (Z.2.2.1 + 456)) E dX12_seePath_35 fs_X12_7 sh455 rfl ?_
  refine J_iconst (v := nI 1) E dX12_seePath_38 rfl ?_
  refine J_bipush (v := nI 10) E dX12_seePath_39 rfl ?_
  refine J_iload_n E dX12_seePath_41 rfl ?_
  refine J_imul E dX12_seePath_42 ?_
  refine J_iadd E dX12_seePath_43 ?_
  refine J_iload E dX12_seePath_44 rfl ?_
  refine J_iadd E dX12_seePath_46 ?_
  refine S_iald E dX12_seePath_47 sh456 s1_ ?_
  refine J_if_eq (tgt := 92) E dX12_seePath_48 (by decide) (fun c => ?_) (fun c => ?_)
  · exact kt c
  · exact kf c
theorem bX12_seePath_51 {Z : ZT} {X : XT} {μ : Mu} {a2 : Int32} {a3 : Int32} {a4 : Int32} (E : Ent Z X mX12_seePath 0 0)  (s1_ : vp_in (((nI 1) + ((nI 10) * a3)) + a4) 988) (s2_ : vp_in (((nI 10) * a4) + a2) 100) (s3_ : vp_in (((nI 10) * a3) + a2) 100)
    (kt : ((μ 456 (ix (((nI 1) + ((nI 10) * a3)) + a4))) + (μ 461 (ix (((nI 10) * a4) + a2)))) = (μ 461 (ix (((nI 10) * a3) + a2))) → JS Z X 98 [(0, .ref (Z.2.2.1 + 455)), (2, .int a2), (4, .int a4)] [] μ) (kf : ¬ (((μ 456 (ix (((nI 1) + ((nI 10) * a3)) + a4))) + (μ 461 (ix (((nI 10) * a4) + a2)))) = (μ 461 (ix (((nI 10) * a3) + a2)))) → JS Z X 92 [(0, .ref (Z.2.2.1 + 455)), (2, .int a2), (3, .int a3), (4, .int a4)] [] μ) :
    JS Z X 51 [(0, .ref (Z.2.2.1 + 455)), (2, .int a2), (3, .int a3), (4, .int a4)] [] μ := by
  refine J_aload_n E dX12_seePath_51 rfl ?_
  refine S_get (ci := 12) (q := 0) (v := .ref (Z.2.2.1 + 456)) E dX12_seePath_52 fs_X12_7 sh455 rfl ?_
  refine J_iconst (v := nI 1) E dX12_seePath_55 rfl ?_
  refine J_bipush (v := nI 10) E dX12_seePath_56 rfl ?_
  refine J_iload_n E dX12_seePath_58 rfl ?_
  refine J_imul E dX12_seePath_59 ?_
  refine J_iadd E dX12_seePath_60 ?_
  refine J_iload E dX12_seePath_61 rfl ?_
  refine J_iadd E dX12_seePath_63 ?_
  refine S_iald E dX12_seePath_64 sh456 s1_ ?_
  refine J_aload_n E dX12_seePath_65 rfl ?_
  refine S_get (ci := 12) (q := 11) (v := .ref (Z.2.2.1 + 461)) E dX12_seePath_66 fs_X12_27 sh455 rfl ?_
  refine J_bipush (v := nI 10) E dX12_seePath_69 rfl ?_
  refine J_iload E dX12_seePath_71 rfl ?_
  refine J_imul E dX12_seePath_73 ?_
  refine J_iload_n E dX12_seePath_74 rfl ?_
  refine J_iadd E dX12_seePath_75 ?_
  refine S_iald E dX12_seePath_76 sh461 s2_ ?_
  refine J_iadd E dX12_seePath_77 ?_
  refine J_aload_n E dX12_seePath_78 rfl ?_
  refine S_get (ci := 12) (q := 11) (v := .ref (Z.2.2.1 + 461)) E dX12_seePath_79 fs_X12_27 sh455 rfl ?_
  refine J_bipush (v := nI 10) E dX12_seePath_82 rfl ?_
  refine J_iload_n E dX12_seePath_84 rfl ?_
  refine J_imul E dX12_seePath_85 ?_
  refine J_iload_n E dX12_seePath_86 rfl ?_
  refine J_iadd E dX12_seePath_87 ?_
  refine S_iald E dX12_seePath_88 sh461 s3_ ?_
  refine J_icmp_eq (tgt := 98) E dX12_seePath_89 (by decide) (fun c => ?_) (fun c => ?_)
  · refine J.weak [0, 1, 3] rfl ?_
    exact kt c
  · exact kf c
theorem bX12_seePath_92 {Z : ZT} {X : XT} {μ : Mu} {a2 : Int32} {a3 : Int32} {a4 : Int32} (E : Ent Z X mX12_seePath 0 0)  
    (k : JS Z X 28 [(0, .ref (Z.2.2.1 + 455)), (2, .int a2), (3, .int a3), (4, .int (a4 + nI 1))] [] μ) :
    JS Z X 92 [(0, .ref (Z.2.2.1 + 455)), (2, .int a2), (3, .int a3), (4, .int a4)] [] μ := by
  refine J_iinc (v := a4 + nI 1) (lv' := [(0, .ref (Z.2.2.1 + 455)), (2, .int a2), (3, .int a3), (4, .int (a4 + nI 1))]) E dX12_seePath_92 rfl rfl (Nat.le_of_ble_eq_true rfl) rfl ?_
  refine J_goto (tgt := 28) E dX12_seePath_95 (by decide) ?_
  exact k
theorem bX12_seePath_98 {Z : ZT} {X : XT} {μ : Mu} {a2 : Int32} {a4 : Int32} (E : Ent Z X mX12_seePath 0 0)  (s1_ : vp_in ((nI 101) + a4) 988)
    (k : JS Z X 119 [(0, .ref (Z.2.2.1 + 455)), (2, .int a2), (3, .int a4)] [] (uR μ 455 (upd (μ 455) 12 ((μ 455 12) ||| (μ 456 (ix ((nI 101) + a4))))))) :
    JS Z X 98 [(0, .ref (Z.2.2.1 + 455)), (2, .int a2), (4, .int a4)] [] μ := by
  refine J_iload E dX12_seePath_98 rfl ?_
  refine J_istore_n (lv' := [(0, .ref (Z.2.2.1 + 455)), (2, .int a2), (3, .int a4), (4, .int a4)]) E dX12_seePath_100 (Nat.le_of_ble_eq_true rfl) rfl ?_
  refine J_aload_n E dX12_seePath_101 rfl ?_
  refine J_dup E dX12_seePath_102 rfl ?_
  refine S_get (ci := 12) (q := 12) (v := .int (μ 455 12)) E dX12_seePath_103 fs_X12_161 sh455 rfl ?_
  refine J_aload_n E dX12_seePath_106 rfl ?_
  refine S_get (ci := 12) (q := 0) (v := .ref (Z.2.2.1 + 456)) E dX12_seePath_107 fs_X12_7 sh455 rfl ?_
  refine J_bipush (v := nI 101) E dX12_seePath_110 rfl ?_
  refine J_iload_n E dX12_seePath_112 rfl ?_
  refine J_iadd E dX12_seePath_113 ?_
  refine S_iald E dX12_seePath_114 sh456 s1_ ?_
  refine J_ior E dX12_seePath_115 ?_
  refine S_puti E dX12_seePath_116 fs_X12_161 fp_X12_12 sh455 rfl ?_
  refine J.weak [0, 1, 2] rfl ?_
  exact k
theorem bX12_seePath_119 {Z : ZT} {X : XT} {μ : Mu} {a2 : Int32} {a3 : Int32} (E : Ent Z X mX12_seePath 0 0)  
    (k : JS Z X 20 [(0, .ref (Z.2.2.1 + 455)), (2, .int a2), (3, .int a3)] [] μ) :
    JS Z X 119 [(0, .ref (Z.2.2.1 + 455)), (2, .int a2), (3, .int a3)] [] μ := by
  refine J_goto (tgt := 20) E dX12_seePath_119 (by decide) ?_
  exact k
theorem bX12_seePath_122 {Z : ZT} {X : XT} {μ : Mu} (E : Ent Z X mX12_seePath 0 0) {P : Option Value → Mu → Prop} (hB : BodS Z X P) 
    (k : P none μ) :
    JS Z X 122 [] [] μ := by
  exact S_vret E hB dX12_seePath_122 rfl k
theorem dX12_searchFor_0 : decode cX12_searchFor 0 = .ok (.aload_n 0, 1) := by decide +kernel
theorem dX12_searchFor_1 : decode cX12_searchFor 1 = .ok (.getfield 7, 3) := by decide +kernel
theorem dX12_searchFor_4 : decode cX12_searchFor 4 = .ok (.sipush 179, 3) := by decide +kernel
theorem dX12_searchFor_7 : decode cX12_searchFor 7 = .ok (.iload_n 2, 1) := by decide +kernel
theorem dX12_searchFor_8 : decode cX12_searchFor 8 = .ok (.iadd, 1) := by decide +kernel
theorem dX12_searchFor_9 : decode cX12_searchFor 9 = .ok (.iaload, 1) := by decide +kernel
theorem dX12_searchFor_10 : decode cX12_searchFor 10 = .ok (.iconst 1, 1) := by decide +kernel
theorem dX12_searchFor_11 : decode cX12_searchFor 11 = .ok (.iload_n 3, 1) := by decide +kernel
theorem dX12_searchFor_12 : decode cX12_searchFor 12 = .ok (.ishl, 1) := by decide +kernel
theorem dX12_searchFor_13 : decode cX12_searchFor 13 = .ok (.ior, 1) := by decide +kernel
theorem dX12_searchFor_14 : decode cX12_searchFor 14 = .ok (.istore 4, 2) := by decide +kernel
theorem dX12_searchFor_16 : decode cX12_searchFor 16 = .ok (.iload_n 1, 1) := by decide +kernel
theorem dX12_searchFor_17 : decode cX12_searchFor 17 = .ok (.istore 5, 2) := by decide +kernel
theorem dX12_searchFor_19 : decode cX12_searchFor 19 = .ok (.iconst 0, 1) := by decide +kernel
theorem dX12_searchFor_20 : decode cX12_searchFor 20 = .ok (.istore 6, 2) := by decide +kernel
theorem dX12_searchFor_22 : decode cX12_searchFor 22 = .ok (.aload_n 0, 1) := by decide +kernel
theorem dX12_searchFor_23 : decode cX12_searchFor 23 = .ok (.iconst 0, 1) := by decide +kernel
theorem dX12_searchFor_24 : decode cX12_searchFor 24 = .ok (.putfield 161, 3) := by decide +kernel
theorem dX12_searchFor_27 : decode cX12_searchFor 27 = .ok (.aload_n 0, 1) := by decide +kernel
theorem dX12_searchFor_28 : decode cX12_searchFor 28 = .ok (.getfield 27, 3) := by decide +kernel
theorem dX12_searchFor_31 : decode cX12_searchFor 31 = .ok (.bipush 10, 2) := by decide +kernel
theorem dX12_searchFor_33 : decode cX12_searchFor 33 = .ok (.iload_n 1, 1) := by decide +kernel
theorem dX12_searchFor_34 : decode cX12_searchFor 34 = .ok (.imul, 1) := by decide +kernel
theorem dX12_searchFor_35 : decode cX12_searchFor 35 = .ok (.iload_n 3, 1) := by decide +kernel
theorem dX12_searchFor_36 : decode cX12_searchFor 36 = .ok (.iadd, 1) := by decide +kernel
theorem dX12_searchFor_37 : decode cX12_searchFor 37 = .ok (.iaload, 1) := by decide +kernel
theorem dX12_searchFor_38 : decode cX12_searchFor 38 = .ok (.ldc 157, 2) := by decide +kernel
theorem dX12_searchFor_40 : decode cX12_searchFor 40 = .ok (.if_icmp .lt 6, 3) := by decide +kernel
theorem dX12_searchFor_43 : decode cX12_searchFor 43 = .ok (.ldc 157, 2) := by decide +kernel
theorem dX12_searchFor_45 : decode cX12_searchFor 45 = .ok (.ireturn, 1) := by decide +kernel
theorem dX12_searchFor_46 : decode cX12_searchFor 46 = .ok (.iconst 0, 1) := by decide +kernel
theorem dX12_searchFor_47 : decode cX12_searchFor 47 = .ok (.istore 7, 2) := by decide +kernel
theorem dX12_searchFor_49 : decode cX12_searchFor 49 = .ok (.iload 7, 2) := by decide +kernel
theorem dX12_searchFor_51 : decode cX12_searchFor 51 = .ok (.ifCond .ne 168, 3) := by decide +kernel
theorem dX12_searchFor_54 : decode cX12_searchFor 54 = .ok (.iconst (-1), 1) := by decide +kernel
theorem dX12_searchFor_55 : decode cX12_searchFor 55 = .ok (.istore 8, 2) := by decide +kernel
theorem dX12_searchFor_57 : decode cX12_searchFor 57 = .ok (.iconst 0, 1) := by decide +kernel
theorem dX12_searchFor_58 : decode cX12_searchFor 58 = .ok (.istore 9, 2) := by decide +kernel
theorem dX12_searchFor_60 : decode cX12_searchFor 60 = .ok (.iload 9, 2) := by decide +kernel
theorem dX12_searchFor_62 : decode cX12_searchFor 62 = .ok (.aload_n 0, 1) := by decide +kernel
theorem dX12_searchFor_63 : decode cX12_searchFor 63 = .ok (.getfield 7, 3) := by decide +kernel
theorem dX12_searchFor_66 : decode cX12_searchFor 66 = .ok (.iconst 0, 1) := by decide +kernel
theorem dX12_searchFor_67 : decode cX12_searchFor 67 = .ok (.iaload, 1) := by decide +kernel
theorem dX12_searchFor_68 : decode cX12_searchFor 68 = .ok (.if_icmp .ge 94, 3) := by decide +kernel
theorem dX12_searchFor_71 : decode cX12_searchFor 71 = .ok (.iload 4, 2) := by decide +kernel
theorem dX12_searchFor_73 : decode cX12_searchFor 73 = .ok (.iload 9, 2) := by decide +kernel
theorem dX12_searchFor_75 : decode cX12_searchFor 75 = .ok (.ishr, 1) := by decide +kernel
theorem dX12_searchFor_76 : decode cX12_searchFor 76 = .ok (.iconst 1, 1) := by decide +kernel
theorem dX12_searchFor_77 : decode cX12_searchFor 77 = .ok (.iand, 1) := by decide +kernel
theorem dX12_searchFor_78 : decode cX12_searchFor 78 = .ok (.iconst 1, 1) := by decide +kernel
theorem dX12_searchFor_79 : decode cX12_searchFor 79 = .ok (.if_icmp .ne 25, 3) := by decide +kernel
theorem dX12_searchFor_82 : decode cX12_searchFor 82 = .ok (.aload_n 0, 1) := by decide +kernel
theorem dX12_searchFor_83 : decode cX12_searchFor 83 = .ok (.getfield 27, 3) := by decide +kernel
theorem dX12_searchFor_86 : decode cX12_searchFor 86 = .ok (.bipush 10, 2) := by decide +kernel
theorem dX12_searchFor_88 : decode cX12_searchFor 88 = .ok (.iload 5, 2) := by decide +kernel
theorem dX12_searchFor_90 : decode cX12_searchFor 90 = .ok (.imul, 1) := by decide +kernel
theorem dX12_searchFor_91 : decode cX12_searchFor 91 = .ok (.iload 9, 2) := by decide +kernel
theorem dX12_searchFor_93 : decode cX12_searchFor 93 = .ok (.iadd, 1) := by decide +kernel
theorem dX12_searchFor_94 : decode cX12_searchFor 94 = .ok (.iaload, 1) := by decide +kernel
theorem dX12_searchFor_95 : decode cX12_searchFor 95 = .ok (.ldc 157, 2) := by decide +kernel
theorem dX12_searchFor_97 : decode cX12_searchFor 97 = .ok (.if_icmp .ge 7, 3) := by decide +kernel
theorem dX12_searchFor_100 : decode cX12_searchFor 100 = .ok (.iconst 1, 1) := by decide +kernel
theorem dX12_searchFor_101 : decode cX12_searchFor 101 = .ok (.goto 4, 3) := by decide +kernel
theorem dX12_searchFor_104 : decode cX12_searchFor 104 = .ok (.iconst 0, 1) := by decide +kernel
theorem dX12_searchFor_105 : decode cX12_searchFor 105 = .ok (.istore 10, 2) := by decide +kernel
theorem dX12_searchFor_107 : decode cX12_searchFor 107 = .ok (.iload 10, 2) := by decide +kernel
theorem dX12_searchFor_109 : decode cX12_searchFor 109 = .ok (.ifCond .eq 43, 3) := by decide +kernel
theorem dX12_searchFor_112 : decode cX12_searchFor 112 = .ok (.iload 8, 2) := by decide +kernel
theorem dX12_searchFor_114 : decode cX12_searchFor 114 = .ok (.iconst (-1), 1) := by decide +kernel
theorem dX12_searchFor_115 : decode cX12_searchFor 115 = .ok (.if_icmp .eq 32, 3) := by decide +kernel
theorem dX12_searchFor_118 : decode cX12_searchFor 118 = .ok (.aload_n 0, 1) := by decide +kernel
theorem dX12_searchFor_119 : decode cX12_searchFor 119 = .ok (.getfield 27, 3) := by decide +kernel
theorem dX12_searchFor_122 : decode cX12_searchFor 122 = .ok (.bipush 10, 2) := by decide +kernel
theorem dX12_searchFor_124 : decode cX12_searchFor 124 = .ok (.iload 5, 2) := by decide +kernel
theorem dX12_searchFor_126 : decode cX12_searchFor 126 = .ok (.imul, 1) := by decide +kernel
theorem dX12_searchFor_127 : decode cX12_searchFor 127 = .ok (.iload 9, 2) := by decide +kernel
theorem dX12_searchFor_129 : decode cX12_searchFor 129 = .ok (.iadd, 1) := by decide +kernel
theorem dX12_searchFor_130 : decode cX12_searchFor 130 = .ok (.iaload, 1) := by decide +kernel
theorem dX12_searchFor_131 : decode cX12_searchFor 131 = .ok (.aload_n 0, 1) := by decide +kernel
theorem dX12_searchFor_132 : decode cX12_searchFor 132 = .ok (.getfield 27, 3) := by decide +kernel
theorem dX12_searchFor_135 : decode cX12_searchFor 135 = .ok (.bipush 10, 2) := by decide +kernel
theorem dX12_searchFor_137 : decode cX12_searchFor 137 = .ok (.iload 5, 2) := by decide +kernel
theorem dX12_searchFor_139 : decode cX12_searchFor 139 = .ok (.imul, 1) := by decide +kernel
theorem dX12_searchFor_140 : decode cX12_searchFor 140 = .ok (.iload 8, 2) := by decide +kernel
theorem dX12_searchFor_142 : decode cX12_searchFor 142 = .ok (.iadd, 1) := by decide +kernel
theorem dX12_searchFor_143 : decode cX12_searchFor 143 = .ok (.iaload, 1) := by decide +kernel
theorem dX12_searchFor_144 : decode cX12_searchFor 144 = .ok (.if_icmp .ge 8, 3) := by decide +kernel
theorem dX12_searchFor_147 : decode cX12_searchFor 147 = .ok (.iload 9, 2) := by decide +kernel
theorem dX12_searchFor_149 : decode cX12_searchFor 149 = .ok (.goto 5, 3) := by decide +kernel
theorem dX12_searchFor_152 : decode cX12_searchFor 152 = .ok (.iload 8, 2) := by decide +kernel
theorem dX12_searchFor_154 : decode cX12_searchFor 154 = .ok (.istore 8, 2) := by decide +kernel
theorem dX12_searchFor_156 : decode cX12_searchFor 156 = .ok (.iinc 9 1, 3) := by decide +kernel
theorem dX12_searchFor_159 : decode cX12_searchFor 159 = .ok (.goto (-99), 3) := by decide +kernel
theorem dX12_searchFor_162 : decode cX12_searchFor 162 = .ok (.iload 6, 2) := by decide +kernel
theorem dX12_searchFor_164 : decode cX12_searchFor 164 = .ok (.aload_n 0, 1) := by decide +kernel
theorem dX12_searchFor_165 : decode cX12_searchFor 165 = .ok (.getfield 27, 3) := by decide +kernel
theorem dX12_searchFor_168 : decode cX12_searchFor 168 = .ok (.bipush 10, 2) := by decide +kernel
theorem dX12_searchFor_170 : decode cX12_searchFor 170 = .ok (.iload 5, 2) := by decide +kernel
theorem dX12_searchFor_172 : decode cX12_searchFor 172 = .ok (.imul, 1) := by decide +kernel
theorem dX12_searchFor_173 : decode cX12_searchFor 173 = .ok (.iload 8, 2) := by decide +kernel
theorem dX12_searchFor_175 : decode cX12_searchFor 175 = .ok (.iadd, 1) := by decide +kernel
theorem dX12_searchFor_176 : decode cX12_searchFor 176 = .ok (.iaload, 1) := by decide +kernel
theorem dX12_searchFor_177 : decode cX12_searchFor 177 = .ok (.iadd, 1) := by decide +kernel
theorem dX12_searchFor_178 : decode cX12_searchFor 178 = .ok (.istore 6, 2) := by decide +kernel
theorem dX12_searchFor_180 : decode cX12_searchFor 180 = .ok (.aload_n 0, 1) := by decide +kernel
theorem dX12_searchFor_181 : decode cX12_searchFor 181 = .ok (.iload 5, 2) := by decide +kernel
theorem dX12_searchFor_183 : decode cX12_searchFor 183 = .ok (.iload 8, 2) := by decide +kernel
theorem dX12_searchFor_185 : decode cX12_searchFor 185 = .ok (.invokevirtual 164, 3) := by decide +kernel
theorem dX12_searchFor_188 : decode cX12_searchFor 188 = .ok (.iload 4, 2) := by decide +kernel
theorem dX12_searchFor_190 : decode cX12_searchFor 190 = .ok (.iconst 1, 1) := by decide +kernel
theorem dX12_searchFor_191 : decode cX12_searchFor 191 = .ok (.iload 8, 2) := by decide +kernel
theorem dX12_searchFor_193 : decode cX12_searchFor 193 = .ok (.ishl, 1) := by decide +kernel
theorem dX12_searchFor_194 : decode cX12_searchFor 194 = .ok (.iconst (-1), 1) := by decide +kernel
theorem dX12_searchFor_195 : decode cX12_searchFor 195 = .ok (.ixor, 1) := by decide +kernel
theorem dX12_searchFor_196 : decode cX12_searchFor 196 = .ok (.iand, 1) := by decide +kernel
theorem dX12_searchFor_197 : decode cX12_searchFor 197 = .ok (.istore 4, 2) := by decide +kernel
theorem dX12_searchFor_199 : decode cX12_searchFor 199 = .ok (.iload 8, 2) := by decide +kernel
theorem dX12_searchFor_201 : decode cX12_searchFor 201 = .ok (.iload_n 3, 1) := by decide +kernel
theorem dX12_searchFor_202 : decode cX12_searchFor 202 = .ok (.if_icmp .ne 7, 3) := by decide +kernel
theorem dX12_searchFor_205 : decode cX12_searchFor 205 = .ok (.iconst 1, 1) := by decide +kernel
theorem dX12_searchFor_206 : decode cX12_searchFor 206 = .ok (.goto 4, 3) := by decide +kernel
theorem dX12_searchFor_209 : decode cX12_searchFor 209 = .ok (.iconst 0, 1) := by decide +kernel
theorem dX12_searchFor_210 : decode cX12_searchFor 210 = .ok (.istore 7, 2) := by decide +kernel
theorem dX12_searchFor_212 : decode cX12_searchFor 212 = .ok (.iload 8, 2) := by decide +kernel
theorem dX12_searchFor_214 : decode cX12_searchFor 214 = .ok (.istore 5, 2) := by decide +kernel
theorem dX12_searchFor_216 : decode cX12_searchFor 216 = .ok (.goto (-167), 3) := by decide +kernel
theorem dX12_searchFor_219 : decode cX12_searchFor 219 = .ok (.iload 6, 2) := by decide +kernel
theorem dX12_searchFor_221 : decode cX12_searchFor 221 = .ok (.ireturn, 1) := by decide +kernel
theorem bX12_searchFor_0 {Z : ZT} {X : XT} {μ : Mu} {a1 : Int32} {a2 : Int32} {a3 : Int32} (E : Ent Z X mX12_searchFor 0 0)  (s1_ : vp_in ((nI 179) + a2) 988)
    (k : JS Z X 27 [(0, .ref (Z.2.2.1 + 455)), (1, .int a1), (3, .int a3), (4, .int ((μ 456 (ix ((nI 179) + a2))) ||| ((nI 1) <<< (a3 &&& 31)))), (5, .int a1), (6, .int (nI 0))] [] (uR μ 455 (upd (μ 455) 12 (nI 0)))) :
    JS Z X 0 [(0, .ref (Z.2.2.1 + 455)), (1, .int a1), (2, .int a2), (3, .int a3)] [] μ := by
  refine J_aload_n E dX12_searchFor_0 rfl ?_
  refine S_get (ci := 12) (q := 0) (v := .ref (Z.2.2.1 + 456)) E dX12_searchFor_1 fs_X12_7 sh455 rfl ?_
  refine J_sipush (v := nI 179) E dX12_searchFor_4 rfl ?_
  refine J_iload_n E dX12_searchFor_7 rfl ?_
  refine J_iadd E dX12_searchFor_8 ?_
  refine S_iald E dX12_searchFor_9 sh456 s1_ ?_
  refine J_iconst (v := nI 1) E dX12_searchFor_10 rfl ?_
  refine J_iload_n E dX12_searchFor_11 rfl ?_
  refine J_ishl E dX12_searchFor_12 ?_
  refine J_ior E dX12_searchFor_13 ?_
  refine J_istore (lv' := [(0, .ref (Z.2.2.1 + 455)), (1, .int a1), (2, .int a2), (3, .int a3), (4, .int ((μ 456 (ix ((nI 179) + a2))) ||| ((nI 1) <<< (a3 &&& 31))))]) E dX12_searchFor_14 (Nat.le_of_ble_eq_true rfl) rfl ?_
  refine J_iload_n E dX12_searchFor_16 rfl ?_
  refine J_istore (lv' := [(0, .ref (Z.2.2.1 + 455)), (1, .int a1), (2, .int a2), (3, .int a3), (4, .int ((μ 456 (ix ((nI 179) + a2))) ||| ((nI 1) <<< (a3 &&& 31)))), (5, .int a1)]) E dX12_searchFor_17 (Nat.le_of_ble_eq_true rfl) rfl ?_
  refine J_iconst (v := nI 0) E dX12_searchFor_19 rfl ?_
  refine J_istore (lv' := [(0, .ref (Z.2.2.1 + 455)), (1, .int a1), (2, .int a2), (3, .int a3), (4, .int ((μ 456 (ix ((nI 179) + a2))) ||| ((nI 1) <<< (a3 &&& 31)))), (5, .int a1), (6, .int (nI 0))]) E dX12_searchFor_20 (Nat.le_of_ble_eq_true rfl) rfl ?_
  refine J_aload_n E dX12_searchFor_22 rfl ?_
  refine J_iconst (v := nI 0) E dX12_searchFor_23 rfl ?_
  refine S_puti E dX12_searchFor_24 fs_X12_161 fp_X12_12 sh455 rfl ?_
  refine J.weak [0, 1, 3, 4, 5, 6] rfl ?_
  exact k
theorem bX12_searchFor_27 {Z : ZT} {X : XT} {μ : Mu} {a1 : Int32} {a3 : Int32} {a4 : Int32} {a5 : Int32} {a6 : Int32} (E : Ent Z X mX12_searchFor 0 0)  (s1_ : vp_in (((nI 10) * a1) + a3) 100)
    (kt : (μ 461 (ix (((nI 10) * a1) + a3))) < (nI 100000) → JS Z X 46 [(0, .ref (Z.2.2.1 + 455)), (3, .int a3), (4, .int a4), (5, .int a5), (6, .int a6)] [] μ) (kf : ¬ ((μ 461 (ix (((nI 10) * a1) + a3))) < (nI 100000)) → JS Z X 43 [] [] μ) :
    JS Z X 27 [(0, .ref (Z.2.2.1 + 455)), (1, .int a1), (3, .int a3), (4, .int a4), (5, .int a5), (6, .int a6)] [] μ := by
  refine J_aload_n E dX12_searchFor_27 rfl ?_
  refine S_get (ci := 12) (q := 11) (v := .ref (Z.2.2.1 + 461)) E dX12_searchFor_28 fs_X12_27 sh455 rfl ?_
  refine J_bipush (v := nI 10) E dX12_searchFor_31 rfl ?_
  refine J_iload_n E dX12_searchFor_33 rfl ?_
  refine J_imul E dX12_searchFor_34 ?_
  refine J_iload_n E dX12_searchFor_35 rfl ?_
  refine J_iadd E dX12_searchFor_36 ?_
  refine S_iald E dX12_searchFor_37 sh461 s1_ ?_
  refine J_ldc (v := nI 100000) E dX12_searchFor_38 w6_192 ?_
  refine J_icmp_lt (tgt := 46) E dX12_searchFor_40 (by decide) (fun c => ?_) (fun c => ?_)
  · refine J.weak [0, 2, 3, 4, 5] rfl ?_
    exact kt c
  · refine J.weak [] rfl ?_
    exact kf c
theorem bX12_searchFor_43 {Z : ZT} {X : XT} {μ : Mu} (E : Ent Z X mX12_searchFor 0 0) {P : Option Value → Mu → Prop} (hB : BodS Z X P) 
    (k : P (some (.int (nI 100000))) μ) :
    JS Z X 43 [] [] μ := by
  refine J_ldc (v := nI 100000) E dX12_searchFor_43 w6_192 ?_
  exact S_iret E hB dX12_searchFor_45 rfl k
theorem bX12_searchFor_46 {Z : ZT} {X : XT} {μ : Mu} {a3 : Int32} {a4 : Int32} {a5 : Int32} {a6 : Int32} (E : Ent Z X mX12_searchFor 0 0)  
    (k : JS Z X 49 [(0, .ref (Z.2.2.1 + 455)), (3, .int a3), (4, .int a4), (5, .int a5), (6, .int a6), (7, .int (nI 0))] [] μ) :
    JS Z X 46 [(0, .ref (Z.2.2.1 + 455)), (3, .int a3), (4, .int a4), (5, .int a5), (6, .int a6)] [] μ := by
  refine J_iconst (v := nI 0) E dX12_searchFor_46 rfl ?_
  refine J_istore (lv' := [(0, .ref (Z.2.2.1 + 455)), (3, .int a3), (4, .int a4), (5, .int a5), (6, .int a6), (7, .int (nI 0))]) E dX12_searchFor_47 (Nat.le_of_ble_eq_true rfl) rfl ?_
  exact k
theorem bX12_searchFor_49 {Z : ZT} {X : XT} {μ : Mu} {a3 : Int32} {a4 : Int32} {a5 : Int32} {a6 : Int32} {a7 : Int32} (E : Ent Z X mX12_searchFor 0 0)  
    (kt : ¬ a7 = 0 → JS Z X 219 [(6, .int a6)] [] μ) (kf : a7 = 0 → JS Z X 54 [(0, .ref (Z.2.2.1 + 455)), (3, .int a3), (4, .int a4), (5, .int a5), (6, .int a6)] [] μ) :
    JS Z X 49 [(0, .ref (Z.2.2.1 + 455)), (3, .int a3), (4, .int a4), (5, .int a5), (6, .int a6), (7, .int a7)] [] μ := by
  refine J_iload E dX12_searchFor_49 rfl ?_
  refine J_if_ne (tgt := 219) E dX12_searchFor_51 (by decide) (fun c => ?_) (fun c => ?_)
  · refine J.weak [4] rfl ?_
    exact kt c
  · refine J.weak [0, 1, 2, 3, 4] rfl ?_
    exact kf c
theorem bX12_searchFor_54 {Z : ZT} {X : XT} {μ : Mu} {a3 : Int32} {a4 : Int32} {a5 : Int32} {a6 : Int32} (E : Ent Z X mX12_searchFor 0 0)  
    (k : JS Z X 60 [(0, .ref (Z.2.2.1 + 455)), (3, .int a3), (4, .int a4), (5, .int a5), (6, .int a6), (8, .int (-1)), (9, .int (nI 0))] [] μ) :
    JS Z X 54 [(0, .ref (Z.2.2.1 + 455)), (3, .int a3), (4, .int a4), (5, .int a5), (6, .int a6)] [] μ := by
  refine J_iconst (v := -1) E dX12_searchFor_54 rfl ?_
  refine J_istore (lv' := [(0, .ref (Z.2.2.1 + 455)), (3, .int a3), (4, .int a4), (5, .int a5), (6, .int a6), (8, .int (-1))]) E dX12_searchFor_55 (Nat.le_of_ble_eq_true rfl) rfl ?_
  refine J_iconst (v := nI 0) E dX12_searchFor_57 rfl ?_
  refine J_istore (lv' := [(0, .ref (Z.2.2.1 + 455)), (3, .int a3), (4, .int a4), (5, .int a5), (6, .int a6), (8, .int (-1)), (9, .int (nI 0))]) E dX12_searchFor_58 (Nat.le_of_ble_eq_true rfl) rfl ?_
  exact k
theorem bX12_searchFor_60 {Z : ZT} {X : XT} {μ : Mu} {a3 : Int32} {a4 : Int32} {a5 : Int32} {a6 : Int32} {a8 : Int32} {a9 : Int32} (E : Ent Z X mX12_searchFor 0 0)  (s1_ : vp_in (nI 0) 988)
    (kt : (μ 456 (ix (nI 0))) ≤ a9 → JS Z X 162 [(0, .ref (Z.2.2.1 + 455)), (3, .int a3), (4, .int a4), (5, .int a5), (6, .int a6), (8, .int a8)] [] μ) (kf : ¬ ((μ 456 (ix (nI 0))) ≤ a9) → JS Z X 71 [(0, .ref (Z.2.2.1 + 455)), (3, .int a3), (4, .int a4), (5, .int a5), (6, .int a6), (8, .int a8), (9, .int a9)] [] μ) :
    JS Z X 60 [(0, .ref (Z.2.2.1 + 455)), (3, .int a3), (4, .int a4), (5, .int a5), (6, .int a6), (8, .int a8), (9, .int a9)] [] μ := by
  refine J_iload E dX12_searchFor_60 rfl ?_
  refine J_aload_n E dX12_searchFor_62 rfl ?_
  refine S_get (ci := 12) (q := 0) (v := .ref (Z.2.2.1 + 456)) E dX12_searchFor_63 fs_X12_7 sh455 rfl ?_
  refine J_iconst (v := nI 0) E dX12_searchFor_66 rfl ?_
  refine S_iald E dX12_searchFor_67 sh456 s1_ ?_
  refine J_icmp_ge (tgt := 162) E dX12_searchFor_68 (by decide) (fun c => ?_) (fun c => ?_)
  · refine J.weak [0, 1, 2, 3, 4, 5] rfl ?_
    exact kt c
  · exact kf c
theorem bX12_searchFor_71 {Z : ZT} {X : XT} {μ : Mu} {a3 : Int32} {a4 : Int32} {a5 : Int32} {a6 : Int32} {a8 : Int32} {a9 : Int32} (E : Ent Z X mX12_searchFor 0 0)  
    (kt : ¬ ((a4 >>> (a9 &&& 31)) &&& (nI 1)) = (nI 1) → JS Z X 104 [(0, .ref (Z.2.2.1 + 455)), (3, .int a3), (4, .int a4), (5, .int a5), (6, .int a6), (8, .int a8), (9, .int a9)] [] μ) (kf : ((a4 >>> (a9 &&& 31)) &&& (nI 1)) = (nI 1) → JS Z X 82 [(0, .ref (Z.2.2.1 + 455)), (3, .int a3), (4, .int a4), (5, .int a5), (6, .int a6), (8, .int a8), (9, .int a9)] [] μ) :
    JS Z X 71 [(0, .ref (Z.2.2.1 + 455)), (3, .int a3), (4, .int a4), (5, .int a5), (6, .int a6), (8, .int a8), (9, .int a9)] [] μ := by
  refine J_iload E dX12_searchFor_71 rfl ?_
  refine J_iload E dX12_searchFor_73 rfl ?_
  refine J_ishr E dX12_searchFor_75 ?_
  refine J_iconst (v := nI 1) E dX12_searchFor_76 rfl ?_
  refine J_iand E dX12_searchFor_77 ?_
  refine J_iconst (v := nI 1) E dX12_searchFor_78 rfl ?_
  refine J_icmp_ne (tgt := 104) E dX12_searchFor_79 (by decide) (fun c => ?_) (fun c => ?_)
  · exact kt c
  · exact kf c
theorem bX12_searchFor_82 {Z : ZT} {X : XT} {μ : Mu} {a3 : Int32} {a4 : Int32} {a5 : Int32} {a6 : Int32} {a8 : Int32} {a9 : Int32} (E : Ent Z X mX12_searchFor 0 0)  (s1_ : vp_in (((nI 10) * a5) + a9) 100)
    (kt : (nI 100000) ≤ (μ 461 (ix (((nI 10) * a5) + a9))) → JS Z X 104 [(0, .ref (Z.2.2.1 + 455)), (3, .int a3), (4, .int a4), (5, .int a5), (6, .int a6), (8, .int a8), (9, .int a9)] [] μ) (kf : ¬ ((nI 100000) ≤ (μ 461 (ix (((nI 10) * a5) + a9)))) → JS Z X 100 [(0, .ref (Z.2.2.1 + 455)), (3, .int a3), (4, .int a4), (5, .int a5), (6, .int a6), (8, .int a8), (9, .int a9)] [] μ) :
    JS Z X 82 [(0, .ref (Z.2.2.1 + 455)), (3, .int a3), (4, .int a4), (5, .int a5), (6, .int a6), (8, .int a8), (9, .int a9)] [] μ := by
  refine J_aload_n E dX12_searchFor_82 rfl ?_
  refine S_get (ci := 12) (q := 11) (v := .ref (Z.2.2.1 + 461)) E dX12_searchFor_83 fs_X12_27 sh455 rfl ?_
  refine J_bipush (v := nI 10) E dX12_searchFor_86 rfl ?_
  refine J_iload E dX12_searchFor_88 rfl ?_
  refine J_imul E dX12_searchFor_90 ?_
  refine J_iload E dX12_searchFor_91 rfl ?_
  refine J_iadd E dX12_searchFor_93 ?_
  refine S_iald E dX12_searchFor_94 sh461 s1_ ?_
  refine J_ldc (v := nI 100000) E dX12_searchFor_95 w6_192 ?_
  refine J_icmp_ge (tgt := 104) E dX12_searchFor_97 (by decide) (fun c => ?_) (fun c => ?_)
  · exact kt c
  · exact kf c
theorem bX12_searchFor_100 {Z : ZT} {X : XT} {μ : Mu} {a3 : Int32} {a4 : Int32} {a5 : Int32} {a6 : Int32} {a8 : Int32} {a9 : Int32} (E : Ent Z X mX12_searchFor 0 0)  
    (k : JS Z X 105 [(0, .ref (Z.2.2.1 + 455)), (3, .int a3), (4, .int a4), (5, .int a5), (6, .int a6), (8, .int a8), (9, .int a9)] [.int (nI 1)] μ) :
    JS Z X 100 [(0, .ref (Z.2.2.1 + 455)), (3, .int a3), (4, .int a4), (5, .int a5), (6, .int a6), (8, .int a8), (9, .int a9)] [] μ := by
  refine J_iconst (v := nI 1) E dX12_searchFor_100 rfl ?_
  refine J_goto (tgt := 105) E dX12_searchFor_101 (by decide) ?_
  exact k
theorem bX12_searchFor_104 {Z : ZT} {X : XT} {μ : Mu} {a3 : Int32} {a4 : Int32} {a5 : Int32} {a6 : Int32} {a8 : Int32} {a9 : Int32} (E : Ent Z X mX12_searchFor 0 0)  
    (k : JS Z X 105 [(0, .ref (Z.2.2.1 + 455)), (3, .int a3), (4, .int a4), (5, .int a5), (6, .int a6), (8, .int a8), (9, .int a9)] [.int (nI 0)] μ) :
    JS Z X 104 [(0, .ref (Z.2.2.1 + 455)), (3, .int a3), (4, .int a4), (5, .int a5), (6, .int a6), (8, .int a8), (9, .int a9)] [] μ := by
  refine J_iconst (v := nI 0) E dX12_searchFor_104 rfl ?_
  exact k
theorem bX12_searchFor_105 {Z : ZT} {X : XT} {μ : Mu} {a3 : Int32} {a4 : Int32} {a5 : Int32} {a6 : Int32} {a8 : Int32} {a9 : Int32} {s0 : Int32} (E : Ent Z X mX12_searchFor 0 0)  
    (kt : s0 = 0 → JS Z X 152 [(0, .ref (Z.2.2.1 + 455)), (3, .int a3), (4, .int a4), (5, .int a5), (6, .int a6), (8, .int a8), (9, .int a9)] [] μ) (kf : ¬ (s0 = 0) → JS Z X 112 [(0, .ref (Z.2.2.1 + 455)), (3, .int a3), (4, .int a4), (5, .int a5), (6, .int a6), (8, .int a8), (9, .int a9)] [] μ) :
    JS Z X 105 [(0, .ref (Z.2.2.1 + 455)), (3, .int a3), (4, .int a4), (5, .int a5), (6, .int a6), (8, .int a8), (9, .int a9)] [.int s0] μ := by
  refine J_istore (lv' := [(0, .ref (Z.2.2.1 + 455)), (3, .int a3), (4, .int a4), (5, .int a5), (6, .int a6), (8, .int a8), (9, .int a9), (10, .int s0)]) E dX12_searchFor_105 (Nat.le_of_ble_eq_true rfl) rfl ?_
  refine J_iload E dX12_searchFor_107 rfl ?_
  refine J_if_eq (tgt := 152) E dX12_searchFor_109 (by decide) (fun c => ?_) (fun c => ?_)
  · refine J.weak [0, 1, 2, 3, 4, 5, 6] rfl ?_
    exact kt c
  · refine J.weak [0, 1, 2, 3, 4, 5, 6] rfl ?_
    exact kf c
theorem bX12_searchFor_112 {Z : ZT} {X : XT} {μ : Mu} {a3 : Int32} {a4 : Int32} {a5 : Int32} {a6 : Int32} {a8 : Int32} {a9 : Int32} (E : Ent Z X mX12_searchFor 0 0)  
    (kt : a8 = (-1) → JS Z X 147 [(0, .ref (Z.2.2.1 + 455)), (3, .int a3), (4, .int a4), (5, .int a5), (6, .int a6), (9, .int a9)] [] μ) (kf : ¬ (a8 = (-1)) → JS Z X 118 [(0, .ref (Z.2.2.1 + 455)), (3, .int a3), (4, .int a4), (5, .int a5), (6, .int a6), (8, .int a8), (9, .int a9)] [] μ) :
    JS Z X 112 [(0, .ref (Z.2.2.1 + 455)), (3, .int a3), (4, .int a4), (5, .int a5), (6, .int a6), (8, .int a8), (9, .int a9)] [] μ := by
  refine J_iload E dX12_searchFor_112 rfl ?_
  refine J_iconst (v := -1) E dX12_searchFor_114 rfl ?_
  refine J_icmp_eq (tgt := 147) E dX12_searchFor_115 (by decide) (fun c => ?_) (fun c => ?_)
  · refine J.weak [0, 1, 2, 3, 4, 6] rfl ?_
    exact kt c
  · exact kf c
theorem bX12_searchFor_118 {Z : ZT} {X : XT} {μ : Mu} {a3 : Int32} {a4 : Int32} {a5 : Int32} {a6 : Int32} {a8 : Int32} {a9 : Int32} (E : Ent Z X mX12_searchFor 0 0)  (s1_ : vp_in (((nI 10) * a5) + a9) 100) (s2_ : vp_in (((nI 10) * a5) + a8) 100)
    (kt : (μ 461 (ix (((nI 10) * a5) + a8))) ≤ (μ 461 (ix (((nI 10) * a5) + a9))) → JS Z X 152 [(0, .ref (Z.2.2.1 + 455)), (3, .int a3), (4, .int a4), (5, .int a5), (6, .int a6), (8, .int a8), (9, .int a9)] [] μ) (kf : ¬ ((μ 461 (ix (((nI 10) * a5) + a8))) ≤ (μ 461 (ix (((nI 10) * a5) + a9)))) → JS Z X 147 [(0, .ref (Z.2.2.1 + 455)), (3, .int a3), (4, .int a4), (5, .int a5), (6, .int a6), (9, .int a9)] [] μ) :
    JS Z X 118 [(0, .ref (Z.2.2.1 + 455)), (3, .int a3), (4, .int a4), (5, .int a5), (6, .int a6), (8, .int a8), (9, .int a9)] [] μ := by
  refine J_aload_n E dX12_searchFor_118 rfl ?_
  refine S_get (ci := 12) (q := 11) (v := .ref (Z.2.2.1 + 461)) E dX12_searchFor_119 fs_X12_27 sh455 rfl ?_
  refine J_bipush (v := nI 10) E dX12_searchFor_122 rfl ?_
  refine J_iload E dX12_searchFor_124 rfl ?_
  refine J_imul E dX12_searchFor_126 ?_
  refine J_iload E dX12_searchFor_127 rfl ?_
  refine J_iadd E dX12_searchFor_129 ?_
  refine S_iald E dX12_searchFor_130 sh461 s1_ ?_
  refine J_aload_n E dX12_searchFor_131 rfl ?_
  refine S_get (ci := 12) (q := 11) (v := .ref (Z.2.2.1 + 461)) E dX12_searchFor_132 fs_X12_27 sh455 rfl ?_
  refine J_bipush (v := nI 10) E dX12_searchFor_135 rfl ?_
  refine J_iload E dX12_searchFor_137 rfl ?_
  refine J_imul E dX12_searchFor_139 ?_
  refine J_iload E dX12_searchFor_140 rfl ?_
  refine J_iadd E dX12_searchFor_142 ?_
  refine S_iald E dX12_searchFor_143 sh461 s2_ ?_
  refine J_icmp_ge (tgt := 152) E dX12_searchFor_144 (by decide) (fun c => ?_) (fun c => ?_)
  · exact kt c
  · refine J.weak [0, 1, 2, 3, 4, 6] rfl ?_
    exact kf c
theorem bX12_searchFor_147 {Z : ZT} {X : XT} {μ : Mu} {a3 : Int32} {a4 : Int32} {a5 : Int32} {a6 : Int32} {a9 : Int32} (E : Ent Z X mX12_searchFor 0 0)  
    (k : JS Z X 154 [(0, .ref (Z.2.2.1 + 455)), (3, .int a3), (4, .int a4), (5, .int a5), (6, .int a6), (9, .int a9)] [.int a9] μ) :
    JS Z X 147 [(0, .ref (Z.2.2.1 + 455)), (3, .int a3), (4, .int a4), (5, .int a5), (6, .int a6), (9, .int a9)] [] μ := by
  refine J_iload E dX12_searchFor_147 rfl ?_
  refine J_goto (tgt := 154) E dX12_searchFor_149 (by decide) ?_
  exact k
theorem bX12_searchFor_152 {Z : ZT} {X : XT} {μ : Mu} {a3 : Int32} {a4 : Int32} {a5 : Int32} {a6 : Int32} {a8 : Int32} {a9 : Int32} (E : Ent Z X mX12_searchFor 0 0)  
    (k : JS Z X 154 [(0, .ref (Z.2.2.1 + 455)), (3, .int a3), (4, .int a4), (5, .int a5), (6, .int a6), (9, .int a9)] [.int a8] μ) :
    JS Z X 152 [(0, .ref (Z.2.2.1 + 455)), (3, .int a3), (4, .int a4), (5, .int a5), (6, .int a6), (8, .int a8), (9, .int a9)] [] μ := by
  refine J_iload E dX12_searchFor_152 rfl ?_
  refine J.weak [0, 1, 2, 3, 4, 6] rfl ?_
  exact k
theorem bX12_searchFor_154 {Z : ZT} {X : XT} {μ : Mu} {a3 : Int32} {a4 : Int32} {a5 : Int32} {a6 : Int32} {a9 : Int32} {s0 : Int32} (E : Ent Z X mX12_searchFor 0 0)  
    (k : JS Z X 60 [(0, .ref (Z.2.2.1 + 455)), (3, .int a3), (4, .int a4), (5, .int a5), (6, .int a6), (8, .int s0), (9, .int (a9 + nI 1))] [] μ) :
    JS Z X 154 [(0, .ref (Z.2.2.1 + 455)), (3, .int a3), (4, .int a4), (5, .int a5), (6, .int a6), (9, .int a9)] [.int s0] μ := by
  refine J_istore (lv' := [(0, .ref (Z.2.2.1 + 455)), (3, .int a3), (4, .int a4), (5, .int a5), (6, .int a6), (8, .int s0), (9, .int a9)]) E dX12_searchFor_154 (Nat.le_of_ble_eq_true rfl) rfl ?_
  refine J_iinc (v := a9 + nI 1) (lv' := [(0, .ref (Z.2.2.1 + 455)), (3, .int a3), (4, .int a4), (5, .int a5), (6, .int a6), (8, .int s0), (9, .int (a9 + nI 1))]) E dX12_searchFor_156 rfl rfl (Nat.le_of_ble_eq_true rfl) rfl ?_
  refine J_goto (tgt := 60) E dX12_searchFor_159 (by decide) ?_
  exact k
theorem bX12_searchFor_162 {Z : ZT} {X : XT} {μ : Mu} {a3 : Int32} {a4 : Int32} {a5 : Int32} {a6 : Int32} {a8 : Int32} (E : Ent Z X mX12_searchFor 0 0) {p : Mu → Prop} (s1_ : vp_in (((nI 10) * a5) + a8) 100)
    (c : CtrS Z mX12_seePath [.ref (Z.2.2.1 + 455), .int a5, .int a8] μ (rV p)) (k : ∀ μ1, p μ1 → JS Z X 188 [(0, .ref (Z.2.2.1 + 455)), (3, .int a3), (4, .int a4), (6, .int (a6 + (μ 461 (ix (((nI 10) * a5) + a8))))), (8, .int a8)] [] μ1) :
    JS Z X 162 [(0, .ref (Z.2.2.1 + 455)), (3, .int a3), (4, .int a4), (5, .int a5), (6, .int a6), (8, .int a8)] [] μ := by
  refine J_iload E dX12_searchFor_162 rfl ?_
  refine J_aload_n E dX12_searchFor_164 rfl ?_
  refine S_get (ci := 12) (q := 11) (v := .ref (Z.2.2.1 + 461)) E dX12_searchFor_165 fs_X12_27 sh455 rfl ?_
  refine J_bipush (v := nI 10) E dX12_searchFor_168 rfl ?_
  refine J_iload E dX12_searchFor_170 rfl ?_
  refine J_imul E dX12_searchFor_172 ?_
  refine J_iload E dX12_searchFor_173 rfl ?_
  refine J_iadd E dX12_searchFor_175 ?_
  refine S_iald E dX12_searchFor_176 sh461 s1_ ?_
  refine J_iadd E dX12_searchFor_177 ?_
  refine J_istore (lv' := [(0, .ref (Z.2.2.1 + 455)), (3, .int a3), (4, .int a4), (5, .int a5), (6, .int (a6 + (μ 461 (ix (((nI 10) * a5) + a8))))), (8, .int a8)]) E dX12_searchFor_178 (Nat.le_of_ble_eq_true rfl) rfl ?_
  refine J_aload_n E dX12_searchFor_180 rfl ?_
  refine J_iload E dX12_searchFor_181 rfl ?_
  refine J_iload E dX12_searchFor_183 rfl ?_
  refine S_callV (As := [.int a5, .int a8]) (rest := []) E dX12_searchFor_185 c kX12_seePath ⟨Nat.le_of_ble_eq_true rfl, Nat.le_of_ble_eq_true rfl⟩ rfl (Nat.le_of_ble_eq_true rfl) sh455 rfl rfl w6_217 w6_219 wp_52 (fun r_ μ1 hp_ => ?_)
  obtain ⟨rfl, hp_⟩ := hp_
  refine J.weak [0, 1, 2, 4, 5] rfl ?_
  exact k μ1 hp_
theorem bX12_searchFor_188 {Z : ZT} {X : XT} {μ : Mu} {a3 : Int32} {a4 : Int32} {a6 : Int32} {a8 : Int32} (E : Ent Z X mX12_searchFor 0 0)  
    (kt : ¬ a8 = a3 → JS Z X 209 [(0, .ref (Z.2.2.1 + 455)), (3, .int a3), (4, .int (a4 &&& (((nI 1) <<< (a8 &&& 31)) ^^^ (-1)))), (6, .int a6), (8, .int a8)] [] μ) (kf : a8 = a3 → JS Z X 205 [(0, .ref (Z.2.2.1 + 455)), (3, .int a3), (4, .int (a4 &&& (((nI 1) <<< (a8 &&& 31)) ^^^ (-1)))), (6, .int a6), (8, .int a8)] [] μ) :
    JS Z X 188 [(0, .ref (Z.2.2.1 + 455)), (3, .int a3), (4, .int a4), (6, .int a6), (8, .int a8)] [] μ := by
  refine J_iload E dX12_searchFor_188 rfl ?_
  refine J_iconst (v := nI 1) E dX12_searchFor_190 rfl ?_
  refine J_iload E dX12_searchFor_191 rfl ?_
  refine J_ishl E dX12_searchFor_193 ?_
  refine J_iconst (v := -1) E dX12_searchFor_194 rfl ?_
  refine J_ixor E dX12_searchFor_195 ?_
  refine J_iand E dX12_searchFor_196 ?_
  refine J_istore (lv' := [(0, .ref (Z.2.2.1 + 455)), (3, .int a3), (4, .int (a4 &&& (((nI 1) <<< (a8 &&& 31)) ^^^ (-1)))), (6, .int a6), (8, .int a8)]) E dX12_searchFor_197 (Nat.le_of_ble_eq_true rfl) rfl ?_
  refine J_iload E dX12_searchFor_199 rfl ?_
  refine J_iload_n E dX12_searchFor_201 rfl ?_
  refine J_icmp_ne (tgt := 209) E dX12_searchFor_202 (by decide) (fun c => ?_) (fun c => ?_)
  · exact kt c
  · exact kf c
theorem bX12_searchFor_205 {Z : ZT} {X : XT} {μ : Mu} {a3 : Int32} {a4 : Int32} {a6 : Int32} {a8 : Int32} (E : Ent Z X mX12_searchFor 0 0)  
    (k : JS Z X 210 [(0, .ref (Z.2.2.1 + 455)), (3, .int a3), (4, .int a4), (6, .int a6), (8, .int a8)] [.int (nI 1)] μ) :
    JS Z X 205 [(0, .ref (Z.2.2.1 + 455)), (3, .int a3), (4, .int a4), (6, .int a6), (8, .int a8)] [] μ := by
  refine J_iconst (v := nI 1) E dX12_searchFor_205 rfl ?_
  refine J_goto (tgt := 210) E dX12_searchFor_206 (by decide) ?_
  exact k
theorem bX12_searchFor_209 {Z : ZT} {X : XT} {μ : Mu} {a3 : Int32} {a4 : Int32} {a6 : Int32} {a8 : Int32} (E : Ent Z X mX12_searchFor 0 0)  
    (k : JS Z X 210 [(0, .ref (Z.2.2.1 + 455)), (3, .int a3), (4, .int a4), (6, .int a6), (8, .int a8)] [.int (nI 0)] μ) :
    JS Z X 209 [(0, .ref (Z.2.2.1 + 455)), (3, .int a3), (4, .int a4), (6, .int a6), (8, .int a8)] [] μ := by
  refine J_iconst (v := nI 0) E dX12_searchFor_209 rfl ?_
  exact k
theorem bX12_searchFor_210 {Z : ZT} {X : XT} {μ : Mu} {a3 : Int32} {a4 : Int32} {a6 : Int32} {a8 : Int32} {s0 : Int32} (E : Ent Z X mX12_searchFor 0 0)  
    (k : JS Z X 49 [(0, .ref (Z.2.2.1 + 455)), (3, .int a3), (4, .int a4), (5, .int a8), (6, .int a6), (7, .int s0)] [] μ) :
    JS Z X 210 [(0, .ref (Z.2.2.1 + 455)), (3, .int a3), (4, .int a4), (6, .int a6), (8, .int a8)] [.int s0] μ := by
  refine J_istore (lv' := [(0, .ref (Z.2.2.1 + 455)), (3, .int a3), (4, .int a4), (6, .int a6), (7, .int s0), (8, .int a8)]) E dX12_searchFor_210 (Nat.le_of_ble_eq_true rfl) rfl ?_
  refine J_iload E dX12_searchFor_212 rfl ?_
  refine J_istore (lv' := [(0, .ref (Z.2.2.1 + 455)), (3, .int a3), (4, .int a4), (5, .int a8), (6, .int a6), (7, .int s0), (8, .int a8)]) E dX12_searchFor_214 (Nat.le_of_ble_eq_true rfl) rfl ?_
  refine J_goto (tgt := 49) E dX12_searchFor_216 (by decide) ?_
  refine J.weak [0, 1, 2, 3, 4, 5] rfl ?_
  exact k
theorem bX12_searchFor_219 {Z : ZT} {X : XT} {μ : Mu} {a6 : Int32} (E : Ent Z X mX12_searchFor 0 0) {P : Option Value → Mu → Prop} (hB : BodS Z X P) 
    (k : P (some (.int a6)) μ) :
    JS Z X 219 [(6, .int a6)] [] μ := by
  refine J_iload E dX12_searchFor_219 rfl ?_
  exact S_iret E hB dX12_searchFor_221 rfl k
theorem dX12_isSet_0 : decode cX12_isSet 0 = .ok (.aload_n 0, 1) := by decide +kernel
theorem dX12_isSet_1 : decode cX12_isSet 1 = .ok (.getfield 7, 3) := by decide +kernel
theorem dX12_isSet_4 : decode cX12_isSet 4 = .ok (.sipush 204, 3) := by decide +kernel
theorem dX12_isSet_7 : decode cX12_isSet 7 = .ok (.iaload, 1) := by decide +kernel
theorem dX12_isSet_8 : decode cX12_isSet 8 = .ok (.aload_n 0, 1) := by decide +kernel
theorem dX12_isSet_9 : decode cX12_isSet 9 = .ok (.getfield 7, 3) := by decide +kernel
theorem dX12_isSet_12 : decode cX12_isSet 12 = .ok (.iconst 0, 1) := by decide +kernel
theorem dX12_isSet_13 : decode cX12_isSet 13 = .ok (.iaload, 1) := by decide +kernel
theorem dX12_isSet_14 : decode cX12_isSet 14 = .ok (.if_icmp .ge 24, 3) := by decide +kernel
theorem dX12_isSet_17 : decode cX12_isSet 17 = .ok (.aload_n 0, 1) := by decide +kernel
theorem dX12_isSet_18 : decode cX12_isSet 18 = .ok (.getfield 7, 3) := by decide +kernel
theorem dX12_isSet_21 : decode cX12_isSet 21 = .ok (.sipush 205, 3) := by decide +kernel
theorem dX12_isSet_24 : decode cX12_isSet 24 = .ok (.iaload, 1) := by decide +kernel
theorem dX12_isSet_25 : decode cX12_isSet 25 = .ok (.aload_n 0, 1) := by decide +kernel
theorem dX12_isSet_26 : decode cX12_isSet 26 = .ok (.getfield 7, 3) := by decide +kernel
theorem dX12_isSet_29 : decode cX12_isSet 29 = .ok (.iconst 0, 1) := by decide +kernel
theorem dX12_isSet_30 : decode cX12_isSet 30 = .ok (.iaload, 1) := by decide +kernel
theorem dX12_isSet_31 : decode cX12_isSet 31 = .ok (.if_icmp .ge 7, 3) := by decide +kernel
theorem dX12_isSet_34 : decode cX12_isSet 34 = .ok (.iconst 1, 1) := by decide +kernel
theorem dX12_isSet_35 : decode cX12_isSet 35 = .ok (.goto 4, 3) := by decide +kernel
theorem dX12_isSet_38 : decode cX12_isSet 38 = .ok (.iconst 0, 1) := by decide +kernel
theorem dX12_isSet_39 : decode cX12_isSet 39 = .ok (.ireturn, 1) := by decide +kernel
theorem bX12_isSet_0 {Z : ZT} {X : XT} {μ : Mu} (E : Ent Z X mX12_isSet 0 0)  (s1_ : vp_in (nI 204) 988) (s2_ : vp_in (nI 0) 988)
    (kt : (μ 456 (ix (nI 0))) ≤ (μ 456 (ix (nI 204))) → JS Z X 38 [] [] μ) (kf : ¬ ((μ 456 (ix (nI 0))) ≤ (μ 456 (ix (nI 204)))) → JS Z X 17 [(0, .ref (Z.2.2.1 + 455))] [] μ) :
    JS Z X 0 [(0, .ref (Z.2.2.1 + 455))] [] μ := by
  refine J_aload_n E dX12_isSet_0 rfl ?_
  refine S_get (ci := 12) (q := 0) (v := .ref (Z.2.2.1 + 456)) E dX12_isSet_1 fs_X12_7 sh455 rfl ?_
  refine J_sipush (v := nI 204) E dX12_isSet_4 rfl ?_
  refine S_iald E dX12_isSet_7 sh456 s1_ ?_
  refine J_aload_n E dX12_isSet_8 rfl ?_
  refine S_get (ci := 12) (q := 0) (v := .ref (Z.2.2.1 + 456)) E dX12_isSet_9 fs_X12_7 sh455 rfl ?_
  refine J_iconst (v := nI 0) E dX12_isSet_12 rfl ?_
  refine S_iald E dX12_isSet_13 sh456 s2_ ?_
  refine J_icmp_ge (tgt := 38) E dX12_isSet_14 (by decide) (fun c => ?_) (fun c => ?_)
  · refine J.weak [] rfl ?_
    exact kt c
  · exact kf c
theorem bX12_isSet_17 {Z : ZT} {X : XT} {μ : Mu} (E : Ent Z X mX12_isSet 0 0)  (s1_ : vp_in (nI 205) 988) (s2_ : vp_in (nI 0) 988)
    (kt : (μ 456 (ix (nI 0))) ≤ (μ 456 (ix (nI 205))) → JS Z X 38 [] [] μ) (kf : ¬ ((μ 456 (ix (nI 0))) ≤ (μ 456 (ix (nI 205)))) → JS Z X 34 [] [] μ) :
    JS Z X 17 [(0, .ref (Z.2.2.1 + 455))] [] μ := by
  refine J_aload_n E dX12_isSet_17 rfl ?_
  refine S_get (ci := 12) (q := 0) (v := .ref (Z.2.2.1 + 456)) E dX12_isSet_18 fs_X12_7 sh455 rfl ?_
  refine J_sipush (v := nI 205) E dX12_isSet_21 rfl ?_
  refine S_iald E dX12_isSet_24 sh456 s1_ ?_
  refine J_aload_n E dX12_isSet_25 rfl ?_
  refine S_get (ci := 12) (q := 0) (v := .ref (Z.2.2.1 + 456)) E dX12_isSet_26 fs_X12_7 sh455 rfl ?_
  refine J_iconst (v := nI 0) E dX12_isSet_29 rfl ?_
  refine S_iald E dX12_isSet_30 sh456 s2_ ?_
  refine J_icmp_ge (tgt := 38) E dX12_isSet_31 (by decide) (fun c => ?_) (fun c => ?_)
  · refine J.weak [] rfl ?_
    exact kt c
  · refine J.weak [] rfl ?_
    exact kf c
theorem bX12_isSet_34 {Z : ZT} {X : XT} {μ : Mu} (E : Ent Z X mX12_isSet 0 0)  
    (k : JS Z X 39 [] [.int (nI 1)] μ) :
    JS Z X 34 [] [] μ := by
  refine J_iconst (v := nI 1) E dX12_isSet_34 rfl ?_
  refine J_goto (tgt := 39) E dX12_isSet_35 (by decide) ?_
  exact k
theorem bX12_isSet_38 {Z : ZT} {X : XT} {μ : Mu} (E : Ent Z X mX12_isSet 0 0)  
    (k : JS Z X 39 [] [.int (nI 0)] μ) :
    JS Z X 38 [] [] μ := by
  refine J_iconst (v := nI 0) E dX12_isSet_38 rfl ?_
  exact k
theorem bX12_isSet_39 {Z : ZT} {X : XT} {μ : Mu} {s0 : Int32} (E : Ent Z X mX12_isSet 0 0) {P : Option Value → Mu → Prop} (hB : BodS Z X P) (s1_ : narrow .boolean (.int s0) = .int s0)
    (k : P (some (.int s0)) μ) :
    JS Z X 39 [] [.int s0] μ := by
  exact S_zret E hB dX12_isSet_39 rfl s1_ k
theorem dX12_takeRow_0 : decode cX12_takeRow 0 = .ok (.aload_n 0, 1) := by decide +kernel
theorem dX12_takeRow_1 : decode cX12_takeRow 1 = .ok (.aload_n 0, 1) := by decide +kernel
theorem dX12_takeRow_2 : decode cX12_takeRow 2 = .ok (.getfield 7, 3) := by decide +kernel
theorem dX12_takeRow_5 : decode cX12_takeRow 5 = .ok (.sipush 187, 3) := by decide +kernel
theorem dX12_takeRow_8 : decode cX12_takeRow 8 = .ok (.iload_n 1, 1) := by decide +kernel
theorem dX12_takeRow_9 : decode cX12_takeRow 9 = .ok (.iadd, 1) := by decide +kernel
theorem dX12_takeRow_10 : decode cX12_takeRow 10 = .ok (.iaload, 1) := by decide +kernel
theorem dX12_takeRow_11 : decode cX12_takeRow 11 = .ok (.putfield 168, 3) := by decide +kernel
theorem dX12_takeRow_14 : decode cX12_takeRow 14 = .ok (.iconst 0, 1) := by decide +kernel
theorem dX12_takeRow_15 : decode cX12_takeRow 15 = .ok (.istore_n 2, 1) := by decide +kernel
theorem dX12_takeRow_16 : decode cX12_takeRow 16 = .ok (.iload_n 2, 1) := by decide +kernel
theorem dX12_takeRow_17 : decode cX12_takeRow 17 = .ok (.aload_n 0, 1) := by decide +kernel
theorem dX12_takeRow_18 : decode cX12_takeRow 18 = .ok (.getfield 168, 3) := by decide +kernel
theorem dX12_takeRow_21 : decode cX12_takeRow 21 = .ok (.if_icmp .ge 30, 3) := by decide +kernel
theorem dX12_takeRow_24 : decode cX12_takeRow 24 = .ok (.aload_n 0, 1) := by decide +kernel
theorem dX12_takeRow_25 : decode cX12_takeRow 25 = .ok (.getfield 30, 3) := by decide +kernel
theorem dX12_takeRow_28 : decode cX12_takeRow 28 = .ok (.iload_n 2, 1) := by decide +kernel
theorem dX12_takeRow_29 : decode cX12_takeRow 29 = .ok (.aload_n 0, 1) := by decide +kernel
theorem dX12_takeRow_30 : decode cX12_takeRow 30 = .ok (.getfield 7, 3) := by decide +kernel
theorem dX12_takeRow_33 : decode cX12_takeRow 33 = .ok (.sipush 189, 3) := by decide +kernel
theorem dX12_takeRow_36 : decode cX12_takeRow 36 = .ok (.bipush 6, 2) := by decide +kernel
theorem dX12_takeRow_38 : decode cX12_takeRow 38 = .ok (.iload_n 1, 1) := by decide +kernel
theorem dX12_takeRow_39 : decode cX12_takeRow 39 = .ok (.imul, 1) := by decide +kernel
theorem dX12_takeRow_40 : decode cX12_takeRow 40 = .ok (.iadd, 1) := by decide +kernel
theorem dX12_takeRow_41 : decode cX12_takeRow 41 = .ok (.iload_n 2, 1) := by decide +kernel
theorem dX12_takeRow_42 : decode cX12_takeRow 42 = .ok (.iadd, 1) := by decide +kernel
theorem dX12_takeRow_43 : decode cX12_takeRow 43 = .ok (.iaload, 1) := by decide +kernel
theorem dX12_takeRow_44 : decode cX12_takeRow 44 = .ok (.iastore, 1) := by decide +kernel
theorem dX12_takeRow_45 : decode cX12_takeRow 45 = .ok (.iinc 2 1, 3) := by decide +kernel
theorem dX12_takeRow_48 : decode cX12_takeRow 48 = .ok (.goto (-32), 3) := by decide +kernel
theorem dX12_takeRow_51 : decode cX12_takeRow 51 = .ok (.return_, 1) := by decide +kernel
theorem bX12_takeRow_0 {Z : ZT} {X : XT} {μ : Mu} {a1 : Int32} (E : Ent Z X mX12_takeRow 0 0)  (s1_ : vp_in ((nI 187) + a1) 988)
    (k : JS Z X 14 [(0, .ref (Z.2.2.1 + 455)), (1, .int a1)] [] (uR μ 455 (upd (μ 455) 13 (μ 456 (ix ((nI 187) + a1)))))) :
    JS Z X 0 [(0, .ref (Z.2.2.1 + 455)), (1, .int a1)] [] μ := by
  refine J_aload_n E dX12_takeRow_0 rfl ?_
  refine J_aload_n E dX12_takeRow_1 rfl ?_
  refine S_get (ci := 12) (q := 0) (v := .ref (Z.2.2.1 + 456)) E dX12_takeRow_2 fs_X12_7 sh455 rfl ?_
  refine J_sipush (v := nI 187) E dX12_takeRow_5 rfl ?_
  refine J_iload_n E dX12_takeRow_8 rfl ?_
  refine J_iadd E dX12_takeRow_9 ?_
  refine S_iald E dX12_takeRow_10 sh456 s1_ ?_
  refine S_puti E dX12_takeRow_11 fs_X12_168 fp_X12_13 sh455 rfl ?_
  exact k
theorem bX12_takeRow_14 {Z : ZT} {X : XT} {μ : Mu} {a1 : Int32} (E : Ent Z X mX12_takeRow 0 0)  
    (k : JS Z X 16 [(0, .ref (Z.2.2.1 + 455)), (1, .int a1), (2, .int (nI 0))] [] μ) :
    JS Z X 14 [(0, .ref (Z.2.2.1 + 455)), (1, .int a1)] [] μ := by
  refine J_iconst (v := nI 0) E dX12_takeRow_14 rfl ?_
  refine J_istore_n (lv' := [(0, .ref (Z.2.2.1 + 455)), (1, .int a1), (2, .int (nI 0))]) E dX12_takeRow_15 (Nat.le_of_ble_eq_true rfl) rfl ?_
  exact k
theorem bX12_takeRow_16 {Z : ZT} {X : XT} {μ : Mu} {a1 : Int32} {a2 : Int32} (E : Ent Z X mX12_takeRow 0 0)  
    (kt : (μ 455 13) ≤ a2 → JS Z X 51 [] [] μ) (kf : ¬ ((μ 455 13) ≤ a2) → JS Z X 24 [(0, .ref (Z.2.2.1 + 455)), (1, .int a1), (2, .int a2)] [] μ) :
    JS Z X 16 [(0, .ref (Z.2.2.1 + 455)), (1, .int a1), (2, .int a2)] [] μ := by
  refine J_iload_n E dX12_takeRow_16 rfl ?_
  refine J_aload_n E dX12_takeRow_17 rfl ?_
  refine S_get (ci := 12) (q := 13) (v := .int (μ 455 13)) E dX12_takeRow_18 fs_X12_168 sh455 rfl ?_
  refine J_icmp_ge (tgt := 51) E dX12_takeRow_21 (by decide) (fun c => ?_) (fun c => ?_)
  · refine J.weak [] rfl ?_
    exact kt c
  · exact kf c
theorem bX12_takeRow_24 {Z : ZT} {X : XT} {μ : Mu} {a1 : Int32} {a2 : Int32} (E : Ent Z X mX12_takeRow 0 0)  (s1_ : vp_in (((nI 189) + ((nI 6) * a1)) + a2) 988) (s2_ : vp_in a2 6)
    (k : JS Z X 45 [(0, .ref (Z.2.2.1 + 455)), (1, .int a1), (2, .int a2)] [] (uR μ 462 (upd (μ 462) (ix a2) (μ 456 (ix (((nI 189) + ((nI 6) * a1)) + a2)))))) :
    JS Z X 24 [(0, .ref (Z.2.2.1 + 455)), (1, .int a1), (2, .int a2)] [] μ := by
  refine J_aload_n E dX12_takeRow_24 rfl ?_
  refine S_get (ci := 12) (q := 14) (v := .ref (Z.2.2.1 + 462)) E dX12_takeRow_25 fs_X12_30 sh455 rfl ?_
  refine J_iload_n E dX12_takeRow_28 rfl ?_
  refine J_aload_n E dX12_takeRow_29 rfl ?_
  refine S_get (ci := 12) (q := 0) (v := .ref (Z.2.2.1 + 456)) E dX12_takeRow_30 fs_X12_7 sh455 rfl ?_
  refine J_sipush (v := nI 189) E dX12_takeRow_33 rfl ?_
  refine J_bipush (v := nI 6) E dX12_takeRow_36 rfl ?_
  refine J_iload_n E dX12_takeRow_38 rfl ?_
  refine J_imul E dX12_takeRow_39 ?_
  refine J_iadd E dX12_takeRow_40 ?_
  refine J_iload_n E dX12_takeRow_41 rfl ?_
  refine J_iadd E dX12_takeRow_42 ?_
  refine S_iald E dX12_takeRow_43 sh456 s1_ ?_
  refine S_iast E dX12_takeRow_44 sh462 s2_ ?_
  exact k
theorem bX12_takeRow_45 {Z : ZT} {X : XT} {μ : Mu} {a1 : Int32} {a2 : Int32} (E : Ent Z X mX12_takeRow 0 0)  
    (k : JS Z X 16 [(0, .ref (Z.2.2.1 + 455)), (1, .int a1), (2, .int (a2 + nI 1))] [] μ) :
    JS Z X 45 [(0, .ref (Z.2.2.1 + 455)), (1, .int a1), (2, .int a2)] [] μ := by
  refine J_iinc (v := a2 + nI 1) (lv' := [(0, .ref (Z.2.2.1 + 455)), (1, .int a1), (2, .int (a2 + nI 1))]) E dX12_takeRow_45 rfl rfl (Nat.le_of_ble_eq_true rfl) rfl ?_
  refine J_goto (tgt := 16) E dX12_takeRow_48 (by decide) ?_
  exact k
theorem bX12_takeRow_51 {Z : ZT} {X : XT} {μ : Mu} (E : Ent Z X mX12_takeRow 0 0) {P : Option Value → Mu → Prop} (hB : BodS Z X P) 
    (k : P none μ) :
    JS Z X 51 [] [] μ := by
  exact S_vret E hB dX12_takeRow_51 rfl k
theorem dX12_findHunt_0 : decode cX12_findHunt 0 = .ok (.aload_n 0, 1) := by decide +kernel
theorem dX12_findHunt_1 : decode cX12_findHunt 1 = .ok (.invokevirtual 171, 3) := by decide +kernel
theorem dX12_findHunt_4 : decode cX12_findHunt 4 = .ok (.ifCond .eq 10, 3) := by decide +kernel
theorem dX12_findHunt_7 : decode cX12_findHunt 7 = .ok (.aload_n 0, 1) := by decide +kernel
theorem dX12_findHunt_8 : decode cX12_findHunt 8 = .ok (.getfield 168, 3) := by decide +kernel
theorem dX12_findHunt_11 : decode cX12_findHunt 11 = .ok (.ifCond .ne 5, 3) := by decide +kernel
theorem dX12_findHunt_14 : decode cX12_findHunt 14 = .ok (.iconst 0, 1) := by decide +kernel
theorem dX12_findHunt_15 : decode cX12_findHunt 15 = .ok (.ireturn, 1) := by decide +kernel
theorem dX12_findHunt_16 : decode cX12_findHunt 16 = .ok (.aload_n 0, 1) := by decide +kernel
theorem dX12_findHunt_17 : decode cX12_findHunt 17 = .ok (.iconst 0, 1) := by decide +kernel
theorem dX12_findHunt_18 : decode cX12_findHunt 18 = .ok (.putfield 175, 3) := by decide +kernel
theorem dX12_findHunt_21 : decode cX12_findHunt 21 = .ok (.iconst 0, 1) := by decide +kernel
theorem dX12_findHunt_22 : decode cX12_findHunt 22 = .ok (.istore_n 1, 1) := by decide +kernel
theorem dX12_findHunt_23 : decode cX12_findHunt 23 = .ok (.iload_n 1, 1) := by decide +kernel
theorem dX12_findHunt_24 : decode cX12_findHunt 24 = .ok (.aload_n 0, 1) := by decide +kernel
theorem dX12_findHunt_25 : decode cX12_findHunt 25 = .ok (.getfield 168, 3) := by decide +kernel
theorem dX12_findHunt_28 : decode cX12_findHunt 28 = .ok (.if_icmp .ge 45, 3) := by decide +kernel
theorem dX12_findHunt_31 : decode cX12_findHunt 31 = .ok (.aload_n 0, 1) := by decide +kernel
theorem dX12_findHunt_32 : decode cX12_findHunt 32 = .ok (.getfield 33, 3) := by decide +kernel
theorem dX12_findHunt_35 : decode cX12_findHunt 35 = .ok (.iload_n 1, 1) := by decide +kernel
theorem dX12_findHunt_36 : decode cX12_findHunt 36 = .ok (.iload_n 1, 1) := by decide +kernel
theorem dX12_findHunt_37 : decode cX12_findHunt 37 = .ok (.ifCond .ne 14, 3) := by decide +kernel
theorem dX12_findHunt_40 : decode cX12_findHunt 40 = .ok (.aload_n 0, 1) := by decide +kernel
theorem dX12_findHunt_41 : decode cX12_findHunt 41 = .ok (.getfield 7, 3) := by decide +kernel
theorem dX12_findHunt_44 : decode cX12_findHunt 44 = .ok (.sipush 204, 3) := by decide +kernel
theorem dX12_findHunt_47 : decode cX12_findHunt 47 = .ok (.iaload, 1) := by decide +kernel
theorem dX12_findHunt_48 : decode cX12_findHunt 48 = .ok (.goto 18, 3) := by decide +kernel
theorem dX12_findHunt_51 : decode cX12_findHunt 51 = .ok (.aload_n 0, 1) := by decide +kernel
theorem dX12_findHunt_52 : decode cX12_findHunt 52 = .ok (.getfield 7, 3) := by decide +kernel
theorem dX12_findHunt_55 : decode cX12_findHunt 55 = .ok (.sipush 155, 3) := by decide +kernel
theorem dX12_findHunt_58 : decode cX12_findHunt 58 = .ok (.aload_n 0, 1) := by decide +kernel
theorem dX12_findHunt_59 : decode cX12_findHunt 59 = .ok (.getfield 30, 3) := by decide +kernel
theorem dX12_findHunt_62 : decode cX12_findHunt 62 = .ok (.iload_n 1, 1) := by decide +kernel
theorem dX12_findHunt_63 : decode cX12_findHunt 63 = .ok (.iaload, 1) := by decide +kernel
theorem dX12_findHunt_64 : decode cX12_findHunt 64 = .ok (.iadd, 1) := by decide +kernel
theorem dX12_findHunt_65 : decode cX12_findHunt 65 = .ok (.iaload, 1) := by decide +kernel
theorem dX12_findHunt_66 : decode cX12_findHunt 66 = .ok (.iastore, 1) := by decide +kernel
theorem dX12_findHunt_67 : decode cX12_findHunt 67 = .ok (.iinc 1 1, 3) := by decide +kernel
theorem dX12_findHunt_70 : decode cX12_findHunt 70 = .ok (.goto (-47), 3) := by decide +kernel
theorem dX12_findHunt_73 : decode cX12_findHunt 73 = .ok (.iconst 0, 1) := by decide +kernel
theorem dX12_findHunt_74 : decode cX12_findHunt 74 = .ok (.istore_n 1, 1) := by decide +kernel
theorem dX12_findHunt_75 : decode cX12_findHunt 75 = .ok (.iload_n 1, 1) := by decide +kernel
theorem dX12_findHunt_76 : decode cX12_findHunt 76 = .ok (.aload_n 0, 1) := by decide +kernel
theorem dX12_findHunt_77 : decode cX12_findHunt 77 = .ok (.getfield 168, 3) := by decide +kernel
theorem dX12_findHunt_80 : decode cX12_findHunt 80 = .ok (.if_icmp .ge 88, 3) := by decide +kernel
theorem dX12_findHunt_83 : decode cX12_findHunt 83 = .ok (.aload_n 0, 1) := by decide +kernel
theorem dX12_findHunt_84 : decode cX12_findHunt 84 = .ok (.getfield 36, 3) := by decide +kernel
theorem dX12_findHunt_87 : decode cX12_findHunt 87 = .ok (.iload_n 1, 1) := by decide +kernel
theorem dX12_findHunt_88 : decode cX12_findHunt 88 = .ok (.aload_n 0, 1) := by decide +kernel
theorem dX12_findHunt_89 : decode cX12_findHunt 89 = .ok (.aload_n 0, 1) := by decide +kernel
theorem dX12_findHunt_90 : decode cX12_findHunt 90 = .ok (.getfield 33, 3) := by decide +kernel
theorem dX12_findHunt_93 : decode cX12_findHunt 93 = .ok (.iload_n 1, 1) := by decide +kernel
theorem dX12_findHunt_94 : decode cX12_findHunt 94 = .ok (.iaload, 1) := by decide +kernel
theorem dX12_findHunt_95 : decode cX12_findHunt 95 = .ok (.aload_n 0, 1) := by decide +kernel
theorem dX12_findHunt_96 : decode cX12_findHunt 96 = .ok (.getfield 30, 3) := by decide +kernel
theorem dX12_findHunt_99 : decode cX12_findHunt 99 = .ok (.iload_n 1, 1) := by decide +kernel
theorem dX12_findHunt_100 : decode cX12_findHunt 100 = .ok (.iaload, 1) := by decide +kernel
theorem dX12_findHunt_101 : decode cX12_findHunt 101 = .ok (.iload_n 1, 1) := by decide +kernel
theorem dX12_findHunt_102 : decode cX12_findHunt 102 = .ok (.iconst 1, 1) := by decide +kernel
theorem dX12_findHunt_103 : decode cX12_findHunt 103 = .ok (.iadd, 1) := by decide +kernel
theorem dX12_findHunt_104 : decode cX12_findHunt 104 = .ok (.aload_n 0, 1) := by decide +kernel
theorem dX12_findHunt_105 : decode cX12_findHunt 105 = .ok (.getfield 168, 3) := by decide +kernel
theorem dX12_findHunt_108 : decode cX12_findHunt 108 = .ok (.if_icmp .ge 14, 3) := by decide +kernel
theorem dX12_findHunt_111 : decode cX12_findHunt 111 = .ok (.aload_n 0, 1) := by decide +kernel
theorem dX12_findHunt_112 : decode cX12_findHunt 112 = .ok (.getfield 33, 3) := by decide +kernel
theorem dX12_findHunt_115 : decode cX12_findHunt 115 = .ok (.iload_n 1, 1) := by decide +kernel
theorem dX12_findHunt_116 : decode cX12_findHunt 116 = .ok (.iconst 1, 1) := by decide +kernel
theorem dX12_findHunt_117 : decode cX12_findHunt 117 = .ok (.iadd, 1) := by decide +kernel
theorem dX12_findHunt_118 : decode cX12_findHunt 118 = .ok (.iaload, 1) := by decide +kernel
theorem dX12_findHunt_119 : decode cX12_findHunt 119 = .ok (.goto 11, 3) := by decide +kernel
theorem dX12_findHunt_122 : decode cX12_findHunt 122 = .ok (.aload_n 0, 1) := by decide +kernel
theorem dX12_findHunt_123 : decode cX12_findHunt 123 = .ok (.getfield 7, 3) := by decide +kernel
theorem dX12_findHunt_126 : decode cX12_findHunt 126 = .ok (.sipush 205, 3) := by decide +kernel
theorem dX12_findHunt_129 : decode cX12_findHunt 129 = .ok (.iaload, 1) := by decide +kernel
theorem dX12_findHunt_130 : decode cX12_findHunt 130 = .ok (.invokevirtual 178, 3) := by decide +kernel
theorem dX12_findHunt_133 : decode cX12_findHunt 133 = .ok (.iastore, 1) := by decide +kernel
theorem dX12_findHunt_134 : decode cX12_findHunt 134 = .ok (.aload_n 0, 1) := by decide +kernel
theorem dX12_findHunt_135 : decode cX12_findHunt 135 = .ok (.getfield 36, 3) := by decide +kernel
theorem dX12_findHunt_138 : decode cX12_findHunt 138 = .ok (.iload_n 1, 1) := by decide +kernel
theorem dX12_findHunt_139 : decode cX12_findHunt 139 = .ok (.iaload, 1) := by decide +kernel
theorem dX12_findHunt_140 : decode cX12_findHunt 140 = .ok (.ldc 157, 2) := by decide +kernel
theorem dX12_findHunt_142 : decode cX12_findHunt 142 = .ok (.if_icmp .lt 5, 3) := by decide +kernel
theorem dX12_findHunt_145 : decode cX12_findHunt 145 = .ok (.iconst 0, 1) := by decide +kernel
theorem dX12_findHunt_146 : decode cX12_findHunt 146 = .ok (.ireturn, 1) := by decide +kernel
theorem dX12_findHunt_147 : decode cX12_findHunt 147 = .ok (.aload_n 0, 1) := by decide +kernel
theorem dX12_findHunt_148 : decode cX12_findHunt 148 = .ok (.dup, 1) := by decide +kernel
theorem dX12_findHunt_149 : decode cX12_findHunt 149 = .ok (.getfield 175, 3) := by decide +kernel
theorem dX12_findHunt_152 : decode cX12_findHunt 152 = .ok (.aload_n 0, 1) := by decide +kernel
theorem dX12_findHunt_153 : decode cX12_findHunt 153 = .ok (.getfield 36, 3) := by decide +kernel
theorem dX12_findHunt_156 : decode cX12_findHunt 156 = .ok (.iload_n 1, 1) := by decide +kernel
theorem dX12_findHunt_157 : decode cX12_findHunt 157 = .ok (.iaload, 1) := by decide +kernel
theorem dX12_findHunt_158 : decode cX12_findHunt 158 = .ok (.iadd, 1) := by decide +kernel
theorem dX12_findHunt_159 : decode cX12_findHunt 159 = .ok (.putfield 175, 3) := by decide +kernel
theorem dX12_findHunt_162 : decode cX12_findHunt 162 = .ok (.iinc 1 1, 3) := by decide +kernel
theorem dX12_findHunt_165 : decode cX12_findHunt 165 = .ok (.goto (-90), 3) := by decide +kernel
theorem dX12_findHunt_168 : decode cX12_findHunt 168 = .ok (.iconst 1, 1) := by decide +kernel
theorem dX12_findHunt_169 : decode cX12_findHunt 169 = .ok (.ireturn, 1) := by decide +kernel
theorem bX12_findHunt_0 {Z : ZT} {X : XT} {μ : Mu} (E : Ent Z X mX12_findHunt 0 0) {p : Int32 → Mu → Prop} 
    (c : CtrS Z mX12_isSet [.ref (Z.2.2.1 + 455)] μ (rI p)) (k : ∀ v μ1, p v μ1 → JS Z X 4 [(0, .ref (Z.2.2.1 + 455))] [.int v] μ1) :
    JS Z X 0 [(0, .ref (Z.2.2.1 + 455))] [] μ := by
  refine J_aload_n E dX12_findHunt_0 rfl ?_
  refine S_callV (As := []) (rest := []) E dX12_findHunt_1 c kX12_isSet ⟨Nat.le_of_ble_eq_true rfl, Nat.le_of_ble_eq_true rfl⟩ rfl (Nat.le_of_ble_eq_true rfl) sh455 rfl rfl w6_209 w6_211 wp_50 (fun r_ μ1 hp_ => ?_)
  obtain ⟨v, rfl, hp_⟩ := hp_
  exact k v μ1 hp_
theorem bX12_findHunt_4 {Z : ZT} {X : XT} {μ : Mu} {s0 : Int32} (E : Ent Z X mX12_findHunt 0 0)  
    (kt : s0 = 0 → JS Z X 14 [] [] μ) (kf : ¬ (s0 = 0) → JS Z X 7 [(0, .ref (Z.2.2.1 + 455))] [] μ) :
    JS Z X 4 [(0, .ref (Z.2.2.1 + 455))] [.int s0] μ := by
  refine J_if_eq (tgt := 14) E dX12_findHunt_4 (by decide) (fun c => ?_) (fun c => ?_)
  · refine J.weak [] rfl ?_
    exact kt c
  · exact kf c
theorem bX12_findHunt_7 {Z : ZT} {X : XT} {μ : Mu} (E : Ent Z X mX12_findHunt 0 0)  
    (kt : ¬ (μ 455 13) = 0 → JS Z X 16 [(0, .ref (Z.2.2.1 + 455))] [] μ) (kf : (μ 455 13) = 0 → JS Z X 14 [] [] μ) :
    JS Z X 7 [(0, .ref (Z.2.2.1 + 455))] [] μ := by
  refine J_aload_n E dX12_findHunt_7 rfl ?_
  refine S_get (ci := 12) (q := 13) (v := .int (μ 455 13)) E dX12_findHunt_8 fs_X12_168 sh455 rfl ?_
  refine J_if_ne (tgt := 16) E dX12_findHunt_11 (by decide) (fun c => ?_) (fun c => ?_)
  · exact kt c
  · refine J.weak [] rfl ?_
    exact kf c
theorem bX12_findHunt_14 {Z : ZT} {X : XT} {μ : Mu} (E : Ent Z X mX12_findHunt 0 0) {P : Option Value → Mu → Prop} (hB : BodS Z X P) 
    (k : P (some (.int (nI 0))) μ) :
    JS Z X 14 [] [] μ := by
  refine J_iconst (v := nI 0) E dX12_findHunt_14 rfl ?_
  exact S_zret E hB dX12_findHunt_15 rfl rfl k
theorem bX12_findHunt_16 {Z : ZT} {X : XT} {μ : Mu} (E : Ent Z X mX12_findHunt 0 0)  
    (k : JS Z X 21 [(0, .ref (Z.2.2.1 + 455))] [] (uR μ 455 (upd (μ 455) 17 (nI 0)))) :
    JS Z X 16 [(0, .ref (Z.2.2.1 + 455))] [] μ := by
  refine J_aload_n E dX12_findHunt_16 rfl ?_
  refine J_iconst (v := nI 0) E dX12_findHunt_17 rfl ?_
  refine S_puti E dX12_findHunt_18 fs_X12_175 fp_X12_17 sh455 rfl ?_
  exact k
theorem bX12_findHunt_21 {Z : ZT} {X : XT} {μ : Mu} (E : Ent Z X mX12_findHunt 0 0)  
    (k : JS Z X 23 [(0, .ref (Z.2.2.1 + 455)), (1, .int (nI 0))] [] μ) :
    JS Z X 21 [(0, .ref (Z.2.2.1 + 455))] [] μ := by
  refine J_iconst (v := nI 0) E dX12_findHunt_21 rfl ?_
  refine J_istore_n (lv' := [(0, .ref (Z.2.2.1 + 455)), (1, .int (nI 0))]) E dX12_findHunt_22 (Nat.le_of_ble_eq_true rfl) rfl ?_
  exact k
theorem bX12_findHunt_23 {Z : ZT} {X : XT} {μ : Mu} {a1 : Int32} (E : Ent Z X mX12_findHunt 0 0)  
    (kt : (μ 455 13) ≤ a1 → JS Z X 73 [(0, .ref (Z.2.2.1 + 455))] [] μ) (kf : ¬ ((μ 455 13) ≤ a1) → JS Z X 31 [(0, .ref (Z.2.2.1 + 455)), (1, .int a1)] [] μ) :
    JS Z X 23 [(0, .ref (Z.2.2.1 + 455)), (1, .int a1)] [] μ := by
  refine J_iload_n E dX12_findHunt_23 rfl ?_
  refine J_aload_n E dX12_findHunt_24 rfl ?_
  refine S_get (ci := 12) (q := 13) (v := .int (μ 455 13)) E dX12_findHunt_25 fs_X12_168 sh455 rfl ?_
  refine J_icmp_ge (tgt := 73) E dX12_findHunt_28 (by decide) (fun c => ?_) (fun c => ?_)
  · refine J.weak [0] rfl ?_
    exact kt c
  · exact kf c
theorem bX12_findHunt_31 {Z : ZT} {X : XT} {μ : Mu} {a1 : Int32} (E : Ent Z X mX12_findHunt 0 0)  
    (kt : ¬ a1 = 0 → JS Z X 51 [(0, .ref (Z.2.2.1 + 455)), (1, .int a1)] [.int a1, .ref (Z.2.2.1 + 463)] μ) (kf : a1 = 0 → JS Z X 40 [(0, .ref (Z.2.2.1 + 455)), (1, .int a1)] [.int a1, .ref (Z.2.2.1 + 463)] μ) :
    JS Z X 31 [(0, .ref (Z.2.2.1 + 455)), (1, .int a1)] [] μ := by
  refine J_aload_n E dX12_findHunt_31 rfl ?_
  refine S_get (ci := 12) (q := 15) (v := .ref (Z.2.2.1 + 463)) E dX12_findHunt_32 fs_X12_33 sh455 rfl ?_
  refine J_iload_n E dX12_findHunt_35 rfl ?_
  refine J_iload_n E dX12_findHunt_36 rfl ?_
  refine J_if_ne (tgt := 51) E dX12_findHunt_37 (by decide) (fun c => ?_) (fun c => ?_)
  · exact kt c
  · exact kf c
theorem bX12_findHunt_40 {Z : ZT} {X : XT} {μ : Mu} {a1 : Int32} {s0 : Nat} {s1 : Int32} (E : Ent Z X mX12_findHunt 0 0) (hs0 : SH s0 = .inr (0, 6)) (s1_ : vp_in (nI 204) 988)
    (k : JS Z X 66 [(0, .ref (Z.2.2.1 + 455)), (1, .int a1)] [.int (μ 456 (ix (nI 204))), .int s1, .ref (Z.2.2.1 + s0)] μ) :
    JS Z X 40 [(0, .ref (Z.2.2.1 + 455)), (1, .int a1)] [.int s1, .ref (Z.2.2.1 + s0)] μ := by
  refine J_aload_n E dX12_findHunt_40 rfl ?_
  refine S_get (ci := 12) (q := 0) (v := .ref (Z.2.2.1 + 456)) E dX12_findHunt_41 fs_X12_7 sh455 rfl ?_
  refine J_sipush (v := nI 204) E dX12_findHunt_44 rfl ?_
  refine S_iald E dX12_findHunt_47 sh456 s1_ ?_
  refine J_goto (tgt := 66) E dX12_findHunt_48 (by decide) ?_
  exact k
theorem bX12_findHunt_51 {Z : ZT} {X : XT} {μ : Mu} {a1 : Int32} {s0 : Nat} {s1 : Int32} (E : Ent Z X mX12_findHunt 0 0) (hs0 : SH s0 = .inr (0, 6)) (s1_ : vp_in a1 6) (s2_ : vp_in ((nI 155) + (μ 462 (ix a1))) 988)
    (k : JS Z X 66 [(0, .ref (Z.2.2.1 + 455)), (1, .int a1)] [.int (μ 456 (ix ((nI 155) + (μ 462 (ix a1))))), .int s1, .ref (Z.2.2.1 + s0)] μ) :
    JS Z X 51 [(0, .ref (Z.2.2.1 + 455)), (1, .int a1)] [.int s1, .ref (Z.2.2.1 + s0)] μ := by
  refine J_aload_n E dX12_findHunt_51 rfl ?_
  refine S_get (ci := 12) (q := 0) (v := .ref (Z.2.2.1 + 456)) E dX12_findHunt_52 fs_X12_7 sh455 rfl ?_
  refine J_sipush (v := nI 155) E dX12_findHunt_55 rfl ?_
  refine J_aload_n E dX12_findHunt_58 rfl ?_
  refine S_get (ci := 12) (q := 14) (v := .ref (Z.2.2.1 + 462)) E dX12_findHunt_59 fs_X12_30 sh455 rfl ?_
  refine J_iload_n E dX12_findHunt_62 rfl ?_
  refine S_iald E dX12_findHunt_63 sh462 s1_ ?_
  refine J_iadd E dX12_findHunt_64 ?_
  refine S_iald E dX12_findHunt_65 sh456 s2_ ?_
  exact k
theorem bX12_findHunt_66 {Z : ZT} {X : XT} {μ : Mu} {a1 : Int32} {s0 : Nat} {s1 : Int32} {s2 : Int32} (E : Ent Z X mX12_findHunt 0 0) (hs0 : SH s0 = .inr (0, 6)) (s1_ : vp_in s1 6)
    (k : JS Z X 67 [(0, .ref (Z.2.2.1 + 455)), (1, .int a1)] [] (uR μ s0 (upd (μ s0) (ix s1) s2))) :
    JS Z X 66 [(0, .ref (Z.2.2.1 + 455)), (1, .int a1)] [.int s2, .int s1, .ref (Z.2.2.1 + s0)] μ := by
  refine S_iast E dX12_findHunt_66 hs0 s1_ ?_
  exact k
theorem bX12_findHunt_67 {Z : ZT} {X : XT} {μ : Mu} {a1 : Int32} (E : Ent Z X mX12_findHunt 0 0)  
    (k : JS Z X 23 [(0, .ref (Z.2.2.1 + 455)), (1, .int (a1 + nI 1))] [] μ) :
    JS Z X 67 [(0, .ref (Z.2.2.1 + 455)), (1, .int a1)] [] μ := by
  refine J_iinc (v := a1 + nI 1) (lv' := [(0, .ref (Z.2.2.1 + 455)), (1, .int (a1 + nI 1))]) E dX12_findHunt_67 rfl rfl (Nat.le_of_ble_eq_true rfl) rfl ?_
  refine J_goto (tgt := 23) E dX12_findHunt_70 (by decide) ?_
  exact k
theorem bX12_findHunt_73 {Z : ZT} {X : XT} {μ : Mu} (E : Ent Z X mX12_findHunt 0 0)  
    (k : JS Z X 75 [(0, .ref (Z.2.2.1 + 455)), (1, .int (nI 0))] [] μ) :
    JS Z X 73 [(0, .ref (Z.2.2.1 + 455))] [] μ := by
  refine J_iconst (v := nI 0) E dX12_findHunt_73 rfl ?_
  refine J_istore_n (lv' := [(0, .ref (Z.2.2.1 + 455)), (1, .int (nI 0))]) E dX12_findHunt_74 (Nat.le_of_ble_eq_true rfl) rfl ?_
  exact k
theorem bX12_findHunt_75 {Z : ZT} {X : XT} {μ : Mu} {a1 : Int32} (E : Ent Z X mX12_findHunt 0 0)  
    (kt : (μ 455 13) ≤ a1 → JS Z X 168 [] [] μ) (kf : ¬ ((μ 455 13) ≤ a1) → JS Z X 83 [(0, .ref (Z.2.2.1 + 455)), (1, .int a1)] [] μ) :
    JS Z X 75 [(0, .ref (Z.2.2.1 + 455)), (1, .int a1)] [] μ := by
  refine J_iload_n E dX12_findHunt_75 rfl ?_
  refine J_aload_n E dX12_findHunt_76 rfl ?_
  refine S_get (ci := 12) (q := 13) (v := .int (μ 455 13)) E dX12_findHunt_77 fs_X12_168 sh455 rfl ?_
  refine J_icmp_ge (tgt := 168) E dX12_findHunt_80 (by decide) (fun c => ?_) (fun c => ?_)
  · refine J.weak [] rfl ?_
    exact kt c
  · exact kf c
theorem bX12_findHunt_83 {Z : ZT} {X : XT} {μ : Mu} {a1 : Int32} (E : Ent Z X mX12_findHunt 0 0)  (s1_ : vp_in a1 6) (s2_ : vp_in a1 6)
    (kt : (μ 455 13) ≤ (a1 + (nI 1)) → JS Z X 122 [(0, .ref (Z.2.2.1 + 455)), (1, .int a1)] [.int (μ 462 (ix a1)), .int (μ 463 (ix a1)), .ref (Z.2.2.1 + 455), .int a1, .ref (Z.2.2.1 + 464)] μ) (kf : ¬ ((μ 455 13) ≤ (a1 + (nI 1))) → JS Z X 111 [(0, .ref (Z.2.2.1 + 455)), (1, .int a1)] [.int (μ 462 (ix a1)), .int (μ 463 (ix a1)), .ref (Z.2.2.1 + 455), .int a1, .ref (Z.2.2.1 + 464)] μ) :
    JS Z X 83 [(0, .ref (Z.2.2.1 + 455)), (1, .int a1)] [] μ := by
  refine J_aload_n E dX12_findHunt_83 rfl ?_
  refine S_get (ci := 12) (q := 16) (v := .ref (Z.2.2.1 + 464)) E dX12_findHunt_84 fs_X12_36 sh455 rfl ?_
  refine J_iload_n E dX12_findHunt_87 rfl ?_
  refine J_aload_n E dX12_findHunt_88 rfl ?_
  refine J_aload_n E dX12_findHunt_89 rfl ?_
  refine S_get (ci := 12) (q := 15) (v := .ref (Z.2.2.1 + 463)) E dX12_findHunt_90 fs_X12_33 sh455 rfl ?_
  refine J_iload_n E dX12_findHunt_93 rfl ?_
  refine S_iald E dX12_findHunt_94 sh463 s1_ ?_
  refine J_aload_n E dX12_findHunt_95 rfl ?_
  refine S_get (ci := 12) (q := 14) (v := .ref (Z.2.2.1 + 462)) E dX12_findHunt_96 fs_X12_30 sh455 rfl ?_
  refine J_iload_n E dX12_findHunt_99 rfl ?_
  refine S_iald E dX12_findHunt_100 sh462 s2_ ?_
  refine J_iload_n E dX12_findHunt_101 rfl ?_
  refine J_iconst (v := nI 1) E dX12_findHunt_102 rfl ?_
  refine J_iadd E dX12_findHunt_103 ?_
  refine J_aload_n E dX12_findHunt_104 rfl ?_
  refine S_get (ci := 12) (q := 13) (v := .int (μ 455 13)) E dX12_findHunt_105 fs_X12_168 sh455 rfl ?_
  refine J_icmp_ge (tgt := 122) E dX12_findHunt_108 (by decide) (fun c => ?_) (fun c => ?_)
  · exact kt c
  · exact kf c
theorem bX12_findHunt_111 {Z : ZT} {X : XT} {μ : Mu} {a1 : Int32} {s0 : Nat} {s1 : Int32} {s3 : Int32} {s4 : Int32} (E : Ent Z X mX12_findHunt 0 0) (hs0 : SH s0 = .inr (0, 6)) (s1_ : vp_in (a1 + (nI 1)) 6)
    (k : JS Z X 130 [(0, .ref (Z.2.2.1 + 455)), (1, .int a1)] [.int (μ 463 (ix (a1 + (nI 1)))), .int s4, .int s3, .ref (Z.2.2.1 + 455), .int s1, .ref (Z.2.2.1 + s0)] μ) :
    JS Z X 111 [(0, .ref (Z.2.2.1 + 455)), (1, .int a1)] [.int s4, .int s3, .ref (Z.2.2.1 + 455), .int s1, .ref (Z.2.2.1 + s0)] μ := by
  refine J_aload_n E dX12_findHunt_111 rfl ?_
  refine S_get (ci := 12) (q := 15) (v := .ref (Z.2.2.1 + 463)) E dX12_findHunt_112 fs_X12_33 sh455 rfl ?_
  refine J_iload_n E dX12_findHunt_115 rfl ?_
  refine J_iconst (v := nI 1) E dX12_findHunt_116 rfl ?_
  refine J_iadd E dX12_findHunt_117 ?_
  refine S_iald E dX12_findHunt_118 sh463 s1_ ?_
  refine J_goto (tgt := 130) E dX12_findHunt_119 (by decide) ?_
  exact k
theorem bX12_findHunt_122 {Z : ZT} {X : XT} {μ : Mu} {a1 : Int32} {s0 : Nat} {s1 : Int32} {s3 : Int32} {s4 : Int32} (E : Ent Z X mX12_findHunt 0 0) (hs0 : SH s0 = .inr (0, 6)) (s1_ : vp_in (nI 205) 988)
    (k : JS Z X 130 [(0, .ref (Z.2.2.1 + 455)), (1, .int a1)] [.int (μ 456 (ix (nI 205))), .int s4, .int s3, .ref (Z.2.2.1 + 455), .int s1, .ref (Z.2.2.1 + s0)] μ) :
    JS Z X 122 [(0, .ref (Z.2.2.1 + 455)), (1, .int a1)] [.int s4, .int s3, .ref (Z.2.2.1 + 455), .int s1, .ref (Z.2.2.1 + s0)] μ := by
  refine J_aload_n E dX12_findHunt_122 rfl ?_
  refine S_get (ci := 12) (q := 0) (v := .ref (Z.2.2.1 + 456)) E dX12_findHunt_123 fs_X12_7 sh455 rfl ?_
  refine J_sipush (v := nI 205) E dX12_findHunt_126 rfl ?_
  refine S_iald E dX12_findHunt_129 sh456 s1_ ?_
  exact k
theorem bX12_findHunt_130 {Z : ZT} {X : XT} {μ : Mu} {a1 : Int32} {s0 : Nat} {s1 : Int32} {s3 : Int32} {s4 : Int32} {s5 : Int32} (E : Ent Z X mX12_findHunt 0 0) (hs0 : SH s0 = .inr (0, 6)) {p : Int32 → Mu → Prop} 
    (c : CtrS Z mX12_searchFor [.ref (Z.2.2.1 + 455), .int s3, .int s4, .int s5] μ (rI p)) (k : ∀ v μ1, p v μ1 → JS Z X 133 [(0, .ref (Z.2.2.1 + 455)), (1, .int a1)] [.int v, .int s1, .ref (Z.2.2.1 + s0)] μ1) :
    JS Z X 130 [(0, .ref (Z.2.2.1 + 455)), (1, .int a1)] [.int s5, .int s4, .int s3, .ref (Z.2.2.1 + 455), .int s1, .ref (Z.2.2.1 + s0)] μ := by
  refine S_callV (As := [.int s3, .int s4, .int s5]) (rest := [.int s1, .ref (Z.2.2.1 + s0)]) E dX12_findHunt_130 c kX12_searchFor ⟨Nat.le_of_ble_eq_true rfl, Nat.le_of_ble_eq_true rfl⟩ rfl (Nat.le_of_ble_eq_true rfl) sh455 rfl rfl w6_213 w6_215 wp_51 (fun r_ μ1 hp_ => ?_)
  obtain ⟨v, rfl, hp_⟩ := hp_
  exact k v μ1 hp_
theorem bX12_findHunt_133 {Z : ZT} {X : XT} {μ : Mu} {a1 : Int32} {s0 : Nat} {s1 : Int32} {s2 : Int32} (E : Ent Z X mX12_findHunt 0 0) (hs0 : SH s0 = .inr (0, 6)) (s1_ : vp_in s1 6)
    (k : JS Z X 134 [(0, .ref (Z.2.2.1 + 455)), (1, .int a1)] [] (uR μ s0 (upd (μ s0) (ix s1) s2))) :
    JS Z X 133 [(0, .ref (Z.2.2.1 + 455)), (1, .int a1)] [.int s2, .int s1, .ref (Z.2.2.1 + s0)] μ := by
  refine S_iast E dX12_findHunt_133 hs0 s1_ ?_
  exact k
theorem bX12_findHunt_134 {Z : ZT} {X : XT} {μ : Mu} {a1 : Int32} (E : Ent Z X mX12_findHunt 0 0)  (s1_ : vp_in a1 6)
    (kt : (μ 464 (ix a1)) < (nI 100000) → JS Z X 147 [(0, .ref (Z.2.2.1 + 455)), (1, .int a1)] [] μ) (kf : ¬ ((μ 464 (ix a1)) < (nI 100000)) → JS Z X 145 [] [] μ) :
    JS Z X 134 [(0, .ref (Z.2.2.1 + 455)), (1, .int a1)] [] μ := by
  refine J_aload_n E dX12_findHunt_134 rfl ?_
  refine S_get (ci := 12) (q := 16) (v := .ref (Z.2.2.1 + 464)) E dX12_findHunt_135 fs_X12_36 sh455 rfl ?_
  refine J_iload_n E dX12_findHunt_138 rfl ?_
  refine S_iald E dX12_findHunt_139 sh464 s1_ ?_
  refine J_ldc (v := nI 100000) E dX12_findHunt_140 w6_192 ?_
  refine J_icmp_lt (tgt := 147) E dX12_findHunt_142 (by decide) (fun c => ?_) (fun c => ?_)
  · exact kt c
  · refine J.weak [] rfl ?_
    exact kf c
theorem bX12_findHunt_145 {Z : ZT} {X : XT} {μ : Mu} (E : Ent Z X mX12_findHunt 0 0) {P : Option Value → Mu → Prop} (hB : BodS Z X P) 
    (k : P (some (.int (nI 0))) μ) :
    JS Z X 145 [] [] μ := by
  refine J_iconst (v := nI 0) E dX12_findHunt_145 rfl ?_
  exact S_zret E hB dX12_findHunt_146 rfl rfl k
theorem bX12_findHunt_147 {Z : ZT} {X : XT} {μ : Mu} {a1 : Int32} (E : Ent Z X mX12_findHunt 0 0)  (s1_ : vp_in a1 6)
    (k : JS Z X 162 [(0, .ref (Z.2.2.1 + 455)), (1, .int a1)] [] (uR μ 455 (upd (μ 455) 17 ((μ 455 17) + (μ 464 (ix a1)))))) :
    JS Z X 147 [(0, .ref (Z.2.2.1 + 455)), (1, .int a1)] [] μ := by
  refine J_aload_n E dX12_findHunt_147 rfl ?_
  refine J_dup E dX12_findHunt_148 rfl ?_
  refine S_get (ci := 12) (q := 17) (v := .int (μ 455 17)) E dX12_findHunt_149 fs_X12_175 sh455 rfl ?_
  refine J_aload_n E dX12_findHunt_152 rfl ?_
  refine S_get (ci := 12) (q := 16) (v := .ref (Z.2.2.1 + 464)) E dX12_findHunt_153 fs_X12_36 sh455 rfl ?_
  refine J_iload_n E dX12_findHunt_156 rfl ?_
  refine S_iald E dX12_findHunt_157 sh464 s1_ ?_
  refine J_iadd E dX12_findHunt_158 ?_
  refine S_puti E dX12_findHunt_159 fs_X12_175 fp_X12_17 sh455 rfl ?_
  exact k
theorem bX12_findHunt_162 {Z : ZT} {X : XT} {μ : Mu} {a1 : Int32} (E : Ent Z X mX12_findHunt 0 0)  
    (k : JS Z X 75 [(0, .ref (Z.2.2.1 + 455)), (1, .int (a1 + nI 1))] [] μ) :
    JS Z X 162 [(0, .ref (Z.2.2.1 + 455)), (1, .int a1)] [] μ := by
  refine J_iinc (v := a1 + nI 1) (lv' := [(0, .ref (Z.2.2.1 + 455)), (1, .int (a1 + nI 1))]) E dX12_findHunt_162 rfl rfl (Nat.le_of_ble_eq_true rfl) rfl ?_
  refine J_goto (tgt := 75) E dX12_findHunt_165 (by decide) ?_
  exact k
theorem bX12_findHunt_168 {Z : ZT} {X : XT} {μ : Mu} (E : Ent Z X mX12_findHunt 0 0) {P : Option Value → Mu → Prop} (hB : BodS Z X P) 
    (k : P (some (.int (nI 1))) μ) :
    JS Z X 168 [] [] μ := by
  refine J_iconst (v := nI 1) E dX12_findHunt_168 rfl ?_
  exact S_zret E hB dX12_findHunt_169 rfl rfl k
theorem dX12_isHunt_0 : decode cX12_isHunt 0 = .ok (.aload_n 0, 1) := by decide +kernel
theorem dX12_isHunt_1 : decode cX12_isHunt 1 = .ok (.invokevirtual 158, 3) := by decide +kernel
theorem dX12_isHunt_4 : decode cX12_isHunt 4 = .ok (.aload_n 0, 1) := by decide +kernel
theorem dX12_isHunt_5 : decode cX12_isHunt 5 = .ok (.iload_n 1, 1) := by decide +kernel
theorem dX12_isHunt_6 : decode cX12_isHunt 6 = .ok (.invokevirtual 181, 3) := by decide +kernel
theorem dX12_isHunt_9 : decode cX12_isHunt 9 = .ok (.aload_n 0, 1) := by decide +kernel
theorem dX12_isHunt_10 : decode cX12_isHunt 10 = .ok (.invokevirtual 185, 3) := by decide +kernel
theorem dX12_isHunt_13 : decode cX12_isHunt 13 = .ok (.ireturn, 1) := by decide +kernel
theorem bX12_isHunt_0 {Z : ZT} {X : XT} {μ : Mu} {a1 : Int32} (E : Ent Z X mX12_isHunt 0 0) {p : Mu → Prop} 
    (c : CtrS Z mX12_findWalks [.ref (Z.2.2.1 + 455)] μ (rV p)) (k : ∀ μ1, p μ1 → JS Z X 4 [(0, .ref (Z.2.2.1 + 455)), (1, .int a1)] [] μ1) :
    JS Z X 0 [(0, .ref (Z.2.2.1 + 455)), (1, .int a1)] [] μ := by
  refine J_aload_n E dX12_isHunt_0 rfl ?_
  refine S_callV (As := []) (rest := []) E dX12_isHunt_1 c kX12_findWalks ⟨Nat.le_of_ble_eq_true rfl, Nat.le_of_ble_eq_true rfl⟩ rfl (Nat.le_of_ble_eq_true rfl) sh455 rfl rfl w6_188 w6_190 wp_46 (fun r_ μ1 hp_ => ?_)
  obtain ⟨rfl, hp_⟩ := hp_
  exact k μ1 hp_
theorem bX12_isHunt_4 {Z : ZT} {X : XT} {μ : Mu} {a1 : Int32} (E : Ent Z X mX12_isHunt 0 0) {p : Mu → Prop} 
    (c : CtrS Z mX12_takeRow [.ref (Z.2.2.1 + 455), .int a1] μ (rV p)) (k : ∀ μ1, p μ1 → JS Z X 9 [(0, .ref (Z.2.2.1 + 455))] [] μ1) :
    JS Z X 4 [(0, .ref (Z.2.2.1 + 455)), (1, .int a1)] [] μ := by
  refine J_aload_n E dX12_isHunt_4 rfl ?_
  refine J_iload_n E dX12_isHunt_5 rfl ?_
  refine S_callV (As := [.int a1]) (rest := []) E dX12_isHunt_6 c kX12_takeRow ⟨Nat.le_of_ble_eq_true rfl, Nat.le_of_ble_eq_true rfl⟩ rfl (Nat.le_of_ble_eq_true rfl) sh455 rfl rfl w6_201 w6_203 wp_48 (fun r_ μ1 hp_ => ?_)
  obtain ⟨rfl, hp_⟩ := hp_
  refine J.weak [0] rfl ?_
  exact k μ1 hp_
theorem bX12_isHunt_9 {Z : ZT} {X : XT} {μ : Mu} (E : Ent Z X mX12_isHunt 0 0) {p : Int32 → Mu → Prop} 
    (c : CtrS Z mX12_findHunt [.ref (Z.2.2.1 + 455)] μ (rI p)) (k : ∀ v μ1, p v μ1 → JS Z X 13 [] [.int v] μ1) :
    JS Z X 9 [(0, .ref (Z.2.2.1 + 455))] [] μ := by
  refine J_aload_n E dX12_isHunt_9 rfl ?_
  refine S_callV (As := []) (rest := []) E dX12_isHunt_10 c kX12_findHunt ⟨Nat.le_of_ble_eq_true rfl, Nat.le_of_ble_eq_true rfl⟩ rfl (Nat.le_of_ble_eq_true rfl) sh455 rfl rfl w6_205 w6_207 wp_49 (fun r_ μ1 hp_ => ?_)
  obtain ⟨v, rfl, hp_⟩ := hp_
  refine J.weak [] rfl ?_
  exact k v μ1 hp_
theorem bX12_isHunt_13 {Z : ZT} {X : XT} {μ : Mu} {s0 : Int32} (E : Ent Z X mX12_isHunt 0 0) {P : Option Value → Mu → Prop} (hB : BodS Z X P) (s1_ : narrow .boolean (.int s0) = .int s0)
    (k : P (some (.int s0)) μ) :
    JS Z X 13 [] [.int s0] μ := by
  exact S_zret E hB dX12_isHunt_13 rfl s1_ k
theorem dX12_quickAt_0 : decode cX12_quickAt 0 = .ok (.aload_n 0, 1) := by decide +kernel
theorem dX12_quickAt_1 : decode cX12_quickAt 1 = .ok (.getfield 7, 3) := by decide +kernel
theorem dX12_quickAt_4 : decode cX12_quickAt 4 = .ok (.sipush 142, 3) := by decide +kernel
theorem dX12_quickAt_7 : decode cX12_quickAt 7 = .ok (.iload_n 1, 1) := by decide +kernel
theorem dX12_quickAt_8 : decode cX12_quickAt 8 = .ok (.iadd, 1) := by decide +kernel
theorem dX12_quickAt_9 : decode cX12_quickAt 9 = .ok (.iaload, 1) := by decide +kernel
theorem dX12_quickAt_10 : decode cX12_quickAt 10 = .ok (.iload_n 3, 1) := by decide +kernel
theorem dX12_quickAt_11 : decode cX12_quickAt 11 = .ok (.ishr, 1) := by decide +kernel
theorem dX12_quickAt_12 : decode cX12_quickAt 12 = .ok (.iconst 1, 1) := by decide +kernel
theorem dX12_quickAt_13 : decode cX12_quickAt 13 = .ok (.iand, 1) := by decide +kernel
theorem dX12_quickAt_14 : decode cX12_quickAt 14 = .ok (.ifCond .ne 49, 3) := by decide +kernel
theorem dX12_quickAt_17 : decode cX12_quickAt 17 = .ok (.iload_n 2, 1) := by decide +kernel
theorem dX12_quickAt_18 : decode cX12_quickAt 18 = .ok (.ifCond .eq 8, 3) := by decide +kernel
theorem dX12_quickAt_21 : decode cX12_quickAt 21 = .ok (.iload_n 2, 1) := by decide +kernel
theorem dX12_quickAt_22 : decode cX12_quickAt 22 = .ok (.iconst 2, 1) := by decide +kernel
theorem dX12_quickAt_23 : decode cX12_quickAt 23 = .ok (.if_icmp .ne 19, 3) := by decide +kernel
theorem dX12_quickAt_26 : decode cX12_quickAt 26 = .ok (.aload_n 0, 1) := by decide +kernel
theorem dX12_quickAt_27 : decode cX12_quickAt 27 = .ok (.getfield 7, 3) := by decide +kernel
theorem dX12_quickAt_30 : decode cX12_quickAt 30 = .ok (.bipush 112, 2) := by decide +kernel
theorem dX12_quickAt_32 : decode cX12_quickAt 32 = .ok (.iload_n 1, 1) := by decide +kernel
theorem dX12_quickAt_33 : decode cX12_quickAt 33 = .ok (.iadd, 1) := by decide +kernel
theorem dX12_quickAt_34 : decode cX12_quickAt 34 = .ok (.iaload, 1) := by decide +kernel
theorem dX12_quickAt_35 : decode cX12_quickAt 35 = .ok (.iconst 1, 1) := by decide +kernel
theorem dX12_quickAt_36 : decode cX12_quickAt 36 = .ok (.if_icmp .ne 27, 3) := by decide +kernel
theorem dX12_quickAt_39 : decode cX12_quickAt 39 = .ok (.goto 20, 3) := by decide +kernel
theorem dX12_quickAt_42 : decode cX12_quickAt 42 = .ok (.iload_n 2, 1) := by decide +kernel
theorem dX12_quickAt_43 : decode cX12_quickAt 43 = .ok (.iconst 3, 1) := by decide +kernel
theorem dX12_quickAt_44 : decode cX12_quickAt 44 = .ok (.if_icmp .ne 15, 3) := by decide +kernel
theorem dX12_quickAt_47 : decode cX12_quickAt 47 = .ok (.aload_n 0, 1) := by decide +kernel
theorem dX12_quickAt_48 : decode cX12_quickAt 48 = .ok (.getfield 7, 3) := by decide +kernel
theorem dX12_quickAt_51 : decode cX12_quickAt 51 = .ok (.bipush 112, 2) := by decide +kernel
theorem dX12_quickAt_53 : decode cX12_quickAt 53 = .ok (.iload_n 1, 1) := by decide +kernel
theorem dX12_quickAt_54 : decode cX12_quickAt 54 = .ok (.iadd, 1) := by decide +kernel
theorem dX12_quickAt_55 : decode cX12_quickAt 55 = .ok (.iaload, 1) := by decide +kernel
theorem dX12_quickAt_56 : decode cX12_quickAt 56 = .ok (.ifCond .ne 7, 3) := by decide +kernel
theorem dX12_quickAt_59 : decode cX12_quickAt 59 = .ok (.iconst 1, 1) := by decide +kernel
theorem dX12_quickAt_60 : decode cX12_quickAt 60 = .ok (.goto 4, 3) := by decide +kernel
theorem dX12_quickAt_63 : decode cX12_quickAt 63 = .ok (.iconst 0, 1) := by decide +kernel
theorem dX12_quickAt_64 : decode cX12_quickAt 64 = .ok (.istore 4, 2) := by decide +kernel
theorem dX12_quickAt_66 : decode cX12_quickAt 66 = .ok (.iload 4, 2) := by decide +kernel
theorem dX12_quickAt_68 : decode cX12_quickAt 68 = .ok (.ifCond .eq 19, 3) := by decide +kernel
theorem dX12_quickAt_71 : decode cX12_quickAt 71 = .ok (.aload_n 0, 1) := by decide +kernel
theorem dX12_quickAt_72 : decode cX12_quickAt 72 = .ok (.getfield 7, 3) := by decide +kernel
theorem dX12_quickAt_75 : decode cX12_quickAt 75 = .ok (.bipush 118, 2) := by decide +kernel
theorem dX12_quickAt_77 : decode cX12_quickAt 77 = .ok (.iconst 4, 1) := by decide +kernel
theorem dX12_quickAt_78 : decode cX12_quickAt 78 = .ok (.iload_n 1, 1) := by decide +kernel
theorem dX12_quickAt_79 : decode cX12_quickAt 79 = .ok (.imul, 1) := by decide +kernel
theorem dX12_quickAt_80 : decode cX12_quickAt 80 = .ok (.iadd, 1) := by decide +kernel
theorem dX12_quickAt_81 : decode cX12_quickAt 81 = .ok (.iload_n 2, 1) := by decide +kernel
theorem dX12_quickAt_82 : decode cX12_quickAt 82 = .ok (.iadd, 1) := by decide +kernel
theorem dX12_quickAt_83 : decode cX12_quickAt 83 = .ok (.iaload, 1) := by decide +kernel
theorem dX12_quickAt_84 : decode cX12_quickAt 84 = .ok (.goto 4, 3) := by decide +kernel
theorem dX12_quickAt_87 : decode cX12_quickAt 87 = .ok (.iconst 0, 1) := by decide +kernel
theorem dX12_quickAt_88 : decode cX12_quickAt 88 = .ok (.ireturn, 1) := by decide +kernel
theorem bX12_quickAt_0 {Z : ZT} {X : XT} {μ : Mu} {a1 : Int32} {a2 : Int32} {a3 : Int32} (E : Ent Z X mX12_quickAt 0 0)  (s1_ : vp_in ((nI 142) + a1) 988)
    (kt : ¬ (((μ 456 (ix ((nI 142) + a1))) >>> (a3 &&& 31)) &&& (nI 1)) = 0 → JS Z X 63 [(0, .ref (Z.2.2.1 + 455)), (1, .int a1), (2, .int a2)] [] μ) (kf : (((μ 456 (ix ((nI 142) + a1))) >>> (a3 &&& 31)) &&& (nI 1)) = 0 → JS Z X 17 [(0, .ref (Z.2.2.1 + 455)), (1, .int a1), (2, .int a2)] [] μ) :
    JS Z X 0 [(0, .ref (Z.2.2.1 + 455)), (1, .int a1), (2, .int a2), (3, .int a3)] [] μ := by
  refine J_aload_n E dX12_quickAt_0 rfl ?_
  refine S_get (ci := 12) (q := 0) (v := .ref (Z.2.2.1 + 456)) E dX12_quickAt_1 fs_X12_7 sh455 rfl ?_
  refine J_sipush (v := nI 142) E dX12_quickAt_4 rfl ?_
  refine J_iload_n E dX12_quickAt_7 rfl ?_
  refine J_iadd E dX12_quickAt_8 ?_
  refine S_iald E dX12_quickAt_9 sh456 s1_ ?_
  refine J_iload_n E dX12_quickAt_10 rfl ?_
  refine J_ishr E dX12_quickAt_11 ?_
  refine J_iconst (v := nI 1) E dX12_quickAt_12 rfl ?_
  refine J_iand E dX12_quickAt_13 ?_
  refine J_if_ne (tgt := 63) E dX12_quickAt_14 (by decide) (fun c => ?_) (fun c => ?_)
  · refine J.weak [0, 1, 2] rfl ?_
    exact kt c
  · refine J.weak [0, 1, 2] rfl ?_
    exact kf c
theorem bX12_quickAt_17 {Z : ZT} {X : XT} {μ : Mu} {a1 : Int32} {a2 : Int32} (E : Ent Z X mX12_quickAt 0 0)  
    (kt : a2 = 0 → JS Z X 26 [(0, .ref (Z.2.2.1 + 455)), (1, .int a1), (2, .int a2)] [] μ) (kf : ¬ (a2 = 0) → JS Z X 21 [(0, .ref (Z.2.2.1 + 455)), (1, .int a1), (2, .int a2)] [] μ) :
    JS Z X 17 [(0, .ref (Z.2.2.1 + 455)), (1, .int a1), (2, .int a2)] [] μ := by
  refine J_iload_n E dX12_quickAt_17 rfl ?_
  refine J_if_eq (tgt := 26) E dX12_quickAt_18 (by decide) (fun c => ?_) (fun c => ?_)
  · exact kt c
  · exact kf c
theorem bX12_quickAt_21 {Z : ZT} {X : XT} {μ : Mu} {a1 : Int32} {a2 : Int32} (E : Ent Z X mX12_quickAt 0 0)  
    (kt : ¬ a2 = (nI 2) → JS Z X 42 [(0, .ref (Z.2.2.1 + 455)), (1, .int a1), (2, .int a2)] [] μ) (kf : a2 = (nI 2) → JS Z X 26 [(0, .ref (Z.2.2.1 + 455)), (1, .int a1), (2, .int a2)] [] μ) :
    JS Z X 21 [(0, .ref (Z.2.2.1 + 455)), (1, .int a1), (2, .int a2)] [] μ := by
  refine J_iload_n E dX12_quickAt_21 rfl ?_
  refine J_iconst (v := nI 2) E dX12_quickAt_22 rfl ?_
  refine J_icmp_ne (tgt := 42) E dX12_quickAt_23 (by decide) (fun c => ?_) (fun c => ?_)
  · exact kt c
  · exact kf c
theorem bX12_quickAt_26 {Z : ZT} {X : XT} {μ : Mu} {a1 : Int32} {a2 : Int32} (E : Ent Z X mX12_quickAt 0 0)  (s1_ : vp_in ((nI 112) + a1) 988)
    (kt : ¬ (μ 456 (ix ((nI 112) + a1))) = (nI 1) → JS Z X 63 [(0, .ref (Z.2.2.1 + 455)), (1, .int a1), (2, .int a2)] [] μ) (kf : (μ 456 (ix ((nI 112) + a1))) = (nI 1) → JS Z X 39 [(0, .ref (Z.2.2.1 + 455)), (1, .int a1), (2, .int a2)] [] μ) :
    JS Z X 26 [(0, .ref (Z.2.2.1 + 455)), (1, .int a1), (2, .int a2)] [] μ := by
  refine J_aload_n E dX12_quickAt_26 rfl ?_
  refine S_get (ci := 12) (q := 0) (v := .ref (Z.2.2.1 + 456)) E dX12_quickAt_27 fs_X12_7 sh455 rfl ?_
  refine J_bipush (v := nI 112) E dX12_quickAt_30 rfl ?_
  refine J_iload_n E dX12_quickAt_32 rfl ?_
  refine J_iadd E dX12_quickAt_33 ?_
  refine S_iald E dX12_quickAt_34 sh456 s1_ ?_
  refine J_iconst (v := nI 1) E dX12_quickAt_35 rfl ?_
  refine J_icmp_ne (tgt := 63) E dX12_quickAt_36 (by decide) (fun c => ?_) (fun c => ?_)
  · exact kt c
  · exact kf c
theorem bX12_quickAt_39 {Z : ZT} {X : XT} {μ : Mu} {a1 : Int32} {a2 : Int32} (E : Ent Z X mX12_quickAt 0 0)  
    (k : JS Z X 59 [(0, .ref (Z.2.2.1 + 455)), (1, .int a1), (2, .int a2)] [] μ) :
    JS Z X 39 [(0, .ref (Z.2.2.1 + 455)), (1, .int a1), (2, .int a2)] [] μ := by
  refine J_goto (tgt := 59) E dX12_quickAt_39 (by decide) ?_
  exact k
theorem bX12_quickAt_42 {Z : ZT} {X : XT} {μ : Mu} {a1 : Int32} {a2 : Int32} (E : Ent Z X mX12_quickAt 0 0)  
    (kt : ¬ a2 = (nI 3) → JS Z X 59 [(0, .ref (Z.2.2.1 + 455)), (1, .int a1), (2, .int a2)] [] μ) (kf : a2 = (nI 3) → JS Z X 47 [(0, .ref (Z.2.2.1 + 455)), (1, .int a1), (2, .int a2)] [] μ) :
    JS Z X 42 [(0, .ref (Z.2.2.1 + 455)), (1, .int a1), (2, .int a2)] [] μ := by
  refine J_iload_n E dX12_quickAt_42 rfl ?_
  refine J_iconst (v := nI 3) E dX12_quickAt_43 rfl ?_
  refine J_icmp_ne (tgt := 59) E dX12_quickAt_44 (by decide) (fun c => ?_) (fun c => ?_)
  · exact kt c
  · exact kf c
theorem bX12_quickAt_47 {Z : ZT} {X : XT} {μ : Mu} {a1 : Int32} {a2 : Int32} (E : Ent Z X mX12_quickAt 0 0)  (s1_ : vp_in ((nI 112) + a1) 988)
    (kt : ¬ (μ 456 (ix ((nI 112) + a1))) = 0 → JS Z X 63 [(0, .ref (Z.2.2.1 + 455)), (1, .int a1), (2, .int a2)] [] μ) (kf : (μ 456 (ix ((nI 112) + a1))) = 0 → JS Z X 59 [(0, .ref (Z.2.2.1 + 455)), (1, .int a1), (2, .int a2)] [] μ) :
    JS Z X 47 [(0, .ref (Z.2.2.1 + 455)), (1, .int a1), (2, .int a2)] [] μ := by
  refine J_aload_n E dX12_quickAt_47 rfl ?_
  refine S_get (ci := 12) (q := 0) (v := .ref (Z.2.2.1 + 456)) E dX12_quickAt_48 fs_X12_7 sh455 rfl ?_
  refine J_bipush (v := nI 112) E dX12_quickAt_51 rfl ?_
  refine J_iload_n E dX12_quickAt_53 rfl ?_
  refine J_iadd E dX12_quickAt_54 ?_
  refine S_iald E dX12_quickAt_55 sh456 s1_ ?_
  refine J_if_ne (tgt := 63) E dX12_quickAt_56 (by decide) (fun c => ?_) (fun c => ?_)
  · exact kt c
  · exact kf c
theorem bX12_quickAt_59 {Z : ZT} {X : XT} {μ : Mu} {a1 : Int32} {a2 : Int32} (E : Ent Z X mX12_quickAt 0 0)  
    (k : JS Z X 64 [(0, .ref (Z.2.2.1 + 455)), (1, .int a1), (2, .int a2)] [.int (nI 1)] μ) :
    JS Z X 59 [(0, .ref (Z.2.2.1 + 455)), (1, .int a1), (2, .int a2)] [] μ := by
  refine J_iconst (v := nI 1) E dX12_quickAt_59 rfl ?_
  refine J_goto (tgt := 64) E dX12_quickAt_60 (by decide) ?_
  exact k
theorem bX12_quickAt_63 {Z : ZT} {X : XT} {μ : Mu} {a1 : Int32} {a2 : Int32} (E : Ent Z X mX12_quickAt 0 0)  
    (k : JS Z X 64 [(0, .ref (Z.2.2.1 + 455)), (1, .int a1), (2, .int a2)] [.int (nI 0)] μ) :
    JS Z X 63 [(0, .ref (Z.2.2.1 + 455)), (1, .int a1), (2, .int a2)] [] μ := by
  refine J_iconst (v := nI 0) E dX12_quickAt_63 rfl ?_
  exact k
theorem bX12_quickAt_64 {Z : ZT} {X : XT} {μ : Mu} {a1 : Int32} {a2 : Int32} {s0 : Int32} (E : Ent Z X mX12_quickAt 0 0)  
    (kt : s0 = 0 → JS Z X 87 [] [] μ) (kf : ¬ (s0 = 0) → JS Z X 71 [(0, .ref (Z.2.2.1 + 455)), (1, .int a1), (2, .int a2)] [] μ) :
    JS Z X 64 [(0, .ref (Z.2.2.1 + 455)), (1, .int a1), (2, .int a2)] [.int s0] μ := by
  refine J_istore (lv' := [(0, .ref (Z.2.2.1 + 455)), (1, .int a1), (2, .int a2), (4, .int s0)]) E dX12_quickAt_64 (Nat.le_of_ble_eq_true rfl) rfl ?_
  refine J_iload E dX12_quickAt_66 rfl ?_
  refine J_if_eq (tgt := 87) E dX12_quickAt_68 (by decide) (fun c => ?_) (fun c => ?_)
  · refine J.weak [] rfl ?_
    exact kt c
  · refine J.weak [0, 1, 2] rfl ?_
    exact kf c
theorem bX12_quickAt_71 {Z : ZT} {X : XT} {μ : Mu} {a1 : Int32} {a2 : Int32} (E : Ent Z X mX12_quickAt 0 0)  (s1_ : vp_in (((nI 118) + ((nI 4) * a1)) + a2) 988)
    (k : JS Z X 88 [] [.int (μ 456 (ix (((nI 118) + ((nI 4) * a1)) + a2)))] μ) :
    JS Z X 71 [(0, .ref (Z.2.2.1 + 455)), (1, .int a1), (2, .int a2)] [] μ := by
  refine J_aload_n E dX12_quickAt_71 rfl ?_
  refine S_get (ci := 12) (q := 0) (v := .ref (Z.2.2.1 + 456)) E dX12_quickAt_72 fs_X12_7 sh455 rfl ?_
  refine J_bipush (v := nI 118) E dX12_quickAt_75 rfl ?_
  refine J_iconst (v := nI 4) E dX12_quickAt_77 rfl ?_
  refine J_iload_n E dX12_quickAt_78 rfl ?_
  refine J_imul E dX12_quickAt_79 ?_
  refine J_iadd E dX12_quickAt_80 ?_
  refine J_iload_n E dX12_quickAt_81 rfl ?_
  refine J_iadd E dX12_quickAt_82 ?_
  refine S_iald E dX12_quickAt_83 sh456 s1_ ?_
  refine J_goto (tgt := 88) E dX12_quickAt_84 (by decide) ?_
  refine J.weak [] rfl ?_
  exact k
theorem bX12_quickAt_87 {Z : ZT} {X : XT} {μ : Mu} (E : Ent Z X mX12_quickAt 0 0)  
    (k : JS Z X 88 [] [.int (nI 0)] μ) :
    JS Z X 87 [] [] μ := by
  refine J_iconst (v := nI 0) E dX12_quickAt_87 rfl ?_
  exact k
theorem bX12_quickAt_88 {Z : ZT} {X : XT} {μ : Mu} {s0 : Int32} (E : Ent Z X mX12_quickAt 0 0) {P : Option Value → Mu → Prop} (hB : BodS Z X P) 
    (k : P (some (.int s0)) μ) :
    JS Z X 88 [] [.int s0] μ := by
  exact S_iret E hB dX12_quickAt_88 rfl k
theorem dX12_missesAt_0 : decode cX12_missesAt 0 = .ok (.iconst 1, 1) := by decide +kernel
theorem dX12_missesAt_1 : decode cX12_missesAt 1 = .ok (.istore 4, 2) := by decide +kernel
theorem dX12_missesAt_3 : decode cX12_missesAt 3 = .ok (.iconst 0, 1) := by decide +kernel
theorem dX12_missesAt_4 : decode cX12_missesAt 4 = .ok (.istore 5, 2) := by decide +kernel
theorem dX12_missesAt_6 : decode cX12_missesAt 6 = .ok (.iconst 0, 1) := by decide +kernel
theorem dX12_missesAt_7 : decode cX12_missesAt 7 = .ok (.istore 6, 2) := by decide +kernel
theorem dX12_missesAt_9 : decode cX12_missesAt 9 = .ok (.iload 6, 2) := by decide +kernel
theorem dX12_missesAt_11 : decode cX12_missesAt 11 = .ok (.aload_n 0, 1) := by decide +kernel
theorem dX12_missesAt_12 : decode cX12_missesAt 12 = .ok (.getfield 7, 3) := by decide +kernel
theorem dX12_missesAt_15 : decode cX12_missesAt 15 = .ok (.bipush 111, 2) := by decide +kernel
theorem dX12_missesAt_17 : decode cX12_missesAt 17 = .ok (.iaload, 1) := by decide +kernel
theorem dX12_missesAt_18 : decode cX12_missesAt 18 = .ok (.if_icmp .ge 43, 3) := by decide +kernel
theorem dX12_missesAt_21 : decode cX12_missesAt 21 = .ok (.aload_n 0, 1) := by decide +kernel
theorem dX12_missesAt_22 : decode cX12_missesAt 22 = .ok (.getfield 7, 3) := by decide +kernel
theorem dX12_missesAt_25 : decode cX12_missesAt 25 = .ok (.sipush 148, 3) := by decide +kernel
theorem dX12_missesAt_28 : decode cX12_missesAt 28 = .ok (.iload 6, 2) := by decide +kernel
theorem dX12_missesAt_30 : decode cX12_missesAt 30 = .ok (.iadd, 1) := by decide +kernel
theorem dX12_missesAt_31 : decode cX12_missesAt 31 = .ok (.iaload, 1) := by decide +kernel
theorem dX12_missesAt_32 : decode cX12_missesAt 32 = .ok (.iload_n 1, 1) := by decide +kernel
theorem dX12_missesAt_33 : decode cX12_missesAt 33 = .ok (.if_icmp .ne 22, 3) := by decide +kernel
theorem dX12_missesAt_36 : decode cX12_missesAt 36 = .ok (.iload 4, 2) := by decide +kernel
theorem dX12_missesAt_38 : decode cX12_missesAt 38 = .ok (.bipush 10, 2) := by decide +kernel
theorem dX12_missesAt_40 : decode cX12_missesAt 40 = .ok (.aload_n 0, 1) := by decide +kernel
theorem dX12_missesAt_41 : decode cX12_missesAt 41 = .ok (.iload 6, 2) := by decide +kernel
theorem dX12_missesAt_43 : decode cX12_missesAt 43 = .ok (.iload_n 2, 1) := by decide +kernel
theorem dX12_missesAt_44 : decode cX12_missesAt 44 = .ok (.iload_n 3, 1) := by decide +kernel
theorem dX12_missesAt_45 : decode cX12_missesAt 45 = .ok (.invokevirtual 188, 3) := by decide +kernel
theorem dX12_missesAt_48 : decode cX12_missesAt 48 = .ok (.isub, 1) := by decide +kernel
theorem dX12_missesAt_49 : decode cX12_missesAt 49 = .ok (.imul, 1) := by decide +kernel
theorem dX12_missesAt_50 : decode cX12_missesAt 50 = .ok (.istore 4, 2) := by decide +kernel
theorem dX12_missesAt_52 : decode cX12_missesAt 52 = .ok (.iinc 5 1, 3) := by decide +kernel
theorem dX12_missesAt_55 : decode cX12_missesAt 55 = .ok (.iinc 6 1, 3) := by decide +kernel
theorem dX12_missesAt_58 : decode cX12_missesAt 58 = .ok (.goto (-49), 3) := by decide +kernel
theorem dX12_missesAt_61 : decode cX12_missesAt 61 = .ok (.iload 5, 2) := by decide +kernel
theorem dX12_missesAt_63 : decode cX12_missesAt 63 = .ok (.istore 6, 2) := by decide +kernel
theorem dX12_missesAt_65 : decode cX12_missesAt 65 = .ok (.iload 6, 2) := by decide +kernel
theorem dX12_missesAt_67 : decode cX12_missesAt 67 = .ok (.bipush 6, 2) := by decide +kernel
theorem dX12_missesAt_69 : decode cX12_missesAt 69 = .ok (.if_icmp .ge 16, 3) := by decide +kernel
theorem dX12_missesAt_72 : decode cX12_missesAt 72 = .ok (.iload 4, 2) := by decide +kernel
theorem dX12_missesAt_74 : decode cX12_missesAt 74 = .ok (.bipush 10, 2) := by decide +kernel
theorem dX12_missesAt_76 : decode cX12_missesAt 76 = .ok (.imul, 1) := by decide +kernel
theorem dX12_missesAt_77 : decode cX12_missesAt 77 = .ok (.istore 4, 2) := by decide +kernel
theorem dX12_missesAt_79 : decode cX12_missesAt 79 = .ok (.iinc 6 1, 3) := by decide +kernel
theorem dX12_missesAt_82 : decode cX12_missesAt 82 = .ok (.goto (-17), 3) := by decide +kernel
theorem dX12_missesAt_85 : decode cX12_missesAt 85 = .ok (.iload 4, 2) := by decide +kernel
theorem dX12_missesAt_87 : decode cX12_missesAt 87 = .ok (.ireturn, 1) := by decide +kernel
theorem bX12_missesAt_0 {Z : ZT} {X : XT} {μ : Mu} {a1 : Int32} {a2 : Int32} {a3 : Int32} (E : Ent Z X mX12_missesAt 0 0)  
    (k : JS Z X 9 [(0, .ref (Z.2.2.1 + 455)), (1, .int a1), (2, .int a2), (3, .int a3), (4, .int (nI 1)), (5, .int (nI 0)), (6, .int (nI 0))] [] μ) :
    JS Z X 0 [(0, .ref (Z.2.2.1 + 455)), (1, .int a1), (2, .int a2), (3, .int a3)] [] μ := by
  refine J_iconst (v := nI 1) E dX12_missesAt_0 rfl ?_
  refine J_istore (lv' := [(0, .ref (Z.2.2.1 + 455)), (1, .int a1), (2, .int a2), (3, .int a3), (4, .int (nI 1))]) E dX12_missesAt_1 (Nat.le_of_ble_eq_true rfl) rfl ?_
  refine J_iconst (v := nI 0) E dX12_missesAt_3 rfl ?_
  refine J_istore (lv' := [(0, .ref (Z.2.2.1 + 455)), (1, .int a1), (2, .int a2), (3, .int a3), (4, .int (nI 1)), (5, .int (nI 0))]) E dX12_missesAt_4 (Nat.le_of_ble_eq_true rfl) rfl ?_
  refine J_iconst (v := nI 0) E dX12_missesAt_6 rfl ?_
  refine J_istore (lv' := [(0, .ref (Z.2.2.1 + 455)), (1, .int a1), (2, .int a2), (3, .int a3), (4, .int (nI 1)), (5, .int (nI 0)), (6, .int (nI 0))]) E dX12_missesAt_7 (Nat.le_of_ble_eq_true rfl) rfl ?_
  exact k
theorem bX12_missesAt_9 {Z : ZT} {X : XT} {μ : Mu} {a1 : Int32} {a2 : Int32} {a3 : Int32} {a4 : Int32} {a5 : Int32} {a6 : Int32} (E : Ent Z X mX12_missesAt 0 0)  (s1_ : vp_in (nI 111) 988)
    (kt : (μ 456 (ix (nI 111))) ≤ a6 → JS Z X 61 [(4, .int a4), (5, .int a5)] [] μ) (kf : ¬ ((μ 456 (ix (nI 111))) ≤ a6) → JS Z X 21 [(0, .ref (Z.2.2.1 + 455)), (1, .int a1), (2, .int a2), (3, .int a3), (4, .int a4), (5, .int a5), (6, .int a6)] [] μ) :
    JS Z X 9 [(0, .ref (Z.2.2.1 + 455)), (1, .int a1), (2, .int a2), (3, .int a3), (4, .int a4), (5, .int a5), (6, .int a6)] [] μ := by
  refine J_iload E dX12_missesAt_9 rfl ?_
  refine J_aload_n E dX12_missesAt_11 rfl ?_
  refine S_get (ci := 12) (q := 0) (v := .ref (Z.2.2.1 + 456)) E dX12_missesAt_12 fs_X12_7 sh455 rfl ?_
  refine J_bipush (v := nI 111) E dX12_missesAt_15 rfl ?_
  refine S_iald E dX12_missesAt_17 sh456 s1_ ?_
  refine J_icmp_ge (tgt := 61) E dX12_missesAt_18 (by decide) (fun c => ?_) (fun c => ?_)
  · refine J.weak [4, 5] rfl ?_
    exact kt c
  · exact kf c
theorem bX12_missesAt_21 {Z : ZT} {X : XT} {μ : Mu} {a1 : Int32} {a2 : Int32} {a3 : Int32} {a4 : Int32} {a5 : Int32} {a6 : Int32} (E : Ent Z X mX12_missesAt 0 0)  (s1_ : vp_in ((nI 148) + a6) 988)
    (kt : ¬ (μ 456 (ix ((nI 148) + a6))) = a1 → JS Z X 55 [(0, .ref (Z.2.2.1 + 455)), (1, .int a1), (2, .int a2), (3, .int a3), (4, .int a4), (5, .int a5), (6, .int a6)] [] μ) (kf : (μ 456 (ix ((nI 148) + a6))) = a1 → JS Z X 36 [(0, .ref (Z.2.2.1 + 455)), (1, .int a1), (2, .int a2), (3, .int a3), (4, .int a4), (5, .int a5), (6, .int a6)] [] μ) :
    JS Z X 21 [(0, .ref (Z.2.2.1 + 455)), (1, .int a1), (2, .int a2), (3, .int a3), (4, .int a4), (5, .int a5), (6, .int a6)] [] μ := by
  refine J_aload_n E dX12_missesAt_21 rfl ?_
  refine S_get (ci := 12) (q := 0) (v := .ref (Z.2.2.1 + 456)) E dX12_missesAt_22 fs_X12_7 sh455 rfl ?_
  refine J_sipush (v := nI 148) E dX12_missesAt_25 rfl ?_
  refine J_iload E dX12_missesAt_28 rfl ?_
  refine J_iadd E dX12_missesAt_30 ?_
  refine S_iald E dX12_missesAt_31 sh456 s1_ ?_
  refine J_iload_n E dX12_missesAt_32 rfl ?_
  refine J_icmp_ne (tgt := 55) E dX12_missesAt_33 (by decide) (fun c => ?_) (fun c => ?_)
  · exact kt c
  · exact kf c
theorem bX12_missesAt_36 {Z : ZT} {X : XT} {μ : Mu} {a1 : Int32} {a2 : Int32} {a3 : Int32} {a4 : Int32} {a5 : Int32} {a6 : Int32} (E : Ent Z X mX12_missesAt 0 0) {p : Int32 → Mu → Prop} 
    (c : CtrS Z mX12_quickAt [.ref (Z.2.2.1 + 455), .int a6, .int a2, .int a3] μ (rI p)) (k : ∀ v μ1, p v μ1 → JS Z X 48 [(0, .ref (Z.2.2.1 + 455)), (1, .int a1), (2, .int a2), (3, .int a3), (5, .int a5), (6, .int a6)] [.int v, .int (nI 10), .int a4] μ1) :
    JS Z X 36 [(0, .ref (Z.2.2.1 + 455)), (1, .int a1), (2, .int a2), (3, .int a3), (4, .int a4), (5, .int a5), (6, .int a6)] [] μ := by
  refine J_iload E dX12_missesAt_36 rfl ?_
  refine J_bipush (v := nI 10) E dX12_missesAt_38 rfl ?_
  refine J_aload_n E dX12_missesAt_40 rfl ?_
  refine J_iload E dX12_missesAt_41 rfl ?_
  refine J_iload_n E dX12_missesAt_43 rfl ?_
  refine J_iload_n E dX12_missesAt_44 rfl ?_
  refine S_callV (As := [.int a6, .int a2, .int a3]) (rest := [.int (nI 10), .int a4]) E dX12_missesAt_45 c kX12_quickAt ⟨Nat.le_of_ble_eq_true rfl, Nat.le_of_ble_eq_true rfl⟩ rfl (Nat.le_of_ble_eq_true rfl) sh455 rfl rfl w6_226 w6_228 wp_54 (fun r_ μ1 hp_ => ?_)
  obtain ⟨v, rfl, hp_⟩ := hp_
  refine J.weak [0, 1, 2, 3, 5, 6] rfl ?_
  exact k v μ1 hp_
theorem bX12_missesAt_48 {Z : ZT} {X : XT} {μ : Mu} {a1 : Int32} {a2 : Int32} {a3 : Int32} {a5 : Int32} {a6 : Int32} {s0 : Int32} {s1 : Int32} {s2 : Int32} (E : Ent Z X mX12_missesAt 0 0)  
    (k : JS Z X 55 [(0, .ref (Z.2.2.1 + 455)), (1, .int a1), (2, .int a2), (3, .int a3), (4, .int (s0 * (s1 - s2))), (5, .int (a5 + nI 1)), (6, .int a6)] [] μ) :
    JS Z X 48 [(0, .ref (Z.2.2.1 + 455)), (1, .int a1), (2, .int a2), (3, .int a3), (5, .int a5), (6, .int a6)] [.int s2, .int s1, .int s0] μ := by
  refine J_isub E dX12_missesAt_48 ?_
  refine J_imul E dX12_missesAt_49 ?_
  refine J_istore (lv' := [(0, .ref (Z.2.2.1 + 455)), (1, .int a1), (2, .int a2), (3, .int a3), (4, .int (s0 * (s1 - s2))), (5, .int a5), (6, .int a6)]) E dX12_missesAt_50 (Nat.le_of_ble_eq_true rfl) rfl ?_
  refine J_iinc (v := a5 + nI 1) (lv' := [(0, .ref (Z.2.2.1 + 455)), (1, .int a1), (2, .int a2), (3, .int a3), (4, .int (s0 * (s1 - s2))), (5, .int (a5 + nI 1)), (6, .int a6)]) E dX12_missesAt_52 rfl rfl (Nat.le_of_ble_eq_true rfl) rfl ?_
  exact k
theorem bX12_missesAt_55 {Z : ZT} {X : XT} {μ : Mu} {a1 : Int32} {a2 : Int32} {a3 : Int32} {a4 : Int32} {a5 : Int32} {a6 : Int32} (E : Ent Z X mX12_missesAt 0 0)  
    (k : JS Z X 9 [(0, .ref (Z.2.2.1 + 455)), (1, .int a1), (2, .int a2), (3, .int a3), (4, .int a4), (5, .int a5), (6, .int (a6 + nI 1))] [] μ) :
    JS Z X 55 [(0, .ref (Z.2.2.1 + 455)), (1, .int a1), (2, .int a2), (3, .int a3), (4, .int a4), (5, .int a5), (6, .int a6)] [] μ := by
  refine J_iinc (v := a6 + nI 1) (lv' := [(0, .ref (Z.2.2.1 + 455)), (1, .int a1), (2, .int a2), (3, .int a3), (4, .int a4), (5, .int a5), (6, .int (a6 + nI 1))]) E dX12_missesAt_55 rfl rfl (Nat.le_of_ble_eq_true rfl) rfl ?_
  refine J_goto (tgt := 9) E dX12_missesAt_58 (by decide) ?_
  exact k
theorem bX12_missesAt_61 {Z : ZT} {X : XT} {μ : Mu} {a4 : Int32} {a5 : Int32} (E : Ent Z X mX12_missesAt 0 0)  
    (k : JS Z X 65 [(4, .int a4), (6, .int a5)] [] μ) :
    JS Z X 61 [(4, .int a4), (5, .int a5)] [] μ := by
  refine J_iload E dX12_missesAt_61 rfl ?_
  refine J_istore (lv' := [(4, .int a4), (5, .int a5), (6, .int a5)]) E dX12_missesAt_63 (Nat.le_of_ble_eq_true rfl) rfl ?_
  refine J.weak [0, 2] rfl ?_
  exact k
theorem bX12_missesAt_65 {Z : ZT} {X : XT} {μ : Mu} {a4 : Int32} {a6 : Int32} (E : Ent Z X mX12_missesAt 0 0)  
    (kt : (nI 6) ≤ a6 → JS Z X 85 [(4, .int a4)] [] μ) (kf : ¬ ((nI 6) ≤ a6) → JS Z X 72 [(4, .int a4), (6, .int a6)] [] μ) :
    JS Z X 65 [(4, .int a4), (6, .int a6)] [] μ := by
  refine J_iload E dX12_missesAt_65 rfl ?_
  refine J_bipush (v := nI 6) E dX12_missesAt_67 rfl ?_
  refine J_icmp_ge (tgt := 85) E dX12_missesAt_69 (by decide) (fun c => ?_) (fun c => ?_)
  · refine J.weak [0] rfl ?_
    exact kt c
  · exact kf c
theorem bX12_missesAt_72 {Z : ZT} {X : XT} {μ : Mu} {a4 : Int32} {a6 : Int32} (E : Ent Z X mX12_missesAt 0 0)  
    (k : JS Z X 65 [(4, .int (a4 * (nI 10))), (6, .int (a6 + nI 1))] [] μ) :
    JS Z X 72 [(4, .int a4), (6, .int a6)] [] μ := by
  refine J_iload E dX12_missesAt_72 rfl ?_
  refine J_bipush (v := nI 10) E dX12_missesAt_74 rfl ?_
  refine J_imul E dX12_missesAt_76 ?_
  refine J_istore (lv' := [(4, .int (a4 * (nI 10))), (6, .int a6)]) E dX12_missesAt_77 (Nat.le_of_ble_eq_true rfl) rfl ?_
  refine J_iinc (v := a6 + nI 1) (lv' := [(4, .int (a4 * (nI 10))), (6, .int (a6 + nI 1))]) E dX12_missesAt_79 rfl rfl (Nat.le_of_ble_eq_true rfl) rfl ?_
  refine J_goto (tgt := 65) E dX12_missesAt_82 (by decide) ?_
  exact k
theorem bX12_missesAt_85 {Z : ZT} {X : XT} {μ : Mu} {a4 : Int32} (E : Ent Z X mX12_missesAt 0 0) {P : Option Value → Mu → Prop} (hB : BodS Z X P) 
    (k : P (some (.int a4)) μ) :
    JS Z X 85 [(4, .int a4)] [] μ := by
  refine J_iload E dX12_missesAt_85 rfl ?_
  exact S_iret E hB dX12_missesAt_87 rfl k
theorem dX12_guessesAt_0 : decode cX12_guessesAt 0 = .ok (.aload_n 0, 1) := by decide +kernel
theorem dX12_guessesAt_1 : decode cX12_guessesAt 1 = .ok (.getfield 7, 3) := by decide +kernel
theorem dX12_guessesAt_4 : decode cX12_guessesAt 4 = .ok (.sipush 148, 3) := by decide +kernel
theorem dX12_guessesAt_7 : decode cX12_guessesAt 7 = .ok (.iload_n 1, 1) := by decide +kernel
theorem dX12_guessesAt_8 : decode cX12_guessesAt 8 = .ok (.iadd, 1) := by decide +kernel
theorem dX12_guessesAt_9 : decode cX12_guessesAt 9 = .ok (.iaload, 1) := by decide +kernel
theorem dX12_guessesAt_10 : decode cX12_guessesAt 10 = .ok (.istore 4, 2) := by decide +kernel
theorem dX12_guessesAt_12 : decode cX12_guessesAt 12 = .ok (.aload_n 0, 1) := by decide +kernel
theorem dX12_guessesAt_13 : decode cX12_guessesAt 13 = .ok (.iload_n 1, 1) := by decide +kernel
theorem dX12_guessesAt_14 : decode cX12_guessesAt 14 = .ok (.iload_n 2, 1) := by decide +kernel
theorem dX12_guessesAt_15 : decode cX12_guessesAt 15 = .ok (.iload_n 3, 1) := by decide +kernel
theorem dX12_guessesAt_16 : decode cX12_guessesAt 16 = .ok (.invokevirtual 188, 3) := by decide +kernel
theorem dX12_guessesAt_19 : decode cX12_guessesAt 19 = .ok (.istore 5, 2) := by decide +kernel
theorem dX12_guessesAt_21 : decode cX12_guessesAt 21 = .ok (.iconst 1, 1) := by decide +kernel
theorem dX12_guessesAt_22 : decode cX12_guessesAt 22 = .ok (.istore 6, 2) := by decide +kernel
theorem dX12_guessesAt_24 : decode cX12_guessesAt 24 = .ok (.iconst 0, 1) := by decide +kernel
theorem dX12_guessesAt_25 : decode cX12_guessesAt 25 = .ok (.istore 7, 2) := by decide +kernel
theorem dX12_guessesAt_27 : decode cX12_guessesAt 27 = .ok (.iload 7, 2) := by decide +kernel
theorem dX12_guessesAt_29 : decode cX12_guessesAt 29 = .ok (.iload_n 1, 1) := by decide +kernel
theorem dX12_guessesAt_30 : decode cX12_guessesAt 30 = .ok (.if_icmp .ge 44, 3) := by decide +kernel
theorem dX12_guessesAt_33 : decode cX12_guessesAt 33 = .ok (.aload_n 0, 1) := by decide +kernel
theorem dX12_guessesAt_34 : decode cX12_guessesAt 34 = .ok (.getfield 7, 3) := by decide +kernel
theorem dX12_guessesAt_37 : decode cX12_guessesAt 37 = .ok (.sipush 148, 3) := by decide +kernel
theorem dX12_guessesAt_40 : decode cX12_guessesAt 40 = .ok (.iload 7, 2) := by decide +kernel
theorem dX12_guessesAt_42 : decode cX12_guessesAt 42 = .ok (.iadd, 1) := by decide +kernel
theorem dX12_guessesAt_43 : decode cX12_guessesAt 43 = .ok (.iaload, 1) := by decide +kernel
theorem dX12_guessesAt_44 : decode cX12_guessesAt 44 = .ok (.iload 4, 2) := by decide +kernel
theorem dX12_guessesAt_46 : decode cX12_guessesAt 46 = .ok (.if_icmp .ne 22, 3) := by decide +kernel
theorem dX12_guessesAt_49 : decode cX12_guessesAt 49 = .ok (.iload 5, 2) := by decide +kernel
theorem dX12_guessesAt_51 : decode cX12_guessesAt 51 = .ok (.bipush 10, 2) := by decide +kernel
theorem dX12_guessesAt_53 : decode cX12_guessesAt 53 = .ok (.aload_n 0, 1) := by decide +kernel
theorem dX12_guessesAt_54 : decode cX12_guessesAt 54 = .ok (.iload 7, 2) := by decide +kernel
theorem dX12_guessesAt_56 : decode cX12_guessesAt 56 = .ok (.iload_n 2, 1) := by decide +kernel
theorem dX12_guessesAt_57 : decode cX12_guessesAt 57 = .ok (.iload_n 3, 1) := by decide +kernel
theorem dX12_guessesAt_58 : decode cX12_guessesAt 58 = .ok (.invokevirtual 188, 3) := by decide +kernel
theorem dX12_guessesAt_61 : decode cX12_guessesAt 61 = .ok (.isub, 1) := by decide +kernel
theorem dX12_guessesAt_62 : decode cX12_guessesAt 62 = .ok (.imul, 1) := by decide +kernel
theorem dX12_guessesAt_63 : decode cX12_guessesAt 63 = .ok (.istore 5, 2) := by decide +kernel
theorem dX12_guessesAt_65 : decode cX12_guessesAt 65 = .ok (.iinc 6 1, 3) := by decide +kernel
theorem dX12_guessesAt_68 : decode cX12_guessesAt 68 = .ok (.iinc 7 1, 3) := by decide +kernel
theorem dX12_guessesAt_71 : decode cX12_guessesAt 71 = .ok (.goto (-44), 3) := by decide +kernel
theorem dX12_guessesAt_74 : decode cX12_guessesAt 74 = .ok (.iload 6, 2) := by decide +kernel
theorem dX12_guessesAt_76 : decode cX12_guessesAt 76 = .ok (.istore 7, 2) := by decide +kernel
theorem dX12_guessesAt_78 : decode cX12_guessesAt 78 = .ok (.iload 7, 2) := by decide +kernel
theorem dX12_guessesAt_80 : decode cX12_guessesAt 80 = .ok (.bipush 6, 2) := by decide +kernel
theorem dX12_guessesAt_82 : decode cX12_guessesAt 82 = .ok (.if_icmp .ge 16, 3) := by decide +kernel
theorem dX12_guessesAt_85 : decode cX12_guessesAt 85 = .ok (.iload 5, 2) := by decide +kernel
theorem dX12_guessesAt_87 : decode cX12_guessesAt 87 = .ok (.bipush 10, 2) := by decide +kernel
theorem dX12_guessesAt_89 : decode cX12_guessesAt 89 = .ok (.imul, 1) := by decide +kernel
theorem dX12_guessesAt_90 : decode cX12_guessesAt 90 = .ok (.istore 5, 2) := by decide +kernel
theorem dX12_guessesAt_92 : decode cX12_guessesAt 92 = .ok (.iinc 7 1, 3) := by decide +kernel
theorem dX12_guessesAt_95 : decode cX12_guessesAt 95 = .ok (.goto (-17), 3) := by decide +kernel
theorem dX12_guessesAt_98 : decode cX12_guessesAt 98 = .ok (.iload 5, 2) := by decide +kernel
theorem dX12_guessesAt_100 : decode cX12_guessesAt 100 = .ok (.ireturn, 1) := by decide +kernel
theorem bX12_guessesAt_0 {Z : ZT} {X : XT} {μ : Mu} {a1 : Int32} {a2 : Int32} {a3 : Int32} (E : Ent Z X mX12_guessesAt 0 0) {p : Int32 → Mu → Prop} (s1_ : vp_in ((nI 148) + a1) 988)
    (c : CtrS Z mX12_quickAt [.ref (Z.2.2.1 + 455), .int a1, .int a2, .int a3] μ (rI p)) (k : ∀ v μ1, p v μ1 → JS Z X 19 [(0, .ref (Z.2.2.1 + 455)), (1, .int a1), (2, .int a2), (3, .int a3), (4, .int (μ 456 (ix ((nI 148) + a1))))] [.int v] μ1) :
    JS Z X 0 [(0, .ref (Z.2.2.1 + 455)), (1, .int a1), (2, .int a2), (3, .int a3)] [] μ := by
  refine J_aload_n E dX12_guessesAt_0 rfl ?_
  refine S_get (ci := 12) (q := 0) (v := .ref (Z.2.2.1 + 456)) E dX12_guessesAt_1 fs_X12_7 sh455 rfl ?_
  refine J_sipush (v := nI 148) E dX12_guessesAt_4 rfl ?_
  refine J_iload_n E dX12_guessesAt_7 rfl ?_
  refine J_iadd E dX12_guessesAt_8 ?_
  refine S_iald E dX12_guessesAt_9 sh456 s1_ ?_
  refine J_istore (lv' := [(0, .ref (Z.2.2.1 + 455)), (1, .int a1), (2, .int a2), (3, .int a3), (4, .int (μ 456 (ix ((nI 148) + a1))))]) E dX12_guessesAt_10 (Nat.le_of_ble_eq_true rfl) rfl ?_
  refine J_aload_n E dX12_guessesAt_12 rfl ?_
  refine J_iload_n E dX12_guessesAt_13 rfl ?_
  refine J_iload_n E dX12_guessesAt_14 rfl ?_
  refine J_iload_n E dX12_guessesAt_15 rfl ?_
  refine S_callV (As := [.int a1, .int a2, .int a3]) (rest := []) E dX12_guessesAt_16 c kX12_quickAt ⟨Nat.le_of_ble_eq_true rfl, Nat.le_of_ble_eq_true rfl⟩ rfl (Nat.le_of_ble_eq_true rfl) sh455 rfl rfl w6_226 w6_228 wp_54 (fun r_ μ1 hp_ => ?_)
  obtain ⟨v, rfl, hp_⟩ := hp_
  exact k v μ1 hp_
theorem bX12_guessesAt_19 {Z : ZT} {X : XT} {μ : Mu} {a1 : Int32} {a2 : Int32} {a3 : Int32} {a4 : Int32} {s0 : Int32} (E : Ent Z X mX12_guessesAt 0 0)  
    (k : JS Z X 27 [(0, .ref (Z.2.2.1 + 455)), (1, .int a1), (2, .int a2), (3, .int a3), (4, .int a4), (5, .int s0), (6, .int (nI 1)), (7, .int (nI 0))] [] μ) :
    JS Z X 19 [(0, .ref (Z.2.2.1 + 455)), (1, .int a1), (2, .int a2), (3, .int a3), (4, .int a4)] [.int s0] μ := by
  refine J_istore (lv' := [(0, .ref (Z.2.2.1 + 455)), (1, .int a1), (2, .int a2), (3, .int a3), (4, .int a4), (5, .int s0)]) E dX12_guessesAt_19 (Nat.le_of_ble_eq_true rfl) rfl ?_
  refine J_iconst (v := nI 1) E dX12_guessesAt_21 rfl ?_
  refine J_istore (lv' := [(0, .ref (Z.2.2.1 + 455)), (1, .int a1), (2, .int a2), (3, .int a3), (4, .int a4), (5, .int s0), (6, .int (nI 1))]) E dX12_guessesAt_22 (Nat.le_of_ble_eq_true rfl) rfl ?_
  refine J_iconst (v := nI 0) E dX12_guessesAt_24 rfl ?_
  refine J_istore (lv' := [(0, .ref (Z.2.2.1 + 455)), (1, .int a1), (2, .int a2), (3, .int a3), (4, .int a4), (5, .int s0), (6, .int (nI 1)), (7, .int (nI 0))]) E dX12_guessesAt_25 (Nat.le_of_ble_eq_true rfl) rfl ?_
  exact k
theorem bX12_guessesAt_27 {Z : ZT} {X : XT} {μ : Mu} {a1 : Int32} {a2 : Int32} {a3 : Int32} {a4 : Int32} {a5 : Int32} {a6 : Int32} {a7 : Int32} (E : Ent Z X mX12_guessesAt 0 0)  
    (kt : a1 ≤ a7 → JS Z X 74 [(5, .int a5), (6, .int a6)] [] μ) (kf : ¬ (a1 ≤ a7) → JS Z X 33 [(0, .ref (Z.2.2.1 + 455)), (1, .int a1), (2, .int a2), (3, .int a3), (4, .int a4), (5, .int a5), (6, .int a6), (7, .int a7)] [] μ) :
    JS Z X 27 [(0, .ref (Z.2.2.1 + 455)), (1, .int a1), (2, .int a2), (3, .int a3), (4, .int a4), (5, .int a5), (6, .int a6), (7, .int a7)] [] μ := by
  refine J_iload E dX12_guessesAt_27 rfl ?_
  refine J_iload_n E dX12_guessesAt_29 rfl ?_
  refine J_icmp_ge (tgt := 74) E dX12_guessesAt_30 (by decide) (fun c => ?_) (fun c => ?_)
  · refine J.weak [5, 6] rfl ?_
    exact kt c
  · exact kf c
theorem bX12_guessesAt_33 {Z : ZT} {X : XT} {μ : Mu} {a1 : Int32} {a2 : Int32} {a3 : Int32} {a4 : Int32} {a5 : Int32} {a6 : Int32} {a7 : Int32} (E : Ent Z X mX12_guessesAt 0 0)  (s1_ : vp_in ((nI 148) + a7) 988)
    (kt : ¬ (μ 456 (ix ((nI 148) + a7))) = a4 → JS Z X 68 [(0, .ref (Z.2.2.1 + 455)), (1, .int a1), (2, .int a2), (3, .int a3), (4, .int a4), (5, .int a5), (6, .int a6), (7, .int a7)] [] μ) (kf : (μ 456 (ix ((nI 148) + a7))) = a4 → JS Z X 49 [(0, .ref (Z.2.2.1 + 455)), (1, .int a1), (2, .int a2), (3, .int a3), (4, .int a4), (5, .int a5), (6, .int a6), (7, .int a7)] [] μ) :
    JS Z X 33 [(0, .ref (Z.2.2.1 + 455)), (1, .int a1), (2, .int a2), (3, .int a3), (4, .int a4), (5, .int a5), (6, .int a6), (7, .int a7)] [] μ := by
  refine J_aload_n E dX12_guessesAt_33 rfl ?_
  refine S_get (ci := 12) (q := 0) (v := .ref (Z.2.2.1 + 456)) E dX12_guessesAt_34 fs_X12_7 sh455 rfl ?_
  refine J_sipush (v := nI 148) E dX12_guessesAt_37 rfl ?_
  refine J_iload E dX12_guessesAt_40 rfl ?_
  refine J_iadd E dX12_guessesAt_42 ?_
  refine S_iald E dX12_guessesAt_43 sh456 s1_ ?_
  refine J_iload E dX12_guessesAt_44 rfl ?_
  refine J_icmp_ne (tgt := 68) E dX12_guessesAt_46 (by decide) (fun c => ?_) (fun c => ?_)
  · exact kt c
  · exact kf c
theorem bX12_guessesAt_49 {Z : ZT} {X : XT} {μ : Mu} {a1 : Int32} {a2 : Int32} {a3 : Int32} {a4 : Int32} {a5 : Int32} {a6 : Int32} {a7 : Int32} (E : Ent Z X mX12_guessesAt 0 0) {p : Int32 → Mu → Prop} 
    (c : CtrS Z mX12_quickAt [.ref (Z.2.2.1 + 455), .int a7, .int a2, .int a3] μ (rI p)) (k : ∀ v μ1, p v μ1 → JS Z X 61 [(0, .ref (Z.2.2.1 + 455)), (1, .int a1), (2, .int a2), (3, .int a3), (4, .int a4), (6, .int a6), (7, .int a7)] [.int v, .int (nI 10), .int a5] μ1) :
    JS Z X 49 [(0, .ref (Z.2.2.1 + 455)), (1, .int a1), (2, .int a2), (3, .int a3), (4, .int a4), (5, .int a5), (6, .int a6), (7, .int a7)] [] μ := by
  refine J_iload E dX12_guessesAt_49 rfl ?_
  refine J_bipush (v := nI 10) E dX12_guessesAt_51 rfl ?_
  refine J_aload_n E dX12_guessesAt_53 rfl ?_
  refine J_iload E dX12_guessesAt_54 rfl ?_
  refine J_iload_n E dX12_guessesAt_56 rfl ?_
  refine J_iload_n E dX12_guessesAt_57 rfl ?_
  refine S_callV (As := [.int a7, .int a2, .int a3]) (rest := [.int (nI 10), .int a5]) E dX12_guessesAt_58 c kX12_quickAt ⟨Nat.le_of_ble_eq_true rfl, Nat.le_of_ble_eq_true rfl⟩ rfl (Nat.le_of_ble_eq_true rfl) sh455 rfl rfl w6_226 w6_228 wp_54 (fun r_ μ1 hp_ => ?_)
  obtain ⟨v, rfl, hp_⟩ := hp_
  refine J.weak [0, 1, 2, 3, 4, 6, 7] rfl ?_
  exact k v μ1 hp_
theorem bX12_guessesAt_61 {Z : ZT} {X : XT} {μ : Mu} {a1 : Int32} {a2 : Int32} {a3 : Int32} {a4 : Int32} {a6 : Int32} {a7 : Int32} {s0 : Int32} {s1 : Int32} {s2 : Int32} (E : Ent Z X mX12_guessesAt 0 0)  
    (k : JS Z X 68 [(0, .ref (Z.2.2.1 + 455)), (1, .int a1), (2, .int a2), (3, .int a3), (4, .int a4), (5, .int (s0 * (s1 - s2))), (6, .int (a6 + nI 1)), (7, .int a7)] [] μ) :
    JS Z X 61 [(0, .ref (Z.2.2.1 + 455)), (1, .int a1), (2, .int a2), (3, .int a3), (4, .int a4), (6, .int a6), (7, .int a7)] [.int s2, .int s1, .int s0] μ := by
  refine J_isub E dX12_guessesAt_61 ?_
  refine J_imul E dX12_guessesAt_62 ?_
  refine J_istore (lv' := [(0, .ref (Z.2.2.1 + 455)), (1, .int a1), (2, .int a2), (3, .int a3), (4, .int a4), (5, .int (s0 * (s1 - s2))), (6, .int a6), (7, .int a7)]) E dX12_guessesAt_63 (Nat.le_of_ble_eq_true rfl) rfl ?_
  refine J_iinc (v := a6 + nI 1) (lv' := [(0, .ref (Z.2.2.1 + 455)), (1, .int a1), (2, .int a2), (3, .int a3), (4, .int a4), (5, .int (s0 * (s1 - s2))), (6, .int (a6 + nI 1)), (7, .int a7)]) E dX12_guessesAt_65 rfl rfl (Nat.le_of_ble_eq_true rfl) rfl ?_
  exact k
theorem bX12_guessesAt_68 {Z : ZT} {X : XT} {μ : Mu} {a1 : Int32} {a2 : Int32} {a3 : Int32} {a4 : Int32} {a5 : Int32} {a6 : Int32} {a7 : Int32} (E : Ent Z X mX12_guessesAt 0 0)  
    (k : JS Z X 27 [(0, .ref (Z.2.2.1 + 455)), (1, .int a1), (2, .int a2), (3, .int a3), (4, .int a4), (5, .int a5), (6, .int a6), (7, .int (a7 + nI 1))] [] μ) :
    JS Z X 68 [(0, .ref (Z.2.2.1 + 455)), (1, .int a1), (2, .int a2), (3, .int a3), (4, .int a4), (5, .int a5), (6, .int a6), (7, .int a7)] [] μ := by
  refine J_iinc (v := a7 + nI 1) (lv' := [(0, .ref (Z.2.2.1 + 455)), (1, .int a1), (2, .int a2), (3, .int a3), (4, .int a4), (5, .int a5), (6, .int a6), (7, .int (a7 + nI 1))]) E dX12_guessesAt_68 rfl rfl (Nat.le_of_ble_eq_true rfl) rfl ?_
  refine J_goto (tgt := 27) E dX12_guessesAt_71 (by decide) ?_
  exact k
theorem bX12_guessesAt_74 {Z : ZT} {X : XT} {μ : Mu} {a5 : Int32} {a6 : Int32} (E : Ent Z X mX12_guessesAt 0 0)  
    (k : JS Z X 78 [(5, .int a5), (7, .int a6)] [] μ) :
    JS Z X 74 [(5, .int a5), (6, .int a6)] [] μ := by
  refine J_iload E dX12_guessesAt_74 rfl ?_
  refine J_istore (lv' := [(5, .int a5), (6, .int a6), (7, .int a6)]) E dX12_guessesAt_76 (Nat.le_of_ble_eq_true rfl) rfl ?_
  refine J.weak [0, 2] rfl ?_
  exact k
theorem bX12_guessesAt_78 {Z : ZT} {X : XT} {μ : Mu} {a5 : Int32} {a7 : Int32} (E : Ent Z X mX12_guessesAt 0 0)  
    (kt : (nI 6) ≤ a7 → JS Z X 98 [(5, .int a5)] [] μ) (kf : ¬ ((nI 6) ≤ a7) → JS Z X 85 [(5, .int a5), (7, .int a7)] [] μ) :
    JS Z X 78 [(5, .int a5), (7, .int a7)] [] μ := by
  refine J_iload E dX12_guessesAt_78 rfl ?_
  refine J_bipush (v := nI 6) E dX12_guessesAt_80 rfl ?_
  refine J_icmp_ge (tgt := 98) E dX12_guessesAt_82 (by decide) (fun c => ?_) (fun c => ?_)
  · refine J.weak [0] rfl ?_
    exact kt c
  · exact kf c
theorem bX12_guessesAt_85 {Z : ZT} {X : XT} {μ : Mu} {a5 : Int32} {a7 : Int32} (E : Ent Z X mX12_guessesAt 0 0)  
    (k : JS Z X 78 [(5, .int (a5 * (nI 10))), (7, .int (a7 + nI 1))] [] μ) :
    JS Z X 85 [(5, .int a5), (7, .int a7)] [] μ := by
  refine J_iload E dX12_guessesAt_85 rfl ?_
  refine J_bipush (v := nI 10) E dX12_guessesAt_87 rfl ?_
  refine J_imul E dX12_guessesAt_89 ?_
  refine J_istore (lv' := [(5, .int (a5 * (nI 10))), (7, .int a7)]) E dX12_guessesAt_90 (Nat.le_of_ble_eq_true rfl) rfl ?_
  refine J_iinc (v := a7 + nI 1) (lv' := [(5, .int (a5 * (nI 10))), (7, .int (a7 + nI 1))]) E dX12_guessesAt_92 rfl rfl (Nat.le_of_ble_eq_true rfl) rfl ?_
  refine J_goto (tgt := 78) E dX12_guessesAt_95 (by decide) ?_
  exact k
theorem bX12_guessesAt_98 {Z : ZT} {X : XT} {μ : Mu} {a5 : Int32} (E : Ent Z X mX12_guessesAt 0 0) {P : Option Value → Mu → Prop} (hB : BodS Z X P) 
    (k : P (some (.int a5)) μ) :
    JS Z X 98 [(5, .int a5)] [] μ := by
  refine J_iload E dX12_guessesAt_98 rfl ?_
  exact S_iret E hB dX12_guessesAt_100 rfl k
theorem dX12_set_0 : decode cX12_set 0 = .ok (.iconst 0, 1) := by decide +kernel
theorem dX12_set_1 : decode cX12_set 1 = .ok (.istore_n 3, 1) := by decide +kernel
theorem dX12_set_2 : decode cX12_set 2 = .ok (.iload_n 3, 1) := by decide +kernel
theorem dX12_set_3 : decode cX12_set 3 = .ok (.bipush 27, 2) := by decide +kernel
theorem dX12_set_5 : decode cX12_set 5 = .ok (.if_icmp .ge 29, 3) := by decide +kernel
theorem dX12_set_8 : decode cX12_set 8 = .ok (.aload_n 0, 1) := by decide +kernel
theorem dX12_set_9 : decode cX12_set 9 = .ok (.getfield 39, 3) := by decide +kernel
theorem dX12_set_12 : decode cX12_set 12 = .ok (.bipush 27, 2) := by decide +kernel
theorem dX12_set_14 : decode cX12_set 14 = .ok (.iload_n 1, 1) := by decide +kernel
theorem dX12_set_15 : decode cX12_set 15 = .ok (.imul, 1) := by decide +kernel
theorem dX12_set_16 : decode cX12_set 16 = .ok (.iload_n 3, 1) := by decide +kernel
theorem dX12_set_17 : decode cX12_set 17 = .ok (.iadd, 1) := by decide +kernel
theorem dX12_set_18 : decode cX12_set 18 = .ok (.iload_n 3, 1) := by decide +kernel
theorem dX12_set_19 : decode cX12_set 19 = .ok (.ifCond .ne 7, 3) := by decide +kernel
theorem dX12_set_22 : decode cX12_set 22 = .ok (.iload_n 2, 1) := by decide +kernel
theorem dX12_set_23 : decode cX12_set 23 = .ok (.goto 4, 3) := by decide +kernel
theorem dX12_set_26 : decode cX12_set 26 = .ok (.iconst 0, 1) := by decide +kernel
theorem dX12_set_27 : decode cX12_set 27 = .ok (.iastore, 1) := by decide +kernel
theorem dX12_set_28 : decode cX12_set 28 = .ok (.iinc 3 1, 3) := by decide +kernel
theorem dX12_set_31 : decode cX12_set 31 = .ok (.goto (-29), 3) := by decide +kernel
theorem dX12_set_34 : decode cX12_set 34 = .ok (.return_, 1) := by decide +kernel
theorem bX12_set_0 {Z : ZT} {X : XT} {μ : Mu} {a1 : Int32} {a2 : Int32} (E : Ent Z X mX12_set 0 0)  
    (k : JS Z X 2 [(0, .ref (Z.2.2.1 + 455)), (1, .int a1), (2, .int a2), (3, .int (nI 0))] [] μ) :
    JS Z X 0 [(0, .ref (Z.2.2.1 + 455)), (1, .int a1), (2, .int a2)] [] μ := by
  refine J_iconst (v := nI 0) E dX12_set_0 rfl ?_
  refine J_istore_n (lv' := [(0, .ref (Z.2.2.1 + 455)), (1, .int a1), (2, .int a2), (3, .int (nI 0))]) E dX12_set_1 (Nat.le_of_ble_eq_true rfl) rfl ?_
  exact k
theorem bX12_set_2 {Z : ZT} {X : XT} {μ : Mu} {a1 : Int32} {a2 : Int32} {a3 : Int32} (E : Ent Z X mX12_set 0 0)  
    (kt : (nI 27) ≤ a3 → JS Z X 34 [] [] μ) (kf : ¬ ((nI 27) ≤ a3) → JS Z X 8 [(0, .ref (Z.2.2.1 + 455)), (1, .int a1), (2, .int a2), (3, .int a3)] [] μ) :
    JS Z X 2 [(0, .ref (Z.2.2.1 + 455)), (1, .int a1), (2, .int a2), (3, .int a3)] [] μ := by
  refine J_iload_n E dX12_set_2 rfl ?_
  refine J_bipush (v := nI 27) E dX12_set_3 rfl ?_
  refine J_icmp_ge (tgt := 34) E dX12_set_5 (by decide) (fun c => ?_) (fun c => ?_)
  · refine J.weak [] rfl ?_
    exact kt c
  · exact kf c
theorem bX12_set_8 {Z : ZT} {X : XT} {μ : Mu} {a1 : Int32} {a2 : Int32} {a3 : Int32} (E : Ent Z X mX12_set 0 0)  
    (kt : ¬ a3 = 0 → JS Z X 26 [(0, .ref (Z.2.2.1 + 455)), (1, .int a1), (2, .int a2), (3, .int a3)] [.int (((nI 27) * a1) + a3), .ref (Z.2.2.1 + 465)] μ) (kf : a3 = 0 → JS Z X 22 [(0, .ref (Z.2.2.1 + 455)), (1, .int a1), (2, .int a2), (3, .int a3)] [.int (((nI 27) * a1) + a3), .ref (Z.2.2.1 + 465)] μ) :
    JS Z X 8 [(0, .ref (Z.2.2.1 + 455)), (1, .int a1), (2, .int a2), (3, .int a3)] [] μ := by
  refine J_aload_n E dX12_set_8 rfl ?_
  refine S_get (ci := 12) (q := 18) (v := .ref (Z.2.2.1 + 465)) E dX12_set_9 fs_X12_39 sh455 rfl ?_
  refine J_bipush (v := nI 27) E dX12_set_12 rfl ?_
  refine J_iload_n E dX12_set_14 rfl ?_
  refine J_imul E dX12_set_15 ?_
  refine J_iload_n E dX12_set_16 rfl ?_
  refine J_iadd E dX12_set_17 ?_
  refine J_iload_n E dX12_set_18 rfl ?_
  refine J_if_ne (tgt := 26) E dX12_set_19 (by decide) (fun c => ?_) (fun c => ?_)
  · exact kt c
  · exact kf c
theorem bX12_set_22 {Z : ZT} {X : XT} {μ : Mu} {a1 : Int32} {a2 : Int32} {a3 : Int32} {s0 : Nat} {s1 : Int32} (E : Ent Z X mX12_set 0 0) (hs0 : SH s0 = .inr (0, 7587)) 
    (k : JS Z X 27 [(0, .ref (Z.2.2.1 + 455)), (1, .int a1), (2, .int a2), (3, .int a3)] [.int a2, .int s1, .ref (Z.2.2.1 + s0)] μ) :
    JS Z X 22 [(0, .ref (Z.2.2.1 + 455)), (1, .int a1), (2, .int a2), (3, .int a3)] [.int s1, .ref (Z.2.2.1 + s0)] μ := by
  refine J_iload_n E dX12_set_22 rfl ?_
  refine J_goto (tgt := 27) E dX12_set_23 (by decide) ?_
  exact k
theorem bX12_set_26 {Z : ZT} {X : XT} {μ : Mu} {a1 : Int32} {a2 : Int32} {a3 : Int32} {s0 : Nat} {s1 : Int32} (E : Ent Z X mX12_set 0 0) (hs0 : SH s0 = .inr (0, 7587)) 
    (k : JS Z X 27 [(0, .ref (Z.2.2.1 + 455)), (1, .int a1), (2, .int a2), (3, .int a3)] [.int (nI 0), .int s1, .ref (Z.2.2.1 + s0)] μ) :
    JS Z X 26 [(0, .ref (Z.2.2.1 + 455)), (1, .int a1), (2, .int a2), (3, .int a3)] [.int s1, .ref (Z.2.2.1 + s0)] μ := by
  refine J_iconst (v := nI 0) E dX12_set_26 rfl ?_
  exact k
theorem bX12_set_27 {Z : ZT} {X : XT} {μ : Mu} {a1 : Int32} {a2 : Int32} {a3 : Int32} {s0 : Nat} {s1 : Int32} {s2 : Int32} (E : Ent Z X mX12_set 0 0) (hs0 : SH s0 = .inr (0, 7587)) (s1_ : vp_in s1 7587)
    (k : JS Z X 28 [(0, .ref (Z.2.2.1 + 455)), (1, .int a1), (2, .int a2), (3, .int a3)] [] (uR μ s0 (upd (μ s0) (ix s1) s2))) :
    JS Z X 27 [(0, .ref (Z.2.2.1 + 455)), (1, .int a1), (2, .int a2), (3, .int a3)] [.int s2, .int s1, .ref (Z.2.2.1 + s0)] μ := by
  refine S_iast E dX12_set_27 hs0 s1_ ?_
  exact k
theorem bX12_set_28 {Z : ZT} {X : XT} {μ : Mu} {a1 : Int32} {a2 : Int32} {a3 : Int32} (E : Ent Z X mX12_set 0 0)  
    (k : JS Z X 2 [(0, .ref (Z.2.2.1 + 455)), (1, .int a1), (2, .int a2), (3, .int (a3 + nI 1))] [] μ) :
    JS Z X 28 [(0, .ref (Z.2.2.1 + 455)), (1, .int a1), (2, .int a2), (3, .int a3)] [] μ := by
  refine J_iinc (v := a3 + nI 1) (lv' := [(0, .ref (Z.2.2.1 + 455)), (1, .int a1), (2, .int a2), (3, .int (a3 + nI 1))]) E dX12_set_28 rfl rfl (Nat.le_of_ble_eq_true rfl) rfl ?_
  refine J_goto (tgt := 2) E dX12_set_31 (by decide) ?_
  exact k
theorem bX12_set_34 {Z : ZT} {X : XT} {μ : Mu} (E : Ent Z X mX12_set 0 0) {P : Option Value → Mu → Prop} (hB : BodS Z X P) 
    (k : P none μ) :
    JS Z X 34 [] [] μ := by
  exact S_vret E hB dX12_set_34 rfl k
theorem dX12_copy_0 : decode cX12_copy 0 = .ok (.iconst 0, 1) := by decide +kernel
theorem dX12_copy_1 : decode cX12_copy 1 = .ok (.istore_n 3, 1) := by decide +kernel
theorem dX12_copy_2 : decode cX12_copy 2 = .ok (.iload_n 3, 1) := by decide +kernel
theorem dX12_copy_3 : decode cX12_copy 3 = .ok (.bipush 27, 2) := by decide +kernel
theorem dX12_copy_5 : decode cX12_copy 5 = .ok (.if_icmp .ge 31, 3) := by decide +kernel
theorem dX12_copy_8 : decode cX12_copy 8 = .ok (.aload_n 0, 1) := by decide +kernel
theorem dX12_copy_9 : decode cX12_copy 9 = .ok (.getfield 39, 3) := by decide +kernel
theorem dX12_copy_12 : decode cX12_copy 12 = .ok (.bipush 27, 2) := by decide +kernel
theorem dX12_copy_14 : decode cX12_copy 14 = .ok (.iload_n 2, 1) := by decide +kernel
theorem dX12_copy_15 : decode cX12_copy 15 = .ok (.imul, 1) := by decide +kernel
theorem dX12_copy_16 : decode cX12_copy 16 = .ok (.iload_n 3, 1) := by decide +kernel
theorem dX12_copy_17 : decode cX12_copy 17 = .ok (.iadd, 1) := by decide +kernel
theorem dX12_copy_18 : decode cX12_copy 18 = .ok (.aload_n 0, 1) := by decide +kernel
theorem dX12_copy_19 : decode cX12_copy 19 = .ok (.getfield 39, 3) := by decide +kernel
theorem dX12_copy_22 : decode cX12_copy 22 = .ok (.bipush 27, 2) := by decide +kernel
theorem dX12_copy_24 : decode cX12_copy 24 = .ok (.iload_n 1, 1) := by decide +kernel
theorem dX12_copy_25 : decode cX12_copy 25 = .ok (.imul, 1) := by decide +kernel
theorem dX12_copy_26 : decode cX12_copy 26 = .ok (.iload_n 3, 1) := by decide +kernel
theorem dX12_copy_27 : decode cX12_copy 27 = .ok (.iadd, 1) := by decide +kernel
theorem dX12_copy_28 : decode cX12_copy 28 = .ok (.iaload, 1) := by decide +kernel
theorem dX12_copy_29 : decode cX12_copy 29 = .ok (.iastore, 1) := by decide +kernel
theorem dX12_copy_30 : decode cX12_copy 30 = .ok (.iinc 3 1, 3) := by decide +kernel
theorem dX12_copy_33 : decode cX12_copy 33 = .ok (.goto (-31), 3) := by decide +kernel
theorem dX12_copy_36 : decode cX12_copy 36 = .ok (.return_, 1) := by decide +kernel
theorem bX12_copy_0 {Z : ZT} {X : XT} {μ : Mu} {a1 : Int32} {a2 : Int32} (E : Ent Z X mX12_copy 0 0)  
    (k : JS Z X 2 [(0, .ref (Z.2.2.1 + 455)), (1, .int a1), (2, .int a2), (3, .int (nI 0))] [] μ) :
    JS Z X 0 [(0, .ref (Z.2.2.1 + 455)), (1, .int a1), (2, .int a2)] [] μ := by
  refine J_iconst (v := nI 0) E dX12_copy_0 rfl ?_
  refine J_istore_n (lv' := [(0, .ref (Z.2.2.1 + 455)), (1, .int a1), (2, .int a2), (3, .int (nI 0))]) E dX12_copy_1 (Nat.le_of_ble_eq_true rfl) rfl ?_
  exact k
theorem bX12_copy_2 {Z : ZT} {X : XT} {μ : Mu} {a1 : Int32} {a2 : Int32} {a3 : Int32} (E : Ent Z X mX12_copy 0 0)  
    (kt : (nI 27) ≤ a3 → JS Z X 36 [] [] μ) (kf : ¬ ((nI 27) ≤ a3) → JS Z X 8 [(0, .ref (Z.2.2.1 + 455)), (1, .int a1), (2, .int a2), (3, .int a3)] [] μ) :
    JS Z X 2 [(0, .ref (Z.2.2.1 + 455)), (1, .int a1), (2, .int a2), (3, .int a3)] [] μ := by
  refine J_iload_n E dX12_copy_2 rfl ?_
  refine J_bipush (v := nI 27) E dX12_copy_3 rfl ?_
  refine J_icmp_ge (tgt := 36) E dX12_copy_5 (by decide) (fun c => ?_) (fun c => ?_)
  · refine J.weak [] rfl ?_
    exact kt c
  · exact kf c
theorem bX12_copy_8 {Z : ZT} {X : XT} {μ : Mu} {a1 : Int32} {a2 : Int32} {a3 : Int32} (E : Ent Z X mX12_copy 0 0)  (s1_ : vp_in (((nI 27) * a1) + a3) 7587) (s2_ : vp_in (((nI 27) * a2) + a3) 7587)
    (k : JS Z X 30 [(0, .ref (Z.2.2.1 + 455)), (1, .int a1), (2, .int a2), (3, .int a3)] [] (uR μ 465 (upd (μ 465) (ix (((nI 27) * a2) + a3)) (μ 465 (ix (((nI 27) * a1) + a3)))))) :
    JS Z X 8 [(0, .ref (Z.2.2.1 + 455)), (1, .int a1), (2, .int a2), (3, .int a3)] [] μ := by
  refine J_aload_n E dX12_copy_8 rfl ?_
  refine S_get (ci := 12) (q := 18) (v := .ref (Z.2.2.1 + 465)) E dX12_copy_9 fs_X12_39 sh455 rfl ?_
  refine J_bipush (v := nI 27) E dX12_copy_12 rfl ?_
  refine J_iload_n E dX12_copy_14 rfl ?_
  refine J_imul E dX12_copy_15 ?_
  refine J_iload_n E dX12_copy_16 rfl ?_
  refine J_iadd E dX12_copy_17 ?_
  refine J_aload_n E dX12_copy_18 rfl ?_
  refine S_get (ci := 12) (q := 18) (v := .ref (Z.2.2.1 + 465)) E dX12_copy_19 fs_X12_39 sh455 rfl ?_
  refine J_bipush (v := nI 27) E dX12_copy_22 rfl ?_
  refine J_iload_n E dX12_copy_24 rfl ?_
  refine J_imul E dX12_copy_25 ?_
  refine J_iload_n E dX12_copy_26 rfl ?_
  refine J_iadd E dX12_copy_27 ?_
  refine S_iald E dX12_copy_28 sh465 s1_ ?_
  refine S_iast E dX12_copy_29 sh465 s2_ ?_
  exact k
theorem bX12_copy_30 {Z : ZT} {X : XT} {μ : Mu} {a1 : Int32} {a2 : Int32} {a3 : Int32} (E : Ent Z X mX12_copy 0 0)  
    (k : JS Z X 2 [(0, .ref (Z.2.2.1 + 455)), (1, .int a1), (2, .int a2), (3, .int (a3 + nI 1))] [] μ) :
    JS Z X 30 [(0, .ref (Z.2.2.1 + 455)), (1, .int a1), (2, .int a2), (3, .int a3)] [] μ := by
  refine J_iinc (v := a3 + nI 1) (lv' := [(0, .ref (Z.2.2.1 + 455)), (1, .int a1), (2, .int a2), (3, .int (a3 + nI 1))]) E dX12_copy_30 rfl rfl (Nat.le_of_ble_eq_true rfl) rfl ?_
  refine J_goto (tgt := 2) E dX12_copy_33 (by decide) ?_
  exact k
theorem bX12_copy_36 {Z : ZT} {X : XT} {μ : Mu} (E : Ent Z X mX12_copy 0 0) {P : Option Value → Mu → Prop} (hB : BodS Z X P) 
    (k : P none μ) :
    JS Z X 36 [] [] μ := by
  exact S_vret E hB dX12_copy_36 rfl k
