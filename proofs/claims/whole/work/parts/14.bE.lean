theorem dX12_times_0 : decode cX12_times 0 = .ok (.lconst 0, 1) := by decide +kernel
theorem dX12_times_1 : decode cX12_times 1 = .ok (.lstore_n 3, 1) := by decide +kernel
theorem dX12_times_2 : decode cX12_times 2 = .ok (.iconst 0, 1) := by decide +kernel
theorem dX12_times_3 : decode cX12_times 3 = .ok (.istore 5, 2) := by decide +kernel
theorem dX12_times_5 : decode cX12_times 5 = .ok (.iload 5, 2) := by decide +kernel
theorem dX12_times_7 : decode cX12_times 7 = .ok (.bipush 27, 2) := by decide +kernel
theorem dX12_times_9 : decode cX12_times 9 = .ok (.if_icmp .ge 55, 3) := by decide +kernel
theorem dX12_times_12 : decode cX12_times 12 = .ok (.aload_n 0, 1) := by decide +kernel
theorem dX12_times_13 : decode cX12_times 13 = .ok (.getfield 39, 3) := by decide +kernel
theorem dX12_times_16 : decode cX12_times 16 = .ok (.bipush 27, 2) := by decide +kernel
theorem dX12_times_18 : decode cX12_times 18 = .ok (.iload_n 1, 1) := by decide +kernel
theorem dX12_times_19 : decode cX12_times 19 = .ok (.imul, 1) := by decide +kernel
theorem dX12_times_20 : decode cX12_times 20 = .ok (.iload 5, 2) := by decide +kernel
theorem dX12_times_22 : decode cX12_times 22 = .ok (.iadd, 1) := by decide +kernel
theorem dX12_times_23 : decode cX12_times 23 = .ok (.iaload, 1) := by decide +kernel
theorem dX12_times_24 : decode cX12_times 24 = .ok (.i2l, 1) := by decide +kernel
theorem dX12_times_25 : decode cX12_times 25 = .ok (.iload_n 2, 1) := by decide +kernel
theorem dX12_times_26 : decode cX12_times 26 = .ok (.i2l, 1) := by decide +kernel
theorem dX12_times_27 : decode cX12_times 27 = .ok (.lmul, 1) := by decide +kernel
theorem dX12_times_28 : decode cX12_times 28 = .ok (.lload_n 3, 1) := by decide +kernel
theorem dX12_times_29 : decode cX12_times 29 = .ok (.ladd, 1) := by decide +kernel
theorem dX12_times_30 : decode cX12_times 30 = .ok (.lstore 6, 2) := by decide +kernel
theorem dX12_times_32 : decode cX12_times 32 = .ok (.aload_n 0, 1) := by decide +kernel
theorem dX12_times_33 : decode cX12_times 33 = .ok (.getfield 39, 3) := by decide +kernel
theorem dX12_times_36 : decode cX12_times 36 = .ok (.bipush 27, 2) := by decide +kernel
theorem dX12_times_38 : decode cX12_times 38 = .ok (.iload_n 1, 1) := by decide +kernel
theorem dX12_times_39 : decode cX12_times 39 = .ok (.imul, 1) := by decide +kernel
theorem dX12_times_40 : decode cX12_times 40 = .ok (.iload 5, 2) := by decide +kernel
theorem dX12_times_42 : decode cX12_times 42 = .ok (.iadd, 1) := by decide +kernel
theorem dX12_times_43 : decode cX12_times 43 = .ok (.lload 6, 2) := by decide +kernel
theorem dX12_times_45 : decode cX12_times 45 = .ok (.ldc2_w 191, 3) := by decide +kernel
theorem dX12_times_48 : decode cX12_times 48 = .ok (.lrem, 1) := by decide +kernel
theorem dX12_times_49 : decode cX12_times 49 = .ok (.l2i, 1) := by decide +kernel
theorem dX12_times_50 : decode cX12_times 50 = .ok (.iastore, 1) := by decide +kernel
theorem dX12_times_51 : decode cX12_times 51 = .ok (.lload 6, 2) := by decide +kernel
theorem dX12_times_53 : decode cX12_times 53 = .ok (.ldc2_w 191, 3) := by decide +kernel
theorem dX12_times_56 : decode cX12_times 56 = .ok (.ldiv, 1) := by decide +kernel
theorem dX12_times_57 : decode cX12_times 57 = .ok (.lstore_n 3, 1) := by decide +kernel
theorem dX12_times_58 : decode cX12_times 58 = .ok (.iinc 5 1, 3) := by decide +kernel
theorem dX12_times_61 : decode cX12_times 61 = .ok (.goto (-56), 3) := by decide +kernel
theorem dX12_times_64 : decode cX12_times 64 = .ok (.return_, 1) := by decide +kernel
theorem bX12_times_0 {Z : ZT} {X : XT} {μ : Mu} {a1 : Int32} {a2 : Int32} (E : Ent Z X mX12_times 0 0)  
    (k : JS Z X 5 [(0, .ref (Z.2.2.1 + 455)), (1, .int a1), (2, .int a2), (3, .long (lN 0)), (5, .int (nI 0))] [] μ) :
    JS Z X 0 [(0, .ref (Z.2.2.1 + 455)), (1, .int a1), (2, .int a2)] [] μ := by
  refine J_lconst (v := lN 0) E dX12_times_0 rfl ?_
  refine J_lstore_n (lv' := [(0, .ref (Z.2.2.1 + 455)), (1, .int a1), (2, .int a2), (3, .long (lN 0))]) E dX12_times_1 (Nat.le_of_ble_eq_true rfl) rfl ?_
  refine J_iconst (v := nI 0) E dX12_times_2 rfl ?_
  refine J_istore (lv' := [(0, .ref (Z.2.2.1 + 455)), (1, .int a1), (2, .int a2), (3, .long (lN 0)), (5, .int (nI 0))]) E dX12_times_3 (Nat.le_of_ble_eq_true rfl) rfl ?_
  exact k
theorem bX12_times_5 {Z : ZT} {X : XT} {μ : Mu} {a1 : Int32} {a2 : Int32} {a3 : Int64} {a5 : Int32} (E : Ent Z X mX12_times 0 0)  
    (kt : (nI 27) ≤ a5 → JS Z X 64 [] [] μ) (kf : ¬ ((nI 27) ≤ a5) → JS Z X 12 [(0, .ref (Z.2.2.1 + 455)), (1, .int a1), (2, .int a2), (3, .long a3), (5, .int a5)] [] μ) :
    JS Z X 5 [(0, .ref (Z.2.2.1 + 455)), (1, .int a1), (2, .int a2), (3, .long a3), (5, .int a5)] [] μ := by
  refine J_iload E dX12_times_5 rfl ?_
  refine J_bipush (v := nI 27) E dX12_times_7 rfl ?_
  refine J_icmp_ge (tgt := 64) E dX12_times_9 (by decide) (fun c => ?_) (fun c => ?_)
  · refine J.weak [] rfl ?_
    exact kt c
  · exact kf c
theorem bX12_times_12 {Z : ZT} {X : XT} {μ : Mu} {a1 : Int32} {a2 : Int32} {a3 : Int64} {a5 : Int32} (E : Ent Z X mX12_times 0 0)  (s1_ : vp_in (((nI 27) * a1) + a5) 7587) (s2_ : vp_in (((nI 27) * a1) + a5) 7587)
    (k : JS Z X 51 [(0, .ref (Z.2.2.1 + 455)), (1, .int a1), (2, .int a2), (5, .int a5), (6, .long ((((μ 465 (ix (((nI 27) * a1) + a5))).toInt64) * a2.toInt64) + a3))] [] (uR μ 465 (upd (μ 465) (ix (((nI 27) * a1) + a5)) ((((((μ 465 (ix (((nI 27) * a1) + a5))).toInt64) * a2.toInt64) + a3) - ((((μ 465 (ix (((nI 27) * a1) + a5))).toInt64) * a2.toInt64) + a3) / (lN 1073741824) * (lN 1073741824)).toInt32)))) :
    JS Z X 12 [(0, .ref (Z.2.2.1 + 455)), (1, .int a1), (2, .int a2), (3, .long a3), (5, .int a5)] [] μ := by
  refine J_aload_n E dX12_times_12 rfl ?_
  refine S_get (ci := 12) (q := 18) (v := .ref (Z.2.2.1 + 465)) E dX12_times_13 fs_X12_39 sh455 rfl ?_
  refine J_bipush (v := nI 27) E dX12_times_16 rfl ?_
  refine J_iload_n E dX12_times_18 rfl ?_
  refine J_imul E dX12_times_19 ?_
  refine J_iload E dX12_times_20 rfl ?_
  refine J_iadd E dX12_times_22 ?_
  refine S_iald E dX12_times_23 sh465 s1_ ?_
  refine J_i2l E dX12_times_24 ?_
  refine J_iload_n E dX12_times_25 rfl ?_
  refine J_i2l E dX12_times_26 ?_
  refine J_lmul E dX12_times_27 ?_
  refine J_lload_n E dX12_times_28 rfl ?_
  refine J_ladd E dX12_times_29 ?_
  refine J_lstore (lv' := [(0, .ref (Z.2.2.1 + 455)), (1, .int a1), (2, .int a2), (3, .long a3), (5, .int a5), (6, .long ((((μ 465 (ix (((nI 27) * a1) + a5))).toInt64) * a2.toInt64) + a3))]) E dX12_times_30 (Nat.le_of_ble_eq_true rfl) rfl ?_
  refine J_aload_n E dX12_times_32 rfl ?_
  refine S_get (ci := 12) (q := 18) (v := .ref (Z.2.2.1 + 465)) E dX12_times_33 fs_X12_39 sh455 rfl ?_
  refine J_bipush (v := nI 27) E dX12_times_36 rfl ?_
  refine J_iload_n E dX12_times_38 rfl ?_
  refine J_imul E dX12_times_39 ?_
  refine J_iload E dX12_times_40 rfl ?_
  refine J_iadd E dX12_times_42 ?_
  refine J_lload E dX12_times_43 rfl ?_
  refine J_ldc2 (v := lN 1073741824) E dX12_times_45 w7_14 ?_
  refine J_lrem E dX12_times_48 (by decide) ?_
  refine J_l2i E dX12_times_49 ?_
  refine S_iast E dX12_times_50 sh465 s2_ ?_
  refine J.weak [0, 1, 2, 4, 5] rfl ?_
  exact k
theorem bX12_times_51 {Z : ZT} {X : XT} {μ : Mu} {a1 : Int32} {a2 : Int32} {a5 : Int32} {a6 : Int64} (E : Ent Z X mX12_times 0 0)  
    (k : JS Z X 5 [(0, .ref (Z.2.2.1 + 455)), (1, .int a1), (2, .int a2), (3, .long (a6 / (lN 1073741824))), (5, .int (a5 + nI 1))] [] μ) :
    JS Z X 51 [(0, .ref (Z.2.2.1 + 455)), (1, .int a1), (2, .int a2), (5, .int a5), (6, .long a6)] [] μ := by
  refine J_lload E dX12_times_51 rfl ?_
  refine J_ldc2 (v := lN 1073741824) E dX12_times_53 w7_14 ?_
  refine J_ldiv E dX12_times_56 (by decide) ?_
  refine J_lstore_n (lv' := [(0, .ref (Z.2.2.1 + 455)), (1, .int a1), (2, .int a2), (3, .long (a6 / (lN 1073741824))), (5, .int a5), (6, .long a6)]) E dX12_times_57 (Nat.le_of_ble_eq_true rfl) rfl ?_
  refine J_iinc (v := a5 + nI 1) (lv' := [(0, .ref (Z.2.2.1 + 455)), (1, .int a1), (2, .int a2), (3, .long (a6 / (lN 1073741824))), (5, .int (a5 + nI 1)), (6, .long a6)]) E dX12_times_58 rfl rfl (Nat.le_of_ble_eq_true rfl) rfl ?_
  refine J_goto (tgt := 5) E dX12_times_61 (by decide) ?_
  refine J.weak [0, 1, 2, 3, 4] rfl ?_
  exact k
theorem bX12_times_64 {Z : ZT} {X : XT} {μ : Mu} (E : Ent Z X mX12_times 0 0) {P : Option Value → Mu → Prop} (hB : BodS Z X P) 
    (k : P none μ) :
    JS Z X 64 [] [] μ := by
  exact S_vret E hB dX12_times_64 rfl k
theorem dX12_millions_0 : decode cX12_millions 0 = .ok (.iconst 0, 1) := by decide +kernel
theorem dX12_millions_1 : decode cX12_millions 1 = .ok (.istore_n 3, 1) := by decide +kernel
theorem dX12_millions_2 : decode cX12_millions 2 = .ok (.iload_n 3, 1) := by decide +kernel
theorem dX12_millions_3 : decode cX12_millions 3 = .ok (.iload_n 2, 1) := by decide +kernel
theorem dX12_millions_4 : decode cX12_millions 4 = .ok (.if_icmp .ge 16, 3) := by decide +kernel
theorem dX12_millions_7 : decode cX12_millions 7 = .ok (.aload_n 0, 1) := by decide +kernel
theorem dX12_millions_8 : decode cX12_millions 8 = .ok (.iload_n 1, 1) := by decide +kernel
theorem dX12_millions_9 : decode cX12_millions 9 = .ok (.ldc 193, 2) := by decide +kernel
theorem dX12_millions_11 : decode cX12_millions 11 = .ok (.invokevirtual 194, 3) := by decide +kernel
theorem dX12_millions_14 : decode cX12_millions 14 = .ok (.iinc 3 1, 3) := by decide +kernel
theorem dX12_millions_17 : decode cX12_millions 17 = .ok (.goto (-15), 3) := by decide +kernel
theorem dX12_millions_20 : decode cX12_millions 20 = .ok (.return_, 1) := by decide +kernel
theorem bX12_millions_0 {Z : ZT} {X : XT} {μ : Mu} {a1 : Int32} {a2 : Int32} (E : Ent Z X mX12_millions 0 0)  
    (k : JS Z X 2 [(0, .ref (Z.2.2.1 + 455)), (1, .int a1), (2, .int a2), (3, .int (nI 0))] [] μ) :
    JS Z X 0 [(0, .ref (Z.2.2.1 + 455)), (1, .int a1), (2, .int a2)] [] μ := by
  refine J_iconst (v := nI 0) E dX12_millions_0 rfl ?_
  refine J_istore_n (lv' := [(0, .ref (Z.2.2.1 + 455)), (1, .int a1), (2, .int a2), (3, .int (nI 0))]) E dX12_millions_1 (Nat.le_of_ble_eq_true rfl) rfl ?_
  exact k
theorem bX12_millions_2 {Z : ZT} {X : XT} {μ : Mu} {a1 : Int32} {a2 : Int32} {a3 : Int32} (E : Ent Z X mX12_millions 0 0)  
    (kt : a2 ≤ a3 → JS Z X 20 [] [] μ) (kf : ¬ (a2 ≤ a3) → JS Z X 7 [(0, .ref (Z.2.2.1 + 455)), (1, .int a1), (2, .int a2), (3, .int a3)] [] μ) :
    JS Z X 2 [(0, .ref (Z.2.2.1 + 455)), (1, .int a1), (2, .int a2), (3, .int a3)] [] μ := by
  refine J_iload_n E dX12_millions_2 rfl ?_
  refine J_iload_n E dX12_millions_3 rfl ?_
  refine J_icmp_ge (tgt := 20) E dX12_millions_4 (by decide) (fun c => ?_) (fun c => ?_)
  · refine J.weak [] rfl ?_
    exact kt c
  · exact kf c
theorem bX12_millions_7 {Z : ZT} {X : XT} {μ : Mu} {a1 : Int32} {a2 : Int32} {a3 : Int32} (E : Ent Z X mX12_millions 0 0) {p : Mu → Prop} 
    (c : CtrS Z mX12_times [.ref (Z.2.2.1 + 455), .int a1, .int (nI 1000000)] μ (rV p)) (k : ∀ μ1, p μ1 → JS Z X 14 [(0, .ref (Z.2.2.1 + 455)), (1, .int a1), (2, .int a2), (3, .int a3)] [] μ1) :
    JS Z X 7 [(0, .ref (Z.2.2.1 + 455)), (1, .int a1), (2, .int a2), (3, .int a3)] [] μ := by
  refine J_aload_n E dX12_millions_7 rfl ?_
  refine J_iload_n E dX12_millions_8 rfl ?_
  refine J_ldc (v := nI 1000000) E dX12_millions_9 w6_221 ?_
  refine S_callV (As := [.int a1, .int (nI 1000000)]) (rest := []) E dX12_millions_11 c kX12_times ⟨Nat.le_of_ble_eq_true rfl, Nat.le_of_ble_eq_true rfl⟩ rfl (Nat.le_of_ble_eq_true rfl) sh455 rfl rfl w7_15 w7_17 wp_61 (fun r_ μ1 hp_ => ?_)
  obtain ⟨rfl, hp_⟩ := hp_
  exact k μ1 hp_
theorem bX12_millions_14 {Z : ZT} {X : XT} {μ : Mu} {a1 : Int32} {a2 : Int32} {a3 : Int32} (E : Ent Z X mX12_millions 0 0)  
    (k : JS Z X 2 [(0, .ref (Z.2.2.1 + 455)), (1, .int a1), (2, .int a2), (3, .int (a3 + nI 1))] [] μ) :
    JS Z X 14 [(0, .ref (Z.2.2.1 + 455)), (1, .int a1), (2, .int a2), (3, .int a3)] [] μ := by
  refine J_iinc (v := a3 + nI 1) (lv' := [(0, .ref (Z.2.2.1 + 455)), (1, .int a1), (2, .int a2), (3, .int (a3 + nI 1))]) E dX12_millions_14 rfl rfl (Nat.le_of_ble_eq_true rfl) rfl ?_
  refine J_goto (tgt := 2) E dX12_millions_17 (by decide) ?_
  exact k
theorem bX12_millions_20 {Z : ZT} {X : XT} {μ : Mu} (E : Ent Z X mX12_millions 0 0) {P : Option Value → Mu → Prop} (hB : BodS Z X P) 
    (k : P none μ) :
    JS Z X 20 [] [] μ := by
  exact S_vret E hB dX12_millions_20 rfl k
theorem dX12_add_0 : decode cX12_add 0 = .ok (.iconst 0, 1) := by decide +kernel
theorem dX12_add_1 : decode cX12_add 1 = .ok (.istore_n 3, 1) := by decide +kernel
theorem dX12_add_2 : decode cX12_add 2 = .ok (.iconst 0, 1) := by decide +kernel
theorem dX12_add_3 : decode cX12_add 3 = .ok (.istore 4, 2) := by decide +kernel
theorem dX12_add_5 : decode cX12_add 5 = .ok (.iload 4, 2) := by decide +kernel
theorem dX12_add_7 : decode cX12_add 7 = .ok (.bipush 27, 2) := by decide +kernel
theorem dX12_add_9 : decode cX12_add 9 = .ok (.if_icmp .ge 68, 3) := by decide +kernel
theorem dX12_add_12 : decode cX12_add 12 = .ok (.aload_n 0, 1) := by decide +kernel
theorem dX12_add_13 : decode cX12_add 13 = .ok (.getfield 39, 3) := by decide +kernel
theorem dX12_add_16 : decode cX12_add 16 = .ok (.bipush 27, 2) := by decide +kernel
theorem dX12_add_18 : decode cX12_add 18 = .ok (.iload_n 1, 1) := by decide +kernel
theorem dX12_add_19 : decode cX12_add 19 = .ok (.imul, 1) := by decide +kernel
theorem dX12_add_20 : decode cX12_add 20 = .ok (.iload 4, 2) := by decide +kernel
theorem dX12_add_22 : decode cX12_add 22 = .ok (.iadd, 1) := by decide +kernel
theorem dX12_add_23 : decode cX12_add 23 = .ok (.iaload, 1) := by decide +kernel
theorem dX12_add_24 : decode cX12_add 24 = .ok (.i2l, 1) := by decide +kernel
theorem dX12_add_25 : decode cX12_add 25 = .ok (.aload_n 0, 1) := by decide +kernel
theorem dX12_add_26 : decode cX12_add 26 = .ok (.getfield 39, 3) := by decide +kernel
theorem dX12_add_29 : decode cX12_add 29 = .ok (.bipush 27, 2) := by decide +kernel
theorem dX12_add_31 : decode cX12_add 31 = .ok (.iload_n 2, 1) := by decide +kernel
theorem dX12_add_32 : decode cX12_add 32 = .ok (.imul, 1) := by decide +kernel
theorem dX12_add_33 : decode cX12_add 33 = .ok (.iload 4, 2) := by decide +kernel
theorem dX12_add_35 : decode cX12_add 35 = .ok (.iadd, 1) := by decide +kernel
theorem dX12_add_36 : decode cX12_add 36 = .ok (.iaload, 1) := by decide +kernel
theorem dX12_add_37 : decode cX12_add 37 = .ok (.i2l, 1) := by decide +kernel
theorem dX12_add_38 : decode cX12_add 38 = .ok (.ladd, 1) := by decide +kernel
theorem dX12_add_39 : decode cX12_add 39 = .ok (.iload_n 3, 1) := by decide +kernel
theorem dX12_add_40 : decode cX12_add 40 = .ok (.i2l, 1) := by decide +kernel
theorem dX12_add_41 : decode cX12_add 41 = .ok (.ladd, 1) := by decide +kernel
theorem dX12_add_42 : decode cX12_add 42 = .ok (.lstore 5, 2) := by decide +kernel
theorem dX12_add_44 : decode cX12_add 44 = .ok (.aload_n 0, 1) := by decide +kernel
theorem dX12_add_45 : decode cX12_add 45 = .ok (.getfield 39, 3) := by decide +kernel
theorem dX12_add_48 : decode cX12_add 48 = .ok (.bipush 27, 2) := by decide +kernel
theorem dX12_add_50 : decode cX12_add 50 = .ok (.iload_n 1, 1) := by decide +kernel
theorem dX12_add_51 : decode cX12_add 51 = .ok (.imul, 1) := by decide +kernel
theorem dX12_add_52 : decode cX12_add 52 = .ok (.iload 4, 2) := by decide +kernel
theorem dX12_add_54 : decode cX12_add 54 = .ok (.iadd, 1) := by decide +kernel
theorem dX12_add_55 : decode cX12_add 55 = .ok (.lload 5, 2) := by decide +kernel
theorem dX12_add_57 : decode cX12_add 57 = .ok (.ldc2_w 191, 3) := by decide +kernel
theorem dX12_add_60 : decode cX12_add 60 = .ok (.lrem, 1) := by decide +kernel
theorem dX12_add_61 : decode cX12_add 61 = .ok (.l2i, 1) := by decide +kernel
theorem dX12_add_62 : decode cX12_add 62 = .ok (.iastore, 1) := by decide +kernel
theorem dX12_add_63 : decode cX12_add 63 = .ok (.lload 5, 2) := by decide +kernel
theorem dX12_add_65 : decode cX12_add 65 = .ok (.ldc2_w 191, 3) := by decide +kernel
theorem dX12_add_68 : decode cX12_add 68 = .ok (.ldiv, 1) := by decide +kernel
theorem dX12_add_69 : decode cX12_add 69 = .ok (.l2i, 1) := by decide +kernel
theorem dX12_add_70 : decode cX12_add 70 = .ok (.istore_n 3, 1) := by decide +kernel
theorem dX12_add_71 : decode cX12_add 71 = .ok (.iinc 4 1, 3) := by decide +kernel
theorem dX12_add_74 : decode cX12_add 74 = .ok (.goto (-69), 3) := by decide +kernel
theorem dX12_add_77 : decode cX12_add 77 = .ok (.return_, 1) := by decide +kernel
theorem bX12_add_0 {Z : ZT} {X : XT} {μ : Mu} {a1 : Int32} {a2 : Int32} (E : Ent Z X mX12_add 0 0)  
    (k : JS Z X 5 [(0, .ref (Z.2.2.1 + 455)), (1, .int a1), (2, .int a2), (3, .int (nI 0)), (4, .int (nI 0))] [] μ) :
    JS Z X 0 [(0, .ref (Z.2.2.1 + 455)), (1, .int a1), (2, .int a2)] [] μ := by
  refine J_iconst (v := nI 0) E dX12_add_0 rfl ?_
  refine J_istore_n (lv' := [(0, .ref (Z.2.2.1 + 455)), (1, .int a1), (2, .int a2), (3, .int (nI 0))]) E dX12_add_1 (Nat.le_of_ble_eq_true rfl) rfl ?_
  refine J_iconst (v := nI 0) E dX12_add_2 rfl ?_
  refine J_istore (lv' := [(0, .ref (Z.2.2.1 + 455)), (1, .int a1), (2, .int a2), (3, .int (nI 0)), (4, .int (nI 0))]) E dX12_add_3 (Nat.le_of_ble_eq_true rfl) rfl ?_
  exact k
theorem bX12_add_5 {Z : ZT} {X : XT} {μ : Mu} {a1 : Int32} {a2 : Int32} {a3 : Int32} {a4 : Int32} (E : Ent Z X mX12_add 0 0)  
    (kt : (nI 27) ≤ a4 → JS Z X 77 [] [] μ) (kf : ¬ ((nI 27) ≤ a4) → JS Z X 12 [(0, .ref (Z.2.2.1 + 455)), (1, .int a1), (2, .int a2), (3, .int a3), (4, .int a4)] [] μ) :
    JS Z X 5 [(0, .ref (Z.2.2.1 + 455)), (1, .int a1), (2, .int a2), (3, .int a3), (4, .int a4)] [] μ := by
  refine J_iload E dX12_add_5 rfl ?_
  refine J_bipush (v := nI 27) E dX12_add_7 rfl ?_
  refine J_icmp_ge (tgt := 77) E dX12_add_9 (by decide) (fun c => ?_) (fun c => ?_)
  · refine J.weak [] rfl ?_
    exact kt c
  · exact kf c
theorem bX12_add_12 {Z : ZT} {X : XT} {μ : Mu} {a1 : Int32} {a2 : Int32} {a3 : Int32} {a4 : Int32} (E : Ent Z X mX12_add 0 0)  (s1_ : vp_in (((nI 27) * a1) + a4) 7587) (s2_ : vp_in (((nI 27) * a2) + a4) 7587) (s3_ : vp_in (((nI 27) * a1) + a4) 7587)
    (k : JS Z X 63 [(0, .ref (Z.2.2.1 + 455)), (1, .int a1), (2, .int a2), (4, .int a4), (5, .long ((((μ 465 (ix (((nI 27) * a1) + a4))).toInt64) + ((μ 465 (ix (((nI 27) * a2) + a4))).toInt64)) + a3.toInt64))] [] (uR μ 465 (upd (μ 465) (ix (((nI 27) * a1) + a4)) ((((((μ 465 (ix (((nI 27) * a1) + a4))).toInt64) + ((μ 465 (ix (((nI 27) * a2) + a4))).toInt64)) + a3.toInt64) - ((((μ 465 (ix (((nI 27) * a1) + a4))).toInt64) + ((μ 465 (ix (((nI 27) * a2) + a4))).toInt64)) + a3.toInt64) / (lN 1073741824) * (lN 1073741824)).toInt32)))) :
    JS Z X 12 [(0, .ref (Z.2.2.1 + 455)), (1, .int a1), (2, .int a2), (3, .int a3), (4, .int a4)] [] μ := by
  refine J_aload_n E dX12_add_12 rfl ?_
  refine S_get (ci := 12) (q := 18) (v := .ref (Z.2.2.1 + 465)) E dX12_add_13 fs_X12_39 sh455 rfl ?_
  refine J_bipush (v := nI 27) E dX12_add_16 rfl ?_
  refine J_iload_n E dX12_add_18 rfl ?_
  refine J_imul E dX12_add_19 ?_
  refine J_iload E dX12_add_20 rfl ?_
  refine J_iadd E dX12_add_22 ?_
  refine S_iald E dX12_add_23 sh465 s1_ ?_
  refine J_i2l E dX12_add_24 ?_
  refine J_aload_n E dX12_add_25 rfl ?_
  refine S_get (ci := 12) (q := 18) (v := .ref (Z.2.2.1 + 465)) E dX12_add_26 fs_X12_39 sh455 rfl ?_
  refine J_bipush (v := nI 27) E dX12_add_29 rfl ?_
  refine J_iload_n E dX12_add_31 rfl ?_
  refine J_imul E dX12_add_32 ?_
  refine J_iload E dX12_add_33 rfl ?_
  refine J_iadd E dX12_add_35 ?_
  refine S_iald E dX12_add_36 sh465 s2_ ?_
  refine J_i2l E dX12_add_37 ?_
  refine J_ladd E dX12_add_38 ?_
  refine J_iload_n E dX12_add_39 rfl ?_
  refine J_i2l E dX12_add_40 ?_
  refine J_ladd E dX12_add_41 ?_
  refine J_lstore (lv' := [(0, .ref (Z.2.2.1 + 455)), (1, .int a1), (2, .int a2), (3, .int a3), (4, .int a4), (5, .long ((((μ 465 (ix (((nI 27) * a1) + a4))).toInt64) + ((μ 465 (ix (((nI 27) * a2) + a4))).toInt64)) + a3.toInt64))]) E dX12_add_42 (Nat.le_of_ble_eq_true rfl) rfl ?_
  refine J_aload_n E dX12_add_44 rfl ?_
  refine S_get (ci := 12) (q := 18) (v := .ref (Z.2.2.1 + 465)) E dX12_add_45 fs_X12_39 sh455 rfl ?_
  refine J_bipush (v := nI 27) E dX12_add_48 rfl ?_
  refine J_iload_n E dX12_add_50 rfl ?_
  refine J_imul E dX12_add_51 ?_
  refine J_iload E dX12_add_52 rfl ?_
  refine J_iadd E dX12_add_54 ?_
  refine J_lload E dX12_add_55 rfl ?_
  refine J_ldc2 (v := lN 1073741824) E dX12_add_57 w7_14 ?_
  refine J_lrem E dX12_add_60 (by decide) ?_
  refine J_l2i E dX12_add_61 ?_
  refine S_iast E dX12_add_62 sh465 s3_ ?_
  refine J.weak [0, 1, 2, 4, 5] rfl ?_
  exact k
theorem bX12_add_63 {Z : ZT} {X : XT} {μ : Mu} {a1 : Int32} {a2 : Int32} {a4 : Int32} {a5 : Int64} (E : Ent Z X mX12_add 0 0)  
    (k : JS Z X 5 [(0, .ref (Z.2.2.1 + 455)), (1, .int a1), (2, .int a2), (3, .int ((a5 / (lN 1073741824)).toInt32)), (4, .int (a4 + nI 1))] [] μ) :
    JS Z X 63 [(0, .ref (Z.2.2.1 + 455)), (1, .int a1), (2, .int a2), (4, .int a4), (5, .long a5)] [] μ := by
  refine J_lload E dX12_add_63 rfl ?_
  refine J_ldc2 (v := lN 1073741824) E dX12_add_65 w7_14 ?_
  refine J_ldiv E dX12_add_68 (by decide) ?_
  refine J_l2i E dX12_add_69 ?_
  refine J_istore_n (lv' := [(0, .ref (Z.2.2.1 + 455)), (1, .int a1), (2, .int a2), (3, .int ((a5 / (lN 1073741824)).toInt32)), (4, .int a4), (5, .long a5)]) E dX12_add_70 (Nat.le_of_ble_eq_true rfl) rfl ?_
  refine J_iinc (v := a4 + nI 1) (lv' := [(0, .ref (Z.2.2.1 + 455)), (1, .int a1), (2, .int a2), (3, .int ((a5 / (lN 1073741824)).toInt32)), (4, .int (a4 + nI 1)), (5, .long a5)]) E dX12_add_71 rfl rfl (Nat.le_of_ble_eq_true rfl) rfl ?_
  refine J_goto (tgt := 5) E dX12_add_74 (by decide) ?_
  refine J.weak [0, 1, 2, 3, 4] rfl ?_
  exact k
theorem bX12_add_77 {Z : ZT} {X : XT} {μ : Mu} (E : Ent Z X mX12_add 0 0) {P : Option Value → Mu → Prop} (hB : BodS Z X P) 
    (k : P none μ) :
    JS Z X 77 [] [] μ := by
  exact S_vret E hB dX12_add_77 rfl k
theorem dX12_less_0 : decode cX12_less 0 = .ok (.iconst 0, 1) := by decide +kernel
theorem dX12_less_1 : decode cX12_less 1 = .ok (.istore_n 3, 1) := by decide +kernel
theorem dX12_less_2 : decode cX12_less 2 = .ok (.iconst 0, 1) := by decide +kernel
theorem dX12_less_3 : decode cX12_less 3 = .ok (.istore 4, 2) := by decide +kernel
theorem dX12_less_5 : decode cX12_less 5 = .ok (.iload 4, 2) := by decide +kernel
theorem dX12_less_7 : decode cX12_less 7 = .ok (.bipush 27, 2) := by decide +kernel
theorem dX12_less_9 : decode cX12_less 9 = .ok (.if_icmp .ge 76, 3) := by decide +kernel
theorem dX12_less_12 : decode cX12_less 12 = .ok (.aload_n 0, 1) := by decide +kernel
theorem dX12_less_13 : decode cX12_less 13 = .ok (.getfield 39, 3) := by decide +kernel
theorem dX12_less_16 : decode cX12_less 16 = .ok (.bipush 27, 2) := by decide +kernel
theorem dX12_less_18 : decode cX12_less 18 = .ok (.iload_n 1, 1) := by decide +kernel
theorem dX12_less_19 : decode cX12_less 19 = .ok (.imul, 1) := by decide +kernel
theorem dX12_less_20 : decode cX12_less 20 = .ok (.iload 4, 2) := by decide +kernel
theorem dX12_less_22 : decode cX12_less 22 = .ok (.iadd, 1) := by decide +kernel
theorem dX12_less_23 : decode cX12_less 23 = .ok (.iaload, 1) := by decide +kernel
theorem dX12_less_24 : decode cX12_less 24 = .ok (.aload_n 0, 1) := by decide +kernel
theorem dX12_less_25 : decode cX12_less 25 = .ok (.getfield 39, 3) := by decide +kernel
theorem dX12_less_28 : decode cX12_less 28 = .ok (.bipush 27, 2) := by decide +kernel
theorem dX12_less_30 : decode cX12_less 30 = .ok (.iload_n 2, 1) := by decide +kernel
theorem dX12_less_31 : decode cX12_less 31 = .ok (.imul, 1) := by decide +kernel
theorem dX12_less_32 : decode cX12_less 32 = .ok (.iload 4, 2) := by decide +kernel
theorem dX12_less_34 : decode cX12_less 34 = .ok (.iadd, 1) := by decide +kernel
theorem dX12_less_35 : decode cX12_less 35 = .ok (.iaload, 1) := by decide +kernel
theorem dX12_less_36 : decode cX12_less 36 = .ok (.isub, 1) := by decide +kernel
theorem dX12_less_37 : decode cX12_less 37 = .ok (.iload_n 3, 1) := by decide +kernel
theorem dX12_less_38 : decode cX12_less 38 = .ok (.isub, 1) := by decide +kernel
theorem dX12_less_39 : decode cX12_less 39 = .ok (.istore 5, 2) := by decide +kernel
theorem dX12_less_41 : decode cX12_less 41 = .ok (.iload 5, 2) := by decide +kernel
theorem dX12_less_43 : decode cX12_less 43 = .ok (.ifCond .ge 7, 3) := by decide +kernel
theorem dX12_less_46 : decode cX12_less 46 = .ok (.iconst 1, 1) := by decide +kernel
theorem dX12_less_47 : decode cX12_less 47 = .ok (.goto 4, 3) := by decide +kernel
theorem dX12_less_50 : decode cX12_less 50 = .ok (.iconst 0, 1) := by decide +kernel
theorem dX12_less_51 : decode cX12_less 51 = .ok (.istore_n 3, 1) := by decide +kernel
theorem dX12_less_52 : decode cX12_less 52 = .ok (.aload_n 0, 1) := by decide +kernel
theorem dX12_less_53 : decode cX12_less 53 = .ok (.getfield 39, 3) := by decide +kernel
theorem dX12_less_56 : decode cX12_less 56 = .ok (.bipush 27, 2) := by decide +kernel
theorem dX12_less_58 : decode cX12_less 58 = .ok (.iload_n 1, 1) := by decide +kernel
theorem dX12_less_59 : decode cX12_less 59 = .ok (.imul, 1) := by decide +kernel
theorem dX12_less_60 : decode cX12_less 60 = .ok (.iload 4, 2) := by decide +kernel
theorem dX12_less_62 : decode cX12_less 62 = .ok (.iadd, 1) := by decide +kernel
theorem dX12_less_63 : decode cX12_less 63 = .ok (.iload 5, 2) := by decide +kernel
theorem dX12_less_65 : decode cX12_less 65 = .ok (.ifCond .ge 11, 3) := by decide +kernel
theorem dX12_less_68 : decode cX12_less 68 = .ok (.iload 5, 2) := by decide +kernel
theorem dX12_less_70 : decode cX12_less 70 = .ok (.ldc 197, 2) := by decide +kernel
theorem dX12_less_72 : decode cX12_less 72 = .ok (.iadd, 1) := by decide +kernel
theorem dX12_less_73 : decode cX12_less 73 = .ok (.goto 5, 3) := by decide +kernel
theorem dX12_less_76 : decode cX12_less 76 = .ok (.iload 5, 2) := by decide +kernel
theorem dX12_less_78 : decode cX12_less 78 = .ok (.iastore, 1) := by decide +kernel
theorem dX12_less_79 : decode cX12_less 79 = .ok (.iinc 4 1, 3) := by decide +kernel
theorem dX12_less_82 : decode cX12_less 82 = .ok (.goto (-77), 3) := by decide +kernel
theorem dX12_less_85 : decode cX12_less 85 = .ok (.return_, 1) := by decide +kernel
theorem bX12_less_0 {Z : ZT} {X : XT} {μ : Mu} {a1 : Int32} {a2 : Int32} (E : Ent Z X mX12_less 0 0)  
    (k : JS Z X 5 [(0, .ref (Z.2.2.1 + 455)), (1, .int a1), (2, .int a2), (3, .int (nI 0)), (4, .int (nI 0))] [] μ) :
    JS Z X 0 [(0, .ref (Z.2.2.1 + 455)), (1, .int a1), (2, .int a2)] [] μ := by
  refine J_iconst (v := nI 0) E dX12_less_0 rfl ?_
  refine J_istore_n (lv' := [(0, .ref (Z.2.2.1 + 455)), (1, .int a1), (2, .int a2), (3, .int (nI 0))]) E dX12_less_1 (Nat.le_of_ble_eq_true rfl) rfl ?_
  refine J_iconst (v := nI 0) E dX12_less_2 rfl ?_
  refine J_istore (lv' := [(0, .ref (Z.2.2.1 + 455)), (1, .int a1), (2, .int a2), (3, .int (nI 0)), (4, .int (nI 0))]) E dX12_less_3 (Nat.le_of_ble_eq_true rfl) rfl ?_
  exact k
theorem bX12_less_5 {Z : ZT} {X : XT} {μ : Mu} {a1 : Int32} {a2 : Int32} {a3 : Int32} {a4 : Int32} (E : Ent Z X mX12_less 0 0)  
    (kt : (nI 27) ≤ a4 → JS Z X 85 [] [] μ) (kf : ¬ ((nI 27) ≤ a4) → JS Z X 12 [(0, .ref (Z.2.2.1 + 455)), (1, .int a1), (2, .int a2), (3, .int a3), (4, .int a4)] [] μ) :
    JS Z X 5 [(0, .ref (Z.2.2.1 + 455)), (1, .int a1), (2, .int a2), (3, .int a3), (4, .int a4)] [] μ := by
  refine J_iload E dX12_less_5 rfl ?_
  refine J_bipush (v := nI 27) E dX12_less_7 rfl ?_
  refine J_icmp_ge (tgt := 85) E dX12_less_9 (by decide) (fun c => ?_) (fun c => ?_)
  · refine J.weak [] rfl ?_
    exact kt c
  · exact kf c
theorem bX12_less_12 {Z : ZT} {X : XT} {μ : Mu} {a1 : Int32} {a2 : Int32} {a3 : Int32} {a4 : Int32} (E : Ent Z X mX12_less 0 0)  (s1_ : vp_in (((nI 27) * a1) + a4) 7587) (s2_ : vp_in (((nI 27) * a2) + a4) 7587)
    (kt : 0 ≤ (((μ 465 (ix (((nI 27) * a1) + a4))) - (μ 465 (ix (((nI 27) * a2) + a4)))) - a3) → JS Z X 50 [(0, .ref (Z.2.2.1 + 455)), (1, .int a1), (2, .int a2), (4, .int a4), (5, .int (((μ 465 (ix (((nI 27) * a1) + a4))) - (μ 465 (ix (((nI 27) * a2) + a4)))) - a3))] [] μ) (kf : ¬ (0 ≤ (((μ 465 (ix (((nI 27) * a1) + a4))) - (μ 465 (ix (((nI 27) * a2) + a4)))) - a3)) → JS Z X 46 [(0, .ref (Z.2.2.1 + 455)), (1, .int a1), (2, .int a2), (4, .int a4), (5, .int (((μ 465 (ix (((nI 27) * a1) + a4))) - (μ 465 (ix (((nI 27) * a2) + a4)))) - a3))] [] μ) :
    JS Z X 12 [(0, .ref (Z.2.2.1 + 455)), (1, .int a1), (2, .int a2), (3, .int a3), (4, .int a4)] [] μ := by
  refine J_aload_n E dX12_less_12 rfl ?_
  refine S_get (ci := 12) (q := 18) (v := .ref (Z.2.2.1 + 465)) E dX12_less_13 fs_X12_39 sh455 rfl ?_
  refine J_bipush (v := nI 27) E dX12_less_16 rfl ?_
  refine J_iload_n E dX12_less_18 rfl ?_
  refine J_imul E dX12_less_19 ?_
  refine J_iload E dX12_less_20 rfl ?_
  refine J_iadd E dX12_less_22 ?_
  refine S_iald E dX12_less_23 sh465 s1_ ?_
  refine J_aload_n E dX12_less_24 rfl ?_
  refine S_get (ci := 12) (q := 18) (v := .ref (Z.2.2.1 + 465)) E dX12_less_25 fs_X12_39 sh455 rfl ?_
  refine J_bipush (v := nI 27) E dX12_less_28 rfl ?_
  refine J_iload_n E dX12_less_30 rfl ?_
  refine J_imul E dX12_less_31 ?_
  refine J_iload E dX12_less_32 rfl ?_
  refine J_iadd E dX12_less_34 ?_
  refine S_iald E dX12_less_35 sh465 s2_ ?_
  refine J_isub E dX12_less_36 ?_
  refine J_iload_n E dX12_less_37 rfl ?_
  refine J_isub E dX12_less_38 ?_
  refine J_istore (lv' := [(0, .ref (Z.2.2.1 + 455)), (1, .int a1), (2, .int a2), (3, .int a3), (4, .int a4), (5, .int (((μ 465 (ix (((nI 27) * a1) + a4))) - (μ 465 (ix (((nI 27) * a2) + a4)))) - a3))]) E dX12_less_39 (Nat.le_of_ble_eq_true rfl) rfl ?_
  refine J_iload E dX12_less_41 rfl ?_
  refine J_if_ge (tgt := 50) E dX12_less_43 (by decide) (fun c => ?_) (fun c => ?_)
  · refine J.weak [0, 1, 2, 4, 5] rfl ?_
    exact kt c
  · refine J.weak [0, 1, 2, 4, 5] rfl ?_
    exact kf c
theorem bX12_less_46 {Z : ZT} {X : XT} {μ : Mu} {a1 : Int32} {a2 : Int32} {a4 : Int32} {a5 : Int32} (E : Ent Z X mX12_less 0 0)  
    (k : JS Z X 51 [(0, .ref (Z.2.2.1 + 455)), (1, .int a1), (2, .int a2), (4, .int a4), (5, .int a5)] [.int (nI 1)] μ) :
    JS Z X 46 [(0, .ref (Z.2.2.1 + 455)), (1, .int a1), (2, .int a2), (4, .int a4), (5, .int a5)] [] μ := by
  refine J_iconst (v := nI 1) E dX12_less_46 rfl ?_
  refine J_goto (tgt := 51) E dX12_less_47 (by decide) ?_
  exact k
theorem bX12_less_50 {Z : ZT} {X : XT} {μ : Mu} {a1 : Int32} {a2 : Int32} {a4 : Int32} {a5 : Int32} (E : Ent Z X mX12_less 0 0)  
    (k : JS Z X 51 [(0, .ref (Z.2.2.1 + 455)), (1, .int a1), (2, .int a2), (4, .int a4), (5, .int a5)] [.int (nI 0)] μ) :
    JS Z X 50 [(0, .ref (Z.2.2.1 + 455)), (1, .int a1), (2, .int a2), (4, .int a4), (5, .int a5)] [] μ := by
  refine J_iconst (v := nI 0) E dX12_less_50 rfl ?_
  exact k
theorem bX12_less_51 {Z : ZT} {X : XT} {μ : Mu} {a1 : Int32} {a2 : Int32} {a4 : Int32} {a5 : Int32} {s0 : Int32} (E : Ent Z X mX12_less 0 0)  
    (kt : 0 ≤ a5 → JS Z X 76 [(0, .ref (Z.2.2.1 + 455)), (1, .int a1), (2, .int a2), (3, .int s0), (4, .int a4), (5, .int a5)] [.int (((nI 27) * a1) + a4), .ref (Z.2.2.1 + 465)] μ) (kf : ¬ (0 ≤ a5) → JS Z X 68 [(0, .ref (Z.2.2.1 + 455)), (1, .int a1), (2, .int a2), (3, .int s0), (4, .int a4), (5, .int a5)] [.int (((nI 27) * a1) + a4), .ref (Z.2.2.1 + 465)] μ) :
    JS Z X 51 [(0, .ref (Z.2.2.1 + 455)), (1, .int a1), (2, .int a2), (4, .int a4), (5, .int a5)] [.int s0] μ := by
  refine J_istore_n (lv' := [(0, .ref (Z.2.2.1 + 455)), (1, .int a1), (2, .int a2), (3, .int s0), (4, .int a4), (5, .int a5)]) E dX12_less_51 (Nat.le_of_ble_eq_true rfl) rfl ?_
  refine J_aload_n E dX12_less_52 rfl ?_
  refine S_get (ci := 12) (q := 18) (v := .ref (Z.2.2.1 + 465)) E dX12_less_53 fs_X12_39 sh455 rfl ?_
  refine J_bipush (v := nI 27) E dX12_less_56 rfl ?_
  refine J_iload_n E dX12_less_58 rfl ?_
  refine J_imul E dX12_less_59 ?_
  refine J_iload E dX12_less_60 rfl ?_
  refine J_iadd E dX12_less_62 ?_
  refine J_iload E dX12_less_63 rfl ?_
  refine J_if_ge (tgt := 76) E dX12_less_65 (by decide) (fun c => ?_) (fun c => ?_)
  · exact kt c
  · exact kf c
theorem bX12_less_68 {Z : ZT} {X : XT} {μ : Mu} {a1 : Int32} {a2 : Int32} {a3 : Int32} {a4 : Int32} {a5 : Int32} {s0 : Nat} {s1 : Int32} (E : Ent Z X mX12_less 0 0) (hs0 : SH s0 = .inr (0, 7587)) 
    (k : JS Z X 78 [(0, .ref (Z.2.2.1 + 455)), (1, .int a1), (2, .int a2), (3, .int a3), (4, .int a4)] [.int (a5 + (nI 1073741824)), .int s1, .ref (Z.2.2.1 + s0)] μ) :
    JS Z X 68 [(0, .ref (Z.2.2.1 + 455)), (1, .int a1), (2, .int a2), (3, .int a3), (4, .int a4), (5, .int a5)] [.int s1, .ref (Z.2.2.1 + s0)] μ := by
  refine J_iload E dX12_less_68 rfl ?_
  refine J_ldc (v := nI 1073741824) E dX12_less_70 w7_83 ?_
  refine J_iadd E dX12_less_72 ?_
  refine J_goto (tgt := 78) E dX12_less_73 (by decide) ?_
  refine J.weak [0, 1, 2, 3, 4] rfl ?_
  exact k
theorem bX12_less_76 {Z : ZT} {X : XT} {μ : Mu} {a1 : Int32} {a2 : Int32} {a3 : Int32} {a4 : Int32} {a5 : Int32} {s0 : Nat} {s1 : Int32} (E : Ent Z X mX12_less 0 0) (hs0 : SH s0 = .inr (0, 7587)) 
    (k : JS Z X 78 [(0, .ref (Z.2.2.1 + 455)), (1, .int a1), (2, .int a2), (3, .int a3), (4, .int a4)] [.int a5, .int s1, .ref (Z.2.2.1 + s0)] μ) :
    JS Z X 76 [(0, .ref (Z.2.2.1 + 455)), (1, .int a1), (2, .int a2), (3, .int a3), (4, .int a4), (5, .int a5)] [.int s1, .ref (Z.2.2.1 + s0)] μ := by
  refine J_iload E dX12_less_76 rfl ?_
  refine J.weak [0, 1, 2, 3, 4] rfl ?_
  exact k
theorem bX12_less_78 {Z : ZT} {X : XT} {μ : Mu} {a1 : Int32} {a2 : Int32} {a3 : Int32} {a4 : Int32} {s0 : Nat} {s1 : Int32} {s2 : Int32} (E : Ent Z X mX12_less 0 0) (hs0 : SH s0 = .inr (0, 7587)) (s1_ : vp_in s1 7587)
    (k : JS Z X 79 [(0, .ref (Z.2.2.1 + 455)), (1, .int a1), (2, .int a2), (3, .int a3), (4, .int a4)] [] (uR μ s0 (upd (μ s0) (ix s1) s2))) :
    JS Z X 78 [(0, .ref (Z.2.2.1 + 455)), (1, .int a1), (2, .int a2), (3, .int a3), (4, .int a4)] [.int s2, .int s1, .ref (Z.2.2.1 + s0)] μ := by
  refine S_iast E dX12_less_78 hs0 s1_ ?_
  exact k
theorem bX12_less_79 {Z : ZT} {X : XT} {μ : Mu} {a1 : Int32} {a2 : Int32} {a3 : Int32} {a4 : Int32} (E : Ent Z X mX12_less 0 0)  
    (k : JS Z X 5 [(0, .ref (Z.2.2.1 + 455)), (1, .int a1), (2, .int a2), (3, .int a3), (4, .int (a4 + nI 1))] [] μ) :
    JS Z X 79 [(0, .ref (Z.2.2.1 + 455)), (1, .int a1), (2, .int a2), (3, .int a3), (4, .int a4)] [] μ := by
  refine J_iinc (v := a4 + nI 1) (lv' := [(0, .ref (Z.2.2.1 + 455)), (1, .int a1), (2, .int a2), (3, .int a3), (4, .int (a4 + nI 1))]) E dX12_less_79 rfl rfl (Nat.le_of_ble_eq_true rfl) rfl ?_
  refine J_goto (tgt := 5) E dX12_less_82 (by decide) ?_
  exact k
theorem bX12_less_85 {Z : ZT} {X : XT} {μ : Mu} (E : Ent Z X mX12_less 0 0) {P : Option Value → Mu → Prop} (hB : BodS Z X P) 
    (k : P none μ) :
    JS Z X 85 [] [] μ := by
  exact S_vret E hB dX12_less_85 rfl k
theorem dX12_compare_0 : decode cX12_compare 0 = .ok (.bipush 26, 2) := by decide +kernel
theorem dX12_compare_2 : decode cX12_compare 2 = .ok (.istore_n 3, 1) := by decide +kernel
theorem dX12_compare_3 : decode cX12_compare 3 = .ok (.iload_n 3, 1) := by decide +kernel
theorem dX12_compare_4 : decode cX12_compare 4 = .ok (.ifCond .lt 55, 3) := by decide +kernel
theorem dX12_compare_7 : decode cX12_compare 7 = .ok (.aload_n 0, 1) := by decide +kernel
theorem dX12_compare_8 : decode cX12_compare 8 = .ok (.getfield 39, 3) := by decide +kernel
theorem dX12_compare_11 : decode cX12_compare 11 = .ok (.bipush 27, 2) := by decide +kernel
theorem dX12_compare_13 : decode cX12_compare 13 = .ok (.iload_n 1, 1) := by decide +kernel
theorem dX12_compare_14 : decode cX12_compare 14 = .ok (.imul, 1) := by decide +kernel
theorem dX12_compare_15 : decode cX12_compare 15 = .ok (.iload_n 3, 1) := by decide +kernel
theorem dX12_compare_16 : decode cX12_compare 16 = .ok (.iadd, 1) := by decide +kernel
theorem dX12_compare_17 : decode cX12_compare 17 = .ok (.iaload, 1) := by decide +kernel
theorem dX12_compare_18 : decode cX12_compare 18 = .ok (.istore 4, 2) := by decide +kernel
theorem dX12_compare_20 : decode cX12_compare 20 = .ok (.aload_n 0, 1) := by decide +kernel
theorem dX12_compare_21 : decode cX12_compare 21 = .ok (.getfield 39, 3) := by decide +kernel
theorem dX12_compare_24 : decode cX12_compare 24 = .ok (.bipush 27, 2) := by decide +kernel
theorem dX12_compare_26 : decode cX12_compare 26 = .ok (.iload_n 2, 1) := by decide +kernel
theorem dX12_compare_27 : decode cX12_compare 27 = .ok (.imul, 1) := by decide +kernel
theorem dX12_compare_28 : decode cX12_compare 28 = .ok (.iload_n 3, 1) := by decide +kernel
theorem dX12_compare_29 : decode cX12_compare 29 = .ok (.iadd, 1) := by decide +kernel
theorem dX12_compare_30 : decode cX12_compare 30 = .ok (.iaload, 1) := by decide +kernel
theorem dX12_compare_31 : decode cX12_compare 31 = .ok (.istore 5, 2) := by decide +kernel
theorem dX12_compare_33 : decode cX12_compare 33 = .ok (.iload 4, 2) := by decide +kernel
theorem dX12_compare_35 : decode cX12_compare 35 = .ok (.iload 5, 2) := by decide +kernel
theorem dX12_compare_37 : decode cX12_compare 37 = .ok (.if_icmp .eq 16, 3) := by decide +kernel
theorem dX12_compare_40 : decode cX12_compare 40 = .ok (.iload 4, 2) := by decide +kernel
theorem dX12_compare_42 : decode cX12_compare 42 = .ok (.iload 5, 2) := by decide +kernel
theorem dX12_compare_44 : decode cX12_compare 44 = .ok (.if_icmp .ge 7, 3) := by decide +kernel
theorem dX12_compare_47 : decode cX12_compare 47 = .ok (.iconst (-1), 1) := by decide +kernel
theorem dX12_compare_48 : decode cX12_compare 48 = .ok (.goto 4, 3) := by decide +kernel
theorem dX12_compare_51 : decode cX12_compare 51 = .ok (.iconst 1, 1) := by decide +kernel
theorem dX12_compare_52 : decode cX12_compare 52 = .ok (.ireturn, 1) := by decide +kernel
theorem dX12_compare_53 : decode cX12_compare 53 = .ok (.iinc 3 (-1), 3) := by decide +kernel
theorem dX12_compare_56 : decode cX12_compare 56 = .ok (.goto (-53), 3) := by decide +kernel
theorem dX12_compare_59 : decode cX12_compare 59 = .ok (.iconst 0, 1) := by decide +kernel
theorem dX12_compare_60 : decode cX12_compare 60 = .ok (.ireturn, 1) := by decide +kernel
theorem bX12_compare_0 {Z : ZT} {X : XT} {μ : Mu} {a1 : Int32} {a2 : Int32} (E : Ent Z X mX12_compare 0 0)  
    (k : JS Z X 3 [(0, .ref (Z.2.2.1 + 455)), (1, .int a1), (2, .int a2), (3, .int (nI 26))] [] μ) :
    JS Z X 0 [(0, .ref (Z.2.2.1 + 455)), (1, .int a1), (2, .int a2)] [] μ := by
  refine J_bipush (v := nI 26) E dX12_compare_0 rfl ?_
  refine J_istore_n (lv' := [(0, .ref (Z.2.2.1 + 455)), (1, .int a1), (2, .int a2), (3, .int (nI 26))]) E dX12_compare_2 (Nat.le_of_ble_eq_true rfl) rfl ?_
  exact k
theorem bX12_compare_3 {Z : ZT} {X : XT} {μ : Mu} {a1 : Int32} {a2 : Int32} {a3 : Int32} (E : Ent Z X mX12_compare 0 0)  
    (kt : a3 < 0 → JS Z X 59 [] [] μ) (kf : ¬ (a3 < 0) → JS Z X 7 [(0, .ref (Z.2.2.1 + 455)), (1, .int a1), (2, .int a2), (3, .int a3)] [] μ) :
    JS Z X 3 [(0, .ref (Z.2.2.1 + 455)), (1, .int a1), (2, .int a2), (3, .int a3)] [] μ := by
  refine J_iload_n E dX12_compare_3 rfl ?_
  refine J_if_lt (tgt := 59) E dX12_compare_4 (by decide) (fun c => ?_) (fun c => ?_)
  · refine J.weak [] rfl ?_
    exact kt c
  · exact kf c
theorem bX12_compare_7 {Z : ZT} {X : XT} {μ : Mu} {a1 : Int32} {a2 : Int32} {a3 : Int32} (E : Ent Z X mX12_compare 0 0)  (s1_ : vp_in (((nI 27) * a1) + a3) 7587) (s2_ : vp_in (((nI 27) * a2) + a3) 7587)
    (kt : (μ 465 (ix (((nI 27) * a1) + a3))) = (μ 465 (ix (((nI 27) * a2) + a3))) → JS Z X 53 [(0, .ref (Z.2.2.1 + 455)), (1, .int a1), (2, .int a2), (3, .int a3)] [] μ) (kf : ¬ ((μ 465 (ix (((nI 27) * a1) + a3))) = (μ 465 (ix (((nI 27) * a2) + a3)))) → JS Z X 40 [(4, .int (μ 465 (ix (((nI 27) * a1) + a3)))), (5, .int (μ 465 (ix (((nI 27) * a2) + a3))))] [] μ) :
    JS Z X 7 [(0, .ref (Z.2.2.1 + 455)), (1, .int a1), (2, .int a2), (3, .int a3)] [] μ := by
  refine J_aload_n E dX12_compare_7 rfl ?_
  refine S_get (ci := 12) (q := 18) (v := .ref (Z.2.2.1 + 465)) E dX12_compare_8 fs_X12_39 sh455 rfl ?_
  refine J_bipush (v := nI 27) E dX12_compare_11 rfl ?_
  refine J_iload_n E dX12_compare_13 rfl ?_
  refine J_imul E dX12_compare_14 ?_
  refine J_iload_n E dX12_compare_15 rfl ?_
  refine J_iadd E dX12_compare_16 ?_
  refine S_iald E dX12_compare_17 sh465 s1_ ?_
  refine J_istore (lv' := [(0, .ref (Z.2.2.1 + 455)), (1, .int a1), (2, .int a2), (3, .int a3), (4, .int (μ 465 (ix (((nI 27) * a1) + a3))))]) E dX12_compare_18 (Nat.le_of_ble_eq_true rfl) rfl ?_
  refine J_aload_n E dX12_compare_20 rfl ?_
  refine S_get (ci := 12) (q := 18) (v := .ref (Z.2.2.1 + 465)) E dX12_compare_21 fs_X12_39 sh455 rfl ?_
  refine J_bipush (v := nI 27) E dX12_compare_24 rfl ?_
  refine J_iload_n E dX12_compare_26 rfl ?_
  refine J_imul E dX12_compare_27 ?_
  refine J_iload_n E dX12_compare_28 rfl ?_
  refine J_iadd E dX12_compare_29 ?_
  refine S_iald E dX12_compare_30 sh465 s2_ ?_
  refine J_istore (lv' := [(0, .ref (Z.2.2.1 + 455)), (1, .int a1), (2, .int a2), (3, .int a3), (4, .int (μ 465 (ix (((nI 27) * a1) + a3)))), (5, .int (μ 465 (ix (((nI 27) * a2) + a3))))]) E dX12_compare_31 (Nat.le_of_ble_eq_true rfl) rfl ?_
  refine J_iload E dX12_compare_33 rfl ?_
  refine J_iload E dX12_compare_35 rfl ?_
  refine J_icmp_eq (tgt := 53) E dX12_compare_37 (by decide) (fun c => ?_) (fun c => ?_)
  · refine J.weak [0, 1, 2, 3] rfl ?_
    exact kt c
  · refine J.weak [4, 5] rfl ?_
    exact kf c
theorem bX12_compare_40 {Z : ZT} {X : XT} {μ : Mu} {a4 : Int32} {a5 : Int32} (E : Ent Z X mX12_compare 0 0)  
    (kt : a5 ≤ a4 → JS Z X 51 [] [] μ) (kf : ¬ (a5 ≤ a4) → JS Z X 47 [] [] μ) :
    JS Z X 40 [(4, .int a4), (5, .int a5)] [] μ := by
  refine J_iload E dX12_compare_40 rfl ?_
  refine J_iload E dX12_compare_42 rfl ?_
  refine J_icmp_ge (tgt := 51) E dX12_compare_44 (by decide) (fun c => ?_) (fun c => ?_)
  · refine J.weak [] rfl ?_
    exact kt c
  · refine J.weak [] rfl ?_
    exact kf c
theorem bX12_compare_47 {Z : ZT} {X : XT} {μ : Mu} (E : Ent Z X mX12_compare 0 0)  
    (k : JS Z X 52 [] [.int (-1)] μ) :
    JS Z X 47 [] [] μ := by
  refine J_iconst (v := -1) E dX12_compare_47 rfl ?_
  refine J_goto (tgt := 52) E dX12_compare_48 (by decide) ?_
  exact k
theorem bX12_compare_51 {Z : ZT} {X : XT} {μ : Mu} (E : Ent Z X mX12_compare 0 0)  
    (k : JS Z X 52 [] [.int (nI 1)] μ) :
    JS Z X 51 [] [] μ := by
  refine J_iconst (v := nI 1) E dX12_compare_51 rfl ?_
  exact k
theorem bX12_compare_52 {Z : ZT} {X : XT} {μ : Mu} {s0 : Int32} (E : Ent Z X mX12_compare 0 0) {P : Option Value → Mu → Prop} (hB : BodS Z X P) 
    (k : P (some (.int s0)) μ) :
    JS Z X 52 [] [.int s0] μ := by
  exact S_iret E hB dX12_compare_52 rfl k
theorem bX12_compare_53 {Z : ZT} {X : XT} {μ : Mu} {a1 : Int32} {a2 : Int32} {a3 : Int32} (E : Ent Z X mX12_compare 0 0)  
    (k : JS Z X 3 [(0, .ref (Z.2.2.1 + 455)), (1, .int a1), (2, .int a2), (3, .int (a3 + (-1)))] [] μ) :
    JS Z X 53 [(0, .ref (Z.2.2.1 + 455)), (1, .int a1), (2, .int a2), (3, .int a3)] [] μ := by
  refine J_iinc (v := a3 + (-1)) (lv' := [(0, .ref (Z.2.2.1 + 455)), (1, .int a1), (2, .int a2), (3, .int (a3 + (-1)))]) E dX12_compare_53 rfl rfl (Nat.le_of_ble_eq_true rfl) rfl ?_
  refine J_goto (tgt := 3) E dX12_compare_56 (by decide) ?_
  exact k
theorem bX12_compare_59 {Z : ZT} {X : XT} {μ : Mu} (E : Ent Z X mX12_compare 0 0) {P : Option Value → Mu → Prop} (hB : BodS Z X P) 
    (k : P (some (.int (nI 0))) μ) :
    JS Z X 59 [] [] μ := by
  refine J_iconst (v := nI 0) E dX12_compare_59 rfl ?_
  exact S_iret E hB dX12_compare_60 rfl k
theorem dX12_divide_0 : decode cX12_divide 0 = .ok (.lconst 0, 1) := by decide +kernel
theorem dX12_divide_1 : decode cX12_divide 1 = .ok (.lstore_n 3, 1) := by decide +kernel
theorem dX12_divide_2 : decode cX12_divide 2 = .ok (.bipush 26, 2) := by decide +kernel
theorem dX12_divide_4 : decode cX12_divide 4 = .ok (.istore 5, 2) := by decide +kernel
theorem dX12_divide_6 : decode cX12_divide 6 = .ok (.iload 5, 2) := by decide +kernel
theorem dX12_divide_8 : decode cX12_divide 8 = .ok (.ifCond .lt 54, 3) := by decide +kernel
theorem dX12_divide_11 : decode cX12_divide 11 = .ok (.lload_n 3, 1) := by decide +kernel
theorem dX12_divide_12 : decode cX12_divide 12 = .ok (.ldc2_w 191, 3) := by decide +kernel
theorem dX12_divide_15 : decode cX12_divide 15 = .ok (.lmul, 1) := by decide +kernel
theorem dX12_divide_16 : decode cX12_divide 16 = .ok (.aload_n 0, 1) := by decide +kernel
theorem dX12_divide_17 : decode cX12_divide 17 = .ok (.getfield 39, 3) := by decide +kernel
theorem dX12_divide_20 : decode cX12_divide 20 = .ok (.bipush 27, 2) := by decide +kernel
theorem dX12_divide_22 : decode cX12_divide 22 = .ok (.iload_n 1, 1) := by decide +kernel
theorem dX12_divide_23 : decode cX12_divide 23 = .ok (.imul, 1) := by decide +kernel
theorem dX12_divide_24 : decode cX12_divide 24 = .ok (.iload 5, 2) := by decide +kernel
theorem dX12_divide_26 : decode cX12_divide 26 = .ok (.iadd, 1) := by decide +kernel
theorem dX12_divide_27 : decode cX12_divide 27 = .ok (.iaload, 1) := by decide +kernel
theorem dX12_divide_28 : decode cX12_divide 28 = .ok (.i2l, 1) := by decide +kernel
theorem dX12_divide_29 : decode cX12_divide 29 = .ok (.ladd, 1) := by decide +kernel
theorem dX12_divide_30 : decode cX12_divide 30 = .ok (.lstore 6, 2) := by decide +kernel
theorem dX12_divide_32 : decode cX12_divide 32 = .ok (.aload_n 0, 1) := by decide +kernel
theorem dX12_divide_33 : decode cX12_divide 33 = .ok (.getfield 39, 3) := by decide +kernel
theorem dX12_divide_36 : decode cX12_divide 36 = .ok (.bipush 27, 2) := by decide +kernel
theorem dX12_divide_38 : decode cX12_divide 38 = .ok (.iload_n 1, 1) := by decide +kernel
theorem dX12_divide_39 : decode cX12_divide 39 = .ok (.imul, 1) := by decide +kernel
theorem dX12_divide_40 : decode cX12_divide 40 = .ok (.iload 5, 2) := by decide +kernel
theorem dX12_divide_42 : decode cX12_divide 42 = .ok (.iadd, 1) := by decide +kernel
theorem dX12_divide_43 : decode cX12_divide 43 = .ok (.lload 6, 2) := by decide +kernel
theorem dX12_divide_45 : decode cX12_divide 45 = .ok (.iload_n 2, 1) := by decide +kernel
theorem dX12_divide_46 : decode cX12_divide 46 = .ok (.i2l, 1) := by decide +kernel
theorem dX12_divide_47 : decode cX12_divide 47 = .ok (.ldiv, 1) := by decide +kernel
theorem dX12_divide_48 : decode cX12_divide 48 = .ok (.l2i, 1) := by decide +kernel
theorem dX12_divide_49 : decode cX12_divide 49 = .ok (.iastore, 1) := by decide +kernel
theorem dX12_divide_50 : decode cX12_divide 50 = .ok (.lload 6, 2) := by decide +kernel
theorem dX12_divide_52 : decode cX12_divide 52 = .ok (.iload_n 2, 1) := by decide +kernel
theorem dX12_divide_53 : decode cX12_divide 53 = .ok (.i2l, 1) := by decide +kernel
theorem dX12_divide_54 : decode cX12_divide 54 = .ok (.lrem, 1) := by decide +kernel
theorem dX12_divide_55 : decode cX12_divide 55 = .ok (.lstore_n 3, 1) := by decide +kernel
theorem dX12_divide_56 : decode cX12_divide 56 = .ok (.iinc 5 (-1), 3) := by decide +kernel
theorem dX12_divide_59 : decode cX12_divide 59 = .ok (.goto (-53), 3) := by decide +kernel
theorem dX12_divide_62 : decode cX12_divide 62 = .ok (.lload_n 3, 1) := by decide +kernel
theorem dX12_divide_63 : decode cX12_divide 63 = .ok (.l2i, 1) := by decide +kernel
theorem dX12_divide_64 : decode cX12_divide 64 = .ok (.ireturn, 1) := by decide +kernel
theorem bX12_divide_0 {Z : ZT} {X : XT} {μ : Mu} {a1 : Int32} {a2 : Int32} (E : Ent Z X mX12_divide 0 0)  
    (k : JS Z X 6 [(0, .ref (Z.2.2.1 + 455)), (1, .int a1), (2, .int a2), (3, .long (lN 0)), (5, .int (nI 26))] [] μ) :
    JS Z X 0 [(0, .ref (Z.2.2.1 + 455)), (1, .int a1), (2, .int a2)] [] μ := by
  refine J_lconst (v := lN 0) E dX12_divide_0 rfl ?_
  refine J_lstore_n (lv' := [(0, .ref (Z.2.2.1 + 455)), (1, .int a1), (2, .int a2), (3, .long (lN 0))]) E dX12_divide_1 (Nat.le_of_ble_eq_true rfl) rfl ?_
  refine J_bipush (v := nI 26) E dX12_divide_2 rfl ?_
  refine J_istore (lv' := [(0, .ref (Z.2.2.1 + 455)), (1, .int a1), (2, .int a2), (3, .long (lN 0)), (5, .int (nI 26))]) E dX12_divide_4 (Nat.le_of_ble_eq_true rfl) rfl ?_
  exact k
theorem bX12_divide_6 {Z : ZT} {X : XT} {μ : Mu} {a1 : Int32} {a2 : Int32} {a3 : Int64} {a5 : Int32} (E : Ent Z X mX12_divide 0 0)  
    (kt : a5 < 0 → JS Z X 62 [(3, .long a3)] [] μ) (kf : ¬ (a5 < 0) → JS Z X 11 [(0, .ref (Z.2.2.1 + 455)), (1, .int a1), (2, .int a2), (3, .long a3), (5, .int a5)] [] μ) :
    JS Z X 6 [(0, .ref (Z.2.2.1 + 455)), (1, .int a1), (2, .int a2), (3, .long a3), (5, .int a5)] [] μ := by
  refine J_iload E dX12_divide_6 rfl ?_
  refine J_if_lt (tgt := 62) E dX12_divide_8 (by decide) (fun c => ?_) (fun c => ?_)
  · refine J.weak [3] rfl ?_
    exact kt c
  · exact kf c
theorem bX12_divide_11 {Z : ZT} {X : XT} {μ : Mu} {a1 : Int32} {a2 : Int32} {a3 : Int64} {a5 : Int32} (E : Ent Z X mX12_divide 0 0)  (s1_ : vp_in (((nI 27) * a1) + a5) 7587) (s2_ : ¬ a2.toInt64 = 0) (s3_ : vp_in (((nI 27) * a1) + a5) 7587)
    (k : JS Z X 50 [(0, .ref (Z.2.2.1 + 455)), (1, .int a1), (2, .int a2), (5, .int a5), (6, .long ((a3 * (lN 1073741824)) + ((μ 465 (ix (((nI 27) * a1) + a5))).toInt64)))] [] (uR μ 465 (upd (μ 465) (ix (((nI 27) * a1) + a5)) ((((a3 * (lN 1073741824)) + ((μ 465 (ix (((nI 27) * a1) + a5))).toInt64)) / a2.toInt64).toInt32)))) :
    JS Z X 11 [(0, .ref (Z.2.2.1 + 455)), (1, .int a1), (2, .int a2), (3, .long a3), (5, .int a5)] [] μ := by
  refine J_lload_n E dX12_divide_11 rfl ?_
  refine J_ldc2 (v := lN 1073741824) E dX12_divide_12 w7_14 ?_
  refine J_lmul E dX12_divide_15 ?_
  refine J_aload_n E dX12_divide_16 rfl ?_
  refine S_get (ci := 12) (q := 18) (v := .ref (Z.2.2.1 + 465)) E dX12_divide_17 fs_X12_39 sh455 rfl ?_
  refine J_bipush (v := nI 27) E dX12_divide_20 rfl ?_
  refine J_iload_n E dX12_divide_22 rfl ?_
  refine J_imul E dX12_divide_23 ?_
  refine J_iload E dX12_divide_24 rfl ?_
  refine J_iadd E dX12_divide_26 ?_
  refine S_iald E dX12_divide_27 sh465 s1_ ?_
  refine J_i2l E dX12_divide_28 ?_
  refine J_ladd E dX12_divide_29 ?_
  refine J_lstore (lv' := [(0, .ref (Z.2.2.1 + 455)), (1, .int a1), (2, .int a2), (3, .long a3), (5, .int a5), (6, .long ((a3 * (lN 1073741824)) + ((μ 465 (ix (((nI 27) * a1) + a5))).toInt64)))]) E dX12_divide_30 (Nat.le_of_ble_eq_true rfl) rfl ?_
  refine J_aload_n E dX12_divide_32 rfl ?_
  refine S_get (ci := 12) (q := 18) (v := .ref (Z.2.2.1 + 465)) E dX12_divide_33 fs_X12_39 sh455 rfl ?_
  refine J_bipush (v := nI 27) E dX12_divide_36 rfl ?_
  refine J_iload_n E dX12_divide_38 rfl ?_
  refine J_imul E dX12_divide_39 ?_
  refine J_iload E dX12_divide_40 rfl ?_
  refine J_iadd E dX12_divide_42 ?_
  refine J_lload E dX12_divide_43 rfl ?_
  refine J_iload_n E dX12_divide_45 rfl ?_
  refine J_i2l E dX12_divide_46 ?_
  refine J_ldiv E dX12_divide_47 s2_ ?_
  refine J_l2i E dX12_divide_48 ?_
  refine S_iast E dX12_divide_49 sh465 s3_ ?_
  refine J.weak [0, 1, 2, 4, 5] rfl ?_
  exact k
theorem bX12_divide_50 {Z : ZT} {X : XT} {μ : Mu} {a1 : Int32} {a2 : Int32} {a5 : Int32} {a6 : Int64} (E : Ent Z X mX12_divide 0 0)  (s1_ : ¬ a2.toInt64 = 0)
    (k : JS Z X 6 [(0, .ref (Z.2.2.1 + 455)), (1, .int a1), (2, .int a2), (3, .long (a6 - a6 / a2.toInt64 * a2.toInt64)), (5, .int (a5 + (-1)))] [] μ) :
    JS Z X 50 [(0, .ref (Z.2.2.1 + 455)), (1, .int a1), (2, .int a2), (5, .int a5), (6, .long a6)] [] μ := by
  refine J_lload E dX12_divide_50 rfl ?_
  refine J_iload_n E dX12_divide_52 rfl ?_
  refine J_i2l E dX12_divide_53 ?_
  refine J_lrem E dX12_divide_54 s1_ ?_
  refine J_lstore_n (lv' := [(0, .ref (Z.2.2.1 + 455)), (1, .int a1), (2, .int a2), (3, .long (a6 - a6 / a2.toInt64 * a2.toInt64)), (5, .int a5), (6, .long a6)]) E dX12_divide_55 (Nat.le_of_ble_eq_true rfl) rfl ?_
  refine J_iinc (v := a5 + (-1)) (lv' := [(0, .ref (Z.2.2.1 + 455)), (1, .int a1), (2, .int a2), (3, .long (a6 - a6 / a2.toInt64 * a2.toInt64)), (5, .int (a5 + (-1))), (6, .long a6)]) E dX12_divide_56 rfl rfl (Nat.le_of_ble_eq_true rfl) rfl ?_
  refine J_goto (tgt := 6) E dX12_divide_59 (by decide) ?_
  refine J.weak [0, 1, 2, 3, 4] rfl ?_
  exact k
theorem bX12_divide_62 {Z : ZT} {X : XT} {μ : Mu} {a3 : Int64} (E : Ent Z X mX12_divide 0 0) {P : Option Value → Mu → Prop} (hB : BodS Z X P) 
    (k : P (some (.int a3.toInt32)) μ) :
    JS Z X 62 [(3, .long a3)] [] μ := by
  refine J_lload_n E dX12_divide_62 rfl ?_
  refine J_l2i E dX12_divide_63 ?_
  exact S_iret E hB dX12_divide_64 rfl k
theorem dX12_isNought_0 : decode cX12_isNought 0 = .ok (.iconst 1, 1) := by decide +kernel
theorem dX12_isNought_1 : decode cX12_isNought 1 = .ok (.istore_n 2, 1) := by decide +kernel
theorem dX12_isNought_2 : decode cX12_isNought 2 = .ok (.iconst 0, 1) := by decide +kernel
theorem dX12_isNought_3 : decode cX12_isNought 3 = .ok (.istore_n 3, 1) := by decide +kernel
theorem dX12_isNought_4 : decode cX12_isNought 4 = .ok (.iload_n 3, 1) := by decide +kernel
theorem dX12_isNought_5 : decode cX12_isNought 5 = .ok (.bipush 27, 2) := by decide +kernel
theorem dX12_isNought_7 : decode cX12_isNought 7 = .ok (.if_icmp .ge 33, 3) := by decide +kernel
theorem dX12_isNought_10 : decode cX12_isNought 10 = .ok (.iload_n 2, 1) := by decide +kernel
theorem dX12_isNought_11 : decode cX12_isNought 11 = .ok (.ifCond .eq 21, 3) := by decide +kernel
theorem dX12_isNought_14 : decode cX12_isNought 14 = .ok (.aload_n 0, 1) := by decide +kernel
theorem dX12_isNought_15 : decode cX12_isNought 15 = .ok (.getfield 39, 3) := by decide +kernel
theorem dX12_isNought_18 : decode cX12_isNought 18 = .ok (.bipush 27, 2) := by decide +kernel
theorem dX12_isNought_20 : decode cX12_isNought 20 = .ok (.iload_n 1, 1) := by decide +kernel
theorem dX12_isNought_21 : decode cX12_isNought 21 = .ok (.imul, 1) := by decide +kernel
theorem dX12_isNought_22 : decode cX12_isNought 22 = .ok (.iload_n 3, 1) := by decide +kernel
theorem dX12_isNought_23 : decode cX12_isNought 23 = .ok (.iadd, 1) := by decide +kernel
theorem dX12_isNought_24 : decode cX12_isNought 24 = .ok (.iaload, 1) := by decide +kernel
theorem dX12_isNought_25 : decode cX12_isNought 25 = .ok (.ifCond .ne 7, 3) := by decide +kernel
theorem dX12_isNought_28 : decode cX12_isNought 28 = .ok (.iconst 1, 1) := by decide +kernel
theorem dX12_isNought_29 : decode cX12_isNought 29 = .ok (.goto 4, 3) := by decide +kernel
theorem dX12_isNought_32 : decode cX12_isNought 32 = .ok (.iconst 0, 1) := by decide +kernel
theorem dX12_isNought_33 : decode cX12_isNought 33 = .ok (.istore_n 2, 1) := by decide +kernel
theorem dX12_isNought_34 : decode cX12_isNought 34 = .ok (.iinc 3 1, 3) := by decide +kernel
theorem dX12_isNought_37 : decode cX12_isNought 37 = .ok (.goto (-33), 3) := by decide +kernel
theorem dX12_isNought_40 : decode cX12_isNought 40 = .ok (.iload_n 2, 1) := by decide +kernel
theorem dX12_isNought_41 : decode cX12_isNought 41 = .ok (.ireturn, 1) := by decide +kernel
theorem bX12_isNought_0 {Z : ZT} {X : XT} {μ : Mu} {a1 : Int32} (E : Ent Z X mX12_isNought 0 0)  
    (k : JS Z X 4 [(0, .ref (Z.2.2.1 + 455)), (1, .int a1), (2, .int (nI 1)), (3, .int (nI 0))] [] μ) :
    JS Z X 0 [(0, .ref (Z.2.2.1 + 455)), (1, .int a1)] [] μ := by
  refine J_iconst (v := nI 1) E dX12_isNought_0 rfl ?_
  refine J_istore_n (lv' := [(0, .ref (Z.2.2.1 + 455)), (1, .int a1), (2, .int (nI 1))]) E dX12_isNought_1 (Nat.le_of_ble_eq_true rfl) rfl ?_
  refine J_iconst (v := nI 0) E dX12_isNought_2 rfl ?_
  refine J_istore_n (lv' := [(0, .ref (Z.2.2.1 + 455)), (1, .int a1), (2, .int (nI 1)), (3, .int (nI 0))]) E dX12_isNought_3 (Nat.le_of_ble_eq_true rfl) rfl ?_
  exact k
theorem bX12_isNought_4 {Z : ZT} {X : XT} {μ : Mu} {a1 : Int32} {a2 : Int32} {a3 : Int32} (E : Ent Z X mX12_isNought 0 0)  
    (kt : (nI 27) ≤ a3 → JS Z X 40 [(2, .int a2)] [] μ) (kf : ¬ ((nI 27) ≤ a3) → JS Z X 10 [(0, .ref (Z.2.2.1 + 455)), (1, .int a1), (2, .int a2), (3, .int a3)] [] μ) :
    JS Z X 4 [(0, .ref (Z.2.2.1 + 455)), (1, .int a1), (2, .int a2), (3, .int a3)] [] μ := by
  refine J_iload_n E dX12_isNought_4 rfl ?_
  refine J_bipush (v := nI 27) E dX12_isNought_5 rfl ?_
  refine J_icmp_ge (tgt := 40) E dX12_isNought_7 (by decide) (fun c => ?_) (fun c => ?_)
  · refine J.weak [2] rfl ?_
    exact kt c
  · exact kf c
theorem bX12_isNought_10 {Z : ZT} {X : XT} {μ : Mu} {a1 : Int32} {a2 : Int32} {a3 : Int32} (E : Ent Z X mX12_isNought 0 0)  
    (kt : a2 = 0 → JS Z X 32 [(0, .ref (Z.2.2.1 + 455)), (1, .int a1), (3, .int a3)] [] μ) (kf : ¬ (a2 = 0) → JS Z X 14 [(0, .ref (Z.2.2.1 + 455)), (1, .int a1), (3, .int a3)] [] μ) :
    JS Z X 10 [(0, .ref (Z.2.2.1 + 455)), (1, .int a1), (2, .int a2), (3, .int a3)] [] μ := by
  refine J_iload_n E dX12_isNought_10 rfl ?_
  refine J_if_eq (tgt := 32) E dX12_isNought_11 (by decide) (fun c => ?_) (fun c => ?_)
  · refine J.weak [0, 1, 3] rfl ?_
    exact kt c
  · refine J.weak [0, 1, 3] rfl ?_
    exact kf c
theorem bX12_isNought_14 {Z : ZT} {X : XT} {μ : Mu} {a1 : Int32} {a3 : Int32} (E : Ent Z X mX12_isNought 0 0)  (s1_ : vp_in (((nI 27) * a1) + a3) 7587)
    (kt : ¬ (μ 465 (ix (((nI 27) * a1) + a3))) = 0 → JS Z X 32 [(0, .ref (Z.2.2.1 + 455)), (1, .int a1), (3, .int a3)] [] μ) (kf : (μ 465 (ix (((nI 27) * a1) + a3))) = 0 → JS Z X 28 [(0, .ref (Z.2.2.1 + 455)), (1, .int a1), (3, .int a3)] [] μ) :
    JS Z X 14 [(0, .ref (Z.2.2.1 + 455)), (1, .int a1), (3, .int a3)] [] μ := by
  refine J_aload_n E dX12_isNought_14 rfl ?_
  refine S_get (ci := 12) (q := 18) (v := .ref (Z.2.2.1 + 465)) E dX12_isNought_15 fs_X12_39 sh455 rfl ?_
  refine J_bipush (v := nI 27) E dX12_isNought_18 rfl ?_
  refine J_iload_n E dX12_isNought_20 rfl ?_
  refine J_imul E dX12_isNought_21 ?_
  refine J_iload_n E dX12_isNought_22 rfl ?_
  refine J_iadd E dX12_isNought_23 ?_
  refine S_iald E dX12_isNought_24 sh465 s1_ ?_
  refine J_if_ne (tgt := 32) E dX12_isNought_25 (by decide) (fun c => ?_) (fun c => ?_)
  · exact kt c
  · exact kf c
theorem bX12_isNought_28 {Z : ZT} {X : XT} {μ : Mu} {a1 : Int32} {a3 : Int32} (E : Ent Z X mX12_isNought 0 0)  
    (k : JS Z X 33 [(0, .ref (Z.2.2.1 + 455)), (1, .int a1), (3, .int a3)] [.int (nI 1)] μ) :
    JS Z X 28 [(0, .ref (Z.2.2.1 + 455)), (1, .int a1), (3, .int a3)] [] μ := by
  refine J_iconst (v := nI 1) E dX12_isNought_28 rfl ?_
  refine J_goto (tgt := 33) E dX12_isNought_29 (by decide) ?_
  exact k
theorem bX12_isNought_32 {Z : ZT} {X : XT} {μ : Mu} {a1 : Int32} {a3 : Int32} (E : Ent Z X mX12_isNought 0 0)  
    (k : JS Z X 33 [(0, .ref (Z.2.2.1 + 455)), (1, .int a1), (3, .int a3)] [.int (nI 0)] μ) :
    JS Z X 32 [(0, .ref (Z.2.2.1 + 455)), (1, .int a1), (3, .int a3)] [] μ := by
  refine J_iconst (v := nI 0) E dX12_isNought_32 rfl ?_
  exact k
theorem bX12_isNought_33 {Z : ZT} {X : XT} {μ : Mu} {a1 : Int32} {a3 : Int32} {s0 : Int32} (E : Ent Z X mX12_isNought 0 0)  
    (k : JS Z X 4 [(0, .ref (Z.2.2.1 + 455)), (1, .int a1), (2, .int s0), (3, .int (a3 + nI 1))] [] μ) :
    JS Z X 33 [(0, .ref (Z.2.2.1 + 455)), (1, .int a1), (3, .int a3)] [.int s0] μ := by
  refine J_istore_n (lv' := [(0, .ref (Z.2.2.1 + 455)), (1, .int a1), (2, .int s0), (3, .int a3)]) E dX12_isNought_33 (Nat.le_of_ble_eq_true rfl) rfl ?_
  refine J_iinc (v := a3 + nI 1) (lv' := [(0, .ref (Z.2.2.1 + 455)), (1, .int a1), (2, .int s0), (3, .int (a3 + nI 1))]) E dX12_isNought_34 rfl rfl (Nat.le_of_ble_eq_true rfl) rfl ?_
  refine J_goto (tgt := 4) E dX12_isNought_37 (by decide) ?_
  exact k
theorem bX12_isNought_40 {Z : ZT} {X : XT} {μ : Mu} {a2 : Int32} (E : Ent Z X mX12_isNought 0 0) {P : Option Value → Mu → Prop} (hB : BodS Z X P) (s1_ : narrow .boolean (.int a2) = .int a2)
    (k : P (some (.int a2)) μ) :
    JS Z X 40 [(2, .int a2)] [] μ := by
  refine J_iload_n E dX12_isNought_40 rfl ?_
  exact S_zret E hB dX12_isNought_41 rfl s1_ k
theorem dX12_limbsOf_0 : decode cX12_limbsOf 0 = .ok (.bipush 27, 2) := by decide +kernel
theorem dX12_limbsOf_2 : decode cX12_limbsOf 2 = .ok (.istore_n 2, 1) := by decide +kernel
theorem dX12_limbsOf_3 : decode cX12_limbsOf 3 = .ok (.iload_n 2, 1) := by decide +kernel
theorem dX12_limbsOf_4 : decode cX12_limbsOf 4 = .ok (.ifCond .le 25, 3) := by decide +kernel
theorem dX12_limbsOf_7 : decode cX12_limbsOf 7 = .ok (.aload_n 0, 1) := by decide +kernel
theorem dX12_limbsOf_8 : decode cX12_limbsOf 8 = .ok (.getfield 39, 3) := by decide +kernel
theorem dX12_limbsOf_11 : decode cX12_limbsOf 11 = .ok (.bipush 27, 2) := by decide +kernel
theorem dX12_limbsOf_13 : decode cX12_limbsOf 13 = .ok (.iload_n 1, 1) := by decide +kernel
theorem dX12_limbsOf_14 : decode cX12_limbsOf 14 = .ok (.imul, 1) := by decide +kernel
theorem dX12_limbsOf_15 : decode cX12_limbsOf 15 = .ok (.iload_n 2, 1) := by decide +kernel
theorem dX12_limbsOf_16 : decode cX12_limbsOf 16 = .ok (.iadd, 1) := by decide +kernel
theorem dX12_limbsOf_17 : decode cX12_limbsOf 17 = .ok (.iconst 1, 1) := by decide +kernel
theorem dX12_limbsOf_18 : decode cX12_limbsOf 18 = .ok (.isub, 1) := by decide +kernel
theorem dX12_limbsOf_19 : decode cX12_limbsOf 19 = .ok (.iaload, 1) := by decide +kernel
theorem dX12_limbsOf_20 : decode cX12_limbsOf 20 = .ok (.ifCond .ne 9, 3) := by decide +kernel
theorem dX12_limbsOf_23 : decode cX12_limbsOf 23 = .ok (.iinc 2 (-1), 3) := by decide +kernel
theorem dX12_limbsOf_26 : decode cX12_limbsOf 26 = .ok (.goto (-23), 3) := by decide +kernel
theorem dX12_limbsOf_29 : decode cX12_limbsOf 29 = .ok (.iload_n 2, 1) := by decide +kernel
theorem dX12_limbsOf_30 : decode cX12_limbsOf 30 = .ok (.ireturn, 1) := by decide +kernel
theorem bX12_limbsOf_0 {Z : ZT} {X : XT} {μ : Mu} {a1 : Int32} (E : Ent Z X mX12_limbsOf 0 0)  
    (k : JS Z X 3 [(0, .ref (Z.2.2.1 + 455)), (1, .int a1), (2, .int (nI 27))] [] μ) :
    JS Z X 0 [(0, .ref (Z.2.2.1 + 455)), (1, .int a1)] [] μ := by
  refine J_bipush (v := nI 27) E dX12_limbsOf_0 rfl ?_
  refine J_istore_n (lv' := [(0, .ref (Z.2.2.1 + 455)), (1, .int a1), (2, .int (nI 27))]) E dX12_limbsOf_2 (Nat.le_of_ble_eq_true rfl) rfl ?_
  exact k
theorem bX12_limbsOf_3 {Z : ZT} {X : XT} {μ : Mu} {a1 : Int32} {a2 : Int32} (E : Ent Z X mX12_limbsOf 0 0)  
    (kt : a2 ≤ 0 → JS Z X 29 [(2, .int a2)] [] μ) (kf : ¬ (a2 ≤ 0) → JS Z X 7 [(0, .ref (Z.2.2.1 + 455)), (1, .int a1), (2, .int a2)] [] μ) :
    JS Z X 3 [(0, .ref (Z.2.2.1 + 455)), (1, .int a1), (2, .int a2)] [] μ := by
  refine J_iload_n E dX12_limbsOf_3 rfl ?_
  refine J_if_le (tgt := 29) E dX12_limbsOf_4 (by decide) (fun c => ?_) (fun c => ?_)
  · refine J.weak [2] rfl ?_
    exact kt c
  · exact kf c
theorem bX12_limbsOf_7 {Z : ZT} {X : XT} {μ : Mu} {a1 : Int32} {a2 : Int32} (E : Ent Z X mX12_limbsOf 0 0)  (s1_ : vp_in ((((nI 27) * a1) + a2) - (nI 1)) 7587)
    (kt : ¬ (μ 465 (ix ((((nI 27) * a1) + a2) - (nI 1)))) = 0 → JS Z X 29 [(2, .int a2)] [] μ) (kf : (μ 465 (ix ((((nI 27) * a1) + a2) - (nI 1)))) = 0 → JS Z X 23 [(0, .ref (Z.2.2.1 + 455)), (1, .int a1), (2, .int a2)] [] μ) :
    JS Z X 7 [(0, .ref (Z.2.2.1 + 455)), (1, .int a1), (2, .int a2)] [] μ := by
  refine J_aload_n E dX12_limbsOf_7 rfl ?_
  refine S_get (ci := 12) (q := 18) (v := .ref (Z.2.2.1 + 465)) E dX12_limbsOf_8 fs_X12_39 sh455 rfl ?_
  refine J_bipush (v := nI 27) E dX12_limbsOf_11 rfl ?_
  refine J_iload_n E dX12_limbsOf_13 rfl ?_
  refine J_imul E dX12_limbsOf_14 ?_
  refine J_iload_n E dX12_limbsOf_15 rfl ?_
  refine J_iadd E dX12_limbsOf_16 ?_
  refine J_iconst (v := nI 1) E dX12_limbsOf_17 rfl ?_
  refine J_isub E dX12_limbsOf_18 ?_
  refine S_iald E dX12_limbsOf_19 sh465 s1_ ?_
  refine J_if_ne (tgt := 29) E dX12_limbsOf_20 (by decide) (fun c => ?_) (fun c => ?_)
  · refine J.weak [2] rfl ?_
    exact kt c
  · exact kf c
theorem bX12_limbsOf_23 {Z : ZT} {X : XT} {μ : Mu} {a1 : Int32} {a2 : Int32} (E : Ent Z X mX12_limbsOf 0 0)  
    (k : JS Z X 3 [(0, .ref (Z.2.2.1 + 455)), (1, .int a1), (2, .int (a2 + (-1)))] [] μ) :
    JS Z X 23 [(0, .ref (Z.2.2.1 + 455)), (1, .int a1), (2, .int a2)] [] μ := by
  refine J_iinc (v := a2 + (-1)) (lv' := [(0, .ref (Z.2.2.1 + 455)), (1, .int a1), (2, .int (a2 + (-1)))]) E dX12_limbsOf_23 rfl rfl (Nat.le_of_ble_eq_true rfl) rfl ?_
  refine J_goto (tgt := 3) E dX12_limbsOf_26 (by decide) ?_
  exact k
theorem bX12_limbsOf_29 {Z : ZT} {X : XT} {μ : Mu} {a2 : Int32} (E : Ent Z X mX12_limbsOf 0 0) {P : Option Value → Mu → Prop} (hB : BodS Z X P) 
    (k : P (some (.int a2)) μ) :
    JS Z X 29 [(2, .int a2)] [] μ := by
  refine J_iload_n E dX12_limbsOf_29 rfl ?_
  exact S_iret E hB dX12_limbsOf_30 rfl k
theorem dX12_takeOut_0 : decode cX12_takeOut 0 = .ok (.iconst 0, 1) := by decide +kernel
theorem dX12_takeOut_1 : decode cX12_takeOut 1 = .ok (.istore_n 3, 1) := by decide +kernel
theorem dX12_takeOut_2 : decode cX12_takeOut 2 = .ok (.iconst 1, 1) := by decide +kernel
theorem dX12_takeOut_3 : decode cX12_takeOut 3 = .ok (.istore 4, 2) := by decide +kernel
theorem dX12_takeOut_5 : decode cX12_takeOut 5 = .ok (.iload 4, 2) := by decide +kernel
theorem dX12_takeOut_7 : decode cX12_takeOut 7 = .ok (.ifCond .eq 50, 3) := by decide +kernel
theorem dX12_takeOut_10 : decode cX12_takeOut 10 = .ok (.iload_n 3, 1) := by decide +kernel
theorem dX12_takeOut_11 : decode cX12_takeOut 11 = .ok (.iload_n 2, 1) := by decide +kernel
theorem dX12_takeOut_12 : decode cX12_takeOut 12 = .ok (.if_icmp .ge 45, 3) := by decide +kernel
theorem dX12_takeOut_15 : decode cX12_takeOut 15 = .ok (.aload_n 0, 1) := by decide +kernel
theorem dX12_takeOut_16 : decode cX12_takeOut 16 = .ok (.iconst 0, 1) := by decide +kernel
theorem dX12_takeOut_17 : decode cX12_takeOut 17 = .ok (.bipush 6, 2) := by decide +kernel
theorem dX12_takeOut_19 : decode cX12_takeOut 19 = .ok (.invokevirtual 198, 3) := by decide +kernel
theorem dX12_takeOut_22 : decode cX12_takeOut 22 = .ok (.aload_n 0, 1) := by decide +kernel
theorem dX12_takeOut_23 : decode cX12_takeOut 23 = .ok (.bipush 6, 2) := by decide +kernel
theorem dX12_takeOut_25 : decode cX12_takeOut 25 = .ok (.iload_n 1, 1) := by decide +kernel
theorem dX12_takeOut_26 : decode cX12_takeOut 26 = .ok (.invokevirtual 201, 3) := by decide +kernel
theorem dX12_takeOut_29 : decode cX12_takeOut 29 = .ok (.ifCond .ne 7, 3) := by decide +kernel
theorem dX12_takeOut_32 : decode cX12_takeOut 32 = .ok (.iconst 1, 1) := by decide +kernel
theorem dX12_takeOut_33 : decode cX12_takeOut 33 = .ok (.goto 4, 3) := by decide +kernel
theorem dX12_takeOut_36 : decode cX12_takeOut 36 = .ok (.iconst 0, 1) := by decide +kernel
theorem dX12_takeOut_37 : decode cX12_takeOut 37 = .ok (.istore 4, 2) := by decide +kernel
theorem dX12_takeOut_39 : decode cX12_takeOut 39 = .ok (.iload 4, 2) := by decide +kernel
theorem dX12_takeOut_41 : decode cX12_takeOut 41 = .ok (.ifCond .eq (-36), 3) := by decide +kernel
theorem dX12_takeOut_44 : decode cX12_takeOut 44 = .ok (.aload_n 0, 1) := by decide +kernel
theorem dX12_takeOut_45 : decode cX12_takeOut 45 = .ok (.bipush 6, 2) := by decide +kernel
theorem dX12_takeOut_47 : decode cX12_takeOut 47 = .ok (.iconst 0, 1) := by decide +kernel
theorem dX12_takeOut_48 : decode cX12_takeOut 48 = .ok (.invokevirtual 198, 3) := by decide +kernel
theorem dX12_takeOut_51 : decode cX12_takeOut 51 = .ok (.iinc 3 1, 3) := by decide +kernel
theorem dX12_takeOut_54 : decode cX12_takeOut 54 = .ok (.goto (-49), 3) := by decide +kernel
theorem dX12_takeOut_57 : decode cX12_takeOut 57 = .ok (.iload_n 3, 1) := by decide +kernel
theorem dX12_takeOut_58 : decode cX12_takeOut 58 = .ok (.ireturn, 1) := by decide +kernel
theorem bX12_takeOut_0 {Z : ZT} {X : XT} {μ : Mu} {a1 : Int32} {a2 : Int32} (E : Ent Z X mX12_takeOut 0 0)  
    (k : JS Z X 5 [(0, .ref (Z.2.2.1 + 455)), (1, .int a1), (2, .int a2), (3, .int (nI 0)), (4, .int (nI 1))] [] μ) :
    JS Z X 0 [(0, .ref (Z.2.2.1 + 455)), (1, .int a1), (2, .int a2)] [] μ := by
  refine J_iconst (v := nI 0) E dX12_takeOut_0 rfl ?_
  refine J_istore_n (lv' := [(0, .ref (Z.2.2.1 + 455)), (1, .int a1), (2, .int a2), (3, .int (nI 0))]) E dX12_takeOut_1 (Nat.le_of_ble_eq_true rfl) rfl ?_
  refine J_iconst (v := nI 1) E dX12_takeOut_2 rfl ?_
  refine J_istore (lv' := [(0, .ref (Z.2.2.1 + 455)), (1, .int a1), (2, .int a2), (3, .int (nI 0)), (4, .int (nI 1))]) E dX12_takeOut_3 (Nat.le_of_ble_eq_true rfl) rfl ?_
  exact k
theorem bX12_takeOut_5 {Z : ZT} {X : XT} {μ : Mu} {a1 : Int32} {a2 : Int32} {a3 : Int32} {a4 : Int32} (E : Ent Z X mX12_takeOut 0 0)  
    (kt : a4 = 0 → JS Z X 57 [(3, .int a3)] [] μ) (kf : ¬ (a4 = 0) → JS Z X 10 [(0, .ref (Z.2.2.1 + 455)), (1, .int a1), (2, .int a2), (3, .int a3)] [] μ) :
    JS Z X 5 [(0, .ref (Z.2.2.1 + 455)), (1, .int a1), (2, .int a2), (3, .int a3), (4, .int a4)] [] μ := by
  refine J_iload E dX12_takeOut_5 rfl ?_
  refine J_if_eq (tgt := 57) E dX12_takeOut_7 (by decide) (fun c => ?_) (fun c => ?_)
  · refine J.weak [3] rfl ?_
    exact kt c
  · refine J.weak [0, 1, 2, 3] rfl ?_
    exact kf c
theorem bX12_takeOut_10 {Z : ZT} {X : XT} {μ : Mu} {a1 : Int32} {a2 : Int32} {a3 : Int32} (E : Ent Z X mX12_takeOut 0 0)  
    (kt : a2 ≤ a3 → JS Z X 57 [(3, .int a3)] [] μ) (kf : ¬ (a2 ≤ a3) → JS Z X 15 [(0, .ref (Z.2.2.1 + 455)), (1, .int a1), (2, .int a2), (3, .int a3)] [] μ) :
    JS Z X 10 [(0, .ref (Z.2.2.1 + 455)), (1, .int a1), (2, .int a2), (3, .int a3)] [] μ := by
  refine J_iload_n E dX12_takeOut_10 rfl ?_
  refine J_iload_n E dX12_takeOut_11 rfl ?_
  refine J_icmp_ge (tgt := 57) E dX12_takeOut_12 (by decide) (fun c => ?_) (fun c => ?_)
  · refine J.weak [3] rfl ?_
    exact kt c
  · exact kf c
theorem bX12_takeOut_15 {Z : ZT} {X : XT} {μ : Mu} {a1 : Int32} {a2 : Int32} {a3 : Int32} (E : Ent Z X mX12_takeOut 0 0) {p : Mu → Prop} 
    (c : CtrS Z mX12_copy [.ref (Z.2.2.1 + 455), .int (nI 0), .int (nI 6)] μ (rV p)) (k : ∀ μ1, p μ1 → JS Z X 22 [(0, .ref (Z.2.2.1 + 455)), (1, .int a1), (2, .int a2), (3, .int a3)] [] μ1) :
    JS Z X 15 [(0, .ref (Z.2.2.1 + 455)), (1, .int a1), (2, .int a2), (3, .int a3)] [] μ := by
  refine J_aload_n E dX12_takeOut_15 rfl ?_
  refine J_iconst (v := nI 0) E dX12_takeOut_16 rfl ?_
  refine J_bipush (v := nI 6) E dX12_takeOut_17 rfl ?_
  refine S_callV (As := [.int (nI 0), .int (nI 6)]) (rest := []) E dX12_takeOut_19 c kX12_copy ⟨Nat.le_of_ble_eq_true rfl, Nat.le_of_ble_eq_true rfl⟩ rfl (Nat.le_of_ble_eq_true rfl) sh455 rfl rfl w6_238 w7_0 wp_57 (fun r_ μ1 hp_ => ?_)
  obtain ⟨rfl, hp_⟩ := hp_
  exact k μ1 hp_
theorem bX12_takeOut_22 {Z : ZT} {X : XT} {μ : Mu} {a1 : Int32} {a2 : Int32} {a3 : Int32} (E : Ent Z X mX12_takeOut 0 0) {p : Int32 → Mu → Prop} 
    (c : CtrS Z mX12_divide [.ref (Z.2.2.1 + 455), .int (nI 6), .int a1] μ (rI p)) (k : ∀ v μ1, p v μ1 → JS Z X 29 [(0, .ref (Z.2.2.1 + 455)), (1, .int a1), (2, .int a2), (3, .int a3)] [.int v] μ1) :
    JS Z X 22 [(0, .ref (Z.2.2.1 + 455)), (1, .int a1), (2, .int a2), (3, .int a3)] [] μ := by
  refine J_aload_n E dX12_takeOut_22 rfl ?_
  refine J_bipush (v := nI 6) E dX12_takeOut_23 rfl ?_
  refine J_iload_n E dX12_takeOut_25 rfl ?_
  refine S_callV (As := [.int (nI 6), .int a1]) (rest := []) E dX12_takeOut_26 c kX12_divide ⟨Nat.le_of_ble_eq_true rfl, Nat.le_of_ble_eq_true rfl⟩ rfl (Nat.le_of_ble_eq_true rfl) sh455 rfl rfl w7_10 w7_12 wp_60 (fun r_ μ1 hp_ => ?_)
  obtain ⟨v, rfl, hp_⟩ := hp_
  exact k v μ1 hp_
theorem bX12_takeOut_29 {Z : ZT} {X : XT} {μ : Mu} {a1 : Int32} {a2 : Int32} {a3 : Int32} {s0 : Int32} (E : Ent Z X mX12_takeOut 0 0)  
    (kt : ¬ s0 = 0 → JS Z X 36 [(0, .ref (Z.2.2.1 + 455)), (1, .int a1), (2, .int a2), (3, .int a3)] [] μ) (kf : s0 = 0 → JS Z X 32 [(0, .ref (Z.2.2.1 + 455)), (1, .int a1), (2, .int a2), (3, .int a3)] [] μ) :
    JS Z X 29 [(0, .ref (Z.2.2.1 + 455)), (1, .int a1), (2, .int a2), (3, .int a3)] [.int s0] μ := by
  refine J_if_ne (tgt := 36) E dX12_takeOut_29 (by decide) (fun c => ?_) (fun c => ?_)
  · exact kt c
  · exact kf c
theorem bX12_takeOut_32 {Z : ZT} {X : XT} {μ : Mu} {a1 : Int32} {a2 : Int32} {a3 : Int32} (E : Ent Z X mX12_takeOut 0 0)  
    (k : JS Z X 37 [(0, .ref (Z.2.2.1 + 455)), (1, .int a1), (2, .int a2), (3, .int a3)] [.int (nI 1)] μ) :
    JS Z X 32 [(0, .ref (Z.2.2.1 + 455)), (1, .int a1), (2, .int a2), (3, .int a3)] [] μ := by
  refine J_iconst (v := nI 1) E dX12_takeOut_32 rfl ?_
  refine J_goto (tgt := 37) E dX12_takeOut_33 (by decide) ?_
  exact k
theorem bX12_takeOut_36 {Z : ZT} {X : XT} {μ : Mu} {a1 : Int32} {a2 : Int32} {a3 : Int32} (E : Ent Z X mX12_takeOut 0 0)  
    (k : JS Z X 37 [(0, .ref (Z.2.2.1 + 455)), (1, .int a1), (2, .int a2), (3, .int a3)] [.int (nI 0)] μ) :
    JS Z X 36 [(0, .ref (Z.2.2.1 + 455)), (1, .int a1), (2, .int a2), (3, .int a3)] [] μ := by
  refine J_iconst (v := nI 0) E dX12_takeOut_36 rfl ?_
  exact k
theorem bX12_takeOut_37 {Z : ZT} {X : XT} {μ : Mu} {a1 : Int32} {a2 : Int32} {a3 : Int32} {s0 : Int32} (E : Ent Z X mX12_takeOut 0 0)  
    (kt : s0 = 0 → JS Z X 5 [(0, .ref (Z.2.2.1 + 455)), (1, .int a1), (2, .int a2), (3, .int a3), (4, .int s0)] [] μ) (kf : ¬ (s0 = 0) → JS Z X 44 [(0, .ref (Z.2.2.1 + 455)), (1, .int a1), (2, .int a2), (3, .int a3), (4, .int s0)] [] μ) :
    JS Z X 37 [(0, .ref (Z.2.2.1 + 455)), (1, .int a1), (2, .int a2), (3, .int a3)] [.int s0] μ := by
  refine J_istore (lv' := [(0, .ref (Z.2.2.1 + 455)), (1, .int a1), (2, .int a2), (3, .int a3), (4, .int s0)]) E dX12_takeOut_37 (Nat.le_of_ble_eq_true rfl) rfl ?_
  refine J_iload E dX12_takeOut_39 rfl ?_
  refine J_if_eq (tgt := 5) E dX12_takeOut_41 (by decide) (fun c => ?_) (fun c => ?_)
  · exact kt c
  · exact kf c
theorem bX12_takeOut_44 {Z : ZT} {X : XT} {μ : Mu} {a1 : Int32} {a2 : Int32} {a3 : Int32} {a4 : Int32} (E : Ent Z X mX12_takeOut 0 0) {p : Mu → Prop} 
    (c : CtrS Z mX12_copy [.ref (Z.2.2.1 + 455), .int (nI 6), .int (nI 0)] μ (rV p)) (k : ∀ μ1, p μ1 → JS Z X 51 [(0, .ref (Z.2.2.1 + 455)), (1, .int a1), (2, .int a2), (3, .int a3), (4, .int a4)] [] μ1) :
    JS Z X 44 [(0, .ref (Z.2.2.1 + 455)), (1, .int a1), (2, .int a2), (3, .int a3), (4, .int a4)] [] μ := by
  refine J_aload_n E dX12_takeOut_44 rfl ?_
  refine J_bipush (v := nI 6) E dX12_takeOut_45 rfl ?_
  refine J_iconst (v := nI 0) E dX12_takeOut_47 rfl ?_
  refine S_callV (As := [.int (nI 6), .int (nI 0)]) (rest := []) E dX12_takeOut_48 c kX12_copy ⟨Nat.le_of_ble_eq_true rfl, Nat.le_of_ble_eq_true rfl⟩ rfl (Nat.le_of_ble_eq_true rfl) sh455 rfl rfl w6_238 w7_0 wp_57 (fun r_ μ1 hp_ => ?_)
  obtain ⟨rfl, hp_⟩ := hp_
  exact k μ1 hp_
theorem bX12_takeOut_51 {Z : ZT} {X : XT} {μ : Mu} {a1 : Int32} {a2 : Int32} {a3 : Int32} {a4 : Int32} (E : Ent Z X mX12_takeOut 0 0)  
    (k : JS Z X 5 [(0, .ref (Z.2.2.1 + 455)), (1, .int a1), (2, .int a2), (3, .int (a3 + nI 1)), (4, .int a4)] [] μ) :
    JS Z X 51 [(0, .ref (Z.2.2.1 + 455)), (1, .int a1), (2, .int a2), (3, .int a3), (4, .int a4)] [] μ := by
  refine J_iinc (v := a3 + nI 1) (lv' := [(0, .ref (Z.2.2.1 + 455)), (1, .int a1), (2, .int a2), (3, .int (a3 + nI 1)), (4, .int a4)]) E dX12_takeOut_51 rfl rfl (Nat.le_of_ble_eq_true rfl) rfl ?_
  refine J_goto (tgt := 5) E dX12_takeOut_54 (by decide) ?_
  exact k
theorem bX12_takeOut_57 {Z : ZT} {X : XT} {μ : Mu} {a3 : Int32} (E : Ent Z X mX12_takeOut 0 0) {P : Option Value → Mu → Prop} (hB : BodS Z X P) 
    (k : P (some (.int a3)) μ) :
    JS Z X 57 [(3, .int a3)] [] μ := by
  refine J_iload_n E dX12_takeOut_57 rfl ?_
  exact S_iret E hB dX12_takeOut_58 rfl k
theorem dX12_tell_0 : decode cX12_tell 0 = .ok (.aload_n 0, 1) := by decide +kernel
theorem dX12_tell_1 : decode cX12_tell 1 = .ok (.iload_n 1, 1) := by decide +kernel
theorem dX12_tell_2 : decode cX12_tell 2 = .ok (.iconst 0, 1) := by decide +kernel
theorem dX12_tell_3 : decode cX12_tell 3 = .ok (.invokevirtual 198, 3) := by decide +kernel
theorem dX12_tell_6 : decode cX12_tell 6 = .ok (.aload_n 0, 1) := by decide +kernel
theorem dX12_tell_7 : decode cX12_tell 7 = .ok (.iconst 1, 1) := by decide +kernel
theorem dX12_tell_8 : decode cX12_tell 8 = .ok (.iconst 1, 1) := by decide +kernel
theorem dX12_tell_9 : decode cX12_tell 9 = .ok (.invokevirtual 204, 3) := by decide +kernel
theorem dX12_tell_12 : decode cX12_tell 12 = .ok (.aload_n 0, 1) := by decide +kernel
theorem dX12_tell_13 : decode cX12_tell 13 = .ok (.aload_n 0, 1) := by decide +kernel
theorem dX12_tell_14 : decode cX12_tell 14 = .ok (.iconst 0, 1) := by decide +kernel
theorem dX12_tell_15 : decode cX12_tell 15 = .ok (.invokevirtual 207, 3) := by decide +kernel
theorem dX12_tell_18 : decode cX12_tell 18 = .ok (.ifCond .eq 7, 3) := by decide +kernel
theorem dX12_tell_21 : decode cX12_tell 21 = .ok (.iconst 0, 1) := by decide +kernel
theorem dX12_tell_22 : decode cX12_tell 22 = .ok (.goto 4, 3) := by decide +kernel
theorem dX12_tell_25 : decode cX12_tell 25 = .ok (.iconst 1, 1) := by decide +kernel
theorem dX12_tell_26 : decode cX12_tell 26 = .ok (.putfield 210, 3) := by decide +kernel
theorem dX12_tell_29 : decode cX12_tell 29 = .ok (.aload_n 0, 1) := by decide +kernel
theorem dX12_tell_30 : decode cX12_tell 30 = .ok (.getfield 210, 3) := by decide +kernel
theorem dX12_tell_33 : decode cX12_tell 33 = .ok (.ifCond .ne 4, 3) := by decide +kernel
theorem dX12_tell_36 : decode cX12_tell 36 = .ok (.return_, 1) := by decide +kernel
theorem dX12_tell_37 : decode cX12_tell 37 = .ok (.iload_n 2, 1) := by decide +kernel
theorem dX12_tell_38 : decode cX12_tell 38 = .ok (.aload_n 0, 1) := by decide +kernel
theorem dX12_tell_39 : decode cX12_tell 39 = .ok (.iconst 2, 1) := by decide +kernel
theorem dX12_tell_40 : decode cX12_tell 40 = .ok (.iload_n 2, 1) := by decide +kernel
theorem dX12_tell_41 : decode cX12_tell 41 = .ok (.invokevirtual 213, 3) := by decide +kernel
theorem dX12_tell_44 : decode cX12_tell 44 = .ok (.isub, 1) := by decide +kernel
theorem dX12_tell_45 : decode cX12_tell 45 = .ok (.istore_n 3, 1) := by decide +kernel
theorem dX12_tell_46 : decode cX12_tell 46 = .ok (.iload_n 2, 1) := by decide +kernel
theorem dX12_tell_47 : decode cX12_tell 47 = .ok (.aload_n 0, 1) := by decide +kernel
theorem dX12_tell_48 : decode cX12_tell 48 = .ok (.iconst 5, 1) := by decide +kernel
theorem dX12_tell_49 : decode cX12_tell 49 = .ok (.iload_n 2, 1) := by decide +kernel
theorem dX12_tell_50 : decode cX12_tell 50 = .ok (.invokevirtual 213, 3) := by decide +kernel
theorem dX12_tell_53 : decode cX12_tell 53 = .ok (.isub, 1) := by decide +kernel
theorem dX12_tell_54 : decode cX12_tell 54 = .ok (.istore 4, 2) := by decide +kernel
theorem dX12_tell_56 : decode cX12_tell 56 = .ok (.iconst 0, 1) := by decide +kernel
theorem dX12_tell_57 : decode cX12_tell 57 = .ok (.istore 5, 2) := by decide +kernel
theorem dX12_tell_59 : decode cX12_tell 59 = .ok (.iload 5, 2) := by decide +kernel
theorem dX12_tell_61 : decode cX12_tell 61 = .ok (.iload_n 3, 1) := by decide +kernel
theorem dX12_tell_62 : decode cX12_tell 62 = .ok (.if_icmp .ge 15, 3) := by decide +kernel
theorem dX12_tell_65 : decode cX12_tell 65 = .ok (.aload_n 0, 1) := by decide +kernel
theorem dX12_tell_66 : decode cX12_tell 66 = .ok (.iconst 1, 1) := by decide +kernel
theorem dX12_tell_67 : decode cX12_tell 67 = .ok (.iconst 2, 1) := by decide +kernel
theorem dX12_tell_68 : decode cX12_tell 68 = .ok (.invokevirtual 194, 3) := by decide +kernel
theorem dX12_tell_71 : decode cX12_tell 71 = .ok (.iinc 5 1, 3) := by decide +kernel
theorem dX12_tell_74 : decode cX12_tell 74 = .ok (.goto (-15), 3) := by decide +kernel
theorem dX12_tell_77 : decode cX12_tell 77 = .ok (.iconst 0, 1) := by decide +kernel
theorem dX12_tell_78 : decode cX12_tell 78 = .ok (.istore 5, 2) := by decide +kernel
theorem dX12_tell_80 : decode cX12_tell 80 = .ok (.iload 5, 2) := by decide +kernel
theorem dX12_tell_82 : decode cX12_tell 82 = .ok (.iload 4, 2) := by decide +kernel
theorem dX12_tell_84 : decode cX12_tell 84 = .ok (.if_icmp .ge 15, 3) := by decide +kernel
theorem dX12_tell_87 : decode cX12_tell 87 = .ok (.aload_n 0, 1) := by decide +kernel
theorem dX12_tell_88 : decode cX12_tell 88 = .ok (.iconst 1, 1) := by decide +kernel
theorem dX12_tell_89 : decode cX12_tell 89 = .ok (.iconst 5, 1) := by decide +kernel
theorem dX12_tell_90 : decode cX12_tell 90 = .ok (.invokevirtual 194, 3) := by decide +kernel
theorem dX12_tell_93 : decode cX12_tell 93 = .ok (.iinc 5 1, 3) := by decide +kernel
theorem dX12_tell_96 : decode cX12_tell 96 = .ok (.goto (-16), 3) := by decide +kernel
theorem dX12_tell_99 : decode cX12_tell 99 = .ok (.return_, 1) := by decide +kernel
theorem bX12_tell_0 {Z : ZT} {X : XT} {μ : Mu} {a1 : Int32} {a2 : Int32} (E : Ent Z X mX12_tell 0 0) {p : Mu → Prop} 
    (c : CtrS Z mX12_copy [.ref (Z.2.2.1 + 455), .int a1, .int (nI 0)] μ (rV p)) (k : ∀ μ1, p μ1 → JS Z X 6 [(0, .ref (Z.2.2.1 + 455)), (2, .int a2)] [] μ1) :
    JS Z X 0 [(0, .ref (Z.2.2.1 + 455)), (1, .int a1), (2, .int a2)] [] μ := by
  refine J_aload_n E dX12_tell_0 rfl ?_
  refine J_iload_n E dX12_tell_1 rfl ?_
  refine J_iconst (v := nI 0) E dX12_tell_2 rfl ?_
  refine S_callV (As := [.int a1, .int (nI 0)]) (rest := []) E dX12_tell_3 c kX12_copy ⟨Nat.le_of_ble_eq_true rfl, Nat.le_of_ble_eq_true rfl⟩ rfl (Nat.le_of_ble_eq_true rfl) sh455 rfl rfl w6_238 w7_0 wp_57 (fun r_ μ1 hp_ => ?_)
  obtain ⟨rfl, hp_⟩ := hp_
  refine J.weak [0, 2] rfl ?_
  exact k μ1 hp_
theorem bX12_tell_6 {Z : ZT} {X : XT} {μ : Mu} {a2 : Int32} (E : Ent Z X mX12_tell 0 0) {p : Mu → Prop} 
    (c : CtrS Z mX12_set [.ref (Z.2.2.1 + 455), .int (nI 1), .int (nI 1)] μ (rV p)) (k : ∀ μ1, p μ1 → JS Z X 12 [(0, .ref (Z.2.2.1 + 455)), (2, .int a2)] [] μ1) :
    JS Z X 6 [(0, .ref (Z.2.2.1 + 455)), (2, .int a2)] [] μ := by
  refine J_aload_n E dX12_tell_6 rfl ?_
  refine J_iconst (v := nI 1) E dX12_tell_7 rfl ?_
  refine J_iconst (v := nI 1) E dX12_tell_8 rfl ?_
  refine S_callV (As := [.int (nI 1), .int (nI 1)]) (rest := []) E dX12_tell_9 c kX12_set ⟨Nat.le_of_ble_eq_true rfl, Nat.le_of_ble_eq_true rfl⟩ rfl (Nat.le_of_ble_eq_true rfl) sh455 rfl rfl w6_230 w6_232 wp_55 (fun r_ μ1 hp_ => ?_)
  obtain ⟨rfl, hp_⟩ := hp_
  exact k μ1 hp_
theorem bX12_tell_12 {Z : ZT} {X : XT} {μ : Mu} {a2 : Int32} (E : Ent Z X mX12_tell 0 0) {p : Int32 → Mu → Prop} 
    (c : CtrS Z mX12_isNought [.ref (Z.2.2.1 + 455), .int (nI 0)] μ (rI p)) (k : ∀ v μ1, p v μ1 → JS Z X 18 [(0, .ref (Z.2.2.1 + 455)), (2, .int a2)] [.int v, .ref (Z.2.2.1 + 455)] μ1) :
    JS Z X 12 [(0, .ref (Z.2.2.1 + 455)), (2, .int a2)] [] μ := by
  refine J_aload_n E dX12_tell_12 rfl ?_
  refine J_aload_n E dX12_tell_13 rfl ?_
  refine J_iconst (v := nI 0) E dX12_tell_14 rfl ?_
  refine S_callV (As := [.int (nI 0)]) (rest := [.ref (Z.2.2.1 + 455)]) E dX12_tell_15 c kX12_isNought ⟨Nat.le_of_ble_eq_true rfl, Nat.le_of_ble_eq_true rfl⟩ rfl (Nat.le_of_ble_eq_true rfl) sh455 rfl rfl w7_2 w7_4 wp_58 (fun r_ μ1 hp_ => ?_)
  obtain ⟨v, rfl, hp_⟩ := hp_
  exact k v μ1 hp_
theorem bX12_tell_18 {Z : ZT} {X : XT} {μ : Mu} {a2 : Int32} {s1 : Int32} (E : Ent Z X mX12_tell 0 0)  
    (kt : s1 = 0 → JS Z X 25 [(0, .ref (Z.2.2.1 + 455)), (2, .int a2)] [.ref (Z.2.2.1 + 455)] μ) (kf : ¬ (s1 = 0) → JS Z X 21 [(0, .ref (Z.2.2.1 + 455)), (2, .int a2)] [.ref (Z.2.2.1 + 455)] μ) :
    JS Z X 18 [(0, .ref (Z.2.2.1 + 455)), (2, .int a2)] [.int s1, .ref (Z.2.2.1 + 455)] μ := by
  refine J_if_eq (tgt := 25) E dX12_tell_18 (by decide) (fun c => ?_) (fun c => ?_)
  · exact kt c
  · exact kf c
theorem bX12_tell_21 {Z : ZT} {X : XT} {μ : Mu} {a2 : Int32} (E : Ent Z X mX12_tell 0 0)  
    (k : JS Z X 26 [(0, .ref (Z.2.2.1 + 455)), (2, .int a2)] [.int (nI 0), .ref (Z.2.2.1 + 455)] μ) :
    JS Z X 21 [(0, .ref (Z.2.2.1 + 455)), (2, .int a2)] [.ref (Z.2.2.1 + 455)] μ := by
  refine J_iconst (v := nI 0) E dX12_tell_21 rfl ?_
  refine J_goto (tgt := 26) E dX12_tell_22 (by decide) ?_
  exact k
theorem bX12_tell_25 {Z : ZT} {X : XT} {μ : Mu} {a2 : Int32} (E : Ent Z X mX12_tell 0 0)  
    (k : JS Z X 26 [(0, .ref (Z.2.2.1 + 455)), (2, .int a2)] [.int (nI 1), .ref (Z.2.2.1 + 455)] μ) :
    JS Z X 25 [(0, .ref (Z.2.2.1 + 455)), (2, .int a2)] [.ref (Z.2.2.1 + 455)] μ := by
  refine J_iconst (v := nI 1) E dX12_tell_25 rfl ?_
  exact k
theorem bX12_tell_26 {Z : ZT} {X : XT} {μ : Mu} {a2 : Int32} {s1 : Int32} (E : Ent Z X mX12_tell 0 0)  
    (k : JS Z X 29 [(0, .ref (Z.2.2.1 + 455)), (2, .int a2)] [] (uR μ 455 (upd (μ 455) 19 s1))) :
    JS Z X 26 [(0, .ref (Z.2.2.1 + 455)), (2, .int a2)] [.int s1, .ref (Z.2.2.1 + 455)] μ := by
  refine S_puti E dX12_tell_26 fs_X12_210 fp_X12_19 sh455 rfl ?_
  exact k
theorem bX12_tell_29 {Z : ZT} {X : XT} {μ : Mu} {a2 : Int32} (E : Ent Z X mX12_tell 0 0)  
    (kt : ¬ (μ 455 19) = 0 → JS Z X 37 [(0, .ref (Z.2.2.1 + 455)), (2, .int a2)] [] μ) (kf : (μ 455 19) = 0 → JS Z X 36 [] [] μ) :
    JS Z X 29 [(0, .ref (Z.2.2.1 + 455)), (2, .int a2)] [] μ := by
  refine J_aload_n E dX12_tell_29 rfl ?_
  refine S_get (ci := 12) (q := 19) (v := .int (μ 455 19)) E dX12_tell_30 fs_X12_210 sh455 rfl ?_
  refine J_if_ne (tgt := 37) E dX12_tell_33 (by decide) (fun c => ?_) (fun c => ?_)
  · exact kt c
  · refine J.weak [] rfl ?_
    exact kf c
theorem bX12_tell_36 {Z : ZT} {X : XT} {μ : Mu} (E : Ent Z X mX12_tell 0 0) {P : Option Value → Mu → Prop} (hB : BodS Z X P) 
    (k : P none μ) :
    JS Z X 36 [] [] μ := by
  exact S_vret E hB dX12_tell_36 rfl k
theorem bX12_tell_37 {Z : ZT} {X : XT} {μ : Mu} {a2 : Int32} (E : Ent Z X mX12_tell 0 0) {p : Int32 → Mu → Prop} 
    (c : CtrS Z mX12_takeOut [.ref (Z.2.2.1 + 455), .int (nI 2), .int a2] μ (rI p)) (k : ∀ v μ1, p v μ1 → JS Z X 44 [(0, .ref (Z.2.2.1 + 455)), (2, .int a2)] [.int v, .int a2] μ1) :
    JS Z X 37 [(0, .ref (Z.2.2.1 + 455)), (2, .int a2)] [] μ := by
  refine J_iload_n E dX12_tell_37 rfl ?_
  refine J_aload_n E dX12_tell_38 rfl ?_
  refine J_iconst (v := nI 2) E dX12_tell_39 rfl ?_
  refine J_iload_n E dX12_tell_40 rfl ?_
  refine S_callV (As := [.int (nI 2), .int a2]) (rest := [.int a2]) E dX12_tell_41 c kX12_takeOut ⟨Nat.le_of_ble_eq_true rfl, Nat.le_of_ble_eq_true rfl⟩ rfl (Nat.le_of_ble_eq_true rfl) sh455 rfl rfl w7_6 w7_8 wp_59 (fun r_ μ1 hp_ => ?_)
  obtain ⟨v, rfl, hp_⟩ := hp_
  exact k v μ1 hp_
theorem bX12_tell_44 {Z : ZT} {X : XT} {μ : Mu} {a2 : Int32} {s0 : Int32} {s1 : Int32} (E : Ent Z X mX12_tell 0 0) {p : Int32 → Mu → Prop} 
    (c : CtrS Z mX12_takeOut [.ref (Z.2.2.1 + 455), .int (nI 5), .int a2] μ (rI p)) (k : ∀ v μ1, p v μ1 → JS Z X 53 [(0, .ref (Z.2.2.1 + 455)), (3, .int (s0 - s1))] [.int v, .int a2] μ1) :
    JS Z X 44 [(0, .ref (Z.2.2.1 + 455)), (2, .int a2)] [.int s1, .int s0] μ := by
  refine J_isub E dX12_tell_44 ?_
  refine J_istore_n (lv' := [(0, .ref (Z.2.2.1 + 455)), (2, .int a2), (3, .int (s0 - s1))]) E dX12_tell_45 (Nat.le_of_ble_eq_true rfl) rfl ?_
  refine J_iload_n E dX12_tell_46 rfl ?_
  refine J_aload_n E dX12_tell_47 rfl ?_
  refine J_iconst (v := nI 5) E dX12_tell_48 rfl ?_
  refine J_iload_n E dX12_tell_49 rfl ?_
  refine S_callV (As := [.int (nI 5), .int a2]) (rest := [.int a2]) E dX12_tell_50 c kX12_takeOut ⟨Nat.le_of_ble_eq_true rfl, Nat.le_of_ble_eq_true rfl⟩ rfl (Nat.le_of_ble_eq_true rfl) sh455 rfl rfl w7_6 w7_8 wp_59 (fun r_ μ1 hp_ => ?_)
  obtain ⟨v, rfl, hp_⟩ := hp_
  refine J.weak [0, 2] rfl ?_
  exact k v μ1 hp_
theorem bX12_tell_53 {Z : ZT} {X : XT} {μ : Mu} {a3 : Int32} {s0 : Int32} {s1 : Int32} (E : Ent Z X mX12_tell 0 0)  
    (k : JS Z X 59 [(0, .ref (Z.2.2.1 + 455)), (3, .int a3), (4, .int (s0 - s1)), (5, .int (nI 0))] [] μ) :
    JS Z X 53 [(0, .ref (Z.2.2.1 + 455)), (3, .int a3)] [.int s1, .int s0] μ := by
  refine J_isub E dX12_tell_53 ?_
  refine J_istore (lv' := [(0, .ref (Z.2.2.1 + 455)), (3, .int a3), (4, .int (s0 - s1))]) E dX12_tell_54 (Nat.le_of_ble_eq_true rfl) rfl ?_
  refine J_iconst (v := nI 0) E dX12_tell_56 rfl ?_
  refine J_istore (lv' := [(0, .ref (Z.2.2.1 + 455)), (3, .int a3), (4, .int (s0 - s1)), (5, .int (nI 0))]) E dX12_tell_57 (Nat.le_of_ble_eq_true rfl) rfl ?_
  exact k
theorem bX12_tell_59 {Z : ZT} {X : XT} {μ : Mu} {a3 : Int32} {a4 : Int32} {a5 : Int32} (E : Ent Z X mX12_tell 0 0)  
    (kt : a3 ≤ a5 → JS Z X 77 [(0, .ref (Z.2.2.1 + 455)), (4, .int a4)] [] μ) (kf : ¬ (a3 ≤ a5) → JS Z X 65 [(0, .ref (Z.2.2.1 + 455)), (3, .int a3), (4, .int a4), (5, .int a5)] [] μ) :
    JS Z X 59 [(0, .ref (Z.2.2.1 + 455)), (3, .int a3), (4, .int a4), (5, .int a5)] [] μ := by
  refine J_iload E dX12_tell_59 rfl ?_
  refine J_iload_n E dX12_tell_61 rfl ?_
  refine J_icmp_ge (tgt := 77) E dX12_tell_62 (by decide) (fun c => ?_) (fun c => ?_)
  · refine J.weak [0, 2] rfl ?_
    exact kt c
  · exact kf c
theorem bX12_tell_65 {Z : ZT} {X : XT} {μ : Mu} {a3 : Int32} {a4 : Int32} {a5 : Int32} (E : Ent Z X mX12_tell 0 0) {p : Mu → Prop} 
    (c : CtrS Z mX12_times [.ref (Z.2.2.1 + 455), .int (nI 1), .int (nI 2)] μ (rV p)) (k : ∀ μ1, p μ1 → JS Z X 71 [(0, .ref (Z.2.2.1 + 455)), (3, .int a3), (4, .int a4), (5, .int a5)] [] μ1) :
    JS Z X 65 [(0, .ref (Z.2.2.1 + 455)), (3, .int a3), (4, .int a4), (5, .int a5)] [] μ := by
  refine J_aload_n E dX12_tell_65 rfl ?_
  refine J_iconst (v := nI 1) E dX12_tell_66 rfl ?_
  refine J_iconst (v := nI 2) E dX12_tell_67 rfl ?_
  refine S_callV (As := [.int (nI 1), .int (nI 2)]) (rest := []) E dX12_tell_68 c kX12_times ⟨Nat.le_of_ble_eq_true rfl, Nat.le_of_ble_eq_true rfl⟩ rfl (Nat.le_of_ble_eq_true rfl) sh455 rfl rfl w7_15 w7_17 wp_61 (fun r_ μ1 hp_ => ?_)
  obtain ⟨rfl, hp_⟩ := hp_
  exact k μ1 hp_
theorem bX12_tell_71 {Z : ZT} {X : XT} {μ : Mu} {a3 : Int32} {a4 : Int32} {a5 : Int32} (E : Ent Z X mX12_tell 0 0)  
    (k : JS Z X 59 [(0, .ref (Z.2.2.1 + 455)), (3, .int a3), (4, .int a4), (5, .int (a5 + nI 1))] [] μ) :
    JS Z X 71 [(0, .ref (Z.2.2.1 + 455)), (3, .int a3), (4, .int a4), (5, .int a5)] [] μ := by
  refine J_iinc (v := a5 + nI 1) (lv' := [(0, .ref (Z.2.2.1 + 455)), (3, .int a3), (4, .int a4), (5, .int (a5 + nI 1))]) E dX12_tell_71 rfl rfl (Nat.le_of_ble_eq_true rfl) rfl ?_
  refine J_goto (tgt := 59) E dX12_tell_74 (by decide) ?_
  exact k
theorem bX12_tell_77 {Z : ZT} {X : XT} {μ : Mu} {a4 : Int32} (E : Ent Z X mX12_tell 0 0)  
    (k : JS Z X 80 [(0, .ref (Z.2.2.1 + 455)), (4, .int a4), (5, .int (nI 0))] [] μ) :
    JS Z X 77 [(0, .ref (Z.2.2.1 + 455)), (4, .int a4)] [] μ := by
  refine J_iconst (v := nI 0) E dX12_tell_77 rfl ?_
  refine J_istore (lv' := [(0, .ref (Z.2.2.1 + 455)), (4, .int a4), (5, .int (nI 0))]) E dX12_tell_78 (Nat.le_of_ble_eq_true rfl) rfl ?_
  exact k
theorem bX12_tell_80 {Z : ZT} {X : XT} {μ : Mu} {a4 : Int32} {a5 : Int32} (E : Ent Z X mX12_tell 0 0)  
    (kt : a4 ≤ a5 → JS Z X 99 [] [] μ) (kf : ¬ (a4 ≤ a5) → JS Z X 87 [(0, .ref (Z.2.2.1 + 455)), (4, .int a4), (5, .int a5)] [] μ) :
    JS Z X 80 [(0, .ref (Z.2.2.1 + 455)), (4, .int a4), (5, .int a5)] [] μ := by
  refine J_iload E dX12_tell_80 rfl ?_
  refine J_iload E dX12_tell_82 rfl ?_
  refine J_icmp_ge (tgt := 99) E dX12_tell_84 (by decide) (fun c => ?_) (fun c => ?_)
  · refine J.weak [] rfl ?_
    exact kt c
  · exact kf c
theorem bX12_tell_87 {Z : ZT} {X : XT} {μ : Mu} {a4 : Int32} {a5 : Int32} (E : Ent Z X mX12_tell 0 0) {p : Mu → Prop} 
    (c : CtrS Z mX12_times [.ref (Z.2.2.1 + 455), .int (nI 1), .int (nI 5)] μ (rV p)) (k : ∀ μ1, p μ1 → JS Z X 93 [(0, .ref (Z.2.2.1 + 455)), (4, .int a4), (5, .int a5)] [] μ1) :
    JS Z X 87 [(0, .ref (Z.2.2.1 + 455)), (4, .int a4), (5, .int a5)] [] μ := by
  refine J_aload_n E dX12_tell_87 rfl ?_
  refine J_iconst (v := nI 1) E dX12_tell_88 rfl ?_
  refine J_iconst (v := nI 5) E dX12_tell_89 rfl ?_
  refine S_callV (As := [.int (nI 1), .int (nI 5)]) (rest := []) E dX12_tell_90 c kX12_times ⟨Nat.le_of_ble_eq_true rfl, Nat.le_of_ble_eq_true rfl⟩ rfl (Nat.le_of_ble_eq_true rfl) sh455 rfl rfl w7_15 w7_17 wp_61 (fun r_ μ1 hp_ => ?_)
  obtain ⟨rfl, hp_⟩ := hp_
  exact k μ1 hp_
theorem bX12_tell_93 {Z : ZT} {X : XT} {μ : Mu} {a4 : Int32} {a5 : Int32} (E : Ent Z X mX12_tell 0 0)  
    (k : JS Z X 80 [(0, .ref (Z.2.2.1 + 455)), (4, .int a4), (5, .int (a5 + nI 1))] [] μ) :
    JS Z X 93 [(0, .ref (Z.2.2.1 + 455)), (4, .int a4), (5, .int a5)] [] μ := by
  refine J_iinc (v := a5 + nI 1) (lv' := [(0, .ref (Z.2.2.1 + 455)), (4, .int a4), (5, .int (a5 + nI 1))]) E dX12_tell_93 rfl rfl (Nat.le_of_ble_eq_true rfl) rfl ?_
  refine J_goto (tgt := 80) E dX12_tell_96 (by decide) ?_
  exact k
theorem bX12_tell_99 {Z : ZT} {X : XT} {μ : Mu} (E : Ent Z X mX12_tell 0 0) {P : Option Value → Mu → Prop} (hB : BodS Z X P) 
    (k : P none μ) :
    JS Z X 99 [] [] μ := by
  exact S_vret E hB dX12_tell_99 rfl k
theorem dX12_meanTo_0 : decode cX12_meanTo 0 = .ok (.aload_n 0, 1) := by decide +kernel
theorem dX12_meanTo_1 : decode cX12_meanTo 1 = .ok (.iload_n 1, 1) := by decide +kernel
theorem dX12_meanTo_2 : decode cX12_meanTo 2 = .ok (.iconst 0, 1) := by decide +kernel
theorem dX12_meanTo_3 : decode cX12_meanTo 3 = .ok (.invokevirtual 204, 3) := by decide +kernel
theorem dX12_meanTo_6 : decode cX12_meanTo 6 = .ok (.iconst 0, 1) := by decide +kernel
theorem dX12_meanTo_7 : decode cX12_meanTo 7 = .ok (.istore 4, 2) := by decide +kernel
theorem dX12_meanTo_9 : decode cX12_meanTo 9 = .ok (.iload 4, 2) := by decide +kernel
theorem dX12_meanTo_11 : decode cX12_meanTo 11 = .ok (.iload_n 3, 1) := by decide +kernel
theorem dX12_meanTo_12 : decode cX12_meanTo 12 = .ok (.if_icmp .ge 52, 3) := by decide +kernel
theorem dX12_meanTo_15 : decode cX12_meanTo 15 = .ok (.aload_n 0, 1) := by decide +kernel
theorem dX12_meanTo_16 : decode cX12_meanTo 16 = .ok (.iconst 2, 1) := by decide +kernel
theorem dX12_meanTo_17 : decode cX12_meanTo 17 = .ok (.iconst 1, 1) := by decide +kernel
theorem dX12_meanTo_18 : decode cX12_meanTo 18 = .ok (.invokevirtual 204, 3) := by decide +kernel
theorem dX12_meanTo_21 : decode cX12_meanTo 21 = .ok (.iconst 0, 1) := by decide +kernel
theorem dX12_meanTo_22 : decode cX12_meanTo 22 = .ok (.istore 5, 2) := by decide +kernel
theorem dX12_meanTo_24 : decode cX12_meanTo 24 = .ok (.iload 5, 2) := by decide +kernel
theorem dX12_meanTo_26 : decode cX12_meanTo 26 = .ok (.iload 4, 2) := by decide +kernel
theorem dX12_meanTo_28 : decode cX12_meanTo 28 = .ok (.if_icmp .ge 15, 3) := by decide +kernel
theorem dX12_meanTo_31 : decode cX12_meanTo 31 = .ok (.aload_n 0, 1) := by decide +kernel
theorem dX12_meanTo_32 : decode cX12_meanTo 32 = .ok (.iconst 2, 1) := by decide +kernel
theorem dX12_meanTo_33 : decode cX12_meanTo 33 = .ok (.iload_n 2, 1) := by decide +kernel
theorem dX12_meanTo_34 : decode cX12_meanTo 34 = .ok (.invokevirtual 194, 3) := by decide +kernel
theorem dX12_meanTo_37 : decode cX12_meanTo 37 = .ok (.iinc 5 1, 3) := by decide +kernel
theorem dX12_meanTo_40 : decode cX12_meanTo 40 = .ok (.goto (-16), 3) := by decide +kernel
theorem dX12_meanTo_43 : decode cX12_meanTo 43 = .ok (.aload_n 0, 1) := by decide +kernel
theorem dX12_meanTo_44 : decode cX12_meanTo 44 = .ok (.iconst 2, 1) := by decide +kernel
theorem dX12_meanTo_45 : decode cX12_meanTo 45 = .ok (.iconst 5, 1) := by decide +kernel
theorem dX12_meanTo_46 : decode cX12_meanTo 46 = .ok (.iload 4, 2) := by decide +kernel
theorem dX12_meanTo_48 : decode cX12_meanTo 48 = .ok (.isub, 1) := by decide +kernel
theorem dX12_meanTo_49 : decode cX12_meanTo 49 = .ok (.invokevirtual 216, 3) := by decide +kernel
theorem dX12_meanTo_52 : decode cX12_meanTo 52 = .ok (.aload_n 0, 1) := by decide +kernel
theorem dX12_meanTo_53 : decode cX12_meanTo 53 = .ok (.iload_n 1, 1) := by decide +kernel
theorem dX12_meanTo_54 : decode cX12_meanTo 54 = .ok (.iconst 2, 1) := by decide +kernel
theorem dX12_meanTo_55 : decode cX12_meanTo 55 = .ok (.invokevirtual 219, 3) := by decide +kernel
theorem dX12_meanTo_58 : decode cX12_meanTo 58 = .ok (.iinc 4 1, 3) := by decide +kernel
theorem dX12_meanTo_61 : decode cX12_meanTo 61 = .ok (.goto (-52), 3) := by decide +kernel
theorem dX12_meanTo_64 : decode cX12_meanTo 64 = .ok (.return_, 1) := by decide +kernel
theorem bX12_meanTo_0 {Z : ZT} {X : XT} {μ : Mu} {a1 : Int32} {a2 : Int32} {a3 : Int32} (E : Ent Z X mX12_meanTo 0 0) {p : Mu → Prop} 
    (c : CtrS Z mX12_set [.ref (Z.2.2.1 + 455), .int a1, .int (nI 0)] μ (rV p)) (k : ∀ μ1, p μ1 → JS Z X 6 [(0, .ref (Z.2.2.1 + 455)), (1, .int a1), (2, .int a2), (3, .int a3)] [] μ1) :
    JS Z X 0 [(0, .ref (Z.2.2.1 + 455)), (1, .int a1), (2, .int a2), (3, .int a3)] [] μ := by
  refine J_aload_n E dX12_meanTo_0 rfl ?_
  refine J_iload_n E dX12_meanTo_1 rfl ?_
  refine J_iconst (v := nI 0) E dX12_meanTo_2 rfl ?_
  refine S_callV (As := [.int a1, .int (nI 0)]) (rest := []) E dX12_meanTo_3 c kX12_set ⟨Nat.le_of_ble_eq_true rfl, Nat.le_of_ble_eq_true rfl⟩ rfl (Nat.le_of_ble_eq_true rfl) sh455 rfl rfl w6_230 w6_232 wp_55 (fun r_ μ1 hp_ => ?_)
  obtain ⟨rfl, hp_⟩ := hp_
  exact k μ1 hp_
theorem bX12_meanTo_6 {Z : ZT} {X : XT} {μ : Mu} {a1 : Int32} {a2 : Int32} {a3 : Int32} (E : Ent Z X mX12_meanTo 0 0)  
    (k : JS Z X 9 [(0, .ref (Z.2.2.1 + 455)), (1, .int a1), (2, .int a2), (3, .int a3), (4, .int (nI 0))] [] μ) :
    JS Z X 6 [(0, .ref (Z.2.2.1 + 455)), (1, .int a1), (2, .int a2), (3, .int a3)] [] μ := by
  refine J_iconst (v := nI 0) E dX12_meanTo_6 rfl ?_
  refine J_istore (lv' := [(0, .ref (Z.2.2.1 + 455)), (1, .int a1), (2, .int a2), (3, .int a3), (4, .int (nI 0))]) E dX12_meanTo_7 (Nat.le_of_ble_eq_true rfl) rfl ?_
  exact k
theorem bX12_meanTo_9 {Z : ZT} {X : XT} {μ : Mu} {a1 : Int32} {a2 : Int32} {a3 : Int32} {a4 : Int32} (E : Ent Z X mX12_meanTo 0 0)  
    (kt : a3 ≤ a4 → JS Z X 64 [] [] μ) (kf : ¬ (a3 ≤ a4) → JS Z X 15 [(0, .ref (Z.2.2.1 + 455)), (1, .int a1), (2, .int a2), (3, .int a3), (4, .int a4)] [] μ) :
    JS Z X 9 [(0, .ref (Z.2.2.1 + 455)), (1, .int a1), (2, .int a2), (3, .int a3), (4, .int a4)] [] μ := by
  refine J_iload E dX12_meanTo_9 rfl ?_
  refine J_iload_n E dX12_meanTo_11 rfl ?_
  refine J_icmp_ge (tgt := 64) E dX12_meanTo_12 (by decide) (fun c => ?_) (fun c => ?_)
  · refine J.weak [] rfl ?_
    exact kt c
  · exact kf c
theorem bX12_meanTo_15 {Z : ZT} {X : XT} {μ : Mu} {a1 : Int32} {a2 : Int32} {a3 : Int32} {a4 : Int32} (E : Ent Z X mX12_meanTo 0 0) {p : Mu → Prop} 
    (c : CtrS Z mX12_set [.ref (Z.2.2.1 + 455), .int (nI 2), .int (nI 1)] μ (rV p)) (k : ∀ μ1, p μ1 → JS Z X 21 [(0, .ref (Z.2.2.1 + 455)), (1, .int a1), (2, .int a2), (3, .int a3), (4, .int a4)] [] μ1) :
    JS Z X 15 [(0, .ref (Z.2.2.1 + 455)), (1, .int a1), (2, .int a2), (3, .int a3), (4, .int a4)] [] μ := by
  refine J_aload_n E dX12_meanTo_15 rfl ?_
  refine J_iconst (v := nI 2) E dX12_meanTo_16 rfl ?_
  refine J_iconst (v := nI 1) E dX12_meanTo_17 rfl ?_
  refine S_callV (As := [.int (nI 2), .int (nI 1)]) (rest := []) E dX12_meanTo_18 c kX12_set ⟨Nat.le_of_ble_eq_true rfl, Nat.le_of_ble_eq_true rfl⟩ rfl (Nat.le_of_ble_eq_true rfl) sh455 rfl rfl w6_230 w6_232 wp_55 (fun r_ μ1 hp_ => ?_)
  obtain ⟨rfl, hp_⟩ := hp_
  exact k μ1 hp_
theorem bX12_meanTo_21 {Z : ZT} {X : XT} {μ : Mu} {a1 : Int32} {a2 : Int32} {a3 : Int32} {a4 : Int32} (E : Ent Z X mX12_meanTo 0 0)  
    (k : JS Z X 24 [(0, .ref (Z.2.2.1 + 455)), (1, .int a1), (2, .int a2), (3, .int a3), (4, .int a4), (5, .int (nI 0))] [] μ) :
    JS Z X 21 [(0, .ref (Z.2.2.1 + 455)), (1, .int a1), (2, .int a2), (3, .int a3), (4, .int a4)] [] μ := by
  refine J_iconst (v := nI 0) E dX12_meanTo_21 rfl ?_
  refine J_istore (lv' := [(0, .ref (Z.2.2.1 + 455)), (1, .int a1), (2, .int a2), (3, .int a3), (4, .int a4), (5, .int (nI 0))]) E dX12_meanTo_22 (Nat.le_of_ble_eq_true rfl) rfl ?_
  exact k
theorem bX12_meanTo_24 {Z : ZT} {X : XT} {μ : Mu} {a1 : Int32} {a2 : Int32} {a3 : Int32} {a4 : Int32} {a5 : Int32} (E : Ent Z X mX12_meanTo 0 0)  
    (kt : a4 ≤ a5 → JS Z X 43 [(0, .ref (Z.2.2.1 + 455)), (1, .int a1), (2, .int a2), (3, .int a3), (4, .int a4)] [] μ) (kf : ¬ (a4 ≤ a5) → JS Z X 31 [(0, .ref (Z.2.2.1 + 455)), (1, .int a1), (2, .int a2), (3, .int a3), (4, .int a4), (5, .int a5)] [] μ) :
    JS Z X 24 [(0, .ref (Z.2.2.1 + 455)), (1, .int a1), (2, .int a2), (3, .int a3), (4, .int a4), (5, .int a5)] [] μ := by
  refine J_iload E dX12_meanTo_24 rfl ?_
  refine J_iload E dX12_meanTo_26 rfl ?_
  refine J_icmp_ge (tgt := 43) E dX12_meanTo_28 (by decide) (fun c => ?_) (fun c => ?_)
  · refine J.weak [0, 1, 2, 3, 4] rfl ?_
    exact kt c
  · exact kf c
theorem bX12_meanTo_31 {Z : ZT} {X : XT} {μ : Mu} {a1 : Int32} {a2 : Int32} {a3 : Int32} {a4 : Int32} {a5 : Int32} (E : Ent Z X mX12_meanTo 0 0) {p : Mu → Prop} 
    (c : CtrS Z mX12_times [.ref (Z.2.2.1 + 455), .int (nI 2), .int a2] μ (rV p)) (k : ∀ μ1, p μ1 → JS Z X 37 [(0, .ref (Z.2.2.1 + 455)), (1, .int a1), (2, .int a2), (3, .int a3), (4, .int a4), (5, .int a5)] [] μ1) :
    JS Z X 31 [(0, .ref (Z.2.2.1 + 455)), (1, .int a1), (2, .int a2), (3, .int a3), (4, .int a4), (5, .int a5)] [] μ := by
  refine J_aload_n E dX12_meanTo_31 rfl ?_
  refine J_iconst (v := nI 2) E dX12_meanTo_32 rfl ?_
  refine J_iload_n E dX12_meanTo_33 rfl ?_
  refine S_callV (As := [.int (nI 2), .int a2]) (rest := []) E dX12_meanTo_34 c kX12_times ⟨Nat.le_of_ble_eq_true rfl, Nat.le_of_ble_eq_true rfl⟩ rfl (Nat.le_of_ble_eq_true rfl) sh455 rfl rfl w7_15 w7_17 wp_61 (fun r_ μ1 hp_ => ?_)
  obtain ⟨rfl, hp_⟩ := hp_
  exact k μ1 hp_
theorem bX12_meanTo_37 {Z : ZT} {X : XT} {μ : Mu} {a1 : Int32} {a2 : Int32} {a3 : Int32} {a4 : Int32} {a5 : Int32} (E : Ent Z X mX12_meanTo 0 0)  
    (k : JS Z X 24 [(0, .ref (Z.2.2.1 + 455)), (1, .int a1), (2, .int a2), (3, .int a3), (4, .int a4), (5, .int (a5 + nI 1))] [] μ) :
    JS Z X 37 [(0, .ref (Z.2.2.1 + 455)), (1, .int a1), (2, .int a2), (3, .int a3), (4, .int a4), (5, .int a5)] [] μ := by
  refine J_iinc (v := a5 + nI 1) (lv' := [(0, .ref (Z.2.2.1 + 455)), (1, .int a1), (2, .int a2), (3, .int a3), (4, .int a4), (5, .int (a5 + nI 1))]) E dX12_meanTo_37 rfl rfl (Nat.le_of_ble_eq_true rfl) rfl ?_
  refine J_goto (tgt := 24) E dX12_meanTo_40 (by decide) ?_
  exact k
theorem bX12_meanTo_43 {Z : ZT} {X : XT} {μ : Mu} {a1 : Int32} {a2 : Int32} {a3 : Int32} {a4 : Int32} (E : Ent Z X mX12_meanTo 0 0) {p : Mu → Prop} 
    (c : CtrS Z mX12_millions [.ref (Z.2.2.1 + 455), .int (nI 2), .int ((nI 5) - a4)] μ (rV p)) (k : ∀ μ1, p μ1 → JS Z X 52 [(0, .ref (Z.2.2.1 + 455)), (1, .int a1), (2, .int a2), (3, .int a3), (4, .int a4)] [] μ1) :
    JS Z X 43 [(0, .ref (Z.2.2.1 + 455)), (1, .int a1), (2, .int a2), (3, .int a3), (4, .int a4)] [] μ := by
  refine J_aload_n E dX12_meanTo_43 rfl ?_
  refine J_iconst (v := nI 2) E dX12_meanTo_44 rfl ?_
  refine J_iconst (v := nI 5) E dX12_meanTo_45 rfl ?_
  refine J_iload E dX12_meanTo_46 rfl ?_
  refine J_isub E dX12_meanTo_48 ?_
  refine S_callV (As := [.int (nI 2), .int ((nI 5) - a4)]) (rest := []) E dX12_meanTo_49 c kX12_millions ⟨Nat.le_of_ble_eq_true rfl, Nat.le_of_ble_eq_true rfl⟩ rfl (Nat.le_of_ble_eq_true rfl) sh455 rfl rfl w7_31 w7_33 wp_64 (fun r_ μ1 hp_ => ?_)
  obtain ⟨rfl, hp_⟩ := hp_
  exact k μ1 hp_
theorem bX12_meanTo_52 {Z : ZT} {X : XT} {μ : Mu} {a1 : Int32} {a2 : Int32} {a3 : Int32} {a4 : Int32} (E : Ent Z X mX12_meanTo 0 0) {p : Mu → Prop} 
    (c : CtrS Z mX12_add [.ref (Z.2.2.1 + 455), .int a1, .int (nI 2)] μ (rV p)) (k : ∀ μ1, p μ1 → JS Z X 58 [(0, .ref (Z.2.2.1 + 455)), (1, .int a1), (2, .int a2), (3, .int a3), (4, .int a4)] [] μ1) :
    JS Z X 52 [(0, .ref (Z.2.2.1 + 455)), (1, .int a1), (2, .int a2), (3, .int a3), (4, .int a4)] [] μ := by
  refine J_aload_n E dX12_meanTo_52 rfl ?_
  refine J_iload_n E dX12_meanTo_53 rfl ?_
  refine J_iconst (v := nI 2) E dX12_meanTo_54 rfl ?_
  refine S_callV (As := [.int a1, .int (nI 2)]) (rest := []) E dX12_meanTo_55 c kX12_add ⟨Nat.le_of_ble_eq_true rfl, Nat.le_of_ble_eq_true rfl⟩ rfl (Nat.le_of_ble_eq_true rfl) sh455 rfl rfl w7_39 w7_41 wp_66 (fun r_ μ1 hp_ => ?_)
  obtain ⟨rfl, hp_⟩ := hp_
  exact k μ1 hp_
theorem bX12_meanTo_58 {Z : ZT} {X : XT} {μ : Mu} {a1 : Int32} {a2 : Int32} {a3 : Int32} {a4 : Int32} (E : Ent Z X mX12_meanTo 0 0)  
    (k : JS Z X 9 [(0, .ref (Z.2.2.1 + 455)), (1, .int a1), (2, .int a2), (3, .int a3), (4, .int (a4 + nI 1))] [] μ) :
    JS Z X 58 [(0, .ref (Z.2.2.1 + 455)), (1, .int a1), (2, .int a2), (3, .int a3), (4, .int a4)] [] μ := by
  refine J_iinc (v := a4 + nI 1) (lv' := [(0, .ref (Z.2.2.1 + 455)), (1, .int a1), (2, .int a2), (3, .int a3), (4, .int (a4 + nI 1))]) E dX12_meanTo_58 rfl rfl (Nat.le_of_ble_eq_true rfl) rfl ?_
  refine J_goto (tgt := 9) E dX12_meanTo_61 (by decide) ?_
  exact k
theorem bX12_meanTo_64 {Z : ZT} {X : XT} {μ : Mu} (E : Ent Z X mX12_meanTo 0 0) {P : Option Value → Mu → Prop} (hB : BodS Z X P) 
    (k : P none μ) :
    JS Z X 64 [] [] μ := by
  exact S_vret E hB dX12_meanTo_64 rfl k
theorem dX12_lengthTo_0 : decode cX12_lengthTo 0 = .ok (.aload_n 0, 1) := by decide +kernel
theorem dX12_lengthTo_1 : decode cX12_lengthTo 1 = .ok (.iload_n 1, 1) := by decide +kernel
theorem dX12_lengthTo_2 : decode cX12_lengthTo 2 = .ok (.aload_n 0, 1) := by decide +kernel
theorem dX12_lengthTo_3 : decode cX12_lengthTo 3 = .ok (.getfield 175, 3) := by decide +kernel
theorem dX12_lengthTo_6 : decode cX12_lengthTo 6 = .ok (.invokevirtual 204, 3) := by decide +kernel
theorem dX12_lengthTo_9 : decode cX12_lengthTo 9 = .ok (.aload_n 0, 1) := by decide +kernel
theorem dX12_lengthTo_10 : decode cX12_lengthTo 10 = .ok (.iload_n 1, 1) := by decide +kernel
theorem dX12_lengthTo_11 : decode cX12_lengthTo 11 = .ok (.iconst 5, 1) := by decide +kernel
theorem dX12_lengthTo_12 : decode cX12_lengthTo 12 = .ok (.invokevirtual 216, 3) := by decide +kernel
theorem dX12_lengthTo_15 : decode cX12_lengthTo 15 = .ok (.iconst 0, 1) := by decide +kernel
theorem dX12_lengthTo_16 : decode cX12_lengthTo 16 = .ok (.istore_n 3, 1) := by decide +kernel
theorem dX12_lengthTo_17 : decode cX12_lengthTo 17 = .ok (.iload_n 3, 1) := by decide +kernel
theorem dX12_lengthTo_18 : decode cX12_lengthTo 18 = .ok (.aload_n 0, 1) := by decide +kernel
theorem dX12_lengthTo_19 : decode cX12_lengthTo 19 = .ok (.getfield 168, 3) := by decide +kernel
theorem dX12_lengthTo_22 : decode cX12_lengthTo 22 = .ok (.if_icmp .ge 54, 3) := by decide +kernel
theorem dX12_lengthTo_25 : decode cX12_lengthTo 25 = .ok (.aload_n 0, 1) := by decide +kernel
theorem dX12_lengthTo_26 : decode cX12_lengthTo 26 = .ok (.iconst 3, 1) := by decide +kernel
theorem dX12_lengthTo_27 : decode cX12_lengthTo 27 = .ok (.aload_n 0, 1) := by decide +kernel
theorem dX12_lengthTo_28 : decode cX12_lengthTo 28 = .ok (.iload_n 2, 1) := by decide +kernel
theorem dX12_lengthTo_29 : decode cX12_lengthTo 29 = .ok (.aload_n 0, 1) := by decide +kernel
theorem dX12_lengthTo_30 : decode cX12_lengthTo 30 = .ok (.getfield 7, 3) := by decide +kernel
theorem dX12_lengthTo_33 : decode cX12_lengthTo 33 = .ok (.sipush 163, 3) := by decide +kernel
theorem dX12_lengthTo_36 : decode cX12_lengthTo 36 = .ok (.aload_n 0, 1) := by decide +kernel
theorem dX12_lengthTo_37 : decode cX12_lengthTo 37 = .ok (.getfield 30, 3) := by decide +kernel
theorem dX12_lengthTo_40 : decode cX12_lengthTo 40 = .ok (.iload_n 3, 1) := by decide +kernel
theorem dX12_lengthTo_41 : decode cX12_lengthTo 41 = .ok (.iaload, 1) := by decide +kernel
theorem dX12_lengthTo_42 : decode cX12_lengthTo 42 = .ok (.iadd, 1) := by decide +kernel
theorem dX12_lengthTo_43 : decode cX12_lengthTo 43 = .ok (.iaload, 1) := by decide +kernel
theorem dX12_lengthTo_44 : decode cX12_lengthTo 44 = .ok (.aload_n 0, 1) := by decide +kernel
theorem dX12_lengthTo_45 : decode cX12_lengthTo 45 = .ok (.getfield 33, 3) := by decide +kernel
theorem dX12_lengthTo_48 : decode cX12_lengthTo 48 = .ok (.iload_n 3, 1) := by decide +kernel
theorem dX12_lengthTo_49 : decode cX12_lengthTo 49 = .ok (.iaload, 1) := by decide +kernel
theorem dX12_lengthTo_50 : decode cX12_lengthTo 50 = .ok (.invokevirtual 222, 3) := by decide +kernel
theorem dX12_lengthTo_53 : decode cX12_lengthTo 53 = .ok (.aload_n 0, 1) := by decide +kernel
theorem dX12_lengthTo_54 : decode cX12_lengthTo 54 = .ok (.getfield 7, 3) := by decide +kernel
theorem dX12_lengthTo_57 : decode cX12_lengthTo 57 = .ok (.sipush 201, 3) := by decide +kernel
theorem dX12_lengthTo_60 : decode cX12_lengthTo 60 = .ok (.iaload, 1) := by decide +kernel
theorem dX12_lengthTo_61 : decode cX12_lengthTo 61 = .ok (.invokevirtual 225, 3) := by decide +kernel
theorem dX12_lengthTo_64 : decode cX12_lengthTo 64 = .ok (.aload_n 0, 1) := by decide +kernel
theorem dX12_lengthTo_65 : decode cX12_lengthTo 65 = .ok (.iload_n 1, 1) := by decide +kernel
theorem dX12_lengthTo_66 : decode cX12_lengthTo 66 = .ok (.iconst 3, 1) := by decide +kernel
theorem dX12_lengthTo_67 : decode cX12_lengthTo 67 = .ok (.invokevirtual 219, 3) := by decide +kernel
theorem dX12_lengthTo_70 : decode cX12_lengthTo 70 = .ok (.iinc 3 1, 3) := by decide +kernel
theorem dX12_lengthTo_73 : decode cX12_lengthTo 73 = .ok (.goto (-56), 3) := by decide +kernel
theorem dX12_lengthTo_76 : decode cX12_lengthTo 76 = .ok (.return_, 1) := by decide +kernel
theorem bX12_lengthTo_0 {Z : ZT} {X : XT} {μ : Mu} {a1 : Int32} {a2 : Int32} (E : Ent Z X mX12_lengthTo 0 0) {p : Mu → Prop} 
    (c : CtrS Z mX12_set [.ref (Z.2.2.1 + 455), .int a1, .int (μ 455 17)] μ (rV p)) (k : ∀ μ1, p μ1 → JS Z X 9 [(0, .ref (Z.2.2.1 + 455)), (1, .int a1), (2, .int a2)] [] μ1) :
    JS Z X 0 [(0, .ref (Z.2.2.1 + 455)), (1, .int a1), (2, .int a2)] [] μ := by
  refine J_aload_n E dX12_lengthTo_0 rfl ?_
  refine J_iload_n E dX12_lengthTo_1 rfl ?_
  refine J_aload_n E dX12_lengthTo_2 rfl ?_
  refine S_get (ci := 12) (q := 17) (v := .int (μ 455 17)) E dX12_lengthTo_3 fs_X12_175 sh455 rfl ?_
  refine S_callV (As := [.int a1, .int (μ 455 17)]) (rest := []) E dX12_lengthTo_6 c kX12_set ⟨Nat.le_of_ble_eq_true rfl, Nat.le_of_ble_eq_true rfl⟩ rfl (Nat.le_of_ble_eq_true rfl) sh455 rfl rfl w6_230 w6_232 wp_55 (fun r_ μ1 hp_ => ?_)
  obtain ⟨rfl, hp_⟩ := hp_
  exact k μ1 hp_
theorem bX12_lengthTo_9 {Z : ZT} {X : XT} {μ : Mu} {a1 : Int32} {a2 : Int32} (E : Ent Z X mX12_lengthTo 0 0) {p : Mu → Prop} 
    (c : CtrS Z mX12_millions [.ref (Z.2.2.1 + 455), .int a1, .int (nI 5)] μ (rV p)) (k : ∀ μ1, p μ1 → JS Z X 15 [(0, .ref (Z.2.2.1 + 455)), (1, .int a1), (2, .int a2)] [] μ1) :
    JS Z X 9 [(0, .ref (Z.2.2.1 + 455)), (1, .int a1), (2, .int a2)] [] μ := by
  refine J_aload_n E dX12_lengthTo_9 rfl ?_
  refine J_iload_n E dX12_lengthTo_10 rfl ?_
  refine J_iconst (v := nI 5) E dX12_lengthTo_11 rfl ?_
  refine S_callV (As := [.int a1, .int (nI 5)]) (rest := []) E dX12_lengthTo_12 c kX12_millions ⟨Nat.le_of_ble_eq_true rfl, Nat.le_of_ble_eq_true rfl⟩ rfl (Nat.le_of_ble_eq_true rfl) sh455 rfl rfl w7_31 w7_33 wp_64 (fun r_ μ1 hp_ => ?_)
  obtain ⟨rfl, hp_⟩ := hp_
  exact k μ1 hp_
theorem bX12_lengthTo_15 {Z : ZT} {X : XT} {μ : Mu} {a1 : Int32} {a2 : Int32} (E : Ent Z X mX12_lengthTo 0 0)  
    (k : JS Z X 17 [(0, .ref (Z.2.2.1 + 455)), (1, .int a1), (2, .int a2), (3, .int (nI 0))] [] μ) :
    JS Z X 15 [(0, .ref (Z.2.2.1 + 455)), (1, .int a1), (2, .int a2)] [] μ := by
  refine J_iconst (v := nI 0) E dX12_lengthTo_15 rfl ?_
  refine J_istore_n (lv' := [(0, .ref (Z.2.2.1 + 455)), (1, .int a1), (2, .int a2), (3, .int (nI 0))]) E dX12_lengthTo_16 (Nat.le_of_ble_eq_true rfl) rfl ?_
  exact k
theorem bX12_lengthTo_17 {Z : ZT} {X : XT} {μ : Mu} {a1 : Int32} {a2 : Int32} {a3 : Int32} (E : Ent Z X mX12_lengthTo 0 0)  
    (kt : (μ 455 13) ≤ a3 → JS Z X 76 [] [] μ) (kf : ¬ ((μ 455 13) ≤ a3) → JS Z X 25 [(0, .ref (Z.2.2.1 + 455)), (1, .int a1), (2, .int a2), (3, .int a3)] [] μ) :
    JS Z X 17 [(0, .ref (Z.2.2.1 + 455)), (1, .int a1), (2, .int a2), (3, .int a3)] [] μ := by
  refine J_iload_n E dX12_lengthTo_17 rfl ?_
  refine J_aload_n E dX12_lengthTo_18 rfl ?_
  refine S_get (ci := 12) (q := 13) (v := .int (μ 455 13)) E dX12_lengthTo_19 fs_X12_168 sh455 rfl ?_
  refine J_icmp_ge (tgt := 76) E dX12_lengthTo_22 (by decide) (fun c => ?_) (fun c => ?_)
  · refine J.weak [] rfl ?_
    exact kt c
  · exact kf c
theorem bX12_lengthTo_25 {Z : ZT} {X : XT} {μ : Mu} {a1 : Int32} {a2 : Int32} {a3 : Int32} (E : Ent Z X mX12_lengthTo 0 0) {p : Int32 → Mu → Prop} (s1_ : vp_in a3 6) (s2_ : vp_in ((nI 163) + (μ 462 (ix a3))) 988) (s3_ : vp_in a3 6)
    (c : CtrS Z mX12_missesAt [.ref (Z.2.2.1 + 455), .int a2, .int (μ 456 (ix ((nI 163) + (μ 462 (ix a3))))), .int (μ 463 (ix a3))] μ (rI p)) (k : ∀ v μ1, p v μ1 → JS Z X 53 [(0, .ref (Z.2.2.1 + 455)), (1, .int a1), (2, .int a2), (3, .int a3)] [.int v, .int (nI 3), .ref (Z.2.2.1 + 455)] μ1) :
    JS Z X 25 [(0, .ref (Z.2.2.1 + 455)), (1, .int a1), (2, .int a2), (3, .int a3)] [] μ := by
  refine J_aload_n E dX12_lengthTo_25 rfl ?_
  refine J_iconst (v := nI 3) E dX12_lengthTo_26 rfl ?_
  refine J_aload_n E dX12_lengthTo_27 rfl ?_
  refine J_iload_n E dX12_lengthTo_28 rfl ?_
  refine J_aload_n E dX12_lengthTo_29 rfl ?_
  refine S_get (ci := 12) (q := 0) (v := .ref (Z.2.2.1 + 456)) E dX12_lengthTo_30 fs_X12_7 sh455 rfl ?_
  refine J_sipush (v := nI 163) E dX12_lengthTo_33 rfl ?_
  refine J_aload_n E dX12_lengthTo_36 rfl ?_
  refine S_get (ci := 12) (q := 14) (v := .ref (Z.2.2.1 + 462)) E dX12_lengthTo_37 fs_X12_30 sh455 rfl ?_
  refine J_iload_n E dX12_lengthTo_40 rfl ?_
  refine S_iald E dX12_lengthTo_41 sh462 s1_ ?_
  refine J_iadd E dX12_lengthTo_42 ?_
  refine S_iald E dX12_lengthTo_43 sh456 s2_ ?_
  refine J_aload_n E dX12_lengthTo_44 rfl ?_
  refine S_get (ci := 12) (q := 15) (v := .ref (Z.2.2.1 + 463)) E dX12_lengthTo_45 fs_X12_33 sh455 rfl ?_
  refine J_iload_n E dX12_lengthTo_48 rfl ?_
  refine S_iald E dX12_lengthTo_49 sh463 s3_ ?_
  refine S_callV (As := [.int a2, .int (μ 456 (ix ((nI 163) + (μ 462 (ix a3))))), .int (μ 463 (ix a3))]) (rest := [.int (nI 3), .ref (Z.2.2.1 + 455)]) E dX12_lengthTo_50 c kX12_missesAt ⟨Nat.le_of_ble_eq_true rfl, Nat.le_of_ble_eq_true rfl⟩ rfl (Nat.le_of_ble_eq_true rfl) sh455 rfl rfl w6_222 w6_224 wp_53 (fun r_ μ1 hp_ => ?_)
  obtain ⟨v, rfl, hp_⟩ := hp_
  exact k v μ1 hp_
theorem bX12_lengthTo_53 {Z : ZT} {X : XT} {μ : Mu} {a1 : Int32} {a2 : Int32} {a3 : Int32} {s1 : Int32} {s2 : Int32} (E : Ent Z X mX12_lengthTo 0 0) {p : Mu → Prop} (s1_ : vp_in (nI 201) 988)
    (c : CtrS Z mX12_meanTo [.ref (Z.2.2.1 + 455), .int s1, .int s2, .int (μ 456 (ix (nI 201)))] μ (rV p)) (k : ∀ μ1, p μ1 → JS Z X 64 [(0, .ref (Z.2.2.1 + 455)), (1, .int a1), (2, .int a2), (3, .int a3)] [] μ1) :
    JS Z X 53 [(0, .ref (Z.2.2.1 + 455)), (1, .int a1), (2, .int a2), (3, .int a3)] [.int s2, .int s1, .ref (Z.2.2.1 + 455)] μ := by
  refine J_aload_n E dX12_lengthTo_53 rfl ?_
  refine S_get (ci := 12) (q := 0) (v := .ref (Z.2.2.1 + 456)) E dX12_lengthTo_54 fs_X12_7 sh455 rfl ?_
  refine J_sipush (v := nI 201) E dX12_lengthTo_57 rfl ?_
  refine S_iald E dX12_lengthTo_60 sh456 s1_ ?_
  refine S_callV (As := [.int s1, .int s2, .int (μ 456 (ix (nI 201)))]) (rest := []) E dX12_lengthTo_61 c kX12_meanTo ⟨Nat.le_of_ble_eq_true rfl, Nat.le_of_ble_eq_true rfl⟩ rfl (Nat.le_of_ble_eq_true rfl) sh455 rfl rfl w7_35 w7_37 wp_65 (fun r_ μ1 hp_ => ?_)
  obtain ⟨rfl, hp_⟩ := hp_
  exact k μ1 hp_
theorem bX12_lengthTo_64 {Z : ZT} {X : XT} {μ : Mu} {a1 : Int32} {a2 : Int32} {a3 : Int32} (E : Ent Z X mX12_lengthTo 0 0) {p : Mu → Prop} 
    (c : CtrS Z mX12_add [.ref (Z.2.2.1 + 455), .int a1, .int (nI 3)] μ (rV p)) (k : ∀ μ1, p μ1 → JS Z X 70 [(0, .ref (Z.2.2.1 + 455)), (1, .int a1), (2, .int a2), (3, .int a3)] [] μ1) :
    JS Z X 64 [(0, .ref (Z.2.2.1 + 455)), (1, .int a1), (2, .int a2), (3, .int a3)] [] μ := by
  refine J_aload_n E dX12_lengthTo_64 rfl ?_
  refine J_iload_n E dX12_lengthTo_65 rfl ?_
  refine J_iconst (v := nI 3) E dX12_lengthTo_66 rfl ?_
  refine S_callV (As := [.int a1, .int (nI 3)]) (rest := []) E dX12_lengthTo_67 c kX12_add ⟨Nat.le_of_ble_eq_true rfl, Nat.le_of_ble_eq_true rfl⟩ rfl (Nat.le_of_ble_eq_true rfl) sh455 rfl rfl w7_39 w7_41 wp_66 (fun r_ μ1 hp_ => ?_)
  obtain ⟨rfl, hp_⟩ := hp_
  exact k μ1 hp_
theorem bX12_lengthTo_70 {Z : ZT} {X : XT} {μ : Mu} {a1 : Int32} {a2 : Int32} {a3 : Int32} (E : Ent Z X mX12_lengthTo 0 0)  
    (k : JS Z X 17 [(0, .ref (Z.2.2.1 + 455)), (1, .int a1), (2, .int a2), (3, .int (a3 + nI 1))] [] μ) :
    JS Z X 70 [(0, .ref (Z.2.2.1 + 455)), (1, .int a1), (2, .int a2), (3, .int a3)] [] μ := by
  refine J_iinc (v := a3 + nI 1) (lv' := [(0, .ref (Z.2.2.1 + 455)), (1, .int a1), (2, .int a2), (3, .int (a3 + nI 1))]) E dX12_lengthTo_70 rfl rfl (Nat.le_of_ble_eq_true rfl) rfl ?_
  refine J_goto (tgt := 17) E dX12_lengthTo_73 (by decide) ?_
  exact k
theorem bX12_lengthTo_76 {Z : ZT} {X : XT} {μ : Mu} (E : Ent Z X mX12_lengthTo 0 0) {P : Option Value → Mu → Prop} (hB : BodS Z X P) 
    (k : P none μ) :
    JS Z X 76 [] [] μ := by
  exact S_vret E hB dX12_lengthTo_76 rfl k
theorem dX12_offTo_0 : decode cX12_offTo 0 = .ok (.aload_n 0, 1) := by decide +kernel
theorem dX12_offTo_1 : decode cX12_offTo 1 = .ok (.iload_n 1, 1) := by decide +kernel
theorem dX12_offTo_2 : decode cX12_offTo 2 = .ok (.aload_n 0, 1) := by decide +kernel
theorem dX12_offTo_3 : decode cX12_offTo 3 = .ok (.getfield 7, 3) := by decide +kernel
theorem dX12_offTo_6 : decode cX12_offTo 6 = .ok (.sipush 202, 3) := by decide +kernel
theorem dX12_offTo_9 : decode cX12_offTo 9 = .ok (.iaload, 1) := by decide +kernel
theorem dX12_offTo_10 : decode cX12_offTo 10 = .ok (.invokevirtual 204, 3) := by decide +kernel
theorem dX12_offTo_13 : decode cX12_offTo 13 = .ok (.aload_n 0, 1) := by decide +kernel
theorem dX12_offTo_14 : decode cX12_offTo 14 = .ok (.iload_n 1, 1) := by decide +kernel
theorem dX12_offTo_15 : decode cX12_offTo 15 = .ok (.iconst 5, 1) := by decide +kernel
theorem dX12_offTo_16 : decode cX12_offTo 16 = .ok (.invokevirtual 216, 3) := by decide +kernel
theorem dX12_offTo_19 : decode cX12_offTo 19 = .ok (.aload_n 0, 1) := by decide +kernel
theorem dX12_offTo_20 : decode cX12_offTo 20 = .ok (.iload_n 1, 1) := by decide +kernel
theorem dX12_offTo_21 : decode cX12_offTo 21 = .ok (.iload_n 2, 1) := by decide +kernel
theorem dX12_offTo_22 : decode cX12_offTo 22 = .ok (.invokevirtual 229, 3) := by decide +kernel
theorem dX12_offTo_25 : decode cX12_offTo 25 = .ok (.ifCond .lt 12, 3) := by decide +kernel
theorem dX12_offTo_28 : decode cX12_offTo 28 = .ok (.aload_n 0, 1) := by decide +kernel
theorem dX12_offTo_29 : decode cX12_offTo 29 = .ok (.iload_n 1, 1) := by decide +kernel
theorem dX12_offTo_30 : decode cX12_offTo 30 = .ok (.iload_n 2, 1) := by decide +kernel
theorem dX12_offTo_31 : decode cX12_offTo 31 = .ok (.invokevirtual 232, 3) := by decide +kernel
theorem dX12_offTo_34 : decode cX12_offTo 34 = .ok (.goto 21, 3) := by decide +kernel
theorem dX12_offTo_37 : decode cX12_offTo 37 = .ok (.aload_n 0, 1) := by decide +kernel
theorem dX12_offTo_38 : decode cX12_offTo 38 = .ok (.iload_n 2, 1) := by decide +kernel
theorem dX12_offTo_39 : decode cX12_offTo 39 = .ok (.iconst 3, 1) := by decide +kernel
theorem dX12_offTo_40 : decode cX12_offTo 40 = .ok (.invokevirtual 198, 3) := by decide +kernel
theorem dX12_offTo_43 : decode cX12_offTo 43 = .ok (.aload_n 0, 1) := by decide +kernel
theorem dX12_offTo_44 : decode cX12_offTo 44 = .ok (.iconst 3, 1) := by decide +kernel
theorem dX12_offTo_45 : decode cX12_offTo 45 = .ok (.iload_n 1, 1) := by decide +kernel
theorem dX12_offTo_46 : decode cX12_offTo 46 = .ok (.invokevirtual 232, 3) := by decide +kernel
theorem dX12_offTo_49 : decode cX12_offTo 49 = .ok (.aload_n 0, 1) := by decide +kernel
theorem dX12_offTo_50 : decode cX12_offTo 50 = .ok (.iconst 3, 1) := by decide +kernel
theorem dX12_offTo_51 : decode cX12_offTo 51 = .ok (.iload_n 1, 1) := by decide +kernel
theorem dX12_offTo_52 : decode cX12_offTo 52 = .ok (.invokevirtual 198, 3) := by decide +kernel
theorem dX12_offTo_55 : decode cX12_offTo 55 = .ok (.return_, 1) := by decide +kernel
theorem bX12_offTo_0 {Z : ZT} {X : XT} {μ : Mu} {a1 : Int32} {a2 : Int32} (E : Ent Z X mX12_offTo 0 0) {p : Mu → Prop} (s1_ : vp_in (nI 202) 988)
    (c : CtrS Z mX12_set [.ref (Z.2.2.1 + 455), .int a1, .int (μ 456 (ix (nI 202)))] μ (rV p)) (k : ∀ μ1, p μ1 → JS Z X 13 [(0, .ref (Z.2.2.1 + 455)), (1, .int a1), (2, .int a2)] [] μ1) :
    JS Z X 0 [(0, .ref (Z.2.2.1 + 455)), (1, .int a1), (2, .int a2)] [] μ := by
  refine J_aload_n E dX12_offTo_0 rfl ?_
  refine J_iload_n E dX12_offTo_1 rfl ?_
  refine J_aload_n E dX12_offTo_2 rfl ?_
  refine S_get (ci := 12) (q := 0) (v := .ref (Z.2.2.1 + 456)) E dX12_offTo_3 fs_X12_7 sh455 rfl ?_
  refine J_sipush (v := nI 202) E dX12_offTo_6 rfl ?_
  refine S_iald E dX12_offTo_9 sh456 s1_ ?_
  refine S_callV (As := [.int a1, .int (μ 456 (ix (nI 202)))]) (rest := []) E dX12_offTo_10 c kX12_set ⟨Nat.le_of_ble_eq_true rfl, Nat.le_of_ble_eq_true rfl⟩ rfl (Nat.le_of_ble_eq_true rfl) sh455 rfl rfl w6_230 w6_232 wp_55 (fun r_ μ1 hp_ => ?_)
  obtain ⟨rfl, hp_⟩ := hp_
  exact k μ1 hp_
theorem bX12_offTo_13 {Z : ZT} {X : XT} {μ : Mu} {a1 : Int32} {a2 : Int32} (E : Ent Z X mX12_offTo 0 0) {p : Mu → Prop} 
    (c : CtrS Z mX12_millions [.ref (Z.2.2.1 + 455), .int a1, .int (nI 5)] μ (rV p)) (k : ∀ μ1, p μ1 → JS Z X 19 [(0, .ref (Z.2.2.1 + 455)), (1, .int a1), (2, .int a2)] [] μ1) :
    JS Z X 13 [(0, .ref (Z.2.2.1 + 455)), (1, .int a1), (2, .int a2)] [] μ := by
  refine J_aload_n E dX12_offTo_13 rfl ?_
  refine J_iload_n E dX12_offTo_14 rfl ?_
  refine J_iconst (v := nI 5) E dX12_offTo_15 rfl ?_
  refine S_callV (As := [.int a1, .int (nI 5)]) (rest := []) E dX12_offTo_16 c kX12_millions ⟨Nat.le_of_ble_eq_true rfl, Nat.le_of_ble_eq_true rfl⟩ rfl (Nat.le_of_ble_eq_true rfl) sh455 rfl rfl w7_31 w7_33 wp_64 (fun r_ μ1 hp_ => ?_)
  obtain ⟨rfl, hp_⟩ := hp_
  exact k μ1 hp_
theorem bX12_offTo_19 {Z : ZT} {X : XT} {μ : Mu} {a1 : Int32} {a2 : Int32} (E : Ent Z X mX12_offTo 0 0) {p : Int32 → Mu → Prop} 
    (c : CtrS Z mX12_compare [.ref (Z.2.2.1 + 455), .int a1, .int a2] μ (rI p)) (k : ∀ v μ1, p v μ1 → JS Z X 25 [(0, .ref (Z.2.2.1 + 455)), (1, .int a1), (2, .int a2)] [.int v] μ1) :
    JS Z X 19 [(0, .ref (Z.2.2.1 + 455)), (1, .int a1), (2, .int a2)] [] μ := by
  refine J_aload_n E dX12_offTo_19 rfl ?_
  refine J_iload_n E dX12_offTo_20 rfl ?_
  refine J_iload_n E dX12_offTo_21 rfl ?_
  refine S_callV (As := [.int a1, .int a2]) (rest := []) E dX12_offTo_22 c kX12_compare ⟨Nat.le_of_ble_eq_true rfl, Nat.le_of_ble_eq_true rfl⟩ rfl (Nat.le_of_ble_eq_true rfl) sh455 rfl rfl w7_59 w7_61 wp_69 (fun r_ μ1 hp_ => ?_)
  obtain ⟨v, rfl, hp_⟩ := hp_
  exact k v μ1 hp_
theorem bX12_offTo_25 {Z : ZT} {X : XT} {μ : Mu} {a1 : Int32} {a2 : Int32} {s0 : Int32} (E : Ent Z X mX12_offTo 0 0)  
    (kt : s0 < 0 → JS Z X 37 [(0, .ref (Z.2.2.1 + 455)), (1, .int a1), (2, .int a2)] [] μ) (kf : ¬ (s0 < 0) → JS Z X 28 [(0, .ref (Z.2.2.1 + 455)), (1, .int a1), (2, .int a2)] [] μ) :
    JS Z X 25 [(0, .ref (Z.2.2.1 + 455)), (1, .int a1), (2, .int a2)] [.int s0] μ := by
  refine J_if_lt (tgt := 37) E dX12_offTo_25 (by decide) (fun c => ?_) (fun c => ?_)
  · exact kt c
  · exact kf c
theorem bX12_offTo_28 {Z : ZT} {X : XT} {μ : Mu} {a1 : Int32} {a2 : Int32} (E : Ent Z X mX12_offTo 0 0) {p : Mu → Prop} 
    (c : CtrS Z mX12_less [.ref (Z.2.2.1 + 455), .int a1, .int a2] μ (rV p)) (k : ∀ μ1, p μ1 → JS Z X 34 [] [] μ1) :
    JS Z X 28 [(0, .ref (Z.2.2.1 + 455)), (1, .int a1), (2, .int a2)] [] μ := by
  refine J_aload_n E dX12_offTo_28 rfl ?_
  refine J_iload_n E dX12_offTo_29 rfl ?_
  refine J_iload_n E dX12_offTo_30 rfl ?_
  refine S_callV (As := [.int a1, .int a2]) (rest := []) E dX12_offTo_31 c kX12_less ⟨Nat.le_of_ble_eq_true rfl, Nat.le_of_ble_eq_true rfl⟩ rfl (Nat.le_of_ble_eq_true rfl) sh455 rfl rfl w7_79 w7_81 wp_72 (fun r_ μ1 hp_ => ?_)
  obtain ⟨rfl, hp_⟩ := hp_
  refine J.weak [] rfl ?_
  exact k μ1 hp_
theorem bX12_offTo_34 {Z : ZT} {X : XT} {μ : Mu} (E : Ent Z X mX12_offTo 0 0)  
    (k : JS Z X 55 [] [] μ) :
    JS Z X 34 [] [] μ := by
  refine J_goto (tgt := 55) E dX12_offTo_34 (by decide) ?_
  exact k
theorem bX12_offTo_37 {Z : ZT} {X : XT} {μ : Mu} {a1 : Int32} {a2 : Int32} (E : Ent Z X mX12_offTo 0 0) {p : Mu → Prop} 
    (c : CtrS Z mX12_copy [.ref (Z.2.2.1 + 455), .int a2, .int (nI 3)] μ (rV p)) (k : ∀ μ1, p μ1 → JS Z X 43 [(0, .ref (Z.2.2.1 + 455)), (1, .int a1)] [] μ1) :
    JS Z X 37 [(0, .ref (Z.2.2.1 + 455)), (1, .int a1), (2, .int a2)] [] μ := by
  refine J_aload_n E dX12_offTo_37 rfl ?_
  refine J_iload_n E dX12_offTo_38 rfl ?_
  refine J_iconst (v := nI 3) E dX12_offTo_39 rfl ?_
  refine S_callV (As := [.int a2, .int (nI 3)]) (rest := []) E dX12_offTo_40 c kX12_copy ⟨Nat.le_of_ble_eq_true rfl, Nat.le_of_ble_eq_true rfl⟩ rfl (Nat.le_of_ble_eq_true rfl) sh455 rfl rfl w6_238 w7_0 wp_57 (fun r_ μ1 hp_ => ?_)
  obtain ⟨rfl, hp_⟩ := hp_
  refine J.weak [0, 1] rfl ?_
  exact k μ1 hp_
theorem bX12_offTo_43 {Z : ZT} {X : XT} {μ : Mu} {a1 : Int32} (E : Ent Z X mX12_offTo 0 0) {p : Mu → Prop} 
    (c : CtrS Z mX12_less [.ref (Z.2.2.1 + 455), .int (nI 3), .int a1] μ (rV p)) (k : ∀ μ1, p μ1 → JS Z X 49 [(0, .ref (Z.2.2.1 + 455)), (1, .int a1)] [] μ1) :
    JS Z X 43 [(0, .ref (Z.2.2.1 + 455)), (1, .int a1)] [] μ := by
  refine J_aload_n E dX12_offTo_43 rfl ?_
  refine J_iconst (v := nI 3) E dX12_offTo_44 rfl ?_
  refine J_iload_n E dX12_offTo_45 rfl ?_
  refine S_callV (As := [.int (nI 3), .int a1]) (rest := []) E dX12_offTo_46 c kX12_less ⟨Nat.le_of_ble_eq_true rfl, Nat.le_of_ble_eq_true rfl⟩ rfl (Nat.le_of_ble_eq_true rfl) sh455 rfl rfl w7_79 w7_81 wp_72 (fun r_ μ1 hp_ => ?_)
  obtain ⟨rfl, hp_⟩ := hp_
  exact k μ1 hp_
theorem bX12_offTo_49 {Z : ZT} {X : XT} {μ : Mu} {a1 : Int32} (E : Ent Z X mX12_offTo 0 0) {p : Mu → Prop} 
    (c : CtrS Z mX12_copy [.ref (Z.2.2.1 + 455), .int (nI 3), .int a1] μ (rV p)) (k : ∀ μ1, p μ1 → JS Z X 55 [] [] μ1) :
    JS Z X 49 [(0, .ref (Z.2.2.1 + 455)), (1, .int a1)] [] μ := by
  refine J_aload_n E dX12_offTo_49 rfl ?_
  refine J_iconst (v := nI 3) E dX12_offTo_50 rfl ?_
  refine J_iload_n E dX12_offTo_51 rfl ?_
  refine S_callV (As := [.int (nI 3), .int a1]) (rest := []) E dX12_offTo_52 c kX12_copy ⟨Nat.le_of_ble_eq_true rfl, Nat.le_of_ble_eq_true rfl⟩ rfl (Nat.le_of_ble_eq_true rfl) sh455 rfl rfl w6_238 w7_0 wp_57 (fun r_ μ1 hp_ => ?_)
  obtain ⟨rfl, hp_⟩ := hp_
  refine J.weak [] rfl ?_
  exact k μ1 hp_
theorem bX12_offTo_55 {Z : ZT} {X : XT} {μ : Mu} (E : Ent Z X mX12_offTo 0 0) {P : Option Value → Mu → Prop} (hB : BodS Z X P) 
    (k : P none μ) :
    JS Z X 55 [] [] μ := by
  exact S_vret E hB dX12_offTo_55 rfl k
theorem dX12_leastOf_0 : decode cX12_leastOf 0 = .ok (.aload_n 0, 1) := by decide +kernel
theorem dX12_leastOf_1 : decode cX12_leastOf 1 = .ok (.iload_n 1, 1) := by decide +kernel
theorem dX12_leastOf_2 : decode cX12_leastOf 2 = .ok (.aload_n 0, 1) := by decide +kernel
theorem dX12_leastOf_3 : decode cX12_leastOf 3 = .ok (.getfield 7, 3) := by decide +kernel
theorem dX12_leastOf_6 : decode cX12_leastOf 6 = .ok (.sipush 163, 3) := by decide +kernel
theorem dX12_leastOf_9 : decode cX12_leastOf 9 = .ok (.aload_n 0, 1) := by decide +kernel
theorem dX12_leastOf_10 : decode cX12_leastOf 10 = .ok (.getfield 30, 3) := by decide +kernel
theorem dX12_leastOf_13 : decode cX12_leastOf 13 = .ok (.iload_n 2, 1) := by decide +kernel
theorem dX12_leastOf_14 : decode cX12_leastOf 14 = .ok (.iaload, 1) := by decide +kernel
theorem dX12_leastOf_15 : decode cX12_leastOf 15 = .ok (.iadd, 1) := by decide +kernel
theorem dX12_leastOf_16 : decode cX12_leastOf 16 = .ok (.iaload, 1) := by decide +kernel
theorem dX12_leastOf_17 : decode cX12_leastOf 17 = .ok (.aload_n 0, 1) := by decide +kernel
theorem dX12_leastOf_18 : decode cX12_leastOf 18 = .ok (.getfield 33, 3) := by decide +kernel
theorem dX12_leastOf_21 : decode cX12_leastOf 21 = .ok (.iload_n 2, 1) := by decide +kernel
theorem dX12_leastOf_22 : decode cX12_leastOf 22 = .ok (.iaload, 1) := by decide +kernel
theorem dX12_leastOf_23 : decode cX12_leastOf 23 = .ok (.invokevirtual 222, 3) := by decide +kernel
theorem dX12_leastOf_26 : decode cX12_leastOf 26 = .ok (.ldc 193, 2) := by decide +kernel
theorem dX12_leastOf_28 : decode cX12_leastOf 28 = .ok (.if_icmp .ge 7, 3) := by decide +kernel
theorem dX12_leastOf_31 : decode cX12_leastOf 31 = .ok (.iconst 1, 1) := by decide +kernel
theorem dX12_leastOf_32 : decode cX12_leastOf 32 = .ok (.goto 11, 3) := by decide +kernel
theorem dX12_leastOf_35 : decode cX12_leastOf 35 = .ok (.aload_n 0, 1) := by decide +kernel
theorem dX12_leastOf_36 : decode cX12_leastOf 36 = .ok (.getfield 7, 3) := by decide +kernel
theorem dX12_leastOf_39 : decode cX12_leastOf 39 = .ok (.sipush 201, 3) := by decide +kernel
theorem dX12_leastOf_42 : decode cX12_leastOf 42 = .ok (.iaload, 1) := by decide +kernel
theorem dX12_leastOf_43 : decode cX12_leastOf 43 = .ok (.ireturn, 1) := by decide +kernel
theorem bX12_leastOf_0 {Z : ZT} {X : XT} {μ : Mu} {a1 : Int32} {a2 : Int32} (E : Ent Z X mX12_leastOf 0 0) {p : Int32 → Mu → Prop} (s1_ : vp_in a2 6) (s2_ : vp_in ((nI 163) + (μ 462 (ix a2))) 988) (s3_ : vp_in a2 6)
    (c : CtrS Z mX12_missesAt [.ref (Z.2.2.1 + 455), .int a1, .int (μ 456 (ix ((nI 163) + (μ 462 (ix a2))))), .int (μ 463 (ix a2))] μ (rI p)) (k : ∀ v μ1, p v μ1 → JS Z X 26 [(0, .ref (Z.2.2.1 + 455))] [.int v] μ1) :
    JS Z X 0 [(0, .ref (Z.2.2.1 + 455)), (1, .int a1), (2, .int a2)] [] μ := by
  refine J_aload_n E dX12_leastOf_0 rfl ?_
  refine J_iload_n E dX12_leastOf_1 rfl ?_
  refine J_aload_n E dX12_leastOf_2 rfl ?_
  refine S_get (ci := 12) (q := 0) (v := .ref (Z.2.2.1 + 456)) E dX12_leastOf_3 fs_X12_7 sh455 rfl ?_
  refine J_sipush (v := nI 163) E dX12_leastOf_6 rfl ?_
  refine J_aload_n E dX12_leastOf_9 rfl ?_
  refine S_get (ci := 12) (q := 14) (v := .ref (Z.2.2.1 + 462)) E dX12_leastOf_10 fs_X12_30 sh455 rfl ?_
  refine J_iload_n E dX12_leastOf_13 rfl ?_
  refine S_iald E dX12_leastOf_14 sh462 s1_ ?_
  refine J_iadd E dX12_leastOf_15 ?_
  refine S_iald E dX12_leastOf_16 sh456 s2_ ?_
  refine J_aload_n E dX12_leastOf_17 rfl ?_
  refine S_get (ci := 12) (q := 15) (v := .ref (Z.2.2.1 + 463)) E dX12_leastOf_18 fs_X12_33 sh455 rfl ?_
  refine J_iload_n E dX12_leastOf_21 rfl ?_
  refine S_iald E dX12_leastOf_22 sh463 s3_ ?_
  refine S_callV (As := [.int a1, .int (μ 456 (ix ((nI 163) + (μ 462 (ix a2))))), .int (μ 463 (ix a2))]) (rest := []) E dX12_leastOf_23 c kX12_missesAt ⟨Nat.le_of_ble_eq_true rfl, Nat.le_of_ble_eq_true rfl⟩ rfl (Nat.le_of_ble_eq_true rfl) sh455 rfl rfl w6_222 w6_224 wp_53 (fun r_ μ1 hp_ => ?_)
  obtain ⟨v, rfl, hp_⟩ := hp_
  refine J.weak [0] rfl ?_
  exact k v μ1 hp_
theorem bX12_leastOf_26 {Z : ZT} {X : XT} {μ : Mu} {s0 : Int32} (E : Ent Z X mX12_leastOf 0 0)  
    (kt : (nI 1000000) ≤ s0 → JS Z X 35 [(0, .ref (Z.2.2.1 + 455))] [] μ) (kf : ¬ ((nI 1000000) ≤ s0) → JS Z X 31 [] [] μ) :
    JS Z X 26 [(0, .ref (Z.2.2.1 + 455))] [.int s0] μ := by
  refine J_ldc (v := nI 1000000) E dX12_leastOf_26 w6_221 ?_
  refine J_icmp_ge (tgt := 35) E dX12_leastOf_28 (by decide) (fun c => ?_) (fun c => ?_)
  · exact kt c
  · refine J.weak [] rfl ?_
    exact kf c
theorem bX12_leastOf_31 {Z : ZT} {X : XT} {μ : Mu} (E : Ent Z X mX12_leastOf 0 0)  
    (k : JS Z X 43 [] [.int (nI 1)] μ) :
    JS Z X 31 [] [] μ := by
  refine J_iconst (v := nI 1) E dX12_leastOf_31 rfl ?_
  refine J_goto (tgt := 43) E dX12_leastOf_32 (by decide) ?_
  exact k
theorem bX12_leastOf_35 {Z : ZT} {X : XT} {μ : Mu} (E : Ent Z X mX12_leastOf 0 0)  (s1_ : vp_in (nI 201) 988)
    (k : JS Z X 43 [] [.int (μ 456 (ix (nI 201)))] μ) :
    JS Z X 35 [(0, .ref (Z.2.2.1 + 455))] [] μ := by
  refine J_aload_n E dX12_leastOf_35 rfl ?_
  refine S_get (ci := 12) (q := 0) (v := .ref (Z.2.2.1 + 456)) E dX12_leastOf_36 fs_X12_7 sh455 rfl ?_
  refine J_sipush (v := nI 201) E dX12_leastOf_39 rfl ?_
  refine S_iald E dX12_leastOf_42 sh456 s1_ ?_
  refine J.weak [] rfl ?_
  exact k
theorem bX12_leastOf_43 {Z : ZT} {X : XT} {μ : Mu} {s0 : Int32} (E : Ent Z X mX12_leastOf 0 0) {P : Option Value → Mu → Prop} (hB : BodS Z X P) 
    (k : P (some (.int s0)) μ) :
    JS Z X 43 [] [.int s0] μ := by
  exact S_iret E hB dX12_leastOf_43 rfl k
theorem dX12_riddles_0 : decode cX12_riddles 0 = .ok (.iload_n 1, 1) := by decide +kernel
theorem dX12_riddles_1 : decode cX12_riddles 1 = .ok (.invokestatic 85, 3) := by decide +kernel
theorem dX12_riddles_4 : decode cX12_riddles 4 = .ok (.ifCond .eq 23, 3) := by decide +kernel
theorem dX12_riddles_7 : decode cX12_riddles 7 = .ok (.iload_n 2, 1) := by decide +kernel
theorem dX12_riddles_8 : decode cX12_riddles 8 = .ok (.iconst 0, 1) := by decide +kernel
theorem dX12_riddles_9 : decode cX12_riddles 9 = .ok (.aload_n 0, 1) := by decide +kernel
theorem dX12_riddles_10 : decode cX12_riddles 10 = .ok (.getfield 7, 3) := by decide +kernel
theorem dX12_riddles_13 : decode cX12_riddles 13 = .ok (.sipush 187, 3) := by decide +kernel
theorem dX12_riddles_16 : decode cX12_riddles 16 = .ok (.iload_n 1, 1) := by decide +kernel
theorem dX12_riddles_17 : decode cX12_riddles 17 = .ok (.iadd, 1) := by decide +kernel
theorem dX12_riddles_18 : decode cX12_riddles 18 = .ok (.iaload, 1) := by decide +kernel
theorem dX12_riddles_19 : decode cX12_riddles 19 = .ok (.iconst 1, 1) := by decide +kernel
theorem dX12_riddles_20 : decode cX12_riddles 20 = .ok (.isub, 1) := by decide +kernel
theorem dX12_riddles_21 : decode cX12_riddles 21 = .ok (.invokestatic 67, 3) := by decide +kernel
theorem dX12_riddles_24 : decode cX12_riddles 24 = .ok (.ifCond .ne 10, 3) := by decide +kernel
theorem dX12_riddles_27 : decode cX12_riddles 27 = .ok (.aload_n 0, 1) := by decide +kernel
theorem dX12_riddles_28 : decode cX12_riddles 28 = .ok (.bipush (-2), 2) := by decide +kernel
theorem dX12_riddles_30 : decode cX12_riddles 30 = .ok (.invokevirtual 63, 3) := by decide +kernel
theorem dX12_riddles_33 : decode cX12_riddles 33 = .ok (.ireturn, 1) := by decide +kernel
theorem dX12_riddles_34 : decode cX12_riddles 34 = .ok (.aload_n 0, 1) := by decide +kernel
theorem dX12_riddles_35 : decode cX12_riddles 35 = .ok (.iload_n 1, 1) := by decide +kernel
theorem dX12_riddles_36 : decode cX12_riddles 36 = .ok (.invokevirtual 235, 3) := by decide +kernel
theorem dX12_riddles_39 : decode cX12_riddles 39 = .ok (.ifCond .ne 10, 3) := by decide +kernel
theorem dX12_riddles_42 : decode cX12_riddles 42 = .ok (.aload_n 0, 1) := by decide +kernel
theorem dX12_riddles_43 : decode cX12_riddles 43 = .ok (.bipush (-3), 2) := by decide +kernel
theorem dX12_riddles_45 : decode cX12_riddles 45 = .ok (.invokevirtual 63, 3) := by decide +kernel
theorem dX12_riddles_48 : decode cX12_riddles 48 = .ok (.ireturn, 1) := by decide +kernel
theorem dX12_riddles_49 : decode cX12_riddles 49 = .ok (.aload_n 0, 1) := by decide +kernel
theorem dX12_riddles_50 : decode cX12_riddles 50 = .ok (.iconst 2, 1) := by decide +kernel
theorem dX12_riddles_51 : decode cX12_riddles 51 = .ok (.ldc 193, 2) := by decide +kernel
theorem dX12_riddles_53 : decode cX12_riddles 53 = .ok (.aload_n 0, 1) := by decide +kernel
theorem dX12_riddles_54 : decode cX12_riddles 54 = .ok (.iload_n 1, 1) := by decide +kernel
theorem dX12_riddles_55 : decode cX12_riddles 55 = .ok (.aload_n 0, 1) := by decide +kernel
theorem dX12_riddles_56 : decode cX12_riddles 56 = .ok (.getfield 7, 3) := by decide +kernel
theorem dX12_riddles_59 : decode cX12_riddles 59 = .ok (.sipush 163, 3) := by decide +kernel
theorem dX12_riddles_62 : decode cX12_riddles 62 = .ok (.aload_n 0, 1) := by decide +kernel
theorem dX12_riddles_63 : decode cX12_riddles 63 = .ok (.getfield 30, 3) := by decide +kernel
theorem dX12_riddles_66 : decode cX12_riddles 66 = .ok (.iload_n 2, 1) := by decide +kernel
theorem dX12_riddles_67 : decode cX12_riddles 67 = .ok (.iaload, 1) := by decide +kernel
theorem dX12_riddles_68 : decode cX12_riddles 68 = .ok (.iadd, 1) := by decide +kernel
theorem dX12_riddles_69 : decode cX12_riddles 69 = .ok (.iaload, 1) := by decide +kernel
theorem dX12_riddles_70 : decode cX12_riddles 70 = .ok (.aload_n 0, 1) := by decide +kernel
theorem dX12_riddles_71 : decode cX12_riddles 71 = .ok (.getfield 33, 3) := by decide +kernel
theorem dX12_riddles_74 : decode cX12_riddles 74 = .ok (.iload_n 2, 1) := by decide +kernel
theorem dX12_riddles_75 : decode cX12_riddles 75 = .ok (.iaload, 1) := by decide +kernel
theorem dX12_riddles_76 : decode cX12_riddles 76 = .ok (.invokevirtual 222, 3) := by decide +kernel
theorem dX12_riddles_79 : decode cX12_riddles 79 = .ok (.isub, 1) := by decide +kernel
theorem dX12_riddles_80 : decode cX12_riddles 80 = .ok (.invokevirtual 204, 3) := by decide +kernel
theorem dX12_riddles_83 : decode cX12_riddles 83 = .ok (.aload_n 0, 1) := by decide +kernel
theorem dX12_riddles_84 : decode cX12_riddles 84 = .ok (.iconst 2, 1) := by decide +kernel
theorem dX12_riddles_85 : decode cX12_riddles 85 = .ok (.bipush 6, 2) := by decide +kernel
theorem dX12_riddles_87 : decode cX12_riddles 87 = .ok (.invokevirtual 238, 3) := by decide +kernel
theorem dX12_riddles_90 : decode cX12_riddles 90 = .ok (.iconst 1, 1) := by decide +kernel
theorem dX12_riddles_91 : decode cX12_riddles 91 = .ok (.ireturn, 1) := by decide +kernel
theorem bX12_riddles_0 {Z : ZT} {X : XT} {μ : Mu} {a1 : Int32} {a2 : Int32} (E : Ent Z X mX12_riddles 0 0) {p : Int32 → Mu → Prop} 
    (c : CtrS Z mX12_isLot [.int a1] μ (rI p)) (k : ∀ v μ1, p v μ1 → JS Z X 4 [(0, .ref (Z.2.2.1 + 455)), (1, .int a1), (2, .int a2)] [.int v] μ1) :
    JS Z X 0 [(0, .ref (Z.2.2.1 + 455)), (1, .int a1), (2, .int a2)] [] μ := by
  refine J_iload_n E dX12_riddles_0 rfl ?_
  refine S_callS (As := [.int a1]) (rest := []) E dX12_riddles_1 c kX12_isLot ⟨Nat.le_of_ble_eq_true rfl, Nat.le_of_ble_eq_true rfl⟩ rfl (Nat.le_of_ble_eq_true rfl) w6_138 w6_139 (fun r_ μ1 hp_ => ?_)
  obtain ⟨v, rfl, hp_⟩ := hp_
  exact k v μ1 hp_
theorem bX12_riddles_4 {Z : ZT} {X : XT} {μ : Mu} {a1 : Int32} {a2 : Int32} {s0 : Int32} (E : Ent Z X mX12_riddles 0 0)  
    (kt : s0 = 0 → JS Z X 27 [(0, .ref (Z.2.2.1 + 455))] [] μ) (kf : ¬ (s0 = 0) → JS Z X 7 [(0, .ref (Z.2.2.1 + 455)), (1, .int a1), (2, .int a2)] [] μ) :
    JS Z X 4 [(0, .ref (Z.2.2.1 + 455)), (1, .int a1), (2, .int a2)] [.int s0] μ := by
  refine J_if_eq (tgt := 27) E dX12_riddles_4 (by decide) (fun c => ?_) (fun c => ?_)
  · refine J.weak [0] rfl ?_
    exact kt c
  · exact kf c
theorem bX12_riddles_7 {Z : ZT} {X : XT} {μ : Mu} {a1 : Int32} {a2 : Int32} (E : Ent Z X mX12_riddles 0 0) {p : Int32 → Mu → Prop} (s1_ : vp_in ((nI 187) + a1) 988)
    (c : CtrS Z mX12_in [.int a2, .int (nI 0), .int ((μ 456 (ix ((nI 187) + a1))) - (nI 1))] μ (rI p)) (k : ∀ v μ1, p v μ1 → JS Z X 24 [(0, .ref (Z.2.2.1 + 455)), (1, .int a1), (2, .int a2)] [.int v] μ1) :
    JS Z X 7 [(0, .ref (Z.2.2.1 + 455)), (1, .int a1), (2, .int a2)] [] μ := by
  refine J_iload_n E dX12_riddles_7 rfl ?_
  refine J_iconst (v := nI 0) E dX12_riddles_8 rfl ?_
  refine J_aload_n E dX12_riddles_9 rfl ?_
  refine S_get (ci := 12) (q := 0) (v := .ref (Z.2.2.1 + 456)) E dX12_riddles_10 fs_X12_7 sh455 rfl ?_
  refine J_sipush (v := nI 187) E dX12_riddles_13 rfl ?_
  refine J_iload_n E dX12_riddles_16 rfl ?_
  refine J_iadd E dX12_riddles_17 ?_
  refine S_iald E dX12_riddles_18 sh456 s1_ ?_
  refine J_iconst (v := nI 1) E dX12_riddles_19 rfl ?_
  refine J_isub E dX12_riddles_20 ?_
  refine S_callS (As := [.int a2, .int (nI 0), .int ((μ 456 (ix ((nI 187) + a1))) - (nI 1))]) (rest := []) E dX12_riddles_21 c kX12_in ⟨Nat.le_of_ble_eq_true rfl, Nat.le_of_ble_eq_true rfl⟩ rfl (Nat.le_of_ble_eq_true rfl) w6_67 w6_68 (fun r_ μ1 hp_ => ?_)
  obtain ⟨v, rfl, hp_⟩ := hp_
  exact k v μ1 hp_
theorem bX12_riddles_24 {Z : ZT} {X : XT} {μ : Mu} {a1 : Int32} {a2 : Int32} {s0 : Int32} (E : Ent Z X mX12_riddles 0 0)  
    (kt : ¬ s0 = 0 → JS Z X 34 [(0, .ref (Z.2.2.1 + 455)), (1, .int a1), (2, .int a2)] [] μ) (kf : s0 = 0 → JS Z X 27 [(0, .ref (Z.2.2.1 + 455))] [] μ) :
    JS Z X 24 [(0, .ref (Z.2.2.1 + 455)), (1, .int a1), (2, .int a2)] [.int s0] μ := by
  refine J_if_ne (tgt := 34) E dX12_riddles_24 (by decide) (fun c => ?_) (fun c => ?_)
  · exact kt c
  · refine J.weak [0] rfl ?_
    exact kf c
theorem bX12_riddles_27 {Z : ZT} {X : XT} {μ : Mu} (E : Ent Z X mX12_riddles 0 0) {p : Int32 → Mu → Prop} 
    (c : CtrS Z mX12_refuse [.ref (Z.2.2.1 + 455), .int (-2)] μ (rI p)) (k : ∀ v μ1, p v μ1 → JS Z X 33 [] [.int v] μ1) :
    JS Z X 27 [(0, .ref (Z.2.2.1 + 455))] [] μ := by
  refine J_aload_n E dX12_riddles_27 rfl ?_
  refine J_bipush (v := -2) E dX12_riddles_28 rfl ?_
  refine S_callV (As := [.int (-2)]) (rest := []) E dX12_riddles_30 c kX12_refuse ⟨Nat.le_of_ble_eq_true rfl, Nat.le_of_ble_eq_true rfl⟩ rfl (Nat.le_of_ble_eq_true rfl) sh455 rfl rfl w6_51 w6_53 wp_30 (fun r_ μ1 hp_ => ?_)
  obtain ⟨v, rfl, hp_⟩ := hp_
  refine J.weak [] rfl ?_
  exact k v μ1 hp_
theorem bX12_riddles_33 {Z : ZT} {X : XT} {μ : Mu} {s0 : Int32} (E : Ent Z X mX12_riddles 0 0) {P : Option Value → Mu → Prop} (hB : BodS Z X P) 
    (k : P (some (.int s0)) μ) :
    JS Z X 33 [] [.int s0] μ := by
  exact S_iret E hB dX12_riddles_33 rfl k
theorem bX12_riddles_34 {Z : ZT} {X : XT} {μ : Mu} {a1 : Int32} {a2 : Int32} (E : Ent Z X mX12_riddles 0 0) {p : Int32 → Mu → Prop} 
    (c : CtrS Z mX12_isHunt [.ref (Z.2.2.1 + 455), .int a1] μ (rI p)) (k : ∀ v μ1, p v μ1 → JS Z X 39 [(0, .ref (Z.2.2.1 + 455)), (1, .int a1), (2, .int a2)] [.int v] μ1) :
    JS Z X 34 [(0, .ref (Z.2.2.1 + 455)), (1, .int a1), (2, .int a2)] [] μ := by
  refine J_aload_n E dX12_riddles_34 rfl ?_
  refine J_iload_n E dX12_riddles_35 rfl ?_
  refine S_callV (As := [.int a1]) (rest := []) E dX12_riddles_36 c kX12_isHunt ⟨Nat.le_of_ble_eq_true rfl, Nat.le_of_ble_eq_true rfl⟩ rfl (Nat.le_of_ble_eq_true rfl) sh455 rfl rfl w6_197 w6_199 wp_47 (fun r_ μ1 hp_ => ?_)
  obtain ⟨v, rfl, hp_⟩ := hp_
  exact k v μ1 hp_
theorem bX12_riddles_39 {Z : ZT} {X : XT} {μ : Mu} {a1 : Int32} {a2 : Int32} {s0 : Int32} (E : Ent Z X mX12_riddles 0 0)  
    (kt : ¬ s0 = 0 → JS Z X 49 [(0, .ref (Z.2.2.1 + 455)), (1, .int a1), (2, .int a2)] [] μ) (kf : s0 = 0 → JS Z X 42 [(0, .ref (Z.2.2.1 + 455))] [] μ) :
    JS Z X 39 [(0, .ref (Z.2.2.1 + 455)), (1, .int a1), (2, .int a2)] [.int s0] μ := by
  refine J_if_ne (tgt := 49) E dX12_riddles_39 (by decide) (fun c => ?_) (fun c => ?_)
  · exact kt c
  · refine J.weak [0] rfl ?_
    exact kf c
theorem bX12_riddles_42 {Z : ZT} {X : XT} {μ : Mu} (E : Ent Z X mX12_riddles 0 0) {p : Int32 → Mu → Prop} 
    (c : CtrS Z mX12_refuse [.ref (Z.2.2.1 + 455), .int (-3)] μ (rI p)) (k : ∀ v μ1, p v μ1 → JS Z X 48 [] [.int v] μ1) :
    JS Z X 42 [(0, .ref (Z.2.2.1 + 455))] [] μ := by
  refine J_aload_n E dX12_riddles_42 rfl ?_
  refine J_bipush (v := -3) E dX12_riddles_43 rfl ?_
  refine S_callV (As := [.int (-3)]) (rest := []) E dX12_riddles_45 c kX12_refuse ⟨Nat.le_of_ble_eq_true rfl, Nat.le_of_ble_eq_true rfl⟩ rfl (Nat.le_of_ble_eq_true rfl) sh455 rfl rfl w6_51 w6_53 wp_30 (fun r_ μ1 hp_ => ?_)
  obtain ⟨v, rfl, hp_⟩ := hp_
  refine J.weak [] rfl ?_
  exact k v μ1 hp_
theorem bX12_riddles_48 {Z : ZT} {X : XT} {μ : Mu} {s0 : Int32} (E : Ent Z X mX12_riddles 0 0) {P : Option Value → Mu → Prop} (hB : BodS Z X P) 
    (k : P (some (.int s0)) μ) :
    JS Z X 48 [] [.int s0] μ := by
  exact S_iret E hB dX12_riddles_48 rfl k
theorem bX12_riddles_49 {Z : ZT} {X : XT} {μ : Mu} {a1 : Int32} {a2 : Int32} (E : Ent Z X mX12_riddles 0 0) {p : Int32 → Mu → Prop} (s1_ : vp_in a2 6) (s2_ : vp_in ((nI 163) + (μ 462 (ix a2))) 988) (s3_ : vp_in a2 6)
    (c : CtrS Z mX12_missesAt [.ref (Z.2.2.1 + 455), .int a1, .int (μ 456 (ix ((nI 163) + (μ 462 (ix a2))))), .int (μ 463 (ix a2))] μ (rI p)) (k : ∀ v μ1, p v μ1 → JS Z X 79 [(0, .ref (Z.2.2.1 + 455))] [.int v, .int (nI 1000000), .int (nI 2), .ref (Z.2.2.1 + 455)] μ1) :
    JS Z X 49 [(0, .ref (Z.2.2.1 + 455)), (1, .int a1), (2, .int a2)] [] μ := by
  refine J_aload_n E dX12_riddles_49 rfl ?_
  refine J_iconst (v := nI 2) E dX12_riddles_50 rfl ?_
  refine J_ldc (v := nI 1000000) E dX12_riddles_51 w6_221 ?_
  refine J_aload_n E dX12_riddles_53 rfl ?_
  refine J_iload_n E dX12_riddles_54 rfl ?_
  refine J_aload_n E dX12_riddles_55 rfl ?_
  refine S_get (ci := 12) (q := 0) (v := .ref (Z.2.2.1 + 456)) E dX12_riddles_56 fs_X12_7 sh455 rfl ?_
  refine J_sipush (v := nI 163) E dX12_riddles_59 rfl ?_
  refine J_aload_n E dX12_riddles_62 rfl ?_
  refine S_get (ci := 12) (q := 14) (v := .ref (Z.2.2.1 + 462)) E dX12_riddles_63 fs_X12_30 sh455 rfl ?_
  refine J_iload_n E dX12_riddles_66 rfl ?_
  refine S_iald E dX12_riddles_67 sh462 s1_ ?_
  refine J_iadd E dX12_riddles_68 ?_
  refine S_iald E dX12_riddles_69 sh456 s2_ ?_
  refine J_aload_n E dX12_riddles_70 rfl ?_
  refine S_get (ci := 12) (q := 15) (v := .ref (Z.2.2.1 + 463)) E dX12_riddles_71 fs_X12_33 sh455 rfl ?_
  refine J_iload_n E dX12_riddles_74 rfl ?_
  refine S_iald E dX12_riddles_75 sh463 s3_ ?_
  refine S_callV (As := [.int a1, .int (μ 456 (ix ((nI 163) + (μ 462 (ix a2))))), .int (μ 463 (ix a2))]) (rest := [.int (nI 1000000), .int (nI 2), .ref (Z.2.2.1 + 455)]) E dX12_riddles_76 c kX12_missesAt ⟨Nat.le_of_ble_eq_true rfl, Nat.le_of_ble_eq_true rfl⟩ rfl (Nat.le_of_ble_eq_true rfl) sh455 rfl rfl w6_222 w6_224 wp_53 (fun r_ μ1 hp_ => ?_)
  obtain ⟨v, rfl, hp_⟩ := hp_
  refine J.weak [0] rfl ?_
  exact k v μ1 hp_
theorem bX12_riddles_79 {Z : ZT} {X : XT} {μ : Mu} {s1 : Int32} {s2 : Int32} {s3 : Int32} (E : Ent Z X mX12_riddles 0 0) {p : Mu → Prop} 
    (c : CtrS Z mX12_set [.ref (Z.2.2.1 + 455), .int s1, .int (s2 - s3)] μ (rV p)) (k : ∀ μ1, p μ1 → JS Z X 83 [(0, .ref (Z.2.2.1 + 455))] [] μ1) :
    JS Z X 79 [(0, .ref (Z.2.2.1 + 455))] [.int s3, .int s2, .int s1, .ref (Z.2.2.1 + 455)] μ := by
  refine J_isub E dX12_riddles_79 ?_
  refine S_callV (As := [.int s1, .int (s2 - s3)]) (rest := []) E dX12_riddles_80 c kX12_set ⟨Nat.le_of_ble_eq_true rfl, Nat.le_of_ble_eq_true rfl⟩ rfl (Nat.le_of_ble_eq_true rfl) sh455 rfl rfl w6_230 w6_232 wp_55 (fun r_ μ1 hp_ => ?_)
  obtain ⟨rfl, hp_⟩ := hp_
  exact k μ1 hp_
theorem bX12_riddles_83 {Z : ZT} {X : XT} {μ : Mu} (E : Ent Z X mX12_riddles 0 0) {p : Mu → Prop} 
    (c : CtrS Z mX12_tell [.ref (Z.2.2.1 + 455), .int (nI 2), .int (nI 6)] μ (rV p)) (k : ∀ μ1, p μ1 → JS Z X 90 [] [] μ1) :
    JS Z X 83 [(0, .ref (Z.2.2.1 + 455))] [] μ := by
  refine J_aload_n E dX12_riddles_83 rfl ?_
  refine J_iconst (v := nI 2) E dX12_riddles_84 rfl ?_
  refine J_bipush (v := nI 6) E dX12_riddles_85 rfl ?_
  refine S_callV (As := [.int (nI 2), .int (nI 6)]) (rest := []) E dX12_riddles_87 c kX12_tell ⟨Nat.le_of_ble_eq_true rfl, Nat.le_of_ble_eq_true rfl⟩ rfl (Nat.le_of_ble_eq_true rfl) sh455 rfl rfl w6_234 w6_236 wp_56 (fun r_ μ1 hp_ => ?_)
  obtain ⟨rfl, hp_⟩ := hp_
  refine J.weak [] rfl ?_
  exact k μ1 hp_
theorem bX12_riddles_90 {Z : ZT} {X : XT} {μ : Mu} (E : Ent Z X mX12_riddles 0 0) {P : Option Value → Mu → Prop} (hB : BodS Z X P) 
    (k : P (some (.int (nI 1))) μ) :
    JS Z X 90 [] [] μ := by
  refine J_iconst (v := nI 1) E dX12_riddles_90 rfl ?_
  exact S_iret E hB dX12_riddles_91 rfl k
theorem dX12_length_0 : decode cX12_length 0 = .ok (.iload_n 1, 1) := by decide +kernel
theorem dX12_length_1 : decode cX12_length 1 = .ok (.invokestatic 85, 3) := by decide +kernel
theorem dX12_length_4 : decode cX12_length 4 = .ok (.ifCond .eq 12, 3) := by decide +kernel
theorem dX12_length_7 : decode cX12_length 7 = .ok (.iload_n 2, 1) := by decide +kernel
theorem dX12_length_8 : decode cX12_length 8 = .ok (.iconst 0, 1) := by decide +kernel
theorem dX12_length_9 : decode cX12_length 9 = .ok (.iconst 2, 1) := by decide +kernel
theorem dX12_length_10 : decode cX12_length 10 = .ok (.invokestatic 67, 3) := by decide +kernel
theorem dX12_length_13 : decode cX12_length 13 = .ok (.ifCond .ne 10, 3) := by decide +kernel
theorem dX12_length_16 : decode cX12_length 16 = .ok (.aload_n 0, 1) := by decide +kernel
theorem dX12_length_17 : decode cX12_length 17 = .ok (.bipush (-2), 2) := by decide +kernel
theorem dX12_length_19 : decode cX12_length 19 = .ok (.invokevirtual 63, 3) := by decide +kernel
theorem dX12_length_22 : decode cX12_length 22 = .ok (.ireturn, 1) := by decide +kernel
theorem dX12_length_23 : decode cX12_length 23 = .ok (.aload_n 0, 1) := by decide +kernel
theorem dX12_length_24 : decode cX12_length 24 = .ok (.iload_n 1, 1) := by decide +kernel
theorem dX12_length_25 : decode cX12_length 25 = .ok (.invokevirtual 235, 3) := by decide +kernel
theorem dX12_length_28 : decode cX12_length 28 = .ok (.ifCond .ne 10, 3) := by decide +kernel
theorem dX12_length_31 : decode cX12_length 31 = .ok (.aload_n 0, 1) := by decide +kernel
theorem dX12_length_32 : decode cX12_length 32 = .ok (.bipush (-3), 2) := by decide +kernel
theorem dX12_length_34 : decode cX12_length 34 = .ok (.invokevirtual 63, 3) := by decide +kernel
theorem dX12_length_37 : decode cX12_length 37 = .ok (.ireturn, 1) := by decide +kernel
theorem dX12_length_38 : decode cX12_length 38 = .ok (.aload_n 0, 1) := by decide +kernel
theorem dX12_length_39 : decode cX12_length 39 = .ok (.getfield 175, 3) := by decide +kernel
theorem dX12_length_42 : decode cX12_length 42 = .ok (.istore_n 3, 1) := by decide +kernel
theorem dX12_length_43 : decode cX12_length 43 = .ok (.iconst 0, 1) := by decide +kernel
theorem dX12_length_44 : decode cX12_length 44 = .ok (.istore 4, 2) := by decide +kernel
theorem dX12_length_46 : decode cX12_length 46 = .ok (.iload 4, 2) := by decide +kernel
theorem dX12_length_48 : decode cX12_length 48 = .ok (.aload_n 0, 1) := by decide +kernel
theorem dX12_length_49 : decode cX12_length 49 = .ok (.getfield 168, 3) := by decide +kernel
theorem dX12_length_52 : decode cX12_length 52 = .ok (.if_icmp .ge 19, 3) := by decide +kernel
theorem dX12_length_55 : decode cX12_length 55 = .ok (.iload_n 3, 1) := by decide +kernel
theorem dX12_length_56 : decode cX12_length 56 = .ok (.aload_n 0, 1) := by decide +kernel
theorem dX12_length_57 : decode cX12_length 57 = .ok (.iload_n 1, 1) := by decide +kernel
theorem dX12_length_58 : decode cX12_length 58 = .ok (.iload 4, 2) := by decide +kernel
theorem dX12_length_60 : decode cX12_length 60 = .ok (.invokevirtual 241, 3) := by decide +kernel
theorem dX12_length_63 : decode cX12_length 63 = .ok (.iadd, 1) := by decide +kernel
theorem dX12_length_64 : decode cX12_length 64 = .ok (.istore_n 3, 1) := by decide +kernel
theorem dX12_length_65 : decode cX12_length 65 = .ok (.iinc 4 1, 3) := by decide +kernel
theorem dX12_length_68 : decode cX12_length 68 = .ok (.goto (-22), 3) := by decide +kernel
theorem dX12_length_71 : decode cX12_length 71 = .ok (.iload_n 2, 1) := by decide +kernel
theorem dX12_length_72 : decode cX12_length 72 = .ok (.iconst 2, 1) := by decide +kernel
theorem dX12_length_73 : decode cX12_length 73 = .ok (.if_icmp .ne 16, 3) := by decide +kernel
theorem dX12_length_76 : decode cX12_length 76 = .ok (.aload_n 0, 1) := by decide +kernel
theorem dX12_length_77 : decode cX12_length 77 = .ok (.iconst 4, 1) := by decide +kernel
theorem dX12_length_78 : decode cX12_length 78 = .ok (.iload_n 1, 1) := by decide +kernel
theorem dX12_length_79 : decode cX12_length 79 = .ok (.invokevirtual 244, 3) := by decide +kernel
theorem dX12_length_82 : decode cX12_length 82 = .ok (.aload_n 0, 1) := by decide +kernel
theorem dX12_length_83 : decode cX12_length 83 = .ok (.iconst 4, 1) := by decide +kernel
theorem dX12_length_84 : decode cX12_length 84 = .ok (.bipush 30, 2) := by decide +kernel
theorem dX12_length_86 : decode cX12_length 86 = .ok (.invokevirtual 238, 3) := by decide +kernel
theorem dX12_length_89 : decode cX12_length 89 = .ok (.iload_n 2, 1) := by decide +kernel
theorem dX12_length_90 : decode cX12_length 90 = .ok (.ifCond .ne 7, 3) := by decide +kernel
theorem dX12_length_93 : decode cX12_length 93 = .ok (.iload_n 3, 1) := by decide +kernel
theorem dX12_length_94 : decode cX12_length 94 = .ok (.goto 30, 3) := by decide +kernel
theorem dX12_length_97 : decode cX12_length 97 = .ok (.iload_n 2, 1) := by decide +kernel
theorem dX12_length_98 : decode cX12_length 98 = .ok (.iconst 1, 1) := by decide +kernel
theorem dX12_length_99 : decode cX12_length 99 = .ok (.if_icmp .ne 24, 3) := by decide +kernel
theorem dX12_length_102 : decode cX12_length 102 = .ok (.aload_n 0, 1) := by decide +kernel
theorem dX12_length_103 : decode cX12_length 103 = .ok (.getfield 175, 3) := by decide +kernel
theorem dX12_length_106 : decode cX12_length 106 = .ok (.aload_n 0, 1) := by decide +kernel
theorem dX12_length_107 : decode cX12_length 107 = .ok (.getfield 168, 3) := by decide +kernel
theorem dX12_length_110 : decode cX12_length 110 = .ok (.aload_n 0, 1) := by decide +kernel
theorem dX12_length_111 : decode cX12_length 111 = .ok (.getfield 7, 3) := by decide +kernel
theorem dX12_length_114 : decode cX12_length 114 = .ok (.sipush 201, 3) := by decide +kernel
theorem dX12_length_117 : decode cX12_length 117 = .ok (.iaload, 1) := by decide +kernel
theorem dX12_length_118 : decode cX12_length 118 = .ok (.imul, 1) := by decide +kernel
theorem dX12_length_119 : decode cX12_length 119 = .ok (.iadd, 1) := by decide +kernel
theorem dX12_length_120 : decode cX12_length 120 = .ok (.goto 4, 3) := by decide +kernel
theorem dX12_length_123 : decode cX12_length 123 = .ok (.iconst 1, 1) := by decide +kernel
theorem dX12_length_124 : decode cX12_length 124 = .ok (.ireturn, 1) := by decide +kernel
theorem bX12_length_0 {Z : ZT} {X : XT} {μ : Mu} {a1 : Int32} {a2 : Int32} (E : Ent Z X mX12_length 0 0) {p : Int32 → Mu → Prop} 
    (c : CtrS Z mX12_isLot [.int a1] μ (rI p)) (k : ∀ v μ1, p v μ1 → JS Z X 4 [(0, .ref (Z.2.2.1 + 455)), (1, .int a1), (2, .int a2)] [.int v] μ1) :
    JS Z X 0 [(0, .ref (Z.2.2.1 + 455)), (1, .int a1), (2, .int a2)] [] μ := by
  refine J_iload_n E dX12_length_0 rfl ?_
  refine S_callS (As := [.int a1]) (rest := []) E dX12_length_1 c kX12_isLot ⟨Nat.le_of_ble_eq_true rfl, Nat.le_of_ble_eq_true rfl⟩ rfl (Nat.le_of_ble_eq_true rfl) w6_138 w6_139 (fun r_ μ1 hp_ => ?_)
  obtain ⟨v, rfl, hp_⟩ := hp_
  exact k v μ1 hp_
theorem bX12_length_4 {Z : ZT} {X : XT} {μ : Mu} {a1 : Int32} {a2 : Int32} {s0 : Int32} (E : Ent Z X mX12_length 0 0)  
    (kt : s0 = 0 → JS Z X 16 [(0, .ref (Z.2.2.1 + 455))] [] μ) (kf : ¬ (s0 = 0) → JS Z X 7 [(0, .ref (Z.2.2.1 + 455)), (1, .int a1), (2, .int a2)] [] μ) :
    JS Z X 4 [(0, .ref (Z.2.2.1 + 455)), (1, .int a1), (2, .int a2)] [.int s0] μ := by
  refine J_if_eq (tgt := 16) E dX12_length_4 (by decide) (fun c => ?_) (fun c => ?_)
  · refine J.weak [0] rfl ?_
    exact kt c
  · exact kf c
theorem bX12_length_7 {Z : ZT} {X : XT} {μ : Mu} {a1 : Int32} {a2 : Int32} (E : Ent Z X mX12_length 0 0) {p : Int32 → Mu → Prop} 
    (c : CtrS Z mX12_in [.int a2, .int (nI 0), .int (nI 2)] μ (rI p)) (k : ∀ v μ1, p v μ1 → JS Z X 13 [(0, .ref (Z.2.2.1 + 455)), (1, .int a1), (2, .int a2)] [.int v] μ1) :
    JS Z X 7 [(0, .ref (Z.2.2.1 + 455)), (1, .int a1), (2, .int a2)] [] μ := by
  refine J_iload_n E dX12_length_7 rfl ?_
  refine J_iconst (v := nI 0) E dX12_length_8 rfl ?_
  refine J_iconst (v := nI 2) E dX12_length_9 rfl ?_
  refine S_callS (As := [.int a2, .int (nI 0), .int (nI 2)]) (rest := []) E dX12_length_10 c kX12_in ⟨Nat.le_of_ble_eq_true rfl, Nat.le_of_ble_eq_true rfl⟩ rfl (Nat.le_of_ble_eq_true rfl) w6_67 w6_68 (fun r_ μ1 hp_ => ?_)
  obtain ⟨v, rfl, hp_⟩ := hp_
  exact k v μ1 hp_
theorem bX12_length_13 {Z : ZT} {X : XT} {μ : Mu} {a1 : Int32} {a2 : Int32} {s0 : Int32} (E : Ent Z X mX12_length 0 0)  
    (kt : ¬ s0 = 0 → JS Z X 23 [(0, .ref (Z.2.2.1 + 455)), (1, .int a1), (2, .int a2)] [] μ) (kf : s0 = 0 → JS Z X 16 [(0, .ref (Z.2.2.1 + 455))] [] μ) :
    JS Z X 13 [(0, .ref (Z.2.2.1 + 455)), (1, .int a1), (2, .int a2)] [.int s0] μ := by
  refine J_if_ne (tgt := 23) E dX12_length_13 (by decide) (fun c => ?_) (fun c => ?_)
  · exact kt c
  · refine J.weak [0] rfl ?_
    exact kf c
theorem bX12_length_16 {Z : ZT} {X : XT} {μ : Mu} (E : Ent Z X mX12_length 0 0) {p : Int32 → Mu → Prop} 
    (c : CtrS Z mX12_refuse [.ref (Z.2.2.1 + 455), .int (-2)] μ (rI p)) (k : ∀ v μ1, p v μ1 → JS Z X 22 [] [.int v] μ1) :
    JS Z X 16 [(0, .ref (Z.2.2.1 + 455))] [] μ := by
  refine J_aload_n E dX12_length_16 rfl ?_
  refine J_bipush (v := -2) E dX12_length_17 rfl ?_
  refine S_callV (As := [.int (-2)]) (rest := []) E dX12_length_19 c kX12_refuse ⟨Nat.le_of_ble_eq_true rfl, Nat.le_of_ble_eq_true rfl⟩ rfl (Nat.le_of_ble_eq_true rfl) sh455 rfl rfl w6_51 w6_53 wp_30 (fun r_ μ1 hp_ => ?_)
  obtain ⟨v, rfl, hp_⟩ := hp_
  refine J.weak [] rfl ?_
  exact k v μ1 hp_
theorem bX12_length_22 {Z : ZT} {X : XT} {μ : Mu} {s0 : Int32} (E : Ent Z X mX12_length 0 0) {P : Option Value → Mu → Prop} (hB : BodS Z X P) 
    (k : P (some (.int s0)) μ) :
    JS Z X 22 [] [.int s0] μ := by
  exact S_iret E hB dX12_length_22 rfl k
theorem bX12_length_23 {Z : ZT} {X : XT} {μ : Mu} {a1 : Int32} {a2 : Int32} (E : Ent Z X mX12_length 0 0) {p : Int32 → Mu → Prop} 
    (c : CtrS Z mX12_isHunt [.ref (Z.2.2.1 + 455), .int a1] μ (rI p)) (k : ∀ v μ1, p v μ1 → JS Z X 28 [(0, .ref (Z.2.2.1 + 455)), (1, .int a1), (2, .int a2)] [.int v] μ1) :
    JS Z X 23 [(0, .ref (Z.2.2.1 + 455)), (1, .int a1), (2, .int a2)] [] μ := by
  refine J_aload_n E dX12_length_23 rfl ?_
  refine J_iload_n E dX12_length_24 rfl ?_
  refine S_callV (As := [.int a1]) (rest := []) E dX12_length_25 c kX12_isHunt ⟨Nat.le_of_ble_eq_true rfl, Nat.le_of_ble_eq_true rfl⟩ rfl (Nat.le_of_ble_eq_true rfl) sh455 rfl rfl w6_197 w6_199 wp_47 (fun r_ μ1 hp_ => ?_)
  obtain ⟨v, rfl, hp_⟩ := hp_
  exact k v μ1 hp_
theorem bX12_length_28 {Z : ZT} {X : XT} {μ : Mu} {a1 : Int32} {a2 : Int32} {s0 : Int32} (E : Ent Z X mX12_length 0 0)  
    (kt : ¬ s0 = 0 → JS Z X 38 [(0, .ref (Z.2.2.1 + 455)), (1, .int a1), (2, .int a2)] [] μ) (kf : s0 = 0 → JS Z X 31 [(0, .ref (Z.2.2.1 + 455))] [] μ) :
    JS Z X 28 [(0, .ref (Z.2.2.1 + 455)), (1, .int a1), (2, .int a2)] [.int s0] μ := by
  refine J_if_ne (tgt := 38) E dX12_length_28 (by decide) (fun c => ?_) (fun c => ?_)
  · exact kt c
  · refine J.weak [0] rfl ?_
    exact kf c
theorem bX12_length_31 {Z : ZT} {X : XT} {μ : Mu} (E : Ent Z X mX12_length 0 0) {p : Int32 → Mu → Prop} 
    (c : CtrS Z mX12_refuse [.ref (Z.2.2.1 + 455), .int (-3)] μ (rI p)) (k : ∀ v μ1, p v μ1 → JS Z X 37 [] [.int v] μ1) :
    JS Z X 31 [(0, .ref (Z.2.2.1 + 455))] [] μ := by
  refine J_aload_n E dX12_length_31 rfl ?_
  refine J_bipush (v := -3) E dX12_length_32 rfl ?_
  refine S_callV (As := [.int (-3)]) (rest := []) E dX12_length_34 c kX12_refuse ⟨Nat.le_of_ble_eq_true rfl, Nat.le_of_ble_eq_true rfl⟩ rfl (Nat.le_of_ble_eq_true rfl) sh455 rfl rfl w6_51 w6_53 wp_30 (fun r_ μ1 hp_ => ?_)
  obtain ⟨v, rfl, hp_⟩ := hp_
  refine J.weak [] rfl ?_
  exact k v μ1 hp_
theorem bX12_length_37 {Z : ZT} {X : XT} {μ : Mu} {s0 : Int32} (E : Ent Z X mX12_length 0 0) {P : Option Value → Mu → Prop} (hB : BodS Z X P) 
    (k : P (some (.int s0)) μ) :
    JS Z X 37 [] [.int s0] μ := by
  exact S_iret E hB dX12_length_37 rfl k
theorem bX12_length_38 {Z : ZT} {X : XT} {μ : Mu} {a1 : Int32} {a2 : Int32} (E : Ent Z X mX12_length 0 0)  
    (k : JS Z X 46 [(0, .ref (Z.2.2.1 + 455)), (1, .int a1), (2, .int a2), (3, .int (μ 455 17)), (4, .int (nI 0))] [] μ) :
    JS Z X 38 [(0, .ref (Z.2.2.1 + 455)), (1, .int a1), (2, .int a2)] [] μ := by
  refine J_aload_n E dX12_length_38 rfl ?_
  refine S_get (ci := 12) (q := 17) (v := .int (μ 455 17)) E dX12_length_39 fs_X12_175 sh455 rfl ?_
  refine J_istore_n (lv' := [(0, .ref (Z.2.2.1 + 455)), (1, .int a1), (2, .int a2), (3, .int (μ 455 17))]) E dX12_length_42 (Nat.le_of_ble_eq_true rfl) rfl ?_
  refine J_iconst (v := nI 0) E dX12_length_43 rfl ?_
  refine J_istore (lv' := [(0, .ref (Z.2.2.1 + 455)), (1, .int a1), (2, .int a2), (3, .int (μ 455 17)), (4, .int (nI 0))]) E dX12_length_44 (Nat.le_of_ble_eq_true rfl) rfl ?_
  exact k
theorem bX12_length_46 {Z : ZT} {X : XT} {μ : Mu} {a1 : Int32} {a2 : Int32} {a3 : Int32} {a4 : Int32} (E : Ent Z X mX12_length 0 0)  
    (kt : (μ 455 13) ≤ a4 → JS Z X 71 [(0, .ref (Z.2.2.1 + 455)), (1, .int a1), (2, .int a2), (3, .int a3)] [] μ) (kf : ¬ ((μ 455 13) ≤ a4) → JS Z X 55 [(0, .ref (Z.2.2.1 + 455)), (1, .int a1), (2, .int a2), (3, .int a3), (4, .int a4)] [] μ) :
    JS Z X 46 [(0, .ref (Z.2.2.1 + 455)), (1, .int a1), (2, .int a2), (3, .int a3), (4, .int a4)] [] μ := by
  refine J_iload E dX12_length_46 rfl ?_
  refine J_aload_n E dX12_length_48 rfl ?_
  refine S_get (ci := 12) (q := 13) (v := .int (μ 455 13)) E dX12_length_49 fs_X12_168 sh455 rfl ?_
  refine J_icmp_ge (tgt := 71) E dX12_length_52 (by decide) (fun c => ?_) (fun c => ?_)
  · refine J.weak [0, 1, 2, 3] rfl ?_
    exact kt c
  · exact kf c
theorem bX12_length_55 {Z : ZT} {X : XT} {μ : Mu} {a1 : Int32} {a2 : Int32} {a3 : Int32} {a4 : Int32} (E : Ent Z X mX12_length 0 0) {p : Int32 → Mu → Prop} 
    (c : CtrS Z mX12_leastOf [.ref (Z.2.2.1 + 455), .int a1, .int a4] μ (rI p)) (k : ∀ v μ1, p v μ1 → JS Z X 63 [(0, .ref (Z.2.2.1 + 455)), (1, .int a1), (2, .int a2), (4, .int a4)] [.int v, .int a3] μ1) :
    JS Z X 55 [(0, .ref (Z.2.2.1 + 455)), (1, .int a1), (2, .int a2), (3, .int a3), (4, .int a4)] [] μ := by
  refine J_iload_n E dX12_length_55 rfl ?_
  refine J_aload_n E dX12_length_56 rfl ?_
  refine J_iload_n E dX12_length_57 rfl ?_
  refine J_iload E dX12_length_58 rfl ?_
  refine S_callV (As := [.int a1, .int a4]) (rest := [.int a3]) E dX12_length_60 c kX12_leastOf ⟨Nat.le_of_ble_eq_true rfl, Nat.le_of_ble_eq_true rfl⟩ rfl (Nat.le_of_ble_eq_true rfl) sh455 rfl rfl w7_23 w7_25 wp_62 (fun r_ μ1 hp_ => ?_)
  obtain ⟨v, rfl, hp_⟩ := hp_
  refine J.weak [0, 1, 2, 4] rfl ?_
  exact k v μ1 hp_
theorem bX12_length_63 {Z : ZT} {X : XT} {μ : Mu} {a1 : Int32} {a2 : Int32} {a4 : Int32} {s0 : Int32} {s1 : Int32} (E : Ent Z X mX12_length 0 0)  
    (k : JS Z X 46 [(0, .ref (Z.2.2.1 + 455)), (1, .int a1), (2, .int a2), (3, .int (s0 + s1)), (4, .int (a4 + nI 1))] [] μ) :
    JS Z X 63 [(0, .ref (Z.2.2.1 + 455)), (1, .int a1), (2, .int a2), (4, .int a4)] [.int s1, .int s0] μ := by
  refine J_iadd E dX12_length_63 ?_
  refine J_istore_n (lv' := [(0, .ref (Z.2.2.1 + 455)), (1, .int a1), (2, .int a2), (3, .int (s0 + s1)), (4, .int a4)]) E dX12_length_64 (Nat.le_of_ble_eq_true rfl) rfl ?_
  refine J_iinc (v := a4 + nI 1) (lv' := [(0, .ref (Z.2.2.1 + 455)), (1, .int a1), (2, .int a2), (3, .int (s0 + s1)), (4, .int (a4 + nI 1))]) E dX12_length_65 rfl rfl (Nat.le_of_ble_eq_true rfl) rfl ?_
  refine J_goto (tgt := 46) E dX12_length_68 (by decide) ?_
  exact k
theorem bX12_length_71 {Z : ZT} {X : XT} {μ : Mu} {a1 : Int32} {a2 : Int32} {a3 : Int32} (E : Ent Z X mX12_length 0 0)  
    (kt : ¬ a2 = (nI 2) → JS Z X 89 [(0, .ref (Z.2.2.1 + 455)), (2, .int a2), (3, .int a3)] [] μ) (kf : a2 = (nI 2) → JS Z X 76 [(0, .ref (Z.2.2.1 + 455)), (1, .int a1), (2, .int a2), (3, .int a3)] [] μ) :
    JS Z X 71 [(0, .ref (Z.2.2.1 + 455)), (1, .int a1), (2, .int a2), (3, .int a3)] [] μ := by
  refine J_iload_n E dX12_length_71 rfl ?_
  refine J_iconst (v := nI 2) E dX12_length_72 rfl ?_
  refine J_icmp_ne (tgt := 89) E dX12_length_73 (by decide) (fun c => ?_) (fun c => ?_)
  · refine J.weak [0, 2, 3] rfl ?_
    exact kt c
  · exact kf c
theorem bX12_length_76 {Z : ZT} {X : XT} {μ : Mu} {a1 : Int32} {a2 : Int32} {a3 : Int32} (E : Ent Z X mX12_length 0 0) {p : Mu → Prop} 
    (c : CtrS Z mX12_lengthTo [.ref (Z.2.2.1 + 455), .int (nI 4), .int a1] μ (rV p)) (k : ∀ μ1, p μ1 → JS Z X 82 [(0, .ref (Z.2.2.1 + 455)), (2, .int a2), (3, .int a3)] [] μ1) :
    JS Z X 76 [(0, .ref (Z.2.2.1 + 455)), (1, .int a1), (2, .int a2), (3, .int a3)] [] μ := by
  refine J_aload_n E dX12_length_76 rfl ?_
  refine J_iconst (v := nI 4) E dX12_length_77 rfl ?_
  refine J_iload_n E dX12_length_78 rfl ?_
  refine S_callV (As := [.int (nI 4), .int a1]) (rest := []) E dX12_length_79 c kX12_lengthTo ⟨Nat.le_of_ble_eq_true rfl, Nat.le_of_ble_eq_true rfl⟩ rfl (Nat.le_of_ble_eq_true rfl) sh455 rfl rfl w7_27 w7_29 wp_63 (fun r_ μ1 hp_ => ?_)
  obtain ⟨rfl, hp_⟩ := hp_
  refine J.weak [0, 2, 3] rfl ?_
  exact k μ1 hp_
theorem bX12_length_82 {Z : ZT} {X : XT} {μ : Mu} {a2 : Int32} {a3 : Int32} (E : Ent Z X mX12_length 0 0) {p : Mu → Prop} 
    (c : CtrS Z mX12_tell [.ref (Z.2.2.1 + 455), .int (nI 4), .int (nI 30)] μ (rV p)) (k : ∀ μ1, p μ1 → JS Z X 89 [(0, .ref (Z.2.2.1 + 455)), (2, .int a2), (3, .int a3)] [] μ1) :
    JS Z X 82 [(0, .ref (Z.2.2.1 + 455)), (2, .int a2), (3, .int a3)] [] μ := by
  refine J_aload_n E dX12_length_82 rfl ?_
  refine J_iconst (v := nI 4) E dX12_length_83 rfl ?_
  refine J_bipush (v := nI 30) E dX12_length_84 rfl ?_
  refine S_callV (As := [.int (nI 4), .int (nI 30)]) (rest := []) E dX12_length_86 c kX12_tell ⟨Nat.le_of_ble_eq_true rfl, Nat.le_of_ble_eq_true rfl⟩ rfl (Nat.le_of_ble_eq_true rfl) sh455 rfl rfl w6_234 w6_236 wp_56 (fun r_ μ1 hp_ => ?_)
  obtain ⟨rfl, hp_⟩ := hp_
  exact k μ1 hp_
theorem bX12_length_89 {Z : ZT} {X : XT} {μ : Mu} {a2 : Int32} {a3 : Int32} (E : Ent Z X mX12_length 0 0)  
    (kt : ¬ a2 = 0 → JS Z X 97 [(0, .ref (Z.2.2.1 + 455)), (2, .int a2)] [] μ) (kf : a2 = 0 → JS Z X 93 [(3, .int a3)] [] μ) :
    JS Z X 89 [(0, .ref (Z.2.2.1 + 455)), (2, .int a2), (3, .int a3)] [] μ := by
  refine J_iload_n E dX12_length_89 rfl ?_
  refine J_if_ne (tgt := 97) E dX12_length_90 (by decide) (fun c => ?_) (fun c => ?_)
  · refine J.weak [0, 1] rfl ?_
    exact kt c
  · refine J.weak [2] rfl ?_
    exact kf c
theorem bX12_length_93 {Z : ZT} {X : XT} {μ : Mu} {a3 : Int32} (E : Ent Z X mX12_length 0 0)  
    (k : JS Z X 124 [] [.int a3] μ) :
    JS Z X 93 [(3, .int a3)] [] μ := by
  refine J_iload_n E dX12_length_93 rfl ?_
  refine J_goto (tgt := 124) E dX12_length_94 (by decide) ?_
  refine J.weak [] rfl ?_
  exact k
theorem bX12_length_97 {Z : ZT} {X : XT} {μ : Mu} {a2 : Int32} (E : Ent Z X mX12_length 0 0)  
    (kt : ¬ a2 = (nI 1) → JS Z X 123 [] [] μ) (kf : a2 = (nI 1) → JS Z X 102 [(0, .ref (Z.2.2.1 + 455))] [] μ) :
    JS Z X 97 [(0, .ref (Z.2.2.1 + 455)), (2, .int a2)] [] μ := by
  refine J_iload_n E dX12_length_97 rfl ?_
  refine J_iconst (v := nI 1) E dX12_length_98 rfl ?_
  refine J_icmp_ne (tgt := 123) E dX12_length_99 (by decide) (fun c => ?_) (fun c => ?_)
  · refine J.weak [] rfl ?_
    exact kt c
  · refine J.weak [0] rfl ?_
    exact kf c
theorem bX12_length_102 {Z : ZT} {X : XT} {μ : Mu} (E : Ent Z X mX12_length 0 0)  (s1_ : vp_in (nI 201) 988)
    (k : JS Z X 124 [] [.int ((μ 455 17) + ((μ 455 13) * (μ 456 (ix (nI 201)))))] μ) :
    JS Z X 102 [(0, .ref (Z.2.2.1 + 455))] [] μ := by
  refine J_aload_n E dX12_length_102 rfl ?_
  refine S_get (ci := 12) (q := 17) (v := .int (μ 455 17)) E dX12_length_103 fs_X12_175 sh455 rfl ?_
  refine J_aload_n E dX12_length_106 rfl ?_
  refine S_get (ci := 12) (q := 13) (v := .int (μ 455 13)) E dX12_length_107 fs_X12_168 sh455 rfl ?_
  refine J_aload_n E dX12_length_110 rfl ?_
  refine S_get (ci := 12) (q := 0) (v := .ref (Z.2.2.1 + 456)) E dX12_length_111 fs_X12_7 sh455 rfl ?_
  refine J_sipush (v := nI 201) E dX12_length_114 rfl ?_
  refine S_iald E dX12_length_117 sh456 s1_ ?_
  refine J_imul E dX12_length_118 ?_
  refine J_iadd E dX12_length_119 ?_
  refine J_goto (tgt := 124) E dX12_length_120 (by decide) ?_
  refine J.weak [] rfl ?_
  exact k
theorem bX12_length_123 {Z : ZT} {X : XT} {μ : Mu} (E : Ent Z X mX12_length 0 0)  
    (k : JS Z X 124 [] [.int (nI 1)] μ) :
    JS Z X 123 [] [] μ := by
  refine J_iconst (v := nI 1) E dX12_length_123 rfl ?_
  exact k
theorem bX12_length_124 {Z : ZT} {X : XT} {μ : Mu} {s0 : Int32} (E : Ent Z X mX12_length 0 0) {P : Option Value → Mu → Prop} (hB : BodS Z X P) 
    (k : P (some (.int s0)) μ) :
    JS Z X 124 [] [.int s0] μ := by
  exact S_iret E hB dX12_length_124 rfl k
theorem dX12_weighLengths_0 : decode cX12_weighLengths 0 = .ok (.iconst 0, 1) := by decide +kernel
theorem dX12_weighLengths_1 : decode cX12_weighLengths 1 = .ok (.istore_n 3, 1) := by decide +kernel
theorem dX12_weighLengths_2 : decode cX12_weighLengths 2 = .ok (.iload_n 3, 1) := by decide +kernel
theorem dX12_weighLengths_3 : decode cX12_weighLengths 3 = .ok (.bipush 40, 2) := by decide +kernel
theorem dX12_weighLengths_5 : decode cX12_weighLengths 5 = .ok (.if_icmp .ge 26, 3) := by decide +kernel
theorem dX12_weighLengths_8 : decode cX12_weighLengths 8 = .ok (.aload_n 0, 1) := by decide +kernel
theorem dX12_weighLengths_9 : decode cX12_weighLengths 9 = .ok (.bipush 16, 2) := by decide +kernel
theorem dX12_weighLengths_11 : decode cX12_weighLengths 11 = .ok (.iload_n 3, 1) := by decide +kernel
theorem dX12_weighLengths_12 : decode cX12_weighLengths 12 = .ok (.iadd, 1) := by decide +kernel
theorem dX12_weighLengths_13 : decode cX12_weighLengths 13 = .ok (.iload_n 3, 1) := by decide +kernel
theorem dX12_weighLengths_14 : decode cX12_weighLengths 14 = .ok (.ifCond .ne 7, 3) := by decide +kernel
theorem dX12_weighLengths_17 : decode cX12_weighLengths 17 = .ok (.iconst 1, 1) := by decide +kernel
theorem dX12_weighLengths_18 : decode cX12_weighLengths 18 = .ok (.goto 4, 3) := by decide +kernel
theorem dX12_weighLengths_21 : decode cX12_weighLengths 21 = .ok (.iconst 0, 1) := by decide +kernel
theorem dX12_weighLengths_22 : decode cX12_weighLengths 22 = .ok (.invokevirtual 204, 3) := by decide +kernel
theorem dX12_weighLengths_25 : decode cX12_weighLengths 25 = .ok (.iinc 3 1, 3) := by decide +kernel
theorem dX12_weighLengths_28 : decode cX12_weighLengths 28 = .ok (.goto (-26), 3) := by decide +kernel
theorem dX12_weighLengths_31 : decode cX12_weighLengths 31 = .ok (.iconst 0, 1) := by decide +kernel
theorem dX12_weighLengths_32 : decode cX12_weighLengths 32 = .ok (.istore_n 3, 1) := by decide +kernel
theorem dX12_weighLengths_33 : decode cX12_weighLengths 33 = .ok (.iconst 0, 1) := by decide +kernel
theorem dX12_weighLengths_34 : decode cX12_weighLengths 34 = .ok (.istore 4, 2) := by decide +kernel
theorem dX12_weighLengths_36 : decode cX12_weighLengths 36 = .ok (.iload 4, 2) := by decide +kernel
theorem dX12_weighLengths_38 : decode cX12_weighLengths 38 = .ok (.aload_n 0, 1) := by decide +kernel
theorem dX12_weighLengths_39 : decode cX12_weighLengths 39 = .ok (.getfield 168, 3) := by decide +kernel
theorem dX12_weighLengths_42 : decode cX12_weighLengths 42 = .ok (.if_icmp .ge 161, 3) := by decide +kernel
theorem dX12_weighLengths_45 : decode cX12_weighLengths 45 = .ok (.iload 4, 2) := by decide +kernel
theorem dX12_weighLengths_47 : decode cX12_weighLengths 47 = .ok (.iload_n 2, 1) := by decide +kernel
theorem dX12_weighLengths_48 : decode cX12_weighLengths 48 = .ok (.if_icmp .ne 7, 3) := by decide +kernel
theorem dX12_weighLengths_51 : decode cX12_weighLengths 51 = .ok (.iconst 1, 1) := by decide +kernel
theorem dX12_weighLengths_52 : decode cX12_weighLengths 52 = .ok (.goto 11, 3) := by decide +kernel
theorem dX12_weighLengths_55 : decode cX12_weighLengths 55 = .ok (.aload_n 0, 1) := by decide +kernel
theorem dX12_weighLengths_56 : decode cX12_weighLengths 56 = .ok (.getfield 7, 3) := by decide +kernel
theorem dX12_weighLengths_59 : decode cX12_weighLengths 59 = .ok (.sipush 201, 3) := by decide +kernel
theorem dX12_weighLengths_62 : decode cX12_weighLengths 62 = .ok (.iaload, 1) := by decide +kernel
theorem dX12_weighLengths_63 : decode cX12_weighLengths 63 = .ok (.istore 5, 2) := by decide +kernel
theorem dX12_weighLengths_65 : decode cX12_weighLengths 65 = .ok (.aload_n 0, 1) := by decide +kernel
theorem dX12_weighLengths_66 : decode cX12_weighLengths 66 = .ok (.iload_n 1, 1) := by decide +kernel
theorem dX12_weighLengths_67 : decode cX12_weighLengths 67 = .ok (.aload_n 0, 1) := by decide +kernel
theorem dX12_weighLengths_68 : decode cX12_weighLengths 68 = .ok (.getfield 7, 3) := by decide +kernel
theorem dX12_weighLengths_71 : decode cX12_weighLengths 71 = .ok (.sipush 163, 3) := by decide +kernel
theorem dX12_weighLengths_74 : decode cX12_weighLengths 74 = .ok (.aload_n 0, 1) := by decide +kernel
theorem dX12_weighLengths_75 : decode cX12_weighLengths 75 = .ok (.getfield 30, 3) := by decide +kernel
theorem dX12_weighLengths_78 : decode cX12_weighLengths 78 = .ok (.iload 4, 2) := by decide +kernel
theorem dX12_weighLengths_80 : decode cX12_weighLengths 80 = .ok (.iaload, 1) := by decide +kernel
theorem dX12_weighLengths_81 : decode cX12_weighLengths 81 = .ok (.iadd, 1) := by decide +kernel
theorem dX12_weighLengths_82 : decode cX12_weighLengths 82 = .ok (.iaload, 1) := by decide +kernel
theorem dX12_weighLengths_83 : decode cX12_weighLengths 83 = .ok (.aload_n 0, 1) := by decide +kernel
theorem dX12_weighLengths_84 : decode cX12_weighLengths 84 = .ok (.getfield 33, 3) := by decide +kernel
theorem dX12_weighLengths_87 : decode cX12_weighLengths 87 = .ok (.iload 4, 2) := by decide +kernel
theorem dX12_weighLengths_89 : decode cX12_weighLengths 89 = .ok (.iaload, 1) := by decide +kernel
theorem dX12_weighLengths_90 : decode cX12_weighLengths 90 = .ok (.invokevirtual 222, 3) := by decide +kernel
theorem dX12_weighLengths_93 : decode cX12_weighLengths 93 = .ok (.istore 6, 2) := by decide +kernel
theorem dX12_weighLengths_95 : decode cX12_weighLengths 95 = .ok (.iconst 0, 1) := by decide +kernel
theorem dX12_weighLengths_96 : decode cX12_weighLengths 96 = .ok (.istore 7, 2) := by decide +kernel
theorem dX12_weighLengths_98 : decode cX12_weighLengths 98 = .ok (.iload 7, 2) := by decide +kernel
theorem dX12_weighLengths_100 : decode cX12_weighLengths 100 = .ok (.bipush 40, 2) := by decide +kernel
theorem dX12_weighLengths_102 : decode cX12_weighLengths 102 = .ok (.if_icmp .ge 19, 3) := by decide +kernel
theorem dX12_weighLengths_105 : decode cX12_weighLengths 105 = .ok (.aload_n 0, 1) := by decide +kernel
theorem dX12_weighLengths_106 : decode cX12_weighLengths 106 = .ok (.bipush 56, 2) := by decide +kernel
theorem dX12_weighLengths_108 : decode cX12_weighLengths 108 = .ok (.iload 7, 2) := by decide +kernel
theorem dX12_weighLengths_110 : decode cX12_weighLengths 110 = .ok (.iadd, 1) := by decide +kernel
theorem dX12_weighLengths_111 : decode cX12_weighLengths 111 = .ok (.iconst 0, 1) := by decide +kernel
theorem dX12_weighLengths_112 : decode cX12_weighLengths 112 = .ok (.invokevirtual 204, 3) := by decide +kernel
theorem dX12_weighLengths_115 : decode cX12_weighLengths 115 = .ok (.iinc 7 1, 3) := by decide +kernel
theorem dX12_weighLengths_118 : decode cX12_weighLengths 118 = .ok (.goto (-20), 3) := by decide +kernel
theorem dX12_weighLengths_121 : decode cX12_weighLengths 121 = .ok (.iconst 0, 1) := by decide +kernel
theorem dX12_weighLengths_122 : decode cX12_weighLengths 122 = .ok (.istore 7, 2) := by decide +kernel
theorem dX12_weighLengths_124 : decode cX12_weighLengths 124 = .ok (.iload 7, 2) := by decide +kernel
theorem dX12_weighLengths_126 : decode cX12_weighLengths 126 = .ok (.bipush 40, 2) := by decide +kernel
theorem dX12_weighLengths_128 : decode cX12_weighLengths 128 = .ok (.if_icmp .ge 31, 3) := by decide +kernel
theorem dX12_weighLengths_131 : decode cX12_weighLengths 131 = .ok (.aload_n 0, 1) := by decide +kernel
theorem dX12_weighLengths_132 : decode cX12_weighLengths 132 = .ok (.bipush 16, 2) := by decide +kernel
theorem dX12_weighLengths_134 : decode cX12_weighLengths 134 = .ok (.iload 7, 2) := by decide +kernel
theorem dX12_weighLengths_136 : decode cX12_weighLengths 136 = .ok (.iadd, 1) := by decide +kernel
theorem dX12_weighLengths_137 : decode cX12_weighLengths 137 = .ok (.invokevirtual 207, 3) := by decide +kernel
theorem dX12_weighLengths_140 : decode cX12_weighLengths 140 = .ok (.ifCond .ne 13, 3) := by decide +kernel
theorem dX12_weighLengths_143 : decode cX12_weighLengths 143 = .ok (.aload_n 0, 1) := by decide +kernel
theorem dX12_weighLengths_144 : decode cX12_weighLengths 144 = .ok (.iload 7, 2) := by decide +kernel
theorem dX12_weighLengths_146 : decode cX12_weighLengths 146 = .ok (.iload 6, 2) := by decide +kernel
theorem dX12_weighLengths_148 : decode cX12_weighLengths 148 = .ok (.iload 5, 2) := by decide +kernel
theorem dX12_weighLengths_150 : decode cX12_weighLengths 150 = .ok (.invokevirtual 247, 3) := by decide +kernel
theorem dX12_weighLengths_153 : decode cX12_weighLengths 153 = .ok (.iinc 7 1, 3) := by decide +kernel
theorem dX12_weighLengths_156 : decode cX12_weighLengths 156 = .ok (.goto (-32), 3) := by decide +kernel
theorem dX12_weighLengths_159 : decode cX12_weighLengths 159 = .ok (.iconst 0, 1) := by decide +kernel
theorem dX12_weighLengths_160 : decode cX12_weighLengths 160 = .ok (.istore 7, 2) := by decide +kernel
theorem dX12_weighLengths_162 : decode cX12_weighLengths 162 = .ok (.iload 7, 2) := by decide +kernel
theorem dX12_weighLengths_164 : decode cX12_weighLengths 164 = .ok (.bipush 40, 2) := by decide +kernel
theorem dX12_weighLengths_166 : decode cX12_weighLengths 166 = .ok (.if_icmp .ge 23, 3) := by decide +kernel
theorem dX12_weighLengths_169 : decode cX12_weighLengths 169 = .ok (.aload_n 0, 1) := by decide +kernel
theorem dX12_weighLengths_170 : decode cX12_weighLengths 170 = .ok (.bipush 56, 2) := by decide +kernel
theorem dX12_weighLengths_172 : decode cX12_weighLengths 172 = .ok (.iload 7, 2) := by decide +kernel
theorem dX12_weighLengths_174 : decode cX12_weighLengths 174 = .ok (.iadd, 1) := by decide +kernel
theorem dX12_weighLengths_175 : decode cX12_weighLengths 175 = .ok (.bipush 16, 2) := by decide +kernel
theorem dX12_weighLengths_177 : decode cX12_weighLengths 177 = .ok (.iload 7, 2) := by decide +kernel
theorem dX12_weighLengths_179 : decode cX12_weighLengths 179 = .ok (.iadd, 1) := by decide +kernel
theorem dX12_weighLengths_180 : decode cX12_weighLengths 180 = .ok (.invokevirtual 198, 3) := by decide +kernel
theorem dX12_weighLengths_183 : decode cX12_weighLengths 183 = .ok (.iinc 7 1, 3) := by decide +kernel
theorem dX12_weighLengths_186 : decode cX12_weighLengths 186 = .ok (.goto (-24), 3) := by decide +kernel
theorem dX12_weighLengths_189 : decode cX12_weighLengths 189 = .ok (.iload_n 3, 1) := by decide +kernel
theorem dX12_weighLengths_190 : decode cX12_weighLengths 190 = .ok (.bipush 6, 2) := by decide +kernel
theorem dX12_weighLengths_192 : decode cX12_weighLengths 192 = .ok (.iload 5, 2) := by decide +kernel
theorem dX12_weighLengths_194 : decode cX12_weighLengths 194 = .ok (.imul, 1) := by decide +kernel
theorem dX12_weighLengths_195 : decode cX12_weighLengths 195 = .ok (.iadd, 1) := by decide +kernel
theorem dX12_weighLengths_196 : decode cX12_weighLengths 196 = .ok (.istore_n 3, 1) := by decide +kernel
theorem dX12_weighLengths_197 : decode cX12_weighLengths 197 = .ok (.iinc 4 1, 3) := by decide +kernel
theorem dX12_weighLengths_200 : decode cX12_weighLengths 200 = .ok (.goto (-164), 3) := by decide +kernel
theorem dX12_weighLengths_203 : decode cX12_weighLengths 203 = .ok (.iload_n 3, 1) := by decide +kernel
theorem dX12_weighLengths_204 : decode cX12_weighLengths 204 = .ok (.ireturn, 1) := by decide +kernel
theorem bX12_weighLengths_0 {Z : ZT} {X : XT} {μ : Mu} {a1 : Int32} {a2 : Int32} (E : Ent Z X mX12_weighLengths 0 0)  
    (k : JS Z X 2 [(0, .ref (Z.2.2.1 + 455)), (1, .int a1), (2, .int a2), (3, .int (nI 0))] [] μ) :
    JS Z X 0 [(0, .ref (Z.2.2.1 + 455)), (1, .int a1), (2, .int a2)] [] μ := by
  refine J_iconst (v := nI 0) E dX12_weighLengths_0 rfl ?_
  refine J_istore_n (lv' := [(0, .ref (Z.2.2.1 + 455)), (1, .int a1), (2, .int a2), (3, .int (nI 0))]) E dX12_weighLengths_1 (Nat.le_of_ble_eq_true rfl) rfl ?_
  exact k
theorem bX12_weighLengths_2 {Z : ZT} {X : XT} {μ : Mu} {a1 : Int32} {a2 : Int32} {a3 : Int32} (E : Ent Z X mX12_weighLengths 0 0)  
    (kt : (nI 40) ≤ a3 → JS Z X 31 [(0, .ref (Z.2.2.1 + 455)), (1, .int a1), (2, .int a2)] [] μ) (kf : ¬ ((nI 40) ≤ a3) → JS Z X 8 [(0, .ref (Z.2.2.1 + 455)), (1, .int a1), (2, .int a2), (3, .int a3)] [] μ) :
    JS Z X 2 [(0, .ref (Z.2.2.1 + 455)), (1, .int a1), (2, .int a2), (3, .int a3)] [] μ := by
  refine J_iload_n E dX12_weighLengths_2 rfl ?_
  refine J_bipush (v := nI 40) E dX12_weighLengths_3 rfl ?_
  refine J_icmp_ge (tgt := 31) E dX12_weighLengths_5 (by decide) (fun c => ?_) (fun c => ?_)
  · refine J.weak [0, 1, 2] rfl ?_
    exact kt c
  · exact kf c
theorem bX12_weighLengths_8 {Z : ZT} {X : XT} {μ : Mu} {a1 : Int32} {a2 : Int32} {a3 : Int32} (E : Ent Z X mX12_weighLengths 0 0)  
    (kt : ¬ a3 = 0 → JS Z X 21 [(0, .ref (Z.2.2.1 + 455)), (1, .int a1), (2, .int a2), (3, .int a3)] [.int ((nI 16) + a3), .ref (Z.2.2.1 + 455)] μ) (kf : a3 = 0 → JS Z X 17 [(0, .ref (Z.2.2.1 + 455)), (1, .int a1), (2, .int a2), (3, .int a3)] [.int ((nI 16) + a3), .ref (Z.2.2.1 + 455)] μ) :
    JS Z X 8 [(0, .ref (Z.2.2.1 + 455)), (1, .int a1), (2, .int a2), (3, .int a3)] [] μ := by
  refine J_aload_n E dX12_weighLengths_8 rfl ?_
  refine J_bipush (v := nI 16) E dX12_weighLengths_9 rfl ?_
  refine J_iload_n E dX12_weighLengths_11 rfl ?_
  refine J_iadd E dX12_weighLengths_12 ?_
  refine J_iload_n E dX12_weighLengths_13 rfl ?_
  refine J_if_ne (tgt := 21) E dX12_weighLengths_14 (by decide) (fun c => ?_) (fun c => ?_)
  · exact kt c
  · exact kf c
theorem bX12_weighLengths_17 {Z : ZT} {X : XT} {μ : Mu} {a1 : Int32} {a2 : Int32} {a3 : Int32} {s1 : Int32} (E : Ent Z X mX12_weighLengths 0 0)  
    (k : JS Z X 22 [(0, .ref (Z.2.2.1 + 455)), (1, .int a1), (2, .int a2), (3, .int a3)] [.int (nI 1), .int s1, .ref (Z.2.2.1 + 455)] μ) :
    JS Z X 17 [(0, .ref (Z.2.2.1 + 455)), (1, .int a1), (2, .int a2), (3, .int a3)] [.int s1, .ref (Z.2.2.1 + 455)] μ := by
  refine J_iconst (v := nI 1) E dX12_weighLengths_17 rfl ?_
  refine J_goto (tgt := 22) E dX12_weighLengths_18 (by decide) ?_
  exact k
theorem bX12_weighLengths_21 {Z : ZT} {X : XT} {μ : Mu} {a1 : Int32} {a2 : Int32} {a3 : Int32} {s1 : Int32} (E : Ent Z X mX12_weighLengths 0 0)  
    (k : JS Z X 22 [(0, .ref (Z.2.2.1 + 455)), (1, .int a1), (2, .int a2), (3, .int a3)] [.int (nI 0), .int s1, .ref (Z.2.2.1 + 455)] μ) :
    JS Z X 21 [(0, .ref (Z.2.2.1 + 455)), (1, .int a1), (2, .int a2), (3, .int a3)] [.int s1, .ref (Z.2.2.1 + 455)] μ := by
  refine J_iconst (v := nI 0) E dX12_weighLengths_21 rfl ?_
  exact k
theorem bX12_weighLengths_22 {Z : ZT} {X : XT} {μ : Mu} {a1 : Int32} {a2 : Int32} {a3 : Int32} {s1 : Int32} {s2 : Int32} (E : Ent Z X mX12_weighLengths 0 0) {p : Mu → Prop} 
    (c : CtrS Z mX12_set [.ref (Z.2.2.1 + 455), .int s1, .int s2] μ (rV p)) (k : ∀ μ1, p μ1 → JS Z X 25 [(0, .ref (Z.2.2.1 + 455)), (1, .int a1), (2, .int a2), (3, .int a3)] [] μ1) :
    JS Z X 22 [(0, .ref (Z.2.2.1 + 455)), (1, .int a1), (2, .int a2), (3, .int a3)] [.int s2, .int s1, .ref (Z.2.2.1 + 455)] μ := by
  refine S_callV (As := [.int s1, .int s2]) (rest := []) E dX12_weighLengths_22 c kX12_set ⟨Nat.le_of_ble_eq_true rfl, Nat.le_of_ble_eq_true rfl⟩ rfl (Nat.le_of_ble_eq_true rfl) sh455 rfl rfl w6_230 w6_232 wp_55 (fun r_ μ1 hp_ => ?_)
  obtain ⟨rfl, hp_⟩ := hp_
  exact k μ1 hp_
theorem bX12_weighLengths_25 {Z : ZT} {X : XT} {μ : Mu} {a1 : Int32} {a2 : Int32} {a3 : Int32} (E : Ent Z X mX12_weighLengths 0 0)  
    (k : JS Z X 2 [(0, .ref (Z.2.2.1 + 455)), (1, .int a1), (2, .int a2), (3, .int (a3 + nI 1))] [] μ) :
    JS Z X 25 [(0, .ref (Z.2.2.1 + 455)), (1, .int a1), (2, .int a2), (3, .int a3)] [] μ := by
  refine J_iinc (v := a3 + nI 1) (lv' := [(0, .ref (Z.2.2.1 + 455)), (1, .int a1), (2, .int a2), (3, .int (a3 + nI 1))]) E dX12_weighLengths_25 rfl rfl (Nat.le_of_ble_eq_true rfl) rfl ?_
  refine J_goto (tgt := 2) E dX12_weighLengths_28 (by decide) ?_
  exact k
theorem bX12_weighLengths_31 {Z : ZT} {X : XT} {μ : Mu} {a1 : Int32} {a2 : Int32} (E : Ent Z X mX12_weighLengths 0 0)  
    (k : JS Z X 36 [(0, .ref (Z.2.2.1 + 455)), (1, .int a1), (2, .int a2), (3, .int (nI 0)), (4, .int (nI 0))] [] μ) :
    JS Z X 31 [(0, .ref (Z.2.2.1 + 455)), (1, .int a1), (2, .int a2)] [] μ := by
  refine J_iconst (v := nI 0) E dX12_weighLengths_31 rfl ?_
  refine J_istore_n (lv' := [(0, .ref (Z.2.2.1 + 455)), (1, .int a1), (2, .int a2), (3, .int (nI 0))]) E dX12_weighLengths_32 (Nat.le_of_ble_eq_true rfl) rfl ?_
  refine J_iconst (v := nI 0) E dX12_weighLengths_33 rfl ?_
  refine J_istore (lv' := [(0, .ref (Z.2.2.1 + 455)), (1, .int a1), (2, .int a2), (3, .int (nI 0)), (4, .int (nI 0))]) E dX12_weighLengths_34 (Nat.le_of_ble_eq_true rfl) rfl ?_
  exact k
theorem bX12_weighLengths_36 {Z : ZT} {X : XT} {μ : Mu} {a1 : Int32} {a2 : Int32} {a3 : Int32} {a4 : Int32} (E : Ent Z X mX12_weighLengths 0 0)  
    (kt : (μ 455 13) ≤ a4 → JS Z X 203 [(3, .int a3)] [] μ) (kf : ¬ ((μ 455 13) ≤ a4) → JS Z X 45 [(0, .ref (Z.2.2.1 + 455)), (1, .int a1), (2, .int a2), (3, .int a3), (4, .int a4)] [] μ) :
    JS Z X 36 [(0, .ref (Z.2.2.1 + 455)), (1, .int a1), (2, .int a2), (3, .int a3), (4, .int a4)] [] μ := by
  refine J_iload E dX12_weighLengths_36 rfl ?_
  refine J_aload_n E dX12_weighLengths_38 rfl ?_
  refine S_get (ci := 12) (q := 13) (v := .int (μ 455 13)) E dX12_weighLengths_39 fs_X12_168 sh455 rfl ?_
  refine J_icmp_ge (tgt := 203) E dX12_weighLengths_42 (by decide) (fun c => ?_) (fun c => ?_)
  · refine J.weak [3] rfl ?_
    exact kt c
  · exact kf c
theorem bX12_weighLengths_45 {Z : ZT} {X : XT} {μ : Mu} {a1 : Int32} {a2 : Int32} {a3 : Int32} {a4 : Int32} (E : Ent Z X mX12_weighLengths 0 0)  
    (kt : ¬ a4 = a2 → JS Z X 55 [(0, .ref (Z.2.2.1 + 455)), (1, .int a1), (2, .int a2), (3, .int a3), (4, .int a4)] [] μ) (kf : a4 = a2 → JS Z X 51 [(0, .ref (Z.2.2.1 + 455)), (1, .int a1), (2, .int a2), (3, .int a3), (4, .int a4)] [] μ) :
    JS Z X 45 [(0, .ref (Z.2.2.1 + 455)), (1, .int a1), (2, .int a2), (3, .int a3), (4, .int a4)] [] μ := by
  refine J_iload E dX12_weighLengths_45 rfl ?_
  refine J_iload_n E dX12_weighLengths_47 rfl ?_
  refine J_icmp_ne (tgt := 55) E dX12_weighLengths_48 (by decide) (fun c => ?_) (fun c => ?_)
  · exact kt c
  · exact kf c
theorem bX12_weighLengths_51 {Z : ZT} {X : XT} {μ : Mu} {a1 : Int32} {a2 : Int32} {a3 : Int32} {a4 : Int32} (E : Ent Z X mX12_weighLengths 0 0)  
    (k : JS Z X 63 [(0, .ref (Z.2.2.1 + 455)), (1, .int a1), (2, .int a2), (3, .int a3), (4, .int a4)] [.int (nI 1)] μ) :
    JS Z X 51 [(0, .ref (Z.2.2.1 + 455)), (1, .int a1), (2, .int a2), (3, .int a3), (4, .int a4)] [] μ := by
  refine J_iconst (v := nI 1) E dX12_weighLengths_51 rfl ?_
  refine J_goto (tgt := 63) E dX12_weighLengths_52 (by decide) ?_
  exact k
theorem bX12_weighLengths_55 {Z : ZT} {X : XT} {μ : Mu} {a1 : Int32} {a2 : Int32} {a3 : Int32} {a4 : Int32} (E : Ent Z X mX12_weighLengths 0 0)  (s1_ : vp_in (nI 201) 988)
    (k : JS Z X 63 [(0, .ref (Z.2.2.1 + 455)), (1, .int a1), (2, .int a2), (3, .int a3), (4, .int a4)] [.int (μ 456 (ix (nI 201)))] μ) :
    JS Z X 55 [(0, .ref (Z.2.2.1 + 455)), (1, .int a1), (2, .int a2), (3, .int a3), (4, .int a4)] [] μ := by
  refine J_aload_n E dX12_weighLengths_55 rfl ?_
  refine S_get (ci := 12) (q := 0) (v := .ref (Z.2.2.1 + 456)) E dX12_weighLengths_56 fs_X12_7 sh455 rfl ?_
  refine J_sipush (v := nI 201) E dX12_weighLengths_59 rfl ?_
  refine S_iald E dX12_weighLengths_62 sh456 s1_ ?_
  exact k
theorem bX12_weighLengths_63 {Z : ZT} {X : XT} {μ : Mu} {a1 : Int32} {a2 : Int32} {a3 : Int32} {a4 : Int32} {s0 : Int32} (E : Ent Z X mX12_weighLengths 0 0) {p : Int32 → Mu → Prop} (s1_ : vp_in a4 6) (s2_ : vp_in ((nI 163) + (μ 462 (ix a4))) 988) (s3_ : vp_in a4 6)
    (c : CtrS Z mX12_missesAt [.ref (Z.2.2.1 + 455), .int a1, .int (μ 456 (ix ((nI 163) + (μ 462 (ix a4))))), .int (μ 463 (ix a4))] μ (rI p)) (k : ∀ v μ1, p v μ1 → JS Z X 93 [(0, .ref (Z.2.2.1 + 455)), (1, .int a1), (2, .int a2), (3, .int a3), (4, .int a4), (5, .int s0)] [.int v] μ1) :
    JS Z X 63 [(0, .ref (Z.2.2.1 + 455)), (1, .int a1), (2, .int a2), (3, .int a3), (4, .int a4)] [.int s0] μ := by
  refine J_istore (lv' := [(0, .ref (Z.2.2.1 + 455)), (1, .int a1), (2, .int a2), (3, .int a3), (4, .int a4), (5, .int s0)]) E dX12_weighLengths_63 (Nat.le_of_ble_eq_true rfl) rfl ?_
  refine J_aload_n E dX12_weighLengths_65 rfl ?_
  refine J_iload_n E dX12_weighLengths_66 rfl ?_
  refine J_aload_n E dX12_weighLengths_67 rfl ?_
  refine S_get (ci := 12) (q := 0) (v := .ref (Z.2.2.1 + 456)) E dX12_weighLengths_68 fs_X12_7 sh455 rfl ?_
  refine J_sipush (v := nI 163) E dX12_weighLengths_71 rfl ?_
  refine J_aload_n E dX12_weighLengths_74 rfl ?_
  refine S_get (ci := 12) (q := 14) (v := .ref (Z.2.2.1 + 462)) E dX12_weighLengths_75 fs_X12_30 sh455 rfl ?_
  refine J_iload E dX12_weighLengths_78 rfl ?_
  refine S_iald E dX12_weighLengths_80 sh462 s1_ ?_
  refine J_iadd E dX12_weighLengths_81 ?_
  refine S_iald E dX12_weighLengths_82 sh456 s2_ ?_
  refine J_aload_n E dX12_weighLengths_83 rfl ?_
  refine S_get (ci := 12) (q := 15) (v := .ref (Z.2.2.1 + 463)) E dX12_weighLengths_84 fs_X12_33 sh455 rfl ?_
  refine J_iload E dX12_weighLengths_87 rfl ?_
  refine S_iald E dX12_weighLengths_89 sh463 s3_ ?_
  refine S_callV (As := [.int a1, .int (μ 456 (ix ((nI 163) + (μ 462 (ix a4))))), .int (μ 463 (ix a4))]) (rest := []) E dX12_weighLengths_90 c kX12_missesAt ⟨Nat.le_of_ble_eq_true rfl, Nat.le_of_ble_eq_true rfl⟩ rfl (Nat.le_of_ble_eq_true rfl) sh455 rfl rfl w6_222 w6_224 wp_53 (fun r_ μ1 hp_ => ?_)
  obtain ⟨v, rfl, hp_⟩ := hp_
  exact k v μ1 hp_
theorem bX12_weighLengths_93 {Z : ZT} {X : XT} {μ : Mu} {a1 : Int32} {a2 : Int32} {a3 : Int32} {a4 : Int32} {a5 : Int32} {s0 : Int32} (E : Ent Z X mX12_weighLengths 0 0)  
    (k : JS Z X 98 [(0, .ref (Z.2.2.1 + 455)), (1, .int a1), (2, .int a2), (3, .int a3), (4, .int a4), (5, .int a5), (6, .int s0), (7, .int (nI 0))] [] μ) :
    JS Z X 93 [(0, .ref (Z.2.2.1 + 455)), (1, .int a1), (2, .int a2), (3, .int a3), (4, .int a4), (5, .int a5)] [.int s0] μ := by
  refine J_istore (lv' := [(0, .ref (Z.2.2.1 + 455)), (1, .int a1), (2, .int a2), (3, .int a3), (4, .int a4), (5, .int a5), (6, .int s0)]) E dX12_weighLengths_93 (Nat.le_of_ble_eq_true rfl) rfl ?_
  refine J_iconst (v := nI 0) E dX12_weighLengths_95 rfl ?_
  refine J_istore (lv' := [(0, .ref (Z.2.2.1 + 455)), (1, .int a1), (2, .int a2), (3, .int a3), (4, .int a4), (5, .int a5), (6, .int s0), (7, .int (nI 0))]) E dX12_weighLengths_96 (Nat.le_of_ble_eq_true rfl) rfl ?_
  exact k
theorem bX12_weighLengths_98 {Z : ZT} {X : XT} {μ : Mu} {a1 : Int32} {a2 : Int32} {a3 : Int32} {a4 : Int32} {a5 : Int32} {a6 : Int32} {a7 : Int32} (E : Ent Z X mX12_weighLengths 0 0)  
    (kt : (nI 40) ≤ a7 → JS Z X 121 [(0, .ref (Z.2.2.1 + 455)), (1, .int a1), (2, .int a2), (3, .int a3), (4, .int a4), (5, .int a5), (6, .int a6)] [] μ) (kf : ¬ ((nI 40) ≤ a7) → JS Z X 105 [(0, .ref (Z.2.2.1 + 455)), (1, .int a1), (2, .int a2), (3, .int a3), (4, .int a4), (5, .int a5), (6, .int a6), (7, .int a7)] [] μ) :
    JS Z X 98 [(0, .ref (Z.2.2.1 + 455)), (1, .int a1), (2, .int a2), (3, .int a3), (4, .int a4), (5, .int a5), (6, .int a6), (7, .int a7)] [] μ := by
  refine J_iload E dX12_weighLengths_98 rfl ?_
  refine J_bipush (v := nI 40) E dX12_weighLengths_100 rfl ?_
  refine J_icmp_ge (tgt := 121) E dX12_weighLengths_102 (by decide) (fun c => ?_) (fun c => ?_)
  · refine J.weak [0, 1, 2, 3, 4, 5, 6] rfl ?_
    exact kt c
  · exact kf c
theorem bX12_weighLengths_105 {Z : ZT} {X : XT} {μ : Mu} {a1 : Int32} {a2 : Int32} {a3 : Int32} {a4 : Int32} {a5 : Int32} {a6 : Int32} {a7 : Int32} (E : Ent Z X mX12_weighLengths 0 0) {p : Mu → Prop} 
    (c : CtrS Z mX12_set [.ref (Z.2.2.1 + 455), .int ((nI 56) + a7), .int (nI 0)] μ (rV p)) (k : ∀ μ1, p μ1 → JS Z X 115 [(0, .ref (Z.2.2.1 + 455)), (1, .int a1), (2, .int a2), (3, .int a3), (4, .int a4), (5, .int a5), (6, .int a6), (7, .int a7)] [] μ1) :
    JS Z X 105 [(0, .ref (Z.2.2.1 + 455)), (1, .int a1), (2, .int a2), (3, .int a3), (4, .int a4), (5, .int a5), (6, .int a6), (7, .int a7)] [] μ := by
  refine J_aload_n E dX12_weighLengths_105 rfl ?_
  refine J_bipush (v := nI 56) E dX12_weighLengths_106 rfl ?_
  refine J_iload E dX12_weighLengths_108 rfl ?_
  refine J_iadd E dX12_weighLengths_110 ?_
  refine J_iconst (v := nI 0) E dX12_weighLengths_111 rfl ?_
  refine S_callV (As := [.int ((nI 56) + a7), .int (nI 0)]) (rest := []) E dX12_weighLengths_112 c kX12_set ⟨Nat.le_of_ble_eq_true rfl, Nat.le_of_ble_eq_true rfl⟩ rfl (Nat.le_of_ble_eq_true rfl) sh455 rfl rfl w6_230 w6_232 wp_55 (fun r_ μ1 hp_ => ?_)
  obtain ⟨rfl, hp_⟩ := hp_
  exact k μ1 hp_
theorem bX12_weighLengths_115 {Z : ZT} {X : XT} {μ : Mu} {a1 : Int32} {a2 : Int32} {a3 : Int32} {a4 : Int32} {a5 : Int32} {a6 : Int32} {a7 : Int32} (E : Ent Z X mX12_weighLengths 0 0)  
    (k : JS Z X 98 [(0, .ref (Z.2.2.1 + 455)), (1, .int a1), (2, .int a2), (3, .int a3), (4, .int a4), (5, .int a5), (6, .int a6), (7, .int (a7 + nI 1))] [] μ) :
    JS Z X 115 [(0, .ref (Z.2.2.1 + 455)), (1, .int a1), (2, .int a2), (3, .int a3), (4, .int a4), (5, .int a5), (6, .int a6), (7, .int a7)] [] μ := by
  refine J_iinc (v := a7 + nI 1) (lv' := [(0, .ref (Z.2.2.1 + 455)), (1, .int a1), (2, .int a2), (3, .int a3), (4, .int a4), (5, .int a5), (6, .int a6), (7, .int (a7 + nI 1))]) E dX12_weighLengths_115 rfl rfl (Nat.le_of_ble_eq_true rfl) rfl ?_
  refine J_goto (tgt := 98) E dX12_weighLengths_118 (by decide) ?_
  exact k
theorem bX12_weighLengths_121 {Z : ZT} {X : XT} {μ : Mu} {a1 : Int32} {a2 : Int32} {a3 : Int32} {a4 : Int32} {a5 : Int32} {a6 : Int32} (E : Ent Z X mX12_weighLengths 0 0)  
    (k : JS Z X 124 [(0, .ref (Z.2.2.1 + 455)), (1, .int a1), (2, .int a2), (3, .int a3), (4, .int a4), (5, .int a5), (6, .int a6), (7, .int (nI 0))] [] μ) :
    JS Z X 121 [(0, .ref (Z.2.2.1 + 455)), (1, .int a1), (2, .int a2), (3, .int a3), (4, .int a4), (5, .int a5), (6, .int a6)] [] μ := by
  refine J_iconst (v := nI 0) E dX12_weighLengths_121 rfl ?_
  refine J_istore (lv' := [(0, .ref (Z.2.2.1 + 455)), (1, .int a1), (2, .int a2), (3, .int a3), (4, .int a4), (5, .int a5), (6, .int a6), (7, .int (nI 0))]) E dX12_weighLengths_122 (Nat.le_of_ble_eq_true rfl) rfl ?_
  exact k
theorem bX12_weighLengths_124 {Z : ZT} {X : XT} {μ : Mu} {a1 : Int32} {a2 : Int32} {a3 : Int32} {a4 : Int32} {a5 : Int32} {a6 : Int32} {a7 : Int32} (E : Ent Z X mX12_weighLengths 0 0)  
    (kt : (nI 40) ≤ a7 → JS Z X 159 [(0, .ref (Z.2.2.1 + 455)), (1, .int a1), (2, .int a2), (3, .int a3), (4, .int a4), (5, .int a5)] [] μ) (kf : ¬ ((nI 40) ≤ a7) → JS Z X 131 [(0, .ref (Z.2.2.1 + 455)), (1, .int a1), (2, .int a2), (3, .int a3), (4, .int a4), (5, .int a5), (6, .int a6), (7, .int a7)] [] μ) :
    JS Z X 124 [(0, .ref (Z.2.2.1 + 455)), (1, .int a1), (2, .int a2), (3, .int a3), (4, .int a4), (5, .int a5), (6, .int a6), (7, .int a7)] [] μ := by
  refine J_iload E dX12_weighLengths_124 rfl ?_
  refine J_bipush (v := nI 40) E dX12_weighLengths_126 rfl ?_
  refine J_icmp_ge (tgt := 159) E dX12_weighLengths_128 (by decide) (fun c => ?_) (fun c => ?_)
  · refine J.weak [0, 1, 2, 3, 4, 5] rfl ?_
    exact kt c
  · exact kf c
theorem bX12_weighLengths_131 {Z : ZT} {X : XT} {μ : Mu} {a1 : Int32} {a2 : Int32} {a3 : Int32} {a4 : Int32} {a5 : Int32} {a6 : Int32} {a7 : Int32} (E : Ent Z X mX12_weighLengths 0 0) {p : Int32 → Mu → Prop} 
    (c : CtrS Z mX12_isNought [.ref (Z.2.2.1 + 455), .int ((nI 16) + a7)] μ (rI p)) (k : ∀ v μ1, p v μ1 → JS Z X 140 [(0, .ref (Z.2.2.1 + 455)), (1, .int a1), (2, .int a2), (3, .int a3), (4, .int a4), (5, .int a5), (6, .int a6), (7, .int a7)] [.int v] μ1) :
    JS Z X 131 [(0, .ref (Z.2.2.1 + 455)), (1, .int a1), (2, .int a2), (3, .int a3), (4, .int a4), (5, .int a5), (6, .int a6), (7, .int a7)] [] μ := by
  refine J_aload_n E dX12_weighLengths_131 rfl ?_
  refine J_bipush (v := nI 16) E dX12_weighLengths_132 rfl ?_
  refine J_iload E dX12_weighLengths_134 rfl ?_
  refine J_iadd E dX12_weighLengths_136 ?_
  refine S_callV (As := [.int ((nI 16) + a7)]) (rest := []) E dX12_weighLengths_137 c kX12_isNought ⟨Nat.le_of_ble_eq_true rfl, Nat.le_of_ble_eq_true rfl⟩ rfl (Nat.le_of_ble_eq_true rfl) sh455 rfl rfl w7_2 w7_4 wp_58 (fun r_ μ1 hp_ => ?_)
  obtain ⟨v, rfl, hp_⟩ := hp_
  exact k v μ1 hp_
theorem bX12_weighLengths_140 {Z : ZT} {X : XT} {μ : Mu} {a1 : Int32} {a2 : Int32} {a3 : Int32} {a4 : Int32} {a5 : Int32} {a6 : Int32} {a7 : Int32} {s0 : Int32} (E : Ent Z X mX12_weighLengths 0 0)  
    (kt : ¬ s0 = 0 → JS Z X 153 [(0, .ref (Z.2.2.1 + 455)), (1, .int a1), (2, .int a2), (3, .int a3), (4, .int a4), (5, .int a5), (6, .int a6), (7, .int a7)] [] μ) (kf : s0 = 0 → JS Z X 143 [(0, .ref (Z.2.2.1 + 455)), (1, .int a1), (2, .int a2), (3, .int a3), (4, .int a4), (5, .int a5), (6, .int a6), (7, .int a7)] [] μ) :
    JS Z X 140 [(0, .ref (Z.2.2.1 + 455)), (1, .int a1), (2, .int a2), (3, .int a3), (4, .int a4), (5, .int a5), (6, .int a6), (7, .int a7)] [.int s0] μ := by
  refine J_if_ne (tgt := 153) E dX12_weighLengths_140 (by decide) (fun c => ?_) (fun c => ?_)
  · exact kt c
  · exact kf c
theorem bX12_weighLengths_143 {Z : ZT} {X : XT} {μ : Mu} {a1 : Int32} {a2 : Int32} {a3 : Int32} {a4 : Int32} {a5 : Int32} {a6 : Int32} {a7 : Int32} (E : Ent Z X mX12_weighLengths 0 0) {p : Mu → Prop} 
    (c : CtrS Z mX12_spread [.ref (Z.2.2.1 + 455), .int a7, .int a6, .int a5] μ (rV p)) (k : ∀ μ1, p μ1 → JS Z X 153 [(0, .ref (Z.2.2.1 + 455)), (1, .int a1), (2, .int a2), (3, .int a3), (4, .int a4), (5, .int a5), (6, .int a6), (7, .int a7)] [] μ1) :
    JS Z X 143 [(0, .ref (Z.2.2.1 + 455)), (1, .int a1), (2, .int a2), (3, .int a3), (4, .int a4), (5, .int a5), (6, .int a6), (7, .int a7)] [] μ := by
  refine J_aload_n E dX12_weighLengths_143 rfl ?_
  refine J_iload E dX12_weighLengths_144 rfl ?_
  refine J_iload E dX12_weighLengths_146 rfl ?_
  refine J_iload E dX12_weighLengths_148 rfl ?_
  refine S_callV (As := [.int a7, .int a6, .int a5]) (rest := []) E dX12_weighLengths_150 c kX12_spread ⟨Nat.le_of_ble_eq_true rfl, Nat.le_of_ble_eq_true rfl⟩ rfl (Nat.le_of_ble_eq_true rfl) sh455 rfl rfl w7_51 w7_53 wp_68 (fun r_ μ1 hp_ => ?_)
  obtain ⟨rfl, hp_⟩ := hp_
  exact k μ1 hp_
theorem bX12_weighLengths_153 {Z : ZT} {X : XT} {μ : Mu} {a1 : Int32} {a2 : Int32} {a3 : Int32} {a4 : Int32} {a5 : Int32} {a6 : Int32} {a7 : Int32} (E : Ent Z X mX12_weighLengths 0 0)  
    (k : JS Z X 124 [(0, .ref (Z.2.2.1 + 455)), (1, .int a1), (2, .int a2), (3, .int a3), (4, .int a4), (5, .int a5), (6, .int a6), (7, .int (a7 + nI 1))] [] μ) :
    JS Z X 153 [(0, .ref (Z.2.2.1 + 455)), (1, .int a1), (2, .int a2), (3, .int a3), (4, .int a4), (5, .int a5), (6, .int a6), (7, .int a7)] [] μ := by
  refine J_iinc (v := a7 + nI 1) (lv' := [(0, .ref (Z.2.2.1 + 455)), (1, .int a1), (2, .int a2), (3, .int a3), (4, .int a4), (5, .int a5), (6, .int a6), (7, .int (a7 + nI 1))]) E dX12_weighLengths_153 rfl rfl (Nat.le_of_ble_eq_true rfl) rfl ?_
  refine J_goto (tgt := 124) E dX12_weighLengths_156 (by decide) ?_
  exact k
theorem bX12_weighLengths_159 {Z : ZT} {X : XT} {μ : Mu} {a1 : Int32} {a2 : Int32} {a3 : Int32} {a4 : Int32} {a5 : Int32} (E : Ent Z X mX12_weighLengths 0 0)  
    (k : JS Z X 162 [(0, .ref (Z.2.2.1 + 455)), (1, .int a1), (2, .int a2), (3, .int a3), (4, .int a4), (5, .int a5), (7, .int (nI 0))] [] μ) :
    JS Z X 159 [(0, .ref (Z.2.2.1 + 455)), (1, .int a1), (2, .int a2), (3, .int a3), (4, .int a4), (5, .int a5)] [] μ := by
  refine J_iconst (v := nI 0) E dX12_weighLengths_159 rfl ?_
  refine J_istore (lv' := [(0, .ref (Z.2.2.1 + 455)), (1, .int a1), (2, .int a2), (3, .int a3), (4, .int a4), (5, .int a5), (7, .int (nI 0))]) E dX12_weighLengths_160 (Nat.le_of_ble_eq_true rfl) rfl ?_
  exact k
theorem bX12_weighLengths_162 {Z : ZT} {X : XT} {μ : Mu} {a1 : Int32} {a2 : Int32} {a3 : Int32} {a4 : Int32} {a5 : Int32} {a7 : Int32} (E : Ent Z X mX12_weighLengths 0 0)  
    (kt : (nI 40) ≤ a7 → JS Z X 189 [(0, .ref (Z.2.2.1 + 455)), (1, .int a1), (2, .int a2), (3, .int a3), (4, .int a4), (5, .int a5)] [] μ) (kf : ¬ ((nI 40) ≤ a7) → JS Z X 169 [(0, .ref (Z.2.2.1 + 455)), (1, .int a1), (2, .int a2), (3, .int a3), (4, .int a4), (5, .int a5), (7, .int a7)] [] μ) :
    JS Z X 162 [(0, .ref (Z.2.2.1 + 455)), (1, .int a1), (2, .int a2), (3, .int a3), (4, .int a4), (5, .int a5), (7, .int a7)] [] μ := by
  refine J_iload E dX12_weighLengths_162 rfl ?_
  refine J_bipush (v := nI 40) E dX12_weighLengths_164 rfl ?_
  refine J_icmp_ge (tgt := 189) E dX12_weighLengths_166 (by decide) (fun c => ?_) (fun c => ?_)
  · refine J.weak [0, 1, 2, 3, 4, 5] rfl ?_
    exact kt c
  · exact kf c
theorem bX12_weighLengths_169 {Z : ZT} {X : XT} {μ : Mu} {a1 : Int32} {a2 : Int32} {a3 : Int32} {a4 : Int32} {a5 : Int32} {a7 : Int32} (E : Ent Z X mX12_weighLengths 0 0) {p : Mu → Prop} 
    (c : CtrS Z mX12_copy [.ref (Z.2.2.1 + 455), .int ((nI 56) + a7), .int ((nI 16) + a7)] μ (rV p)) (k : ∀ μ1, p μ1 → JS Z X 183 [(0, .ref (Z.2.2.1 + 455)), (1, .int a1), (2, .int a2), (3, .int a3), (4, .int a4), (5, .int a5), (7, .int a7)] [] μ1) :
    JS Z X 169 [(0, .ref (Z.2.2.1 + 455)), (1, .int a1), (2, .int a2), (3, .int a3), (4, .int a4), (5, .int a5), (7, .int a7)] [] μ := by
  refine J_aload_n E dX12_weighLengths_169 rfl ?_
  refine J_bipush (v := nI 56) E dX12_weighLengths_170 rfl ?_
  refine J_iload E dX12_weighLengths_172 rfl ?_
  refine J_iadd E dX12_weighLengths_174 ?_
  refine J_bipush (v := nI 16) E dX12_weighLengths_175 rfl ?_
  refine J_iload E dX12_weighLengths_177 rfl ?_
  refine J_iadd E dX12_weighLengths_179 ?_
  refine S_callV (As := [.int ((nI 56) + a7), .int ((nI 16) + a7)]) (rest := []) E dX12_weighLengths_180 c kX12_copy ⟨Nat.le_of_ble_eq_true rfl, Nat.le_of_ble_eq_true rfl⟩ rfl (Nat.le_of_ble_eq_true rfl) sh455 rfl rfl w6_238 w7_0 wp_57 (fun r_ μ1 hp_ => ?_)
  obtain ⟨rfl, hp_⟩ := hp_
  exact k μ1 hp_
theorem bX12_weighLengths_183 {Z : ZT} {X : XT} {μ : Mu} {a1 : Int32} {a2 : Int32} {a3 : Int32} {a4 : Int32} {a5 : Int32} {a7 : Int32} (E : Ent Z X mX12_weighLengths 0 0)  
    (k : JS Z X 162 [(0, .ref (Z.2.2.1 + 455)), (1, .int a1), (2, .int a2), (3, .int a3), (4, .int a4), (5, .int a5), (7, .int (a7 + nI 1))] [] μ) :
    JS Z X 183 [(0, .ref (Z.2.2.1 + 455)), (1, .int a1), (2, .int a2), (3, .int a3), (4, .int a4), (5, .int a5), (7, .int a7)] [] μ := by
  refine J_iinc (v := a7 + nI 1) (lv' := [(0, .ref (Z.2.2.1 + 455)), (1, .int a1), (2, .int a2), (3, .int a3), (4, .int a4), (5, .int a5), (7, .int (a7 + nI 1))]) E dX12_weighLengths_183 rfl rfl (Nat.le_of_ble_eq_true rfl) rfl ?_
  refine J_goto (tgt := 162) E dX12_weighLengths_186 (by decide) ?_
  exact k
theorem bX12_weighLengths_189 {Z : ZT} {X : XT} {μ : Mu} {a1 : Int32} {a2 : Int32} {a3 : Int32} {a4 : Int32} {a5 : Int32} (E : Ent Z X mX12_weighLengths 0 0)  
    (k : JS Z X 36 [(0, .ref (Z.2.2.1 + 455)), (1, .int a1), (2, .int a2), (3, .int (a3 + ((nI 6) * a5))), (4, .int (a4 + nI 1))] [] μ) :
    JS Z X 189 [(0, .ref (Z.2.2.1 + 455)), (1, .int a1), (2, .int a2), (3, .int a3), (4, .int a4), (5, .int a5)] [] μ := by
  refine J_iload_n E dX12_weighLengths_189 rfl ?_
  refine J_bipush (v := nI 6) E dX12_weighLengths_190 rfl ?_
  refine J_iload E dX12_weighLengths_192 rfl ?_
  refine J_imul E dX12_weighLengths_194 ?_
  refine J_iadd E dX12_weighLengths_195 ?_
  refine J_istore_n (lv' := [(0, .ref (Z.2.2.1 + 455)), (1, .int a1), (2, .int a2), (3, .int (a3 + ((nI 6) * a5))), (4, .int a4), (5, .int a5)]) E dX12_weighLengths_196 (Nat.le_of_ble_eq_true rfl) rfl ?_
  refine J_iinc (v := a4 + nI 1) (lv' := [(0, .ref (Z.2.2.1 + 455)), (1, .int a1), (2, .int a2), (3, .int (a3 + ((nI 6) * a5))), (4, .int (a4 + nI 1)), (5, .int a5)]) E dX12_weighLengths_197 rfl rfl (Nat.le_of_ble_eq_true rfl) rfl ?_
  refine J_goto (tgt := 36) E dX12_weighLengths_200 (by decide) ?_
  refine J.weak [0, 1, 2, 3, 4] rfl ?_
  exact k
theorem bX12_weighLengths_203 {Z : ZT} {X : XT} {μ : Mu} {a3 : Int32} (E : Ent Z X mX12_weighLengths 0 0) {P : Option Value → Mu → Prop} (hB : BodS Z X P) 
    (k : P (some (.int a3)) μ) :
    JS Z X 203 [(3, .int a3)] [] μ := by
  refine J_iload_n E dX12_weighLengths_203 rfl ?_
  exact S_iret E hB dX12_weighLengths_204 rfl k
theorem dX12_spread_0 : decode cX12_spread 0 = .ok (.iconst 1, 1) := by decide +kernel
theorem dX12_spread_1 : decode cX12_spread 1 = .ok (.istore 4, 2) := by decide +kernel
theorem dX12_spread_3 : decode cX12_spread 3 = .ok (.iload 4, 2) := by decide +kernel
theorem dX12_spread_5 : decode cX12_spread 5 = .ok (.iload_n 3, 1) := by decide +kernel
theorem dX12_spread_6 : decode cX12_spread 6 = .ok (.if_icmp .gt 68, 3) := by decide +kernel
theorem dX12_spread_9 : decode cX12_spread 9 = .ok (.aload_n 0, 1) := by decide +kernel
theorem dX12_spread_10 : decode cX12_spread 10 = .ok (.bipush 16, 2) := by decide +kernel
theorem dX12_spread_12 : decode cX12_spread 12 = .ok (.iload_n 1, 1) := by decide +kernel
theorem dX12_spread_13 : decode cX12_spread 13 = .ok (.iadd, 1) := by decide +kernel
theorem dX12_spread_14 : decode cX12_spread 14 = .ok (.iconst 2, 1) := by decide +kernel
theorem dX12_spread_15 : decode cX12_spread 15 = .ok (.invokevirtual 198, 3) := by decide +kernel
theorem dX12_spread_18 : decode cX12_spread 18 = .ok (.aload_n 0, 1) := by decide +kernel
theorem dX12_spread_19 : decode cX12_spread 19 = .ok (.iconst 2, 1) := by decide +kernel
theorem dX12_spread_20 : decode cX12_spread 20 = .ok (.iload 4, 2) := by decide +kernel
theorem dX12_spread_22 : decode cX12_spread 22 = .ok (.iload_n 3, 1) := by decide +kernel
theorem dX12_spread_23 : decode cX12_spread 23 = .ok (.if_icmp .ge 10, 3) := by decide +kernel
theorem dX12_spread_26 : decode cX12_spread 26 = .ok (.ldc 193, 2) := by decide +kernel
theorem dX12_spread_28 : decode cX12_spread 28 = .ok (.iload_n 2, 1) := by decide +kernel
theorem dX12_spread_29 : decode cX12_spread 29 = .ok (.isub, 1) := by decide +kernel
theorem dX12_spread_30 : decode cX12_spread 30 = .ok (.goto 5, 3) := by decide +kernel
theorem dX12_spread_33 : decode cX12_spread 33 = .ok (.ldc 193, 2) := by decide +kernel
theorem dX12_spread_35 : decode cX12_spread 35 = .ok (.invokevirtual 194, 3) := by decide +kernel
theorem dX12_spread_38 : decode cX12_spread 38 = .ok (.aload_n 0, 1) := by decide +kernel
theorem dX12_spread_39 : decode cX12_spread 39 = .ok (.iconst 2, 1) := by decide +kernel
theorem dX12_spread_40 : decode cX12_spread 40 = .ok (.iload_n 3, 1) := by decide +kernel
theorem dX12_spread_41 : decode cX12_spread 41 = .ok (.iload 4, 2) := by decide +kernel
theorem dX12_spread_43 : decode cX12_spread 43 = .ok (.isub, 1) := by decide +kernel
theorem dX12_spread_44 : decode cX12_spread 44 = .ok (.invokevirtual 216, 3) := by decide +kernel
theorem dX12_spread_47 : decode cX12_spread 47 = .ok (.aload_n 0, 1) := by decide +kernel
theorem dX12_spread_48 : decode cX12_spread 48 = .ok (.bipush 56, 2) := by decide +kernel
theorem dX12_spread_50 : decode cX12_spread 50 = .ok (.iload_n 1, 1) := by decide +kernel
theorem dX12_spread_51 : decode cX12_spread 51 = .ok (.iadd, 1) := by decide +kernel
theorem dX12_spread_52 : decode cX12_spread 52 = .ok (.iload 4, 2) := by decide +kernel
theorem dX12_spread_54 : decode cX12_spread 54 = .ok (.iadd, 1) := by decide +kernel
theorem dX12_spread_55 : decode cX12_spread 55 = .ok (.iconst 2, 1) := by decide +kernel
theorem dX12_spread_56 : decode cX12_spread 56 = .ok (.invokevirtual 219, 3) := by decide +kernel
theorem dX12_spread_59 : decode cX12_spread 59 = .ok (.aload_n 0, 1) := by decide +kernel
theorem dX12_spread_60 : decode cX12_spread 60 = .ok (.bipush 16, 2) := by decide +kernel
theorem dX12_spread_62 : decode cX12_spread 62 = .ok (.iload_n 1, 1) := by decide +kernel
theorem dX12_spread_63 : decode cX12_spread 63 = .ok (.iadd, 1) := by decide +kernel
theorem dX12_spread_64 : decode cX12_spread 64 = .ok (.iload_n 2, 1) := by decide +kernel
theorem dX12_spread_65 : decode cX12_spread 65 = .ok (.invokevirtual 194, 3) := by decide +kernel
theorem dX12_spread_68 : decode cX12_spread 68 = .ok (.iinc 4 1, 3) := by decide +kernel
theorem dX12_spread_71 : decode cX12_spread 71 = .ok (.goto (-68), 3) := by decide +kernel
theorem dX12_spread_74 : decode cX12_spread 74 = .ok (.return_, 1) := by decide +kernel
theorem bX12_spread_0 {Z : ZT} {X : XT} {μ : Mu} {a1 : Int32} {a2 : Int32} {a3 : Int32} (E : Ent Z X mX12_spread 0 0)  
    (k : JS Z X 3 [(0, .ref (Z.2.2.1 + 455)), (1, .int a1), (2, .int a2), (3, .int a3), (4, .int (nI 1))] [] μ) :
    JS Z X 0 [(0, .ref (Z.2.2.1 + 455)), (1, .int a1), (2, .int a2), (3, .int a3)] [] μ := by
  refine J_iconst (v := nI 1) E dX12_spread_0 rfl ?_
  refine J_istore (lv' := [(0, .ref (Z.2.2.1 + 455)), (1, .int a1), (2, .int a2), (3, .int a3), (4, .int (nI 1))]) E dX12_spread_1 (Nat.le_of_ble_eq_true rfl) rfl ?_
  exact k
theorem bX12_spread_3 {Z : ZT} {X : XT} {μ : Mu} {a1 : Int32} {a2 : Int32} {a3 : Int32} {a4 : Int32} (E : Ent Z X mX12_spread 0 0)  
    (kt : a3 < a4 → JS Z X 74 [] [] μ) (kf : ¬ (a3 < a4) → JS Z X 9 [(0, .ref (Z.2.2.1 + 455)), (1, .int a1), (2, .int a2), (3, .int a3), (4, .int a4)] [] μ) :
    JS Z X 3 [(0, .ref (Z.2.2.1 + 455)), (1, .int a1), (2, .int a2), (3, .int a3), (4, .int a4)] [] μ := by
  refine J_iload E dX12_spread_3 rfl ?_
  refine J_iload_n E dX12_spread_5 rfl ?_
  refine J_icmp_gt (tgt := 74) E dX12_spread_6 (by decide) (fun c => ?_) (fun c => ?_)
  · refine J.weak [] rfl ?_
    exact kt c
  · exact kf c
theorem bX12_spread_9 {Z : ZT} {X : XT} {μ : Mu} {a1 : Int32} {a2 : Int32} {a3 : Int32} {a4 : Int32} (E : Ent Z X mX12_spread 0 0) {p : Mu → Prop} 
    (c : CtrS Z mX12_copy [.ref (Z.2.2.1 + 455), .int ((nI 16) + a1), .int (nI 2)] μ (rV p)) (k : ∀ μ1, p μ1 → JS Z X 18 [(0, .ref (Z.2.2.1 + 455)), (1, .int a1), (2, .int a2), (3, .int a3), (4, .int a4)] [] μ1) :
    JS Z X 9 [(0, .ref (Z.2.2.1 + 455)), (1, .int a1), (2, .int a2), (3, .int a3), (4, .int a4)] [] μ := by
  refine J_aload_n E dX12_spread_9 rfl ?_
  refine J_bipush (v := nI 16) E dX12_spread_10 rfl ?_
  refine J_iload_n E dX12_spread_12 rfl ?_
  refine J_iadd E dX12_spread_13 ?_
  refine J_iconst (v := nI 2) E dX12_spread_14 rfl ?_
  refine S_callV (As := [.int ((nI 16) + a1), .int (nI 2)]) (rest := []) E dX12_spread_15 c kX12_copy ⟨Nat.le_of_ble_eq_true rfl, Nat.le_of_ble_eq_true rfl⟩ rfl (Nat.le_of_ble_eq_true rfl) sh455 rfl rfl w6_238 w7_0 wp_57 (fun r_ μ1 hp_ => ?_)
  obtain ⟨rfl, hp_⟩ := hp_
  exact k μ1 hp_
theorem bX12_spread_18 {Z : ZT} {X : XT} {μ : Mu} {a1 : Int32} {a2 : Int32} {a3 : Int32} {a4 : Int32} (E : Ent Z X mX12_spread 0 0)  
    (kt : a3 ≤ a4 → JS Z X 33 [(0, .ref (Z.2.2.1 + 455)), (1, .int a1), (2, .int a2), (3, .int a3), (4, .int a4)] [.int (nI 2), .ref (Z.2.2.1 + 455)] μ) (kf : ¬ (a3 ≤ a4) → JS Z X 26 [(0, .ref (Z.2.2.1 + 455)), (1, .int a1), (2, .int a2), (3, .int a3), (4, .int a4)] [.int (nI 2), .ref (Z.2.2.1 + 455)] μ) :
    JS Z X 18 [(0, .ref (Z.2.2.1 + 455)), (1, .int a1), (2, .int a2), (3, .int a3), (4, .int a4)] [] μ := by
  refine J_aload_n E dX12_spread_18 rfl ?_
  refine J_iconst (v := nI 2) E dX12_spread_19 rfl ?_
  refine J_iload E dX12_spread_20 rfl ?_
  refine J_iload_n E dX12_spread_22 rfl ?_
  refine J_icmp_ge (tgt := 33) E dX12_spread_23 (by decide) (fun c => ?_) (fun c => ?_)
  · exact kt c
  · exact kf c
theorem bX12_spread_26 {Z : ZT} {X : XT} {μ : Mu} {a1 : Int32} {a2 : Int32} {a3 : Int32} {a4 : Int32} {s1 : Int32} (E : Ent Z X mX12_spread 0 0)  
    (k : JS Z X 35 [(0, .ref (Z.2.2.1 + 455)), (1, .int a1), (2, .int a2), (3, .int a3), (4, .int a4)] [.int ((nI 1000000) - a2), .int s1, .ref (Z.2.2.1 + 455)] μ) :
    JS Z X 26 [(0, .ref (Z.2.2.1 + 455)), (1, .int a1), (2, .int a2), (3, .int a3), (4, .int a4)] [.int s1, .ref (Z.2.2.1 + 455)] μ := by
  refine J_ldc (v := nI 1000000) E dX12_spread_26 w6_221 ?_
  refine J_iload_n E dX12_spread_28 rfl ?_
  refine J_isub E dX12_spread_29 ?_
  refine J_goto (tgt := 35) E dX12_spread_30 (by decide) ?_
  exact k
theorem bX12_spread_33 {Z : ZT} {X : XT} {μ : Mu} {a1 : Int32} {a2 : Int32} {a3 : Int32} {a4 : Int32} {s1 : Int32} (E : Ent Z X mX12_spread 0 0)  
    (k : JS Z X 35 [(0, .ref (Z.2.2.1 + 455)), (1, .int a1), (2, .int a2), (3, .int a3), (4, .int a4)] [.int (nI 1000000), .int s1, .ref (Z.2.2.1 + 455)] μ) :
    JS Z X 33 [(0, .ref (Z.2.2.1 + 455)), (1, .int a1), (2, .int a2), (3, .int a3), (4, .int a4)] [.int s1, .ref (Z.2.2.1 + 455)] μ := by
  refine J_ldc (v := nI 1000000) E dX12_spread_33 w6_221 ?_
  exact k
theorem bX12_spread_35 {Z : ZT} {X : XT} {μ : Mu} {a1 : Int32} {a2 : Int32} {a3 : Int32} {a4 : Int32} {s1 : Int32} {s2 : Int32} (E : Ent Z X mX12_spread 0 0) {p : Mu → Prop} 
    (c : CtrS Z mX12_times [.ref (Z.2.2.1 + 455), .int s1, .int s2] μ (rV p)) (k : ∀ μ1, p μ1 → JS Z X 38 [(0, .ref (Z.2.2.1 + 455)), (1, .int a1), (2, .int a2), (3, .int a3), (4, .int a4)] [] μ1) :
    JS Z X 35 [(0, .ref (Z.2.2.1 + 455)), (1, .int a1), (2, .int a2), (3, .int a3), (4, .int a4)] [.int s2, .int s1, .ref (Z.2.2.1 + 455)] μ := by
  refine S_callV (As := [.int s1, .int s2]) (rest := []) E dX12_spread_35 c kX12_times ⟨Nat.le_of_ble_eq_true rfl, Nat.le_of_ble_eq_true rfl⟩ rfl (Nat.le_of_ble_eq_true rfl) sh455 rfl rfl w7_15 w7_17 wp_61 (fun r_ μ1 hp_ => ?_)
  obtain ⟨rfl, hp_⟩ := hp_
  exact k μ1 hp_
theorem bX12_spread_38 {Z : ZT} {X : XT} {μ : Mu} {a1 : Int32} {a2 : Int32} {a3 : Int32} {a4 : Int32} (E : Ent Z X mX12_spread 0 0) {p : Mu → Prop} 
    (c : CtrS Z mX12_millions [.ref (Z.2.2.1 + 455), .int (nI 2), .int (a3 - a4)] μ (rV p)) (k : ∀ μ1, p μ1 → JS Z X 47 [(0, .ref (Z.2.2.1 + 455)), (1, .int a1), (2, .int a2), (3, .int a3), (4, .int a4)] [] μ1) :
    JS Z X 38 [(0, .ref (Z.2.2.1 + 455)), (1, .int a1), (2, .int a2), (3, .int a3), (4, .int a4)] [] μ := by
  refine J_aload_n E dX12_spread_38 rfl ?_
  refine J_iconst (v := nI 2) E dX12_spread_39 rfl ?_
  refine J_iload_n E dX12_spread_40 rfl ?_
  refine J_iload E dX12_spread_41 rfl ?_
  refine J_isub E dX12_spread_43 ?_
  refine S_callV (As := [.int (nI 2), .int (a3 - a4)]) (rest := []) E dX12_spread_44 c kX12_millions ⟨Nat.le_of_ble_eq_true rfl, Nat.le_of_ble_eq_true rfl⟩ rfl (Nat.le_of_ble_eq_true rfl) sh455 rfl rfl w7_31 w7_33 wp_64 (fun r_ μ1 hp_ => ?_)
  obtain ⟨rfl, hp_⟩ := hp_
  exact k μ1 hp_
theorem bX12_spread_47 {Z : ZT} {X : XT} {μ : Mu} {a1 : Int32} {a2 : Int32} {a3 : Int32} {a4 : Int32} (E : Ent Z X mX12_spread 0 0) {p : Mu → Prop} 
    (c : CtrS Z mX12_add [.ref (Z.2.2.1 + 455), .int (((nI 56) + a1) + a4), .int (nI 2)] μ (rV p)) (k : ∀ μ1, p μ1 → JS Z X 59 [(0, .ref (Z.2.2.1 + 455)), (1, .int a1), (2, .int a2), (3, .int a3), (4, .int a4)] [] μ1) :
    JS Z X 47 [(0, .ref (Z.2.2.1 + 455)), (1, .int a1), (2, .int a2), (3, .int a3), (4, .int a4)] [] μ := by
  refine J_aload_n E dX12_spread_47 rfl ?_
  refine J_bipush (v := nI 56) E dX12_spread_48 rfl ?_
  refine J_iload_n E dX12_spread_50 rfl ?_
  refine J_iadd E dX12_spread_51 ?_
  refine J_iload E dX12_spread_52 rfl ?_
  refine J_iadd E dX12_spread_54 ?_
  refine J_iconst (v := nI 2) E dX12_spread_55 rfl ?_
  refine S_callV (As := [.int (((nI 56) + a1) + a4), .int (nI 2)]) (rest := []) E dX12_spread_56 c kX12_add ⟨Nat.le_of_ble_eq_true rfl, Nat.le_of_ble_eq_true rfl⟩ rfl (Nat.le_of_ble_eq_true rfl) sh455 rfl rfl w7_39 w7_41 wp_66 (fun r_ μ1 hp_ => ?_)
  obtain ⟨rfl, hp_⟩ := hp_
  exact k μ1 hp_
theorem bX12_spread_59 {Z : ZT} {X : XT} {μ : Mu} {a1 : Int32} {a2 : Int32} {a3 : Int32} {a4 : Int32} (E : Ent Z X mX12_spread 0 0) {p : Mu → Prop} 
    (c : CtrS Z mX12_times [.ref (Z.2.2.1 + 455), .int ((nI 16) + a1), .int a2] μ (rV p)) (k : ∀ μ1, p μ1 → JS Z X 68 [(0, .ref (Z.2.2.1 + 455)), (1, .int a1), (2, .int a2), (3, .int a3), (4, .int a4)] [] μ1) :
    JS Z X 59 [(0, .ref (Z.2.2.1 + 455)), (1, .int a1), (2, .int a2), (3, .int a3), (4, .int a4)] [] μ := by
  refine J_aload_n E dX12_spread_59 rfl ?_
  refine J_bipush (v := nI 16) E dX12_spread_60 rfl ?_
  refine J_iload_n E dX12_spread_62 rfl ?_
  refine J_iadd E dX12_spread_63 ?_
  refine J_iload_n E dX12_spread_64 rfl ?_
  refine S_callV (As := [.int ((nI 16) + a1), .int a2]) (rest := []) E dX12_spread_65 c kX12_times ⟨Nat.le_of_ble_eq_true rfl, Nat.le_of_ble_eq_true rfl⟩ rfl (Nat.le_of_ble_eq_true rfl) sh455 rfl rfl w7_15 w7_17 wp_61 (fun r_ μ1 hp_ => ?_)
  obtain ⟨rfl, hp_⟩ := hp_
  exact k μ1 hp_
theorem bX12_spread_68 {Z : ZT} {X : XT} {μ : Mu} {a1 : Int32} {a2 : Int32} {a3 : Int32} {a4 : Int32} (E : Ent Z X mX12_spread 0 0)  
    (k : JS Z X 3 [(0, .ref (Z.2.2.1 + 455)), (1, .int a1), (2, .int a2), (3, .int a3), (4, .int (a4 + nI 1))] [] μ) :
    JS Z X 68 [(0, .ref (Z.2.2.1 + 455)), (1, .int a1), (2, .int a2), (3, .int a3), (4, .int a4)] [] μ := by
  refine J_iinc (v := a4 + nI 1) (lv' := [(0, .ref (Z.2.2.1 + 455)), (1, .int a1), (2, .int a2), (3, .int a3), (4, .int (a4 + nI 1))]) E dX12_spread_68 rfl rfl (Nat.le_of_ble_eq_true rfl) rfl ?_
  refine J_goto (tgt := 3) E dX12_spread_71 (by decide) ?_
  exact k
theorem bX12_spread_74 {Z : ZT} {X : XT} {μ : Mu} (E : Ent Z X mX12_spread 0 0) {P : Option Value → Mu → Prop} (hB : BodS Z X P) 
    (k : P none μ) :
    JS Z X 74 [] [] μ := by
  exact S_vret E hB dX12_spread_74 rfl k
theorem dX12_ends_0 : decode cX12_ends 0 = .ok (.iload_n 1, 1) := by decide +kernel
theorem dX12_ends_1 : decode cX12_ends 1 = .ok (.invokestatic 85, 3) := by decide +kernel
theorem dX12_ends_4 : decode cX12_ends 4 = .ok (.ifCond .eq 23, 3) := by decide +kernel
theorem dX12_ends_7 : decode cX12_ends 7 = .ok (.iload_n 2, 1) := by decide +kernel
theorem dX12_ends_8 : decode cX12_ends 8 = .ok (.iconst 0, 1) := by decide +kernel
theorem dX12_ends_9 : decode cX12_ends 9 = .ok (.iload_n 3, 1) := by decide +kernel
theorem dX12_ends_10 : decode cX12_ends 10 = .ok (.invokestatic 67, 3) := by decide +kernel
theorem dX12_ends_13 : decode cX12_ends 13 = .ok (.ifCond .eq 14, 3) := by decide +kernel
theorem dX12_ends_16 : decode cX12_ends 16 = .ok (.iload_n 3, 1) := by decide +kernel
theorem dX12_ends_17 : decode cX12_ends 17 = .ok (.iconst 0, 1) := by decide +kernel
theorem dX12_ends_18 : decode cX12_ends 18 = .ok (.sipush 999, 3) := by decide +kernel
theorem dX12_ends_21 : decode cX12_ends 21 = .ok (.invokestatic 67, 3) := by decide +kernel
theorem dX12_ends_24 : decode cX12_ends 24 = .ok (.ifCond .ne 10, 3) := by decide +kernel
theorem dX12_ends_27 : decode cX12_ends 27 = .ok (.aload_n 0, 1) := by decide +kernel
theorem dX12_ends_28 : decode cX12_ends 28 = .ok (.bipush (-2), 2) := by decide +kernel
theorem dX12_ends_30 : decode cX12_ends 30 = .ok (.invokevirtual 63, 3) := by decide +kernel
theorem dX12_ends_33 : decode cX12_ends 33 = .ok (.ireturn, 1) := by decide +kernel
theorem dX12_ends_34 : decode cX12_ends 34 = .ok (.aload_n 0, 1) := by decide +kernel
theorem dX12_ends_35 : decode cX12_ends 35 = .ok (.iload_n 1, 1) := by decide +kernel
theorem dX12_ends_36 : decode cX12_ends 36 = .ok (.invokevirtual 235, 3) := by decide +kernel
theorem dX12_ends_39 : decode cX12_ends 39 = .ok (.ifCond .ne 10, 3) := by decide +kernel
theorem dX12_ends_42 : decode cX12_ends 42 = .ok (.aload_n 0, 1) := by decide +kernel
theorem dX12_ends_43 : decode cX12_ends 43 = .ok (.bipush (-3), 2) := by decide +kernel
theorem dX12_ends_45 : decode cX12_ends 45 = .ok (.invokevirtual 63, 3) := by decide +kernel
theorem dX12_ends_48 : decode cX12_ends 48 = .ok (.ireturn, 1) := by decide +kernel
theorem dX12_ends_49 : decode cX12_ends 49 = .ok (.aload_n 0, 1) := by decide +kernel
theorem dX12_ends_50 : decode cX12_ends 50 = .ok (.iload_n 1, 1) := by decide +kernel
theorem dX12_ends_51 : decode cX12_ends 51 = .ok (.iconst (-1), 1) := by decide +kernel
theorem dX12_ends_52 : decode cX12_ends 52 = .ok (.invokevirtual 250, 3) := by decide +kernel
theorem dX12_ends_55 : decode cX12_ends 55 = .ok (.istore 4, 2) := by decide +kernel
theorem dX12_ends_57 : decode cX12_ends 57 = .ok (.aload_n 0, 1) := by decide +kernel
theorem dX12_ends_58 : decode cX12_ends 58 = .ok (.iconst 4, 1) := by decide +kernel
theorem dX12_ends_59 : decode cX12_ends 59 = .ok (.iconst 0, 1) := by decide +kernel
theorem dX12_ends_60 : decode cX12_ends 60 = .ok (.invokevirtual 204, 3) := by decide +kernel
theorem dX12_ends_63 : decode cX12_ends 63 = .ok (.iconst 0, 1) := by decide +kernel
theorem dX12_ends_64 : decode cX12_ends 64 = .ok (.istore 5, 2) := by decide +kernel
theorem dX12_ends_66 : decode cX12_ends 66 = .ok (.iload 5, 2) := by decide +kernel
theorem dX12_ends_68 : decode cX12_ends 68 = .ok (.bipush 40, 2) := by decide +kernel
theorem dX12_ends_70 : decode cX12_ends 70 = .ok (.if_icmp .ge 34, 3) := by decide +kernel
theorem dX12_ends_73 : decode cX12_ends 73 = .ok (.aload_n 0, 1) := by decide +kernel
theorem dX12_ends_74 : decode cX12_ends 74 = .ok (.getfield 175, 3) := by decide +kernel
theorem dX12_ends_77 : decode cX12_ends 77 = .ok (.iload 5, 2) := by decide +kernel
theorem dX12_ends_79 : decode cX12_ends 79 = .ok (.iadd, 1) := by decide +kernel
theorem dX12_ends_80 : decode cX12_ends 80 = .ok (.iload_n 2, 1) := by decide +kernel
theorem dX12_ends_81 : decode cX12_ends 81 = .ok (.iload_n 3, 1) := by decide +kernel
theorem dX12_ends_82 : decode cX12_ends 82 = .ok (.invokestatic 67, 3) := by decide +kernel
theorem dX12_ends_85 : decode cX12_ends 85 = .ok (.ifCond .eq 13, 3) := by decide +kernel
theorem dX12_ends_88 : decode cX12_ends 88 = .ok (.aload_n 0, 1) := by decide +kernel
theorem dX12_ends_89 : decode cX12_ends 89 = .ok (.iconst 4, 1) := by decide +kernel
theorem dX12_ends_90 : decode cX12_ends 90 = .ok (.bipush 16, 2) := by decide +kernel
theorem dX12_ends_92 : decode cX12_ends 92 = .ok (.iload 5, 2) := by decide +kernel
theorem dX12_ends_94 : decode cX12_ends 94 = .ok (.iadd, 1) := by decide +kernel
theorem dX12_ends_95 : decode cX12_ends 95 = .ok (.invokevirtual 219, 3) := by decide +kernel
theorem dX12_ends_98 : decode cX12_ends 98 = .ok (.iinc 5 1, 3) := by decide +kernel
theorem dX12_ends_101 : decode cX12_ends 101 = .ok (.goto (-35), 3) := by decide +kernel
theorem dX12_ends_104 : decode cX12_ends 104 = .ok (.aload_n 0, 1) := by decide +kernel
theorem dX12_ends_105 : decode cX12_ends 105 = .ok (.iconst 4, 1) := by decide +kernel
theorem dX12_ends_106 : decode cX12_ends 106 = .ok (.iload 4, 2) := by decide +kernel
theorem dX12_ends_108 : decode cX12_ends 108 = .ok (.invokevirtual 238, 3) := by decide +kernel
theorem dX12_ends_111 : decode cX12_ends 111 = .ok (.iconst 1, 1) := by decide +kernel
theorem dX12_ends_112 : decode cX12_ends 112 = .ok (.ireturn, 1) := by decide +kernel
theorem bX12_ends_0 {Z : ZT} {X : XT} {μ : Mu} {a1 : Int32} {a2 : Int32} {a3 : Int32} (E : Ent Z X mX12_ends 0 0) {p : Int32 → Mu → Prop} 
    (c : CtrS Z mX12_isLot [.int a1] μ (rI p)) (k : ∀ v μ1, p v μ1 → JS Z X 4 [(0, .ref (Z.2.2.1 + 455)), (1, .int a1), (2, .int a2), (3, .int a3)] [.int v] μ1) :
    JS Z X 0 [(0, .ref (Z.2.2.1 + 455)), (1, .int a1), (2, .int a2), (3, .int a3)] [] μ := by
  refine J_iload_n E dX12_ends_0 rfl ?_
  refine S_callS (As := [.int a1]) (rest := []) E dX12_ends_1 c kX12_isLot ⟨Nat.le_of_ble_eq_true rfl, Nat.le_of_ble_eq_true rfl⟩ rfl (Nat.le_of_ble_eq_true rfl) w6_138 w6_139 (fun r_ μ1 hp_ => ?_)
  obtain ⟨v, rfl, hp_⟩ := hp_
  exact k v μ1 hp_
theorem bX12_ends_4 {Z : ZT} {X : XT} {μ : Mu} {a1 : Int32} {a2 : Int32} {a3 : Int32} {s0 : Int32} (E : Ent Z X mX12_ends 0 0)  
    (kt : s0 = 0 → JS Z X 27 [(0, .ref (Z.2.2.1 + 455))] [] μ) (kf : ¬ (s0 = 0) → JS Z X 7 [(0, .ref (Z.2.2.1 + 455)), (1, .int a1), (2, .int a2), (3, .int a3)] [] μ) :
    JS Z X 4 [(0, .ref (Z.2.2.1 + 455)), (1, .int a1), (2, .int a2), (3, .int a3)] [.int s0] μ := by
  refine J_if_eq (tgt := 27) E dX12_ends_4 (by decide) (fun c => ?_) (fun c => ?_)
  · refine J.weak [0] rfl ?_
    exact kt c
  · exact kf c
theorem bX12_ends_7 {Z : ZT} {X : XT} {μ : Mu} {a1 : Int32} {a2 : Int32} {a3 : Int32} (E : Ent Z X mX12_ends 0 0) {p : Int32 → Mu → Prop} 
    (c : CtrS Z mX12_in [.int a2, .int (nI 0), .int a3] μ (rI p)) (k : ∀ v μ1, p v μ1 → JS Z X 13 [(0, .ref (Z.2.2.1 + 455)), (1, .int a1), (2, .int a2), (3, .int a3)] [.int v] μ1) :
    JS Z X 7 [(0, .ref (Z.2.2.1 + 455)), (1, .int a1), (2, .int a2), (3, .int a3)] [] μ := by
  refine J_iload_n E dX12_ends_7 rfl ?_
  refine J_iconst (v := nI 0) E dX12_ends_8 rfl ?_
  refine J_iload_n E dX12_ends_9 rfl ?_
  refine S_callS (As := [.int a2, .int (nI 0), .int a3]) (rest := []) E dX12_ends_10 c kX12_in ⟨Nat.le_of_ble_eq_true rfl, Nat.le_of_ble_eq_true rfl⟩ rfl (Nat.le_of_ble_eq_true rfl) w6_67 w6_68 (fun r_ μ1 hp_ => ?_)
  obtain ⟨v, rfl, hp_⟩ := hp_
  exact k v μ1 hp_
theorem bX12_ends_13 {Z : ZT} {X : XT} {μ : Mu} {a1 : Int32} {a2 : Int32} {a3 : Int32} {s0 : Int32} (E : Ent Z X mX12_ends 0 0)  
    (kt : s0 = 0 → JS Z X 27 [(0, .ref (Z.2.2.1 + 455))] [] μ) (kf : ¬ (s0 = 0) → JS Z X 16 [(0, .ref (Z.2.2.1 + 455)), (1, .int a1), (2, .int a2), (3, .int a3)] [] μ) :
    JS Z X 13 [(0, .ref (Z.2.2.1 + 455)), (1, .int a1), (2, .int a2), (3, .int a3)] [.int s0] μ := by
  refine J_if_eq (tgt := 27) E dX12_ends_13 (by decide) (fun c => ?_) (fun c => ?_)
  · refine J.weak [0] rfl ?_
    exact kt c
  · exact kf c
theorem bX12_ends_16 {Z : ZT} {X : XT} {μ : Mu} {a1 : Int32} {a2 : Int32} {a3 : Int32} (E : Ent Z X mX12_ends 0 0) {p : Int32 → Mu → Prop} 
    (c : CtrS Z mX12_in [.int a3, .int (nI 0), .int (nI 999)] μ (rI p)) (k : ∀ v μ1, p v μ1 → JS Z X 24 [(0, .ref (Z.2.2.1 + 455)), (1, .int a1), (2, .int a2), (3, .int a3)] [.int v] μ1) :
    JS Z X 16 [(0, .ref (Z.2.2.1 + 455)), (1, .int a1), (2, .int a2), (3, .int a3)] [] μ := by
  refine J_iload_n E dX12_ends_16 rfl ?_
  refine J_iconst (v := nI 0) E dX12_ends_17 rfl ?_
  refine J_sipush (v := nI 999) E dX12_ends_18 rfl ?_
  refine S_callS (As := [.int a3, .int (nI 0), .int (nI 999)]) (rest := []) E dX12_ends_21 c kX12_in ⟨Nat.le_of_ble_eq_true rfl, Nat.le_of_ble_eq_true rfl⟩ rfl (Nat.le_of_ble_eq_true rfl) w6_67 w6_68 (fun r_ μ1 hp_ => ?_)
  obtain ⟨v, rfl, hp_⟩ := hp_
  exact k v μ1 hp_
theorem bX12_ends_24 {Z : ZT} {X : XT} {μ : Mu} {a1 : Int32} {a2 : Int32} {a3 : Int32} {s0 : Int32} (E : Ent Z X mX12_ends 0 0)  
    (kt : ¬ s0 = 0 → JS Z X 34 [(0, .ref (Z.2.2.1 + 455)), (1, .int a1), (2, .int a2), (3, .int a3)] [] μ) (kf : s0 = 0 → JS Z X 27 [(0, .ref (Z.2.2.1 + 455))] [] μ) :
    JS Z X 24 [(0, .ref (Z.2.2.1 + 455)), (1, .int a1), (2, .int a2), (3, .int a3)] [.int s0] μ := by
  refine J_if_ne (tgt := 34) E dX12_ends_24 (by decide) (fun c => ?_) (fun c => ?_)
  · exact kt c
  · refine J.weak [0] rfl ?_
    exact kf c
theorem bX12_ends_27 {Z : ZT} {X : XT} {μ : Mu} (E : Ent Z X mX12_ends 0 0) {p : Int32 → Mu → Prop} 
    (c : CtrS Z mX12_refuse [.ref (Z.2.2.1 + 455), .int (-2)] μ (rI p)) (k : ∀ v μ1, p v μ1 → JS Z X 33 [] [.int v] μ1) :
    JS Z X 27 [(0, .ref (Z.2.2.1 + 455))] [] μ := by
  refine J_aload_n E dX12_ends_27 rfl ?_
  refine J_bipush (v := -2) E dX12_ends_28 rfl ?_
  refine S_callV (As := [.int (-2)]) (rest := []) E dX12_ends_30 c kX12_refuse ⟨Nat.le_of_ble_eq_true rfl, Nat.le_of_ble_eq_true rfl⟩ rfl (Nat.le_of_ble_eq_true rfl) sh455 rfl rfl w6_51 w6_53 wp_30 (fun r_ μ1 hp_ => ?_)
  obtain ⟨v, rfl, hp_⟩ := hp_
  refine J.weak [] rfl ?_
  exact k v μ1 hp_
theorem bX12_ends_33 {Z : ZT} {X : XT} {μ : Mu} {s0 : Int32} (E : Ent Z X mX12_ends 0 0) {P : Option Value → Mu → Prop} (hB : BodS Z X P) 
    (k : P (some (.int s0)) μ) :
    JS Z X 33 [] [.int s0] μ := by
  exact S_iret E hB dX12_ends_33 rfl k
theorem bX12_ends_34 {Z : ZT} {X : XT} {μ : Mu} {a1 : Int32} {a2 : Int32} {a3 : Int32} (E : Ent Z X mX12_ends 0 0) {p : Int32 → Mu → Prop} 
    (c : CtrS Z mX12_isHunt [.ref (Z.2.2.1 + 455), .int a1] μ (rI p)) (k : ∀ v μ1, p v μ1 → JS Z X 39 [(0, .ref (Z.2.2.1 + 455)), (1, .int a1), (2, .int a2), (3, .int a3)] [.int v] μ1) :
    JS Z X 34 [(0, .ref (Z.2.2.1 + 455)), (1, .int a1), (2, .int a2), (3, .int a3)] [] μ := by
  refine J_aload_n E dX12_ends_34 rfl ?_
  refine J_iload_n E dX12_ends_35 rfl ?_
  refine S_callV (As := [.int a1]) (rest := []) E dX12_ends_36 c kX12_isHunt ⟨Nat.le_of_ble_eq_true rfl, Nat.le_of_ble_eq_true rfl⟩ rfl (Nat.le_of_ble_eq_true rfl) sh455 rfl rfl w6_197 w6_199 wp_47 (fun r_ μ1 hp_ => ?_)
  obtain ⟨v, rfl, hp_⟩ := hp_
  exact k v μ1 hp_
theorem bX12_ends_39 {Z : ZT} {X : XT} {μ : Mu} {a1 : Int32} {a2 : Int32} {a3 : Int32} {s0 : Int32} (E : Ent Z X mX12_ends 0 0)  
    (kt : ¬ s0 = 0 → JS Z X 49 [(0, .ref (Z.2.2.1 + 455)), (1, .int a1), (2, .int a2), (3, .int a3)] [] μ) (kf : s0 = 0 → JS Z X 42 [(0, .ref (Z.2.2.1 + 455))] [] μ) :
    JS Z X 39 [(0, .ref (Z.2.2.1 + 455)), (1, .int a1), (2, .int a2), (3, .int a3)] [.int s0] μ := by
  refine J_if_ne (tgt := 49) E dX12_ends_39 (by decide) (fun c => ?_) (fun c => ?_)
  · exact kt c
  · refine J.weak [0] rfl ?_
    exact kf c
theorem bX12_ends_42 {Z : ZT} {X : XT} {μ : Mu} (E : Ent Z X mX12_ends 0 0) {p : Int32 → Mu → Prop} 
    (c : CtrS Z mX12_refuse [.ref (Z.2.2.1 + 455), .int (-3)] μ (rI p)) (k : ∀ v μ1, p v μ1 → JS Z X 48 [] [.int v] μ1) :
    JS Z X 42 [(0, .ref (Z.2.2.1 + 455))] [] μ := by
  refine J_aload_n E dX12_ends_42 rfl ?_
  refine J_bipush (v := -3) E dX12_ends_43 rfl ?_
  refine S_callV (As := [.int (-3)]) (rest := []) E dX12_ends_45 c kX12_refuse ⟨Nat.le_of_ble_eq_true rfl, Nat.le_of_ble_eq_true rfl⟩ rfl (Nat.le_of_ble_eq_true rfl) sh455 rfl rfl w6_51 w6_53 wp_30 (fun r_ μ1 hp_ => ?_)
  obtain ⟨v, rfl, hp_⟩ := hp_
  refine J.weak [] rfl ?_
  exact k v μ1 hp_
theorem bX12_ends_48 {Z : ZT} {X : XT} {μ : Mu} {s0 : Int32} (E : Ent Z X mX12_ends 0 0) {P : Option Value → Mu → Prop} (hB : BodS Z X P) 
    (k : P (some (.int s0)) μ) :
    JS Z X 48 [] [.int s0] μ := by
  exact S_iret E hB dX12_ends_48 rfl k
theorem bX12_ends_49 {Z : ZT} {X : XT} {μ : Mu} {a1 : Int32} {a2 : Int32} {a3 : Int32} (E : Ent Z X mX12_ends 0 0) {p : Int32 → Mu → Prop} 
    (c : CtrS Z mX12_weighLengths [.ref (Z.2.2.1 + 455), .int a1, .int (-1)] μ (rI p)) (k : ∀ v μ1, p v μ1 → JS Z X 55 [(0, .ref (Z.2.2.1 + 455)), (2, .int a2), (3, .int a3)] [.int v] μ1) :
    JS Z X 49 [(0, .ref (Z.2.2.1 + 455)), (1, .int a1), (2, .int a2), (3, .int a3)] [] μ := by
  refine J_aload_n E dX12_ends_49 rfl ?_
  refine J_iload_n E dX12_ends_50 rfl ?_
  refine J_iconst (v := -1) E dX12_ends_51 rfl ?_
  refine S_callV (As := [.int a1, .int (-1)]) (rest := []) E dX12_ends_52 c kX12_weighLengths ⟨Nat.le_of_ble_eq_true rfl, Nat.le_of_ble_eq_true rfl⟩ rfl (Nat.le_of_ble_eq_true rfl) sh455 rfl rfl w7_47 w7_49 wp_67 (fun r_ μ1 hp_ => ?_)
  obtain ⟨v, rfl, hp_⟩ := hp_
  refine J.weak [0, 2, 3] rfl ?_
  exact k v μ1 hp_
theorem bX12_ends_55 {Z : ZT} {X : XT} {μ : Mu} {a2 : Int32} {a3 : Int32} {s0 : Int32} (E : Ent Z X mX12_ends 0 0) {p : Mu → Prop} 
    (c : CtrS Z mX12_set [.ref (Z.2.2.1 + 455), .int (nI 4), .int (nI 0)] μ (rV p)) (k : ∀ μ1, p μ1 → JS Z X 63 [(0, .ref (Z.2.2.1 + 455)), (2, .int a2), (3, .int a3), (4, .int s0)] [] μ1) :
    JS Z X 55 [(0, .ref (Z.2.2.1 + 455)), (2, .int a2), (3, .int a3)] [.int s0] μ := by
  refine J_istore (lv' := [(0, .ref (Z.2.2.1 + 455)), (2, .int a2), (3, .int a3), (4, .int s0)]) E dX12_ends_55 (Nat.le_of_ble_eq_true rfl) rfl ?_
  refine J_aload_n E dX12_ends_57 rfl ?_
  refine J_iconst (v := nI 4) E dX12_ends_58 rfl ?_
  refine J_iconst (v := nI 0) E dX12_ends_59 rfl ?_
  refine S_callV (As := [.int (nI 4), .int (nI 0)]) (rest := []) E dX12_ends_60 c kX12_set ⟨Nat.le_of_ble_eq_true rfl, Nat.le_of_ble_eq_true rfl⟩ rfl (Nat.le_of_ble_eq_true rfl) sh455 rfl rfl w6_230 w6_232 wp_55 (fun r_ μ1 hp_ => ?_)
  obtain ⟨rfl, hp_⟩ := hp_
  exact k μ1 hp_
theorem bX12_ends_63 {Z : ZT} {X : XT} {μ : Mu} {a2 : Int32} {a3 : Int32} {a4 : Int32} (E : Ent Z X mX12_ends 0 0)  
    (k : JS Z X 66 [(0, .ref (Z.2.2.1 + 455)), (2, .int a2), (3, .int a3), (4, .int a4), (5, .int (nI 0))] [] μ) :
    JS Z X 63 [(0, .ref (Z.2.2.1 + 455)), (2, .int a2), (3, .int a3), (4, .int a4)] [] μ := by
  refine J_iconst (v := nI 0) E dX12_ends_63 rfl ?_
  refine J_istore (lv' := [(0, .ref (Z.2.2.1 + 455)), (2, .int a2), (3, .int a3), (4, .int a4), (5, .int (nI 0))]) E dX12_ends_64 (Nat.le_of_ble_eq_true rfl) rfl ?_
  exact k
theorem bX12_ends_66 {Z : ZT} {X : XT} {μ : Mu} {a2 : Int32} {a3 : Int32} {a4 : Int32} {a5 : Int32} (E : Ent Z X mX12_ends 0 0)  
    (kt : (nI 40) ≤ a5 → JS Z X 104 [(0, .ref (Z.2.2.1 + 455)), (4, .int a4)] [] μ) (kf : ¬ ((nI 40) ≤ a5) → JS Z X 73 [(0, .ref (Z.2.2.1 + 455)), (2, .int a2), (3, .int a3), (4, .int a4), (5, .int a5)] [] μ) :
    JS Z X 66 [(0, .ref (Z.2.2.1 + 455)), (2, .int a2), (3, .int a3), (4, .int a4), (5, .int a5)] [] μ := by
  refine J_iload E dX12_ends_66 rfl ?_
  refine J_bipush (v := nI 40) E dX12_ends_68 rfl ?_
  refine J_icmp_ge (tgt := 104) E dX12_ends_70 (by decide) (fun c => ?_) (fun c => ?_)
  · refine J.weak [0, 3] rfl ?_
    exact kt c
  · exact kf c
theorem bX12_ends_73 {Z : ZT} {X : XT} {μ : Mu} {a2 : Int32} {a3 : Int32} {a4 : Int32} {a5 : Int32} (E : Ent Z X mX12_ends 0 0) {p : Int32 → Mu → Prop} 
    (c : CtrS Z mX12_in [.int ((μ 455 17) + a5), .int a2, .int a3] μ (rI p)) (k : ∀ v μ1, p v μ1 → JS Z X 85 [(0, .ref (Z.2.2.1 + 455)), (2, .int a2), (3, .int a3), (4, .int a4), (5, .int a5)] [.int v] μ1) :
    JS Z X 73 [(0, .ref (Z.2.2.1 + 455)), (2, .int a2), (3, .int a3), (4, .int a4), (5, .int a5)] [] μ := by
  refine J_aload_n E dX12_ends_73 rfl ?_
  refine S_get (ci := 12) (q := 17) (v := .int (μ 455 17)) E dX12_ends_74 fs_X12_175 sh455 rfl ?_
  refine J_iload E dX12_ends_77 rfl ?_
  refine J_iadd E dX12_ends_79 ?_
  refine J_iload_n E dX12_ends_80 rfl ?_
  refine J_iload_n E dX12_ends_81 rfl ?_
  refine S_callS (As := [.int ((μ 455 17) + a5), .int a2, .int a3]) (rest := []) E dX12_ends_82 c kX12_in ⟨Nat.le_of_ble_eq_true rfl, Nat.le_of_ble_eq_true rfl⟩ rfl (Nat.le_of_ble_eq_true rfl) w6_67 w6_68 (fun r_ μ1 hp_ => ?_)
  obtain ⟨v, rfl, hp_⟩ := hp_
  exact k v μ1 hp_
theorem bX12_ends_85 {Z : ZT} {X : XT} {μ : Mu} {a2 : Int32} {a3 : Int32} {a4 : Int32} {a5 : Int32} {s0 : Int32} (E : Ent Z X mX12_ends 0 0)  
    (kt : s0 = 0 → JS Z X 98 [(0, .ref (Z.2.2.1 + 455)), (2, .int a2), (3, .int a3), (4, .int a4), (5, .int a5)] [] μ) (kf : ¬ (s0 = 0) → JS Z X 88 [(0, .ref (Z.2.2.1 + 455)), (2, .int a2), (3, .int a3), (4, .int a4), (5, .int a5)] [] μ) :
    JS Z X 85 [(0, .ref (Z.2.2.1 + 455)), (2, .int a2), (3, .int a3), (4, .int a4), (5, .int a5)] [.int s0] μ := by
  refine J_if_eq (tgt := 98) E dX12_ends_85 (by decide) (fun c => ?_) (fun c => ?_)
  · exact kt c
  · exact kf c
theorem bX12_ends_88 {Z : ZT} {X : XT} {μ : Mu} {a2 : Int32} {a3 : Int32} {a4 : Int32} {a5 : Int32} (E : Ent Z X mX12_ends 0 0) {p : Mu → Prop} 
    (c : CtrS Z mX12_add [.ref (Z.2.2.1 + 455), .int (nI 4), .int ((nI 16) + a5)] μ (rV p)) (k : ∀ μ1, p μ1 → JS Z X 98 [(0, .ref (Z.2.2.1 + 455)), (2, .int a2), (3, .int a3), (4, .int a4), (5, .int a5)] [] μ1) :
    JS Z X 88 [(0, .ref (Z.2.2.1 + 455)), (2, .int a2), (3, .int a3), (4, .int a4), (5, .int a5)] [] μ := by
  refine J_aload_n E dX12_ends_88 rfl ?_
  refine J_iconst (v := nI 4) E dX12_ends_89 rfl ?_
  refine J_bipush (v := nI 16) E dX12_ends_90 rfl ?_
  refine J_iload E dX12_ends_92 rfl ?_
  refine J_iadd E dX12_ends_94 ?_
  refine S_callV (As := [.int (nI 4), .int ((nI 16) + a5)]) (rest := []) E dX12_ends_95 c kX12_add ⟨Nat.le_of_ble_eq_true rfl, Nat.le_of_ble_eq_true rfl⟩ rfl (Nat.le_of_ble_eq_true rfl) sh455 rfl rfl w7_39 w7_41 wp_66 (fun r_ μ1 hp_ => ?_)
  obtain ⟨rfl, hp_⟩ := hp_
  exact k μ1 hp_
theorem bX12_ends_98 {Z : ZT} {X : XT} {μ : Mu} {a2 : Int32} {a3 : Int32} {a4 : Int32} {a5 : Int32} (E : Ent Z X mX12_ends 0 0)  
    (k : JS Z X 66 [(0, .ref (Z.2.2.1 + 455)), (2, .int a2), (3, .int a3), (4, .int a4), (5, .int (a5 + nI 1))] [] μ) :
    JS Z X 98 [(0, .ref (Z.2.2.1 + 455)), (2, .int a2), (3, .int a3), (4, .int a4), (5, .int a5)] [] μ := by
  refine J_iinc (v := a5 + nI 1) (lv' := [(0, .ref (Z.2.2.1 + 455)), (2, .int a2), (3, .int a3), (4, .int a4), (5, .int (a5 + nI 1))]) E dX12_ends_98 rfl rfl (Nat.le_of_ble_eq_true rfl) rfl ?_
  refine J_goto (tgt := 66) E dX12_ends_101 (by decide) ?_
  exact k
theorem bX12_ends_104 {Z : ZT} {X : XT} {μ : Mu} {a4 : Int32} (E : Ent Z X mX12_ends 0 0) {p : Mu → Prop} 
    (c : CtrS Z mX12_tell [.ref (Z.2.2.1 + 455), .int (nI 4), .int a4] μ (rV p)) (k : ∀ μ1, p μ1 → JS Z X 111 [] [] μ1) :
    JS Z X 104 [(0, .ref (Z.2.2.1 + 455)), (4, .int a4)] [] μ := by
  refine J_aload_n E dX12_ends_104 rfl ?_
  refine J_iconst (v := nI 4) E dX12_ends_105 rfl ?_
  refine J_iload E dX12_ends_106 rfl ?_
  refine S_callV (As := [.int (nI 4), .int a4]) (rest := []) E dX12_ends_108 c kX12_tell ⟨Nat.le_of_ble_eq_true rfl, Nat.le_of_ble_eq_true rfl⟩ rfl (Nat.le_of_ble_eq_true rfl) sh455 rfl rfl w6_234 w6_236 wp_56 (fun r_ μ1 hp_ => ?_)
  obtain ⟨rfl, hp_⟩ := hp_
  refine J.weak [] rfl ?_
  exact k μ1 hp_
theorem bX12_ends_111 {Z : ZT} {X : XT} {μ : Mu} (E : Ent Z X mX12_ends 0 0) {P : Option Value → Mu → Prop} (hB : BodS Z X P) 
    (k : P (some (.int (nI 1))) μ) :
    JS Z X 111 [] [] μ := by
  refine J_iconst (v := nI 1) E dX12_ends_111 rfl ?_
  exact S_iret E hB dX12_ends_112 rfl k
theorem dX12_sooner_0 : decode cX12_sooner 0 = .ok (.iload_n 1, 1) := by decide +kernel
theorem dX12_sooner_1 : decode cX12_sooner 1 = .ok (.invokestatic 85, 3) := by decide +kernel
theorem dX12_sooner_4 : decode cX12_sooner 4 = .ok (.ifCond .ne 10, 3) := by decide +kernel
theorem dX12_sooner_7 : decode cX12_sooner 7 = .ok (.aload_n 0, 1) := by decide +kernel
theorem dX12_sooner_8 : decode cX12_sooner 8 = .ok (.bipush (-2), 2) := by decide +kernel
theorem dX12_sooner_10 : decode cX12_sooner 10 = .ok (.invokevirtual 63, 3) := by decide +kernel
theorem dX12_sooner_13 : decode cX12_sooner 13 = .ok (.ireturn, 1) := by decide +kernel
theorem dX12_sooner_14 : decode cX12_sooner 14 = .ok (.aload_n 0, 1) := by decide +kernel
theorem dX12_sooner_15 : decode cX12_sooner 15 = .ok (.iload_n 1, 1) := by decide +kernel
theorem dX12_sooner_16 : decode cX12_sooner 16 = .ok (.invokevirtual 235, 3) := by decide +kernel
theorem dX12_sooner_19 : decode cX12_sooner 19 = .ok (.ifCond .ne 10, 3) := by decide +kernel
theorem dX12_sooner_22 : decode cX12_sooner 22 = .ok (.aload_n 0, 1) := by decide +kernel
theorem dX12_sooner_23 : decode cX12_sooner 23 = .ok (.bipush (-3), 2) := by decide +kernel
theorem dX12_sooner_25 : decode cX12_sooner 25 = .ok (.invokevirtual 63, 3) := by decide +kernel
theorem dX12_sooner_28 : decode cX12_sooner 28 = .ok (.ireturn, 1) := by decide +kernel
theorem dX12_sooner_29 : decode cX12_sooner 29 = .ok (.iconst (-1), 1) := by decide +kernel
theorem dX12_sooner_30 : decode cX12_sooner 30 = .ok (.istore_n 2, 1) := by decide +kernel
theorem dX12_sooner_31 : decode cX12_sooner 31 = .ok (.iconst 0, 1) := by decide +kernel
theorem dX12_sooner_32 : decode cX12_sooner 32 = .ok (.istore_n 3, 1) := by decide +kernel
theorem dX12_sooner_33 : decode cX12_sooner 33 = .ok (.iconst 0, 1) := by decide +kernel
theorem dX12_sooner_34 : decode cX12_sooner 34 = .ok (.istore 4, 2) := by decide +kernel
theorem dX12_sooner_36 : decode cX12_sooner 36 = .ok (.iload 4, 2) := by decide +kernel
theorem dX12_sooner_38 : decode cX12_sooner 38 = .ok (.aload_n 0, 1) := by decide +kernel
theorem dX12_sooner_39 : decode cX12_sooner 39 = .ok (.getfield 168, 3) := by decide +kernel
theorem dX12_sooner_42 : decode cX12_sooner 42 = .ok (.if_icmp .ge 95, 3) := by decide +kernel
theorem dX12_sooner_45 : decode cX12_sooner 45 = .ok (.aload_n 0, 1) := by decide +kernel
theorem dX12_sooner_46 : decode cX12_sooner 46 = .ok (.iload_n 1, 1) := by decide +kernel
theorem dX12_sooner_47 : decode cX12_sooner 47 = .ok (.iload 4, 2) := by decide +kernel
theorem dX12_sooner_49 : decode cX12_sooner 49 = .ok (.invokevirtual 250, 3) := by decide +kernel
theorem dX12_sooner_52 : decode cX12_sooner 52 = .ok (.istore_n 3, 1) := by decide +kernel
theorem dX12_sooner_53 : decode cX12_sooner 53 = .ok (.aload_n 0, 1) := by decide +kernel
theorem dX12_sooner_54 : decode cX12_sooner 54 = .ok (.iconst 3, 1) := by decide +kernel
theorem dX12_sooner_55 : decode cX12_sooner 55 = .ok (.iconst 0, 1) := by decide +kernel
theorem dX12_sooner_56 : decode cX12_sooner 56 = .ok (.invokevirtual 204, 3) := by decide +kernel
theorem dX12_sooner_59 : decode cX12_sooner 59 = .ok (.iconst 0, 1) := by decide +kernel
theorem dX12_sooner_60 : decode cX12_sooner 60 = .ok (.istore 5, 2) := by decide +kernel
theorem dX12_sooner_62 : decode cX12_sooner 62 = .ok (.iload 5, 2) := by decide +kernel
theorem dX12_sooner_64 : decode cX12_sooner 64 = .ok (.bipush 40, 2) := by decide +kernel
theorem dX12_sooner_66 : decode cX12_sooner 66 = .ok (.if_icmp .ge 37, 3) := by decide +kernel
theorem dX12_sooner_69 : decode cX12_sooner 69 = .ok (.aload_n 0, 1) := by decide +kernel
theorem dX12_sooner_70 : decode cX12_sooner 70 = .ok (.getfield 175, 3) := by decide +kernel
theorem dX12_sooner_73 : decode cX12_sooner 73 = .ok (.iload 5, 2) := by decide +kernel
theorem dX12_sooner_75 : decode cX12_sooner 75 = .ok (.iadd, 1) := by decide +kernel
theorem dX12_sooner_76 : decode cX12_sooner 76 = .ok (.aload_n 0, 1) := by decide +kernel
theorem dX12_sooner_77 : decode cX12_sooner 77 = .ok (.getfield 7, 3) := by decide +kernel
theorem dX12_sooner_80 : decode cX12_sooner 80 = .ok (.sipush 202, 3) := by decide +kernel
theorem dX12_sooner_83 : decode cX12_sooner 83 = .ok (.iaload, 1) := by decide +kernel
theorem dX12_sooner_84 : decode cX12_sooner 84 = .ok (.if_icmp .le 13, 3) := by decide +kernel
theorem dX12_sooner_87 : decode cX12_sooner 87 = .ok (.aload_n 0, 1) := by decide +kernel
theorem dX12_sooner_88 : decode cX12_sooner 88 = .ok (.iconst 3, 1) := by decide +kernel
theorem dX12_sooner_89 : decode cX12_sooner 89 = .ok (.bipush 16, 2) := by decide +kernel
theorem dX12_sooner_91 : decode cX12_sooner 91 = .ok (.iload 5, 2) := by decide +kernel
theorem dX12_sooner_93 : decode cX12_sooner 93 = .ok (.iadd, 1) := by decide +kernel
theorem dX12_sooner_94 : decode cX12_sooner 94 = .ok (.invokevirtual 219, 3) := by decide +kernel
theorem dX12_sooner_97 : decode cX12_sooner 97 = .ok (.iinc 5 1, 3) := by decide +kernel
theorem dX12_sooner_100 : decode cX12_sooner 100 = .ok (.goto (-38), 3) := by decide +kernel
theorem dX12_sooner_103 : decode cX12_sooner 103 = .ok (.iload_n 2, 1) := by decide +kernel
theorem dX12_sooner_104 : decode cX12_sooner 104 = .ok (.iconst (-1), 1) := by decide +kernel
theorem dX12_sooner_105 : decode cX12_sooner 105 = .ok (.if_icmp .eq 12, 3) := by decide +kernel
theorem dX12_sooner_108 : decode cX12_sooner 108 = .ok (.aload_n 0, 1) := by decide +kernel
theorem dX12_sooner_109 : decode cX12_sooner 109 = .ok (.iconst 3, 1) := by decide +kernel
theorem dX12_sooner_110 : decode cX12_sooner 110 = .ok (.iconst 4, 1) := by decide +kernel
theorem dX12_sooner_111 : decode cX12_sooner 111 = .ok (.invokevirtual 229, 3) := by decide +kernel
theorem dX12_sooner_114 : decode cX12_sooner 114 = .ok (.ifCond .ge 17, 3) := by decide +kernel
theorem dX12_sooner_117 : decode cX12_sooner 117 = .ok (.aload_n 0, 1) := by decide +kernel
theorem dX12_sooner_118 : decode cX12_sooner 118 = .ok (.getfield 30, 3) := by decide +kernel
theorem dX12_sooner_121 : decode cX12_sooner 121 = .ok (.iload 4, 2) := by decide +kernel
theorem dX12_sooner_123 : decode cX12_sooner 123 = .ok (.iaload, 1) := by decide +kernel
theorem dX12_sooner_124 : decode cX12_sooner 124 = .ok (.istore_n 2, 1) := by decide +kernel
theorem dX12_sooner_125 : decode cX12_sooner 125 = .ok (.aload_n 0, 1) := by decide +kernel
theorem dX12_sooner_126 : decode cX12_sooner 126 = .ok (.iconst 3, 1) := by decide +kernel
theorem dX12_sooner_127 : decode cX12_sooner 127 = .ok (.iconst 4, 1) := by decide +kernel
theorem dX12_sooner_128 : decode cX12_sooner 128 = .ok (.invokevirtual 198, 3) := by decide +kernel
theorem dX12_sooner_131 : decode cX12_sooner 131 = .ok (.iinc 4 1, 3) := by decide +kernel
theorem dX12_sooner_134 : decode cX12_sooner 134 = .ok (.goto (-98), 3) := by decide +kernel
theorem dX12_sooner_137 : decode cX12_sooner 137 = .ok (.aload_n 0, 1) := by decide +kernel
theorem dX12_sooner_138 : decode cX12_sooner 138 = .ok (.iconst 4, 1) := by decide +kernel
theorem dX12_sooner_139 : decode cX12_sooner 139 = .ok (.iload_n 3, 1) := by decide +kernel
theorem dX12_sooner_140 : decode cX12_sooner 140 = .ok (.invokevirtual 238, 3) := by decide +kernel
theorem dX12_sooner_143 : decode cX12_sooner 143 = .ok (.iload_n 2, 1) := by decide +kernel
theorem dX12_sooner_144 : decode cX12_sooner 144 = .ok (.ireturn, 1) := by decide +kernel
theorem bX12_sooner_0 {Z : ZT} {X : XT} {μ : Mu} {a1 : Int32} (E : Ent Z X mX12_sooner 0 0) {p : Int32 → Mu → Prop} 
    (c : CtrS Z mX12_isLot [.int a1] μ (rI p)) (k : ∀ v μ1, p v μ1 → JS Z X 4 [(0, .ref (Z.2.2.1 + 455)), (1, .int a1)] [.int v] μ1) :
    JS Z X 0 [(0, .ref (Z.2.2.1 + 455)), (1, .int a1)] [] μ := by
  refine J_iload_n E dX12_sooner_0 rfl ?_
  refine S_callS (As := [.int a1]) (rest := []) E dX12_sooner_1 c kX12_isLot ⟨Nat.le_of_ble_eq_true rfl, Nat.le_of_ble_eq_true rfl⟩ rfl (Nat.le_of_ble_eq_true rfl) w6_138 w6_139 (fun r_ μ1 hp_ => ?_)
  obtain ⟨v, rfl, hp_⟩ := hp_
  exact k v μ1 hp_
theorem bX12_sooner_4 {Z : ZT} {X : XT} {μ : Mu} {a1 : Int32} {s0 : Int32} (E : Ent Z X mX12_sooner 0 0)  
    (kt : ¬ s0 = 0 → JS Z X 14 [(0, .ref (Z.2.2.1 + 455)), (1, .int a1)] [] μ) (kf : s0 = 0 → JS Z X 7 [(0, .ref (Z.2.2.1 + 455))] [] μ) :
    JS Z X 4 [(0, .ref (Z.2.2.1 + 455)), (1, .int a1)] [.int s0] μ := by
  refine J_if_ne (tgt := 14) E dX12_sooner_4 (by decide) (fun c => ?_) (fun c => ?_)
  · exact kt c
  · refine J.weak [0] rfl ?_
    exact kf c
theorem bX12_sooner_7 {Z : ZT} {X : XT} {μ : Mu} (E : Ent Z X mX12_sooner 0 0) {p : Int32 → Mu → Prop} 
    (c : CtrS Z mX12_refuse [.ref (Z.2.2.1 + 455), .int (-2)] μ (rI p)) (k : ∀ v μ1, p v μ1 → JS Z X 13 [] [.int v] μ1) :
    JS Z X 7 [(0, .ref (Z.2.2.1 + 455))] [] μ := by
  refine J_aload_n E dX12_sooner_7 rfl ?_
  refine J_bipush (v := -2) E dX12_sooner_8 rfl ?_
  refine S_callV (As := [.int (-2)]) (rest := []) E dX12_sooner_10 c kX12_refuse ⟨Nat.le_of_ble_eq_true rfl, Nat.le_of_ble_eq_true rfl⟩ rfl (Nat.le_of_ble_eq_true rfl) sh455 rfl rfl w6_51 w6_53 wp_30 (fun r_ μ1 hp_ => ?_)
  obtain ⟨v, rfl, hp_⟩ := hp_
  refine J.weak [] rfl ?_
  exact k v μ1 hp_
theorem bX12_sooner_13 {Z : ZT} {X : XT} {μ : Mu} {s0 : Int32} (E : Ent Z X mX12_sooner 0 0) {P : Option Value → Mu → Prop} (hB : BodS Z X P) 
    (k : P (some (.int s0)) μ) :
    JS Z X 13 [] [.int s0] μ := by
  exact S_iret E hB dX12_sooner_13 rfl k
theorem bX12_sooner_14 {Z : ZT} {X : XT} {μ : Mu} {a1 : Int32} (E : Ent Z X mX12_sooner 0 0) {p : Int32 → Mu → Prop} 
    (c : CtrS Z mX12_isHunt [.ref (Z.2.2.1 + 455), .int a1] μ (rI p)) (k : ∀ v μ1, p v μ1 → JS Z X 19 [(0, .ref (Z.2.2.1 + 455)), (1, .int a1)] [.int v] μ1) :
    JS Z X 14 [(0, .ref (Z.2.2.1 + 455)), (1, .int a1)] [] μ := by
  refine J_aload_n E dX12_sooner_14 rfl ?_
  refine J_iload_n E dX12_sooner_15 rfl ?_
  refine S_callV (As := [.int a1]) (rest := []) E dX12_sooner_16 c kX12_isHunt ⟨Nat.le_of_ble_eq_true rfl, Nat.le_of_ble_eq_true rfl⟩ rfl (Nat.le_of_ble_eq_true rfl) sh455 rfl rfl w6_197 w6_199 wp_47 (fun r_ μ1 hp_ => ?_)
  obtain ⟨v, rfl, hp_⟩ := hp_
  exact k v μ1 hp_
theorem bX12_sooner_19 {Z : ZT} {X : XT} {μ : Mu} {a1 : Int32} {s0 : Int32} (E : Ent Z X mX12_sooner 0 0)  
    (kt : ¬ s0 = 0 → JS Z X 29 [(0, .ref (Z.2.2.1 + 455)), (1, .int a1)] [] μ) (kf : s0 = 0 → JS Z X 22 [(0, .ref (Z.2.2.1 + 455))] [] μ) :
    JS Z X 19 [(0, .ref (Z.2.2.1 + 455)), (1, .int a1)] [.int s0] μ := by
  refine J_if_ne (tgt := 29) E dX12_sooner_19 (by decide) (fun c => ?_) (fun c => ?_)
  · exact kt c
  · refine J.weak [0] rfl ?_
    exact kf c
theorem bX12_sooner_22 {Z : ZT} {X : XT} {μ : Mu} (E : Ent Z X mX12_sooner 0 0) {p : Int32 → Mu → Prop} 
    (c : CtrS Z mX12_refuse [.ref (Z.2.2.1 + 455), .int (-3)] μ (rI p)) (k : ∀ v μ1, p v μ1 → JS Z X 28 [] [.int v] μ1) :
    JS Z X 22 [(0, .ref (Z.2.2.1 + 455))] [] μ := by
  refine J_aload_n E dX12_sooner_22 rfl ?_
  refine J_bipush (v := -3) E dX12_sooner_23 rfl ?_
  refine S_callV (As := [.int (-3)]) (rest := []) E dX12_sooner_25 c kX12_refuse ⟨Nat.le_of_ble_eq_true rfl, Nat.le_of_ble_eq_true rfl⟩ rfl (Nat.le_of_ble_eq_true rfl) sh455 rfl rfl w6_51 w6_53 wp_30 (fun r_ μ1 hp_ => ?_)
  obtain ⟨v, rfl, hp_⟩ := hp_
  refine J.weak [] rfl ?_
  exact k v μ1 hp_
theorem bX12_sooner_28 {Z : ZT} {X : XT} {μ : Mu} {s0 : Int32} (E : Ent Z X mX12_sooner 0 0) {P : Option Value → Mu → Prop} (hB : BodS Z X P) 
    (k : P (some (.int s0)) μ) :
    JS Z X 28 [] [.int s0] μ := by
  exact S_iret E hB dX12_sooner_28 rfl k
theorem bX12_sooner_29 {Z : ZT} {X : XT} {μ : Mu} {a1 : Int32} (E : Ent Z X mX12_sooner 0 0)  
    (k : JS Z X 36 [(0, .ref (Z.2.2.1 + 455)), (1, .int a1), (2, .int (-1)), (3, .int (nI 0)), (4, .int (nI 0))] [] μ) :
    JS Z X 29 [(0, .ref (Z.2.2.1 + 455)), (1, .int a1)] [] μ := by
  refine J_iconst (v := -1) E dX12_sooner_29 rfl ?_
  refine J_istore_n (lv' := [(0, .ref (Z.2.2.1 + 455)), (1, .int a1), (2, .int (-1))]) E dX12_sooner_30 (Nat.le_of_ble_eq_true rfl) rfl ?_
  refine J_iconst (v := nI 0) E dX12_sooner_31 rfl ?_
  refine J_istore_n (lv' := [(0, .ref (Z.2.2.1 + 455)), (1, .int a1), (2, .int (-1)), (3, .int (nI 0))]) E dX12_sooner_32 (Nat.le_of_ble_eq_true rfl) rfl ?_
  refine J_iconst (v := nI 0) E dX12_sooner_33 rfl ?_
  refine J_istore (lv' := [(0, .ref (Z.2.2.1 + 455)), (1, .int a1), (2, .int (-1)), (3, .int (nI 0)), (4, .int (nI 0))]) E dX12_sooner_34 (Nat.le_of_ble_eq_true rfl) rfl ?_
  exact k
theorem bX12_sooner_36 {Z : ZT} {X : XT} {μ : Mu} {a1 : Int32} {a2 : Int32} {a3 : Int32} {a4 : Int32} (E : Ent Z X mX12_sooner 0 0)  
    (kt : (μ 455 13) ≤ a4 → JS Z X 137 [(0, .ref (Z.2.2.1 + 455)), (2, .int a2), (3, .int a3)] [] μ) (kf : ¬ ((μ 455 13) ≤ a4) → JS Z X 45 [(0, .ref (Z.2.2.1 + 455)), (1, .int a1), (2, .int a2), (4, .int a4)] [] μ) :
    JS Z X 36 [(0, .ref (Z.2.2.1 + 455)), (1, .int a1), (2, .int a2), (3, .int a3), (4, .int a4)] [] μ := by
  refine J_iload E dX12_sooner_36 rfl ?_
  refine J_aload_n E dX12_sooner_38 rfl ?_
  refine S_get (ci := 12) (q := 13) (v := .int (μ 455 13)) E dX12_sooner_39 fs_X12_168 sh455 rfl ?_
  refine J_icmp_ge (tgt := 137) E dX12_sooner_42 (by decide) (fun c => ?_) (fun c => ?_)
  · refine J.weak [0, 2, 3] rfl ?_
    exact kt c
  · refine J.weak [0, 1, 2, 4] rfl ?_
    exact kf c
theorem bX12_sooner_45 {Z : ZT} {X : XT} {μ : Mu} {a1 : Int32} {a2 : Int32} {a4 : Int32} (E : Ent Z X mX12_sooner 0 0) {p : Int32 → Mu → Prop} 
    (c : CtrS Z mX12_weighLengths [.ref (Z.2.2.1 + 455), .int a1, .int a4] μ (rI p)) (k : ∀ v μ1, p v μ1 → JS Z X 52 [(0, .ref (Z.2.2.1 + 455)), (1, .int a1), (2, .int a2), (4, .int a4)] [.int v] μ1) :
    JS Z X 45 [(0, .ref (Z.2.2.1 + 455)), (1, .int a1), (2, .int a2), (4, .int a4)] [] μ := by
  refine J_aload_n E dX12_sooner_45 rfl ?_
  refine J_iload_n E dX12_sooner_46 rfl ?_
  refine J_iload E dX12_sooner_47 rfl ?_
  refine S_callV (As := [.int a1, .int a4]) (rest := []) E dX12_sooner_49 c kX12_weighLengths ⟨Nat.le_of_ble_eq_true rfl, Nat.le_of_ble_eq_true rfl⟩ rfl (Nat.le_of_ble_eq_true rfl) sh455 rfl rfl w7_47 w7_49 wp_67 (fun r_ μ1 hp_ => ?_)
  obtain ⟨v, rfl, hp_⟩ := hp_
  exact k v μ1 hp_
theorem bX12_sooner_52 {Z : ZT} {X : XT} {μ : Mu} {a1 : Int32} {a2 : Int32} {a4 : Int32} {s0 : Int32} (E : Ent Z X mX12_sooner 0 0) {p : Mu → Prop} 
    (c : CtrS Z mX12_set [.ref (Z.2.2.1 + 455), .int (nI 3), .int (nI 0)] μ (rV p)) (k : ∀ μ1, p μ1 → JS Z X 59 [(0, .ref (Z.2.2.1 + 455)), (1, .int a1), (2, .int a2), (3, .int s0), (4, .int a4)] [] μ1) :
    JS Z X 52 [(0, .ref (Z.2.2.1 + 455)), (1, .int a1), (2, .int a2), (4, .int a4)] [.int s0] μ := by
  refine J_istore_n (lv' := [(0, .ref (Z.2.2.1 + 455)), (1, .int a1), (2, .int a2), (3, .int s0), (4, .int a4)]) E dX12_sooner_52 (Nat.le_of_ble_eq_true rfl) rfl ?_
  refine J_aload_n E dX12_sooner_53 rfl ?_
  refine J_iconst (v := nI 3) E dX12_sooner_54 rfl ?_
  refine J_iconst (v := nI 0) E dX12_sooner_55 rfl ?_
  refine S_callV (As := [.int (nI 3), .int (nI 0)]) (rest := []) E dX12_sooner_56 c kX12_set ⟨Nat.le_of_ble_eq_true rfl, Nat.le_of_ble_eq_true rfl⟩ rfl (Nat.le_of_ble_eq_true rfl) sh455 rfl rfl w6_230 w6_232 wp_55 (fun r_ μ1 hp_ => ?_)
  obtain ⟨rfl, hp_⟩ := hp_
  exact k μ1 hp_
theorem bX12_sooner_59 {Z : ZT} {X : XT} {μ : Mu} {a1 : Int32} {a2 : Int32} {a3 : Int32} {a4 : Int32} (E : Ent Z X mX12_sooner 0 0)  
    (k : JS Z X 62 [(0, .ref (Z.2.2.1 + 455)), (1, .int a1), (2, .int a2), (3, .int a3), (4, .int a4), (5, .int (nI 0))] [] μ) :
    JS Z X 59 [(0, .ref (Z.2.2.1 + 455)), (1, .int a1), (2, .int a2), (3, .int a3), (4, .int a4)] [] μ := by
  refine J_iconst (v := nI 0) E dX12_sooner_59 rfl ?_
  refine J_istore (lv' := [(0, .ref (Z.2.2.1 + 455)), (1, .int a1), (2, .int a2), (3, .int a3), (4, .int a4), (5, .int (nI 0))]) E dX12_sooner_60 (Nat.le_of_ble_eq_true rfl) rfl ?_
  exact k
theorem bX12_sooner_62 {Z : ZT} {X : XT} {μ : Mu} {a1 : Int32} {a2 : Int32} {a3 : Int32} {a4 : Int32} {a5 : Int32} (E : Ent Z X mX12_sooner 0 0)  
    (kt : (nI 40) ≤ a5 → JS Z X 103 [(0, .ref (Z.2.2.1 + 455)), (1, .int a1), (2, .int a2), (3, .int a3), (4, .int a4)] [] μ) (kf : ¬ ((nI 40) ≤ a5) → JS Z X 69 [(0, .ref (Z.2.2.1 + 455)), (1, .int a1), (2, .int a2), (3, .int a3), (4, .int a4), (5, .int a5)] [] μ) :
    JS Z X 62 [(0, .ref (Z.2.2.1 + 455)), (1, .int a1), (2, .int a2), (3, .int a3), (4, .int a4), (5, .int a5)] [] μ := by
  refine J_iload E dX12_sooner_62 rfl ?_
  refine J_bipush (v := nI 40) E dX12_sooner_64 rfl ?_
  refine J_icmp_ge (tgt := 103) E dX12_sooner_66 (by decide) (fun c => ?_) (fun c => ?_)
  · refine J.weak [0, 1, 2, 3, 4] rfl ?_
    exact kt c
  · exact kf c
theorem bX12_sooner_69 {Z : ZT} {X : XT} {μ : Mu} {a1 : Int32} {a2 : Int32} {a3 : Int32} {a4 : Int32} {a5 : Int32} (E : Ent Z X mX12_sooner 0 0)  (s1_ : vp_in (nI 202) 988)
    (kt : ((μ 455 17) + a5) ≤ (μ 456 (ix (nI 202))) → JS Z X 97 [(0, .ref (Z.2.2.1 + 455)), (1, .int a1), (2, .int a2), (3, .int a3), (4, .int a4), (5, .int a5)] [] μ) (kf : ¬ (((μ 455 17) + a5) ≤ (μ 456 (ix (nI 202)))) → JS Z X 87 [(0, .ref (Z.2.2.1 + 455)), (1, .int a1), (2, .int a2), (3, .int a3), (4, .int a4), (5, .int a5)] [] μ) :
    JS Z X 69 [(0, .ref (Z.2.2.1 + 455)), (1, .int a1), (2, .int a2), (3, .int a3), (4, .int a4), (5, .int a5)] [] μ := by
  refine J_aload_n E dX12_sooner_69 rfl ?_
  refine S_get (ci := 12) (q := 17) (v := .int (μ 455 17)) E dX12_sooner_70 fs_X12_175 sh455 rfl ?_
  refine J_iload E dX12_sooner_73 rfl ?_
  refine J_iadd E dX12_sooner_75 ?_
  refine J_aload_n E dX12_sooner_76 rfl ?_
  refine S_get (ci := 12) (q := 0) (v := .ref (Z.2.2.1 + 456)) E dX12_sooner_77 fs_X12_7 sh455 rfl ?_
  refine J_sipush (v := nI 202) E dX12_sooner_80 rfl ?_
  refine S_iald E dX12_sooner_83 sh456 s1_ ?_
  refine J_icmp_le (tgt := 97) E dX12_sooner_84 (by decide) (fun c => ?_) (fun c => ?_)
  · exact kt c
  · exact kf c
theorem bX12_sooner_87 {Z : ZT} {X : XT} {μ : Mu} {a1 : Int32} {a2 : Int32} {a3 : Int32} {a4 : Int32} {a5 : Int32} (E : Ent Z X mX12_sooner 0 0) {p : Mu → Prop} 
    (c : CtrS Z mX12_add [.ref (Z.2.2.1 + 455), .int (nI 3), .int ((nI 16) + a5)] μ (rV p)) (k : ∀ μ1, p μ1 → JS Z X 97 [(0, .ref (Z.2.2.1 + 455)), (1, .int a1), (2, .int a2), (3, .int a3), (4, .int a4), (5, .int a5)] [] μ1) :
    JS Z X 87 [(0, .ref (Z.2.2.1 + 455)), (1, .int a1), (2, .int a2), (3, .int a3), (4, .int a4), (5, .int a5)] [] μ := by
  refine J_aload_n E dX12_sooner_87 rfl ?_
  refine J_iconst (v := nI 3) E dX12_sooner_88 rfl ?_
  refine J_bipush (v := nI 16) E dX12_sooner_89 rfl ?_
  refine J_iload E dX12_sooner_91 rfl ?_
  refine J_iadd E dX12_sooner_93 ?_
  refine S_callV (As := [.int (nI 3), .int ((nI 16) + a5)]) (rest := []) E dX12_sooner_94 c kX12_add ⟨Nat.le_of_ble_eq_true rfl, Nat.le_of_ble_eq_true rfl⟩ rfl (Nat.le_of_ble_eq_true rfl) sh455 rfl rfl w7_39 w7_41 wp_66 (fun r_ μ1 hp_ => ?_)
  obtain ⟨rfl, hp_⟩ := hp_
  exact k μ1 hp_
theorem bX12_sooner_97 {Z : ZT} {X : XT} {μ : Mu} {a1 : Int32} {a2 : Int32} {a3 : Int32} {a4 : Int32} {a5 : Int32} (E : Ent Z X mX12_sooner 0 0)  
    (k : JS Z X 62 [(0, .ref (Z.2.2.1 + 455)), (1, .int a1), (2, .int a2), (3, .int a3), (4, .int a4), (5, .int (a5 + nI 1))] [] μ) :
    JS Z X 97 [(0, .ref (Z.2.2.1 + 455)), (1, .int a1), (2, .int a2), (3, .int a3), (4, .int a4), (5, .int a5)] [] μ := by
  refine J_iinc (v := a5 + nI 1) (lv' := [(0, .ref (Z.2.2.1 + 455)), (1, .int a1), (2, .int a2), (3, .int a3), (4, .int a4), (5, .int (a5 + nI 1))]) E dX12_sooner_97 rfl rfl (Nat.le_of_ble_eq_true rfl) rfl ?_
  refine J_goto (tgt := 62) E dX12_sooner_100 (by decide) ?_
  exact k
theorem bX12_sooner_103 {Z : ZT} {X : XT} {μ : Mu} {a1 : Int32} {a2 : Int32} {a3 : Int32} {a4 : Int32} (E : Ent Z X mX12_sooner 0 0)  
    (kt : a2 = (-1) → JS Z X 117 [(0, .ref (Z.2.2.1 + 455)), (1, .int a1), (3, .int a3), (4, .int a4)] [] μ) (kf : ¬ (a2 = (-1)) → JS Z X 108 [(0, .ref (Z.2.2.1 + 455)), (1, .int a1), (2, .int a2), (3, .int a3), (4, .int a4)] [] μ) :
    JS Z X 103 [(0, .ref (Z.2.2.1 + 455)), (1, .int a1), (2, .int a2), (3, .int a3), (4, .int a4)] [] μ := by
  refine J_iload_n E dX12_sooner_103 rfl ?_
  refine J_iconst (v := -1) E dX12_sooner_104 rfl ?_
  refine J_icmp_eq (tgt := 117) E dX12_sooner_105 (by decide) (fun c => ?_) (fun c => ?_)
  · refine J.weak [0, 1, 3, 4] rfl ?_
    exact kt c
  · exact kf c
theorem bX12_sooner_108 {Z : ZT} {X : XT} {μ : Mu} {a1 : Int32} {a2 : Int32} {a3 : Int32} {a4 : Int32} (E : Ent Z X mX12_sooner 0 0) {p : Int32 → Mu → Prop} 
    (c : CtrS Z mX12_compare [.ref (Z.2.2.1 + 455), .int (nI 3), .int (nI 4)] μ (rI p)) (k : ∀ v μ1, p v μ1 → JS Z X 114 [(0, .ref (Z.2.2.1 + 455)), (1, .int a1), (2, .int a2), (3, .int a3), (4, .int a4)] [.int v] μ1) :
    JS Z X 108 [(0, .ref (Z.2.2.1 + 455)), (1, .int a1), (2, .int a2), (3, .int a3), (4, .int a4)] [] μ := by
  refine J_aload_n E dX12_sooner_108 rfl ?_
  refine J_iconst (v := nI 3) E dX12_sooner_109 rfl ?_
  refine J_iconst (v := nI 4) E dX12_sooner_110 rfl ?_
  refine S_callV (As := [.int (nI 3), .int (nI 4)]) (rest := []) E dX12_sooner_111 c kX12_compare ⟨Nat.le_of_ble_eq_true rfl, Nat.le_of_ble_eq_true rfl⟩ rfl (Nat.le_of_ble_eq_true rfl) sh455 rfl rfl w7_59 w7_61 wp_69 (fun r_ μ1 hp_ => ?_)
  obtain ⟨v, rfl, hp_⟩ := hp_
  exact k v μ1 hp_
theorem bX12_sooner_114 {Z : ZT} {X : XT} {μ : Mu} {a1 : Int32} {a2 : Int32} {a3 : Int32} {a4 : Int32} {s0 : Int32} (E : Ent Z X mX12_sooner 0 0)  
    (kt : 0 ≤ s0 → JS Z X 131 [(0, .ref (Z.2.2.1 + 455)), (1, .int a1), (2, .int a2), (3, .int a3), (4, .int a4)] [] μ) (kf : ¬ (0 ≤ s0) → JS Z X 117 [(0, .ref (Z.2.2.1 + 455)), (1, .int a1), (3, .int a3), (4, .int a4)] [] μ) :
    JS Z X 114 [(0, .ref (Z.2.2.1 + 455)), (1, .int a1), (2, .int a2), (3, .int a3), (4, .int a4)] [.int s0] μ := by
  refine J_if_ge (tgt := 131) E dX12_sooner_114 (by decide) (fun c => ?_) (fun c => ?_)
  · exact kt c
  · refine J.weak [0, 1, 3, 4] rfl ?_
    exact kf c
theorem bX12_sooner_117 {Z : ZT} {X : XT} {μ : Mu} {a1 : Int32} {a3 : Int32} {a4 : Int32} (E : Ent Z X mX12_sooner 0 0) {p : Mu → Prop} (s1_ : vp_in a4 6)
    (c : CtrS Z mX12_copy [.ref (Z.2.2.1 + 455), .int (nI 3), .int (nI 4)] μ (rV p)) (k : ∀ μ1, p μ1 → JS Z X 131 [(0, .ref (Z.2.2.1 + 455)), (1, .int a1), (2, .int (μ 462 (ix a4))), (3, .int a3), (4, .int a4)] [] μ1) :
    JS Z X 117 [(0, .ref (Z.2.2.1 + 455)), (1, .int a1), (3, .int a3), (4, .int a4)] [] μ := by
  refine J_aload_n E dX12_sooner_117 rfl ?_
  refine S_get (ci := 12) (q := 14) (v := .ref (Z.2.2.1 + 462)) E dX12_sooner_118 fs_X12_30 sh455 rfl ?_
  refine J_iload E dX12_sooner_121 rfl ?_
  refine S_iald E dX12_sooner_123 sh462 s1_ ?_
  refine J_istore_n (lv' := [(0, .ref (Z.2.2.1 + 455)), (1, .int a1), (2, .int (μ 462 (ix a4))), (3, .int a3), (4, .int a4)]) E dX12_sooner_124 (Nat.le_of_ble_eq_true rfl) rfl ?_
  refine J_aload_n E dX12_sooner_125 rfl ?_
  refine J_iconst (v := nI 3) E dX12_sooner_126 rfl ?_
  refine J_iconst (v := nI 4) E dX12_sooner_127 rfl ?_
  refine S_callV (As := [.int (nI 3), .int (nI 4)]) (rest := []) E dX12_sooner_128 c kX12_copy ⟨Nat.le_of_ble_eq_true rfl, Nat.le_of_ble_eq_true rfl⟩ rfl (Nat.le_of_ble_eq_true rfl) sh455 rfl rfl w6_238 w7_0 wp_57 (fun r_ μ1 hp_ => ?_)
  obtain ⟨rfl, hp_⟩ := hp_
  exact k μ1 hp_
theorem bX12_sooner_131 {Z : ZT} {X : XT} {μ : Mu} {a1 : Int32} {a2 : Int32} {a3 : Int32} {a4 : Int32} (E : Ent Z X mX12_sooner 0 0)  
    (k : JS Z X 36 [(0, .ref (Z.2.2.1 + 455)), (1, .int a1), (2, .int a2), (3, .int a3), (4, .int (a4 + nI 1))] [] μ) :
    JS Z X 131 [(0, .ref (Z.2.2.1 + 455)), (1, .int a1), (2, .int a2), (3, .int a3), (4, .int a4)] [] μ := by
  refine J_iinc (v := a4 + nI 1) (lv' := [(0, .ref (Z.2.2.1 + 455)), (1, .int a1), (2, .int a2), (3, .int a3), (4, .int (a4 + nI 1))]) E dX12_sooner_131 rfl rfl (Nat.le_of_ble_eq_true rfl) rfl ?_
  refine J_goto (tgt := 36) E dX12_sooner_134 (by decide) ?_
  exact k
theorem bX12_sooner_137 {Z : ZT} {X : XT} {μ : Mu} {a2 : Int32} {a3 : Int32} (E : Ent Z X mX12_sooner 0 0) {p : Mu → Prop} 
    (c : CtrS Z mX12_tell [.ref (Z.2.2.1 + 455), .int (nI 4), .int a3] μ (rV p)) (k : ∀ μ1, p μ1 → JS Z X 143 [(2, .int a2)] [] μ1) :
    JS Z X 137 [(0, .ref (Z.2.2.1 + 455)), (2, .int a2), (3, .int a3)] [] μ := by
  refine J_aload_n E dX12_sooner_137 rfl ?_
  refine J_iconst (v := nI 4) E dX12_sooner_138 rfl ?_
  refine J_iload_n E dX12_sooner_139 rfl ?_
  refine S_callV (As := [.int (nI 4), .int a3]) (rest := []) E dX12_sooner_140 c kX12_tell ⟨Nat.le_of_ble_eq_true rfl, Nat.le_of_ble_eq_true rfl⟩ rfl (Nat.le_of_ble_eq_true rfl) sh455 rfl rfl w6_234 w6_236 wp_56 (fun r_ μ1 hp_ => ?_)
  obtain ⟨rfl, hp_⟩ := hp_
  refine J.weak [1] rfl ?_
  exact k μ1 hp_
theorem bX12_sooner_143 {Z : ZT} {X : XT} {μ : Mu} {a2 : Int32} (E : Ent Z X mX12_sooner 0 0) {P : Option Value → Mu → Prop} (hB : BodS Z X P) 
    (k : P (some (.int a2)) μ) :
    JS Z X 143 [(2, .int a2)] [] μ := by
  refine J_iload_n E dX12_sooner_143 rfl ?_
  exact S_iret E hB dX12_sooner_144 rfl k
theorem dX12_guessedTo_0 : decode cX12_guessedTo 0 = .ok (.aload_n 0, 1) := by decide +kernel
theorem dX12_guessedTo_1 : decode cX12_guessedTo 1 = .ok (.iload_n 1, 1) := by decide +kernel
theorem dX12_guessedTo_2 : decode cX12_guessedTo 2 = .ok (.iconst 0, 1) := by decide +kernel
theorem dX12_guessedTo_3 : decode cX12_guessedTo 3 = .ok (.invokevirtual 204, 3) := by decide +kernel
theorem dX12_guessedTo_6 : decode cX12_guessedTo 6 = .ok (.iconst 0, 1) := by decide +kernel
theorem dX12_guessedTo_7 : decode cX12_guessedTo 7 = .ok (.istore_n 3, 1) := by decide +kernel
theorem dX12_guessedTo_8 : decode cX12_guessedTo 8 = .ok (.iload_n 3, 1) := by decide +kernel
theorem dX12_guessedTo_9 : decode cX12_guessedTo 9 = .ok (.aload_n 0, 1) := by decide +kernel
theorem dX12_guessedTo_10 : decode cX12_guessedTo 10 = .ok (.getfield 168, 3) := by decide +kernel
theorem dX12_guessedTo_13 : decode cX12_guessedTo 13 = .ok (.if_icmp .ge 85, 3) := by decide +kernel
theorem dX12_guessedTo_16 : decode cX12_guessedTo 16 = .ok (.aload_n 0, 1) := by decide +kernel
theorem dX12_guessedTo_17 : decode cX12_guessedTo 17 = .ok (.getfield 7, 3) := by decide +kernel
theorem dX12_guessedTo_20 : decode cX12_guessedTo 20 = .ok (.sipush 163, 3) := by decide +kernel
theorem dX12_guessedTo_23 : decode cX12_guessedTo 23 = .ok (.aload_n 0, 1) := by decide +kernel
theorem dX12_guessedTo_24 : decode cX12_guessedTo 24 = .ok (.getfield 30, 3) := by decide +kernel
theorem dX12_guessedTo_27 : decode cX12_guessedTo 27 = .ok (.iload_n 3, 1) := by decide +kernel
theorem dX12_guessedTo_28 : decode cX12_guessedTo 28 = .ok (.iaload, 1) := by decide +kernel
theorem dX12_guessedTo_29 : decode cX12_guessedTo 29 = .ok (.iadd, 1) := by decide +kernel
theorem dX12_guessedTo_30 : decode cX12_guessedTo 30 = .ok (.iaload, 1) := by decide +kernel
theorem dX12_guessedTo_31 : decode cX12_guessedTo 31 = .ok (.istore 4, 2) := by decide +kernel
theorem dX12_guessedTo_33 : decode cX12_guessedTo 33 = .ok (.aload_n 0, 1) := by decide +kernel
theorem dX12_guessedTo_34 : decode cX12_guessedTo 34 = .ok (.iconst 3, 1) := by decide +kernel
theorem dX12_guessedTo_35 : decode cX12_guessedTo 35 = .ok (.aload_n 0, 1) := by decide +kernel
theorem dX12_guessedTo_36 : decode cX12_guessedTo 36 = .ok (.aload_n 0, 1) := by decide +kernel
theorem dX12_guessedTo_37 : decode cX12_guessedTo 37 = .ok (.getfield 7, 3) := by decide +kernel
theorem dX12_guessedTo_40 : decode cX12_guessedTo 40 = .ok (.sipush 148, 3) := by decide +kernel
theorem dX12_guessedTo_43 : decode cX12_guessedTo 43 = .ok (.iload_n 2, 1) := by decide +kernel
theorem dX12_guessedTo_44 : decode cX12_guessedTo 44 = .ok (.iadd, 1) := by decide +kernel
theorem dX12_guessedTo_45 : decode cX12_guessedTo 45 = .ok (.iaload, 1) := by decide +kernel
theorem dX12_guessedTo_46 : decode cX12_guessedTo 46 = .ok (.iload 4, 2) := by decide +kernel
theorem dX12_guessedTo_48 : decode cX12_guessedTo 48 = .ok (.aload_n 0, 1) := by decide +kernel
theorem dX12_guessedTo_49 : decode cX12_guessedTo 49 = .ok (.getfield 33, 3) := by decide +kernel
theorem dX12_guessedTo_52 : decode cX12_guessedTo 52 = .ok (.iload_n 3, 1) := by decide +kernel
theorem dX12_guessedTo_53 : decode cX12_guessedTo 53 = .ok (.iaload, 1) := by decide +kernel
theorem dX12_guessedTo_54 : decode cX12_guessedTo 54 = .ok (.invokevirtual 222, 3) := by decide +kernel
theorem dX12_guessedTo_57 : decode cX12_guessedTo 57 = .ok (.aload_n 0, 1) := by decide +kernel
theorem dX12_guessedTo_58 : decode cX12_guessedTo 58 = .ok (.getfield 7, 3) := by decide +kernel
theorem dX12_guessedTo_61 : decode cX12_guessedTo 61 = .ok (.sipush 201, 3) := by decide +kernel
theorem dX12_guessedTo_64 : decode cX12_guessedTo 64 = .ok (.iaload, 1) := by decide +kernel
theorem dX12_guessedTo_65 : decode cX12_guessedTo 65 = .ok (.invokevirtual 225, 3) := by decide +kernel
theorem dX12_guessedTo_68 : decode cX12_guessedTo 68 = .ok (.aload_n 0, 1) := by decide +kernel
theorem dX12_guessedTo_69 : decode cX12_guessedTo 69 = .ok (.iconst 3, 1) := by decide +kernel
theorem dX12_guessedTo_70 : decode cX12_guessedTo 70 = .ok (.aload_n 0, 1) := by decide +kernel
theorem dX12_guessedTo_71 : decode cX12_guessedTo 71 = .ok (.iload_n 2, 1) := by decide +kernel
theorem dX12_guessedTo_72 : decode cX12_guessedTo 72 = .ok (.iload 4, 2) := by decide +kernel
theorem dX12_guessedTo_74 : decode cX12_guessedTo 74 = .ok (.aload_n 0, 1) := by decide +kernel
theorem dX12_guessedTo_75 : decode cX12_guessedTo 75 = .ok (.getfield 33, 3) := by decide +kernel
theorem dX12_guessedTo_78 : decode cX12_guessedTo 78 = .ok (.iload_n 3, 1) := by decide +kernel
theorem dX12_guessedTo_79 : decode cX12_guessedTo 79 = .ok (.iaload, 1) := by decide +kernel
theorem dX12_guessedTo_80 : decode cX12_guessedTo 80 = .ok (.invokevirtual 253, 3) := by decide +kernel
theorem dX12_guessedTo_83 : decode cX12_guessedTo 83 = .ok (.invokevirtual 194, 3) := by decide +kernel
theorem dX12_guessedTo_86 : decode cX12_guessedTo 86 = .ok (.aload_n 0, 1) := by decide +kernel
theorem dX12_guessedTo_87 : decode cX12_guessedTo 87 = .ok (.iload_n 1, 1) := by decide +kernel
theorem dX12_guessedTo_88 : decode cX12_guessedTo 88 = .ok (.iconst 3, 1) := by decide +kernel
theorem dX12_guessedTo_89 : decode cX12_guessedTo 89 = .ok (.invokevirtual 219, 3) := by decide +kernel
theorem dX12_guessedTo_92 : decode cX12_guessedTo 92 = .ok (.iinc 3 1, 3) := by decide +kernel
theorem dX12_guessedTo_95 : decode cX12_guessedTo 95 = .ok (.goto (-87), 3) := by decide +kernel
theorem dX12_guessedTo_98 : decode cX12_guessedTo 98 = .ok (.return_, 1) := by decide +kernel
theorem bX12_guessedTo_0 {Z : ZT} {X : XT} {μ : Mu} {a1 : Int32} {a2 : Int32} (E : Ent Z X mX12_guessedTo 0 0) {p : Mu → Prop} 
    (c : CtrS Z mX12_set [.ref (Z.2.2.1 + 455), .int a1, .int (nI 0)] μ (rV p)) (k : ∀ μ1, p μ1 → JS Z X 6 [(0, .ref (Z.2.2.1 + 455)), (1, .int a1), (2, .int a2)] [] μ1) :
    JS Z X 0 [(0, .ref (Z.2.2.1 + 455)), (1, .int a1), (2, .int a2)] [] μ := by
  refine J_aload_n E dX12_guessedTo_0 rfl ?_
  refine J_iload_n E dX12_guessedTo_1 rfl ?_
  refine J_iconst (v := nI 0) E dX12_guessedTo_2 rfl ?_
  refine S_callV (As := [.int a1, .int (nI 0)]) (rest := []) E dX12_guessedTo_3 c kX12_set ⟨Nat.le_of_ble_eq_true rfl, Nat.le_of_ble_eq_true rfl⟩ rfl (Nat.le_of_ble_eq_true rfl) sh455 rfl rfl w6_230 w6_232 wp_55 (fun r_ μ1 hp_ => ?_)
  obtain ⟨rfl, hp_⟩ := hp_
  exact k μ1 hp_
theorem bX12_guessedTo_6 {Z : ZT} {X : XT} {μ : Mu} {a1 : Int32} {a2 : Int32} (E : Ent Z X mX12_guessedTo 0 0)  
    (k : JS Z X 8 [(0, .ref (Z.2.2.1 + 455)), (1, .int a1), (2, .int a2), (3, .int (nI 0))] [] μ) :
    JS Z X 6 [(0, .ref (Z.2.2.1 + 455)), (1, .int a1), (2, .int a2)] [] μ := by
  refine J_iconst (v := nI 0) E dX12_guessedTo_6 rfl ?_
  refine J_istore_n (lv' := [(0, .ref (Z.2.2.1 + 455)), (1, .int a1), (2, .int a2), (3, .int (nI 0))]) E dX12_guessedTo_7 (Nat.le_of_ble_eq_true rfl) rfl ?_
  exact k
theorem bX12_guessedTo_8 {Z : ZT} {X : XT} {μ : Mu} {a1 : Int32} {a2 : Int32} {a3 : Int32} (E : Ent Z X mX12_guessedTo 0 0)  
    (kt : (μ 455 13) ≤ a3 → JS Z X 98 [] [] μ) (kf : ¬ ((μ 455 13) ≤ a3) → JS Z X 16 [(0, .ref (Z.2.2.1 + 455)), (1, .int a1), (2, .int a2), (3, .int a3)] [] μ) :
    JS Z X 8 [(0, .ref (Z.2.2.1 + 455)), (1, .int a1), (2, .int a2), (3, .int a3)] [] μ := by
  refine J_iload_n E dX12_guessedTo_8 rfl ?_
  refine J_aload_n E dX12_guessedTo_9 rfl ?_
  refine S_get (ci := 12) (q := 13) (v := .int (μ 455 13)) E dX12_guessedTo_10 fs_X12_168 sh455 rfl ?_
  refine J_icmp_ge (tgt := 98) E dX12_guessedTo_13 (by decide) (fun c => ?_) (fun c => ?_)
  · refine J.weak [] rfl ?_
    exact kt c
  · exact kf c
theorem bX12_guessedTo_16 {Z : ZT} {X : XT} {μ : Mu} {a1 : Int32} {a2 : Int32} {a3 : Int32} (E : Ent Z X mX12_guessedTo 0 0) {p : Int32 → Mu → Prop} (s1_ : vp_in a3 6) (s2_ : vp_in ((nI 163) + (μ 462 (ix a3))) 988) (s3_ : vp_in ((nI 148) + a2) 988) (s4_ : vp_in a3 6)
    (c : CtrS Z mX12_missesAt [.ref (Z.2.2.1 + 455), .int (μ 456 (ix ((nI 148) + a2))), .int (μ 456 (ix ((nI 163) + (μ 462 (ix a3))))), .int (μ 463 (ix a3))] μ (rI p)) (k : ∀ v μ1, p v μ1 → JS Z X 57 [(0, .ref (Z.2.2.1 + 455)), (1, .int a1), (2, .int a2), (3, .int a3), (4, .int (μ 456 (ix ((nI 163) + (μ 462 (ix a3))))))] [.int v, .int (nI 3), .ref (Z.2.2.1 + 455)] μ1) :
    JS Z X 16 [(0, .ref (Z.2.2.1 + 455)), (1, .int a1), (2, .int a2), (3, .int a3)] [] μ := by
  refine J_aload_n E dX12_guessedTo_16 rfl ?_
  refine S_get (ci := 12) (q := 0) (v := .ref (Z.2.2.1 + 456)) E dX12_guessedTo_17 fs_X12_7 sh455 rfl ?_
  refine J_sipush (v := nI 163) E dX12_guessedTo_20 rfl ?_
  refine J_aload_n E dX12_guessedTo_23 rfl ?_
  refine S_get (ci := 12) (q := 14) (v := .ref (Z.2.2.1 + 462)) E dX12_guessedTo_24 fs_X12_30 sh455 rfl ?_
  refine J_iload_n E dX12_guessedTo_27 rfl ?_
  refine S_iald E dX12_guessedTo_28 sh462 s1_ ?_
  refine J_iadd E dX12_guessedTo_29 ?_
  refine S_iald E dX12_guessedTo_30 sh456 s2_ ?_
  refine J_istore (lv' := [(0, .ref (Z.2.2.1 + 455)), (1, .int a1), (2, .int a2), (3, .int a3), (4, .int (μ 456 (ix ((nI 163) + (μ 462 (ix a3))))))]) E dX12_guessedTo_31 (Nat.le_of_ble_eq_true rfl) rfl ?_
  refine J_aload_n E dX12_guessedTo_33 rfl ?_
  refine J_iconst (v := nI 3) E dX12_guessedTo_34 rfl ?_
  refine J_aload_n E dX12_guessedTo_35 rfl ?_
  refine J_aload_n E dX12_guessedTo_36 rfl ?_
  refine S_get (ci := 12) (q := 0) (v := .ref (Z.2.2.1 + 456)) E dX12_guessedTo_37 fs_X12_7 sh455 rfl ?_
  refine J_sipush (v := nI 148) E dX12_guessedTo_40 rfl ?_
  refine J_iload_n E dX12_guessedTo_43 rfl ?_
  refine J_iadd E dX12_guessedTo_44 ?_
  refine S_iald E dX12_guessedTo_45 sh456 s3_ ?_
  refine J_iload E dX12_guessedTo_46 rfl ?_
  refine J_aload_n E dX12_guessedTo_48 rfl ?_
  refine S_get (ci := 12) (q := 15) (v := .ref (Z.2.2.1 + 463)) E dX12_guessedTo_49 fs_X12_33 sh455 rfl ?_
  refine J_iload_n E dX12_guessedTo_52 rfl ?_
  refine S_iald E dX12_guessedTo_53 sh463 s4_ ?_
  refine S_callV (As := [.int (μ 456 (ix ((nI 148) + a2))), .int (μ 456 (ix ((nI 163) + (μ 462 (ix a3))))), .int (μ 463 (ix a3))]) (rest := [.int (nI 3), .ref (Z.2.2.1 + 455)]) E dX12_guessedTo_54 c kX12_missesAt ⟨Nat.le_of_ble_eq_true rfl, Nat.le_of_ble_eq_true rfl⟩ rfl (Nat.le_of_ble_eq_true rfl) sh455 rfl rfl w6_222 w6_224 wp_53 (fun r_ μ1 hp_ => ?_)
  obtain ⟨v, rfl, hp_⟩ := hp_
  exact k v μ1 hp_
theorem bX12_guessedTo_57 {Z : ZT} {X : XT} {μ : Mu} {a1 : Int32} {a2 : Int32} {a3 : Int32} {a4 : Int32} {s1 : Int32} {s2 : Int32} (E : Ent Z X mX12_guessedTo 0 0) {p : Mu → Prop} (s1_ : vp_in (nI 201) 988)
    (c : CtrS Z mX12_meanTo [.ref (Z.2.2.1 + 455), .int s1, .int s2, .int (μ 456 (ix (nI 201)))] μ (rV p)) (k : ∀ μ1, p μ1 → JS Z X 68 [(0, .ref (Z.2.2.1 + 455)), (1, .int a1), (2, .int a2), (3, .int a3), (4, .int a4)] [] μ1) :
    JS Z X 57 [(0, .ref (Z.2.2.1 + 455)), (1, .int a1), (2, .int a2), (3, .int a3), (4, .int a4)] [.int s2, .int s1, .ref (Z.2.2.1 + 455)] μ := by
  refine J_aload_n E dX12_guessedTo_57 rfl ?_
  refine S_get (ci := 12) (q := 0) (v := .ref (Z.2.2.1 + 456)) E dX12_guessedTo_58 fs_X12_7 sh455 rfl ?_
  refine J_sipush (v := nI 201) E dX12_guessedTo_61 rfl ?_
  refine S_iald E dX12_guessedTo_64 sh456 s1_ ?_
  refine S_callV (As := [.int s1, .int s2, .int (μ 456 (ix (nI 201)))]) (rest := []) E dX12_guessedTo_65 c kX12_meanTo ⟨Nat.le_of_ble_eq_true rfl, Nat.le_of_ble_eq_true rfl⟩ rfl (Nat.le_of_ble_eq_true rfl) sh455 rfl rfl w7_35 w7_37 wp_65 (fun r_ μ1 hp_ => ?_)
  obtain ⟨rfl, hp_⟩ := hp_
  exact k μ1 hp_
theorem bX12_guessedTo_68 {Z : ZT} {X : XT} {μ : Mu} {a1 : Int32} {a2 : Int32} {a3 : Int32} {a4 : Int32} (E : Ent Z X mX12_guessedTo 0 0) {p : Int32 → Mu → Prop} (s1_ : vp_in a3 6)
    (c : CtrS Z mX12_guessesAt [.ref (Z.2.2.1 + 455), .int a2, .int a4, .int (μ 463 (ix a3))] μ (rI p)) (k : ∀ v μ1, p v μ1 → JS Z X 83 [(0, .ref (Z.2.2.1 + 455)), (1, .int a1), (2, .int a2), (3, .int a3)] [.int v, .int (nI 3), .ref (Z.2.2.1 + 455)] μ1) :
    JS Z X 68 [(0, .ref (Z.2.2.1 + 455)), (1, .int a1), (2, .int a2), (3, .int a3), (4, .int a4)] [] μ := by
  refine J_aload_n E dX12_guessedTo_68 rfl ?_
  refine J_iconst (v := nI 3) E dX12_guessedTo_69 rfl ?_
  refine J_aload_n E dX12_guessedTo_70 rfl ?_
  refine J_iload_n E dX12_guessedTo_71 rfl ?_
  refine J_iload E dX12_guessedTo_72 rfl ?_
  refine J_aload_n E dX12_guessedTo_74 rfl ?_
  refine S_get (ci := 12) (q := 15) (v := .ref (Z.2.2.1 + 463)) E dX12_guessedTo_75 fs_X12_33 sh455 rfl ?_
  refine J_iload_n E dX12_guessedTo_78 rfl ?_
  refine S_iald E dX12_guessedTo_79 sh463 s1_ ?_
  refine S_callV (As := [.int a2, .int a4, .int (μ 463 (ix a3))]) (rest := [.int (nI 3), .ref (Z.2.2.1 + 455)]) E dX12_guessedTo_80 c kX12_guessesAt ⟨Nat.le_of_ble_eq_true rfl, Nat.le_of_ble_eq_true rfl⟩ rfl (Nat.le_of_ble_eq_true rfl) sh455 rfl rfl w7_71 w7_73 wp_71 (fun r_ μ1 hp_ => ?_)
  obtain ⟨v, rfl, hp_⟩ := hp_
  refine J.weak [0, 1, 2, 3] rfl ?_
  exact k v μ1 hp_
theorem bX12_guessedTo_83 {Z : ZT} {X : XT} {μ : Mu} {a1 : Int32} {a2 : Int32} {a3 : Int32} {s1 : Int32} {s2 : Int32} (E : Ent Z X mX12_guessedTo 0 0) {p : Mu → Prop} 
    (c : CtrS Z mX12_times [.ref (Z.2.2.1 + 455), .int s1, .int s2] μ (rV p)) (k : ∀ μ1, p μ1 → JS Z X 86 [(0, .ref (Z.2.2.1 + 455)), (1, .int a1), (2, .int a2), (3, .int a3)] [] μ1) :
    JS Z X 83 [(0, .ref (Z.2.2.1 + 455)), (1, .int a1), (2, .int a2), (3, .int a3)] [.int s2, .int s1, .ref (Z.2.2.1 + 455)] μ := by
  refine S_callV (As := [.int s1, .int s2]) (rest := []) E dX12_guessedTo_83 c kX12_times ⟨Nat.le_of_ble_eq_true rfl, Nat.le_of_ble_eq_true rfl⟩ rfl (Nat.le_of_ble_eq_true rfl) sh455 rfl rfl w7_15 w7_17 wp_61 (fun r_ μ1 hp_ => ?_)
  obtain ⟨rfl, hp_⟩ := hp_
  exact k μ1 hp_
theorem bX12_guessedTo_86 {Z : ZT} {X : XT} {μ : Mu} {a1 : Int32} {a2 : Int32} {a3 : Int32} (E : Ent Z X mX12_guessedTo 0 0) {p : Mu → Prop} 
    (c : CtrS Z mX12_add [.ref (Z.2.2.1 + 455), .int a1, .int (nI 3)] μ (rV p)) (k : ∀ μ1, p μ1 → JS Z X 92 [(0, .ref (Z.2.2.1 + 455)), (1, .int a1), (2, .int a2), (3, .int a3)] [] μ1) :
    JS Z X 86 [(0, .ref (Z.2.2.1 + 455)), (1, .int a1), (2, .int a2), (3, .int a3)] [] μ := by
  refine J_aload_n E dX12_guessedTo_86 rfl ?_
  refine J_iload_n E dX12_guessedTo_87 rfl ?_
  refine J_iconst (v := nI 3) E dX12_guessedTo_88 rfl ?_
  refine S_callV (As := [.int a1, .int (nI 3)]) (rest := []) E dX12_guessedTo_89 c kX12_add ⟨Nat.le_of_ble_eq_true rfl, Nat.le_of_ble_eq_true rfl⟩ rfl (Nat.le_of_ble_eq_true rfl) sh455 rfl rfl w7_39 w7_41 wp_66 (fun r_ μ1 hp_ => ?_)
  obtain ⟨rfl, hp_⟩ := hp_
  exact k μ1 hp_
theorem bX12_guessedTo_92 {Z : ZT} {X : XT} {μ : Mu} {a1 : Int32} {a2 : Int32} {a3 : Int32} (E : Ent Z X mX12_guessedTo 0 0)  
    (k : JS Z X 8 [(0, .ref (Z.2.2.1 + 455)), (1, .int a1), (2, .int a2), (3, .int (a3 + nI 1))] [] μ) :
    JS Z X 92 [(0, .ref (Z.2.2.1 + 455)), (1, .int a1), (2, .int a2), (3, .int a3)] [] μ := by
  refine J_iinc (v := a3 + nI 1) (lv' := [(0, .ref (Z.2.2.1 + 455)), (1, .int a1), (2, .int a2), (3, .int (a3 + nI 1))]) E dX12_guessedTo_92 rfl rfl (Nat.le_of_ble_eq_true rfl) rfl ?_
  refine J_goto (tgt := 8) E dX12_guessedTo_95 (by decide) ?_
  exact k
theorem bX12_guessedTo_98 {Z : ZT} {X : XT} {μ : Mu} (E : Ent Z X mX12_guessedTo 0 0) {P : Option Value → Mu → Prop} (hB : BodS Z X P) 
    (k : P none μ) :
    JS Z X 98 [] [] μ := by
  exact S_vret E hB dX12_guessedTo_98 rfl k
theorem dX12_guessed_0 : decode cX12_guessed 0 = .ok (.aload_n 0, 1) := by decide +kernel
theorem dX12_guessed_1 : decode cX12_guessed 1 = .ok (.iconst 0, 1) := by decide +kernel
theorem dX12_guessed_2 : decode cX12_guessed 2 = .ok (.iload_n 1, 1) := by decide +kernel
theorem dX12_guessed_3 : decode cX12_guessed 3 = .ok (.invokevirtual 79, 3) := by decide +kernel
theorem dX12_guessed_6 : decode cX12_guessed 6 = .ok (.ifCond .ne 10, 3) := by decide +kernel
theorem dX12_guessed_9 : decode cX12_guessed 9 = .ok (.aload_n 0, 1) := by decide +kernel
theorem dX12_guessed_10 : decode cX12_guessed 10 = .ok (.bipush (-2), 2) := by decide +kernel
theorem dX12_guessed_12 : decode cX12_guessed 12 = .ok (.invokevirtual 63, 3) := by decide +kernel
theorem dX12_guessed_15 : decode cX12_guessed 15 = .ok (.ireturn, 1) := by decide +kernel
theorem dX12_guessed_16 : decode cX12_guessed 16 = .ok (.aload_n 0, 1) := by decide +kernel
theorem dX12_guessed_17 : decode cX12_guessed 17 = .ok (.getfield 7, 3) := by decide +kernel
theorem dX12_guessed_20 : decode cX12_guessed 20 = .ok (.sipush 148, 3) := by decide +kernel
theorem dX12_guessed_23 : decode cX12_guessed 23 = .ok (.iload_n 1, 1) := by decide +kernel
theorem dX12_guessed_24 : decode cX12_guessed 24 = .ok (.iadd, 1) := by decide +kernel
theorem dX12_guessed_25 : decode cX12_guessed 25 = .ok (.iaload, 1) := by decide +kernel
theorem dX12_guessed_26 : decode cX12_guessed 26 = .ok (.iconst (-1), 1) := by decide +kernel
theorem dX12_guessed_27 : decode cX12_guessed 27 = .ok (.if_icmp .eq 20, 3) := by decide +kernel
theorem dX12_guessed_30 : decode cX12_guessed 30 = .ok (.aload_n 0, 1) := by decide +kernel
theorem dX12_guessed_31 : decode cX12_guessed 31 = .ok (.aload_n 0, 1) := by decide +kernel
theorem dX12_guessed_32 : decode cX12_guessed 32 = .ok (.getfield 7, 3) := by decide +kernel
theorem dX12_guessed_35 : decode cX12_guessed 35 = .ok (.sipush 148, 3) := by decide +kernel
theorem dX12_guessed_38 : decode cX12_guessed 38 = .ok (.iload_n 1, 1) := by decide +kernel
theorem dX12_guessed_39 : decode cX12_guessed 39 = .ok (.iadd, 1) := by decide +kernel
theorem dX12_guessed_40 : decode cX12_guessed 40 = .ok (.iaload, 1) := by decide +kernel
theorem dX12_guessed_41 : decode cX12_guessed 41 = .ok (.invokevirtual 235, 3) := by decide +kernel
theorem dX12_guessed_44 : decode cX12_guessed 44 = .ok (.ifCond .ne 10, 3) := by decide +kernel
theorem dX12_guessed_47 : decode cX12_guessed 47 = .ok (.aload_n 0, 1) := by decide +kernel
theorem dX12_guessed_48 : decode cX12_guessed 48 = .ok (.bipush (-3), 2) := by decide +kernel
theorem dX12_guessed_50 : decode cX12_guessed 50 = .ok (.invokevirtual 63, 3) := by decide +kernel
theorem dX12_guessed_53 : decode cX12_guessed 53 = .ok (.ireturn, 1) := by decide +kernel
theorem dX12_guessed_54 : decode cX12_guessed 54 = .ok (.aload_n 0, 1) := by decide +kernel
theorem dX12_guessed_55 : decode cX12_guessed 55 = .ok (.iconst 4, 1) := by decide +kernel
theorem dX12_guessed_56 : decode cX12_guessed 56 = .ok (.iload_n 1, 1) := by decide +kernel
theorem dX12_guessed_57 : decode cX12_guessed 57 = .ok (.invokevirtual 256, 3) := by decide +kernel
theorem dX12_guessed_60 : decode cX12_guessed 60 = .ok (.aload_n 0, 1) := by decide +kernel
theorem dX12_guessed_61 : decode cX12_guessed 61 = .ok (.iconst 4, 1) := by decide +kernel
theorem dX12_guessed_62 : decode cX12_guessed 62 = .ok (.bipush 36, 2) := by decide +kernel
theorem dX12_guessed_64 : decode cX12_guessed 64 = .ok (.invokevirtual 238, 3) := by decide +kernel
theorem dX12_guessed_67 : decode cX12_guessed 67 = .ok (.iconst 1, 1) := by decide +kernel
theorem dX12_guessed_68 : decode cX12_guessed 68 = .ok (.ireturn, 1) := by decide +kernel
theorem bX12_guessed_0 {Z : ZT} {X : XT} {μ : Mu} {a1 : Int32} (E : Ent Z X mX12_guessed 0 0) {p : Int32 → Mu → Prop} 
    (c : CtrS Z mX12_isChild [.ref (Z.2.2.1 + 455), .int (nI 0), .int a1] μ (rI p)) (k : ∀ v μ1, p v μ1 → JS Z X 6 [(0, .ref (Z.2.2.1 + 455)), (1, .int a1)] [.int v] μ1) :
    JS Z X 0 [(0, .ref (Z.2.2.1 + 455)), (1, .int a1)] [] μ := by
  refine J_aload_n E dX12_guessed_0 rfl ?_
  refine J_iconst (v := nI 0) E dX12_guessed_1 rfl ?_
  refine J_iload_n E dX12_guessed_2 rfl ?_
  refine S_callV (As := [.int (nI 0), .int a1]) (rest := []) E dX12_guessed_3 c kX12_isChild ⟨Nat.le_of_ble_eq_true rfl, Nat.le_of_ble_eq_true rfl⟩ rfl (Nat.le_of_ble_eq_true rfl) sh455 rfl rfl w6_98 w6_100 wp_37 (fun r_ μ1 hp_ => ?_)
  obtain ⟨v, rfl, hp_⟩ := hp_
  exact k v μ1 hp_
theorem bX12_guessed_6 {Z : ZT} {X : XT} {μ : Mu} {a1 : Int32} {s0 : Int32} (E : Ent Z X mX12_guessed 0 0)  
    (kt : ¬ s0 = 0 → JS Z X 16 [(0, .ref (Z.2.2.1 + 455)), (1, .int a1)] [] μ) (kf : s0 = 0 → JS Z X 9 [(0, .ref (Z.2.2.1 + 455))] [] μ) :
    JS Z X 6 [(0, .ref (Z.2.2.1 + 455)), (1, .int a1)] [.int s0] μ := by
  refine J_if_ne (tgt := 16) E dX12_guessed_6 (by decide) (fun c => ?_) (fun c => ?_)
  · exact kt c
  · refine J.weak [0] rfl ?_
    exact kf c
theorem bX12_guessed_9 {Z : ZT} {X : XT} {μ : Mu} (E : Ent Z X mX12_guessed 0 0) {p : Int32 → Mu → Prop} 
    (c : CtrS Z mX12_refuse [.ref (Z.2.2.1 + 455), .int (-2)] μ (rI p)) (k : ∀ v μ1, p v μ1 → JS Z X 15 [] [.int v] μ1) :
    JS Z X 9 [(0, .ref (Z.2.2.1 + 455))] [] μ := by
  refine J_aload_n E dX12_guessed_9 rfl ?_
  refine J_bipush (v := -2) E dX12_guessed_10 rfl ?_
  refine S_callV (As := [.int (-2)]) (rest := []) E dX12_guessed_12 c kX12_refuse ⟨Nat.le_of_ble_eq_true rfl, Nat.le_of_ble_eq_true rfl⟩ rfl (Nat.le_of_ble_eq_true rfl) sh455 rfl rfl w6_51 w6_53 wp_30 (fun r_ μ1 hp_ => ?_)
  obtain ⟨v, rfl, hp_⟩ := hp_
  refine J.weak [] rfl ?_
  exact k v μ1 hp_
theorem bX12_guessed_15 {Z : ZT} {X : XT} {μ : Mu} {s0 : Int32} (E : Ent Z X mX12_guessed 0 0) {P : Option Value → Mu → Prop} (hB : BodS Z X P) 
    (k : P (some (.int s0)) μ) :
    JS Z X 15 [] [.int s0] μ := by
  exact S_iret E hB dX12_guessed_15 rfl k
theorem bX12_guessed_16 {Z : ZT} {X : XT} {μ : Mu} {a1 : Int32} (E : Ent Z X mX12_guessed 0 0)  (s1_ : vp_in ((nI 148) + a1) 988)
    (kt : (μ 456 (ix ((nI 148) + a1))) = (-1) → JS Z X 47 [(0, .ref (Z.2.2.1 + 455))] [] μ) (kf : ¬ ((μ 456 (ix ((nI 148) + a1))) = (-1)) → JS Z X 30 [(0, .ref (Z.2.2.1 + 455)), (1, .int a1)] [] μ) :
    JS Z X 16 [(0, .ref (Z.2.2.1 + 455)), (1, .int a1)] [] μ := by
  refine J_aload_n E dX12_guessed_16 rfl ?_
  refine S_get (ci := 12) (q := 0) (v := .ref (Z.2.2.1 + 456)) E dX12_guessed_17 fs_X12_7 sh455 rfl ?_
  refine J_sipush (v := nI 148) E dX12_guessed_20 rfl ?_
  refine J_iload_n E dX12_guessed_23 rfl ?_
  refine J_iadd E dX12_guessed_24 ?_
  refine S_iald E dX12_guessed_25 sh456 s1_ ?_
  refine J_iconst (v := -1) E dX12_guessed_26 rfl ?_
  refine J_icmp_eq (tgt := 47) E dX12_guessed_27 (by decide) (fun c => ?_) (fun c => ?_)
  · refine J.weak [0] rfl ?_
    exact kt c
  · exact kf c
theorem bX12_guessed_30 {Z : ZT} {X : XT} {μ : Mu} {a1 : Int32} (E : Ent Z X mX12_guessed 0 0) {p : Int32 → Mu → Prop} (s1_ : vp_in ((nI 148) + a1) 988)
    (c : CtrS Z mX12_isHunt [.ref (Z.2.2.1 + 455), .int (μ 456 (ix ((nI 148) + a1)))] μ (rI p)) (k : ∀ v μ1, p v μ1 → JS Z X 44 [(0, .ref (Z.2.2.1 + 455)), (1, .int a1)] [.int v] μ1) :
    JS Z X 30 [(0, .ref (Z.2.2.1 + 455)), (1, .int a1)] [] μ := by
  refine J_aload_n E dX12_guessed_30 rfl ?_
  refine J_aload_n E dX12_guessed_31 rfl ?_
  refine S_get (ci := 12) (q := 0) (v := .ref (Z.2.2.1 + 456)) E dX12_guessed_32 fs_X12_7 sh455 rfl ?_
  refine J_sipush (v := nI 148) E dX12_guessed_35 rfl ?_
  refine J_iload_n E dX12_guessed_38 rfl ?_
  refine J_iadd E dX12_guessed_39 ?_
  refine S_iald E dX12_guessed_40 sh456 s1_ ?_
  refine S_callV (As := [.int (μ 456 (ix ((nI 148) + a1)))]) (rest := []) E dX12_guessed_41 c kX12_isHunt ⟨Nat.le_of_ble_eq_true rfl, Nat.le_of_ble_eq_true rfl⟩ rfl (Nat.le_of_ble_eq_true rfl) sh455 rfl rfl w6_197 w6_199 wp_47 (fun r_ μ1 hp_ => ?_)
  obtain ⟨v, rfl, hp_⟩ := hp_
  exact k v μ1 hp_
theorem bX12_guessed_44 {Z : ZT} {X : XT} {μ : Mu} {a1 : Int32} {s0 : Int32} (E : Ent Z X mX12_guessed 0 0)  
    (kt : ¬ s0 = 0 → JS Z X 54 [(0, .ref (Z.2.2.1 + 455)), (1, .int a1)] [] μ) (kf : s0 = 0 → JS Z X 47 [(0, .ref (Z.2.2.1 + 455))] [] μ) :
    JS Z X 44 [(0, .ref (Z.2.2.1 + 455)), (1, .int a1)] [.int s0] μ := by
  refine J_if_ne (tgt := 54) E dX12_guessed_44 (by decide) (fun c => ?_) (fun c => ?_)
  · exact kt c
  · refine J.weak [0] rfl ?_
    exact kf c
theorem bX12_guessed_47 {Z : ZT} {X : XT} {μ : Mu} (E : Ent Z X mX12_guessed 0 0) {p : Int32 → Mu → Prop} 
    (c : CtrS Z mX12_refuse [.ref (Z.2.2.1 + 455), .int (-3)] μ (rI p)) (k : ∀ v μ1, p v μ1 → JS Z X 53 [] [.int v] μ1) :
    JS Z X 47 [(0, .ref (Z.2.2.1 + 455))] [] μ := by
  refine J_aload_n E dX12_guessed_47 rfl ?_
  refine J_bipush (v := -3) E dX12_guessed_48 rfl ?_
  refine S_callV (As := [.int (-3)]) (rest := []) E dX12_guessed_50 c kX12_refuse ⟨Nat.le_of_ble_eq_true rfl, Nat.le_of_ble_eq_true rfl⟩ rfl (Nat.le_of_ble_eq_true rfl) sh455 rfl rfl w6_51 w6_53 wp_30 (fun r_ μ1 hp_ => ?_)
  obtain ⟨v, rfl, hp_⟩ := hp_
  refine J.weak [] rfl ?_
  exact k v μ1 hp_
theorem bX12_guessed_53 {Z : ZT} {X : XT} {μ : Mu} {s0 : Int32} (E : Ent Z X mX12_guessed 0 0) {P : Option Value → Mu → Prop} (hB : BodS Z X P) 
    (k : P (some (.int s0)) μ) :
    JS Z X 53 [] [.int s0] μ := by
  exact S_iret E hB dX12_guessed_53 rfl k
theorem bX12_guessed_54 {Z : ZT} {X : XT} {μ : Mu} {a1 : Int32} (E : Ent Z X mX12_guessed 0 0) {p : Mu → Prop} 
    (c : CtrS Z mX12_guessedTo [.ref (Z.2.2.1 + 455), .int (nI 4), .int a1] μ (rV p)) (k : ∀ μ1, p μ1 → JS Z X 60 [(0, .ref (Z.2.2.1 + 455))] [] μ1) :
    JS Z X 54 [(0, .ref (Z.2.2.1 + 455)), (1, .int a1)] [] μ := by
  refine J_aload_n E dX12_guessed_54 rfl ?_
  refine J_iconst (v := nI 4) E dX12_guessed_55 rfl ?_
  refine J_iload_n E dX12_guessed_56 rfl ?_
  refine S_callV (As := [.int (nI 4), .int a1]) (rest := []) E dX12_guessed_57 c kX12_guessedTo ⟨Nat.le_of_ble_eq_true rfl, Nat.le_of_ble_eq_true rfl⟩ rfl (Nat.le_of_ble_eq_true rfl) sh455 rfl rfl w7_67 w7_69 wp_70 (fun r_ μ1 hp_ => ?_)
  obtain ⟨rfl, hp_⟩ := hp_
  refine J.weak [0] rfl ?_
  exact k μ1 hp_
theorem bX12_guessed_60 {Z : ZT} {X : XT} {μ : Mu} (E : Ent Z X mX12_guessed 0 0) {p : Mu → Prop} 
    (c : CtrS Z mX12_tell [.ref (Z.2.2.1 + 455), .int (nI 4), .int (nI 36)] μ (rV p)) (k : ∀ μ1, p μ1 → JS Z X 67 [] [] μ1) :
    JS Z X 60 [(0, .ref (Z.2.2.1 + 455))] [] μ := by
  refine J_aload_n E dX12_guessed_60 rfl ?_
  refine J_iconst (v := nI 4) E dX12_guessed_61 rfl ?_
  refine J_bipush (v := nI 36) E dX12_guessed_62 rfl ?_
  refine S_callV (As := [.int (nI 4), .int (nI 36)]) (rest := []) E dX12_guessed_64 c kX12_tell ⟨Nat.le_of_ble_eq_true rfl, Nat.le_of_ble_eq_true rfl⟩ rfl (Nat.le_of_ble_eq_true rfl) sh455 rfl rfl w6_234 w6_236 wp_56 (fun r_ μ1 hp_ => ?_)
  obtain ⟨rfl, hp_⟩ := hp_
  refine J.weak [] rfl ?_
  exact k μ1 hp_
theorem bX12_guessed_67 {Z : ZT} {X : XT} {μ : Mu} (E : Ent Z X mX12_guessed 0 0) {P : Option Value → Mu → Prop} (hB : BodS Z X P) 
    (k : P (some (.int (nI 1))) μ) :
    JS Z X 67 [] [] μ := by
  refine J_iconst (v := nI 1) E dX12_guessed_67 rfl ?_
  exact S_iret E hB dX12_guessed_68 rfl k
theorem dX12_fair_0 : decode cX12_fair 0 = .ok (.iload_n 1, 1) := by decide +kernel
theorem dX12_fair_1 : decode cX12_fair 1 = .ok (.invokestatic 85, 3) := by decide +kernel
theorem dX12_fair_4 : decode cX12_fair 4 = .ok (.ifCond .ne 10, 3) := by decide +kernel
theorem dX12_fair_7 : decode cX12_fair 7 = .ok (.aload_n 0, 1) := by decide +kernel
theorem dX12_fair_8 : decode cX12_fair 8 = .ok (.bipush (-2), 2) := by decide +kernel
theorem dX12_fair_10 : decode cX12_fair 10 = .ok (.invokevirtual 63, 3) := by decide +kernel
theorem dX12_fair_13 : decode cX12_fair 13 = .ok (.ireturn, 1) := by decide +kernel
theorem dX12_fair_14 : decode cX12_fair 14 = .ok (.aload_n 0, 1) := by decide +kernel
theorem dX12_fair_15 : decode cX12_fair 15 = .ok (.iload_n 1, 1) := by decide +kernel
theorem dX12_fair_16 : decode cX12_fair 16 = .ok (.invokevirtual 235, 3) := by decide +kernel
theorem dX12_fair_19 : decode cX12_fair 19 = .ok (.ifCond .ne 10, 3) := by decide +kernel
theorem dX12_fair_22 : decode cX12_fair 22 = .ok (.aload_n 0, 1) := by decide +kernel
theorem dX12_fair_23 : decode cX12_fair 23 = .ok (.bipush (-3), 2) := by decide +kernel
theorem dX12_fair_25 : decode cX12_fair 25 = .ok (.invokevirtual 63, 3) := by decide +kernel
theorem dX12_fair_28 : decode cX12_fair 28 = .ok (.ireturn, 1) := by decide +kernel
theorem dX12_fair_29 : decode cX12_fair 29 = .ok (.iconst 0, 1) := by decide +kernel
theorem dX12_fair_30 : decode cX12_fair 30 = .ok (.istore_n 2, 1) := by decide +kernel
theorem dX12_fair_31 : decode cX12_fair 31 = .ok (.aload_n 0, 1) := by decide +kernel
theorem dX12_fair_32 : decode cX12_fair 32 = .ok (.iconst 4, 1) := by decide +kernel
theorem dX12_fair_33 : decode cX12_fair 33 = .ok (.iconst 0, 1) := by decide +kernel
theorem dX12_fair_34 : decode cX12_fair 34 = .ok (.invokevirtual 204, 3) := by decide +kernel
theorem dX12_fair_37 : decode cX12_fair 37 = .ok (.aload_n 0, 1) := by decide +kernel
theorem dX12_fair_38 : decode cX12_fair 38 = .ok (.iconst 5, 1) := by decide +kernel
theorem dX12_fair_39 : decode cX12_fair 39 = .ok (.iconst 0, 1) := by decide +kernel
theorem dX12_fair_40 : decode cX12_fair 40 = .ok (.invokevirtual 204, 3) := by decide +kernel
theorem dX12_fair_43 : decode cX12_fair 43 = .ok (.iconst 0, 1) := by decide +kernel
theorem dX12_fair_44 : decode cX12_fair 44 = .ok (.istore_n 3, 1) := by decide +kernel
theorem dX12_fair_45 : decode cX12_fair 45 = .ok (.iload_n 3, 1) := by decide +kernel
theorem dX12_fair_46 : decode cX12_fair 46 = .ok (.aload_n 0, 1) := by decide +kernel
theorem dX12_fair_47 : decode cX12_fair 47 = .ok (.getfield 7, 3) := by decide +kernel
theorem dX12_fair_50 : decode cX12_fair 50 = .ok (.bipush 111, 2) := by decide +kernel
theorem dX12_fair_52 : decode cX12_fair 52 = .ok (.iaload, 1) := by decide +kernel
theorem dX12_fair_53 : decode cX12_fair 53 = .ok (.if_icmp .ge 74, 3) := by decide +kernel
theorem dX12_fair_56 : decode cX12_fair 56 = .ok (.aload_n 0, 1) := by decide +kernel
theorem dX12_fair_57 : decode cX12_fair 57 = .ok (.getfield 7, 3) := by decide +kernel
theorem dX12_fair_60 : decode cX12_fair 60 = .ok (.sipush 148, 3) := by decide +kernel
theorem dX12_fair_63 : decode cX12_fair 63 = .ok (.iload_n 3, 1) := by decide +kernel
theorem dX12_fair_64 : decode cX12_fair 64 = .ok (.iadd, 1) := by decide +kernel
theorem dX12_fair_65 : decode cX12_fair 65 = .ok (.iaload, 1) := by decide +kernel
theorem dX12_fair_66 : decode cX12_fair 66 = .ok (.iload_n 1, 1) := by decide +kernel
theorem dX12_fair_67 : decode cX12_fair 67 = .ok (.if_icmp .ne 54, 3) := by decide +kernel
theorem dX12_fair_70 : decode cX12_fair 70 = .ok (.aload_n 0, 1) := by decide +kernel
theorem dX12_fair_71 : decode cX12_fair 71 = .ok (.bipush 8, 2) := by decide +kernel
theorem dX12_fair_73 : decode cX12_fair 73 = .ok (.iload_n 3, 1) := by decide +kernel
theorem dX12_fair_74 : decode cX12_fair 74 = .ok (.invokevirtual 256, 3) := by decide +kernel
theorem dX12_fair_77 : decode cX12_fair 77 = .ok (.iload_n 2, 1) := by decide +kernel
theorem dX12_fair_78 : decode cX12_fair 78 = .ok (.ifCond .eq 13, 3) := by decide +kernel
theorem dX12_fair_81 : decode cX12_fair 81 = .ok (.aload_n 0, 1) := by decide +kernel
theorem dX12_fair_82 : decode cX12_fair 82 = .ok (.bipush 8, 2) := by decide +kernel
theorem dX12_fair_84 : decode cX12_fair 84 = .ok (.iconst 4, 1) := by decide +kernel
theorem dX12_fair_85 : decode cX12_fair 85 = .ok (.invokevirtual 229, 3) := by decide +kernel
theorem dX12_fair_88 : decode cX12_fair 88 = .ok (.ifCond .le 10, 3) := by decide +kernel
theorem dX12_fair_91 : decode cX12_fair 91 = .ok (.aload_n 0, 1) := by decide +kernel
theorem dX12_fair_92 : decode cX12_fair 92 = .ok (.bipush 8, 2) := by decide +kernel
theorem dX12_fair_94 : decode cX12_fair 94 = .ok (.iconst 4, 1) := by decide +kernel
theorem dX12_fair_95 : decode cX12_fair 95 = .ok (.invokevirtual 198, 3) := by decide +kernel
theorem dX12_fair_98 : decode cX12_fair 98 = .ok (.iload_n 2, 1) := by decide +kernel
theorem dX12_fair_99 : decode cX12_fair 99 = .ok (.ifCond .eq 13, 3) := by decide +kernel
theorem dX12_fair_102 : decode cX12_fair 102 = .ok (.aload_n 0, 1) := by decide +kernel
theorem dX12_fair_103 : decode cX12_fair 103 = .ok (.bipush 8, 2) := by decide +kernel
theorem dX12_fair_105 : decode cX12_fair 105 = .ok (.iconst 5, 1) := by decide +kernel
theorem dX12_fair_106 : decode cX12_fair 106 = .ok (.invokevirtual 229, 3) := by decide +kernel
theorem dX12_fair_109 : decode cX12_fair 109 = .ok (.ifCond .ge 10, 3) := by decide +kernel
theorem dX12_fair_112 : decode cX12_fair 112 = .ok (.aload_n 0, 1) := by decide +kernel
theorem dX12_fair_113 : decode cX12_fair 113 = .ok (.bipush 8, 2) := by decide +kernel
theorem dX12_fair_115 : decode cX12_fair 115 = .ok (.iconst 5, 1) := by decide +kernel
theorem dX12_fair_116 : decode cX12_fair 116 = .ok (.invokevirtual 198, 3) := by decide +kernel
theorem dX12_fair_119 : decode cX12_fair 119 = .ok (.iconst 1, 1) := by decide +kernel
theorem dX12_fair_120 : decode cX12_fair 120 = .ok (.istore_n 2, 1) := by decide +kernel
theorem dX12_fair_121 : decode cX12_fair 121 = .ok (.iinc 3 1, 3) := by decide +kernel
theorem dX12_fair_124 : decode cX12_fair 124 = .ok (.goto (-79), 3) := by decide +kernel
theorem dX12_fair_127 : decode cX12_fair 127 = .ok (.aload_n 0, 1) := by decide +kernel
theorem dX12_fair_128 : decode cX12_fair 128 = .ok (.iconst 4, 1) := by decide +kernel
theorem dX12_fair_129 : decode cX12_fair 129 = .ok (.iconst 5, 1) := by decide +kernel
theorem dX12_fair_130 : decode cX12_fair 130 = .ok (.invokevirtual 232, 3) := by decide +kernel
theorem dX12_fair_133 : decode cX12_fair 133 = .ok (.aload_n 0, 1) := by decide +kernel
theorem dX12_fair_134 : decode cX12_fair 134 = .ok (.iconst 4, 1) := by decide +kernel
theorem dX12_fair_135 : decode cX12_fair 135 = .ok (.bipush 36, 2) := by decide +kernel
theorem dX12_fair_137 : decode cX12_fair 137 = .ok (.invokevirtual 238, 3) := by decide +kernel
theorem dX12_fair_140 : decode cX12_fair 140 = .ok (.iconst 1, 1) := by decide +kernel
theorem dX12_fair_141 : decode cX12_fair 141 = .ok (.ireturn, 1) := by decide +kernel
theorem bX12_fair_0 {Z : ZT} {X : XT} {μ : Mu} {a1 : Int32} (E : Ent Z X mX12_fair 0 0) {p : Int32 → Mu → Prop} 
    (c : CtrS Z mX12_isLot [.int a1] μ (rI p)) (k : ∀ v μ1, p v μ1 → JS Z X 4 [(0, .ref (Z.2.2.1 + 455)), (1, .int a1)] [.int v] μ1) :
    JS Z X 0 [(0, .ref (Z.2.2.1 + 455)), (1, .int a1)] [] μ := by
  refine J_iload_n E dX12_fair_0 rfl ?_
  refine S_callS (As := [.int a1]) (rest := []) E dX12_fair_1 c kX12_isLot ⟨Nat.le_of_ble_eq_true rfl, Nat.le_of_ble_eq_true rfl⟩ rfl (Nat.le_of_ble_eq_true rfl) w6_138 w6_139 (fun r_ μ1 hp_ => ?_)
  obtain ⟨v, rfl, hp_⟩ := hp_
  exact k v μ1 hp_
theorem bX12_fair_4 {Z : ZT} {X : XT} {μ : Mu} {a1 : Int32} {s0 : Int32} (E : Ent Z X mX12_fair 0 0)  
    (kt : ¬ s0 = 0 → JS Z X 14 [(0, .ref (Z.2.2.1 + 455)), (1, .int a1)] [] μ) (kf : s0 = 0 → JS Z X 7 [(0, .ref (Z.2.2.1 + 455))] [] μ) :
    JS Z X 4 [(0, .ref (Z.2.2.1 + 455)), (1, .int a1)] [.int s0] μ := by
  refine J_if_ne (tgt := 14) E dX12_fair_4 (by decide) (fun c => ?_) (fun c => ?_)
  · exact kt c
  · refine J.weak [0] rfl ?_
    exact kf c
theorem bX12_fair_7 {Z : ZT} {X : XT} {μ : Mu} (E : Ent Z X mX12_fair 0 0) {p : Int32 → Mu → Prop} 
    (c : CtrS Z mX12_refuse [.ref (Z.2.2.1 + 455), .int (-2)] μ (rI p)) (k : ∀ v μ1, p v μ1 → JS Z X 13 [] [.int v] μ1) :
    JS Z X 7 [(0, .ref (Z.2.2.1 + 455))] [] μ := by
  refine J_aload_n E dX12_fair_7 rfl ?_
  refine J_bipush (v := -2) E dX12_fair_8 rfl ?_
  refine S_callV (As := [.int (-2)]) (rest := []) E dX12_fair_10 c kX12_refuse ⟨Nat.le_of_ble_eq_true rfl, Nat.le_of_ble_eq_true rfl⟩ rfl (Nat.le_of_ble_eq_true rfl) sh455 rfl rfl w6_51 w6_53 wp_30 (fun r_ μ1 hp_ => ?_)
  obtain ⟨v, rfl, hp_⟩ := hp_
  refine J.weak [] rfl ?_
  exact k v μ1 hp_
theorem bX12_fair_13 {Z : ZT} {X : XT} {μ : Mu} {s0 : Int32} (E : Ent Z X mX12_fair 0 0) {P : Option Value → Mu → Prop} (hB : BodS Z X P) 
    (k : P (some (.int s0)) μ) :
    JS Z X 13 [] [.int s0] μ := by
  exact S_iret E hB dX12_fair_13 rfl k
theorem bX12_fair_14 {Z : ZT} {X : XT} {μ : Mu} {a1 : Int32} (E : Ent Z X mX12_fair 0 0) {p : Int32 → Mu → Prop} 
    (c : CtrS Z mX12_isHunt [.ref (Z.2.2.1 + 455), .int a1] μ (rI p)) (k : ∀ v μ1, p v μ1 → JS Z X 19 [(0, .ref (Z.2.2.1 + 455)), (1, .int a1)] [.int v] μ1) :
    JS Z X 14 [(0, .ref (Z.2.2.1 + 455)), (1, .int a1)] [] μ := by
  refine J_aload_n E dX12_fair_14 rfl ?_
  refine J_iload_n E dX12_fair_15 rfl ?_
  refine S_callV (As := [.int a1]) (rest := []) E dX12_fair_16 c kX12_isHunt ⟨Nat.le_of_ble_eq_true rfl, Nat.le_of_ble_eq_true rfl⟩ rfl (Nat.le_of_ble_eq_true rfl) sh455 rfl rfl w6_197 w6_199 wp_47 (fun r_ μ1 hp_ => ?_)
  obtain ⟨v, rfl, hp_⟩ := hp_
  exact k v μ1 hp_
theorem bX12_fair_19 {Z : ZT} {X : XT} {μ : Mu} {a1 : Int32} {s0 : Int32} (E : Ent Z X mX12_fair 0 0)  
    (kt : ¬ s0 = 0 → JS Z X 29 [(0, .ref (Z.2.2.1 + 455)), (1, .int a1)] [] μ) (kf : s0 = 0 → JS Z X 22 [(0, .ref (Z.2.2.1 + 455))] [] μ) :
    JS Z X 19 [(0, .ref (Z.2.2.1 + 455)), (1, .int a1)] [.int s0] μ := by
  refine J_if_ne (tgt := 29) E dX12_fair_19 (by decide) (fun c => ?_) (fun c => ?_)
  · exact kt c
  · refine J.weak [0] rfl ?_
    exact kf c
theorem bX12_fair_22 {Z : ZT} {X : XT} {μ : Mu} (E : Ent Z X mX12_fair 0 0) {p : Int32 → Mu → Prop} 
    (c : CtrS Z mX12_refuse [.ref (Z.2.2.1 + 455), .int (-3)] μ (rI p)) (k : ∀ v μ1, p v μ1 → JS Z X 28 [] [.int v] μ1) :
    JS Z X 22 [(0, .ref (Z.2.2.1 + 455))] [] μ := by
  refine J_aload_n E dX12_fair_22 rfl ?_
  refine J_bipush (v := -3) E dX12_fair_23 rfl ?_
  refine S_callV (As := [.int (-3)]) (rest := []) E dX12_fair_25 c kX12_refuse ⟨Nat.le_of_ble_eq_true rfl, Nat.le_of_ble_eq_true rfl⟩ rfl (Nat.le_of_ble_eq_true rfl) sh455 rfl rfl w6_51 w6_53 wp_30 (fun r_ μ1 hp_ => ?_)
  obtain ⟨v, rfl, hp_⟩ := hp_
  refine J.weak [] rfl ?_
  exact k v μ1 hp_
theorem bX12_fair_28 {Z : ZT} {X : XT} {μ : Mu} {s0 : Int32} (E : Ent Z X mX12_fair 0 0) {P : Option Value → Mu → Prop} (hB : BodS Z X P) 
    (k : P (some (.int s0)) μ) :
    JS Z X 28 [] [.int s0] μ := by
  exact S_iret E hB dX12_fair_28 rfl k
theorem bX12_fair_29 {Z : ZT} {X : XT} {μ : Mu} {a1 : Int32} (E : Ent Z X mX12_fair 0 0) {p : Mu → Prop} 
    (c : CtrS Z mX12_set [.ref (Z.2.2.1 + 455), .int (nI 4), .int (nI 0)] μ (rV p)) (k : ∀ μ1, p μ1 → JS Z X 37 [(0, .ref (Z.2.2.1 + 455)), (1, .int a1), (2, .int (nI 0))] [] μ1) :
    JS Z X 29 [(0, .ref (Z.2.2.1 + 455)), (1, .int a1)] [] μ := by
  refine J_iconst (v := nI 0) E dX12_fair_29 rfl ?_
  refine J_istore_n (lv' := [(0, .ref (Z.2.2.1 + 455)), (1, .int a1), (2, .int (nI 0))]) E dX12_fair_30 (Nat.le_of_ble_eq_true rfl) rfl ?_
  refine J_aload_n E dX12_fair_31 rfl ?_
  refine J_iconst (v := nI 4) E dX12_fair_32 rfl ?_
  refine J_iconst (v := nI 0) E dX12_fair_33 rfl ?_
  refine S_callV (As := [.int (nI 4), .int (nI 0)]) (rest := []) E dX12_fair_34 c kX12_set ⟨Nat.le_of_ble_eq_true rfl, Nat.le_of_ble_eq_true rfl⟩ rfl (Nat.le_of_ble_eq_true rfl) sh455 rfl rfl w6_230 w6_232 wp_55 (fun r_ μ1 hp_ => ?_)
  obtain ⟨rfl, hp_⟩ := hp_
  exact k μ1 hp_
theorem bX12_fair_37 {Z : ZT} {X : XT} {μ : Mu} {a1 : Int32} {a2 : Int32} (E : Ent Z X mX12_fair 0 0) {p : Mu → Prop} 
    (c : CtrS Z mX12_set [.ref (Z.2.2.1 + 455), .int (nI 5), .int (nI 0)] μ (rV p)) (k : ∀ μ1, p μ1 → JS Z X 43 [(0, .ref (Z.2.2.1 + 455)), (1, .int a1), (2, .int a2)] [] μ1) :
    JS Z X 37 [(0, .ref (Z.2.2.1 + 455)), (1, .int a1), (2, .int a2)] [] μ := by
  refine J_aload_n E dX12_fair_37 rfl ?_
  refine J_iconst (v := nI 5) E dX12_fair_38 rfl ?_
  refine J_iconst (v := nI 0) E dX12_fair_39 rfl ?_
  refine S_callV (As := [.int (nI 5), .int (nI 0)]) (rest := []) E dX12_fair_40 c kX12_set ⟨Nat.le_of_ble_eq_true rfl, Nat.le_of_ble_eq_true rfl⟩ rfl (Nat.le_of_ble_eq_true rfl) sh455 rfl rfl w6_230 w6_232 wp_55 (fun r_ μ1 hp_ => ?_)
  obtain ⟨rfl, hp_⟩ := hp_
  exact k μ1 hp_
theorem bX12_fair_43 {Z : ZT} {X : XT} {μ : Mu} {a1 : Int32} {a2 : Int32} (E : Ent Z X mX12_fair 0 0)  
    (k : JS Z X 45 [(0, .ref (Z.2.2.1 + 455)), (1, .int a1), (2, .int a2), (3, .int (nI 0))] [] μ) :
    JS Z X 43 [(0, .ref (Z.2.2.1 + 455)), (1, .int a1), (2, .int a2)] [] μ := by
  refine J_iconst (v := nI 0) E dX12_fair_43 rfl ?_
  refine J_istore_n (lv' := [(0, .ref (Z.2.2.1 + 455)), (1, .int a1), (2, .int a2), (3, .int (nI 0))]) E dX12_fair_44 (Nat.le_of_ble_eq_true rfl) rfl ?_
  exact k
theorem bX12_fair_45 {Z : ZT} {X : XT} {μ : Mu} {a1 : Int32} {a2 : Int32} {a3 : Int32} (E : Ent Z X mX12_fair 0 0)  (s1_ : vp_in (nI 111) 988)
    (kt : (μ 456 (ix (nI 111))) ≤ a3 → JS Z X 127 [(0, .ref (Z.2.2.1 + 455))] [] μ) (kf : ¬ ((μ 456 (ix (nI 111))) ≤ a3) → JS Z X 56 [(0, .ref (Z.2.2.1 + 455)), (1, .int a1), (2, .int a2), (3, .int a3)] [] μ) :
    JS Z X 45 [(0, .ref (Z.2.2.1 + 455)), (1, .int a1), (2, .int a2), (3, .int a3)] [] μ := by
  refine J_iload_n E dX12_fair_45 rfl ?_
  refine J_aload_n E dX12_fair_46 rfl ?_
  refine S_get (ci := 12) (q := 0) (v := .ref (Z.2.2.1 + 456)) E dX12_fair_47 fs_X12_7 sh455 rfl ?_
  refine J_bipush (v := nI 111) E dX12_fair_50 rfl ?_
  refine S_iald E dX12_fair_52 sh456 s1_ ?_
  refine J_icmp_ge (tgt := 127) E dX12_fair_53 (by decide) (fun c => ?_) (fun c => ?_)
  · refine J.weak [0] rfl ?_
    exact kt c
  · exact kf c
theorem bX12_fair_56 {Z : ZT} {X : XT} {μ : Mu} {a1 : Int32} {a2 : Int32} {a3 : Int32} (E : Ent Z X mX12_fair 0 0)  (s1_ : vp_in ((nI 148) + a3) 988)
    (kt : ¬ (μ 456 (ix ((nI 148) + a3))) = a1 → JS Z X 121 [(0, .ref (Z.2.2.1 + 455)), (1, .int a1), (2, .int a2), (3, .int a3)] [] μ) (kf : (μ 456 (ix ((nI 148) + a3))) = a1 → JS Z X 70 [(0, .ref (Z.2.2.1 + 455)), (1, .int a1), (2, .int a2), (3, .int a3)] [] μ) :
    JS Z X 56 [(0, .ref (Z.2.2.1 + 455)), (1, .int a1), (2, .int a2), (3, .int a3)] [] μ := by
  refine J_aload_n E dX12_fair_56 rfl ?_
  refine S_get (ci := 12) (q := 0) (v := .ref (Z.2.2.1 + 456)) E dX12_fair_57 fs_X12_7 sh455 rfl ?_
  refine J_sipush (v := nI 148) E dX12_fair_60 rfl ?_
  refine J_iload_n E dX12_fair_63 rfl ?_
  refine J_iadd E dX12_fair_64 ?_
  refine S_iald E dX12_fair_65 sh456 s1_ ?_
  refine J_iload_n E dX12_fair_66 rfl ?_
  refine J_icmp_ne (tgt := 121) E dX12_fair_67 (by decide) (fun c => ?_) (fun c => ?_)
  · exact kt c
  · exact kf c
theorem bX12_fair_70 {Z : ZT} {X : XT} {μ : Mu} {a1 : Int32} {a2 : Int32} {a3 : Int32} (E : Ent Z X mX12_fair 0 0) {p : Mu → Prop} 
    (c : CtrS Z mX12_guessedTo [.ref (Z.2.2.1 + 455), .int (nI 8), .int a3] μ (rV p)) (k : ∀ μ1, p μ1 → JS Z X 77 [(0, .ref (Z.2.2.1 + 455)), (1, .int a1), (2, .int a2), (3, .int a3)] [] μ1) :
    JS Z X 70 [(0, .ref (Z.2.2.1 + 455)), (1, .int a1), (2, .int a2), (3, .int a3)] [] μ := by
  refine J_aload_n E dX12_fair_70 rfl ?_
  refine J_bipush (v := nI 8) E dX12_fair_71 rfl ?_
  refine J_iload_n E dX12_fair_73 rfl ?_
  refine S_callV (As := [.int (nI 8), .int a3]) (rest := []) E dX12_fair_74 c kX12_guessedTo ⟨Nat.le_of_ble_eq_true rfl, Nat.le_of_ble_eq_true rfl⟩ rfl (Nat.le_of_ble_eq_true rfl) sh455 rfl rfl w7_67 w7_69 wp_70 (fun r_ μ1 hp_ => ?_)
  obtain ⟨rfl, hp_⟩ := hp_
  exact k μ1 hp_
theorem bX12_fair_77 {Z : ZT} {X : XT} {μ : Mu} {a1 : Int32} {a2 : Int32} {a3 : Int32} (E : Ent Z X mX12_fair 0 0)  
    (kt : a2 = 0 → JS Z X 91 [(0, .ref (Z.2.2.1 + 455)), (1, .int a1), (2, .int a2), (3, .int a3)] [] μ) (kf : ¬ (a2 = 0) → JS Z X 81 [(0, .ref (Z.2.2.1 + 455)), (1, .int a1), (2, .int a2), (3, .int a3)] [] μ) :
    JS Z X 77 [(0, .ref (Z.2.2.1 + 455)), (1, .int a1), (2, .int a2), (3, .int a3)] [] μ := by
  refine J_iload_n E dX12_fair_77 rfl ?_
  refine J_if_eq (tgt := 91) E dX12_fair_78 (by decide) (fun c => ?_) (fun c => ?_)
  · exact kt c
  · exact kf c
theorem bX12_fair_81 {Z : ZT} {X : XT} {μ : Mu} {a1 : Int32} {a2 : Int32} {a3 : Int32} (E : Ent Z X mX12_fair 0 0) {p : Int32 → Mu → Prop} 
    (c : CtrS Z mX12_compare [.ref (Z.2.2.1 + 455), .int (nI 8), .int (nI 4)] μ (rI p)) (k : ∀ v μ1, p v μ1 → JS Z X 88 [(0, .ref (Z.2.2.1 + 455)), (1, .int a1), (2, .int a2), (3, .int a3)] [.int v] μ1) :
    JS Z X 81 [(0, .ref (Z.2.2.1 + 455)), (1, .int a1), (2, .int a2), (3, .int a3)] [] μ := by
  refine J_aload_n E dX12_fair_81 rfl ?_
  refine J_bipush (v := nI 8) E dX12_fair_82 rfl ?_
  refine J_iconst (v := nI 4) E dX12_fair_84 rfl ?_
  refine S_callV (As := [.int (nI 8), .int (nI 4)]) (rest := []) E dX12_fair_85 c kX12_compare ⟨Nat.le_of_ble_eq_true rfl, Nat.le_of_ble_eq_true rfl⟩ rfl (Nat.le_of_ble_eq_true rfl) sh455 rfl rfl w7_59 w7_61 wp_69 (fun r_ μ1 hp_ => ?_)
  obtain ⟨v, rfl, hp_⟩ := hp_
  exact k v μ1 hp_
theorem bX12_fair_88 {Z : ZT} {X : XT} {μ : Mu} {a1 : Int32} {a2 : Int32} {a3 : Int32} {s0 : Int32} (E : Ent Z X mX12_fair 0 0)  
    (kt : s0 ≤ 0 → JS Z X 98 [(0, .ref (Z.2.2.1 + 455)), (1, .int a1), (2, .int a2), (3, .int a3)] [] μ) (kf : ¬ (s0 ≤ 0) → JS Z X 91 [(0, .ref (Z.2.2.1 + 455)), (1, .int a1), (2, .int a2), (3, .int a3)] [] μ) :
    JS Z X 88 [(0, .ref (Z.2.2.1 + 455)), (1, .int a1), (2, .int a2), (3, .int a3)] [.int s0] μ := by
  refine J_if_le (tgt := 98) E dX12_fair_88 (by decide) (fun c => ?_) (fun c => ?_)
  · exact kt c
  · exact kf c
theorem bX12_fair_91 {Z : ZT} {X : XT} {μ : Mu} {a1 : Int32} {a2 : Int32} {a3 : Int32} (E : Ent Z X mX12_fair 0 0) {p : Mu → Prop} 
    (c : CtrS Z mX12_copy [.ref (Z.2.2.1 + 455), .int (nI 8), .int (nI 4)] μ (rV p)) (k : ∀ μ1, p μ1 → JS Z X 98 [(0, .ref (Z.2.2.1 + 455)), (1, .int a1), (2, .int a2), (3, .int a3)] [] μ1) :
    JS Z X 91 [(0, .ref (Z.2.2.1 + 455)), (1, .int a1), (2, .int a2), (3, .int a3)] [] μ := by
  refine J_aload_n E dX12_fair_91 rfl ?_
  refine J_bipush (v := nI 8) E dX12_fair_92 rfl ?_
  refine J_iconst (v := nI 4) E dX12_fair_94 rfl ?_
  refine S_callV (As := [.int (nI 8), .int (nI 4)]) (rest := []) E dX12_fair_95 c kX12_copy ⟨Nat.le_of_ble_eq_true rfl, Nat.le_of_ble_eq_true rfl⟩ rfl (Nat.le_of_ble_eq_true rfl) sh455 rfl rfl w6_238 w7_0 wp_57 (fun r_ μ1 hp_ => ?_)
  obtain ⟨rfl, hp_⟩ := hp_
  exact k μ1 hp_
theorem bX12_fair_98 {Z : ZT} {X : XT} {μ : Mu} {a1 : Int32} {a2 : Int32} {a3 : Int32} (E : Ent Z X mX12_fair 0 0)  
    (kt : a2 = 0 → JS Z X 112 [(0, .ref (Z.2.2.1 + 455)), (1, .int a1), (3, .int a3)] [] μ) (kf : ¬ (a2 = 0) → JS Z X 102 [(0, .ref (Z.2.2.1 + 455)), (1, .int a1), (3, .int a3)] [] μ) :
    JS Z X 98 [(0, .ref (Z.2.2.1 + 455)), (1, .int a1), (2, .int a2), (3, .int a3)] [] μ := by
  refine J_iload_n E dX12_fair_98 rfl ?_
  refine J_if_eq (tgt := 112) E dX12_fair_99 (by decide) (fun c => ?_) (fun c => ?_)
  · refine J.weak [0, 1, 3] rfl ?_
    exact kt c
  · refine J.weak [0, 1, 3] rfl ?_
    exact kf c
theorem bX12_fair_102 {Z : ZT} {X : XT} {μ : Mu} {a1 : Int32} {a3 : Int32} (E : Ent Z X mX12_fair 0 0) {p : Int32 → Mu → Prop} 
    (c : CtrS Z mX12_compare [.ref (Z.2.2.1 + 455), .int (nI 8), .int (nI 5)] μ (rI p)) (k : ∀ v μ1, p v μ1 → JS Z X 109 [(0, .ref (Z.2.2.1 + 455)), (1, .int a1), (3, .int a3)] [.int v] μ1) :
    JS Z X 102 [(0, .ref (Z.2.2.1 + 455)), (1, .int a1), (3, .int a3)] [] μ := by
  refine J_aload_n E dX12_fair_102 rfl ?_
  refine J_bipush (v := nI 8) E dX12_fair_103 rfl ?_
  refine J_iconst (v := nI 5) E dX12_fair_105 rfl ?_
  refine S_callV (As := [.int (nI 8), .int (nI 5)]) (rest := []) E dX12_fair_106 c kX12_compare ⟨Nat.le_of_ble_eq_true rfl, Nat.le_of_ble_eq_true rfl⟩ rfl (Nat.le_of_ble_eq_true rfl) sh455 rfl rfl w7_59 w7_61 wp_69 (fun r_ μ1 hp_ => ?_)
  obtain ⟨v, rfl, hp_⟩ := hp_
  exact k v μ1 hp_
theorem bX12_fair_109 {Z : ZT} {X : XT} {μ : Mu} {a1 : Int32} {a3 : Int32} {s0 : Int32} (E : Ent Z X mX12_fair 0 0)  
    (kt : 0 ≤ s0 → JS Z X 119 [(0, .ref (Z.2.2.1 + 455)), (1, .int a1), (3, .int a3)] [] μ) (kf : ¬ (0 ≤ s0) → JS Z X 112 [(0, .ref (Z.2.2.1 + 455)), (1, .int a1), (3, .int a3)] [] μ) :
    JS Z X 109 [(0, .ref (Z.2.2.1 + 455)), (1, .int a1), (3, .int a3)] [.int s0] μ := by
  refine J_if_ge (tgt := 119) E dX12_fair_109 (by decide) (fun c => ?_) (fun c => ?_)
  · exact kt c
  · exact kf c
theorem bX12_fair_112 {Z : ZT} {X : XT} {μ : Mu} {a1 : Int32} {a3 : Int32} (E : Ent Z X mX12_fair 0 0) {p : Mu → Prop} 
    (c : CtrS Z mX12_copy [.ref (Z.2.2.1 + 455), .int (nI 8), .int (nI 5)] μ (rV p)) (k : ∀ μ1, p μ1 → JS Z X 119 [(0, .ref (Z.2.2.1 + 455)), (1, .int a1), (3, .int a3)] [] μ1) :
    JS Z X 112 [(0, .ref (Z.2.2.1 + 455)), (1, .int a1), (3, .int a3)] [] μ := by
  refine J_aload_n E dX12_fair_112 rfl ?_
  refine J_bipush (v := nI 8) E dX12_fair_113 rfl ?_
  refine J_iconst (v := nI 5) E dX12_fair_115 rfl ?_
  refine S_callV (As := [.int (nI 8), .int (nI 5)]) (rest := []) E dX12_fair_116 c kX12_copy ⟨Nat.le_of_ble_eq_true rfl, Nat.le_of_ble_eq_true rfl⟩ rfl (Nat.le_of_ble_eq_true rfl) sh455 rfl rfl w6_238 w7_0 wp_57 (fun r_ μ1 hp_ => ?_)
  obtain ⟨rfl, hp_⟩ := hp_
  exact k μ1 hp_
theorem bX12_fair_119 {Z : ZT} {X : XT} {μ : Mu} {a1 : Int32} {a3 : Int32} (E : Ent Z X mX12_fair 0 0)  
    (k : JS Z X 121 [(0, .ref (Z.2.2.1 + 455)), (1, .int a1), (2, .int (nI 1)), (3, .int a3)] [] μ) :
    JS Z X 119 [(0, .ref (Z.2.2.1 + 455)), (1, .int a1), (3, .int a3)] [] μ := by
  refine J_iconst (v := nI 1) E dX12_fair_119 rfl ?_
  refine J_istore_n (lv' := [(0, .ref (Z.2.2.1 + 455)), (1, .int a1), (2, .int (nI 1)), (3, .int a3)]) E dX12_fair_120 (Nat.le_of_ble_eq_true rfl) rfl ?_
  exact k
theorem bX12_fair_121 {Z : ZT} {X : XT} {μ : Mu} {a1 : Int32} {a2 : Int32} {a3 : Int32} (E : Ent Z X mX12_fair 0 0)  
    (k : JS Z X 45 [(0, .ref (Z.2.2.1 + 455)), (1, .int a1), (2, .int a2), (3, .int (a3 + nI 1))] [] μ) :
    JS Z X 121 [(0, .ref (Z.2.2.1 + 455)), (1, .int a1), (2, .int a2), (3, .int a3)] [] μ := by
  refine J_iinc (v := a3 + nI 1) (lv' := [(0, .ref (Z.2.2.1 + 455)), (1, .int a1), (2, .int a2), (3, .int (a3 + nI 1))]) E dX12_fair_121 rfl rfl (Nat.le_of_ble_eq_true rfl) rfl ?_
  refine J_goto (tgt := 45) E dX12_fair_124 (by decide) ?_
  exact k
theorem bX12_fair_127 {Z : ZT} {X : XT} {μ : Mu} (E : Ent Z X mX12_fair 0 0) {p : Mu → Prop} 
    (c : CtrS Z mX12_less [.ref (Z.2.2.1 + 455), .int (nI 4), .int (nI 5)] μ (rV p)) (k : ∀ μ1, p μ1 → JS Z X 133 [(0, .ref (Z.2.2.1 + 455))] [] μ1) :
    JS Z X 127 [(0, .ref (Z.2.2.1 + 455))] [] μ := by
  refine J_aload_n E dX12_fair_127 rfl ?_
  refine J_iconst (v := nI 4) E dX12_fair_128 rfl ?_
  refine J_iconst (v := nI 5) E dX12_fair_129 rfl ?_
  refine S_callV (As := [.int (nI 4), .int (nI 5)]) (rest := []) E dX12_fair_130 c kX12_less ⟨Nat.le_of_ble_eq_true rfl, Nat.le_of_ble_eq_true rfl⟩ rfl (Nat.le_of_ble_eq_true rfl) sh455 rfl rfl w7_79 w7_81 wp_72 (fun r_ μ1 hp_ => ?_)
  obtain ⟨rfl, hp_⟩ := hp_
  exact k μ1 hp_
theorem bX12_fair_133 {Z : ZT} {X : XT} {μ : Mu} (E : Ent Z X mX12_fair 0 0) {p : Mu → Prop} 
    (c : CtrS Z mX12_tell [.ref (Z.2.2.1 + 455), .int (nI 4), .int (nI 36)] μ (rV p)) (k : ∀ μ1, p μ1 → JS Z X 140 [] [] μ1) :
    JS Z X 133 [(0, .ref (Z.2.2.1 + 455))] [] μ := by
  refine J_aload_n E dX12_fair_133 rfl ?_
  refine J_iconst (v := nI 4) E dX12_fair_134 rfl ?_
  refine J_bipush (v := nI 36) E dX12_fair_135 rfl ?_
  refine S_callV (As := [.int (nI 4), .int (nI 36)]) (rest := []) E dX12_fair_137 c kX12_tell ⟨Nat.le_of_ble_eq_true rfl, Nat.le_of_ble_eq_true rfl⟩ rfl (Nat.le_of_ble_eq_true rfl) sh455 rfl rfl w6_234 w6_236 wp_56 (fun r_ μ1 hp_ => ?_)
  obtain ⟨rfl, hp_⟩ := hp_
  refine J.weak [] rfl ?_
  exact k μ1 hp_
theorem bX12_fair_140 {Z : ZT} {X : XT} {μ : Mu} (E : Ent Z X mX12_fair 0 0) {P : Option Value → Mu → Prop} (hB : BodS Z X P) 
    (k : P (some (.int (nI 1))) μ) :
    JS Z X 140 [] [] μ := by
  refine J_iconst (v := nI 1) E dX12_fair_140 rfl ?_
  exact S_iret E hB dX12_fair_141 rfl k
theorem dX12_sortOrder_0 : decode cX12_sortOrder 0 = .ok (.iconst 1, 1) := by decide +kernel
theorem dX12_sortOrder_1 : decode cX12_sortOrder 1 = .ok (.istore_n 1, 1) := by decide +kernel
theorem dX12_sortOrder_2 : decode cX12_sortOrder 2 = .ok (.iload_n 1, 1) := by decide +kernel
theorem dX12_sortOrder_3 : decode cX12_sortOrder 3 = .ok (.aload_n 0, 1) := by decide +kernel
theorem dX12_sortOrder_4 : decode cX12_sortOrder 4 = .ok (.getfield 168, 3) := by decide +kernel
theorem dX12_sortOrder_7 : decode cX12_sortOrder 7 = .ok (.if_icmp .ge 61, 3) := by decide +kernel
theorem dX12_sortOrder_10 : decode cX12_sortOrder 10 = .ok (.aload_n 0, 1) := by decide +kernel
theorem dX12_sortOrder_11 : decode cX12_sortOrder 11 = .ok (.getfield 30, 3) := by decide +kernel
theorem dX12_sortOrder_14 : decode cX12_sortOrder 14 = .ok (.iload_n 1, 1) := by decide +kernel
theorem dX12_sortOrder_15 : decode cX12_sortOrder 15 = .ok (.iaload, 1) := by decide +kernel
theorem dX12_sortOrder_16 : decode cX12_sortOrder 16 = .ok (.istore_n 2, 1) := by decide +kernel
theorem dX12_sortOrder_17 : decode cX12_sortOrder 17 = .ok (.iload_n 1, 1) := by decide +kernel
theorem dX12_sortOrder_18 : decode cX12_sortOrder 18 = .ok (.istore_n 3, 1) := by decide +kernel
theorem dX12_sortOrder_19 : decode cX12_sortOrder 19 = .ok (.iload_n 3, 1) := by decide +kernel
theorem dX12_sortOrder_20 : decode cX12_sortOrder 20 = .ok (.ifCond .le 35, 3) := by decide +kernel
theorem dX12_sortOrder_23 : decode cX12_sortOrder 23 = .ok (.aload_n 0, 1) := by decide +kernel
theorem dX12_sortOrder_24 : decode cX12_sortOrder 24 = .ok (.getfield 30, 3) := by decide +kernel
theorem dX12_sortOrder_27 : decode cX12_sortOrder 27 = .ok (.iload_n 3, 1) := by decide +kernel
theorem dX12_sortOrder_28 : decode cX12_sortOrder 28 = .ok (.iconst 1, 1) := by decide +kernel
theorem dX12_sortOrder_29 : decode cX12_sortOrder 29 = .ok (.isub, 1) := by decide +kernel
theorem dX12_sortOrder_30 : decode cX12_sortOrder 30 = .ok (.iaload, 1) := by decide +kernel
theorem dX12_sortOrder_31 : decode cX12_sortOrder 31 = .ok (.iload_n 2, 1) := by decide +kernel
theorem dX12_sortOrder_32 : decode cX12_sortOrder 32 = .ok (.if_icmp .le 23, 3) := by decide +kernel
theorem dX12_sortOrder_35 : decode cX12_sortOrder 35 = .ok (.aload_n 0, 1) := by decide +kernel
theorem dX12_sortOrder_36 : decode cX12_sortOrder 36 = .ok (.getfield 30, 3) := by decide +kernel
theorem dX12_sortOrder_39 : decode cX12_sortOrder 39 = .ok (.iload_n 3, 1) := by decide +kernel
theorem dX12_sortOrder_40 : decode cX12_sortOrder 40 = .ok (.aload_n 0, 1) := by decide +kernel
theorem dX12_sortOrder_41 : decode cX12_sortOrder 41 = .ok (.getfield 30, 3) := by decide +kernel
theorem dX12_sortOrder_44 : decode cX12_sortOrder 44 = .ok (.iload_n 3, 1) := by decide +kernel
theorem dX12_sortOrder_45 : decode cX12_sortOrder 45 = .ok (.iconst 1, 1) := by decide +kernel
theorem dX12_sortOrder_46 : decode cX12_sortOrder 46 = .ok (.isub, 1) := by decide +kernel
theorem dX12_sortOrder_47 : decode cX12_sortOrder 47 = .ok (.iaload, 1) := by decide +kernel
theorem dX12_sortOrder_48 : decode cX12_sortOrder 48 = .ok (.iastore, 1) := by decide +kernel
theorem dX12_sortOrder_49 : decode cX12_sortOrder 49 = .ok (.iinc 3 (-1), 3) := by decide +kernel
theorem dX12_sortOrder_52 : decode cX12_sortOrder 52 = .ok (.goto (-33), 3) := by decide +kernel
theorem dX12_sortOrder_55 : decode cX12_sortOrder 55 = .ok (.aload_n 0, 1) := by decide +kernel
theorem dX12_sortOrder_56 : decode cX12_sortOrder 56 = .ok (.getfield 30, 3) := by decide +kernel
theorem dX12_sortOrder_59 : decode cX12_sortOrder 59 = .ok (.iload_n 3, 1) := by decide +kernel
theorem dX12_sortOrder_60 : decode cX12_sortOrder 60 = .ok (.iload_n 2, 1) := by decide +kernel
theorem dX12_sortOrder_61 : decode cX12_sortOrder 61 = .ok (.iastore, 1) := by decide +kernel
theorem dX12_sortOrder_62 : decode cX12_sortOrder 62 = .ok (.iinc 1 1, 3) := by decide +kernel
theorem dX12_sortOrder_65 : decode cX12_sortOrder 65 = .ok (.goto (-63), 3) := by decide +kernel
theorem dX12_sortOrder_68 : decode cX12_sortOrder 68 = .ok (.return_, 1) := by decide +kernel
theorem bX12_sortOrder_0 {Z : ZT} {X : XT} {μ : Mu} (E : Ent Z X mX12_sortOrder 0 0)  
    (k : JS Z X 2 [(0, .ref (Z.2.2.1 + 455)), (1, .int (nI 1))] [] μ) :
    JS Z X 0 [(0, .ref (Z.2.2.1 + 455))] [] μ := by
  refine J_iconst (v := nI 1) E dX12_sortOrder_0 rfl ?_
  refine J_istore_n (lv' := [(0, .ref (Z.2.2.1 + 455)), (1, .int (nI 1))]) E dX12_sortOrder_1 (Nat.le_of_ble_eq_true rfl) rfl ?_
  exact k
theorem bX12_sortOrder_2 {Z : ZT} {X : XT} {μ : Mu} {a1 : Int32} (E : Ent Z X mX12_sortOrder 0 0)  
    (kt : (μ 455 13) ≤ a1 → JS Z X 68 [] [] μ) (kf : ¬ ((μ 455 13) ≤ a1) → JS Z X 10 [(0, .ref (Z.2.2.1 + 455)), (1, .int a1)] [] μ) :
    JS Z X 2 [(0, .ref (Z.2.2.1 + 455)), (1, .int a1)] [] μ := by
  refine J_iload_n E dX12_sortOrder_2 rfl ?_
  refine J_aload_n E dX12_sortOrder_3 rfl ?_
  refine S_get (ci := 12) (q := 13) (v := .int (μ 455 13)) E dX12_sortOrder_4 fs_X12_168 sh455 rfl ?_
  refine J_icmp_ge (tgt := 68) E dX12_sortOrder_7 (by decide) (fun c => ?_) (fun c => ?_)
  · refine J.weak [] rfl ?_
    exact kt c
  · exact kf c
theorem bX12_sortOrder_10 {Z : ZT} {X : XT} {μ : Mu} {a1 : Int32} (E : Ent Z X mX12_sortOrder 0 0)  (s1_ : vp_in a1 6)
    (k : JS Z X 19 [(0, .ref (Z.2.2.1 + 455)), (1, .int a1), (2, .int (μ 462 (ix a1))), (3, .int a1)] [] μ) :
    JS Z X 10 [(0, .ref (Z.2.2.1 + 455)), (1, .int a1)] [] μ := by
  refine J_aload_n E dX12_sortOrder_10 rfl ?_
  refine S_get (ci := 12) (q := 14) (v := .ref (Z.2.2.1 + 462)) E dX12_sortOrder_11 fs_X12_30 sh455 rfl ?_
  refine J_iload_n E dX12_sortOrder_14 rfl ?_
  refine S_iald E dX12_sortOrder_15 sh462 s1_ ?_
  refine J_istore_n (lv' := [(0, .ref (Z.2.2.1 + 455)), (1, .int a1), (2, .int (μ 462 (ix a1)))]) E dX12_sortOrder_16 (Nat.le_of_ble_eq_true rfl) rfl ?_
  refine J_iload_n E dX12_sortOrder_17 rfl ?_
  refine J_istore_n (lv' := [(0, .ref (Z.2.2.1 + 455)), (1, .int a1), (2, .int (μ 462 (ix a1))), (3, .int a1)]) E dX12_sortOrder_18 (Nat.le_of_ble_eq_true rfl) rfl ?_
  exact k
theorem bX12_sortOrder_19 {Z : ZT} {X : XT} {μ : Mu} {a1 : Int32} {a2 : Int32} {a3 : Int32} (E : Ent Z X mX12_sortOrder 0 0)  
    (kt : a3 ≤ 0 → JS Z X 55 [(0, .ref (Z.2.2.1 + 455)), (1, .int a1), (2, .int a2), (3, .int a3)] [] μ) (kf : ¬ (a3 ≤ 0) → JS Z X 23 [(0, .ref (Z.2.2.1 + 455)), (1, .int a1), (2, .int a2), (3, .int a3)] [] μ) :
    JS Z X 19 [(0, .ref (Z.2.2.1 + 455)), (1, .int a1), (2, .int a2), (3, .int a3)] [] μ := by
  refine J_iload_n E dX12_sortOrder_19 rfl ?_
  refine J_if_le (tgt := 55) E dX12_sortOrder_20 (by decide) (fun c => ?_) (fun c => ?_)
  · exact kt c
  · exact kf c
theorem bX12_sortOrder_23 {Z : ZT} {X : XT} {μ : Mu} {a1 : Int32} {a2 : Int32} {a3 : Int32} (E : Ent Z X mX12_sortOrder 0 0)  (s1_ : vp_in (a3 - (nI 1)) 6)
    (kt : (μ 462 (ix (a3 - (nI 1)))) ≤ a2 → JS Z X 55 [(0, .ref (Z.2.2.1 + 455)), (1, .int a1), (2, .int a2), (3, .int a3)] [] μ) (kf : ¬ ((μ 462 (ix (a3 - (nI 1)))) ≤ a2) → JS Z X 35 [(0, .ref (Z.2.2.1 + 455)), (1, .int a1), (2, .int a2), (3, .int a3)] [] μ) :
    JS Z X 23 [(0, .ref (Z.2.2.1 + 455)), (1, .int a1), (2, .int a2), (3, .int a3)] [] μ := by
  refine J_aload_n E dX12_sortOrder_23 rfl ?_
  refine S_get (ci := 12) (q := 14) (v := .ref (Z.2.2.1 + 462)) E dX12_sortOrder_24 fs_X12_30 sh455 rfl ?_
  refine J_iload_n E dX12_sortOrder_27 rfl ?_
  refine J_iconst (v := nI 1) E dX12_sortOrder_28 rfl ?_
  refine J_isub E dX12_sortOrder_29 ?_
  refine S_iald E dX12_sortOrder_30 sh462 s1_ ?_
  refine J_iload_n E dX12_sortOrder_31 rfl ?_
  refine J_icmp_le (tgt := 55) E dX12_sortOrder_32 (by decide) (fun c => ?_) (fun c => ?_)
  · exact kt c
  · exact kf c
theorem bX12_sortOrder_35 {Z : ZT} {X : XT} {μ : Mu} {a1 : Int32} {a2 : Int32} {a3 : Int32} (E : Ent Z X mX12_sortOrder 0 0)  (s1_ : vp_in (a3 - (nI 1)) 6) (s2_ : vp_in a3 6)
    (k : JS Z X 49 [(0, .ref (Z.2.2.1 + 455)), (1, .int a1), (2, .int a2), (3, .int a3)] [] (uR μ 462 (upd (μ 462) (ix a3) (μ 462 (ix (a3 - (nI 1))))))) :
    JS Z X 35 [(0, .ref (Z.2.2.1 + 455)), (1, .int a1), (2, .int a2), (3, .int a3)] [] μ := by
  refine J_aload_n E dX12_sortOrder_35 rfl ?_
  refine S_get (ci := 12) (q := 14) (v := .ref (Z.2.2.1 + 462)) E dX12_sortOrder_36 fs_X12_30 sh455 rfl ?_
  refine J_iload_n E dX12_sortOrder_39 rfl ?_
  refine J_aload_n E dX12_sortOrder_40 rfl ?_
  refine S_get (ci := 12) (q := 14) (v := .ref (Z.2.2.1 + 462)) E dX12_sortOrder_41 fs_X12_30 sh455 rfl ?_
  refine J_iload_n E dX12_sortOrder_44 rfl ?_
  refine J_iconst (v := nI 1) E dX12_sortOrder_45 rfl ?_
  refine J_isub E dX12_sortOrder_46 ?_
  refine S_iald E dX12_sortOrder_47 sh462 s1_ ?_
  refine S_iast E dX12_sortOrder_48 sh462 s2_ ?_
  exact k
theorem bX12_sortOrder_49 {Z : ZT} {X : XT} {μ : Mu} {a1 : Int32} {a2 : Int32} {a3 : Int32} (E : Ent Z X mX12_sortOrder 0 0)  
    (k : JS Z X 19 [(0, .ref (Z.2.2.1 + 455)), (1, .int a1), (2, .int a2), (3, .int (a3 + (-1)))] [] μ) :
    JS Z X 49 [(0, .ref (Z.2.2.1 + 455)), (1, .int a1), (2, .int a2), (3, .int a3)] [] μ := by
  refine J_iinc (v := a3 + (-1)) (lv' := [(0, .ref (Z.2.2.1 + 455)), (1, .int a1), (2, .int a2), (3, .int (a3 + (-1)))]) E dX12_sortOrder_49 rfl rfl (Nat.le_of_ble_eq_true rfl) rfl ?_
  refine J_goto (tgt := 19) E dX12_sortOrder_52 (by decide) ?_
  exact k
theorem bX12_sortOrder_55 {Z : ZT} {X : XT} {μ : Mu} {a1 : Int32} {a2 : Int32} {a3 : Int32} (E : Ent Z X mX12_sortOrder 0 0)  (s1_ : vp_in a3 6)
    (k : JS Z X 62 [(0, .ref (Z.2.2.1 + 455)), (1, .int a1)] [] (uR μ 462 (upd (μ 462) (ix a3) a2))) :
    JS Z X 55 [(0, .ref (Z.2.2.1 + 455)), (1, .int a1), (2, .int a2), (3, .int a3)] [] μ := by
  refine J_aload_n E dX12_sortOrder_55 rfl ?_
  refine S_get (ci := 12) (q := 14) (v := .ref (Z.2.2.1 + 462)) E dX12_sortOrder_56 fs_X12_30 sh455 rfl ?_
  refine J_iload_n E dX12_sortOrder_59 rfl ?_
  refine J_iload_n E dX12_sortOrder_60 rfl ?_
  refine S_iast E dX12_sortOrder_61 sh462 s1_ ?_
  refine J.weak [0, 1] rfl ?_
  exact k
theorem bX12_sortOrder_62 {Z : ZT} {X : XT} {μ : Mu} {a1 : Int32} (E : Ent Z X mX12_sortOrder 0 0)  
    (k : JS Z X 2 [(0, .ref (Z.2.2.1 + 455)), (1, .int (a1 + nI 1))] [] μ) :
    JS Z X 62 [(0, .ref (Z.2.2.1 + 455)), (1, .int a1)] [] μ := by
  refine J_iinc (v := a1 + nI 1) (lv' := [(0, .ref (Z.2.2.1 + 455)), (1, .int (a1 + nI 1))]) E dX12_sortOrder_62 rfl rfl (Nat.le_of_ble_eq_true rfl) rfl ?_
  refine J_goto (tgt := 2) E dX12_sortOrder_65 (by decide) ?_
  exact k
theorem bX12_sortOrder_68 {Z : ZT} {X : XT} {μ : Mu} (E : Ent Z X mX12_sortOrder 0 0) {P : Option Value → Mu → Prop} (hB : BodS Z X P) 
    (k : P none μ) :
    JS Z X 68 [] [] μ := by
  exact S_vret E hB dX12_sortOrder_68 rfl k
theorem dX12_nextOrder_0 : decode cX12_nextOrder 0 = .ok (.aload_n 0, 1) := by decide +kernel
theorem dX12_nextOrder_1 : decode cX12_nextOrder 1 = .ok (.getfield 168, 3) := by decide +kernel
theorem dX12_nextOrder_4 : decode cX12_nextOrder 4 = .ok (.iconst 2, 1) := by decide +kernel
theorem dX12_nextOrder_5 : decode cX12_nextOrder 5 = .ok (.isub, 1) := by decide +kernel
theorem dX12_nextOrder_6 : decode cX12_nextOrder 6 = .ok (.istore_n 1, 1) := by decide +kernel
theorem dX12_nextOrder_7 : decode cX12_nextOrder 7 = .ok (.iload_n 1, 1) := by decide +kernel
theorem dX12_nextOrder_8 : decode cX12_nextOrder 8 = .ok (.ifCond .lt 26, 3) := by decide +kernel
theorem dX12_nextOrder_11 : decode cX12_nextOrder 11 = .ok (.aload_n 0, 1) := by decide +kernel
theorem dX12_nextOrder_12 : decode cX12_nextOrder 12 = .ok (.getfield 30, 3) := by decide +kernel
theorem dX12_nextOrder_15 : decode cX12_nextOrder 15 = .ok (.iload_n 1, 1) := by decide +kernel
theorem dX12_nextOrder_16 : decode cX12_nextOrder 16 = .ok (.iaload, 1) := by decide +kernel
theorem dX12_nextOrder_17 : decode cX12_nextOrder 17 = .ok (.aload_n 0, 1) := by decide +kernel
theorem dX12_nextOrder_18 : decode cX12_nextOrder 18 = .ok (.getfield 30, 3) := by decide +kernel
theorem dX12_nextOrder_21 : decode cX12_nextOrder 21 = .ok (.iload_n 1, 1) := by decide +kernel
theorem dX12_nextOrder_22 : decode cX12_nextOrder 22 = .ok (.iconst 1, 1) := by decide +kernel
theorem dX12_nextOrder_23 : decode cX12_nextOrder 23 = .ok (.iadd, 1) := by decide +kernel
theorem dX12_nextOrder_24 : decode cX12_nextOrder 24 = .ok (.iaload, 1) := by decide +kernel
theorem dX12_nextOrder_25 : decode cX12_nextOrder 25 = .ok (.if_icmp .le 9, 3) := by decide +kernel
theorem dX12_nextOrder_28 : decode cX12_nextOrder 28 = .ok (.iinc 1 (-1), 3) := by decide +kernel
theorem dX12_nextOrder_31 : decode cX12_nextOrder 31 = .ok (.goto (-24), 3) := by decide +kernel
theorem dX12_nextOrder_34 : decode cX12_nextOrder 34 = .ok (.iload_n 1, 1) := by decide +kernel
theorem dX12_nextOrder_35 : decode cX12_nextOrder 35 = .ok (.ifCond .ge 5, 3) := by decide +kernel
theorem dX12_nextOrder_38 : decode cX12_nextOrder 38 = .ok (.iconst 0, 1) := by decide +kernel
theorem dX12_nextOrder_39 : decode cX12_nextOrder 39 = .ok (.ireturn, 1) := by decide +kernel
theorem dX12_nextOrder_40 : decode cX12_nextOrder 40 = .ok (.aload_n 0, 1) := by decide +kernel
theorem dX12_nextOrder_41 : decode cX12_nextOrder 41 = .ok (.getfield 168, 3) := by decide +kernel
theorem dX12_nextOrder_44 : decode cX12_nextOrder 44 = .ok (.iconst 1, 1) := by decide +kernel
theorem dX12_nextOrder_45 : decode cX12_nextOrder 45 = .ok (.isub, 1) := by decide +kernel
theorem dX12_nextOrder_46 : decode cX12_nextOrder 46 = .ok (.istore_n 2, 1) := by decide +kernel
theorem dX12_nextOrder_47 : decode cX12_nextOrder 47 = .ok (.aload_n 0, 1) := by decide +kernel
theorem dX12_nextOrder_48 : decode cX12_nextOrder 48 = .ok (.getfield 30, 3) := by decide +kernel
theorem dX12_nextOrder_51 : decode cX12_nextOrder 51 = .ok (.iload_n 2, 1) := by decide +kernel
theorem dX12_nextOrder_52 : decode cX12_nextOrder 52 = .ok (.iaload, 1) := by decide +kernel
theorem dX12_nextOrder_53 : decode cX12_nextOrder 53 = .ok (.aload_n 0, 1) := by decide +kernel
theorem dX12_nextOrder_54 : decode cX12_nextOrder 54 = .ok (.getfield 30, 3) := by decide +kernel
theorem dX12_nextOrder_57 : decode cX12_nextOrder 57 = .ok (.iload_n 1, 1) := by decide +kernel
theorem dX12_nextOrder_58 : decode cX12_nextOrder 58 = .ok (.iaload, 1) := by decide +kernel
theorem dX12_nextOrder_59 : decode cX12_nextOrder 59 = .ok (.if_icmp .ge 9, 3) := by decide +kernel
theorem dX12_nextOrder_62 : decode cX12_nextOrder 62 = .ok (.iinc 2 (-1), 3) := by decide +kernel
theorem dX12_nextOrder_65 : decode cX12_nextOrder 65 = .ok (.goto (-18), 3) := by decide +kernel
theorem dX12_nextOrder_68 : decode cX12_nextOrder 68 = .ok (.aload_n 0, 1) := by decide +kernel
theorem dX12_nextOrder_69 : decode cX12_nextOrder 69 = .ok (.iload_n 1, 1) := by decide +kernel
theorem dX12_nextOrder_70 : decode cX12_nextOrder 70 = .ok (.iload_n 2, 1) := by decide +kernel
theorem dX12_nextOrder_71 : decode cX12_nextOrder 71 = .ok (.invokevirtual 259, 3) := by decide +kernel
theorem dX12_nextOrder_74 : decode cX12_nextOrder 74 = .ok (.iload_n 1, 1) := by decide +kernel
theorem dX12_nextOrder_75 : decode cX12_nextOrder 75 = .ok (.iconst 1, 1) := by decide +kernel
theorem dX12_nextOrder_76 : decode cX12_nextOrder 76 = .ok (.iadd, 1) := by decide +kernel
theorem dX12_nextOrder_77 : decode cX12_nextOrder 77 = .ok (.istore_n 3, 1) := by decide +kernel
theorem dX12_nextOrder_78 : decode cX12_nextOrder 78 = .ok (.aload_n 0, 1) := by decide +kernel
theorem dX12_nextOrder_79 : decode cX12_nextOrder 79 = .ok (.getfield 168, 3) := by decide +kernel
theorem dX12_nextOrder_82 : decode cX12_nextOrder 82 = .ok (.iconst 1, 1) := by decide +kernel
theorem dX12_nextOrder_83 : decode cX12_nextOrder 83 = .ok (.isub, 1) := by decide +kernel
theorem dX12_nextOrder_84 : decode cX12_nextOrder 84 = .ok (.istore 4, 2) := by decide +kernel
theorem dX12_nextOrder_86 : decode cX12_nextOrder 86 = .ok (.iload_n 3, 1) := by decide +kernel
theorem dX12_nextOrder_87 : decode cX12_nextOrder 87 = .ok (.iload 4, 2) := by decide +kernel
theorem dX12_nextOrder_89 : decode cX12_nextOrder 89 = .ok (.if_icmp .ge 19, 3) := by decide +kernel
theorem dX12_nextOrder_92 : decode cX12_nextOrder 92 = .ok (.aload_n 0, 1) := by decide +kernel
theorem dX12_nextOrder_93 : decode cX12_nextOrder 93 = .ok (.iload_n 3, 1) := by decide +kernel
theorem dX12_nextOrder_94 : decode cX12_nextOrder 94 = .ok (.iload 4, 2) := by decide +kernel
theorem dX12_nextOrder_96 : decode cX12_nextOrder 96 = .ok (.invokevirtual 259, 3) := by decide +kernel
theorem dX12_nextOrder_99 : decode cX12_nextOrder 99 = .ok (.iinc 3 1, 3) := by decide +kernel
theorem dX12_nextOrder_102 : decode cX12_nextOrder 102 = .ok (.iinc 4 (-1), 3) := by decide +kernel
theorem dX12_nextOrder_105 : decode cX12_nextOrder 105 = .ok (.goto (-19), 3) := by decide +kernel
theorem dX12_nextOrder_108 : decode cX12_nextOrder 108 = .ok (.iconst 1, 1) := by decide +kernel
theorem dX12_nextOrder_109 : decode cX12_nextOrder 109 = .ok (.ireturn, 1) := by decide +kernel
theorem bX12_nextOrder_0 {Z : ZT} {X : XT} {μ : Mu} (E : Ent Z X mX12_nextOrder 0 0)  
    (k : JS Z X 7 [(0, .ref (Z.2.2.1 + 455)), (1, .int ((μ 455 13) - (nI 2)))] [] μ) :
    JS Z X 0 [(0, .ref (Z.2.2.1 + 455))] [] μ := by
  refine J_aload_n E dX12_nextOrder_0 rfl ?_
  refine S_get (ci := 12) (q := 13) (v := .int (μ 455 13)) E dX12_nextOrder_1 fs_X12_168 sh455 rfl ?_
  refine J_iconst (v := nI 2) E dX12_nextOrder_4 rfl ?_
  refine J_isub E dX12_nextOrder_5 ?_
  refine J_istore_n (lv' := [(0, .ref (Z.2.2.1 + 455)), (1, .int ((μ 455 13) - (nI 2)))]) E dX12_nextOrder_6 (Nat.le_of_ble_eq_true rfl) rfl ?_
  exact k
theorem bX12_nextOrder_7 {Z : ZT} {X : XT} {μ : Mu} {a1 : Int32} (E : Ent Z X mX12_nextOrder 0 0)  
    (kt : a1 < 0 → JS Z X 34 [(0, .ref (Z.2.2.1 + 455)), (1, .int a1)] [] μ) (kf : ¬ (a1 < 0) → JS Z X 11 [(0, .ref (Z.2.2.1 + 455)), (1, .int a1)] [] μ) :
    JS Z X 7 [(0, .ref (Z.2.2.1 + 455)), (1, .int a1)] [] μ := by
  refine J_iload_n E dX12_nextOrder_7 rfl ?_
  refine J_if_lt (tgt := 34) E dX12_nextOrder_8 (by decide) (fun c => ?_) (fun c => ?_)
  · exact kt c
  · exact kf c
theorem bX12_nextOrder_11 {Z : ZT} {X : XT} {μ : Mu} {a1 : Int32} (E : Ent Z X mX12_nextOrder 0 0)  (s1_ : vp_in a1 6) (s2_ : vp_in (a1 + (nI 1)) 6)
    (kt : (μ 462 (ix a1)) ≤ (μ 462 (ix (a1 + (nI 1)))) → JS Z X 34 [(0, .ref (Z.2.2.1 + 455)), (1, .int a1)] [] μ) (kf : ¬ ((μ 462 (ix a1)) ≤ (μ 462 (ix (a1 + (nI 1))))) → JS Z X 28 [(0, .ref (Z.2.2.1 + 455)), (1, .int a1)] [] μ) :
    JS Z X 11 [(0, .ref (Z.2.2.1 + 455)), (1, .int a1)] [] μ := by
  refine J_aload_n E dX12_nextOrder_11 rfl ?_
  refine S_get (ci := 12) (q := 14) (v := .ref (Z.2.2.1 + 462)) E dX12_nextOrder_12 fs_X12_30 sh455 rfl ?_
  refine J_iload_n E dX12_nextOrder_15 rfl ?_
  refine S_iald E dX12_nextOrder_16 sh462 s1_ ?_
  refine J_aload_n E dX12_nextOrder_17 rfl ?_
  refine S_get (ci := 12) (q := 14) (v := .ref (Z.2.2.1 + 462)) E dX12_nextOrder_18 fs_X12_30 sh455 rfl ?_
  refine J_iload_n E dX12_nextOrder_21 rfl ?_
  refine J_iconst (v := nI 1) E dX12_nextOrder_22 rfl ?_
  refine J_iadd E dX12_nextOrder_23 ?_
  refine S_iald E dX12_nextOrder_24 sh462 s2_ ?_
  refine J_icmp_le (tgt := 34) E dX12_nextOrder_25 (by decide) (fun c => ?_) (fun c => ?_)
  · exact kt c
  · exact kf c
theorem bX12_nextOrder_28 {Z : ZT} {X : XT} {μ : Mu} {a1 : Int32} (E : Ent Z X mX12_nextOrder 0 0)  
    (k : JS Z X 7 [(0, .ref (Z.2.2.1 + 455)), (1, .int (a1 + (-1)))] [] μ) :
    JS Z X 28 [(0, .ref (Z.2.2.1 + 455)), (1, .int a1)] [] μ := by
  refine J_iinc (v := a1 + (-1)) (lv' := [(0, .ref (Z.2.2.1 + 455)), (1, .int (a1 + (-1)))]) E dX12_nextOrder_28 rfl rfl (Nat.le_of_ble_eq_true rfl) rfl ?_
  refine J_goto (tgt := 7) E dX12_nextOrder_31 (by decide) ?_
  exact k
theorem bX12_nextOrder_34 {Z : ZT} {X : XT} {μ : Mu} {a1 : Int32} (E : Ent Z X mX12_nextOrder 0 0)  
    (kt : 0 ≤ a1 → JS Z X 40 [(0, .ref (Z.2.2.1 + 455)), (1, .int a1)] [] μ) (kf : ¬ (0 ≤ a1) → JS Z X 38 [] [] μ) :
    JS Z X 34 [(0, .ref (Z.2.2.1 + 455)), (1, .int a1)] [] μ := by
  refine J_iload_n E dX12_nextOrder_34 rfl ?_
  refine J_if_ge (tgt := 40) E dX12_nextOrder_35 (by decide) (fun c => ?_) (fun c => ?_)
  · exact kt c
  · refine J.weak [] rfl ?_
    exact kf c
theorem bX12_nextOrder_38 {Z : ZT} {X : XT} {μ : Mu} (E : Ent Z X mX12_nextOrder 0 0) {P : Option Value → Mu → Prop} (hB : BodS Z X P) 
    (k : P (some (.int (nI 0))) μ) :
    JS Z X 38 [] [] μ := by
  refine J_iconst (v := nI 0) E dX12_nextOrder_38 rfl ?_
  exact S_zret E hB dX12_nextOrder_39 rfl rfl k
theorem bX12_nextOrder_40 {Z : ZT} {X : XT} {μ : Mu} {a1 : Int32} (E : Ent Z X mX12_nextOrder 0 0)  
    (k : JS Z X 47 [(0, .ref (Z.2.2.1 + 455)), (1, .int a1), (2, .int ((μ 455 13) - (nI 1)))] [] μ) :
    JS Z X 40 [(0, .ref (Z.2.2.1 + 455)), (1, .int a1)] [] μ := by
  refine J_aload_n E dX12_nextOrder_40 rfl ?_
  refine S_get (ci := 12) (q := 13) (v := .int (μ 455 13)) E dX12_nextOrder_41 fs_X12_168 sh455 rfl ?_
  refine J_iconst (v := nI 1) E dX12_nextOrder_44 rfl ?_
  refine J_isub E dX12_nextOrder_45 ?_
  refine J_istore_n (lv' := [(0, .ref (Z.2.2.1 + 455)), (1, .int a1), (2, .int ((μ 455 13) - (nI 1)))]) E dX12_nextOrder_46 (Nat.le_of_ble_eq_true rfl) rfl ?_
  exact k
theorem bX12_nextOrder_47 {Z : ZT} {X : XT} {μ : Mu} {a1 : Int32} {a2 : Int32} (E : Ent Z X mX12_nextOrder 0 0)  (s1_ : vp_in a2 6) (s2_ : vp_in a1 6)
    (kt : (μ 462 (ix a1)) ≤ (μ 462 (ix a2)) → JS Z X 68 [(0, .ref (Z.2.2.1 + 455)), (1, .int a1), (2, .int a2)] [] μ) (kf : ¬ ((μ 462 (ix a1)) ≤ (μ 462 (ix a2))) → JS Z X 62 [(0, .ref (Z.2.2.1 + 455)), (1, .int a1), (2, .int a2)] [] μ) :
    JS Z X 47 [(0, .ref (Z.2.2.1 + 455)), (1, .int a1), (2, .int a2)] [] μ := by
  refine J_aload_n E dX12_nextOrder_47 rfl ?_
  refine S_get (ci := 12) (q := 14) (v := .ref (Z.2.2.1 + 462)) E dX12_nextOrder_48 fs_X12_30 sh455 rfl ?_
  refine J_iload_n E dX12_nextOrder_51 rfl ?_
  refine S_iald E dX12_nextOrder_52 sh462 s1_ ?_
  refine J_aload_n E dX12_nextOrder_53 rfl ?_
  refine S_get (ci := 12) (q := 14) (v := .ref (Z.2.2.1 + 462)) E dX12_nextOrder_54 fs_X12_30 sh455 rfl ?_
  refine J_iload_n E dX12_nextOrder_57 rfl ?_
  refine S_iald E dX12_nextOrder_58 sh462 s2_ ?_
  refine J_icmp_ge (tgt := 68) E dX12_nextOrder_59 (by decide) (fun c => ?_) (fun c => ?_)
  · exact kt c
  · exact kf c
theorem bX12_nextOrder_62 {Z : ZT} {X : XT} {μ : Mu} {a1 : Int32} {a2 : Int32} (E : Ent Z X mX12_nextOrder 0 0)  
    (k : JS Z X 47 [(0, .ref (Z.2.2.1 + 455)), (1, .int a1), (2, .int (a2 + (-1)))] [] μ) :
    JS Z X 62 [(0, .ref (Z.2.2.1 + 455)), (1, .int a1), (2, .int a2)] [] μ := by
  refine J_iinc (v := a2 + (-1)) (lv' := [(0, .ref (Z.2.2.1 + 455)), (1, .int a1), (2, .int (a2 + (-1)))]) E dX12_nextOrder_62 rfl rfl (Nat.le_of_ble_eq_true rfl) rfl ?_
  refine J_goto (tgt := 47) E dX12_nextOrder_65 (by decide) ?_
  exact k
theorem bX12_nextOrder_68 {Z : ZT} {X : XT} {μ : Mu} {a1 : Int32} {a2 : Int32} (E : Ent Z X mX12_nextOrder 0 0) {p : Mu → Prop} 
    (c : CtrS Z mX12_swap [.ref (Z.2.2.1 + 455), .int a1, .int a2] μ (rV p)) (k : ∀ μ1, p μ1 → JS Z X 74 [(0, .ref (Z.2.2.1 + 455)), (1, .int a1)] [] μ1) :
    JS Z X 68 [(0, .ref (Z.2.2.1 + 455)), (1, .int a1), (2, .int a2)] [] μ := by
  refine J_aload_n E dX12_nextOrder_68 rfl ?_
  refine J_iload_n E dX12_nextOrder_69 rfl ?_
  refine J_iload_n E dX12_nextOrder_70 rfl ?_
  refine S_callV (As := [.int a1, .int a2]) (rest := []) E dX12_nextOrder_71 c kX12_swap ⟨Nat.le_of_ble_eq_true rfl, Nat.le_of_ble_eq_true rfl⟩ rfl (Nat.le_of_ble_eq_true rfl) sh455 rfl rfl w7_104 w7_106 wp_77 (fun r_ μ1 hp_ => ?_)
  obtain ⟨rfl, hp_⟩ := hp_
  refine J.weak [0, 1] rfl ?_
  exact k μ1 hp_
theorem bX12_nextOrder_74 {Z : ZT} {X : XT} {μ : Mu} {a1 : Int32} (E : Ent Z X mX12_nextOrder 0 0)  
    (k : JS Z X 86 [(0, .ref (Z.2.2.1 + 455)), (3, .int (a1 + (nI 1))), (4, .int ((μ 455 13) - (nI 1)))] [] μ) :
    JS Z X 74 [(0, .ref (Z.2.2.1 + 455)), (1, .int a1)] [] μ := by
  refine J_iload_n E dX12_nextOrder_74 rfl ?_
  refine J_iconst (v := nI 1) E dX12_nextOrder_75 rfl ?_
  refine J_iadd E dX12_nextOrder_76 ?_
  refine J_istore_n (lv' := [(0, .ref (Z.2.2.1 + 455)), (1, .int a1), (3, .int (a1 + (nI 1)))]) E dX12_nextOrder_77 (Nat.le_of_ble_eq_true rfl) rfl ?_
  refine J_aload_n E dX12_nextOrder_78 rfl ?_
  refine S_get (ci := 12) (q := 13) (v := .int (μ 455 13)) E dX12_nextOrder_79 fs_X12_168 sh455 rfl ?_
  refine J_iconst (v := nI 1) E dX12_nextOrder_82 rfl ?_
  refine J_isub E dX12_nextOrder_83 ?_
  refine J_istore (lv' := [(0, .ref (Z.2.2.1 + 455)), (1, .int a1), (3, .int (a1 + (nI 1))), (4, .int ((μ 455 13) - (nI 1)))]) E dX12_nextOrder_84 (Nat.le_of_ble_eq_true rfl) rfl ?_
  refine J.weak [0, 2, 3] rfl ?_
  exact k
theorem bX12_nextOrder_86 {Z : ZT} {X : XT} {μ : Mu} {a3 : Int32} {a4 : Int32} (E : Ent Z X mX12_nextOrder 0 0)  
    (kt : a4 ≤ a3 → JS Z X 108 [] [] μ) (kf : ¬ (a4 ≤ a3) → JS Z X 92 [(0, .ref (Z.2.2.1 + 455)), (3, .int a3), (4, .int a4)] [] μ) :
    JS Z X 86 [(0, .ref (Z.2.2.1 + 455)), (3, .int a3), (4, .int a4)] [] μ := by
  refine J_iload_n E dX12_nextOrder_86 rfl ?_
  refine J_iload E dX12_nextOrder_87 rfl ?_
  refine J_icmp_ge (tgt := 108) E dX12_nextOrder_89 (by decide) (fun c => ?_) (fun c => ?_)
  · refine J.weak [] rfl ?_
    exact kt c
  · exact kf c
theorem bX12_nextOrder_92 {Z : ZT} {X : XT} {μ : Mu} {a3 : Int32} {a4 : Int32} (E : Ent Z X mX12_nextOrder 0 0) {p : Mu → Prop} 
    (c : CtrS Z mX12_swap [.ref (Z.2.2.1 + 455), .int a3, .int a4] μ (rV p)) (k : ∀ μ1, p μ1 → JS Z X 99 [(0, .ref (Z.2.2.1 + 455)), (3, .int a3), (4, .int a4)] [] μ1) :
    JS Z X 92 [(0, .ref (Z.2.2.1 + 455)), (3, .int a3), (4, .int a4)] [] μ := by
  refine J_aload_n E dX12_nextOrder_92 rfl ?_
  refine J_iload_n E dX12_nextOrder_93 rfl ?_
  refine J_iload E dX12_nextOrder_94 rfl ?_
  refine S_callV (As := [.int a3, .int a4]) (rest := []) E dX12_nextOrder_96 c kX12_swap ⟨Nat.le_of_ble_eq_true rfl, Nat.le_of_ble_eq_true rfl⟩ rfl (Nat.le_of_ble_eq_true rfl) sh455 rfl rfl w7_104 w7_106 wp_77 (fun r_ μ1 hp_ => ?_)
  obtain ⟨rfl, hp_⟩ := hp_
  exact k μ1 hp_
theorem bX12_nextOrder_99 {Z : ZT} {X : XT} {μ : Mu} {a3 : Int32} {a4 : Int32} (E : Ent Z X mX12_nextOrder 0 0)  
    (k : JS Z X 86 [(0, .ref (Z.2.2.1 + 455)), (3, .int (a3 + nI 1)), (4, .int (a4 + (-1)))] [] μ) :
    JS Z X 99 [(0, .ref (Z.2.2.1 + 455)), (3, .int a3), (4, .int a4)] [] μ := by
  refine J_iinc (v := a3 + nI 1) (lv' := [(0, .ref (Z.2.2.1 + 455)), (3, .int (a3 + nI 1)), (4, .int a4)]) E dX12_nextOrder_99 rfl rfl (Nat.le_of_ble_eq_true rfl) rfl ?_
  refine J_iinc (v := a4 + (-1)) (lv' := [(0, .ref (Z.2.2.1 + 455)), (3, .int (a3 + nI 1)), (4, .int (a4 + (-1)))]) E dX12_nextOrder_102 rfl rfl (Nat.le_of_ble_eq_true rfl) rfl ?_
  refine J_goto (tgt := 86) E dX12_nextOrder_105 (by decide) ?_
  exact k
theorem bX12_nextOrder_108 {Z : ZT} {X : XT} {μ : Mu} (E : Ent Z X mX12_nextOrder 0 0) {P : Option Value → Mu → Prop} (hB : BodS Z X P) 
    (k : P (some (.int (nI 1))) μ) :
    JS Z X 108 [] [] μ := by
  refine J_iconst (v := nI 1) E dX12_nextOrder_108 rfl ?_
  exact S_zret E hB dX12_nextOrder_109 rfl rfl k
theorem dX12_swap_0 : decode cX12_swap 0 = .ok (.aload_n 0, 1) := by decide +kernel
theorem dX12_swap_1 : decode cX12_swap 1 = .ok (.getfield 30, 3) := by decide +kernel
theorem dX12_swap_4 : decode cX12_swap 4 = .ok (.iload_n 1, 1) := by decide +kernel
theorem dX12_swap_5 : decode cX12_swap 5 = .ok (.iaload, 1) := by decide +kernel
theorem dX12_swap_6 : decode cX12_swap 6 = .ok (.istore_n 3, 1) := by decide +kernel
theorem dX12_swap_7 : decode cX12_swap 7 = .ok (.aload_n 0, 1) := by decide +kernel
theorem dX12_swap_8 : decode cX12_swap 8 = .ok (.getfield 30, 3) := by decide +kernel
theorem dX12_swap_11 : decode cX12_swap 11 = .ok (.iload_n 1, 1) := by decide +kernel
theorem dX12_swap_12 : decode cX12_swap 12 = .ok (.aload_n 0, 1) := by decide +kernel
theorem dX12_swap_13 : decode cX12_swap 13 = .ok (.getfield 30, 3) := by decide +kernel
theorem dX12_swap_16 : decode cX12_swap 16 = .ok (.iload_n 2, 1) := by decide +kernel
theorem dX12_swap_17 : decode cX12_swap 17 = .ok (.iaload, 1) := by decide +kernel
theorem dX12_swap_18 : decode cX12_swap 18 = .ok (.iastore, 1) := by decide +kernel
theorem dX12_swap_19 : decode cX12_swap 19 = .ok (.aload_n 0, 1) := by decide +kernel
theorem dX12_swap_20 : decode cX12_swap 20 = .ok (.getfield 30, 3) := by decide +kernel
theorem dX12_swap_23 : decode cX12_swap 23 = .ok (.iload_n 2, 1) := by decide +kernel
theorem dX12_swap_24 : decode cX12_swap 24 = .ok (.iload_n 3, 1) := by decide +kernel
theorem dX12_swap_25 : decode cX12_swap 25 = .ok (.iastore, 1) := by decide +kernel
theorem dX12_swap_26 : decode cX12_swap 26 = .ok (.return_, 1) := by decide +kernel
theorem bX12_swap_0 {Z : ZT} {X : XT} {μ : Mu} {a1 : Int32} {a2 : Int32} (E : Ent Z X mX12_swap 0 0)  (s1_ : vp_in a1 6) (s2_ : vp_in a2 6) (s3_ : vp_in a1 6)
    (k : JS Z X 19 [(0, .ref (Z.2.2.1 + 455)), (2, .int a2), (3, .int (μ 462 (ix a1)))] [] (uR μ 462 (upd (μ 462) (ix a1) (μ 462 (ix a2))))) :
    JS Z X 0 [(0, .ref (Z.2.2.1 + 455)), (1, .int a1), (2, .int a2)] [] μ := by
  refine J_aload_n E dX12_swap_0 rfl ?_
  refine S_get (ci := 12) (q := 14) (v := .ref (Z.2.2.1 + 462)) E dX12_swap_1 fs_X12_30 sh455 rfl ?_
  refine J_iload_n E dX12_swap_4 rfl ?_
  refine S_iald E dX12_swap_5 sh462 s1_ ?_
  refine J_istore_n (lv' := [(0, .ref (Z.2.2.1 + 455)), (1, .int a1), (2, .int a2), (3, .int (μ 462 (ix a1)))]) E dX12_swap_6 (Nat.le_of_ble_eq_true rfl) rfl ?_
  refine J_aload_n E dX12_swap_7 rfl ?_
  refine S_get (ci := 12) (q := 14) (v := .ref (Z.2.2.1 + 462)) E dX12_swap_8 fs_X12_30 sh455 rfl ?_
  refine J_iload_n E dX12_swap_11 rfl ?_
  refine J_aload_n E dX12_swap_12 rfl ?_
  refine S_get (ci := 12) (q := 14) (v := .ref (Z.2.2.1 + 462)) E dX12_swap_13 fs_X12_30 sh455 rfl ?_
  refine J_iload_n E dX12_swap_16 rfl ?_
  refine S_iald E dX12_swap_17 sh462 s2_ ?_
  refine S_iast E dX12_swap_18 sh462 s3_ ?_
  refine J.weak [0, 2, 3] rfl ?_
  exact k
theorem bX12_swap_19 {Z : ZT} {X : XT} {μ : Mu} {a2 : Int32} {a3 : Int32} (E : Ent Z X mX12_swap 0 0)  (s1_ : vp_in a2 6)
    (k : JS Z X 26 [] [] (uR μ 462 (upd (μ 462) (ix a2) a3))) :
    JS Z X 19 [(0, .ref (Z.2.2.1 + 455)), (2, .int a2), (3, .int a3)] [] μ := by
  refine J_aload_n E dX12_swap_19 rfl ?_
  refine S_get (ci := 12) (q := 14) (v := .ref (Z.2.2.1 + 462)) E dX12_swap_20 fs_X12_30 sh455 rfl ?_
  refine J_iload_n E dX12_swap_23 rfl ?_
  refine J_iload_n E dX12_swap_24 rfl ?_
  refine S_iast E dX12_swap_25 sh462 s1_ ?_
  refine J.weak [] rfl ?_
  exact k
theorem bX12_swap_26 {Z : ZT} {X : XT} {μ : Mu} (E : Ent Z X mX12_swap 0 0) {P : Option Value → Mu → Prop} (hB : BodS Z X P) 
    (k : P none μ) :
    JS Z X 26 [] [] μ := by
  exact S_vret E hB dX12_swap_26 rfl k
theorem dX12_keepOrder_0 : decode cX12_keepOrder 0 = .ok (.iconst 0, 1) := by decide +kernel
theorem dX12_keepOrder_1 : decode cX12_keepOrder 1 = .ok (.istore_n 1, 1) := by decide +kernel
theorem dX12_keepOrder_2 : decode cX12_keepOrder 2 = .ok (.iload_n 1, 1) := by decide +kernel
theorem dX12_keepOrder_3 : decode cX12_keepOrder 3 = .ok (.aload_n 0, 1) := by decide +kernel
theorem dX12_keepOrder_4 : decode cX12_keepOrder 4 = .ok (.getfield 168, 3) := by decide +kernel
theorem dX12_keepOrder_7 : decode cX12_keepOrder 7 = .ok (.if_icmp .ge 21, 3) := by decide +kernel
theorem dX12_keepOrder_10 : decode cX12_keepOrder 10 = .ok (.aload_n 0, 1) := by decide +kernel
theorem dX12_keepOrder_11 : decode cX12_keepOrder 11 = .ok (.getfield 42, 3) := by decide +kernel
theorem dX12_keepOrder_14 : decode cX12_keepOrder 14 = .ok (.iload_n 1, 1) := by decide +kernel
theorem dX12_keepOrder_15 : decode cX12_keepOrder 15 = .ok (.aload_n 0, 1) := by decide +kernel
theorem dX12_keepOrder_16 : decode cX12_keepOrder 16 = .ok (.getfield 30, 3) := by decide +kernel
theorem dX12_keepOrder_19 : decode cX12_keepOrder 19 = .ok (.iload_n 1, 1) := by decide +kernel
theorem dX12_keepOrder_20 : decode cX12_keepOrder 20 = .ok (.iaload, 1) := by decide +kernel
theorem dX12_keepOrder_21 : decode cX12_keepOrder 21 = .ok (.iastore, 1) := by decide +kernel
theorem dX12_keepOrder_22 : decode cX12_keepOrder 22 = .ok (.iinc 1 1, 3) := by decide +kernel
theorem dX12_keepOrder_25 : decode cX12_keepOrder 25 = .ok (.goto (-23), 3) := by decide +kernel
theorem dX12_keepOrder_28 : decode cX12_keepOrder 28 = .ok (.return_, 1) := by decide +kernel
theorem bX12_keepOrder_0 {Z : ZT} {X : XT} {μ : Mu} (E : Ent Z X mX12_keepOrder 0 0)  
    (k : JS Z X 2 [(0, .ref (Z.2.2.1 + 455)), (1, .int (nI 0))] [] μ) :
    JS Z X 0 [(0, .ref (Z.2.2.1 + 455))] [] μ := by
  refine J_iconst (v := nI 0) E dX12_keepOrder_0 rfl ?_
  refine J_istore_n (lv' := [(0, .ref (Z.2.2.1 + 455)), (1, .int (nI 0))]) E dX12_keepOrder_1 (Nat.le_of_ble_eq_true rfl) rfl ?_
  exact k
theorem bX12_keepOrder_2 {Z : ZT} {X : XT} {μ : Mu} {a1 : Int32} (E : Ent Z X mX12_keepOrder 0 0)  
    (kt : (μ 455 13) ≤ a1 → JS Z X 28 [] [] μ) (kf : ¬ ((μ 455 13) ≤ a1) → JS Z X 10 [(0, .ref (Z.2.2.1 + 455)), (1, .int a1)] [] μ) :
    JS Z X 2 [(0, .ref (Z.2.2.1 + 455)), (1, .int a1)] [] μ := by
  refine J_iload_n E dX12_keepOrder_2 rfl ?_
  refine J_aload_n E dX12_keepOrder_3 rfl ?_
  refine S_get (ci := 12) (q := 13) (v := .int (μ 455 13)) E dX12_keepOrder_4 fs_X12_168 sh455 rfl ?_
  refine J_icmp_ge (tgt := 28) E dX12_keepOrder_7 (by decide) (fun c => ?_) (fun c => ?_)
  · refine J.weak [] rfl ?_
    exact kt c
  · exact kf c
theorem bX12_keepOrder_10 {Z : ZT} {X : XT} {μ : Mu} {a1 : Int32} (E : Ent Z X mX12_keepOrder 0 0)  (s1_ : vp_in a1 6) (s2_ : vp_in a1 6)
    (k : JS Z X 22 [(0, .ref (Z.2.2.1 + 455)), (1, .int a1)] [] (uR μ 466 (upd (μ 466) (ix a1) (μ 462 (ix a1))))) :
    JS Z X 10 [(0, .ref (Z.2.2.1 + 455)), (1, .int a1)] [] μ := by
  refine J_aload_n E dX12_keepOrder_10 rfl ?_
  refine S_get (ci := 12) (q := 20) (v := .ref (Z.2.2.1 + 466)) E dX12_keepOrder_11 fs_X12_42 sh455 rfl ?_
  refine J_iload_n E dX12_keepOrder_14 rfl ?_
  refine J_aload_n E dX12_keepOrder_15 rfl ?_
  refine S_get (ci := 12) (q := 14) (v := .ref (Z.2.2.1 + 462)) E dX12_keepOrder_16 fs_X12_30 sh455 rfl ?_
  refine J_iload_n E dX12_keepOrder_19 rfl ?_
  refine S_iald E dX12_keepOrder_20 sh462 s1_ ?_
  refine S_iast E dX12_keepOrder_21 sh466 s2_ ?_
  exact k
theorem bX12_keepOrder_22 {Z : ZT} {X : XT} {μ : Mu} {a1 : Int32} (E : Ent Z X mX12_keepOrder 0 0)  
    (k : JS Z X 2 [(0, .ref (Z.2.2.1 + 455)), (1, .int (a1 + nI 1))] [] μ) :
    JS Z X 22 [(0, .ref (Z.2.2.1 + 455)), (1, .int a1)] [] μ := by
  refine J_iinc (v := a1 + nI 1) (lv' := [(0, .ref (Z.2.2.1 + 455)), (1, .int (a1 + nI 1))]) E dX12_keepOrder_22 rfl rfl (Nat.le_of_ble_eq_true rfl) rfl ?_
  refine J_goto (tgt := 2) E dX12_keepOrder_25 (by decide) ?_
  exact k
theorem bX12_keepOrder_28 {Z : ZT} {X : XT} {μ : Mu} (E : Ent Z X mX12_keepOrder 0 0) {P : Option Value → Mu → Prop} (hB : BodS Z X P) 
    (k : P none μ) :
    JS Z X 28 [] [] μ := by
  exact S_vret E hB dX12_keepOrder_28 rfl k
theorem dX12_order_0 : decode cX12_order 0 = .ok (.iload_n 1, 1) := by decide +kernel
theorem dX12_order_1 : decode cX12_order 1 = .ok (.invokestatic 85, 3) := by decide +kernel
theorem dX12_order_4 : decode cX12_order 4 = .ok (.ifCond .eq 12, 3) := by decide +kernel
theorem dX12_order_7 : decode cX12_order 7 = .ok (.iload_n 2, 1) := by decide +kernel
theorem dX12_order_8 : decode cX12_order 8 = .ok (.iconst 0, 1) := by decide +kernel
theorem dX12_order_9 : decode cX12_order 9 = .ok (.iconst 5, 1) := by decide +kernel
theorem dX12_order_10 : decode cX12_order 10 = .ok (.invokestatic 67, 3) := by decide +kernel
theorem dX12_order_13 : decode cX12_order 13 = .ok (.ifCond .ne 10, 3) := by decide +kernel
theorem dX12_order_16 : decode cX12_order 16 = .ok (.aload_n 0, 1) := by decide +kernel
theorem dX12_order_17 : decode cX12_order 17 = .ok (.bipush (-2), 2) := by decide +kernel
theorem dX12_order_19 : decode cX12_order 19 = .ok (.invokevirtual 63, 3) := by decide +kernel
theorem dX12_order_22 : decode cX12_order 22 = .ok (.ireturn, 1) := by decide +kernel
theorem dX12_order_23 : decode cX12_order 23 = .ok (.aload_n 0, 1) := by decide +kernel
theorem dX12_order_24 : decode cX12_order 24 = .ok (.invokevirtual 158, 3) := by decide +kernel
theorem dX12_order_27 : decode cX12_order 27 = .ok (.aload_n 0, 1) := by decide +kernel
theorem dX12_order_28 : decode cX12_order 28 = .ok (.iload_n 1, 1) := by decide +kernel
theorem dX12_order_29 : decode cX12_order 29 = .ok (.invokevirtual 181, 3) := by decide +kernel
theorem dX12_order_32 : decode cX12_order 32 = .ok (.aload_n 0, 1) := by decide +kernel
theorem dX12_order_33 : decode cX12_order 33 = .ok (.invokevirtual 262, 3) := by decide +kernel
theorem dX12_order_36 : decode cX12_order 36 = .ok (.iconst 0, 1) := by decide +kernel
theorem dX12_order_37 : decode cX12_order 37 = .ok (.istore_n 3, 1) := by decide +kernel
theorem dX12_order_38 : decode cX12_order 38 = .ok (.aload_n 0, 1) := by decide +kernel
theorem dX12_order_39 : decode cX12_order 39 = .ok (.invokevirtual 171, 3) := by decide +kernel
theorem dX12_order_42 : decode cX12_order 42 = .ok (.ifCond .eq 14, 3) := by decide +kernel
theorem dX12_order_45 : decode cX12_order 45 = .ok (.aload_n 0, 1) := by decide +kernel
theorem dX12_order_46 : decode cX12_order 46 = .ok (.getfield 168, 3) := by decide +kernel
theorem dX12_order_49 : decode cX12_order 49 = .ok (.ifCond .le 7, 3) := by decide +kernel
theorem dX12_order_52 : decode cX12_order 52 = .ok (.iconst 1, 1) := by decide +kernel
theorem dX12_order_53 : decode cX12_order 53 = .ok (.goto 4, 3) := by decide +kernel
theorem dX12_order_56 : decode cX12_order 56 = .ok (.iconst 0, 1) := by decide +kernel
theorem dX12_order_57 : decode cX12_order 57 = .ok (.istore 4, 2) := by decide +kernel
theorem dX12_order_59 : decode cX12_order 59 = .ok (.iload 4, 2) := by decide +kernel
theorem dX12_order_61 : decode cX12_order 61 = .ok (.ifCond .eq 65, 3) := by decide +kernel
theorem dX12_order_64 : decode cX12_order 64 = .ok (.aload_n 0, 1) := by decide +kernel
theorem dX12_order_65 : decode cX12_order 65 = .ok (.invokevirtual 185, 3) := by decide +kernel
theorem dX12_order_68 : decode cX12_order 68 = .ok (.ifCond .eq 49, 3) := by decide +kernel
theorem dX12_order_71 : decode cX12_order 71 = .ok (.aload_n 0, 1) := by decide +kernel
theorem dX12_order_72 : decode cX12_order 72 = .ok (.iconst 4, 1) := by decide +kernel
theorem dX12_order_73 : decode cX12_order 73 = .ok (.iload_n 1, 1) := by decide +kernel
theorem dX12_order_74 : decode cX12_order 74 = .ok (.invokevirtual 244, 3) := by decide +kernel
theorem dX12_order_77 : decode cX12_order 77 = .ok (.aload_n 0, 1) := by decide +kernel
theorem dX12_order_78 : decode cX12_order 78 = .ok (.iconst 5, 1) := by decide +kernel
theorem dX12_order_79 : decode cX12_order 79 = .ok (.iconst 4, 1) := by decide +kernel
theorem dX12_order_80 : decode cX12_order 80 = .ok (.invokevirtual 265, 3) := by decide +kernel
theorem dX12_order_83 : decode cX12_order 83 = .ok (.iload_n 3, 1) := by decide +kernel
theorem dX12_order_84 : decode cX12_order 84 = .ok (.ifCond .eq 13, 3) := by decide +kernel
theorem dX12_order_87 : decode cX12_order 87 = .ok (.aload_n 0, 1) := by decide +kernel
theorem dX12_order_88 : decode cX12_order 88 = .ok (.iconst 5, 1) := by decide +kernel
theorem dX12_order_89 : decode cX12_order 89 = .ok (.bipush 8, 2) := by decide +kernel
theorem dX12_order_91 : decode cX12_order 91 = .ok (.invokevirtual 229, 3) := by decide +kernel
theorem dX12_order_94 : decode cX12_order 94 = .ok (.ifCond .ge 23, 3) := by decide +kernel
theorem dX12_order_97 : decode cX12_order 97 = .ok (.aload_n 0, 1) := by decide +kernel
theorem dX12_order_98 : decode cX12_order 98 = .ok (.iconst 5, 1) := by decide +kernel
theorem dX12_order_99 : decode cX12_order 99 = .ok (.bipush 8, 2) := by decide +kernel
theorem dX12_order_101 : decode cX12_order 101 = .ok (.invokevirtual 198, 3) := by decide +kernel
theorem dX12_order_104 : decode cX12_order 104 = .ok (.aload_n 0, 1) := by decide +kernel
theorem dX12_order_105 : decode cX12_order 105 = .ok (.iconst 4, 1) := by decide +kernel
theorem dX12_order_106 : decode cX12_order 106 = .ok (.bipush 9, 2) := by decide +kernel
theorem dX12_order_108 : decode cX12_order 108 = .ok (.invokevirtual 198, 3) := by decide +kernel
theorem dX12_order_111 : decode cX12_order 111 = .ok (.aload_n 0, 1) := by decide +kernel
theorem dX12_order_112 : decode cX12_order 112 = .ok (.invokevirtual 268, 3) := by decide +kernel
theorem dX12_order_115 : decode cX12_order 115 = .ok (.iconst 1, 1) := by decide +kernel
theorem dX12_order_116 : decode cX12_order 116 = .ok (.istore_n 3, 1) := by decide +kernel
theorem dX12_order_117 : decode cX12_order 117 = .ok (.aload_n 0, 1) := by decide +kernel
theorem dX12_order_118 : decode cX12_order 118 = .ok (.invokevirtual 271, 3) := by decide +kernel
theorem dX12_order_121 : decode cX12_order 121 = .ok (.istore 4, 2) := by decide +kernel
theorem dX12_order_123 : decode cX12_order 123 = .ok (.goto (-64), 3) := by decide +kernel
theorem dX12_order_126 : decode cX12_order 126 = .ok (.iload_n 3, 1) := by decide +kernel
theorem dX12_order_127 : decode cX12_order 127 = .ok (.ifCond .ne 10, 3) := by decide +kernel
theorem dX12_order_130 : decode cX12_order 130 = .ok (.aload_n 0, 1) := by decide +kernel
theorem dX12_order_131 : decode cX12_order 131 = .ok (.bipush (-3), 2) := by decide +kernel
theorem dX12_order_133 : decode cX12_order 133 = .ok (.invokevirtual 63, 3) := by decide +kernel
theorem dX12_order_136 : decode cX12_order 136 = .ok (.ireturn, 1) := by decide +kernel
theorem dX12_order_137 : decode cX12_order 137 = .ok (.aload_n 0, 1) := by decide +kernel
theorem dX12_order_138 : decode cX12_order 138 = .ok (.bipush 9, 2) := by decide +kernel
theorem dX12_order_140 : decode cX12_order 140 = .ok (.bipush 30, 2) := by decide +kernel
theorem dX12_order_142 : decode cX12_order 142 = .ok (.invokevirtual 238, 3) := by decide +kernel
theorem dX12_order_145 : decode cX12_order 145 = .ok (.iload_n 2, 1) := by decide +kernel
theorem dX12_order_146 : decode cX12_order 146 = .ok (.aload_n 0, 1) := by decide +kernel
theorem dX12_order_147 : decode cX12_order 147 = .ok (.getfield 168, 3) := by decide +kernel
theorem dX12_order_150 : decode cX12_order 150 = .ok (.if_icmp .ge 12, 3) := by decide +kernel
theorem dX12_order_153 : decode cX12_order 153 = .ok (.aload_n 0, 1) := by decide +kernel
theorem dX12_order_154 : decode cX12_order 154 = .ok (.getfield 42, 3) := by decide +kernel
theorem dX12_order_157 : decode cX12_order 157 = .ok (.iload_n 2, 1) := by decide +kernel
theorem dX12_order_158 : decode cX12_order 158 = .ok (.iaload, 1) := by decide +kernel
theorem dX12_order_159 : decode cX12_order 159 = .ok (.goto 5, 3) := by decide +kernel
theorem dX12_order_162 : decode cX12_order 162 = .ok (.bipush (-5), 2) := by decide +kernel
theorem dX12_order_164 : decode cX12_order 164 = .ok (.ireturn, 1) := by decide +kernel
theorem bX12_order_0 {Z : ZT} {X : XT} {μ : Mu} {a1 : Int32} {a2 : Int32} (E : Ent Z X mX12_order 0 0) {p : Int32 → Mu → Prop} 
    (c : CtrS Z mX12_isLot [.int a1] μ (rI p)) (k : ∀ v μ1, p v μ1 → JS Z X 4 [(0, .ref (Z.2.2.1 + 455)), (1, .int a1), (2, .int a2)] [.int v] μ1) :
    JS Z X 0 [(0, .ref (Z.2.2.1 + 455)), (1, .int a1), (2, .int a2)] [] μ := by
  refine J_iload_n E dX12_order_0 rfl ?_
  refine S_callS (As := [.int a1]) (rest := []) E dX12_order_1 c kX12_isLot ⟨Nat.le_of_ble_eq_true rfl, Nat.le_of_ble_eq_true rfl⟩ rfl (Nat.le_of_ble_eq_true rfl) w6_138 w6_139 (fun r_ μ1 hp_ => ?_)
  obtain ⟨v, rfl, hp_⟩ := hp_
  exact k v μ1 hp_
theorem bX12_order_4 {Z : ZT} {X : XT} {μ : Mu} {a1 : Int32} {a2 : Int32} {s0 : Int32} (E : Ent Z X mX12_order 0 0)  
    (kt : s0 = 0 → JS Z X 16 [(0, .ref (Z.2.2.1 + 455))] [] μ) (kf : ¬ (s0 = 0) → JS Z X 7 [(0, .ref (Z.2.2.1 + 455)), (1, .int a1), (2, .int a2)] [] μ) :
    JS Z X 4 [(0, .ref (Z.2.2.1 + 455)), (1, .int a1), (2, .int a2)] [.int s0] μ := by
  refine J_if_eq (tgt := 16) E dX12_order_4 (by decide) (fun c => ?_) (fun c => ?_)
  · refine J.weak [0] rfl ?_
    exact kt c
  · exact kf c
theorem bX12_order_7 {Z : ZT} {X : XT} {μ : Mu} {a1 : Int32} {a2 : Int32} (E : Ent Z X mX12_order 0 0) {p : Int32 → Mu → Prop} 
    (c : CtrS Z mX12_in [.int a2, .int (nI 0), .int (nI 5)] μ (rI p)) (k : ∀ v μ1, p v μ1 → JS Z X 13 [(0, .ref (Z.2.2.1 + 455)), (1, .int a1), (2, .int a2)] [.int v] μ1) :
    JS Z X 7 [(0, .ref (Z.2.2.1 + 455)), (1, .int a1), (2, .int a2)] [] μ := by
  refine J_iload_n E dX12_order_7 rfl ?_
  refine J_iconst (v := nI 0) E dX12_order_8 rfl ?_
  refine J_iconst (v := nI 5) E dX12_order_9 rfl ?_
  refine S_callS (As := [.int a2, .int (nI 0), .int (nI 5)]) (rest := []) E dX12_order_10 c kX12_in ⟨Nat.le_of_ble_eq_true rfl, Nat.le_of_ble_eq_true rfl⟩ rfl (Nat.le_of_ble_eq_true rfl) w6_67 w6_68 (fun r_ μ1 hp_ => ?_)
  obtain ⟨v, rfl, hp_⟩ := hp_
  exact k v μ1 hp_
theorem bX12_order_13 {Z : ZT} {X : XT} {μ : Mu} {a1 : Int32} {a2 : Int32} {s0 : Int32} (E : Ent Z X mX12_order 0 0)  
    (kt : ¬ s0 = 0 → JS Z X 23 [(0, .ref (Z.2.2.1 + 455)), (1, .int a1), (2, .int a2)] [] μ) (kf : s0 = 0 → JS Z X 16 [(0, .ref (Z.2.2.1 + 455))] [] μ) :
    JS Z X 13 [(0, .ref (Z.2.2.1 + 455)), (1, .int a1), (2, .int a2)] [.int s0] μ := by
  refine J_if_ne (tgt := 23) E dX12_order_13 (by decide) (fun c => ?_) (fun c => ?_)
  · exact kt c
  · refine J.weak [0] rfl ?_
    exact kf c
theorem bX12_order_16 {Z : ZT} {X : XT} {μ : Mu} (E : Ent Z X mX12_order 0 0) {p : Int32 → Mu → Prop} 
    (c : CtrS Z mX12_refuse [.ref (Z.2.2.1 + 455), .int (-2)] μ (rI p)) (k : ∀ v μ1, p v μ1 → JS Z X 22 [] [.int v] μ1) :
    JS Z X 16 [(0, .ref (Z.2.2.1 + 455))] [] μ := by
  refine J_aload_n E dX12_order_16 rfl ?_
  refine J_bipush (v := -2) E dX12_order_17 rfl ?_
  refine S_callV (As := [.int (-2)]) (rest := []) E dX12_order_19 c kX12_refuse ⟨Nat.le_of_ble_eq_true rfl, Nat.le_of_ble_eq_true rfl⟩ rfl (Nat.le_of_ble_eq_true rfl) sh455 rfl rfl w6_51 w6_53 wp_30 (fun r_ μ1 hp_ => ?_)
  obtain ⟨v, rfl, hp_⟩ := hp_
  refine J.weak [] rfl ?_
  exact k v μ1 hp_
theorem bX12_order_22 {Z : ZT} {X : XT} {μ : Mu} {s0 : Int32} (E : Ent Z X mX12_order 0 0) {P : Option Value → Mu → Prop} (hB : BodS Z X P) 
    (k : P (some (.int s0)) μ) :
    JS Z X 22 [] [.int s0] μ := by
  exact S_iret E hB dX12_order_22 rfl k
theorem bX12_order_23 {Z : ZT} {X : XT} {μ : Mu} {a1 : Int32} {a2 : Int32} (E : Ent Z X mX12_order 0 0) {p : Mu → Prop} 
    (c : CtrS Z mX12_findWalks [.ref (Z.2.2.1 + 455)] μ (rV p)) (k : ∀ μ1, p μ1 → JS Z X 27 [(0, .ref (Z.2.2.1 + 455)), (1, .int a1), (2, .int a2)] [] μ1) :
    JS Z X 23 [(0, .ref (Z.2.2.1 + 455)), (1, .int a1), (2, .int a2)] [] μ := by
  refine J_aload_n E dX12_order_23 rfl ?_
  refine S_callV (As := []) (rest := []) E dX12_order_24 c kX12_findWalks ⟨Nat.le_of_ble_eq_true rfl, Nat.le_of_ble_eq_true rfl⟩ rfl (Nat.le_of_ble_eq_true rfl) sh455 rfl rfl w6_188 w6_190 wp_46 (fun r_ μ1 hp_ => ?_)
  obtain ⟨rfl, hp_⟩ := hp_
  exact k μ1 hp_
theorem bX12_order_27 {Z : ZT} {X : XT} {μ : Mu} {a1 : Int32} {a2 : Int32} (E : Ent Z X mX12_order 0 0) {p : Mu → Prop} 
    (c : CtrS Z mX12_takeRow [.ref (Z.2.2.1 + 455), .int a1] μ (rV p)) (k : ∀ μ1, p μ1 → JS Z X 32 [(0, .ref (Z.2.2.1 + 455)), (1, .int a1), (2, .int a2)] [] μ1) :
    JS Z X 27 [(0, .ref (Z.2.2.1 + 455)), (1, .int a1), (2, .int a2)] [] μ := by
  refine J_aload_n E dX12_order_27 rfl ?_
  refine J_iload_n E dX12_order_28 rfl ?_
  refine S_callV (As := [.int a1]) (rest := []) E dX12_order_29 c kX12_takeRow ⟨Nat.le_of_ble_eq_true rfl, Nat.le_of_ble_eq_true rfl⟩ rfl (Nat.le_of_ble_eq_true rfl) sh455 rfl rfl w6_201 w6_203 wp_48 (fun r_ μ1 hp_ => ?_)
  obtain ⟨rfl, hp_⟩ := hp_
  exact k μ1 hp_
theorem bX12_order_32 {Z : ZT} {X : XT} {μ : Mu} {a1 : Int32} {a2 : Int32} (E : Ent Z X mX12_order 0 0) {p : Mu → Prop} 
    (c : CtrS Z mX12_sortOrder [.ref (Z.2.2.1 + 455)] μ (rV p)) (k : ∀ μ1, p μ1 → JS Z X 36 [(0, .ref (Z.2.2.1 + 455)), (1, .int a1), (2, .int a2)] [] μ1) :
    JS Z X 32 [(0, .ref (Z.2.2.1 + 455)), (1, .int a1), (2, .int a2)] [] μ := by
  refine J_aload_n E dX12_order_32 rfl ?_
  refine S_callV (As := []) (rest := []) E dX12_order_33 c kX12_sortOrder ⟨Nat.le_of_ble_eq_true rfl, Nat.le_of_ble_eq_true rfl⟩ rfl (Nat.le_of_ble_eq_true rfl) sh455 rfl rfl w7_88 w7_90 wp_73 (fun r_ μ1 hp_ => ?_)
  obtain ⟨rfl, hp_⟩ := hp_
  exact k μ1 hp_
theorem bX12_order_36 {Z : ZT} {X : XT} {μ : Mu} {a1 : Int32} {a2 : Int32} (E : Ent Z X mX12_order 0 0) {p : Int32 → Mu → Prop} 
    (c : CtrS Z mX12_isSet [.ref (Z.2.2.1 + 455)] μ (rI p)) (k : ∀ v μ1, p v μ1 → JS Z X 42 [(0, .ref (Z.2.2.1 + 455)), (1, .int a1), (2, .int a2), (3, .int (nI 0))] [.int v] μ1) :
    JS Z X 36 [(0, .ref (Z.2.2.1 + 455)), (1, .int a1), (2, .int a2)] [] μ := by
  refine J_iconst (v := nI 0) E dX12_order_36 rfl ?_
  refine J_istore_n (lv' := [(0, .ref (Z.2.2.1 + 455)), (1, .int a1), (2, .int a2), (3, .int (nI 0))]) E dX12_order_37 (Nat.le_of_ble_eq_true rfl) rfl ?_
  refine J_aload_n E dX12_order_38 rfl ?_
  refine S_callV (As := []) (rest := []) E dX12_order_39 c kX12_isSet ⟨Nat.le_of_ble_eq_true rfl, Nat.le_of_ble_eq_true rfl⟩ rfl (Nat.le_of_ble_eq_true rfl) sh455 rfl rfl w6_209 w6_211 wp_50 (fun r_ μ1 hp_ => ?_)
  obtain ⟨v, rfl, hp_⟩ := hp_
  exact k v μ1 hp_
theorem bX12_order_42 {Z : ZT} {X : XT} {μ : Mu} {a1 : Int32} {a2 : Int32} {a3 : Int32} {s0 : Int32} (E : Ent Z X mX12_order 0 0)  
    (kt : s0 = 0 → JS Z X 56 [(0, .ref (Z.2.2.1 + 455)), (1, .int a1), (2, .int a2), (3, .int a3)] [] μ) (kf : ¬ (s0 = 0) → JS Z X 45 [(0, .ref (Z.2.2.1 + 455)), (1, .int a1), (2, .int a2), (3, .int a3)] [] μ) :
    JS Z X 42 [(0, .ref (Z.2.2.1 + 455)), (1, .int a1), (2, .int a2), (3, .int a3)] [.int s0] μ := by
  refine J_if_eq (tgt := 56) E dX12_order_42 (by decide) (fun c => ?_) (fun c => ?_)
  · exact kt c
  · exact kf c
theorem bX12_order_45 {Z : ZT} {X : XT} {μ : Mu} {a1 : Int32} {a2 : Int32} {a3 : Int32} (E : Ent Z X mX12_order 0 0)  
    (kt : (μ 455 13) ≤ 0 → JS Z X 56 [(0, .ref (Z.2.2.1 + 455)), (1, .int a1), (2, .int a2), (3, .int a3)] [] μ) (kf : ¬ ((μ 455 13) ≤ 0) → JS Z X 52 [(0, .ref (Z.2.2.1 + 455)), (1, .int a1), (2, .int a2), (3, .int a3)] [] μ) :
    JS Z X 45 [(0, .ref (Z.2.2.1 + 455)), (1, .int a1), (2, .int a2), (3, .int a3)] [] μ := by
  refine J_aload_n E dX12_order_45 rfl ?_
  refine S_get (ci := 12) (q := 13) (v := .int (μ 455 13)) E dX12_order_46 fs_X12_168 sh455 rfl ?_
  refine J_if_le (tgt := 56) E dX12_order_49 (by decide) (fun c => ?_) (fun c => ?_)
  · exact kt c
  · exact kf c
theorem bX12_order_52 {Z : ZT} {X : XT} {μ : Mu} {a1 : Int32} {a2 : Int32} {a3 : Int32} (E : Ent Z X mX12_order 0 0)  
    (k : JS Z X 57 [(0, .ref (Z.2.2.1 + 455)), (1, .int a1), (2, .int a2), (3, .int a3)] [.int (nI 1)] μ) :
    JS Z X 52 [(0, .ref (Z.2.2.1 + 455)), (1, .int a1), (2, .int a2), (3, .int a3)] [] μ := by
  refine J_iconst (v := nI 1) E dX12_order_52 rfl ?_
  refine J_goto (tgt := 57) E dX12_order_53 (by decide) ?_
  exact k
theorem bX12_order_56 {Z : ZT} {X : XT} {μ : Mu} {a1 : Int32} {a2 : Int32} {a3 : Int32} (E : Ent Z X mX12_order 0 0)  
    (k : JS Z X 57 [(0, .ref (Z.2.2.1 + 455)), (1, .int a1), (2, .int a2), (3, .int a3)] [.int (nI 0)] μ) :
    JS Z X 56 [(0, .ref (Z.2.2.1 + 455)), (1, .int a1), (2, .int a2), (3, .int a3)] [] μ := by
  refine J_iconst (v := nI 0) E dX12_order_56 rfl ?_
  exact k
theorem bX12_order_57 {Z : ZT} {X : XT} {μ : Mu} {a1 : Int32} {a2 : Int32} {a3 : Int32} {s0 : Int32} (E : Ent Z X mX12_order 0 0)  
    (k : JS Z X 59 [(0, .ref (Z.2.2.1 + 455)), (1, .int a1), (2, .int a2), (3, .int a3), (4, .int s0)] [] μ) :
    JS Z X 57 [(0, .ref (Z.2.2.1 + 455)), (1, .int a1), (2, .int a2), (3, .int a3)] [.int s0] μ := by
  refine J_istore (lv' := [(0, .ref (Z.2.2.1 + 455)), (1, .int a1), (2, .int a2), (3, .int a3), (4, .int s0)]) E dX12_order_57 (Nat.le_of_ble_eq_true rfl) rfl ?_
  exact k
theorem bX12_order_59 {Z : ZT} {X : XT} {μ : Mu} {a1 : Int32} {a2 : Int32} {a3 : Int32} {a4 : Int32} (E : Ent Z X mX12_order 0 0)  
    (kt : a4 = 0 → JS Z X 126 [(0, .ref (Z.2.2.1 + 455)), (2, .int a2), (3, .int a3)] [] μ) (kf : ¬ (a4 = 0) → JS Z X 64 [(0, .ref (Z.2.2.1 + 455)), (1, .int a1), (2, .int a2), (3, .int a3)] [] μ) :
    JS Z X 59 [(0, .ref (Z.2.2.1 + 455)), (1, .int a1), (2, .int a2), (3, .int a3), (4, .int a4)] [] μ := by
  refine J_iload E dX12_order_59 rfl ?_
  refine J_if_eq (tgt := 126) E dX12_order_61 (by decide) (fun c => ?_) (fun c => ?_)
  · refine J.weak [0, 2, 3] rfl ?_
    exact kt c
  · refine J.weak [0, 1, 2, 3] rfl ?_
    exact kf c
theorem bX12_order_64 {Z : ZT} {X : XT} {μ : Mu} {a1 : Int32} {a2 : Int32} {a3 : Int32} (E : Ent Z X mX12_order 0 0) {p : Int32 → Mu → Prop} 
    (c : CtrS Z mX12_findHunt [.ref (Z.2.2.1 + 455)] μ (rI p)) (k : ∀ v μ1, p v μ1 → JS Z X 68 [(0, .ref (Z.2.2.1 + 455)), (1, .int a1), (2, .int a2), (3, .int a3)] [.int v] μ1) :
    JS Z X 64 [(0, .ref (Z.2.2.1 + 455)), (1, .int a1), (2, .int a2), (3, .int a3)] [] μ := by
  refine J_aload_n E dX12_order_64 rfl ?_
  refine S_callV (As := []) (rest := []) E dX12_order_65 c kX12_findHunt ⟨Nat.le_of_ble_eq_true rfl, Nat.le_of_ble_eq_true rfl⟩ rfl (Nat.le_of_ble_eq_true rfl) sh455 rfl rfl w6_205 w6_207 wp_49 (fun r_ μ1 hp_ => ?_)
  obtain ⟨v, rfl, hp_⟩ := hp_
  exact k v μ1 hp_
theorem bX12_order_68 {Z : ZT} {X : XT} {μ : Mu} {a1 : Int32} {a2 : Int32} {a3 : Int32} {s0 : Int32} (E : Ent Z X mX12_order 0 0)  
    (kt : s0 = 0 → JS Z X 117 [(0, .ref (Z.2.2.1 + 455)), (1, .int a1), (2, .int a2), (3, .int a3)] [] μ) (kf : ¬ (s0 = 0) → JS Z X 71 [(0, .ref (Z.2.2.1 + 455)), (1, .int a1), (2, .int a2), (3, .int a3)] [] μ) :
    JS Z X 68 [(0, .ref (Z.2.2.1 + 455)), (1, .int a1), (2, .int a2), (3, .int a3)] [.int s0] μ := by
  refine J_if_eq (tgt := 117) E dX12_order_68 (by decide) (fun c => ?_) (fun c => ?_)
  · exact kt c
  · exact kf c
theorem bX12_order_71 {Z : ZT} {X : XT} {μ : Mu} {a1 : Int32} {a2 : Int32} {a3 : Int32} (E : Ent Z X mX12_order 0 0) {p : Mu → Prop} 
    (c : CtrS Z mX12_lengthTo [.ref (Z.2.2.1 + 455), .int (nI 4), .int a1] μ (rV p)) (k : ∀ μ1, p μ1 → JS Z X 77 [(0, .ref (Z.2.2.1 + 455)), (1, .int a1), (2, .int a2), (3, .int a3)] [] μ1) :
    JS Z X 71 [(0, .ref (Z.2.2.1 + 455)), (1, .int a1), (2, .int a2), (3, .int a3)] [] μ := by
  refine J_aload_n E dX12_order_71 rfl ?_
  refine J_iconst (v := nI 4) E dX12_order_72 rfl ?_
  refine J_iload_n E dX12_order_73 rfl ?_
  refine S_callV (As := [.int (nI 4), .int a1]) (rest := []) E dX12_order_74 c kX12_lengthTo ⟨Nat.le_of_ble_eq_true rfl, Nat.le_of_ble_eq_true rfl⟩ rfl (Nat.le_of_ble_eq_true rfl) sh455 rfl rfl w7_27 w7_29 wp_63 (fun r_ μ1 hp_ => ?_)
  obtain ⟨rfl, hp_⟩ := hp_
  exact k μ1 hp_
theorem bX12_order_77 {Z : ZT} {X : XT} {μ : Mu} {a1 : Int32} {a2 : Int32} {a3 : Int32} (E : Ent Z X mX12_order 0 0) {p : Mu → Prop} 
    (c : CtrS Z mX12_offTo [.ref (Z.2.2.1 + 455), .int (nI 5), .int (nI 4)] μ (rV p)) (k : ∀ μ1, p μ1 → JS Z X 83 [(0, .ref (Z.2.2.1 + 455)), (1, .int a1), (2, .int a2), (3, .int a3)] [] μ1) :
    JS Z X 77 [(0, .ref (Z.2.2.1 + 455)), (1, .int a1), (2, .int a2), (3, .int a3)] [] μ := by
  refine J_aload_n E dX12_order_77 rfl ?_
  refine J_iconst (v := nI 5) E dX12_order_78 rfl ?_
  refine J_iconst (v := nI 4) E dX12_order_79 rfl ?_
  refine S_callV (As := [.int (nI 5), .int (nI 4)]) (rest := []) E dX12_order_80 c kX12_offTo ⟨Nat.le_of_ble_eq_true rfl, Nat.le_of_ble_eq_true rfl⟩ rfl (Nat.le_of_ble_eq_true rfl) sh455 rfl rfl w7_92 w7_94 wp_74 (fun r_ μ1 hp_ => ?_)
  obtain ⟨rfl, hp_⟩ := hp_
  exact k μ1 hp_
theorem bX12_order_83 {Z : ZT} {X : XT} {μ : Mu} {a1 : Int32} {a2 : Int32} {a3 : Int32} (E : Ent Z X mX12_order 0 0)  
    (kt : a3 = 0 → JS Z X 97 [(0, .ref (Z.2.2.1 + 455)), (1, .int a1), (2, .int a2)] [] μ) (kf : ¬ (a3 = 0) → JS Z X 87 [(0, .ref (Z.2.2.1 + 455)), (1, .int a1), (2, .int a2), (3, .int a3)] [] μ) :
    JS Z X 83 [(0, .ref (Z.2.2.1 + 455)), (1, .int a1), (2, .int a2), (3, .int a3)] [] μ := by
  refine J_iload_n E dX12_order_83 rfl ?_
  refine J_if_eq (tgt := 97) E dX12_order_84 (by decide) (fun c => ?_) (fun c => ?_)
  · refine J.weak [0, 1, 2] rfl ?_
    exact kt c
  · exact kf c
theorem bX12_order_87 {Z : ZT} {X : XT} {μ : Mu} {a1 : Int32} {a2 : Int32} {a3 : Int32} (E : Ent Z X mX12_order 0 0) {p : Int32 → Mu → Prop} 
    (c : CtrS Z mX12_compare [.ref (Z.2.2.1 + 455), .int (nI 5), .int (nI 8)] μ (rI p)) (k : ∀ v μ1, p v μ1 → JS Z X 94 [(0, .ref (Z.2.2.1 + 455)), (1, .int a1), (2, .int a2), (3, .int a3)] [.int v] μ1) :
    JS Z X 87 [(0, .ref (Z.2.2.1 + 455)), (1, .int a1), (2, .int a2), (3, .int a3)] [] μ := by
  refine J_aload_n E dX12_order_87 rfl ?_
  refine J_iconst (v := nI 5) E dX12_order_88 rfl ?_
  refine J_bipush (v := nI 8) E dX12_order_89 rfl ?_
  refine S_callV (As := [.int (nI 5), .int (nI 8)]) (rest := []) E dX12_order_91 c kX12_compare ⟨Nat.le_of_ble_eq_true rfl, Nat.le_of_ble_eq_true rfl⟩ rfl (Nat.le_of_ble_eq_true rfl) sh455 rfl rfl w7_59 w7_61 wp_69 (fun r_ μ1 hp_ => ?_)
  obtain ⟨v, rfl, hp_⟩ := hp_
  exact k v μ1 hp_
theorem bX12_order_94 {Z : ZT} {X : XT} {μ : Mu} {a1 : Int32} {a2 : Int32} {a3 : Int32} {s0 : Int32} (E : Ent Z X mX12_order 0 0)  
    (kt : 0 ≤ s0 → JS Z X 117 [(0, .ref (Z.2.2.1 + 455)), (1, .int a1), (2, .int a2), (3, .int a3)] [] μ) (kf : ¬ (0 ≤ s0) → JS Z X 97 [(0, .ref (Z.2.2.1 + 455)), (1, .int a1), (2, .int a2)] [] μ) :
    JS Z X 94 [(0, .ref (Z.2.2.1 + 455)), (1, .int a1), (2, .int a2), (3, .int a3)] [.int s0] μ := by
  refine J_if_ge (tgt := 117) E dX12_order_94 (by decide) (fun c => ?_) (fun c => ?_)
  · exact kt c
  · refine J.weak [0, 1, 2] rfl ?_
    exact kf c
theorem bX12_order_97 {Z : ZT} {X : XT} {μ : Mu} {a1 : Int32} {a2 : Int32} (E : Ent Z X mX12_order 0 0) {p : Mu → Prop} 
    (c : CtrS Z mX12_copy [.ref (Z.2.2.1 + 455), .int (nI 5), .int (nI 8)] μ (rV p)) (k : ∀ μ1, p μ1 → JS Z X 104 [(0, .ref (Z.2.2.1 + 455)), (1, .int a1), (2, .int a2)] [] μ1) :
    JS Z X 97 [(0, .ref (Z.2.2.1 + 455)), (1, .int a1), (2, .int a2)] [] μ := by
  refine J_aload_n E dX12_order_97 rfl ?_
  refine J_iconst (v := nI 5) E dX12_order_98 rfl ?_
  refine J_bipush (v := nI 8) E dX12_order_99 rfl ?_
  refine S_callV (As := [.int (nI 5), .int (nI 8)]) (rest := []) E dX12_order_101 c kX12_copy ⟨Nat.le_of_ble_eq_true rfl, Nat.le_of_ble_eq_true rfl⟩ rfl (Nat.le_of_ble_eq_true rfl) sh455 rfl rfl w6_238 w7_0 wp_57 (fun r_ μ1 hp_ => ?_)
  obtain ⟨rfl, hp_⟩ := hp_
  exact k μ1 hp_
theorem bX12_order_104 {Z : ZT} {X : XT} {μ : Mu} {a1 : Int32} {a2 : Int32} (E : Ent Z X mX12_order 0 0) {p : Mu → Prop} 
    (c : CtrS Z mX12_copy [.ref (Z.2.2.1 + 455), .int (nI 4), .int (nI 9)] μ (rV p)) (k : ∀ μ1, p μ1 → JS Z X 111 [(0, .ref (Z.2.2.1 + 455)), (1, .int a1), (2, .int a2)] [] μ1) :
    JS Z X 104 [(0, .ref (Z.2.2.1 + 455)), (1, .int a1), (2, .int a2)] [] μ := by
  refine J_aload_n E dX12_order_104 rfl ?_
  refine J_iconst (v := nI 4) E dX12_order_105 rfl ?_
  refine J_bipush (v := nI 9) E dX12_order_106 rfl ?_
  refine S_callV (As := [.int (nI 4), .int (nI 9)]) (rest := []) E dX12_order_108 c kX12_copy ⟨Nat.le_of_ble_eq_true rfl, Nat.le_of_ble_eq_true rfl⟩ rfl (Nat.le_of_ble_eq_true rfl) sh455 rfl rfl w6_238 w7_0 wp_57 (fun r_ μ1 hp_ => ?_)
  obtain ⟨rfl, hp_⟩ := hp_
  exact k μ1 hp_
theorem bX12_order_111 {Z : ZT} {X : XT} {μ : Mu} {a1 : Int32} {a2 : Int32} (E : Ent Z X mX12_order 0 0) {p : Mu → Prop} 
    (c : CtrS Z mX12_keepOrder [.ref (Z.2.2.1 + 455)] μ (rV p)) (k : ∀ μ1, p μ1 → JS Z X 115 [(0, .ref (Z.2.2.1 + 455)), (1, .int a1), (2, .int a2)] [] μ1) :
    JS Z X 111 [(0, .ref (Z.2.2.1 + 455)), (1, .int a1), (2, .int a2)] [] μ := by
  refine J_aload_n E dX12_order_111 rfl ?_
  refine S_callV (As := []) (rest := []) E dX12_order_112 c kX12_keepOrder ⟨Nat.le_of_ble_eq_true rfl, Nat.le_of_ble_eq_true rfl⟩ rfl (Nat.le_of_ble_eq_true rfl) sh455 rfl rfl w7_96 w7_98 wp_75 (fun r_ μ1 hp_ => ?_)
  obtain ⟨rfl, hp_⟩ := hp_
  exact k μ1 hp_
theorem bX12_order_115 {Z : ZT} {X : XT} {μ : Mu} {a1 : Int32} {a2 : Int32} (E : Ent Z X mX12_order 0 0)  
    (k : JS Z X 117 [(0, .ref (Z.2.2.1 + 455)), (1, .int a1), (2, .int a2), (3, .int (nI 1))] [] μ) :
    JS Z X 115 [(0, .ref (Z.2.2.1 + 455)), (1, .int a1), (2, .int a2)] [] μ := by
  refine J_iconst (v := nI 1) E dX12_order_115 rfl ?_
  refine J_istore_n (lv' := [(0, .ref (Z.2.2.1 + 455)), (1, .int a1), (2, .int a2), (3, .int (nI 1))]) E dX12_order_116 (Nat.le_of_ble_eq_true rfl) rfl ?_
  exact k
theorem bX12_order_117 {Z : ZT} {X : XT} {μ : Mu} {a1 : Int32} {a2 : Int32} {a3 : Int32} (E : Ent Z X mX12_order 0 0) {p : Int32 → Mu → Prop} 
    (c : CtrS Z mX12_nextOrder [.ref (Z.2.2.1 + 455)] μ (rI p)) (k : ∀ v μ1, p v μ1 → JS Z X 121 [(0, .ref (Z.2.2.1 + 455)), (1, .int a1), (2, .int a2), (3, .int a3)] [.int v] μ1) :
    JS Z X 117 [(0, .ref (Z.2.2.1 + 455)), (1, .int a1), (2, .int a2), (3, .int a3)] [] μ := by
  refine J_aload_n E dX12_order_117 rfl ?_
  refine S_callV (As := []) (rest := []) E dX12_order_118 c kX12_nextOrder ⟨Nat.le_of_ble_eq_true rfl, Nat.le_of_ble_eq_true rfl⟩ rfl (Nat.le_of_ble_eq_true rfl) sh455 rfl rfl w7_100 w7_102 wp_76 (fun r_ μ1 hp_ => ?_)
  obtain ⟨v, rfl, hp_⟩ := hp_
  exact k v μ1 hp_
theorem bX12_order_121 {Z : ZT} {X : XT} {μ : Mu} {a1 : Int32} {a2 : Int32} {a3 : Int32} {s0 : Int32} (E : Ent Z X mX12_order 0 0)  
    (k : JS Z X 59 [(0, .ref (Z.2.2.1 + 455)), (1, .int a1), (2, .int a2), (3, .int a3), (4, .int s0)] [] μ) :
    JS Z X 121 [(0, .ref (Z.2.2.1 + 455)), (1, .int a1), (2, .int a2), (3, .int a3)] [.int s0] μ := by
  refine J_istore (lv' := [(0, .ref (Z.2.2.1 + 455)), (1, .int a1), (2, .int a2), (3, .int a3), (4, .int s0)]) E dX12_order_121 (Nat.le_of_ble_eq_true rfl) rfl ?_
  refine J_goto (tgt := 59) E dX12_order_123 (by decide) ?_
  exact k
theorem bX12_order_126 {Z : ZT} {X : XT} {μ : Mu} {a2 : Int32} {a3 : Int32} (E : Ent Z X mX12_order 0 0)  
    (kt : ¬ a3 = 0 → JS Z X 137 [(0, .ref (Z.2.2.1 + 455)), (2, .int a2)] [] μ) (kf : a3 = 0 → JS Z X 130 [(0, .ref (Z.2.2.1 + 455))] [] μ) :
    JS Z X 126 [(0, .ref (Z.2.2.1 + 455)), (2, .int a2), (3, .int a3)] [] μ := by
  refine J_iload_n E dX12_order_126 rfl ?_
  refine J_if_ne (tgt := 137) E dX12_order_127 (by decide) (fun c => ?_) (fun c => ?_)
  · refine J.weak [0, 1] rfl ?_
    exact kt c
  · refine J.weak [0] rfl ?_
    exact kf c
theorem bX12_order_130 {Z : ZT} {X : XT} {μ : Mu} (E : Ent Z X mX12_order 0 0) {p : Int32 → Mu → Prop} 
    (c : CtrS Z mX12_refuse [.ref (Z.2.2.1 + 455), .int (-3)] μ (rI p)) (k : ∀ v μ1, p v μ1 → JS Z X 136 [] [.int v] μ1) :
    JS Z X 130 [(0, .ref (Z.2.2.1 + 455))] [] μ := by
  refine J_aload_n E dX12_order_130 rfl ?_
  refine J_bipush (v := -3) E dX12_order_131 rfl ?_
  refine S_callV (As := [.int (-3)]) (rest := []) E dX12_order_133 c kX12_refuse ⟨Nat.le_of_ble_eq_true rfl, Nat.le_of_ble_eq_true rfl⟩ rfl (Nat.le_of_ble_eq_true rfl) sh455 rfl rfl w6_51 w6_53 wp_30 (fun r_ μ1 hp_ => ?_)
  obtain ⟨v, rfl, hp_⟩ := hp_
  refine J.weak [] rfl ?_
  exact k v μ1 hp_
theorem bX12_order_136 {Z : ZT} {X : XT} {μ : Mu} {s0 : Int32} (E : Ent Z X mX12_order 0 0) {P : Option Value → Mu → Prop} (hB : BodS Z X P) 
    (k : P (some (.int s0)) μ) :
    JS Z X 136 [] [.int s0] μ := by
  exact S_iret E hB dX12_order_136 rfl k
theorem bX12_order_137 {Z : ZT} {X : XT} {μ : Mu} {a2 : Int32} (E : Ent Z X mX12_order 0 0) {p : Mu → Prop} 
    (c : CtrS Z mX12_tell [.ref (Z.2.2.1 + 455), .int (nI 9), .int (nI 30)] μ (rV p)) (k : ∀ μ1, p μ1 → JS Z X 145 [(0, .ref (Z.2.2.1 + 455)), (2, .int a2)] [] μ1) :
    JS Z X 137 [(0, .ref (Z.2.2.1 + 455)), (2, .int a2)] [] μ := by
  refine J_aload_n E dX12_order_137 rfl ?_
  refine J_bipush (v := nI 9) E dX12_order_138 rfl ?_
  refine J_bipush (v := nI 30) E dX12_order_140 rfl ?_
  refine S_callV (As := [.int (nI 9), .int (nI 30)]) (rest := []) E dX12_order_142 c kX12_tell ⟨Nat.le_of_ble_eq_true rfl, Nat.le_of_ble_eq_true rfl⟩ rfl (Nat.le_of_ble_eq_true rfl) sh455 rfl rfl w6_234 w6_236 wp_56 (fun r_ μ1 hp_ => ?_)
  obtain ⟨rfl, hp_⟩ := hp_
  exact k μ1 hp_
theorem bX12_order_145 {Z : ZT} {X : XT} {μ : Mu} {a2 : Int32} (E : Ent Z X mX12_order 0 0)  
    (kt : (μ 455 13) ≤ a2 → JS Z X 162 [] [] μ) (kf : ¬ ((μ 455 13) ≤ a2) → JS Z X 153 [(0, .ref (Z.2.2.1 + 455)), (2, .int a2)] [] μ) :
    JS Z X 145 [(0, .ref (Z.2.2.1 + 455)), (2, .int a2)] [] μ := by
  refine J_iload_n E dX12_order_145 rfl ?_
  refine J_aload_n E dX12_order_146 rfl ?_
  refine S_get (ci := 12) (q := 13) (v := .int (μ 455 13)) E dX12_order_147 fs_X12_168 sh455 rfl ?_
  refine J_icmp_ge (tgt := 162) E dX12_order_150 (by decide) (fun c => ?_) (fun c => ?_)
  · refine J.weak [] rfl ?_
    exact kt c
  · exact kf c
theorem bX12_order_153 {Z : ZT} {X : XT} {μ : Mu} {a2 : Int32} (E : Ent Z X mX12_order 0 0)  (s1_ : vp_in a2 6)
    (k : JS Z X 164 [] [.int (μ 466 (ix a2))] μ) :
    JS Z X 153 [(0, .ref (Z.2.2.1 + 455)), (2, .int a2)] [] μ := by
  refine J_aload_n E dX12_order_153 rfl ?_
  refine S_get (ci := 12) (q := 20) (v := .ref (Z.2.2.1 + 466)) E dX12_order_154 fs_X12_42 sh455 rfl ?_
  refine J_iload_n E dX12_order_157 rfl ?_
  refine S_iald E dX12_order_158 sh466 s1_ ?_
  refine J_goto (tgt := 164) E dX12_order_159 (by decide) ?_
  refine J.weak [] rfl ?_
  exact k
theorem bX12_order_162 {Z : ZT} {X : XT} {μ : Mu} (E : Ent Z X mX12_order 0 0)  
    (k : JS Z X 164 [] [.int (-5)] μ) :
    JS Z X 162 [] [] μ := by
  refine J_bipush (v := -5) E dX12_order_162 rfl ?_
  exact k
theorem bX12_order_164 {Z : ZT} {X : XT} {μ : Mu} {s0 : Int32} (E : Ent Z X mX12_order 0 0) {P : Option Value → Mu → Prop} (hB : BodS Z X P) 
    (k : P (some (.int s0)) μ) :
    JS Z X 164 [] [.int s0] μ := by
  exact S_iret E hB dX12_order_164 rfl k
theorem dX12_kinds_0 : decode cX12_kinds 0 = .ok (.iload_n 1, 1) := by decide +kernel
theorem dX12_kinds_1 : decode cX12_kinds 1 = .ok (.invokestatic 85, 3) := by decide +kernel
theorem dX12_kinds_4 : decode cX12_kinds 4 = .ok (.ifCond .eq 12, 3) := by decide +kernel
theorem dX12_kinds_7 : decode cX12_kinds 7 = .ok (.iload_n 2, 1) := by decide +kernel
theorem dX12_kinds_8 : decode cX12_kinds 8 = .ok (.iconst 0, 1) := by decide +kernel
theorem dX12_kinds_9 : decode cX12_kinds 9 = .ok (.iconst 5, 1) := by decide +kernel
theorem dX12_kinds_10 : decode cX12_kinds 10 = .ok (.invokestatic 67, 3) := by decide +kernel
theorem dX12_kinds_13 : decode cX12_kinds 13 = .ok (.ifCond .ne 10, 3) := by decide +kernel
theorem dX12_kinds_16 : decode cX12_kinds 16 = .ok (.aload_n 0, 1) := by decide +kernel
theorem dX12_kinds_17 : decode cX12_kinds 17 = .ok (.bipush (-2), 2) := by decide +kernel
theorem dX12_kinds_19 : decode cX12_kinds 19 = .ok (.invokevirtual 63, 3) := by decide +kernel
theorem dX12_kinds_22 : decode cX12_kinds 22 = .ok (.ireturn, 1) := by decide +kernel
theorem dX12_kinds_23 : decode cX12_kinds 23 = .ok (.aload_n 0, 1) := by decide +kernel
theorem dX12_kinds_24 : decode cX12_kinds 24 = .ok (.iload_n 1, 1) := by decide +kernel
theorem dX12_kinds_25 : decode cX12_kinds 25 = .ok (.invokevirtual 235, 3) := by decide +kernel
theorem dX12_kinds_28 : decode cX12_kinds 28 = .ok (.ifCond .ne 10, 3) := by decide +kernel
theorem dX12_kinds_31 : decode cX12_kinds 31 = .ok (.aload_n 0, 1) := by decide +kernel
theorem dX12_kinds_32 : decode cX12_kinds 32 = .ok (.bipush (-3), 2) := by decide +kernel
theorem dX12_kinds_34 : decode cX12_kinds 34 = .ok (.invokevirtual 63, 3) := by decide +kernel
theorem dX12_kinds_37 : decode cX12_kinds 37 = .ok (.ireturn, 1) := by decide +kernel
theorem dX12_kinds_38 : decode cX12_kinds 38 = .ok (.iconst 0, 1) := by decide +kernel
theorem dX12_kinds_39 : decode cX12_kinds 39 = .ok (.istore_n 3, 1) := by decide +kernel
theorem dX12_kinds_40 : decode cX12_kinds 40 = .ok (.iload_n 3, 1) := by decide +kernel
theorem dX12_kinds_41 : decode cX12_kinds 41 = .ok (.iconst 4, 1) := by decide +kernel
theorem dX12_kinds_42 : decode cX12_kinds 42 = .ok (.aload_n 0, 1) := by decide +kernel
theorem dX12_kinds_43 : decode cX12_kinds 43 = .ok (.getfield 168, 3) := by decide +kernel
theorem dX12_kinds_46 : decode cX12_kinds 46 = .ok (.imul, 1) := by decide +kernel
theorem dX12_kinds_47 : decode cX12_kinds 47 = .ok (.if_icmp .ge 136, 3) := by decide +kernel
theorem dX12_kinds_50 : decode cX12_kinds 50 = .ok (.aload_n 0, 1) := by decide +kernel
theorem dX12_kinds_51 : decode cX12_kinds 51 = .ok (.iload_n 1, 1) := by decide +kernel
theorem dX12_kinds_52 : decode cX12_kinds 52 = .ok (.iload_n 3, 1) := by decide +kernel
theorem dX12_kinds_53 : decode cX12_kinds 53 = .ok (.iconst 4, 1) := by decide +kernel
theorem dX12_kinds_54 : decode cX12_kinds 54 = .ok (.irem, 1) := by decide +kernel
theorem dX12_kinds_55 : decode cX12_kinds 55 = .ok (.aload_n 0, 1) := by decide +kernel
theorem dX12_kinds_56 : decode cX12_kinds 56 = .ok (.getfield 33, 3) := by decide +kernel
theorem dX12_kinds_59 : decode cX12_kinds 59 = .ok (.iload_n 3, 1) := by decide +kernel
theorem dX12_kinds_60 : decode cX12_kinds 60 = .ok (.iconst 4, 1) := by decide +kernel
theorem dX12_kinds_61 : decode cX12_kinds 61 = .ok (.idiv, 1) := by decide +kernel
theorem dX12_kinds_62 : decode cX12_kinds 62 = .ok (.iaload, 1) := by decide +kernel
theorem dX12_kinds_63 : decode cX12_kinds 63 = .ok (.invokevirtual 222, 3) := by decide +kernel
theorem dX12_kinds_66 : decode cX12_kinds 66 = .ok (.istore 4, 2) := by decide +kernel
theorem dX12_kinds_68 : decode cX12_kinds 68 = .ok (.aload_n 0, 1) := by decide +kernel
theorem dX12_kinds_69 : decode cX12_kinds 69 = .ok (.bipush 100, 2) := by decide +kernel
theorem dX12_kinds_71 : decode cX12_kinds 71 = .ok (.iload_n 3, 1) := by decide +kernel
theorem dX12_kinds_72 : decode cX12_kinds 72 = .ok (.iadd, 1) := by decide +kernel
theorem dX12_kinds_73 : decode cX12_kinds 73 = .ok (.iload 4, 2) := by decide +kernel
theorem dX12_kinds_75 : decode cX12_kinds 75 = .ok (.aload_n 0, 1) := by decide +kernel
theorem dX12_kinds_76 : decode cX12_kinds 76 = .ok (.getfield 7, 3) := by decide +kernel
theorem dX12_kinds_79 : decode cX12_kinds 79 = .ok (.sipush 201, 3) := by decide +kernel
theorem dX12_kinds_82 : decode cX12_kinds 82 = .ok (.iaload, 1) := by decide +kernel
theorem dX12_kinds_83 : decode cX12_kinds 83 = .ok (.invokevirtual 225, 3) := by decide +kernel
theorem dX12_kinds_86 : decode cX12_kinds 86 = .ok (.iconst 0, 1) := by decide +kernel
theorem dX12_kinds_87 : decode cX12_kinds 87 = .ok (.istore 5, 2) := by decide +kernel
theorem dX12_kinds_89 : decode cX12_kinds 89 = .ok (.iload 5, 2) := by decide +kernel
theorem dX12_kinds_91 : decode cX12_kinds 91 = .ok (.aload_n 0, 1) := by decide +kernel
theorem dX12_kinds_92 : decode cX12_kinds 92 = .ok (.getfield 7, 3) := by decide +kernel
theorem dX12_kinds_95 : decode cX12_kinds 95 = .ok (.bipush 111, 2) := by decide +kernel
theorem dX12_kinds_97 : decode cX12_kinds 97 = .ok (.iaload, 1) := by decide +kernel
theorem dX12_kinds_98 : decode cX12_kinds 98 = .ok (.if_icmp .ge 79, 3) := by decide +kernel
theorem dX12_kinds_101 : decode cX12_kinds 101 = .ok (.aload_n 0, 1) := by decide +kernel
theorem dX12_kinds_102 : decode cX12_kinds 102 = .ok (.bipush 100, 2) := by decide +kernel
theorem dX12_kinds_104 : decode cX12_kinds 104 = .ok (.iload_n 3, 1) := by decide +kernel
theorem dX12_kinds_105 : decode cX12_kinds 105 = .ok (.iadd, 1) := by decide +kernel
theorem dX12_kinds_106 : decode cX12_kinds 106 = .ok (.sipush 130, 3) := by decide +kernel
theorem dX12_kinds_109 : decode cX12_kinds 109 = .ok (.bipush 6, 2) := by decide +kernel
theorem dX12_kinds_111 : decode cX12_kinds 111 = .ok (.iload_n 3, 1) := by decide +kernel
theorem dX12_kinds_112 : decode cX12_kinds 112 = .ok (.imul, 1) := by decide +kernel
theorem dX12_kinds_113 : decode cX12_kinds 113 = .ok (.iadd, 1) := by decide +kernel
theorem dX12_kinds_114 : decode cX12_kinds 114 = .ok (.iload 5, 2) := by decide +kernel
theorem dX12_kinds_116 : decode cX12_kinds 116 = .ok (.iadd, 1) := by decide +kernel
theorem dX12_kinds_117 : decode cX12_kinds 117 = .ok (.invokevirtual 198, 3) := by decide +kernel
theorem dX12_kinds_120 : decode cX12_kinds 120 = .ok (.aload_n 0, 1) := by decide +kernel
theorem dX12_kinds_121 : decode cX12_kinds 121 = .ok (.sipush 130, 3) := by decide +kernel
theorem dX12_kinds_124 : decode cX12_kinds 124 = .ok (.bipush 6, 2) := by decide +kernel
theorem dX12_kinds_126 : decode cX12_kinds 126 = .ok (.iload_n 3, 1) := by decide +kernel
theorem dX12_kinds_127 : decode cX12_kinds 127 = .ok (.imul, 1) := by decide +kernel
theorem dX12_kinds_128 : decode cX12_kinds 128 = .ok (.iadd, 1) := by decide +kernel
theorem dX12_kinds_129 : decode cX12_kinds 129 = .ok (.iload 5, 2) := by decide +kernel
theorem dX12_kinds_131 : decode cX12_kinds 131 = .ok (.iadd, 1) := by decide +kernel
theorem dX12_kinds_132 : decode cX12_kinds 132 = .ok (.aload_n 0, 1) := by decide +kernel
theorem dX12_kinds_133 : decode cX12_kinds 133 = .ok (.getfield 7, 3) := by decide +kernel
theorem dX12_kinds_136 : decode cX12_kinds 136 = .ok (.sipush 148, 3) := by decide +kernel
theorem dX12_kinds_139 : decode cX12_kinds 139 = .ok (.iload 5, 2) := by decide +kernel
theorem dX12_kinds_141 : decode cX12_kinds 141 = .ok (.iadd, 1) := by decide +kernel
theorem dX12_kinds_142 : decode cX12_kinds 142 = .ok (.iaload, 1) := by decide +kernel
theorem dX12_kinds_143 : decode cX12_kinds 143 = .ok (.iload_n 1, 1) := by decide +kernel
theorem dX12_kinds_144 : decode cX12_kinds 144 = .ok (.if_icmp .ne 23, 3) := by decide +kernel
theorem dX12_kinds_147 : decode cX12_kinds 147 = .ok (.aload_n 0, 1) := by decide +kernel
theorem dX12_kinds_148 : decode cX12_kinds 148 = .ok (.iload 5, 2) := by decide +kernel
theorem dX12_kinds_150 : decode cX12_kinds 150 = .ok (.iload_n 3, 1) := by decide +kernel
theorem dX12_kinds_151 : decode cX12_kinds 151 = .ok (.iconst 4, 1) := by decide +kernel
theorem dX12_kinds_152 : decode cX12_kinds 152 = .ok (.irem, 1) := by decide +kernel
theorem dX12_kinds_153 : decode cX12_kinds 153 = .ok (.aload_n 0, 1) := by decide +kernel
theorem dX12_kinds_154 : decode cX12_kinds 154 = .ok (.getfield 33, 3) := by decide +kernel
theorem dX12_kinds_157 : decode cX12_kinds 157 = .ok (.iload_n 3, 1) := by decide +kernel
theorem dX12_kinds_158 : decode cX12_kinds 158 = .ok (.iconst 4, 1) := by decide +kernel
theorem dX12_kinds_159 : decode cX12_kinds 159 = .ok (.idiv, 1) := by decide +kernel
theorem dX12_kinds_160 : decode cX12_kinds 160 = .ok (.iaload, 1) := by decide +kernel
theorem dX12_kinds_161 : decode cX12_kinds 161 = .ok (.invokevirtual 253, 3) := by decide +kernel
theorem dX12_kinds_164 : decode cX12_kinds 164 = .ok (.goto 4, 3) := by decide +kernel
theorem dX12_kinds_167 : decode cX12_kinds 167 = .ok (.iconst 0, 1) := by decide +kernel
theorem dX12_kinds_168 : decode cX12_kinds 168 = .ok (.invokevirtual 194, 3) := by decide +kernel
theorem dX12_kinds_171 : decode cX12_kinds 171 = .ok (.iinc 5 1, 3) := by decide +kernel
theorem dX12_kinds_174 : decode cX12_kinds 174 = .ok (.goto (-85), 3) := by decide +kernel
theorem dX12_kinds_177 : decode cX12_kinds 177 = .ok (.iinc 3 1, 3) := by decide +kernel
theorem dX12_kinds_180 : decode cX12_kinds 180 = .ok (.goto (-140), 3) := by decide +kernel
theorem dX12_kinds_183 : decode cX12_kinds 183 = .ok (.iconst 1, 1) := by decide +kernel
theorem dX12_kinds_184 : decode cX12_kinds 184 = .ok (.istore_n 3, 1) := by decide +kernel
theorem dX12_kinds_185 : decode cX12_kinds 185 = .ok (.iconst 0, 1) := by decide +kernel
theorem dX12_kinds_186 : decode cX12_kinds 186 = .ok (.istore 4, 2) := by decide +kernel
theorem dX12_kinds_188 : decode cX12_kinds 188 = .ok (.iload 4, 2) := by decide +kernel
theorem dX12_kinds_190 : decode cX12_kinds 190 = .ok (.aload_n 0, 1) := by decide +kernel
theorem dX12_kinds_191 : decode cX12_kinds 191 = .ok (.getfield 168, 3) := by decide +kernel
theorem dX12_kinds_194 : decode cX12_kinds 194 = .ok (.if_icmp .ge 13, 3) := by decide +kernel
theorem dX12_kinds_197 : decode cX12_kinds 197 = .ok (.iload_n 3, 1) := by decide +kernel
theorem dX12_kinds_198 : decode cX12_kinds 198 = .ok (.iconst 4, 1) := by decide +kernel
theorem dX12_kinds_199 : decode cX12_kinds 199 = .ok (.imul, 1) := by decide +kernel
theorem dX12_kinds_200 : decode cX12_kinds 200 = .ok (.istore_n 3, 1) := by decide +kernel
theorem dX12_kinds_201 : decode cX12_kinds 201 = .ok (.iinc 4 1, 3) := by decide +kernel
theorem dX12_kinds_204 : decode cX12_kinds 204 = .ok (.goto (-16), 3) := by decide +kernel
theorem dX12_kinds_207 : decode cX12_kinds 207 = .ok (.iconst (-1), 1) := by decide +kernel
theorem dX12_kinds_208 : decode cX12_kinds 208 = .ok (.istore 4, 2) := by decide +kernel
theorem dX12_kinds_210 : decode cX12_kinds 210 = .ok (.iconst 0, 1) := by decide +kernel
theorem dX12_kinds_211 : decode cX12_kinds 211 = .ok (.istore 5, 2) := by decide +kernel
theorem dX12_kinds_213 : decode cX12_kinds 213 = .ok (.iload 5, 2) := by decide +kernel
theorem dX12_kinds_215 : decode cX12_kinds 215 = .ok (.iload_n 3, 1) := by decide +kernel
theorem dX12_kinds_216 : decode cX12_kinds 216 = .ok (.if_icmp .ge 73, 3) := by decide +kernel
theorem dX12_kinds_219 : decode cX12_kinds 219 = .ok (.aload_n 0, 1) := by decide +kernel
theorem dX12_kinds_220 : decode cX12_kinds 220 = .ok (.iload_n 1, 1) := by decide +kernel
theorem dX12_kinds_221 : decode cX12_kinds 221 = .ok (.iload 5, 2) := by decide +kernel
theorem dX12_kinds_223 : decode cX12_kinds 223 = .ok (.invokevirtual 274, 3) := by decide +kernel
theorem dX12_kinds_226 : decode cX12_kinds 226 = .ok (.iload 4, 2) := by decide +kernel
theorem dX12_kinds_228 : decode cX12_kinds 228 = .ok (.iconst (-1), 1) := by decide +kernel
theorem dX12_kinds_229 : decode cX12_kinds 229 = .ok (.if_icmp .ne 7, 3) := by decide +kernel
theorem dX12_kinds_232 : decode cX12_kinds 232 = .ok (.iconst 1, 1) := by decide +kernel
theorem dX12_kinds_233 : decode cX12_kinds 233 = .ok (.goto 10, 3) := by decide +kernel
theorem dX12_kinds_236 : decode cX12_kinds 236 = .ok (.aload_n 0, 1) := by decide +kernel
theorem dX12_kinds_237 : decode cX12_kinds 237 = .ok (.bipush 8, 2) := by decide +kernel
theorem dX12_kinds_239 : decode cX12_kinds 239 = .ok (.iconst 4, 1) := by decide +kernel
theorem dX12_kinds_240 : decode cX12_kinds 240 = .ok (.invokevirtual 229, 3) := by decide +kernel
theorem dX12_kinds_243 : decode cX12_kinds 243 = .ok (.istore 6, 2) := by decide +kernel
theorem dX12_kinds_245 : decode cX12_kinds 245 = .ok (.iload 6, 2) := by decide +kernel
theorem dX12_kinds_247 : decode cX12_kinds 247 = .ok (.ifCond .gt 18, 3) := by decide +kernel
theorem dX12_kinds_250 : decode cX12_kinds 250 = .ok (.iload 6, 2) := by decide +kernel
theorem dX12_kinds_252 : decode cX12_kinds 252 = .ok (.ifCond .ne 31, 3) := by decide +kernel
theorem dX12_kinds_255 : decode cX12_kinds 255 = .ok (.aload_n 0, 1) := by decide +kernel
theorem dX12_kinds_256 : decode cX12_kinds 256 = .ok (.bipush 9, 2) := by decide +kernel
theorem dX12_kinds_258 : decode cX12_kinds 258 = .ok (.iconst 5, 1) := by decide +kernel
theorem dX12_kinds_259 : decode cX12_kinds 259 = .ok (.invokevirtual 229, 3) := by decide +kernel
theorem dX12_kinds_262 : decode cX12_kinds 262 = .ok (.ifCond .ge 21, 3) := by decide +kernel
theorem dX12_kinds_265 : decode cX12_kinds 265 = .ok (.aload_n 0, 1) := by decide +kernel
theorem dX12_kinds_266 : decode cX12_kinds 266 = .ok (.bipush 8, 2) := by decide +kernel
theorem dX12_kinds_268 : decode cX12_kinds 268 = .ok (.iconst 4, 1) := by decide +kernel
theorem dX12_kinds_269 : decode cX12_kinds 269 = .ok (.invokevirtual 198, 3) := by decide +kernel
theorem dX12_kinds_272 : decode cX12_kinds 272 = .ok (.aload_n 0, 1) := by decide +kernel
theorem dX12_kinds_273 : decode cX12_kinds 273 = .ok (.bipush 9, 2) := by decide +kernel
theorem dX12_kinds_275 : decode cX12_kinds 275 = .ok (.iconst 5, 1) := by decide +kernel
theorem dX12_kinds_276 : decode cX12_kinds 276 = .ok (.invokevirtual 198, 3) := by decide +kernel
theorem dX12_kinds_279 : decode cX12_kinds 279 = .ok (.iload 5, 2) := by decide +kernel
theorem dX12_kinds_281 : decode cX12_kinds 281 = .ok (.istore 4, 2) := by decide +kernel
theorem dX12_kinds_283 : decode cX12_kinds 283 = .ok (.iinc 5 1, 3) := by decide +kernel
theorem dX12_kinds_286 : decode cX12_kinds 286 = .ok (.goto (-73), 3) := by decide +kernel
theorem dX12_kinds_289 : decode cX12_kinds 289 = .ok (.aload_n 0, 1) := by decide +kernel
theorem dX12_kinds_290 : decode cX12_kinds 290 = .ok (.iconst 4, 1) := by decide +kernel
theorem dX12_kinds_291 : decode cX12_kinds 291 = .ok (.bipush 36, 2) := by decide +kernel
theorem dX12_kinds_293 : decode cX12_kinds 293 = .ok (.invokevirtual 238, 3) := by decide +kernel
theorem dX12_kinds_296 : decode cX12_kinds 296 = .ok (.aload_n 0, 1) := by decide +kernel
theorem dX12_kinds_297 : decode cX12_kinds 297 = .ok (.iload 4, 2) := by decide +kernel
theorem dX12_kinds_299 : decode cX12_kinds 299 = .ok (.invokevirtual 277, 3) := by decide +kernel
theorem dX12_kinds_302 : decode cX12_kinds 302 = .ok (.iload_n 2, 1) := by decide +kernel
theorem dX12_kinds_303 : decode cX12_kinds 303 = .ok (.aload_n 0, 1) := by decide +kernel
theorem dX12_kinds_304 : decode cX12_kinds 304 = .ok (.getfield 168, 3) := by decide +kernel
theorem dX12_kinds_307 : decode cX12_kinds 307 = .ok (.if_icmp .ge 12, 3) := by decide +kernel
theorem dX12_kinds_310 : decode cX12_kinds 310 = .ok (.aload_n 0, 1) := by decide +kernel
theorem dX12_kinds_311 : decode cX12_kinds 311 = .ok (.getfield 45, 3) := by decide +kernel
theorem dX12_kinds_314 : decode cX12_kinds 314 = .ok (.iload_n 2, 1) := by decide +kernel
theorem dX12_kinds_315 : decode cX12_kinds 315 = .ok (.iaload, 1) := by decide +kernel
theorem dX12_kinds_316 : decode cX12_kinds 316 = .ok (.goto 5, 3) := by decide +kernel
theorem dX12_kinds_319 : decode cX12_kinds 319 = .ok (.bipush (-5), 2) := by decide +kernel
theorem dX12_kinds_321 : decode cX12_kinds 321 = .ok (.ireturn, 1) := by decide +kernel
theorem bX12_kinds_0 {Z : ZT} {X : XT} {μ : Mu} {a1 : Int32} {a2 : Int32} (E : Ent Z X mX12_kinds 0 0) {p : Int32 → Mu → Prop} 
    (c : CtrS Z mX12_isLot [.int a1] μ (rI p)) (k : ∀ v μ1, p v μ1 → JS Z X 4 [(0, .ref (Z.2.2.1 + 455)), (1, .int a1), (2, .int a2)] [.int v] μ1) :
    JS Z X 0 [(0, .ref (Z.2.2.1 + 455)), (1, .int a1), (2, .int a2)] [] μ := by
  refine J_iload_n E dX12_kinds_0 rfl ?_
  refine S_callS (As := [.int a1]) (rest := []) E dX12_kinds_1 c kX12_isLot ⟨Nat.le_of_ble_eq_true rfl, Nat.le_of_ble_eq_true rfl⟩ rfl (Nat.le_of_ble_eq_true rfl) w6_138 w6_139 (fun r_ μ1 hp_ => ?_)
  obtain ⟨v, rfl, hp_⟩ := hp_
  exact k v μ1 hp_
theorem bX12_kinds_4 {Z : ZT} {X : XT} {μ : Mu} {a1 : Int32} {a2 : Int32} {s0 : Int32} (E : Ent Z X mX12_kinds 0 0)  
    (kt : s0 = 0 → JS Z X 16 [(0, .ref (Z.2.2.1 + 455))] [] μ) (kf : ¬ (s0 = 0) → JS Z X 7 [(0, .ref (Z.2.2.1 + 455)), (1, .int a1), (2, .int a2)] [] μ) :
    JS Z X 4 [(0, .ref (Z.2.2.1 + 455)), (1, .int a1), (2, .int a2)] [.int s0] μ := by
  refine J_if_eq (tgt := 16) E dX12_kinds_4 (by decide) (fun c => ?_) (fun c => ?_)
  · refine J.weak [0] rfl ?_
    exact kt c
  · exact kf c
theorem bX12_kinds_7 {Z : ZT} {X : XT} {μ : Mu} {a1 : Int32} {a2 : Int32} (E : Ent Z X mX12_kinds 0 0) {p : Int32 → Mu → Prop} 
    (c : CtrS Z mX12_in [.int a2, .int (nI 0), .int (nI 5)] μ (rI p)) (k : ∀ v μ1, p v μ1 → JS Z X 13 [(0, .ref (Z.2.2.1 + 455)), (1, .int a1), (2, .int a2)] [.int v] μ1) :
    JS Z X 7 [(0, .ref (Z.2.2.1 + 455)), (1, .int a1), (2, .int a2)] [] μ := by
  refine J_iload_n E dX12_kinds_7 rfl ?_
  refine J_iconst (v := nI 0) E dX12_kinds_8 rfl ?_
  refine J_iconst (v := nI 5) E dX12_kinds_9 rfl ?_
  refine S_callS (As := [.int a2, .int (nI 0), .int (nI 5)]) (rest := []) E dX12_kinds_10 c kX12_in ⟨Nat.le_of_ble_eq_true rfl, Nat.le_of_ble_eq_true rfl⟩ rfl (Nat.le_of_ble_eq_true rfl) w6_67 w6_68 (fun r_ μ1 hp_ => ?_)
  obtain ⟨v, rfl, hp_⟩ := hp_
  exact k v μ1 hp_
theorem bX12_kinds_13 {Z : ZT} {X : XT} {μ : Mu} {a1 : Int32} {a2 : Int32} {s0 : Int32} (E : Ent Z X mX12_kinds 0 0)  
    (kt : ¬ s0 = 0 → JS Z X 23 [(0, .ref (Z.2.2.1 + 455)), (1, .int a1), (2, .int a2)] [] μ) (kf : s0 = 0 → JS Z X 16 [(0, .ref (Z.2.2.1 + 455))] [] μ) :
    JS Z X 13 [(0, .ref (Z.2.2.1 + 455)), (1, .int a1), (2, .int a2)] [.int s0] μ := by
  refine J_if_ne (tgt := 23) E dX12_kinds_13 (by decide) (fun c => ?_) (fun c => ?_)
  · exact kt c
  · refine J.weak [0] rfl ?_
    exact kf c
theorem bX12_kinds_16 {Z : ZT} {X : XT} {μ : Mu} (E : Ent Z X mX12_kinds 0 0) {p : Int32 → Mu → Prop} 
    (c : CtrS Z mX12_refuse [.ref (Z.2.2.1 + 455), .int (-2)] μ (rI p)) (k : ∀ v μ1, p v μ1 → JS Z X 22 [] [.int v] μ1) :
    JS Z X 16 [(0, .ref (Z.2.2.1 + 455))] [] μ := by
  refine J_aload_n E dX12_kinds_16 rfl ?_
  refine J_bipush (v := -2) E dX12_kinds_17 rfl ?_
  refine S_callV (As := [.int (-2)]) (rest := []) E dX12_kinds_19 c kX12_refuse ⟨Nat.le_of_ble_eq_true rfl, Nat.le_of_ble_eq_true rfl⟩ rfl (Nat.le_of_ble_eq_true rfl) sh455 rfl rfl w6_51 w6_53 wp_30 (fun r_ μ1 hp_ => ?_)
  obtain ⟨v, rfl, hp_⟩ := hp_
  refine J.weak [] rfl ?_
  exact k v μ1 hp_
theorem bX12_kinds_22 {Z : ZT} {X : XT} {μ : Mu} {s0 : Int32} (E : Ent Z X mX12_kinds 0 0) {P : Option Value → Mu → Prop} (hB : BodS Z X P) 
    (k : P (some (.int s0)) μ) :
    JS Z X 22 [] [.int s0] μ := by
  exact S_iret E hB dX12_kinds_22 rfl k
theorem bX12_kinds_23 {Z : ZT} {X : XT} {μ : Mu} {a1 : Int32} {a2 : Int32} (E : Ent Z X mX12_kinds 0 0) {p : Int32 → Mu → Prop} 
    (c : CtrS Z mX12_isHunt [.ref (Z.2.2.1 + 455), .int a1] μ (rI p)) (k : ∀ v μ1, p v μ1 → JS Z X 28 [(0, .ref (Z.2.2.1 + 455)), (1, .int a1), (2, .int a2)] [.int v] μ1) :
    JS Z X 23 [(0, .ref (Z.2.2.1 + 455)), (1, .int a1), (2, .int a2)] [] μ := by
  refine J_aload_n E dX12_kinds_23 rfl ?_
  refine J_iload_n E dX12_kinds_24 rfl ?_
  refine S_callV (As := [.int a1]) (rest := []) E dX12_kinds_25 c kX12_isHunt ⟨Nat.le_of_ble_eq_true rfl, Nat.le_of_ble_eq_true rfl⟩ rfl (Nat.le_of_ble_eq_true rfl) sh455 rfl rfl w6_197 w6_199 wp_47 (fun r_ μ1 hp_ => ?_)
  obtain ⟨v, rfl, hp_⟩ := hp_
  exact k v μ1 hp_
theorem bX12_kinds_28 {Z : ZT} {X : XT} {μ : Mu} {a1 : Int32} {a2 : Int32} {s0 : Int32} (E : Ent Z X mX12_kinds 0 0)  
    (kt : ¬ s0 = 0 → JS Z X 38 [(0, .ref (Z.2.2.1 + 455)), (1, .int a1), (2, .int a2)] [] μ) (kf : s0 = 0 → JS Z X 31 [(0, .ref (Z.2.2.1 + 455))] [] μ) :
    JS Z X 28 [(0, .ref (Z.2.2.1 + 455)), (1, .int a1), (2, .int a2)] [.int s0] μ := by
  refine J_if_ne (tgt := 38) E dX12_kinds_28 (by decide) (fun c => ?_) (fun c => ?_)
  · exact kt c
  · refine J.weak [0] rfl ?_
    exact kf c
theorem bX12_kinds_31 {Z : ZT} {X : XT} {μ : Mu} (E : Ent Z X mX12_kinds 0 0) {p : Int32 → Mu → Prop} 
    (c : CtrS Z mX12_refuse [.ref (Z.2.2.1 + 455), .int (-3)] μ (rI p)) (k : ∀ v μ1, p v μ1 → JS Z X 37 [] [.int v] μ1) :
    JS Z X 31 [(0, .ref (Z.2.2.1 + 455))] [] μ := by
  refine J_aload_n E dX12_kinds_31 rfl ?_
  refine J_bipush (v := -3) E dX12_kinds_32 rfl ?_
  refine S_callV (As := [.int (-3)]) (rest := []) E dX12_kinds_34 c kX12_refuse ⟨Nat.le_of_ble_eq_true rfl, Nat.le_of_ble_eq_true rfl⟩ rfl (Nat.le_of_ble_eq_true rfl) sh455 rfl rfl w6_51 w6_53 wp_30 (fun r_ μ1 hp_ => ?_)
  obtain ⟨v, rfl, hp_⟩ := hp_
  refine J.weak [] rfl ?_
  exact k v μ1 hp_
theorem bX12_kinds_37 {Z : ZT} {X : XT} {μ : Mu} {s0 : Int32} (E : Ent Z X mX12_kinds 0 0) {P : Option Value → Mu → Prop} (hB : BodS Z X P) 
    (k : P (some (.int s0)) μ) :
    JS Z X 37 [] [.int s0] μ := by
  exact S_iret E hB dX12_kinds_37 rfl k
theorem bX12_kinds_38 {Z : ZT} {X : XT} {μ : Mu} {a1 : Int32} {a2 : Int32} (E : Ent Z X mX12_kinds 0 0)  
    (k : JS Z X 40 [(0, .ref (Z.2.2.1 + 455)), (1, .int a1), (2, .int a2), (3, .int (nI 0))] [] μ) :
    JS Z X 38 [(0, .ref (Z.2.2.1 + 455)), (1, .int a1), (2, .int a2)] [] μ := by
  refine J_iconst (v := nI 0) E dX12_kinds_38 rfl ?_
  refine J_istore_n (lv' := [(0, .ref (Z.2.2.1 + 455)), (1, .int a1), (2, .int a2), (3, .int (nI 0))]) E dX12_kinds_39 (Nat.le_of_ble_eq_true rfl) rfl ?_
  exact k
theorem bX12_kinds_40 {Z : ZT} {X : XT} {μ : Mu} {a1 : Int32} {a2 : Int32} {a3 : Int32} (E : Ent Z X mX12_kinds 0 0)  
    (kt : ((nI 4) * (μ 455 13)) ≤ a3 → JS Z X 183 [(0, .ref (Z.2.2.1 + 455)), (1, .int a1), (2, .int a2)] [] μ) (kf : ¬ (((nI 4) * (μ 455 13)) ≤ a3) → JS Z X 50 [(0, .ref (Z.2.2.1 + 455)), (1, .int a1), (2, .int a2), (3, .int a3)] [] μ) :
    JS Z X 40 [(0, .ref (Z.2.2.1 + 455)), (1, .int a1), (2, .int a2), (3, .int a3)] [] μ := by
  refine J_iload_n E dX12_kinds_40 rfl ?_
  refine J_iconst (v := nI 4) E dX12_kinds_41 rfl ?_
  refine J_aload_n E dX12_kinds_42 rfl ?_
  refine S_get (ci := 12) (q := 13) (v := .int (μ 455 13)) E dX12_kinds_43 fs_X12_168 sh455 rfl ?_
  refine J_imul E dX12_kinds_46 ?_
  refine J_icmp_ge (tgt := 183) E dX12_kinds_47 (by decide) (fun c => ?_) (fun c => ?_)
  · refine J.weak [0, 1, 2] rfl ?_
    exact kt c
  · exact kf c
theorem bX12_kinds_50 {Z : ZT} {X : XT} {μ : Mu} {a1 : Int32} {a2 : Int32} {a3 : Int32} (E : Ent Z X mX12_kinds 0 0) {p : Int32 → Mu → Prop} (s1_ : vp_in (a3 / (nI 4)) 6)
    (c : CtrS Z mX12_missesAt [.ref (Z.2.2.1 + 455), .int a1, .int (a3 - a3 / (nI 4) * (nI 4)), .int (μ 463 (ix (a3 / (nI 4))))] μ (rI p)) (k : ∀ v μ1, p v μ1 → JS Z X 66 [(0, .ref (Z.2.2.1 + 455)), (1, .int a1), (2, .int a2), (3, .int a3)] [.int v] μ1) :
    JS Z X 50 [(0, .ref (Z.2.2.1 + 455)), (1, .int a1), (2, .int a2), (3, .int a3)] [] μ := by
  refine J_aload_n E dX12_kinds_50 rfl ?_
  refine J_iload_n E dX12_kinds_51 rfl ?_
  refine J_iload_n E dX12_kinds_52 rfl ?_
  refine J_iconst (v := nI 4) E dX12_kinds_53 rfl ?_
  refine J_irem E dX12_kinds_54 (by decide) ?_
  refine J_aload_n E dX12_kinds_55 rfl ?_
  refine S_get (ci := 12) (q := 15) (v := .ref (Z.2.2.1 + 463)) E dX12_kinds_56 fs_X12_33 sh455 rfl ?_
  refine J_iload_n E dX12_kinds_59 rfl ?_
  refine J_iconst (v := nI 4) E dX12_kinds_60 rfl ?_
  refine J_idiv E dX12_kinds_61 (by decide) ?_
  refine S_iald E dX12_kinds_62 sh463 s1_ ?_
  refine S_callV (As := [.int a1, .int (a3 - a3 / (nI 4) * (nI 4)), .int (μ 463 (ix (a3 / (nI 4))))]) (rest := []) E dX12_kinds_63 c kX12_missesAt ⟨Nat.le_of_ble_eq_true rfl, Nat.le_of_ble_eq_true rfl⟩ rfl (Nat.le_of_ble_eq_true rfl) sh455 rfl rfl w6_222 w6_224 wp_53 (fun r_ μ1 hp_ => ?_)
  obtain ⟨v, rfl, hp_⟩ := hp_
  exact k v μ1 hp_
theorem bX12_kinds_66 {Z : ZT} {X : XT} {μ : Mu} {a1 : Int32} {a2 : Int32} {a3 : Int32} {s0 : Int32} (E : Ent Z X mX12_kinds 0 0) {p : Mu → Prop} (s1_ : vp_in (nI 201) 988)
    (c : CtrS Z mX12_meanTo [.ref (Z.2.2.1 + 455), .int ((nI 100) + a3), .int s0, .int (μ 456 (ix (nI 201)))] μ (rV p)) (k : ∀ μ1, p μ1 → JS Z X 86 [(0, .ref (Z.2.2.1 + 455)), (1, .int a1), (2, .int a2), (3, .int a3)] [] μ1) :
    JS Z X 66 [(0, .ref (Z.2.2.1 + 455)), (1, .int a1), (2, .int a2), (3, .int a3)] [.int s0] μ := by
  refine J_istore (lv' := [(0, .ref (Z.2.2.1 + 455)), (1, .int a1), (2, .int a2), (3, .int a3), (4, .int s0)]) E dX12_kinds_66 (Nat.le_of_ble_eq_true rfl) rfl ?_
  refine J_aload_n E dX12_kinds_68 rfl ?_
  refine J_bipush (v := nI 100) E dX12_kinds_69 rfl ?_
  refine J_iload_n E dX12_kinds_71 rfl ?_
  refine J_iadd E dX12_kinds_72 ?_
  refine J_iload E dX12_kinds_73 rfl ?_
  refine J_aload_n E dX12_kinds_75 rfl ?_
  refine S_get (ci := 12) (q := 0) (v := .ref (Z.2.2.1 + 456)) E dX12_kinds_76 fs_X12_7 sh455 rfl ?_
  refine J_sipush (v := nI 201) E dX12_kinds_79 rfl ?_
  refine S_iald E dX12_kinds_82 sh456 s1_ ?_
  refine S_callV (As := [.int ((nI 100) + a3), .int s0, .int (μ 456 (ix (nI 201)))]) (rest := []) E dX12_kinds_83 c kX12_meanTo ⟨Nat.le_of_ble_eq_true rfl, Nat.le_of_ble_eq_true rfl⟩ rfl (Nat.le_of_ble_eq_true rfl) sh455 rfl rfl w7_35 w7_37 wp_65 (fun r_ μ1 hp_ => ?_)
  obtain ⟨rfl, hp_⟩ := hp_
  refine J.weak [0, 1, 2, 3] rfl ?_
  exact k μ1 hp_
theorem bX12_kinds_86 {Z : ZT} {X : XT} {μ : Mu} {a1 : Int32} {a2 : Int32} {a3 : Int32} (E : Ent Z X mX12_kinds 0 0)  
    (k : JS Z X 89 [(0, .ref (Z.2.2.1 + 455)), (1, .int a1), (2, .int a2), (3, .int a3), (5, .int (nI 0))] [] μ) :
    JS Z X 86 [(0, .ref (Z.2.2.1 + 455)), (1, .int a1), (2, .int a2), (3, .int a3)] [] μ := by
  refine J_iconst (v := nI 0) E dX12_kinds_86 rfl ?_
  refine J_istore (lv' := [(0, .ref (Z.2.2.1 + 455)), (1, .int a1), (2, .int a2), (3, .int a3), (5, .int (nI 0))]) E dX12_kinds_87 (Nat.le_of_ble_eq_true rfl) rfl ?_
  exact k
theorem bX12_kinds_89 {Z : ZT} {X : XT} {μ : Mu} {a1 : Int32} {a2 : Int32} {a3 : Int32} {a5 : Int32} (E : Ent Z X mX12_kinds 0 0)  (s1_ : vp_in (nI 111) 988)
    (kt : (μ 456 (ix (nI 111))) ≤ a5 → JS Z X 177 [(0, .ref (Z.2.2.1 + 455)), (1, .int a1), (2, .int a2), (3, .int a3)] [] μ) (kf : ¬ ((μ 456 (ix (nI 111))) ≤ a5) → JS Z X 101 [(0, .ref (Z.2.2.1 + 455)), (1, .int a1), (2, .int a2), (3, .int a3), (5, .int a5)] [] μ) :
    JS Z X 89 [(0, .ref (Z.2.2.1 + 455)), (1, .int a1), (2, .int a2), (3, .int a3), (5, .int a5)] [] μ := by
  refine J_iload E dX12_kinds_89 rfl ?_
  refine J_aload_n E dX12_kinds_91 rfl ?_
  refine S_get (ci := 12) (q := 0) (v := .ref (Z.2.2.1 + 456)) E dX12_kinds_92 fs_X12_7 sh455 rfl ?_
  refine J_bipush (v := nI 111) E dX12_kinds_95 rfl ?_
  refine S_iald E dX12_kinds_97 sh456 s1_ ?_
  refine J_icmp_ge (tgt := 177) E dX12_kinds_98 (by decide) (fun c => ?_) (fun c => ?_)
  · refine J.weak [0, 1, 2, 3] rfl ?_
    exact kt c
  · exact kf c
theorem bX12_kinds_101 {Z : ZT} {X : XT} {μ : Mu} {a1 : Int32} {a2 : Int32} {a3 : Int32} {a5 : Int32} (E : Ent Z X mX12_kinds 0 0) {p : Mu → Prop} 
    (c : CtrS Z mX12_copy [.ref (Z.2.2.1 + 455), .int ((nI 100) + a3), .int (((nI 130) + ((nI 6) * a3)) + a5)] μ (rV p)) (k : ∀ μ1, p μ1 → JS Z X 120 [(0, .ref (Z.2.2.1 + 455)), (1, .int a1), (2, .int a2), (3, .int a3), (5, .int a5)] [] μ1) :
    JS Z X 101 [(0, .ref (Z.2.2.1 + 455)), (1, .int a1), (2, .int a2), (3, .int a3), (5, .int a5)] [] μ := by
  refine J_aload_n E dX12_kinds_101 rfl ?_
  refine J_bipush (v := nI 100) E dX12_kinds_102 rfl ?_
  refine J_iload_n E dX12_kinds_104 rfl ?_
  refine J_iadd E dX12_kinds_105 ?_
  refine J_sipush (v := nI 130) E dX12_kinds_106 rfl ?_
  refine J_bipush (v := nI 6) E dX12_kinds_109 rfl ?_
  refine J_iload_n E dX12_kinds_111 rfl ?_
  refine J_imul E dX12_kinds_112 ?_
  refine J_iadd E dX12_kinds_113 ?_
  refine J_iload E dX12_kinds_114 rfl ?_
  refine J_iadd E dX12_kinds_116 ?_
  refine S_callV (As := [.int ((nI 100) + a3), .int (((nI 130) + ((nI 6) * a3)) + a5)]) (rest := []) E dX12_kinds_117 c kX12_copy ⟨Nat.le_of_ble_eq_true rfl, Nat.le_of_ble_eq_true rfl⟩ rfl (Nat.le_of_ble_eq_true rfl) sh455 rfl rfl w6_238 w7_0 wp_57 (fun r_ μ1 hp_ => ?_)
  obtain ⟨rfl, hp_⟩ := hp_
  exact k μ1 hp_
theorem bX12_kinds_120 {Z : ZT} {X : XT} {μ : Mu} {a1 : Int32} {a2 : Int32} {a3 : Int32} {a5 : Int32} (E : Ent Z X mX12_kinds 0 0)  (s1_ : vp_in ((nI 148) + a5) 988)
    (kt : ¬ (μ 456 (ix ((nI 148) + a5))) = a1 → JS Z X 167 [(0, .ref (Z.2.2.1 + 455)), (1, .int a1), (2, .int a2), (3, .int a3), (5, .int a5)] [.int (((nI 130) + ((nI 6) * a3)) + a5), .ref (Z.2.2.1 + 455)] μ) (kf : (μ 456 (ix ((nI 148) + a5))) = a1 → JS Z X 147 [(0, .ref (Z.2.2.1 + 455)), (1, .int a1), (2, .int a2), (3, .int a3), (5, .int a5)] [.int (((nI 130) + ((nI 6) * a3)) + a5), .ref (Z.2.2.1 + 455)] μ) :
    JS Z X 120 [(0, .ref (Z.2.2.1 + 455)), (1, .int a1), (2, .int a2), (3, .int a3), (5, .int a5)] [] μ := by
  refine J_aload_n E dX12_kinds_120 rfl ?_
  refine J_sipush (v := nI 130) E dX12_kinds_121 rfl ?_
  refine J_bipush (v := nI 6) E dX12_kinds_124 rfl ?_
  refine J_iload_n E dX12_kinds_126 rfl ?_
  refine J_imul E dX12_kinds_127 ?_
  refine J_iadd E dX12_kinds_128 ?_
  refine J_iload E dX12_kinds_129 rfl ?_
  refine J_iadd E dX12_kinds_131 ?_
  refine J_aload_n E dX12_kinds_132 rfl ?_
  refine S_get (ci := 12) (q := 0) (v := .ref (Z.2.2.1 + 456)) E dX12_kinds_133 fs_X12_7 sh455 rfl ?_
  refine J_sipush (v := nI 148) E dX12_kinds_136 rfl ?_
  refine J_iload E dX12_kinds_139 rfl ?_
  refine J_iadd E dX12_kinds_141 ?_
  refine S_iald E dX12_kinds_142 sh456 s1_ ?_
  refine J_iload_n E dX12_kinds_143 rfl ?_
  refine J_icmp_ne (tgt := 167) E dX12_kinds_144 (by decide) (fun c => ?_) (fun c => ?_)
  · exact kt c
  · exact kf c
theorem bX12_kinds_147 {Z : ZT} {X : XT} {μ : Mu} {a1 : Int32} {a2 : Int32} {a3 : Int32} {a5 : Int32} {s1 : Int32} (E : Ent Z X mX12_kinds 0 0) {p : Int32 → Mu → Prop} (s1_ : vp_in (a3 / (nI 4)) 6)
    (c : CtrS Z mX12_guessesAt [.ref (Z.2.2.1 + 455), .int a5, .int (a3 - a3 / (nI 4) * (nI 4)), .int (μ 463 (ix (a3 / (nI 4))))] μ (rI p)) (k : ∀ v μ1, p v μ1 → JS Z X 164 [(0, .ref (Z.2.2.1 + 455)), (1, .int a1), (2, .int a2), (3, .int a3), (5, .int a5)] [.int v, .int s1, .ref (Z.2.2.1 + 455)] μ1) :
    JS Z X 147 [(0, .ref (Z.2.2.1 + 455)), (1, .int a1), (2, .int a2), (3, .int a3), (5, .int a5)] [.int s1, .ref (Z.2.2.1 + 455)] μ := by
  refine J_aload_n E dX12_kinds_147 rfl ?_
  refine J_iload E dX12_kinds_148 rfl ?_
  refine J_iload_n E dX12_kinds_150 rfl ?_
  refine J_iconst (v := nI 4) E dX12_kinds_151 rfl ?_
  refine J_irem E dX12_kinds_152 (by decide) ?_
  refine J_aload_n E dX12_kinds_153 rfl ?_
  refine S_get (ci := 12) (q := 15) (v := .ref (Z.2.2.1 + 463)) E dX12_kinds_154 fs_X12_33 sh455 rfl ?_
  refine J_iload_n E dX12_kinds_157 rfl ?_
  refine J_iconst (v := nI 4) E dX12_kinds_158 rfl ?_
  refine J_idiv E dX12_kinds_159 (by decide) ?_
  refine S_iald E dX12_kinds_160 sh463 s1_ ?_
  refine S_callV (As := [.int a5, .int (a3 - a3 / (nI 4) * (nI 4)), .int (μ 463 (ix (a3 / (nI 4))))]) (rest := [.int s1, .ref (Z.2.2.1 + 455)]) E dX12_kinds_161 c kX12_guessesAt ⟨Nat.le_of_ble_eq_true rfl, Nat.le_of_ble_eq_true rfl⟩ rfl (Nat.le_of_ble_eq_true rfl) sh455 rfl rfl w7_71 w7_73 wp_71 (fun r_ μ1 hp_ => ?_)
  obtain ⟨v, rfl, hp_⟩ := hp_
  exact k v μ1 hp_
theorem bX12_kinds_164 {Z : ZT} {X : XT} {μ : Mu} {a1 : Int32} {a2 : Int32} {a3 : Int32} {a5 : Int32} {s1 : Int32} {s2 : Int32} (E : Ent Z X mX12_kinds 0 0)  
    (k : JS Z X 168 [(0, .ref (Z.2.2.1 + 455)), (1, .int a1), (2, .int a2), (3, .int a3), (5, .int a5)] [.int s2, .int s1, .ref (Z.2.2.1 + 455)] μ) :
    JS Z X 164 [(0, .ref (Z.2.2.1 + 455)), (1, .int a1), (2, .int a2), (3, .int a3), (5, .int a5)] [.int s2, .int s1, .ref (Z.2.2.1 + 455)] μ := by
  refine J_goto (tgt := 168) E dX12_kinds_164 (by decide) ?_
  exact k
theorem bX12_kinds_167 {Z : ZT} {X : XT} {μ : Mu} {a1 : Int32} {a2 : Int32} {a3 : Int32} {a5 : Int32} {s1 : Int32} (E : Ent Z X mX12_kinds 0 0)  
    (k : JS Z X 168 [(0, .ref (Z.2.2.1 + 455)), (1, .int a1), (2, .int a2), (3, .int a3), (5, .int a5)] [.int (nI 0), .int s1, .ref (Z.2.2.1 + 455)] μ) :
    JS Z X 167 [(0, .ref (Z.2.2.1 + 455)), (1, .int a1), (2, .int a2), (3, .int a3), (5, .int a5)] [.int s1, .ref (Z.2.2.1 + 455)] μ := by
  refine J_iconst (v := nI 0) E dX12_kinds_167 rfl ?_
  exact k
theorem bX12_kinds_168 {Z : ZT} {X : XT} {μ : Mu} {a1 : Int32} {a2 : Int32} {a3 : Int32} {a5 : Int32} {s1 : Int32} {s2 : Int32} (E : Ent Z X mX12_kinds 0 0) {p : Mu → Prop} 
    (c : CtrS Z mX12_times [.ref (Z.2.2.1 + 455), .int s1, .int s2] μ (rV p)) (k : ∀ μ1, p μ1 → JS Z X 171 [(0, .ref (Z.2.2.1 + 455)), (1, .int a1), (2, .int a2), (3, .int a3), (5, .int a5)] [] μ1) :
    JS Z X 168 [(0, .ref (Z.2.2.1 + 455)), (1, .int a1), (2, .int a2), (3, .int a3), (5, .int a5)] [.int s2, .int s1, .ref (Z.2.2.1 + 455)] μ := by
  refine S_callV (As := [.int s1, .int s2]) (rest := []) E dX12_kinds_168 c kX12_times ⟨Nat.le_of_ble_eq_true rfl, Nat.le_of_ble_eq_true rfl⟩ rfl (Nat.le_of_ble_eq_true rfl) sh455 rfl rfl w7_15 w7_17 wp_61 (fun r_ μ1 hp_ => ?_)
  obtain ⟨rfl, hp_⟩ := hp_
  exact k μ1 hp_
theorem bX12_kinds_171 {Z : ZT} {X : XT} {μ : Mu} {a1 : Int32} {a2 : Int32} {a3 : Int32} {a5 : Int32} (E : Ent Z X mX12_kinds 0 0)  
    (k : JS Z X 89 [(0, .ref (Z.2.2.1 + 455)), (1, .int a1), (2, .int a2), (3, .int a3), (5, .int (a5 + nI 1))] [] μ) :
    JS Z X 171 [(0, .ref (Z.2.2.1 + 455)), (1, .int a1), (2, .int a2), (3, .int a3), (5, .int a5)] [] μ := by
  refine J_iinc (v := a5 + nI 1) (lv' := [(0, .ref (Z.2.2.1 + 455)), (1, .int a1), (2, .int a2), (3, .int a3), (5, .int (a5 + nI 1))]) E dX12_kinds_171 rfl rfl (Nat.le_of_ble_eq_true rfl) rfl ?_
  refine J_goto (tgt := 89) E dX12_kinds_174 (by decide) ?_
  exact k
theorem bX12_kinds_177 {Z : ZT} {X : XT} {μ : Mu} {a1 : Int32} {a2 : Int32} {a3 : Int32} (E : Ent Z X mX12_kinds 0 0)  
    (k : JS Z X 40 [(0, .ref (Z.2.2.1 + 455)), (1, .int a1), (2, .int a2), (3, .int (a3 + nI 1))] [] μ) :
    JS Z X 177 [(0, .ref (Z.2.2.1 + 455)), (1, .int a1), (2, .int a2), (3, .int a3)] [] μ := by
  refine J_iinc (v := a3 + nI 1) (lv' := [(0, .ref (Z.2.2.1 + 455)), (1, .int a1), (2, .int a2), (3, .int (a3 + nI 1))]) E dX12_kinds_177 rfl rfl (Nat.le_of_ble_eq_true rfl) rfl ?_
  refine J_goto (tgt := 40) E dX12_kinds_180 (by decide) ?_
  exact k
theorem bX12_kinds_183 {Z : ZT} {X : XT} {μ : Mu} {a1 : Int32} {a2 : Int32} (E : Ent Z X mX12_kinds 0 0)  
    (k : JS Z X 188 [(0, .ref (Z.2.2.1 + 455)), (1, .int a1), (2, .int a2), (3, .int (nI 1)), (4, .int (nI 0))] [] μ) :
    JS Z X 183 [(0, .ref (Z.2.2.1 + 455)), (1, .int a1), (2, .int a2)] [] μ := by
  refine J_iconst (v := nI 1) E dX12_kinds_183 rfl ?_
  refine J_istore_n (lv' := [(0, .ref (Z.2.2.1 + 455)), (1, .int a1), (2, .int a2), (3, .int (nI 1))]) E dX12_kinds_184 (Nat.le_of_ble_eq_true rfl) rfl ?_
  refine J_iconst (v := nI 0) E dX12_kinds_185 rfl ?_
  refine J_istore (lv' := [(0, .ref (Z.2.2.1 + 455)), (1, .int a1), (2, .int a2), (3, .int (nI 1)), (4, .int (nI 0))]) E dX12_kinds_186 (Nat.le_of_ble_eq_true rfl) rfl ?_
  exact k
theorem bX12_kinds_188 {Z : ZT} {X : XT} {μ : Mu} {a1 : Int32} {a2 : Int32} {a3 : Int32} {a4 : Int32} (E : Ent Z X mX12_kinds 0 0)  
    (kt : (μ 455 13) ≤ a4 → JS Z X 207 [(0, .ref (Z.2.2.1 + 455)), (1, .int a1), (2, .int a2), (3, .int a3)] [] μ) (kf : ¬ ((μ 455 13) ≤ a4) → JS Z X 197 [(0, .ref (Z.2.2.1 + 455)), (1, .int a1), (2, .int a2), (3, .int a3), (4, .int a4)] [] μ) :
    JS Z X 188 [(0, .ref (Z.2.2.1 + 455)), (1, .int a1), (2, .int a2), (3, .int a3), (4, .int a4)] [] μ := by
  refine J_iload E dX12_kinds_188 rfl ?_
  refine J_aload_n E dX12_kinds_190 rfl ?_
  refine S_get (ci := 12) (q := 13) (v := .int (μ 455 13)) E dX12_kinds_191 fs_X12_168 sh455 rfl ?_
  refine J_icmp_ge (tgt := 207) E dX12_kinds_194 (by decide) (fun c => ?_) (fun c => ?_)
  · refine J.weak [0, 1, 2, 3] rfl ?_
    exact kt c
  · exact kf c
theorem bX12_kinds_197 {Z : ZT} {X : XT} {μ : Mu} {a1 : Int32} {a2 : Int32} {a3 : Int32} {a4 : Int32} (E : Ent Z X mX12_kinds 0 0)  
    (k : JS Z X 188 [(0, .ref (Z.2.2.1 + 455)), (1, .int a1), (2, .int a2), (3, .int (a3 * (nI 4))), (4, .int (a4 + nI 1))] [] μ) :
    JS Z X 197 [(0, .ref (Z.2.2.1 + 455)), (1, .int a1), (2, .int a2), (3, .int a3), (4, .int a4)] [] μ := by
  refine J_iload_n E dX12_kinds_197 rfl ?_
  refine J_iconst (v := nI 4) E dX12_kinds_198 rfl ?_
  refine J_imul E dX12_kinds_199 ?_
  refine J_istore_n (lv' := [(0, .ref (Z.2.2.1 + 455)), (1, .int a1), (2, .int a2), (3, .int (a3 * (nI 4))), (4, .int a4)]) E dX12_kinds_200 (Nat.le_of_ble_eq_true rfl) rfl ?_
  refine J_iinc (v := a4 + nI 1) (lv' := [(0, .ref (Z.2.2.1 + 455)), (1, .int a1), (2, .int a2), (3, .int (a3 * (nI 4))), (4, .int (a4 + nI 1))]) E dX12_kinds_201 rfl rfl (Nat.le_of_ble_eq_true rfl) rfl ?_
  refine J_goto (tgt := 188) E dX12_kinds_204 (by decide) ?_
  exact k
theorem bX12_kinds_207 {Z : ZT} {X : XT} {μ : Mu} {a1 : Int32} {a2 : Int32} {a3 : Int32} (E : Ent Z X mX12_kinds 0 0)  
    (k : JS Z X 213 [(0, .ref (Z.2.2.1 + 455)), (1, .int a1), (2, .int a2), (3, .int a3), (4, .int (-1)), (5, .int (nI 0))] [] μ) :
    JS Z X 207 [(0, .ref (Z.2.2.1 + 455)), (1, .int a1), (2, .int a2), (3, .int a3)] [] μ := by
  refine J_iconst (v := -1) E dX12_kinds_207 rfl ?_
  refine J_istore (lv' := [(0, .ref (Z.2.2.1 + 455)), (1, .int a1), (2, .int a2), (3, .int a3), (4, .int (-1))]) E dX12_kinds_208 (Nat.le_of_ble_eq_true rfl) rfl ?_
  refine J_iconst (v := nI 0) E dX12_kinds_210 rfl ?_
  refine J_istore (lv' := [(0, .ref (Z.2.2.1 + 455)), (1, .int a1), (2, .int a2), (3, .int a3), (4, .int (-1)), (5, .int (nI 0))]) E dX12_kinds_211 (Nat.le_of_ble_eq_true rfl) rfl ?_
  exact k
theorem bX12_kinds_213 {Z : ZT} {X : XT} {μ : Mu} {a1 : Int32} {a2 : Int32} {a3 : Int32} {a4 : Int32} {a5 : Int32} (E : Ent Z X mX12_kinds 0 0)  
    (kt : a3 ≤ a5 → JS Z X 289 [(0, .ref (Z.2.2.1 + 455)), (2, .int a2), (4, .int a4)] [] μ) (kf : ¬ (a3 ≤ a5) → JS Z X 219 [(0, .ref (Z.2.2.1 + 455)), (1, .int a1), (2, .int a2), (3, .int a3), (4, .int a4), (5, .int a5)] [] μ) :
    JS Z X 213 [(0, .ref (Z.2.2.1 + 455)), (1, .int a1), (2, .int a2), (3, .int a3), (4, .int a4), (5, .int a5)] [] μ := by
  refine J_iload E dX12_kinds_213 rfl ?_
  refine J_iload_n E dX12_kinds_215 rfl ?_
  refine J_icmp_ge (tgt := 289) E dX12_kinds_216 (by decide) (fun c => ?_) (fun c => ?_)
  · refine J.weak [0, 2, 4] rfl ?_
    exact kt c
  · exact kf c
theorem bX12_kinds_219 {Z : ZT} {X : XT} {μ : Mu} {a1 : Int32} {a2 : Int32} {a3 : Int32} {a4 : Int32} {a5 : Int32} (E : Ent Z X mX12_kinds 0 0) {p : Mu → Prop} 
    (c : CtrS Z mX12_tryKinds [.ref (Z.2.2.1 + 455), .int a1, .int a5] μ (rV p)) (k : ∀ μ1, p μ1 → JS Z X 226 [(0, .ref (Z.2.2.1 + 455)), (1, .int a1), (2, .int a2), (3, .int a3), (4, .int a4), (5, .int a5)] [] μ1) :
    JS Z X 219 [(0, .ref (Z.2.2.1 + 455)), (1, .int a1), (2, .int a2), (3, .int a3), (4, .int a4), (5, .int a5)] [] μ := by
  refine J_aload_n E dX12_kinds_219 rfl ?_
  refine J_iload_n E dX12_kinds_220 rfl ?_
  refine J_iload E dX12_kinds_221 rfl ?_
  refine S_callV (As := [.int a1, .int a5]) (rest := []) E dX12_kinds_223 c kX12_tryKinds ⟨Nat.le_of_ble_eq_true rfl, Nat.le_of_ble_eq_true rfl⟩ rfl (Nat.le_of_ble_eq_true rfl) sh455 rfl rfl w7_112 w7_114 wp_78 (fun r_ μ1 hp_ => ?_)
  obtain ⟨rfl, hp_⟩ := hp_
  exact k μ1 hp_
theorem bX12_kinds_226 {Z : ZT} {X : XT} {μ : Mu} {a1 : Int32} {a2 : Int32} {a3 : Int32} {a4 : Int32} {a5 : Int32} (E : Ent Z X mX12_kinds 0 0)  
    (kt : ¬ a4 = (-1) → JS Z X 236 [(0, .ref (Z.2.2.1 + 455)), (1, .int a1), (2, .int a2), (3, .int a3), (4, .int a4), (5, .int a5)] [] μ) (kf : a4 = (-1) → JS Z X 232 [(0, .ref (Z.2.2.1 + 455)), (1, .int a1), (2, .int a2), (3, .int a3), (4, .int a4), (5, .int a5)] [] μ) :
    JS Z X 226 [(0, .ref (Z.2.2.1 + 455)), (1, .int a1), (2, .int a2), (3, .int a3), (4, .int a4), (5, .int a5)] [] μ := by
  refine J_iload E dX12_kinds_226 rfl ?_
  refine J_iconst (v := -1) E dX12_kinds_228 rfl ?_
  refine J_icmp_ne (tgt := 236) E dX12_kinds_229 (by decide) (fun c => ?_) (fun c => ?_)
  · exact kt c
  · exact kf c
theorem bX12_kinds_232 {Z : ZT} {X : XT} {μ : Mu} {a1 : Int32} {a2 : Int32} {a3 : Int32} {a4 : Int32} {a5 : Int32} (E : Ent Z X mX12_kinds 0 0)  
    (k : JS Z X 243 [(0, .ref (Z.2.2.1 + 455)), (1, .int a1), (2, .int a2), (3, .int a3), (4, .int a4), (5, .int a5)] [.int (nI 1)] μ) :
    JS Z X 232 [(0, .ref (Z.2.2.1 + 455)), (1, .int a1), (2, .int a2), (3, .int a3), (4, .int a4), (5, .int a5)] [] μ := by
  refine J_iconst (v := nI 1) E dX12_kinds_232 rfl ?_
  refine J_goto (tgt := 243) E dX12_kinds_233 (by decide) ?_
  exact k
theorem bX12_kinds_236 {Z : ZT} {X : XT} {μ : Mu} {a1 : Int32} {a2 : Int32} {a3 : Int32} {a4 : Int32} {a5 : Int32} (E : Ent Z X mX12_kinds 0 0) {p : Int32 → Mu → Prop} 
    (c : CtrS Z mX12_compare [.ref (Z.2.2.1 + 455), .int (nI 8), .int (nI 4)] μ (rI p)) (k : ∀ v μ1, p v μ1 → JS Z X 243 [(0, .ref (Z.2.2.1 + 455)), (1, .int a1), (2, .int a2), (3, .int a3), (4, .int a4), (5, .int a5)] [.int v] μ1) :
    JS Z X 236 [(0, .ref (Z.2.2.1 + 455)), (1, .int a1), (2, .int a2), (3, .int a3), (4, .int a4), (5, .int a5)] [] μ := by
  refine J_aload_n E dX12_kinds_236 rfl ?_
  refine J_bipush (v := nI 8) E dX12_kinds_237 rfl ?_
  refine J_iconst (v := nI 4) E dX12_kinds_239 rfl ?_
  refine S_callV (As := [.int (nI 8), .int (nI 4)]) (rest := []) E dX12_kinds_240 c kX12_compare ⟨Nat.le_of_ble_eq_true rfl, Nat.le_of_ble_eq_true rfl⟩ rfl (Nat.le_of_ble_eq_true rfl) sh455 rfl rfl w7_59 w7_61 wp_69 (fun r_ μ1 hp_ => ?_)
  obtain ⟨v, rfl, hp_⟩ := hp_
  exact k v μ1 hp_
theorem bX12_kinds_243 {Z : ZT} {X : XT} {μ : Mu} {a1 : Int32} {a2 : Int32} {a3 : Int32} {a4 : Int32} {a5 : Int32} {s0 : Int32} (E : Ent Z X mX12_kinds 0 0)  
    (kt : 0 < s0 → JS Z X 265 [(0, .ref (Z.2.2.1 + 455)), (1, .int a1), (2, .int a2), (3, .int a3), (5, .int a5)] [] μ) (kf : ¬ (0 < s0) → JS Z X 250 [(0, .ref (Z.2.2.1 + 455)), (1, .int a1), (2, .int a2), (3, .int a3), (4, .int a4), (5, .int a5), (6, .int s0)] [] μ) :
    JS Z X 243 [(0, .ref (Z.2.2.1 + 455)), (1, .int a1), (2, .int a2), (3, .int a3), (4, .int a4), (5, .int a5)] [.int s0] μ := by
  refine J_istore (lv' := [(0, .ref (Z.2.2.1 + 455)), (1, .int a1), (2, .int a2), (3, .int a3), (4, .int a4), (5, .int a5), (6, .int s0)]) E dX12_kinds_243 (Nat.le_of_ble_eq_true rfl) rfl ?_
  refine J_iload E dX12_kinds_245 rfl ?_
  refine J_if_gt (tgt := 265) E dX12_kinds_247 (by decide) (fun c => ?_) (fun c => ?_)
  · refine J.weak [0, 1, 2, 3, 5] rfl ?_
    exact kt c
  · exact kf c
theorem bX12_kinds_250 {Z : ZT} {X : XT} {μ : Mu} {a1 : Int32} {a2 : Int32} {a3 : Int32} {a4 : Int32} {a5 : Int32} {a6 : Int32} (E : Ent Z X mX12_kinds 0 0)  
    (kt : ¬ a6 = 0 → JS Z X 283 [(0, .ref (Z.2.2.1 + 455)), (1, .int a1), (2, .int a2), (3, .int a3), (4, .int a4), (5, .int a5)] [] μ) (kf : a6 = 0 → JS Z X 255 [(0, .ref (Z.2.2.1 + 455)), (1, .int a1), (2, .int a2), (3, .int a3), (4, .int a4), (5, .int a5)] [] μ) :
    JS Z X 250 [(0, .ref (Z.2.2.1 + 455)), (1, .int a1), (2, .int a2), (3, .int a3), (4, .int a4), (5, .int a5), (6, .int a6)] [] μ := by
  refine J_iload E dX12_kinds_250 rfl ?_
  refine J_if_ne (tgt := 283) E dX12_kinds_252 (by decide) (fun c => ?_) (fun c => ?_)
  · refine J.weak [0, 1, 2, 3, 4, 5] rfl ?_
    exact kt c
  · refine J.weak [0, 1, 2, 3, 4, 5] rfl ?_
    exact kf c
theorem bX12_kinds_255 {Z : ZT} {X : XT} {μ : Mu} {a1 : Int32} {a2 : Int32} {a3 : Int32} {a4 : Int32} {a5 : Int32} (E : Ent Z X mX12_kinds 0 0) {p : Int32 → Mu → Prop} 
    (c : CtrS Z mX12_compare [.ref (Z.2.2.1 + 455), .int (nI 9), .int (nI 5)] μ (rI p)) (k : ∀ v μ1, p v μ1 → JS Z X 262 [(0, .ref (Z.2.2.1 + 455)), (1, .int a1), (2, .int a2), (3, .int a3), (4, .int a4), (5, .int a5)] [.int v] μ1) :
    JS Z X 255 [(0, .ref (Z.2.2.1 + 455)), (1, .int a1), (2, .int a2), (3, .int a3), (4, .int a4), (5, .int a5)] [] μ := by
  refine J_aload_n E dX12_kinds_255 rfl ?_
  refine J_bipush (v := nI 9) E dX12_kinds_256 rfl ?_
  refine J_iconst (v := nI 5) E dX12_kinds_258 rfl ?_
  refine S_callV (As := [.int (nI 9), .int (nI 5)]) (rest := []) E dX12_kinds_259 c kX12_compare ⟨Nat.le_of_ble_eq_true rfl, Nat.le_of_ble_eq_true rfl⟩ rfl (Nat.le_of_ble_eq_true rfl) sh455 rfl rfl w7_59 w7_61 wp_69 (fun r_ μ1 hp_ => ?_)
  obtain ⟨v, rfl, hp_⟩ := hp_
  exact k v μ1 hp_
theorem bX12_kinds_262 {Z : ZT} {X : XT} {μ : Mu} {a1 : Int32} {a2 : Int32} {a3 : Int32} {a4 : Int32} {a5 : Int32} {s0 : Int32} (E : Ent Z X mX12_kinds 0 0)  
    (kt : 0 ≤ s0 → JS Z X 283 [(0, .ref (Z.2.2.1 + 455)), (1, .int a1), (2, .int a2), (3, .int a3), (4, .int a4), (5, .int a5)] [] μ) (kf : ¬ (0 ≤ s0) → JS Z X 265 [(0, .ref (Z.2.2.1 + 455)), (1, .int a1), (2, .int a2), (3, .int a3), (5, .int a5)] [] μ) :
    JS Z X 262 [(0, .ref (Z.2.2.1 + 455)), (1, .int a1), (2, .int a2), (3, .int a3), (4, .int a4), (5, .int a5)] [.int s0] μ := by
  refine J_if_ge (tgt := 283) E dX12_kinds_262 (by decide) (fun c => ?_) (fun c => ?_)
  · exact kt c
  · refine J.weak [0, 1, 2, 3, 5] rfl ?_
    exact kf c
theorem bX12_kinds_265 {Z : ZT} {X : XT} {μ : Mu} {a1 : Int32} {a2 : Int32} {a3 : Int32} {a5 : Int32} (E : Ent Z X mX12_kinds 0 0) {p : Mu → Prop} 
    (c : CtrS Z mX12_copy [.ref (Z.2.2.1 + 455), .int (nI 8), .int (nI 4)] μ (rV p)) (k : ∀ μ1, p μ1 → JS Z X 272 [(0, .ref (Z.2.2.1 + 455)), (1, .int a1), (2, .int a2), (3, .int a3), (5, .int a5)] [] μ1) :
    JS Z X 265 [(0, .ref (Z.2.2.1 + 455)), (1, .int a1), (2, .int a2), (3, .int a3), (5, .int a5)] [] μ := by
  refine J_aload_n E dX12_kinds_265 rfl ?_
  refine J_bipush (v := nI 8) E dX12_kinds_266 rfl ?_
  refine J_iconst (v := nI 4) E dX12_kinds_268 rfl ?_
  refine S_callV (As := [.int (nI 8), .int (nI 4)]) (rest := []) E dX12_kinds_269 c kX12_copy ⟨Nat.le_of_ble_eq_true rfl, Nat.le_of_ble_eq_true rfl⟩ rfl (Nat.le_of_ble_eq_true rfl) sh455 rfl rfl w6_238 w7_0 wp_57 (fun r_ μ1 hp_ => ?_)
  obtain ⟨rfl, hp_⟩ := hp_
  exact k μ1 hp_
theorem bX12_kinds_272 {Z : ZT} {X : XT} {μ : Mu} {a1 : Int32} {a2 : Int32} {a3 : Int32} {a5 : Int32} (E : Ent Z X mX12_kinds 0 0) {p : Mu → Prop} 
    (c : CtrS Z mX12_copy [.ref (Z.2.2.1 + 455), .int (nI 9), .int (nI 5)] μ (rV p)) (k : ∀ μ1, p μ1 → JS Z X 279 [(0, .ref (Z.2.2.1 + 455)), (1, .int a1), (2, .int a2), (3, .int a3), (5, .int a5)] [] μ1) :
    JS Z X 272 [(0, .ref (Z.2.2.1 + 455)), (1, .int a1), (2, .int a2), (3, .int a3), (5, .int a5)] [] μ := by
  refine J_aload_n E dX12_kinds_272 rfl ?_
  refine J_bipush (v := nI 9) E dX12_kinds_273 rfl ?_
  refine J_iconst (v := nI 5) E dX12_kinds_275 rfl ?_
  refine S_callV (As := [.int (nI 9), .int (nI 5)]) (rest := []) E dX12_kinds_276 c kX12_copy ⟨Nat.le_of_ble_eq_true rfl, Nat.le_of_ble_eq_true rfl⟩ rfl (Nat.le_of_ble_eq_true rfl) sh455 rfl rfl w6_238 w7_0 wp_57 (fun r_ μ1 hp_ => ?_)
  obtain ⟨rfl, hp_⟩ := hp_
  exact k μ1 hp_
theorem bX12_kinds_279 {Z : ZT} {X : XT} {μ : Mu} {a1 : Int32} {a2 : Int32} {a3 : Int32} {a5 : Int32} (E : Ent Z X mX12_kinds 0 0)  
    (k : JS Z X 283 [(0, .ref (Z.2.2.1 + 455)), (1, .int a1), (2, .int a2), (3, .int a3), (4, .int a5), (5, .int a5)] [] μ) :
    JS Z X 279 [(0, .ref (Z.2.2.1 + 455)), (1, .int a1), (2, .int a2), (3, .int a3), (5, .int a5)] [] μ := by
  refine J_iload E dX12_kinds_279 rfl ?_
  refine J_istore (lv' := [(0, .ref (Z.2.2.1 + 455)), (1, .int a1), (2, .int a2), (3, .int a3), (4, .int a5), (5, .int a5)]) E dX12_kinds_281 (Nat.le_of_ble_eq_true rfl) rfl ?_
  exact k
theorem bX12_kinds_283 {Z : ZT} {X : XT} {μ : Mu} {a1 : Int32} {a2 : Int32} {a3 : Int32} {a4 : Int32} {a5 : Int32} (E : Ent Z X mX12_kinds 0 0)  
    (k : JS Z X 213 [(0, .ref (Z.2.2.1 + 455)), (1, .int a1), (2, .int a2), (3, .int a3), (4, .int a4), (5, .int (a5 + nI 1))] [] μ) :
    JS Z X 283 [(0, .ref (Z.2.2.1 + 455)), (1, .int a1), (2, .int a2), (3, .int a3), (4, .int a4), (5, .int a5)] [] μ := by
  refine J_iinc (v := a5 + nI 1) (lv' := [(0, .ref (Z.2.2.1 + 455)), (1, .int a1), (2, .int a2), (3, .int a3), (4, .int a4), (5, .int (a5 + nI 1))]) E dX12_kinds_283 rfl rfl (Nat.le_of_ble_eq_true rfl) rfl ?_
  refine J_goto (tgt := 213) E dX12_kinds_286 (by decide) ?_
  exact k
theorem bX12_kinds_289 {Z : ZT} {X : XT} {μ : Mu} {a2 : Int32} {a4 : Int32} (E : Ent Z X mX12_kinds 0 0) {p : Mu → Prop} 
    (c : CtrS Z mX12_tell [.ref (Z.2.2.1 + 455), .int (nI 4), .int (nI 36)] μ (rV p)) (k : ∀ μ1, p μ1 → JS Z X 296 [(0, .ref (Z.2.2.1 + 455)), (2, .int a2), (4, .int a4)] [] μ1) :
    JS Z X 289 [(0, .ref (Z.2.2.1 + 455)), (2, .int a2), (4, .int a4)] [] μ := by
  refine J_aload_n E dX12_kinds_289 rfl ?_
  refine J_iconst (v := nI 4) E dX12_kinds_290 rfl ?_
  refine J_bipush (v := nI 36) E dX12_kinds_291 rfl ?_
  refine S_callV (As := [.int (nI 4), .int (nI 36)]) (rest := []) E dX12_kinds_293 c kX12_tell ⟨Nat.le_of_ble_eq_true rfl, Nat.le_of_ble_eq_true rfl⟩ rfl (Nat.le_of_ble_eq_true rfl) sh455 rfl rfl w6_234 w6_236 wp_56 (fun r_ μ1 hp_ => ?_)
  obtain ⟨rfl, hp_⟩ := hp_
  exact k μ1 hp_
theorem bX12_kinds_296 {Z : ZT} {X : XT} {μ : Mu} {a2 : Int32} {a4 : Int32} (E : Ent Z X mX12_kinds 0 0) {p : Mu → Prop} 
    (c : CtrS Z mX12_setKinds [.ref (Z.2.2.1 + 455), .int a4] μ (rV p)) (k : ∀ μ1, p μ1 → JS Z X 302 [(0, .ref (Z.2.2.1 + 455)), (2, .int a2)] [] μ1) :
    JS Z X 296 [(0, .ref (Z.2.2.1 + 455)), (2, .int a2), (4, .int a4)] [] μ := by
  refine J_aload_n E dX12_kinds_296 rfl ?_
  refine J_iload E dX12_kinds_297 rfl ?_
  refine S_callV (As := [.int a4]) (rest := []) E dX12_kinds_299 c kX12_setKinds ⟨Nat.le_of_ble_eq_true rfl, Nat.le_of_ble_eq_true rfl⟩ rfl (Nat.le_of_ble_eq_true rfl) sh455 rfl rfl w7_116 w7_118 wp_79 (fun r_ μ1 hp_ => ?_)
  obtain ⟨rfl, hp_⟩ := hp_
  refine J.weak [0, 1] rfl ?_
  exact k μ1 hp_
theorem bX12_kinds_302 {Z : ZT} {X : XT} {μ : Mu} {a2 : Int32} (E : Ent Z X mX12_kinds 0 0)  
    (kt : (μ 455 13) ≤ a2 → JS Z X 319 [] [] μ) (kf : ¬ ((μ 455 13) ≤ a2) → JS Z X 310 [(0, .ref (Z.2.2.1 + 455)), (2, .int a2)] [] μ) :
    JS Z X 302 [(0, .ref (Z.2.2.1 + 455)), (2, .int a2)] [] μ := by
  refine J_iload_n E dX12_kinds_302 rfl ?_
  refine J_aload_n E dX12_kinds_303 rfl ?_
  refine S_get (ci := 12) (q := 13) (v := .int (μ 455 13)) E dX12_kinds_304 fs_X12_168 sh455 rfl ?_
  refine J_icmp_ge (tgt := 319) E dX12_kinds_307 (by decide) (fun c => ?_) (fun c => ?_)
  · refine J.weak [] rfl ?_
    exact kt c
  · exact kf c
theorem bX12_kinds_310 {Z : ZT} {X : XT} {μ : Mu} {a2 : Int32} (E : Ent Z X mX12_kinds 0 0)  (s1_ : vp_in a2 6)
    (k : JS Z X 321 [] [.int (μ 467 (ix a2))] μ) :
    JS Z X 310 [(0, .ref (Z.2.2.1 + 455)), (2, .int a2)] [] μ := by
  refine J_aload_n E dX12_kinds_310 rfl ?_
  refine S_get (ci := 12) (q := 21) (v := .ref (Z.2.2.1 + 467)) E dX12_kinds_311 fs_X12_45 sh455 rfl ?_
  refine J_iload_n E dX12_kinds_314 rfl ?_
  refine S_iald E dX12_kinds_315 sh467 s1_ ?_
  refine J_goto (tgt := 321) E dX12_kinds_316 (by decide) ?_
  refine J.weak [] rfl ?_
  exact k
theorem bX12_kinds_319 {Z : ZT} {X : XT} {μ : Mu} (E : Ent Z X mX12_kinds 0 0)  
    (k : JS Z X 321 [] [.int (-5)] μ) :
    JS Z X 319 [] [] μ := by
  refine J_bipush (v := -5) E dX12_kinds_319 rfl ?_
  exact k
theorem bX12_kinds_321 {Z : ZT} {X : XT} {μ : Mu} {s0 : Int32} (E : Ent Z X mX12_kinds 0 0) {P : Option Value → Mu → Prop} (hB : BodS Z X P) 
    (k : P (some (.int s0)) μ) :
    JS Z X 321 [] [.int s0] μ := by
  exact S_iret E hB dX12_kinds_321 rfl k
theorem dX12_setKinds_0 : decode cX12_setKinds 0 = .ok (.iload_n 1, 1) := by decide +kernel
theorem dX12_setKinds_1 : decode cX12_setKinds 1 = .ok (.istore_n 2, 1) := by decide +kernel
theorem dX12_setKinds_2 : decode cX12_setKinds 2 = .ok (.aload_n 0, 1) := by decide +kernel
theorem dX12_setKinds_3 : decode cX12_setKinds 3 = .ok (.getfield 168, 3) := by decide +kernel
theorem dX12_setKinds_6 : decode cX12_setKinds 6 = .ok (.iconst 1, 1) := by decide +kernel
theorem dX12_setKinds_7 : decode cX12_setKinds 7 = .ok (.isub, 1) := by decide +kernel
theorem dX12_setKinds_8 : decode cX12_setKinds 8 = .ok (.istore_n 3, 1) := by decide +kernel
theorem dX12_setKinds_9 : decode cX12_setKinds 9 = .ok (.iload_n 3, 1) := by decide +kernel
theorem dX12_setKinds_10 : decode cX12_setKinds 10 = .ok (.ifCond .lt 22, 3) := by decide +kernel
theorem dX12_setKinds_13 : decode cX12_setKinds 13 = .ok (.aload_n 0, 1) := by decide +kernel
theorem dX12_setKinds_14 : decode cX12_setKinds 14 = .ok (.getfield 45, 3) := by decide +kernel
theorem dX12_setKinds_17 : decode cX12_setKinds 17 = .ok (.iload_n 3, 1) := by decide +kernel
theorem dX12_setKinds_18 : decode cX12_setKinds 18 = .ok (.iload_n 2, 1) := by decide +kernel
theorem dX12_setKinds_19 : decode cX12_setKinds 19 = .ok (.iconst 4, 1) := by decide +kernel
theorem dX12_setKinds_20 : decode cX12_setKinds 20 = .ok (.irem, 1) := by decide +kernel
theorem dX12_setKinds_21 : decode cX12_setKinds 21 = .ok (.iastore, 1) := by decide +kernel
theorem dX12_setKinds_22 : decode cX12_setKinds 22 = .ok (.iload_n 2, 1) := by decide +kernel
theorem dX12_setKinds_23 : decode cX12_setKinds 23 = .ok (.iconst 4, 1) := by decide +kernel
theorem dX12_setKinds_24 : decode cX12_setKinds 24 = .ok (.idiv, 1) := by decide +kernel
theorem dX12_setKinds_25 : decode cX12_setKinds 25 = .ok (.istore_n 2, 1) := by decide +kernel
theorem dX12_setKinds_26 : decode cX12_setKinds 26 = .ok (.iinc 3 (-1), 3) := by decide +kernel
theorem dX12_setKinds_29 : decode cX12_setKinds 29 = .ok (.goto (-20), 3) := by decide +kernel
theorem dX12_setKinds_32 : decode cX12_setKinds 32 = .ok (.return_, 1) := by decide +kernel
theorem bX12_setKinds_0 {Z : ZT} {X : XT} {μ : Mu} {a1 : Int32} (E : Ent Z X mX12_setKinds 0 0)  
    (k : JS Z X 9 [(0, .ref (Z.2.2.1 + 455)), (2, .int a1), (3, .int ((μ 455 13) - (nI 1)))] [] μ) :
    JS Z X 0 [(0, .ref (Z.2.2.1 + 455)), (1, .int a1)] [] μ := by
  refine J_iload_n E dX12_setKinds_0 rfl ?_
  refine J_istore_n (lv' := [(0, .ref (Z.2.2.1 + 455)), (1, .int a1), (2, .int a1)]) E dX12_setKinds_1 (Nat.le_of_ble_eq_true rfl) rfl ?_
  refine J_aload_n E dX12_setKinds_2 rfl ?_
  refine S_get (ci := 12) (q := 13) (v := .int (μ 455 13)) E dX12_setKinds_3 fs_X12_168 sh455 rfl ?_
  refine J_iconst (v := nI 1) E dX12_setKinds_6 rfl ?_
  refine J_isub E dX12_setKinds_7 ?_
  refine J_istore_n (lv' := [(0, .ref (Z.2.2.1 + 455)), (1, .int a1), (2, .int a1), (3, .int ((μ 455 13) - (nI 1)))]) E dX12_setKinds_8 (Nat.le_of_ble_eq_true rfl) rfl ?_
  refine J.weak [0, 2, 3] rfl ?_
  exact k
theorem bX12_setKinds_9 {Z : ZT} {X : XT} {μ : Mu} {a2 : Int32} {a3 : Int32} (E : Ent Z X mX12_setKinds 0 0)  
    (kt : a3 < 0 → JS Z X 32 [] [] μ) (kf : ¬ (a3 < 0) → JS Z X 13 [(0, .ref (Z.2.2.1 + 455)), (2, .int a2), (3, .int a3)] [] μ) :
    JS Z X 9 [(0, .ref (Z.2.2.1 + 455)), (2, .int a2), (3, .int a3)] [] μ := by
  refine J_iload_n E dX12_setKinds_9 rfl ?_
  refine J_if_lt (tgt := 32) E dX12_setKinds_10 (by decide) (fun c => ?_) (fun c => ?_)
  · refine J.weak [] rfl ?_
    exact kt c
  · exact kf c
theorem bX12_setKinds_13 {Z : ZT} {X : XT} {μ : Mu} {a2 : Int32} {a3 : Int32} (E : Ent Z X mX12_setKinds 0 0)  (s1_ : vp_in a3 6)
    (k : JS Z X 22 [(0, .ref (Z.2.2.1 + 455)), (2, .int a2), (3, .int a3)] [] (uR μ 467 (upd (μ 467) (ix a3) (a2 - a2 / (nI 4) * (nI 4))))) :
    JS Z X 13 [(0, .ref (Z.2.2.1 + 455)), (2, .int a2), (3, .int a3)] [] μ := by
  refine J_aload_n E dX12_setKinds_13 rfl ?_
  refine S_get (ci := 12) (q := 21) (v := .ref (Z.2.2.1 + 467)) E dX12_setKinds_14 fs_X12_45 sh455 rfl ?_
  refine J_iload_n E dX12_setKinds_17 rfl ?_
  refine J_iload_n E dX12_setKinds_18 rfl ?_
  refine J_iconst (v := nI 4) E dX12_setKinds_19 rfl ?_
  refine J_irem E dX12_setKinds_20 (by decide) ?_
  refine S_iast E dX12_setKinds_21 sh467 s1_ ?_
  exact k
theorem bX12_setKinds_22 {Z : ZT} {X : XT} {μ : Mu} {a2 : Int32} {a3 : Int32} (E : Ent Z X mX12_setKinds 0 0)  
    (k : JS Z X 9 [(0, .ref (Z.2.2.1 + 455)), (2, .int (a2 / (nI 4))), (3, .int (a3 + (-1)))] [] μ) :
    JS Z X 22 [(0, .ref (Z.2.2.1 + 455)), (2, .int a2), (3, .int a3)] [] μ := by
  refine J_iload_n E dX12_setKinds_22 rfl ?_
  refine J_iconst (v := nI 4) E dX12_setKinds_23 rfl ?_
  refine J_idiv E dX12_setKinds_24 (by decide) ?_
  refine J_istore_n (lv' := [(0, .ref (Z.2.2.1 + 455)), (2, .int (a2 / (nI 4))), (3, .int a3)]) E dX12_setKinds_25 (Nat.le_of_ble_eq_true rfl) rfl ?_
  refine J_iinc (v := a3 + (-1)) (lv' := [(0, .ref (Z.2.2.1 + 455)), (2, .int (a2 / (nI 4))), (3, .int (a3 + (-1)))]) E dX12_setKinds_26 rfl rfl (Nat.le_of_ble_eq_true rfl) rfl ?_
  refine J_goto (tgt := 9) E dX12_setKinds_29 (by decide) ?_
  exact k
theorem bX12_setKinds_32 {Z : ZT} {X : XT} {μ : Mu} (E : Ent Z X mX12_setKinds 0 0) {P : Option Value → Mu → Prop} (hB : BodS Z X P) 
    (k : P none μ) :
    JS Z X 32 [] [] μ := by
  exact S_vret E hB dX12_setKinds_32 rfl k
theorem dX12_tryKinds_0 : decode cX12_tryKinds 0 = .ok (.aload_n 0, 1) := by decide +kernel
theorem dX12_tryKinds_1 : decode cX12_tryKinds 1 = .ok (.iload_n 2, 1) := by decide +kernel
theorem dX12_tryKinds_2 : decode cX12_tryKinds 2 = .ok (.invokevirtual 277, 3) := by decide +kernel
theorem dX12_tryKinds_5 : decode cX12_tryKinds 5 = .ok (.iconst 0, 1) := by decide +kernel
theorem dX12_tryKinds_6 : decode cX12_tryKinds 6 = .ok (.istore_n 3, 1) := by decide +kernel
theorem dX12_tryKinds_7 : decode cX12_tryKinds 7 = .ok (.aload_n 0, 1) := by decide +kernel
theorem dX12_tryKinds_8 : decode cX12_tryKinds 8 = .ok (.bipush 8, 2) := by decide +kernel
theorem dX12_tryKinds_10 : decode cX12_tryKinds 10 = .ok (.iconst 0, 1) := by decide +kernel
theorem dX12_tryKinds_11 : decode cX12_tryKinds 11 = .ok (.invokevirtual 204, 3) := by decide +kernel
theorem dX12_tryKinds_14 : decode cX12_tryKinds 14 = .ok (.iconst 0, 1) := by decide +kernel
theorem dX12_tryKinds_15 : decode cX12_tryKinds 15 = .ok (.istore 4, 2) := by decide +kernel
theorem dX12_tryKinds_17 : decode cX12_tryKinds 17 = .ok (.iload 4, 2) := by decide +kernel
theorem dX12_tryKinds_19 : decode cX12_tryKinds 19 = .ok (.aload_n 0, 1) := by decide +kernel
theorem dX12_tryKinds_20 : decode cX12_tryKinds 20 = .ok (.getfield 7, 3) := by decide +kernel
theorem dX12_tryKinds_23 : decode cX12_tryKinds 23 = .ok (.bipush 111, 2) := by decide +kernel
theorem dX12_tryKinds_25 : decode cX12_tryKinds 25 = .ok (.iaload, 1) := by decide +kernel
theorem dX12_tryKinds_26 : decode cX12_tryKinds 26 = .ok (.if_icmp .ge 102, 3) := by decide +kernel
theorem dX12_tryKinds_29 : decode cX12_tryKinds 29 = .ok (.aload_n 0, 1) := by decide +kernel
theorem dX12_tryKinds_30 : decode cX12_tryKinds 30 = .ok (.getfield 7, 3) := by decide +kernel
theorem dX12_tryKinds_33 : decode cX12_tryKinds 33 = .ok (.sipush 148, 3) := by decide +kernel
theorem dX12_tryKinds_36 : decode cX12_tryKinds 36 = .ok (.iload 4, 2) := by decide +kernel
theorem dX12_tryKinds_38 : decode cX12_tryKinds 38 = .ok (.iadd, 1) := by decide +kernel
theorem dX12_tryKinds_39 : decode cX12_tryKinds 39 = .ok (.iaload, 1) := by decide +kernel
theorem dX12_tryKinds_40 : decode cX12_tryKinds 40 = .ok (.iload_n 1, 1) := by decide +kernel
theorem dX12_tryKinds_41 : decode cX12_tryKinds 41 = .ok (.if_icmp .ne 81, 3) := by decide +kernel
theorem dX12_tryKinds_44 : decode cX12_tryKinds 44 = .ok (.aload_n 0, 1) := by decide +kernel
theorem dX12_tryKinds_45 : decode cX12_tryKinds 45 = .ok (.bipush 10, 2) := by decide +kernel
theorem dX12_tryKinds_47 : decode cX12_tryKinds 47 = .ok (.iconst 0, 1) := by decide +kernel
theorem dX12_tryKinds_48 : decode cX12_tryKinds 48 = .ok (.invokevirtual 204, 3) := by decide +kernel
theorem dX12_tryKinds_51 : decode cX12_tryKinds 51 = .ok (.iconst 0, 1) := by decide +kernel
theorem dX12_tryKinds_52 : decode cX12_tryKinds 52 = .ok (.istore 5, 2) := by decide +kernel
theorem dX12_tryKinds_54 : decode cX12_tryKinds 54 = .ok (.iload 5, 2) := by decide +kernel
theorem dX12_tryKinds_56 : decode cX12_tryKinds 56 = .ok (.aload_n 0, 1) := by decide +kernel
theorem dX12_tryKinds_57 : decode cX12_tryKinds 57 = .ok (.getfield 168, 3) := by decide +kernel
theorem dX12_tryKinds_60 : decode cX12_tryKinds 60 = .ok (.if_icmp .ge 37, 3) := by decide +kernel
theorem dX12_tryKinds_63 : decode cX12_tryKinds 63 = .ok (.aload_n 0, 1) := by decide +kernel
theorem dX12_tryKinds_64 : decode cX12_tryKinds 64 = .ok (.bipush 10, 2) := by decide +kernel
theorem dX12_tryKinds_66 : decode cX12_tryKinds 66 = .ok (.sipush 130, 3) := by decide +kernel
theorem dX12_tryKinds_69 : decode cX12_tryKinds 69 = .ok (.bipush 6, 2) := by decide +kernel
theorem dX12_tryKinds_71 : decode cX12_tryKinds 71 = .ok (.iconst 4, 1) := by decide +kernel
theorem dX12_tryKinds_72 : decode cX12_tryKinds 72 = .ok (.iload 5, 2) := by decide +kernel
theorem dX12_tryKinds_74 : decode cX12_tryKinds 74 = .ok (.imul, 1) := by decide +kernel
theorem dX12_tryKinds_75 : decode cX12_tryKinds 75 = .ok (.aload_n 0, 1) := by decide +kernel
theorem dX12_tryKinds_76 : decode cX12_tryKinds 76 = .ok (.getfield 45, 3) := by decide +kernel
theorem dX12_tryKinds_79 : decode cX12_tryKinds 79 = .ok (.iload 5, 2) := by decide +kernel
theorem dX12_tryKinds_81 : decode cX12_tryKinds 81 = .ok (.iaload, 1) := by decide +kernel
theorem dX12_tryKinds_82 : decode cX12_tryKinds 82 = .ok (.iadd, 1) := by decide +kernel
theorem dX12_tryKinds_83 : decode cX12_tryKinds 83 = .ok (.imul, 1) := by decide +kernel
theorem dX12_tryKinds_84 : decode cX12_tryKinds 84 = .ok (.iadd, 1) := by decide +kernel
theorem dX12_tryKinds_85 : decode cX12_tryKinds 85 = .ok (.iload 4, 2) := by decide +kernel
theorem dX12_tryKinds_87 : decode cX12_tryKinds 87 = .ok (.iadd, 1) := by decide +kernel
theorem dX12_tryKinds_88 : decode cX12_tryKinds 88 = .ok (.invokevirtual 219, 3) := by decide +kernel
theorem dX12_tryKinds_91 : decode cX12_tryKinds 91 = .ok (.iinc 5 1, 3) := by decide +kernel
theorem dX12_tryKinds_94 : decode cX12_tryKinds 94 = .ok (.goto (-40), 3) := by decide +kernel
theorem dX12_tryKinds_97 : decode cX12_tryKinds 97 = .ok (.iload_n 3, 1) := by decide +kernel
theorem dX12_tryKinds_98 : decode cX12_tryKinds 98 = .ok (.ifCond .eq 14, 3) := by decide +kernel
theorem dX12_tryKinds_101 : decode cX12_tryKinds 101 = .ok (.aload_n 0, 1) := by decide +kernel
theorem dX12_tryKinds_102 : decode cX12_tryKinds 102 = .ok (.bipush 10, 2) := by decide +kernel
theorem dX12_tryKinds_104 : decode cX12_tryKinds 104 = .ok (.bipush 8, 2) := by decide +kernel
theorem dX12_tryKinds_106 : decode cX12_tryKinds 106 = .ok (.invokevirtual 229, 3) := by decide +kernel
theorem dX12_tryKinds_109 : decode cX12_tryKinds 109 = .ok (.ifCond .ge 11, 3) := by decide +kernel
theorem dX12_tryKinds_112 : decode cX12_tryKinds 112 = .ok (.aload_n 0, 1) := by decide +kernel
theorem dX12_tryKinds_113 : decode cX12_tryKinds 113 = .ok (.bipush 10, 2) := by decide +kernel
theorem dX12_tryKinds_115 : decode cX12_tryKinds 115 = .ok (.bipush 8, 2) := by decide +kernel
theorem dX12_tryKinds_117 : decode cX12_tryKinds 117 = .ok (.invokevirtual 198, 3) := by decide +kernel
theorem dX12_tryKinds_120 : decode cX12_tryKinds 120 = .ok (.iconst 1, 1) := by decide +kernel
theorem dX12_tryKinds_121 : decode cX12_tryKinds 121 = .ok (.istore_n 3, 1) := by decide +kernel
theorem dX12_tryKinds_122 : decode cX12_tryKinds 122 = .ok (.iinc 4 1, 3) := by decide +kernel
theorem dX12_tryKinds_125 : decode cX12_tryKinds 125 = .ok (.goto (-108), 3) := by decide +kernel
theorem dX12_tryKinds_128 : decode cX12_tryKinds 128 = .ok (.aload_n 0, 1) := by decide +kernel
theorem dX12_tryKinds_129 : decode cX12_tryKinds 129 = .ok (.bipush 11, 2) := by decide +kernel
theorem dX12_tryKinds_131 : decode cX12_tryKinds 131 = .ok (.aload_n 0, 1) := by decide +kernel
theorem dX12_tryKinds_132 : decode cX12_tryKinds 132 = .ok (.getfield 175, 3) := by decide +kernel
theorem dX12_tryKinds_135 : decode cX12_tryKinds 135 = .ok (.invokevirtual 204, 3) := by decide +kernel
theorem dX12_tryKinds_138 : decode cX12_tryKinds 138 = .ok (.aload_n 0, 1) := by decide +kernel
theorem dX12_tryKinds_139 : decode cX12_tryKinds 139 = .ok (.bipush 11, 2) := by decide +kernel
theorem dX12_tryKinds_141 : decode cX12_tryKinds 141 = .ok (.iconst 5, 1) := by decide +kernel
theorem dX12_tryKinds_142 : decode cX12_tryKinds 142 = .ok (.invokevirtual 216, 3) := by decide +kernel
theorem dX12_tryKinds_145 : decode cX12_tryKinds 145 = .ok (.iconst 0, 1) := by decide +kernel
theorem dX12_tryKinds_146 : decode cX12_tryKinds 146 = .ok (.istore 4, 2) := by decide +kernel
theorem dX12_tryKinds_148 : decode cX12_tryKinds 148 = .ok (.iload 4, 2) := by decide +kernel
theorem dX12_tryKinds_150 : decode cX12_tryKinds 150 = .ok (.aload_n 0, 1) := by decide +kernel
theorem dX12_tryKinds_151 : decode cX12_tryKinds 151 = .ok (.getfield 168, 3) := by decide +kernel
theorem dX12_tryKinds_154 : decode cX12_tryKinds 154 = .ok (.if_icmp .ge 30, 3) := by decide +kernel
theorem dX12_tryKinds_157 : decode cX12_tryKinds 157 = .ok (.aload_n 0, 1) := by decide +kernel
theorem dX12_tryKinds_158 : decode cX12_tryKinds 158 = .ok (.bipush 11, 2) := by decide +kernel
theorem dX12_tryKinds_160 : decode cX12_tryKinds 160 = .ok (.bipush 100, 2) := by decide +kernel
theorem dX12_tryKinds_162 : decode cX12_tryKinds 162 = .ok (.iconst 4, 1) := by decide +kernel
theorem dX12_tryKinds_163 : decode cX12_tryKinds 163 = .ok (.iload 4, 2) := by decide +kernel
theorem dX12_tryKinds_165 : decode cX12_tryKinds 165 = .ok (.imul, 1) := by decide +kernel
theorem dX12_tryKinds_166 : decode cX12_tryKinds 166 = .ok (.iadd, 1) := by decide +kernel
theorem dX12_tryKinds_167 : decode cX12_tryKinds 167 = .ok (.aload_n 0, 1) := by decide +kernel
theorem dX12_tryKinds_168 : decode cX12_tryKinds 168 = .ok (.getfield 45, 3) := by decide +kernel
theorem dX12_tryKinds_171 : decode cX12_tryKinds 171 = .ok (.iload 4, 2) := by decide +kernel
theorem dX12_tryKinds_173 : decode cX12_tryKinds 173 = .ok (.iaload, 1) := by decide +kernel
theorem dX12_tryKinds_174 : decode cX12_tryKinds 174 = .ok (.iadd, 1) := by decide +kernel
theorem dX12_tryKinds_175 : decode cX12_tryKinds 175 = .ok (.invokevirtual 219, 3) := by decide +kernel
theorem dX12_tryKinds_178 : decode cX12_tryKinds 178 = .ok (.iinc 4 1, 3) := by decide +kernel
theorem dX12_tryKinds_181 : decode cX12_tryKinds 181 = .ok (.goto (-33), 3) := by decide +kernel
theorem dX12_tryKinds_184 : decode cX12_tryKinds 184 = .ok (.aload_n 0, 1) := by decide +kernel
theorem dX12_tryKinds_185 : decode cX12_tryKinds 185 = .ok (.bipush 9, 2) := by decide +kernel
theorem dX12_tryKinds_187 : decode cX12_tryKinds 187 = .ok (.bipush 11, 2) := by decide +kernel
theorem dX12_tryKinds_189 : decode cX12_tryKinds 189 = .ok (.invokevirtual 265, 3) := by decide +kernel
theorem dX12_tryKinds_192 : decode cX12_tryKinds 192 = .ok (.return_, 1) := by decide +kernel
theorem bX12_tryKinds_0 {Z : ZT} {X : XT} {μ : Mu} {a1 : Int32} {a2 : Int32} (E : Ent Z X mX12_tryKinds 0 0) {p : Mu → Prop} 
    (c : CtrS Z mX12_setKinds [.ref (Z.2.2.1 + 455), .int a2] μ (rV p)) (k : ∀ μ1, p μ1 → JS Z X 5 [(0, .ref (Z.2.2.1 + 455)), (1, .int a1)] [] μ1) :
    JS Z X 0 [(0, .ref (Z.2.2.1 + 455)), (1, .int a1), (2, .int a2)] [] μ := by
  refine J_aload_n E dX12_tryKinds_0 rfl ?_
  refine J_iload_n E dX12_tryKinds_1 rfl ?_
  refine S_callV (As := [.int a2]) (rest := []) E dX12_tryKinds_2 c kX12_setKinds ⟨Nat.le_of_ble_eq_true rfl, Nat.le_of_ble_eq_true rfl⟩ rfl (Nat.le_of_ble_eq_true rfl) sh455 rfl rfl w7_116 w7_118 wp_79 (fun r_ μ1 hp_ => ?_)
  obtain ⟨rfl, hp_⟩ := hp_
  refine J.weak [0, 1] rfl ?_
  exact k μ1 hp_
theorem bX12_tryKinds_5 {Z : ZT} {X : XT} {μ : Mu} {a1 : Int32} (E : Ent Z X mX12_tryKinds 0 0) {p : Mu → Prop} 
    (c : CtrS Z mX12_set [.ref (Z.2.2.1 + 455), .int (nI 8), .int (nI 0)] μ (rV p)) (k : ∀ μ1, p μ1 → JS Z X 14 [(0, .ref (Z.2.2.1 + 455)), (1, .int a1), (3, .int (nI 0))] [] μ1) :
    JS Z X 5 [(0, .ref (Z.2.2.1 + 455)), (1, .int a1)] [] μ := by
  refine J_iconst (v := nI 0) E dX12_tryKinds_5 rfl ?_
  refine J_istore_n (lv' := [(0, .ref (Z.2.2.1 + 455)), (1, .int a1), (3, .int (nI 0))]) E dX12_tryKinds_6 (Nat.le_of_ble_eq_true rfl) rfl ?_
  refine J_aload_n E dX12_tryKinds_7 rfl ?_
  refine J_bipush (v := nI 8) E dX12_tryKinds_8 rfl ?_
  refine J_iconst (v := nI 0) E dX12_tryKinds_10 rfl ?_
  refine S_callV (As := [.int (nI 8), .int (nI 0)]) (rest := []) E dX12_tryKinds_11 c kX12_set ⟨Nat.le_of_ble_eq_true rfl, Nat.le_of_ble_eq_true rfl⟩ rfl (Nat.le_of_ble_eq_true rfl) sh455 rfl rfl w6_230 w6_232 wp_55 (fun r_ μ1 hp_ => ?_)
  obtain ⟨rfl, hp_⟩ := hp_
  exact k μ1 hp_
theorem bX12_tryKinds_14 {Z : ZT} {X : XT} {μ : Mu} {a1 : Int32} {a3 : Int32} (E : Ent Z X mX12_tryKinds 0 0)  
    (k : JS Z X 17 [(0, .ref (Z.2.2.1 + 455)), (1, .int a1), (3, .int a3), (4, .int (nI 0))] [] μ) :
    JS Z X 14 [(0, .ref (Z.2.2.1 + 455)), (1, .int a1), (3, .int a3)] [] μ := by
  refine J_iconst (v := nI 0) E dX12_tryKinds_14 rfl ?_
  refine J_istore (lv' := [(0, .ref (Z.2.2.1 + 455)), (1, .int a1), (3, .int a3), (4, .int (nI 0))]) E dX12_tryKinds_15 (Nat.le_of_ble_eq_true rfl) rfl ?_
  exact k
theorem bX12_tryKinds_17 {Z : ZT} {X : XT} {μ : Mu} {a1 : Int32} {a3 : Int32} {a4 : Int32} (E : Ent Z X mX12_tryKinds 0 0)  (s1_ : vp_in (nI 111) 988)
    (kt : (μ 456 (ix (nI 111))) ≤ a4 → JS Z X 128 [(0, .ref (Z.2.2.1 + 455))] [] μ) (kf : ¬ ((μ 456 (ix (nI 111))) ≤ a4) → JS Z X 29 [(0, .ref (Z.2.2.1 + 455)), (1, .int a1), (3, .int a3), (4, .int a4)] [] μ) :
    JS Z X 17 [(0, .ref (Z.2.2.1 + 455)), (1, .int a1), (3, .int a3), (4, .int a4)] [] μ := by
  refine J_iload E dX12_tryKinds_17 rfl ?_
  refine J_aload_n E dX12_tryKinds_19 rfl ?_
  refine S_get (ci := 12) (q := 0) (v := .ref (Z.2.2.1 + 456)) E dX12_tryKinds_20 fs_X12_7 sh455 rfl ?_
  refine J_bipush (v := nI 111) E dX12_tryKinds_23 rfl ?_
  refine S_iald E dX12_tryKinds_25 sh456 s1_ ?_
  refine J_icmp_ge (tgt := 128) E dX12_tryKinds_26 (by decide) (fun c => ?_) (fun c => ?_)
  · refine J.weak [0] rfl ?_
    exact kt c
  · exact kf c
theorem bX12_tryKinds_29 {Z : ZT} {X : XT} {μ : Mu} {a1 : Int32} {a3 : Int32} {a4 : Int32} (E : Ent Z X mX12_tryKinds 0 0)  (s1_ : vp_in ((nI 148) + a4) 988)
    (kt : ¬ (μ 456 (ix ((nI 148) + a4))) = a1 → JS Z X 122 [(0, .ref (Z.2.2.1 + 455)), (1, .int a1), (3, .int a3), (4, .int a4)] [] μ) (kf : (μ 456 (ix ((nI 148) + a4))) = a1 → JS Z X 44 [(0, .ref (Z.2.2.1 + 455)), (1, .int a1), (3, .int a3), (4, .int a4)] [] μ) :
    JS Z X 29 [(0, .ref (Z.2.2.1 + 455)), (1, .int a1), (3, .int a3), (4, .int a4)] [] μ := by
  refine J_aload_n E dX12_tryKinds_29 rfl ?_
  refine S_get (ci := 12) (q := 0) (v := .ref (Z.2.2.1 + 456)) E dX12_tryKinds_30 fs_X12_7 sh455 rfl ?_
  refine J_sipush (v := nI 148) E dX12_tryKinds_33 rfl ?_
  refine J_iload E dX12_tryKinds_36 rfl ?_
  refine J_iadd E dX12_tryKinds_38 ?_
  refine S_iald E dX12_tryKinds_39 sh456 s1_ ?_
  refine J_iload_n E dX12_tryKinds_40 rfl ?_
  refine J_icmp_ne (tgt := 122) E dX12_tryKinds_41 (by decide) (fun c => ?_) (fun c => ?_)
  · exact kt c
  · exact kf c
theorem bX12_tryKinds_44 {Z : ZT} {X : XT} {μ : Mu} {a1 : Int32} {a3 : Int32} {a4 : Int32} (E : Ent Z X mX12_tryKinds 0 0) {p : Mu → Prop} 
    (c : CtrS Z mX12_set [.ref (Z.2.2.1 + 455), .int (nI 10), .int (nI 0)] μ (rV p)) (k : ∀ μ1, p μ1 → JS Z X 51 [(0, .ref (Z.2.2.1 + 455)), (1, .int a1), (3, .int a3), (4, .int a4)] [] μ1) :
    JS Z X 44 [(0, .ref (Z.2.2.1 + 455)), (1, .int a1), (3, .int a3), (4, .int a4)] [] μ := by
  refine J_aload_n E dX12_tryKinds_44 rfl ?_
  refine J_bipush (v := nI 10) E dX12_tryKinds_45 rfl ?_
  refine J_iconst (v := nI 0) E dX12_tryKinds_47 rfl ?_
  refine S_callV (As := [.int (nI 10), .int (nI 0)]) (rest := []) E dX12_tryKinds_48 c kX12_set ⟨Nat.le_of_ble_eq_true rfl, Nat.le_of_ble_eq_true rfl⟩ rfl (Nat.le_of_ble_eq_true rfl) sh455 rfl rfl w6_230 w6_232 wp_55 (fun r_ μ1 hp_ => ?_)
  obtain ⟨rfl, hp_⟩ := hp_
  exact k μ1 hp_
theorem bX12_tryKinds_51 {Z : ZT} {X : XT} {μ : Mu} {a1 : Int32} {a3 : Int32} {a4 : Int32} (E : Ent Z X mX12_tryKinds 0 0)  
    (k : JS Z X 54 [(0, .ref (Z.2.2.1 + 455)), (1, .int a1), (3, .int a3), (4, .int a4), (5, .int (nI 0))] [] μ) :
    JS Z X 51 [(0, .ref (Z.2.2.1 + 455)), (1, .int a1), (3, .int a3), (4, .int a4)] [] μ := by
  refine J_iconst (v := nI 0) E dX12_tryKinds_51 rfl ?_
  refine J_istore (lv' := [(0, .ref (Z.2.2.1 + 455)), (1, .int a1), (3, .int a3), (4, .int a4), (5, .int (nI 0))]) E dX12_tryKinds_52 (Nat.le_of_ble_eq_true rfl) rfl ?_
  exact k
theorem bX12_tryKinds_54 {Z : ZT} {X : XT} {μ : Mu} {a1 : Int32} {a3 : Int32} {a4 : Int32} {a5 : Int32} (E : Ent Z X mX12_tryKinds 0 0)  
    (kt : (μ 455 13) ≤ a5 → JS Z X 97 [(0, .ref (Z.2.2.1 + 455)), (1, .int a1), (3, .int a3), (4, .int a4)] [] μ) (kf : ¬ ((μ 455 13) ≤ a5) → JS Z X 63 [(0, .ref (Z.2.2.1 + 455)), (1, .int a1), (3, .int a3), (4, .int a4), (5, .int a5)] [] μ) :
    JS Z X 54 [(0, .ref (Z.2.2.1 + 455)), (1, .int a1), (3, .int a3), (4, .int a4), (5, .int a5)] [] μ := by
  refine J_iload E dX12_tryKinds_54 rfl ?_
  refine J_aload_n E dX12_tryKinds_56 rfl ?_
  refine S_get (ci := 12) (q := 13) (v := .int (μ 455 13)) E dX12_tryKinds_57 fs_X12_168 sh455 rfl ?_
  refine J_icmp_ge (tgt := 97) E dX12_tryKinds_60 (by decide) (fun c => ?_) (fun c => ?_)
  · refine J.weak [0, 1, 2, 3] rfl ?_
    exact kt c
  · exact kf c
theorem bX12_tryKinds_63 {Z : ZT} {X : XT} {μ : Mu} {a1 : Int32} {a3 : Int32} {a4 : Int32} {a5 : Int32} (E : Ent Z X mX12_tryKinds 0 0) {p : Mu → Prop} (s1_ : vp_in a5 6)
    (c : CtrS Z mX12_add [.ref (Z.2.2.1 + 455), .int (nI 10), .int (((nI 130) + ((nI 6) * (((nI 4) * a5) + (μ 467 (ix a5))))) + a4)] μ (rV p)) (k : ∀ μ1, p μ1 → JS Z X 91 [(0, .ref (Z.2.2.1 + 455)), (1, .int a1), (3, .int a3), (4, .int a4), (5, .int a5)] [] μ1) :
    JS Z X 63 [(0, .ref (Z.2.2.1 + 455)), (1, .int a1), (3, .int a3), (4, .int a4), (5, .int a5)] [] μ := by
  refine J_aload_n E dX12_tryKinds_63 rfl ?_
  refine J_bipush (v := nI 10) E dX12_tryKinds_64 rfl ?_
  refine J_sipush (v := nI 130) E dX12_tryKinds_66 rfl ?_
  refine J_bipush (v := nI 6) E dX12_tryKinds_69 rfl ?_
  refine J_iconst (v := nI 4) E dX12_tryKinds_71 rfl ?_
  refine J_iload E dX12_tryKinds_72 rfl ?_
  refine J_imul E dX12_tryKinds_74 ?_
  refine J_aload_n E dX12_tryKinds_75 rfl ?_
  refine S_get (ci := 12) (q := 21) (v := .ref (Z.2.2.1 + 467)) E dX12_tryKinds_76 fs_X12_45 sh455 rfl ?_
  refine J_iload E dX12_tryKinds_79 rfl ?_
  refine S_iald E dX12_tryKinds_81 sh467 s1_ ?_
  refine J_iadd E dX12_tryKinds_82 ?_
  refine J_imul E dX12_tryKinds_83 ?_
  refine J_iadd E dX12_tryKinds_84 ?_
  refine J_iload E dX12_tryKinds_85 rfl ?_
  refine J_iadd E dX12_tryKinds_87 ?_
  refine S_callV (As := [.int (nI 10), .int (((nI 130) + ((nI 6) * (((nI 4) * a5) + (μ 467 (ix a5))))) + a4)]) (rest := []) E dX12_tryKinds_88 c kX12_add ⟨Nat.le_of_ble_eq_true rfl, Nat.le_of_ble_eq_true rfl⟩ rfl (Nat.le_of_ble_eq_true rfl) sh455 rfl rfl w7_39 w7_41 wp_66 (fun r_ μ1 hp_ => ?_)
  obtain ⟨rfl, hp_⟩ := hp_
  exact k μ1 hp_
theorem bX12_tryKinds_91 {Z : ZT} {X : XT} {μ : Mu} {a1 : Int32} {a3 : Int32} {a4 : Int32} {a5 : Int32} (E : Ent Z X mX12_tryKinds 0 0)  
    (k : JS Z X 54 [(0, .ref (Z.2.2.1 + 455)), (1, .int a1), (3, .int a3), (4, .int a4), (5, .int (a5 + nI 1))] [] μ) :
    JS Z X 91 [(0, .ref (Z.2.2.1 + 455)), (1, .int a1), (3, .int a3), (4, .int a4), (5, .int a5)] [] μ := by
  refine J_iinc (v := a5 + nI 1) (lv' := [(0, .ref (Z.2.2.1 + 455)), (1, .int a1), (3, .int a3), (4, .int a4), (5, .int (a5 + nI 1))]) E dX12_tryKinds_91 rfl rfl (Nat.le_of_ble_eq_true rfl) rfl ?_
  refine J_goto (tgt := 54) E dX12_tryKinds_94 (by decide) ?_
  exact k
theorem bX12_tryKinds_97 {Z : ZT} {X : XT} {μ : Mu} {a1 : Int32} {a3 : Int32} {a4 : Int32} (E : Ent Z X mX12_tryKinds 0 0)  
    (kt : a3 = 0 → JS Z X 112 [(0, .ref (Z.2.2.1 + 455)), (1, .int a1), (4, .int a4)] [] μ) (kf : ¬ (a3 = 0) → JS Z X 101 [(0, .ref (Z.2.2.1 + 455)), (1, .int a1), (4, .int a4)] [] μ) :
    JS Z X 97 [(0, .ref (Z.2.2.1 + 455)), (1, .int a1), (3, .int a3), (4, .int a4)] [] μ := by
  refine J_iload_n E dX12_tryKinds_97 rfl ?_
  refine J_if_eq (tgt := 112) E dX12_tryKinds_98 (by decide) (fun c => ?_) (fun c => ?_)
  · refine J.weak [0, 1, 3] rfl ?_
    exact kt c
  · refine J.weak [0, 1, 3] rfl ?_
    exact kf c
theorem bX12_tryKinds_101 {Z : ZT} {X : XT} {μ : Mu} {a1 : Int32} {a4 : Int32} (E : Ent Z X mX12_tryKinds 0 0) {p : Int32 → Mu → Prop} 
    (c : CtrS Z mX12_compare [.ref (Z.2.2.1 + 455), .int (nI 10), .int (nI 8)] μ (rI p)) (k : ∀ v μ1, p v μ1 → JS Z X 109 [(0, .ref (Z.2.2.1 + 455)), (1, .int a1), (4, .int a4)] [.int v] μ1) :
    JS Z X 101 [(0, .ref (Z.2.2.1 + 455)), (1, .int a1), (4, .int a4)] [] μ := by
  refine J_aload_n E dX12_tryKinds_101 rfl ?_
  refine J_bipush (v := nI 10) E dX12_tryKinds_102 rfl ?_
  refine J_bipush (v := nI 8) E dX12_tryKinds_104 rfl ?_
  refine S_callV (As := [.int (nI 10), .int (nI 8)]) (rest := []) E dX12_tryKinds_106 c kX12_compare ⟨Nat.le_of_ble_eq_true rfl, Nat.le_of_ble_eq_true rfl⟩ rfl (Nat.le_of_ble_eq_true rfl) sh455 rfl rfl w7_59 w7_61 wp_69 (fun r_ μ1 hp_ => ?_)
  obtain ⟨v, rfl, hp_⟩ := hp_
  exact k v μ1 hp_
theorem bX12_tryKinds_109 {Z : ZT} {X : XT} {μ : Mu} {a1 : Int32} {a4 : Int32} {s0 : Int32} (E : Ent Z X mX12_tryKinds 0 0)  
    (kt : 0 ≤ s0 → JS Z X 120 [(0, .ref (Z.2.2.1 + 455)), (1, .int a1), (4, .int a4)] [] μ) (kf : ¬ (0 ≤ s0) → JS Z X 112 [(0, .ref (Z.2.2.1 + 455)), (1, .int a1), (4, .int a4)] [] μ) :
    JS Z X 109 [(0, .ref (Z.2.2.1 + 455)), (1, .int a1), (4, .int a4)] [.int s0] μ := by
  refine J_if_ge (tgt := 120) E dX12_tryKinds_109 (by decide) (fun c => ?_) (fun c => ?_)
  · exact kt c
  · exact kf c
theorem bX12_tryKinds_112 {Z : ZT} {X : XT} {μ : Mu} {a1 : Int32} {a4 : Int32} (E : Ent Z X mX12_tryKinds 0 0) {p : Mu → Prop} 
    (c : CtrS Z mX12_copy [.ref (Z.2.2.1 + 455), .int (nI 10), .int (nI 8)] μ (rV p)) (k : ∀ μ1, p μ1 → JS Z X 120 [(0, .ref (Z.2.2.1 + 455)), (1, .int a1), (4, .int a4)] [] μ1) :
    JS Z X 112 [(0, .ref (Z.2.2.1 + 455)), (1, .int a1), (4, .int a4)] [] μ := by
  refine J_aload_n E dX12_tryKinds_112 rfl ?_
  refine J_bipush (v := nI 10) E dX12_tryKinds_113 rfl ?_
  refine J_bipush (v := nI 8) E dX12_tryKinds_115 rfl ?_
  refine S_callV (As := [.int (nI 10), .int (nI 8)]) (rest := []) E dX12_tryKinds_117 c kX12_copy ⟨Nat.le_of_ble_eq_true rfl, Nat.le_of_ble_eq_true rfl⟩ rfl (Nat.le_of_ble_eq_true rfl) sh455 rfl rfl w6_238 w7_0 wp_57 (fun r_ μ1 hp_ => ?_)
  obtain ⟨rfl, hp_⟩ := hp_
  exact k μ1 hp_
theorem bX12_tryKinds_120 {Z : ZT} {X : XT} {μ : Mu} {a1 : Int32} {a4 : Int32} (E : Ent Z X mX12_tryKinds 0 0)  
    (k : JS Z X 122 [(0, .ref (Z.2.2.1 + 455)), (1, .int a1), (3, .int (nI 1)), (4, .int a4)] [] μ) :
    JS Z X 120 [(0, .ref (Z.2.2.1 + 455)), (1, .int a1), (4, .int a4)] [] μ := by
  refine J_iconst (v := nI 1) E dX12_tryKinds_120 rfl ?_
  refine J_istore_n (lv' := [(0, .ref (Z.2.2.1 + 455)), (1, .int a1), (3, .int (nI 1)), (4, .int a4)]) E dX12_tryKinds_121 (Nat.le_of_ble_eq_true rfl) rfl ?_
  exact k
theorem bX12_tryKinds_122 {Z : ZT} {X : XT} {μ : Mu} {a1 : Int32} {a3 : Int32} {a4 : Int32} (E : Ent Z X mX12_tryKinds 0 0)  
    (k : JS Z X 17 [(0, .ref (Z.2.2.1 + 455)), (1, .int a1), (3, .int a3), (4, .int (a4 + nI 1))] [] μ) :
    JS Z X 122 [(0, .ref (Z.2.2.1 + 455)), (1, .int a1), (3, .int a3), (4, .int a4)] [] μ := by
  refine J_iinc (v := a4 + nI 1) (lv' := [(0, .ref (Z.2.2.1 + 455)), (1, .int a1), (3, .int a3), (4, .int (a4 + nI 1))]) E dX12_tryKinds_122 rfl rfl (Nat.le_of_ble_eq_true rfl) rfl ?_
  refine J_goto (tgt := 17) E dX12_tryKinds_125 (by decide) ?_
  exact k
theorem bX12_tryKinds_128 {Z : ZT} {X : XT} {μ : Mu} (E : Ent Z X mX12_tryKinds 0 0) {p : Mu → Prop} 
    (c : CtrS Z mX12_set [.ref (Z.2.2.1 + 455), .int (nI 11), .int (μ 455 17)] μ (rV p)) (k : ∀ μ1, p μ1 → JS Z X 138 [(0, .ref (Z.2.2.1 + 455))] [] μ1) :
    JS Z X 128 [(0, .ref (Z.2.2.1 + 455))] [] μ := by
  refine J_aload_n E dX12_tryKinds_128 rfl ?_
  refine J_bipush (v := nI 11) E dX12_tryKinds_129 rfl ?_
  refine J_aload_n E dX12_tryKinds_131 rfl ?_
  refine S_get (ci := 12) (q := 17) (v := .int (μ 455 17)) E dX12_tryKinds_132 fs_X12_175 sh455 rfl ?_
  refine S_callV (As := [.int (nI 11), .int (μ 455 17)]) (rest := []) E dX12_tryKinds_135 c kX12_set ⟨Nat.le_of_ble_eq_true rfl, Nat.le_of_ble_eq_true rfl⟩ rfl (Nat.le_of_ble_eq_true rfl) sh455 rfl rfl w6_230 w6_232 wp_55 (fun r_ μ1 hp_ => ?_)
  obtain ⟨rfl, hp_⟩ := hp_
  exact k μ1 hp_
theorem bX12_tryKinds_138 {Z : ZT} {X : XT} {μ : Mu} (E : Ent Z X mX12_tryKinds 0 0) {p : Mu → Prop} 
    (c : CtrS Z mX12_millions [.ref (Z.2.2.1 + 455), .int (nI 11), .int (nI 5)] μ (rV p)) (k : ∀ μ1, p μ1 → JS Z X 145 [(0, .ref (Z.2.2.1 + 455))] [] μ1) :
    JS Z X 138 [(0, .ref (Z.2.2.1 + 455))] [] μ := by
  refine J_aload_n E dX12_tryKinds_138 rfl ?_
  refine J_bipush (v := nI 11) E dX12_tryKinds_139 rfl ?_
  refine J_iconst (v := nI 5) E dX12_tryKinds_141 rfl ?_
  refine S_callV (As := [.int (nI 11), .int (nI 5)]) (rest := []) E dX12_tryKinds_142 c kX12_millions ⟨Nat.le_of_ble_eq_true rfl, Nat.le_of_ble_eq_true rfl⟩ rfl (Nat.le_of_ble_eq_true rfl) sh455 rfl rfl w7_31 w7_33 wp_64 (fun r_ μ1 hp_ => ?_)
  obtain ⟨rfl, hp_⟩ := hp_
  exact k μ1 hp_
theorem bX12_tryKinds_145 {Z : ZT} {X : XT} {μ : Mu} (E : Ent Z X mX12_tryKinds 0 0)  
    (k : JS Z X 148 [(0, .ref (Z.2.2.1 + 455)), (4, .int (nI 0))] [] μ) :
    JS Z X 145 [(0, .ref (Z.2.2.1 + 455))] [] μ := by
  refine J_iconst (v := nI 0) E dX12_tryKinds_145 rfl ?_
  refine J_istore (lv' := [(0, .ref (Z.2.2.1 + 455)), (4, .int (nI 0))]) E dX12_tryKinds_146 (Nat.le_of_ble_eq_true rfl) rfl ?_
  exact k
theorem bX12_tryKinds_148 {Z : ZT} {X : XT} {μ : Mu} {a4 : Int32} (E : Ent Z X mX12_tryKinds 0 0)  
    (kt : (μ 455 13) ≤ a4 → JS Z X 184 [(0, .ref (Z.2.2.1 + 455))] [] μ) (kf : ¬ ((μ 455 13) ≤ a4) → JS Z X 157 [(0, .ref (Z.2.2.1 + 455)), (4, .int a4)] [] μ) :
    JS Z X 148 [(0, .ref (Z.2.2.1 + 455)), (4, .int a4)] [] μ := by
  refine J_iload E dX12_tryKinds_148 rfl ?_
  refine J_aload_n E dX12_tryKinds_150 rfl ?_
  refine S_get (ci := 12) (q := 13) (v := .int (μ 455 13)) E dX12_tryKinds_151 fs_X12_168 sh455 rfl ?_
  refine J_icmp_ge (tgt := 184) E dX12_tryKinds_154 (by decide) (fun c => ?_) (fun c => ?_)
  · refine J.weak [0] rfl ?_
    exact kt c
  · exact kf c
theorem bX12_tryKinds_157 {Z : ZT} {X : XT} {μ : Mu} {a4 : Int32} (E : Ent Z X mX12_tryKinds 0 0) {p : Mu → Prop} (s1_ : vp_in a4 6)
    (c : CtrS Z mX12_add [.ref (Z.2.2.1 + 455), .int (nI 11), .int (((nI 100) + ((nI 4) * a4)) + (μ 467 (ix a4)))] μ (rV p)) (k : ∀ μ1, p μ1 → JS Z X 178 [(0, .ref (Z.2.2.1 + 455)), (4, .int a4)] [] μ1) :
    JS Z X 157 [(0, .ref (Z.2.2.1 + 455)), (4, .int a4)] [] μ := by
  refine J_aload_n E dX12_tryKinds_157 rfl ?_
  refine J_bipush (v := nI 11) E dX12_tryKinds_158 rfl ?_
  refine J_bipush (v := nI 100) E dX12_tryKinds_160 rfl ?_
  refine J_iconst (v := nI 4) E dX12_tryKinds_162 rfl ?_
  refine J_iload E dX12_tryKinds_163 rfl ?_
  refine J_imul E dX12_tryKinds_165 ?_
  refine J_iadd E dX12_tryKinds_166 ?_
  refine J_aload_n E dX12_tryKinds_167 rfl ?_
  refine S_get (ci := 12) (q := 21) (v := .ref (Z.2.2.1 + 467)) E dX12_tryKinds_168 fs_X12_45 sh455 rfl ?_
  refine J_iload E dX12_tryKinds_171 rfl ?_
  refine S_iald E dX12_tryKinds_173 sh467 s1_ ?_
  refine J_iadd E dX12_tryKinds_174 ?_
  refine S_callV (As := [.int (nI 11), .int (((nI 100) + ((nI 4) * a4)) + (μ 467 (ix a4)))]) (rest := []) E dX12_tryKinds_175 c kX12_add ⟨Nat.le_of_ble_eq_true rfl, Nat.le_of_ble_eq_true rfl⟩ rfl (Nat.le_of_ble_eq_true rfl) sh455 rfl rfl w7_39 w7_41 wp_66 (fun r_ μ1 hp_ => ?_)
  obtain ⟨rfl, hp_⟩ := hp_
  exact k μ1 hp_
theorem bX12_tryKinds_178 {Z : ZT} {X : XT} {μ : Mu} {a4 : Int32} (E : Ent Z X mX12_tryKinds 0 0)  
    (k : JS Z X 148 [(0, .ref (Z.2.2.1 + 455)), (4, .int (a4 + nI 1))] [] μ) :
    JS Z X 178 [(0, .ref (Z.2.2.1 + 455)), (4, .int a4)] [] μ := by
  refine J_iinc (v := a4 + nI 1) (lv' := [(0, .ref (Z.2.2.1 + 455)), (4, .int (a4 + nI 1))]) E dX12_tryKinds_178 rfl rfl (Nat.le_of_ble_eq_true rfl) rfl ?_
  refine J_goto (tgt := 148) E dX12_tryKinds_181 (by decide) ?_
  exact k
theorem bX12_tryKinds_184 {Z : ZT} {X : XT} {μ : Mu} (E : Ent Z X mX12_tryKinds 0 0) {p : Mu → Prop} 
    (c : CtrS Z mX12_offTo [.ref (Z.2.2.1 + 455), .int (nI 9), .int (nI 11)] μ (rV p)) (k : ∀ μ1, p μ1 → JS Z X 192 [] [] μ1) :
    JS Z X 184 [(0, .ref (Z.2.2.1 + 455))] [] μ := by
  refine J_aload_n E dX12_tryKinds_184 rfl ?_
  refine J_bipush (v := nI 9) E dX12_tryKinds_185 rfl ?_
  refine J_bipush (v := nI 11) E dX12_tryKinds_187 rfl ?_
  refine S_callV (As := [.int (nI 9), .int (nI 11)]) (rest := []) E dX12_tryKinds_189 c kX12_offTo ⟨Nat.le_of_ble_eq_true rfl, Nat.le_of_ble_eq_true rfl⟩ rfl (Nat.le_of_ble_eq_true rfl) sh455 rfl rfl w7_92 w7_94 wp_74 (fun r_ μ1 hp_ => ?_)
  obtain ⟨rfl, hp_⟩ := hp_
  refine J.weak [] rfl ?_
  exact k μ1 hp_
theorem bX12_tryKinds_192 {Z : ZT} {X : XT} {μ : Mu} (E : Ent Z X mX12_tryKinds 0 0) {P : Option Value → Mu → Prop} (hB : BodS Z X P) 
    (k : P none μ) :
    JS Z X 192 [] [] μ := by
  exact S_vret E hB dX12_tryKinds_192 rfl k
theorem dX12_findTimes_0 : decode cX12_findTimes 0 = .ok (.iconst 0, 1) := by decide +kernel
theorem dX12_findTimes_1 : decode cX12_findTimes 1 = .ok (.istore_n 2, 1) := by decide +kernel
theorem dX12_findTimes_2 : decode cX12_findTimes 2 = .ok (.iconst 0, 1) := by decide +kernel
theorem dX12_findTimes_3 : decode cX12_findTimes 3 = .ok (.istore_n 3, 1) := by decide +kernel
theorem dX12_findTimes_4 : decode cX12_findTimes 4 = .ok (.aload_n 0, 1) := by decide +kernel
theorem dX12_findTimes_5 : decode cX12_findTimes 5 = .ok (.getfield 57, 3) := by decide +kernel
theorem dX12_findTimes_8 : decode cX12_findTimes 8 = .ok (.iload_n 1, 1) := by decide +kernel
theorem dX12_findTimes_9 : decode cX12_findTimes 9 = .ok (.aload_n 0, 1) := by decide +kernel
theorem dX12_findTimes_10 : decode cX12_findTimes 10 = .ok (.getfield 168, 3) := by decide +kernel
theorem dX12_findTimes_13 : decode cX12_findTimes 13 = .ok (.iastore, 1) := by decide +kernel
theorem dX12_findTimes_14 : decode cX12_findTimes 14 = .ok (.iconst 0, 1) := by decide +kernel
theorem dX12_findTimes_15 : decode cX12_findTimes 15 = .ok (.istore 4, 2) := by decide +kernel
theorem dX12_findTimes_17 : decode cX12_findTimes 17 = .ok (.iload 4, 2) := by decide +kernel
theorem dX12_findTimes_19 : decode cX12_findTimes 19 = .ok (.aload_n 0, 1) := by decide +kernel
theorem dX12_findTimes_20 : decode cX12_findTimes 20 = .ok (.getfield 168, 3) := by decide +kernel
theorem dX12_findTimes_23 : decode cX12_findTimes 23 = .ok (.if_icmp .ge 100, 3) := by decide +kernel
theorem dX12_findTimes_26 : decode cX12_findTimes 26 = .ok (.aload_n 0, 1) := by decide +kernel
theorem dX12_findTimes_27 : decode cX12_findTimes 27 = .ok (.getfield 48, 3) := by decide +kernel
theorem dX12_findTimes_30 : decode cX12_findTimes 30 = .ok (.bipush 6, 2) := by decide +kernel
theorem dX12_findTimes_32 : decode cX12_findTimes 32 = .ok (.iload_n 1, 1) := by decide +kernel
theorem dX12_findTimes_33 : decode cX12_findTimes 33 = .ok (.imul, 1) := by decide +kernel
theorem dX12_findTimes_34 : decode cX12_findTimes 34 = .ok (.iload 4, 2) := by decide +kernel
theorem dX12_findTimes_36 : decode cX12_findTimes 36 = .ok (.iadd, 1) := by decide +kernel
theorem dX12_findTimes_37 : decode cX12_findTimes 37 = .ok (.aload_n 0, 1) := by decide +kernel
theorem dX12_findTimes_38 : decode cX12_findTimes 38 = .ok (.getfield 33, 3) := by decide +kernel
theorem dX12_findTimes_41 : decode cX12_findTimes 41 = .ok (.iload 4, 2) := by decide +kernel
theorem dX12_findTimes_43 : decode cX12_findTimes 43 = .ok (.iaload, 1) := by decide +kernel
theorem dX12_findTimes_44 : decode cX12_findTimes 44 = .ok (.iastore, 1) := by decide +kernel
theorem dX12_findTimes_45 : decode cX12_findTimes 45 = .ok (.aload_n 0, 1) := by decide +kernel
theorem dX12_findTimes_46 : decode cX12_findTimes 46 = .ok (.getfield 51, 3) := by decide +kernel
theorem dX12_findTimes_49 : decode cX12_findTimes 49 = .ok (.bipush 6, 2) := by decide +kernel
theorem dX12_findTimes_51 : decode cX12_findTimes 51 = .ok (.iload_n 1, 1) := by decide +kernel
theorem dX12_findTimes_52 : decode cX12_findTimes 52 = .ok (.imul, 1) := by decide +kernel
theorem dX12_findTimes_53 : decode cX12_findTimes 53 = .ok (.iload 4, 2) := by decide +kernel
theorem dX12_findTimes_55 : decode cX12_findTimes 55 = .ok (.iadd, 1) := by decide +kernel
theorem dX12_findTimes_56 : decode cX12_findTimes 56 = .ok (.iload_n 2, 1) := by decide +kernel
theorem dX12_findTimes_57 : decode cX12_findTimes 57 = .ok (.iastore, 1) := by decide +kernel
theorem dX12_findTimes_58 : decode cX12_findTimes 58 = .ok (.aload_n 0, 1) := by decide +kernel
theorem dX12_findTimes_59 : decode cX12_findTimes 59 = .ok (.getfield 54, 3) := by decide +kernel
theorem dX12_findTimes_62 : decode cX12_findTimes 62 = .ok (.bipush 6, 2) := by decide +kernel
theorem dX12_findTimes_64 : decode cX12_findTimes 64 = .ok (.iload_n 1, 1) := by decide +kernel
theorem dX12_findTimes_65 : decode cX12_findTimes 65 = .ok (.imul, 1) := by decide +kernel
theorem dX12_findTimes_66 : decode cX12_findTimes 66 = .ok (.iload 4, 2) := by decide +kernel
theorem dX12_findTimes_68 : decode cX12_findTimes 68 = .ok (.iadd, 1) := by decide +kernel
theorem dX12_findTimes_69 : decode cX12_findTimes 69 = .ok (.iload_n 3, 1) := by decide +kernel
theorem dX12_findTimes_70 : decode cX12_findTimes 70 = .ok (.aload_n 0, 1) := by decide +kernel
theorem dX12_findTimes_71 : decode cX12_findTimes 71 = .ok (.getfield 7, 3) := by decide +kernel
theorem dX12_findTimes_74 : decode cX12_findTimes 74 = .ok (.sipush 201, 3) := by decide +kernel
theorem dX12_findTimes_77 : decode cX12_findTimes 77 = .ok (.iaload, 1) := by decide +kernel
theorem dX12_findTimes_78 : decode cX12_findTimes 78 = .ok (.iadd, 1) := by decide +kernel
theorem dX12_findTimes_79 : decode cX12_findTimes 79 = .ok (.iastore, 1) := by decide +kernel
theorem dX12_findTimes_80 : decode cX12_findTimes 80 = .ok (.iload_n 2, 1) := by decide +kernel
theorem dX12_findTimes_81 : decode cX12_findTimes 81 = .ok (.aload_n 0, 1) := by decide +kernel
theorem dX12_findTimes_82 : decode cX12_findTimes 82 = .ok (.iload_n 1, 1) := by decide +kernel
theorem dX12_findTimes_83 : decode cX12_findTimes 83 = .ok (.iload 4, 2) := by decide +kernel
theorem dX12_findTimes_85 : decode cX12_findTimes 85 = .ok (.invokevirtual 241, 3) := by decide +kernel
theorem dX12_findTimes_88 : decode cX12_findTimes 88 = .ok (.aload_n 0, 1) := by decide +kernel
theorem dX12_findTimes_89 : decode cX12_findTimes 89 = .ok (.getfield 36, 3) := by decide +kernel
theorem dX12_findTimes_92 : decode cX12_findTimes 92 = .ok (.iload 4, 2) := by decide +kernel
theorem dX12_findTimes_94 : decode cX12_findTimes 94 = .ok (.iaload, 1) := by decide +kernel
theorem dX12_findTimes_95 : decode cX12_findTimes 95 = .ok (.iadd, 1) := by decide +kernel
theorem dX12_findTimes_96 : decode cX12_findTimes 96 = .ok (.iadd, 1) := by decide +kernel
theorem dX12_findTimes_97 : decode cX12_findTimes 97 = .ok (.istore_n 2, 1) := by decide +kernel
theorem dX12_findTimes_98 : decode cX12_findTimes 98 = .ok (.iload_n 3, 1) := by decide +kernel
theorem dX12_findTimes_99 : decode cX12_findTimes 99 = .ok (.aload_n 0, 1) := by decide +kernel
theorem dX12_findTimes_100 : decode cX12_findTimes 100 = .ok (.getfield 7, 3) := by decide +kernel
theorem dX12_findTimes_103 : decode cX12_findTimes 103 = .ok (.sipush 201, 3) := by decide +kernel
theorem dX12_findTimes_106 : decode cX12_findTimes 106 = .ok (.iaload, 1) := by decide +kernel
theorem dX12_findTimes_107 : decode cX12_findTimes 107 = .ok (.aload_n 0, 1) := by decide +kernel
theorem dX12_findTimes_108 : decode cX12_findTimes 108 = .ok (.getfield 36, 3) := by decide +kernel
theorem dX12_findTimes_111 : decode cX12_findTimes 111 = .ok (.iload 4, 2) := by decide +kernel
theorem dX12_findTimes_113 : decode cX12_findTimes 113 = .ok (.iaload, 1) := by decide +kernel
theorem dX12_findTimes_114 : decode cX12_findTimes 114 = .ok (.iadd, 1) := by decide +kernel
theorem dX12_findTimes_115 : decode cX12_findTimes 115 = .ok (.iadd, 1) := by decide +kernel
theorem dX12_findTimes_116 : decode cX12_findTimes 116 = .ok (.istore_n 3, 1) := by decide +kernel
theorem dX12_findTimes_117 : decode cX12_findTimes 117 = .ok (.iinc 4 1, 3) := by decide +kernel
theorem dX12_findTimes_120 : decode cX12_findTimes 120 = .ok (.goto (-103), 3) := by decide +kernel
theorem dX12_findTimes_123 : decode cX12_findTimes 123 = .ok (.return_, 1) := by decide +kernel
theorem bX12_findTimes_0 {Z : ZT} {X : XT} {μ : Mu} {a1 : Int32} (E : Ent Z X mX12_findTimes 0 0)  (s1_ : vp_in a1 2)
    (k : JS Z X 14 [(0, .ref (Z.2.2.1 + 455)), (1, .int a1), (2, .int (nI 0)), (3, .int (nI 0))] [] (uR μ 471 (upd (μ 471) (ix a1) (μ 455 13)))) :
    JS Z X 0 [(0, .ref (Z.2.2.1 + 455)), (1, .int a1)] [] μ := by
  refine J_iconst (v := nI 0) E dX12_findTimes_0 rfl ?_
  refine J_istore_n (lv' := [(0, .ref (Z.2.2.1 + 455)), (1, .int a1), (2, .int (nI 0))]) E dX12_findTimes_1 (Nat.le_of_ble_eq_true rfl) rfl ?_
  refine J_iconst (v := nI 0) E dX12_findTimes_2 rfl ?_
  refine J_istore_n (lv' := [(0, .ref (Z.2.2.1 + 455)), (1, .int a1), (2, .int (nI 0)), (3, .int (nI 0))]) E dX12_findTimes_3 (Nat.le_of_ble_eq_true rfl) rfl ?_
  refine J_aload_n E dX12_findTimes_4 rfl ?_
  refine S_get (ci := 12) (q := 25) (v := .ref (Z.2.2.1 + 471)) E dX12_findTimes_5 fs_X12_57 sh455 rfl ?_
  refine J_iload_n E dX12_findTimes_8 rfl ?_
  refine J_aload_n E dX12_findTimes_9 rfl ?_
  refine S_get (ci := 12) (q := 13) (v := .int (μ 455 13)) E dX12_findTimes_10 fs_X12_168 sh455 rfl ?_
  refine S_iast E dX12_findTimes_13 sh471 s1_ ?_
  exact k
theorem bX12_findTimes_14 {Z : ZT} {X : XT} {μ : Mu} {a1 : Int32} {a2 : Int32} {a3 : Int32} (E : Ent Z X mX12_findTimes 0 0)  
    (k : JS Z X 17 [(0, .ref (Z.2.2.1 + 455)), (1, .int a1), (2, .int a2), (3, .int a3), (4, .int (nI 0))] [] μ) :
    JS Z X 14 [(0, .ref (Z.2.2.1 + 455)), (1, .int a1), (2, .int a2), (3, .int a3)] [] μ := by
  refine J_iconst (v := nI 0) E dX12_findTimes_14 rfl ?_
  refine J_istore (lv' := [(0, .ref (Z.2.2.1 + 455)), (1, .int a1), (2, .int a2), (3, .int a3), (4, .int (nI 0))]) E dX12_findTimes_15 (Nat.le_of_ble_eq_true rfl) rfl ?_
  exact k
theorem bX12_findTimes_17 {Z : ZT} {X : XT} {μ : Mu} {a1 : Int32} {a2 : Int32} {a3 : Int32} {a4 : Int32} (E : Ent Z X mX12_findTimes 0 0)  
    (kt : (μ 455 13) ≤ a4 → JS Z X 123 [] [] μ) (kf : ¬ ((μ 455 13) ≤ a4) → JS Z X 26 [(0, .ref (Z.2.2.1 + 455)), (1, .int a1), (2, .int a2), (3, .int a3), (4, .int a4)] [] μ) :
    JS Z X 17 [(0, .ref (Z.2.2.1 + 455)), (1, .int a1), (2, .int a2), (3, .int a3), (4, .int a4)] [] μ := by
  refine J_iload E dX12_findTimes_17 rfl ?_
  refine J_aload_n E dX12_findTimes_19 rfl ?_
  refine S_get (ci := 12) (q := 13) (v := .int (μ 455 13)) E dX12_findTimes_20 fs_X12_168 sh455 rfl ?_
  refine J_icmp_ge (tgt := 123) E dX12_findTimes_23 (by decide) (fun c => ?_) (fun c => ?_)
  · refine J.weak [] rfl ?_
    exact kt c
  · exact kf c
theorem bX12_findTimes_26 {Z : ZT} {X : XT} {μ : Mu} {a1 : Int32} {a2 : Int32} {a3 : Int32} {a4 : Int32} (E : Ent Z X mX12_findTimes 0 0)  (s1_ : vp_in a4 6) (s2_ : vp_in (((nI 6) * a1) + a4) 12)
    (k : JS Z X 45 [(0, .ref (Z.2.2.1 + 455)), (1, .int a1), (2, .int a2), (3, .int a3), (4, .int a4)] [] (uR μ 468 (upd (μ 468) (ix (((nI 6) * a1) + a4)) (μ 463 (ix a4))))) :
    JS Z X 26 [(0, .ref (Z.2.2.1 + 455)), (1, .int a1), (2, .int a2), (3, .int a3), (4, .int a4)] [] μ := by
  refine J_aload_n E dX12_findTimes_26 rfl ?_
  refine S_get (ci := 12) (q := 22) (v := .ref (Z.2.2.1 + 468)) E dX12_findTimes_27 fs_X12_48 sh455 rfl ?_
  refine J_bipush (v := nI 6) E dX12_findTimes_30 rfl ?_
  refine J_iload_n E dX12_findTimes_32 rfl ?_
  refine J_imul E dX12_findTimes_33 ?_
  refine J_iload E dX12_findTimes_34 rfl ?_
  refine J_iadd E dX12_findTimes_36 ?_
  refine J_aload_n E dX12_findTimes_37 rfl ?_
  refine S_get (ci := 12) (q := 15) (v := .ref (Z.2.2.1 + 463)) E dX12_findTimes_38 fs_X12_33 sh455 rfl ?_
  refine J_iload E dX12_findTimes_41 rfl ?_
  refine S_iald E dX12_findTimes_43 sh463 s1_ ?_
  refine S_iast E dX12_findTimes_44 sh468 s2_ ?_
  exact k
theorem bX12_findTimes_45 {Z : ZT} {X : XT} {μ : Mu} {a1 : Int32} {a2 : Int32} {a3 : Int32} {a4 : Int32} (E : Ent Z X mX12_findTimes 0 0)  (s1_ : vp_in (((nI 6) * a1) + a4) 12)
    (k : JS Z X 58 [(0, .ref (Z.2.2.1 + 455)), (1, .int a1), (2, .int a2), (3, .int a3), (4, .int a4)] [] (uR μ 469 (upd (μ 469) (ix (((nI 6) * a1) + a4)) a2))) :
    JS Z X 45 [(0, .ref (Z.2.2.1 + 455)), (1, .int a1), (2, .int a2), (3, .int a3), (4, .int a4)] [] μ := by
  refine J_aload_n E dX12_findTimes_45 rfl ?_
  refine S_get (ci := 12) (q := 23) (v := .ref (Z.2.2.1 + 469)) E dX12_findTimes_46 fs_X12_51 sh455 rfl ?_
  refine J_bipush (v := nI 6) E dX12_findTimes_49 rfl ?_
  refine J_iload_n E dX12_findTimes_51 rfl ?_
  refine J_imul E dX12_findTimes_52 ?_
  refine J_iload E dX12_findTimes_53 rfl ?_
  refine J_iadd E dX12_findTimes_55 ?_
  refine J_iload_n E dX12_findTimes_56 rfl ?_
  refine S_iast E dX12_findTimes_57 sh469 s1_ ?_
  exact k
theorem bX12_findTimes_58 {Z : ZT} {X : XT} {μ : Mu} {a1 : Int32} {a2 : Int32} {a3 : Int32} {a4 : Int32} (E : Ent Z X mX12_findTimes 0 0)  (s1_ : vp_in (nI 201) 988) (s2_ : vp_in (((nI 6) * a1) + a4) 12)
    (k : JS Z X 80 [(0, .ref (Z.2.2.1 + 455)), (1, .int a1), (2, .int a2), (3, .int a3), (4, .int a4)] [] (uR μ 470 (upd (μ 470) (ix (((nI 6) * a1) + a4)) (a3 + (μ 456 (ix (nI 201))))))) :
    JS Z X 58 [(0, .ref (Z.2.2.1 + 455)), (1, .int a1), (2, .int a2), (3, .int a3), (4, .int a4)] [] μ := by
  refine J_aload_n E dX12_findTimes_58 rfl ?_
  refine S_get (ci := 12) (q := 24) (v := .ref (Z.2.2.1 + 470)) E dX12_findTimes_59 fs_X12_54 sh455 rfl ?_
  refine J_bipush (v := nI 6) E dX12_findTimes_62 rfl ?_
  refine J_iload_n E dX12_findTimes_64 rfl ?_
  refine J_imul E dX12_findTimes_65 ?_
  refine J_iload E dX12_findTimes_66 rfl ?_
  refine J_iadd E dX12_findTimes_68 ?_
  refine J_iload_n E dX12_findTimes_69 rfl ?_
  refine J_aload_n E dX12_findTimes_70 rfl ?_
  refine S_get (ci := 12) (q := 0) (v := .ref (Z.2.2.1 + 456)) E dX12_findTimes_71 fs_X12_7 sh455 rfl ?_
  refine J_sipush (v := nI 201) E dX12_findTimes_74 rfl ?_
  refine S_iald E dX12_findTimes_77 sh456 s1_ ?_
  refine J_iadd E dX12_findTimes_78 ?_
  refine S_iast E dX12_findTimes_79 sh470 s2_ ?_
  exact k
theorem bX12_findTimes_80 {Z : ZT} {X : XT} {μ : Mu} {a1 : Int32} {a2 : Int32} {a3 : Int32} {a4 : Int32} (E : Ent Z X mX12_findTimes 0 0) {p : Int32 → Mu → Prop} 
    (c : CtrS Z mX12_leastOf [.ref (Z.2.2.1 + 455), .int a1, .int a4] μ (rI p)) (k : ∀ v μ1, p v μ1 → JS Z X 88 [(0, .ref (Z.2.2.1 + 455)), (1, .int a1), (3, .int a3), (4, .int a4)] [.int v, .int a2] μ1) :
    JS Z X 80 [(0, .ref (Z.2.2.1 + 455)), (1, .int a1), (2, .int a2), (3, .int a3), (4, .int a4)] [] μ := by
  refine J_iload_n E dX12_findTimes_80 rfl ?_
  refine J_aload_n E dX12_findTimes_81 rfl ?_
  refine J_iload_n E dX12_findTimes_82 rfl ?_
  refine J_iload E dX12_findTimes_83 rfl ?_
  refine S_callV (As := [.int a1, .int a4]) (rest := [.int a2]) E dX12_findTimes_85 c kX12_leastOf ⟨Nat.le_of_ble_eq_true rfl, Nat.le_of_ble_eq_true rfl⟩ rfl (Nat.le_of_ble_eq_true rfl) sh455 rfl rfl w7_23 w7_25 wp_62 (fun r_ μ1 hp_ => ?_)
  obtain ⟨v, rfl, hp_⟩ := hp_
  refine J.weak [0, 1, 3, 4] rfl ?_
  exact k v μ1 hp_
theorem bX12_findTimes_88 {Z : ZT} {X : XT} {μ : Mu} {a1 : Int32} {a3 : Int32} {a4 : Int32} {s0 : Int32} {s1 : Int32} (E : Ent Z X mX12_findTimes 0 0)  (s1_ : vp_in a4 6) (s2_ : vp_in (nI 201) 988) (s3_ : vp_in a4 6)
    (k : JS Z X 17 [(0, .ref (Z.2.2.1 + 455)), (1, .int a1), (2, .int (s0 + (s1 + (μ 464 (ix a4))))), (3, .int (a3 + ((μ 456 (ix (nI 201))) + (μ 464 (ix a4))))), (4, .int (a4 + nI 1))] [] μ) :
    JS Z X 88 [(0, .ref (Z.2.2.1 + 455)), (1, .int a1), (3, .int a3), (4, .int a4)] [.int s1, .int s0] μ := by
  refine J_aload_n E dX12_findTimes_88 rfl ?_
  refine S_get (ci := 12) (q := 16) (v := .ref (Z.2.2.1 + 464)) E dX12_findTimes_89 fs_X12_36 sh455 rfl ?_
  refine J_iload E dX12_findTimes_92 rfl ?_
  refine S_iald E dX12_findTimes_94 sh464 s1_ ?_
  refine J_iadd E dX12_findTimes_95 ?_
  refine J_iadd E dX12_findTimes_96 ?_
  refine J_istore_n (lv' := [(0, .ref (Z.2.2.1 + 455)), (1, .int a1), (2, .int (s0 + (s1 + (μ 464 (ix a4))))), (3, .int a3), (4, .int a4)]) E dX12_findTimes_97 (Nat.le_of_ble_eq_true rfl) rfl ?_
  refine J_iload_n E dX12_findTimes_98 rfl ?_
  refine J_aload_n E dX12_findTimes_99 rfl ?_
  refine S_get (ci := 12) (q := 0) (v := .ref (Z.2.2.1 + 456)) E dX12_findTimes_100 fs_X12_7 sh455 rfl ?_
  refine J_sipush (v := nI 201) E dX12_findTimes_103 rfl ?_
  refine S_iald E dX12_findTimes_106 sh456 s2_ ?_
  refine J_aload_n E dX12_findTimes_107 rfl ?_
  refine S_get (ci := 12) (q := 16) (v := .ref (Z.2.2.1 + 464)) E dX12_findTimes_108 fs_X12_36 sh455 rfl ?_
  refine J_iload E dX12_findTimes_111 rfl ?_
  refine S_iald E dX12_findTimes_113 sh464 s3_ ?_
  refine J_iadd E dX12_findTimes_114 ?_
  refine J_iadd E dX12_findTimes_115 ?_
  refine J_istore_n (lv' := [(0, .ref (Z.2.2.1 + 455)), (1, .int a1), (2, .int (s0 + (s1 + (μ 464 (ix a4))))), (3, .int (a3 + ((μ 456 (ix (nI 201))) + (μ 464 (ix a4))))), (4, .int a4)]) E dX12_findTimes_116 (Nat.le_of_ble_eq_true rfl) rfl ?_
  refine J_iinc (v := a4 + nI 1) (lv' := [(0, .ref (Z.2.2.1 + 455)), (1, .int a1), (2, .int (s0 + (s1 + (μ 464 (ix a4))))), (3, .int (a3 + ((μ 456 (ix (nI 201))) + (μ 464 (ix a4))))), (4, .int (a4 + nI 1))]) E dX12_findTimes_117 rfl rfl (Nat.le_of_ble_eq_true rfl) rfl ?_
  refine J_goto (tgt := 17) E dX12_findTimes_120 (by decide) ?_
  exact k
theorem bX12_findTimes_123 {Z : ZT} {X : XT} {μ : Mu} (E : Ent Z X mX12_findTimes 0 0) {P : Option Value → Mu → Prop} (hB : BodS Z X P) 
    (k : P none μ) :
    JS Z X 123 [] [] μ := by
  exact S_vret E hB dX12_findTimes_123 rfl k
theorem dX12_meetings_0 : decode cX12_meetings 0 = .ok (.iconst 0, 1) := by decide +kernel
theorem dX12_meetings_1 : decode cX12_meetings 1 = .ok (.istore_n 1, 1) := by decide +kernel
theorem dX12_meetings_2 : decode cX12_meetings 2 = .ok (.iconst 0, 1) := by decide +kernel
theorem dX12_meetings_3 : decode cX12_meetings 3 = .ok (.istore_n 2, 1) := by decide +kernel
theorem dX12_meetings_4 : decode cX12_meetings 4 = .ok (.iload_n 2, 1) := by decide +kernel
theorem dX12_meetings_5 : decode cX12_meetings 5 = .ok (.aload_n 0, 1) := by decide +kernel
theorem dX12_meetings_6 : decode cX12_meetings 6 = .ok (.getfield 57, 3) := by decide +kernel
theorem dX12_meetings_9 : decode cX12_meetings 9 = .ok (.iconst 0, 1) := by decide +kernel
theorem dX12_meetings_10 : decode cX12_meetings 10 = .ok (.iaload, 1) := by decide +kernel
theorem dX12_meetings_11 : decode cX12_meetings 11 = .ok (.if_icmp .ge 84, 3) := by decide +kernel
theorem dX12_meetings_14 : decode cX12_meetings 14 = .ok (.bipush 6, 2) := by decide +kernel
theorem dX12_meetings_16 : decode cX12_meetings 16 = .ok (.istore_n 3, 1) := by decide +kernel
theorem dX12_meetings_17 : decode cX12_meetings 17 = .ok (.iload_n 3, 1) := by decide +kernel
theorem dX12_meetings_18 : decode cX12_meetings 18 = .ok (.bipush 6, 2) := by decide +kernel
theorem dX12_meetings_20 : decode cX12_meetings 20 = .ok (.aload_n 0, 1) := by decide +kernel
theorem dX12_meetings_21 : decode cX12_meetings 21 = .ok (.getfield 57, 3) := by decide +kernel
theorem dX12_meetings_24 : decode cX12_meetings 24 = .ok (.iconst 1, 1) := by decide +kernel
theorem dX12_meetings_25 : decode cX12_meetings 25 = .ok (.iaload, 1) := by decide +kernel
theorem dX12_meetings_26 : decode cX12_meetings 26 = .ok (.iadd, 1) := by decide +kernel
theorem dX12_meetings_27 : decode cX12_meetings 27 = .ok (.if_icmp .ge 62, 3) := by decide +kernel
theorem dX12_meetings_30 : decode cX12_meetings 30 = .ok (.iload_n 1, 1) := by decide +kernel
theorem dX12_meetings_31 : decode cX12_meetings 31 = .ok (.aload_n 0, 1) := by decide +kernel
theorem dX12_meetings_32 : decode cX12_meetings 32 = .ok (.getfield 48, 3) := by decide +kernel
theorem dX12_meetings_35 : decode cX12_meetings 35 = .ok (.iload_n 2, 1) := by decide +kernel
theorem dX12_meetings_36 : decode cX12_meetings 36 = .ok (.iaload, 1) := by decide +kernel
theorem dX12_meetings_37 : decode cX12_meetings 37 = .ok (.aload_n 0, 1) := by decide +kernel
theorem dX12_meetings_38 : decode cX12_meetings 38 = .ok (.getfield 48, 3) := by decide +kernel
theorem dX12_meetings_41 : decode cX12_meetings 41 = .ok (.iload_n 3, 1) := by decide +kernel
theorem dX12_meetings_42 : decode cX12_meetings 42 = .ok (.iaload, 1) := by decide +kernel
theorem dX12_meetings_43 : decode cX12_meetings 43 = .ok (.if_icmp .ne 37, 3) := by decide +kernel
theorem dX12_meetings_46 : decode cX12_meetings 46 = .ok (.aload_n 0, 1) := by decide +kernel
theorem dX12_meetings_47 : decode cX12_meetings 47 = .ok (.getfield 51, 3) := by decide +kernel
theorem dX12_meetings_50 : decode cX12_meetings 50 = .ok (.iload_n 2, 1) := by decide +kernel
theorem dX12_meetings_51 : decode cX12_meetings 51 = .ok (.iaload, 1) := by decide +kernel
theorem dX12_meetings_52 : decode cX12_meetings 52 = .ok (.aload_n 0, 1) := by decide +kernel
theorem dX12_meetings_53 : decode cX12_meetings 53 = .ok (.getfield 54, 3) := by decide +kernel
theorem dX12_meetings_56 : decode cX12_meetings 56 = .ok (.iload_n 3, 1) := by decide +kernel
theorem dX12_meetings_57 : decode cX12_meetings 57 = .ok (.iaload, 1) := by decide +kernel
theorem dX12_meetings_58 : decode cX12_meetings 58 = .ok (.if_icmp .gt 22, 3) := by decide +kernel
theorem dX12_meetings_61 : decode cX12_meetings 61 = .ok (.aload_n 0, 1) := by decide +kernel
theorem dX12_meetings_62 : decode cX12_meetings 62 = .ok (.getfield 51, 3) := by decide +kernel
theorem dX12_meetings_65 : decode cX12_meetings 65 = .ok (.iload_n 3, 1) := by decide +kernel
theorem dX12_meetings_66 : decode cX12_meetings 66 = .ok (.iaload, 1) := by decide +kernel
theorem dX12_meetings_67 : decode cX12_meetings 67 = .ok (.aload_n 0, 1) := by decide +kernel
theorem dX12_meetings_68 : decode cX12_meetings 68 = .ok (.getfield 54, 3) := by decide +kernel
theorem dX12_meetings_71 : decode cX12_meetings 71 = .ok (.iload_n 2, 1) := by decide +kernel
theorem dX12_meetings_72 : decode cX12_meetings 72 = .ok (.iaload, 1) := by decide +kernel
theorem dX12_meetings_73 : decode cX12_meetings 73 = .ok (.if_icmp .gt 7, 3) := by decide +kernel
theorem dX12_meetings_76 : decode cX12_meetings 76 = .ok (.iconst 1, 1) := by decide +kernel
theorem dX12_meetings_77 : decode cX12_meetings 77 = .ok (.goto 4, 3) := by decide +kernel
theorem dX12_meetings_80 : decode cX12_meetings 80 = .ok (.iconst 0, 1) := by decide +kernel
theorem dX12_meetings_81 : decode cX12_meetings 81 = .ok (.iadd, 1) := by decide +kernel
theorem dX12_meetings_82 : decode cX12_meetings 82 = .ok (.istore_n 1, 1) := by decide +kernel
theorem dX12_meetings_83 : decode cX12_meetings 83 = .ok (.iinc 3 1, 3) := by decide +kernel
theorem dX12_meetings_86 : decode cX12_meetings 86 = .ok (.goto (-69), 3) := by decide +kernel
theorem dX12_meetings_89 : decode cX12_meetings 89 = .ok (.iinc 2 1, 3) := by decide +kernel
theorem dX12_meetings_92 : decode cX12_meetings 92 = .ok (.goto (-88), 3) := by decide +kernel
theorem dX12_meetings_95 : decode cX12_meetings 95 = .ok (.iload_n 1, 1) := by decide +kernel
theorem dX12_meetings_96 : decode cX12_meetings 96 = .ok (.ireturn, 1) := by decide +kernel
theorem bX12_meetings_0 {Z : ZT} {X : XT} {μ : Mu} (E : Ent Z X mX12_meetings 0 0)  
    (k : JS Z X 4 [(0, .ref (Z.2.2.1 + 455)), (1, .int (nI 0)), (2, .int (nI 0))] [] μ) :
    JS Z X 0 [(0, .ref (Z.2.2.1 + 455))] [] μ := by
  refine J_iconst (v := nI 0) E dX12_meetings_0 rfl ?_
  refine J_istore_n (lv' := [(0, .ref (Z.2.2.1 + 455)), (1, .int (nI 0))]) E dX12_meetings_1 (Nat.le_of_ble_eq_true rfl) rfl ?_
  refine J_iconst (v := nI 0) E dX12_meetings_2 rfl ?_
  refine J_istore_n (lv' := [(0, .ref (Z.2.2.1 + 455)), (1, .int (nI 0)), (2, .int (nI 0))]) E dX12_meetings_3 (Nat.le_of_ble_eq_true rfl) rfl ?_
  exact k
theorem bX12_meetings_4 {Z : ZT} {X : XT} {μ : Mu} {a1 : Int32} {a2 : Int32} (E : Ent Z X mX12_meetings 0 0)  (s1_ : vp_in (nI 0) 2)
    (kt : (μ 471 (ix (nI 0))) ≤ a2 → JS Z X 95 [(1, .int a1)] [] μ) (kf : ¬ ((μ 471 (ix (nI 0))) ≤ a2) → JS Z X 14 [(0, .ref (Z.2.2.1 + 455)), (1, .int a1), (2, .int a2)] [] μ) :
    JS Z X 4 [(0, .ref (Z.2.2.1 + 455)), (1, .int a1), (2, .int a2)] [] μ := by
  refine J_iload_n E dX12_meetings_4 rfl ?_
  refine J_aload_n E dX12_meetings_5 rfl ?_
  refine S_get (ci := 12) (q := 25) (v := .ref (Z.2.2.1 + 471)) E dX12_meetings_6 fs_X12_57 sh455 rfl ?_
  refine J_iconst (v := nI 0) E dX12_meetings_9 rfl ?_
  refine S_iald E dX12_meetings_10 sh471 s1_ ?_
  refine J_icmp_ge (tgt := 95) E dX12_meetings_11 (by decide) (fun c => ?_) (fun c => ?_)
  · refine J.weak [1] rfl ?_
    exact kt c
  · exact kf c
theorem bX12_meetings_14 {Z : ZT} {X : XT} {μ : Mu} {a1 : Int32} {a2 : Int32} (E : Ent Z X mX12_meetings 0 0)  
    (k : JS Z X 17 [(0, .ref (Z.2.2.1 + 455)), (1, .int a1), (2, .int a2), (3, .int (nI 6))] [] μ) :
    JS Z X 14 [(0, .ref (Z.2.2.1 + 455)), (1, .int a1), (2, .int a2)] [] μ := by
  refine J_bipush (v := nI 6) E dX12_meetings_14 rfl ?_
  refine J_istore_n (lv' := [(0, .ref (Z.2.2.1 + 455)), (1, .int a1), (2, .int a2), (3, .int (nI 6))]) E dX12_meetings_16 (Nat.le_of_ble_eq_true rfl) rfl ?_
  exact k
theorem bX12_meetings_17 {Z : ZT} {X : XT} {μ : Mu} {a1 : Int32} {a2 : Int32} {a3 : Int32} (E : Ent Z X mX12_meetings 0 0)  (s1_ : vp_in (nI 1) 2)
    (kt : ((nI 6) + (μ 471 (ix (nI 1)))) ≤ a3 → JS Z X 89 [(0, .ref (Z.2.2.1 + 455)), (1, .int a1), (2, .int a2)] [] μ) (kf : ¬ (((nI 6) + (μ 471 (ix (nI 1)))) ≤ a3) → JS Z X 30 [(0, .ref (Z.2.2.1 + 455)), (1, .int a1), (2, .int a2), (3, .int a3)] [] μ) :
    JS Z X 17 [(0, .ref (Z.2.2.1 + 455)), (1, .int a1), (2, .int a2), (3, .int a3)] [] μ := by
  refine J_iload_n E dX12_meetings_17 rfl ?_
  refine J_bipush (v := nI 6) E dX12_meetings_18 rfl ?_
  refine J_aload_n E dX12_meetings_20 rfl ?_
  refine S_get (ci := 12) (q := 25) (v := .ref (Z.2.2.1 + 471)) E dX12_meetings_21 fs_X12_57 sh455 rfl ?_
  refine J_iconst (v := nI 1) E dX12_meetings_24 rfl ?_
  refine S_iald E dX12_meetings_25 sh471 s1_ ?_
  refine J_iadd E dX12_meetings_26 ?_
  refine J_icmp_ge (tgt := 89) E dX12_meetings_27 (by decide) (fun c => ?_) (fun c => ?_)
  · refine J.weak [0, 1, 2] rfl ?_
    exact kt c
  · exact kf c
theorem bX12_meetings_30 {Z : ZT} {X : XT} {μ : Mu} {a1 : Int32} {a2 : Int32} {a3 : Int32} (E : Ent Z X mX12_meetings 0 0)  (s1_ : vp_in a2 12) (s2_ : vp_in a3 12)
    (kt : ¬ (μ 468 (ix a2)) = (μ 468 (ix a3)) → JS Z X 80 [(0, .ref (Z.2.2.1 + 455)), (2, .int a2), (3, .int a3)] [.int a1] μ) (kf : (μ 468 (ix a2)) = (μ 468 (ix a3)) → JS Z X 46 [(0, .ref (Z.2.2.1 + 455)), (2, .int a2), (3, .int a3)] [.int a1] μ) :
    JS Z X 30 [(0, .ref (Z.2.2.1 + 455)), (1, .int a1), (2, .int a2), (3, .int a3)] [] μ := by
  refine J_iload_n E dX12_meetings_30 rfl ?_
  refine J_aload_n E dX12_meetings_31 rfl ?_
  refine S_get (ci := 12) (q := 22) (v := .ref (Z.2.2.1 + 468)) E dX12_meetings_32 fs_X12_48 sh455 rfl ?_
  refine J_iload_n E dX12_meetings_35 rfl ?_
  refine S_iald E dX12_meetings_36 sh468 s1_ ?_
  refine J_aload_n E dX12_meetings_37 rfl ?_
  refine S_get (ci := 12) (q := 22) (v := .ref (Z.2.2.1 + 468)) E dX12_meetings_38 fs_X12_48 sh455 rfl ?_
  refine J_iload_n E dX12_meetings_41 rfl ?_
  refine S_iald E dX12_meetings_42 sh468 s2_ ?_
  refine J_icmp_ne (tgt := 80) E dX12_meetings_43 (by decide) (fun c => ?_) (fun c => ?_)
  · refine J.weak [0, 2, 3] rfl ?_
    exact kt c
  · refine J.weak [0, 2, 3] rfl ?_
    exact kf c
theorem bX12_meetings_46 {Z : ZT} {X : XT} {μ : Mu} {a2 : Int32} {a3 : Int32} {s0 : Int32} (E : Ent Z X mX12_meetings 0 0)  (s1_ : vp_in a2 12) (s2_ : vp_in a3 12)
    (kt : (μ 470 (ix a3)) < (μ 469 (ix a2)) → JS Z X 80 [(0, .ref (Z.2.2.1 + 455)), (2, .int a2), (3, .int a3)] [.int s0] μ) (kf : ¬ ((μ 470 (ix a3)) < (μ 469 (ix a2))) → JS Z X 61 [(0, .ref (Z.2.2.1 + 455)), (2, .int a2), (3, .int a3)] [.int s0] μ) :
    JS Z X 46 [(0, .ref (Z.2.2.1 + 455)), (2, .int a2), (3, .int a3)] [.int s0] μ := by
  refine J_aload_n E dX12_meetings_46 rfl ?_
  refine S_get (ci := 12) (q := 23) (v := .ref (Z.2.2.1 + 469)) E dX12_meetings_47 fs_X12_51 sh455 rfl ?_
  refine J_iload_n E dX12_meetings_50 rfl ?_
  refine S_iald E dX12_meetings_51 sh469 s1_ ?_
  refine J_aload_n E dX12_meetings_52 rfl ?_
  refine S_get (ci := 12) (q := 24) (v := .ref (Z.2.2.1 + 470)) E dX12_meetings_53 fs_X12_54 sh455 rfl ?_
  refine J_iload_n E dX12_meetings_56 rfl ?_
  refine S_iald E dX12_meetings_57 sh470 s2_ ?_
  refine J_icmp_gt (tgt := 80) E dX12_meetings_58 (by decide) (fun c => ?_) (fun c => ?_)
  · exact kt c
  · exact kf c
theorem bX12_meetings_61 {Z : ZT} {X : XT} {μ : Mu} {a2 : Int32} {a3 : Int32} {s0 : Int32} (E : Ent Z X mX12_meetings 0 0)  (s1_ : vp_in a3 12) (s2_ : vp_in a2 12)
    (kt : (μ 470 (ix a2)) < (μ 469 (ix a3)) → JS Z X 80 [(0, .ref (Z.2.2.1 + 455)), (2, .int a2), (3, .int a3)] [.int s0] μ) (kf : ¬ ((μ 470 (ix a2)) < (μ 469 (ix a3))) → JS Z X 76 [(0, .ref (Z.2.2.1 + 455)), (2, .int a2), (3, .int a3)] [.int s0] μ) :
    JS Z X 61 [(0, .ref (Z.2.2.1 + 455)), (2, .int a2), (3, .int a3)] [.int s0] μ := by
  refine J_aload_n E dX12_meetings_61 rfl ?_
  refine S_get (ci := 12) (q := 23) (v := .ref (Z.2.2.1 + 469)) E dX12_meetings_62 fs_X12_51 sh455 rfl ?_
  refine J_iload_n E dX12_meetings_65 rfl ?_
  refine S_iald E dX12_meetings_66 sh469 s1_ ?_
  refine J_aload_n E dX12_meetings_67 rfl ?_
  refine S_get (ci := 12) (q := 24) (v := .ref (Z.2.2.1 + 470)) E dX12_meetings_68 fs_X12_54 sh455 rfl ?_
  refine J_iload_n E dX12_meetings_71 rfl ?_
  refine S_iald E dX12_meetings_72 sh470 s2_ ?_
  refine J_icmp_gt (tgt := 80) E dX12_meetings_73 (by decide) (fun c => ?_) (fun c => ?_)
  · exact kt c
  · exact kf c
theorem bX12_meetings_76 {Z : ZT} {X : XT} {μ : Mu} {a2 : Int32} {a3 : Int32} {s0 : Int32} (E : Ent Z X mX12_meetings 0 0)  
    (k : JS Z X 81 [(0, .ref (Z.2.2.1 + 455)), (2, .int a2), (3, .int a3)] [.int (nI 1), .int s0] μ) :
    JS Z X 76 [(0, .ref (Z.2.2.1 + 455)), (2, .int a2), (3, .int a3)] [.int s0] μ := by
  refine J_iconst (v := nI 1) E dX12_meetings_76 rfl ?_
  refine J_goto (tgt := 81) E dX12_meetings_77 (by decide) ?_
  exact k
theorem bX12_meetings_80 {Z : ZT} {X : XT} {μ : Mu} {a2 : Int32} {a3 : Int32} {s0 : Int32} (E : Ent Z X mX12_meetings 0 0)  
    (k : JS Z X 81 [(0, .ref (Z.2.2.1 + 455)), (2, .int a2), (3, .int a3)] [.int (nI 0), .int s0] μ) :
    JS Z X 80 [(0, .ref (Z.2.2.1 + 455)), (2, .int a2), (3, .int a3)] [.int s0] μ := by
  refine J_iconst (v := nI 0) E dX12_meetings_80 rfl ?_
  exact k
theorem bX12_meetings_81 {Z : ZT} {X : XT} {μ : Mu} {a2 : Int32} {a3 : Int32} {s0 : Int32} {s1 : Int32} (E : Ent Z X mX12_meetings 0 0)  
    (k : JS Z X 17 [(0, .ref (Z.2.2.1 + 455)), (1, .int (s0 + s1)), (2, .int a2), (3, .int (a3 + nI 1))] [] μ) :
    JS Z X 81 [(0, .ref (Z.2.2.1 + 455)), (2, .int a2), (3, .int a3)] [.int s1, .int s0] μ := by
  refine J_iadd E dX12_meetings_81 ?_
  refine J_istore_n (lv' := [(0, .ref (Z.2.2.1 + 455)), (1, .int (s0 + s1)), (2, .int a2), (3, .int a3)]) E dX12_meetings_82 (Nat.le_of_ble_eq_true rfl) rfl ?_
  refine J_iinc (v := a3 + nI 1) (lv' := [(0, .ref (Z.2.2.1 + 455)), (1, .int (s0 + s1)), (2, .int a2), (3, .int (a3 + nI 1))]) E dX12_meetings_83 rfl rfl (Nat.le_of_ble_eq_true rfl) rfl ?_
  refine J_goto (tgt := 17) E dX12_meetings_86 (by decide) ?_
  exact k
theorem bX12_meetings_89 {Z : ZT} {X : XT} {μ : Mu} {a1 : Int32} {a2 : Int32} (E : Ent Z X mX12_meetings 0 0)  
    (k : JS Z X 4 [(0, .ref (Z.2.2.1 + 455)), (1, .int a1), (2, .int (a2 + nI 1))] [] μ) :
    JS Z X 89 [(0, .ref (Z.2.2.1 + 455)), (1, .int a1), (2, .int a2)] [] μ := by
  refine J_iinc (v := a2 + nI 1) (lv' := [(0, .ref (Z.2.2.1 + 455)), (1, .int a1), (2, .int (a2 + nI 1))]) E dX12_meetings_89 rfl rfl (Nat.le_of_ble_eq_true rfl) rfl ?_
  refine J_goto (tgt := 4) E dX12_meetings_92 (by decide) ?_
  exact k
theorem bX12_meetings_95 {Z : ZT} {X : XT} {μ : Mu} {a1 : Int32} (E : Ent Z X mX12_meetings 0 0) {P : Option Value → Mu → Prop} (hB : BodS Z X P) 
    (k : P (some (.int a1)) μ) :
    JS Z X 95 [(1, .int a1)] [] μ := by
  refine J_iload_n E dX12_meetings_95 rfl ?_
  exact S_iret E hB dX12_meetings_96 rfl k
theorem dX12_meet_0 : decode cX12_meet 0 = .ok (.iconst 0, 1) := by decide +kernel
theorem dX12_meet_1 : decode cX12_meet 1 = .ok (.istore_n 1, 1) := by decide +kernel
theorem dX12_meet_2 : decode cX12_meet 2 = .ok (.iload_n 1, 1) := by decide +kernel
theorem dX12_meet_3 : decode cX12_meet 3 = .ok (.iconst 2, 1) := by decide +kernel
theorem dX12_meet_4 : decode cX12_meet 4 = .ok (.if_icmp .ge 29, 3) := by decide +kernel
theorem dX12_meet_7 : decode cX12_meet 7 = .ok (.aload_n 0, 1) := by decide +kernel
theorem dX12_meet_8 : decode cX12_meet 8 = .ok (.iload_n 1, 1) := by decide +kernel
theorem dX12_meet_9 : decode cX12_meet 9 = .ok (.invokevirtual 235, 3) := by decide +kernel
theorem dX12_meet_12 : decode cX12_meet 12 = .ok (.ifCond .ne 10, 3) := by decide +kernel
theorem dX12_meet_15 : decode cX12_meet 15 = .ok (.aload_n 0, 1) := by decide +kernel
theorem dX12_meet_16 : decode cX12_meet 16 = .ok (.bipush (-3), 2) := by decide +kernel
theorem dX12_meet_18 : decode cX12_meet 18 = .ok (.invokevirtual 63, 3) := by decide +kernel
theorem dX12_meet_21 : decode cX12_meet 21 = .ok (.ireturn, 1) := by decide +kernel
theorem dX12_meet_22 : decode cX12_meet 22 = .ok (.aload_n 0, 1) := by decide +kernel
theorem dX12_meet_23 : decode cX12_meet 23 = .ok (.iload_n 1, 1) := by decide +kernel
theorem dX12_meet_24 : decode cX12_meet 24 = .ok (.invokevirtual 280, 3) := by decide +kernel
theorem dX12_meet_27 : decode cX12_meet 27 = .ok (.iinc 1 1, 3) := by decide +kernel
theorem dX12_meet_30 : decode cX12_meet 30 = .ok (.goto (-28), 3) := by decide +kernel
theorem dX12_meet_33 : decode cX12_meet 33 = .ok (.aload_n 0, 1) := by decide +kernel
theorem dX12_meet_34 : decode cX12_meet 34 = .ok (.invokevirtual 283, 3) := by decide +kernel
theorem dX12_meet_37 : decode cX12_meet 37 = .ok (.ireturn, 1) := by decide +kernel
theorem bX12_meet_0 {Z : ZT} {X : XT} {μ : Mu} (E : Ent Z X mX12_meet 0 0)  
    (k : JS Z X 2 [(0, .ref (Z.2.2.1 + 455)), (1, .int (nI 0))] [] μ) :
    JS Z X 0 [(0, .ref (Z.2.2.1 + 455))] [] μ := by
  refine J_iconst (v := nI 0) E dX12_meet_0 rfl ?_
  refine J_istore_n (lv' := [(0, .ref (Z.2.2.1 + 455)), (1, .int (nI 0))]) E dX12_meet_1 (Nat.le_of_ble_eq_true rfl) rfl ?_
  exact k
theorem bX12_meet_2 {Z : ZT} {X : XT} {μ : Mu} {a1 : Int32} (E : Ent Z X mX12_meet 0 0)  
    (kt : (nI 2) ≤ a1 → JS Z X 33 [(0, .ref (Z.2.2.1 + 455))] [] μ) (kf : ¬ ((nI 2) ≤ a1) → JS Z X 7 [(0, .ref (Z.2.2.1 + 455)), (1, .int a1)] [] μ) :
    JS Z X 2 [(0, .ref (Z.2.2.1 + 455)), (1, .int a1)] [] μ := by
  refine J_iload_n E dX12_meet_2 rfl ?_
  refine J_iconst (v := nI 2) E dX12_meet_3 rfl ?_
  refine J_icmp_ge (tgt := 33) E dX12_meet_4 (by decide) (fun c => ?_) (fun c => ?_)
  · refine J.weak [0] rfl ?_
    exact kt c
  · exact kf c
theorem bX12_meet_7 {Z : ZT} {X : XT} {μ : Mu} {a1 : Int32} (E : Ent Z X mX12_meet 0 0) {p : Int32 → Mu → Prop} 
    (c : CtrS Z mX12_isHunt [.ref (Z.2.2.1 + 455), .int a1] μ (rI p)) (k : ∀ v μ1, p v μ1 → JS Z X 12 [(0, .ref (Z.2.2.1 + 455)), (1, .int a1)] [.int v] μ1) :
    JS Z X 7 [(0, .ref (Z.2.2.1 + 455)), (1, .int a1)] [] μ := by
  refine J_aload_n E dX12_meet_7 rfl ?_
  refine J_iload_n E dX12_meet_8 rfl ?_
  refine S_callV (As := [.int a1]) (rest := []) E dX12_meet_9 c kX12_isHunt ⟨Nat.le_of_ble_eq_true rfl, Nat.le_of_ble_eq_true rfl⟩ rfl (Nat.le_of_ble_eq_true rfl) sh455 rfl rfl w6_197 w6_199 wp_47 (fun r_ μ1 hp_ => ?_)
  obtain ⟨v, rfl, hp_⟩ := hp_
  exact k v μ1 hp_
theorem bX12_meet_12 {Z : ZT} {X : XT} {μ : Mu} {a1 : Int32} {s0 : Int32} (E : Ent Z X mX12_meet 0 0)  
    (kt : ¬ s0 = 0 → JS Z X 22 [(0, .ref (Z.2.2.1 + 455)), (1, .int a1)] [] μ) (kf : s0 = 0 → JS Z X 15 [(0, .ref (Z.2.2.1 + 455))] [] μ) :
    JS Z X 12 [(0, .ref (Z.2.2.1 + 455)), (1, .int a1)] [.int s0] μ := by
  refine J_if_ne (tgt := 22) E dX12_meet_12 (by decide) (fun c => ?_) (fun c => ?_)
  · exact kt c
  · refine J.weak [0] rfl ?_
    exact kf c
theorem bX12_meet_15 {Z : ZT} {X : XT} {μ : Mu} (E : Ent Z X mX12_meet 0 0) {p : Int32 → Mu → Prop} 
    (c : CtrS Z mX12_refuse [.ref (Z.2.2.1 + 455), .int (-3)] μ (rI p)) (k : ∀ v μ1, p v μ1 → JS Z X 21 [] [.int v] μ1) :
    JS Z X 15 [(0, .ref (Z.2.2.1 + 455))] [] μ := by
  refine J_aload_n E dX12_meet_15 rfl ?_
  refine J_bipush (v := -3) E dX12_meet_16 rfl ?_
  refine S_callV (As := [.int (-3)]) (rest := []) E dX12_meet_18 c kX12_refuse ⟨Nat.le_of_ble_eq_true rfl, Nat.le_of_ble_eq_true rfl⟩ rfl (Nat.le_of_ble_eq_true rfl) sh455 rfl rfl w6_51 w6_53 wp_30 (fun r_ μ1 hp_ => ?_)
  obtain ⟨v, rfl, hp_⟩ := hp_
  refine J.weak [] rfl ?_
  exact k v μ1 hp_
theorem bX12_meet_21 {Z : ZT} {X : XT} {μ : Mu} {s0 : Int32} (E : Ent Z X mX12_meet 0 0) {P : Option Value → Mu → Prop} (hB : BodS Z X P) 
    (k : P (some (.int s0)) μ) :
    JS Z X 21 [] [.int s0] μ := by
  exact S_iret E hB dX12_meet_21 rfl k
theorem bX12_meet_22 {Z : ZT} {X : XT} {μ : Mu} {a1 : Int32} (E : Ent Z X mX12_meet 0 0) {p : Mu → Prop} 
    (c : CtrS Z mX12_findTimes [.ref (Z.2.2.1 + 455), .int a1] μ (rV p)) (k : ∀ μ1, p μ1 → JS Z X 27 [(0, .ref (Z.2.2.1 + 455)), (1, .int a1)] [] μ1) :
    JS Z X 22 [(0, .ref (Z.2.2.1 + 455)), (1, .int a1)] [] μ := by
  refine J_aload_n E dX12_meet_22 rfl ?_
  refine J_iload_n E dX12_meet_23 rfl ?_
  refine S_callV (As := [.int a1]) (rest := []) E dX12_meet_24 c kX12_findTimes ⟨Nat.le_of_ble_eq_true rfl, Nat.le_of_ble_eq_true rfl⟩ rfl (Nat.le_of_ble_eq_true rfl) sh455 rfl rfl w7_124 w7_126 wp_80 (fun r_ μ1 hp_ => ?_)
  obtain ⟨rfl, hp_⟩ := hp_
  exact k μ1 hp_
theorem bX12_meet_27 {Z : ZT} {X : XT} {μ : Mu} {a1 : Int32} (E : Ent Z X mX12_meet 0 0)  
    (k : JS Z X 2 [(0, .ref (Z.2.2.1 + 455)), (1, .int (a1 + nI 1))] [] μ) :
    JS Z X 27 [(0, .ref (Z.2.2.1 + 455)), (1, .int a1)] [] μ := by
  refine J_iinc (v := a1 + nI 1) (lv' := [(0, .ref (Z.2.2.1 + 455)), (1, .int (a1 + nI 1))]) E dX12_meet_27 rfl rfl (Nat.le_of_ble_eq_true rfl) rfl ?_
  refine J_goto (tgt := 2) E dX12_meet_30 (by decide) ?_
  exact k
theorem bX12_meet_33 {Z : ZT} {X : XT} {μ : Mu} (E : Ent Z X mX12_meet 0 0) {p : Int32 → Mu → Prop} 
    (c : CtrS Z mX12_meetings [.ref (Z.2.2.1 + 455)] μ (rI p)) (k : ∀ v μ1, p v μ1 → JS Z X 37 [] [.int v] μ1) :
    JS Z X 33 [(0, .ref (Z.2.2.1 + 455))] [] μ := by
  refine J_aload_n E dX12_meet_33 rfl ?_
  refine S_callV (As := []) (rest := []) E dX12_meet_34 c kX12_meetings ⟨Nat.le_of_ble_eq_true rfl, Nat.le_of_ble_eq_true rfl⟩ rfl (Nat.le_of_ble_eq_true rfl) sh455 rfl rfl w7_128 w7_130 wp_81 (fun r_ μ1 hp_ => ?_)
  obtain ⟨v, rfl, hp_⟩ := hp_
  refine J.weak [] rfl ?_
  exact k v μ1 hp_
theorem bX12_meet_37 {Z : ZT} {X : XT} {μ : Mu} {s0 : Int32} (E : Ent Z X mX12_meet 0 0) {P : Option Value → Mu → Prop} (hB : BodS Z X P) 
    (k : P (some (.int s0)) μ) :
    JS Z X 37 [] [.int s0] μ := by
  exact S_iret E hB dX12_meet_37 rfl k
theorem dX12_apart_0 : decode cX12_apart 0 = .ok (.iload_n 1, 1) := by decide +kernel
theorem dX12_apart_1 : decode cX12_apart 1 = .ok (.iconst (-1), 1) := by decide +kernel
theorem dX12_apart_2 : decode cX12_apart 2 = .ok (.iconst 5, 1) := by decide +kernel
theorem dX12_apart_3 : decode cX12_apart 3 = .ok (.invokestatic 67, 3) := by decide +kernel
theorem dX12_apart_6 : decode cX12_apart 6 = .ok (.ifCond .ne 13, 3) := by decide +kernel
theorem dX12_apart_9 : decode cX12_apart 9 = .ok (.aload_n 0, 1) := by decide +kernel
theorem dX12_apart_10 : decode cX12_apart 10 = .ok (.bipush (-2), 2) := by decide +kernel
theorem dX12_apart_12 : decode cX12_apart 12 = .ok (.invokevirtual 63, 3) := by decide +kernel
theorem dX12_apart_15 : decode cX12_apart 15 = .ok (.pop, 1) := by decide +kernel
theorem dX12_apart_16 : decode cX12_apart 16 = .ok (.bipush (-10), 2) := by decide +kernel
theorem dX12_apart_18 : decode cX12_apart 18 = .ok (.ireturn, 1) := by decide +kernel
theorem dX12_apart_19 : decode cX12_apart 19 = .ok (.ldc 157, 2) := by decide +kernel
theorem dX12_apart_21 : decode cX12_apart 21 = .ok (.istore_n 2, 1) := by decide +kernel
theorem dX12_apart_22 : decode cX12_apart 22 = .ok (.aload_n 0, 1) := by decide +kernel
theorem dX12_apart_23 : decode cX12_apart 23 = .ok (.iconst 1, 1) := by decide +kernel
theorem dX12_apart_24 : decode cX12_apart 24 = .ok (.invokevirtual 235, 3) := by decide +kernel
theorem dX12_apart_27 : decode cX12_apart 27 = .ok (.ifCond .eq 15, 3) := by decide +kernel
theorem dX12_apart_30 : decode cX12_apart 30 = .ok (.aload_n 0, 1) := by decide +kernel
theorem dX12_apart_31 : decode cX12_apart 31 = .ok (.iconst 0, 1) := by decide +kernel
theorem dX12_apart_32 : decode cX12_apart 32 = .ok (.invokevirtual 235, 3) := by decide +kernel
theorem dX12_apart_35 : decode cX12_apart 35 = .ok (.ifCond .eq 7, 3) := by decide +kernel
theorem dX12_apart_38 : decode cX12_apart 38 = .ok (.iconst 1, 1) := by decide +kernel
theorem dX12_apart_39 : decode cX12_apart 39 = .ok (.goto 4, 3) := by decide +kernel
theorem dX12_apart_42 : decode cX12_apart 42 = .ok (.iconst 0, 1) := by decide +kernel
theorem dX12_apart_43 : decode cX12_apart 43 = .ok (.istore_n 3, 1) := by decide +kernel
theorem dX12_apart_44 : decode cX12_apart 44 = .ok (.iload_n 3, 1) := by decide +kernel
theorem dX12_apart_45 : decode cX12_apart 45 = .ok (.ifCond .eq 60, 3) := by decide +kernel
theorem dX12_apart_48 : decode cX12_apart 48 = .ok (.aload_n 0, 1) := by decide +kernel
theorem dX12_apart_49 : decode cX12_apart 49 = .ok (.iconst 0, 1) := by decide +kernel
theorem dX12_apart_50 : decode cX12_apart 50 = .ok (.invokevirtual 280, 3) := by decide +kernel
theorem dX12_apart_53 : decode cX12_apart 53 = .ok (.aload_n 0, 1) := by decide +kernel
theorem dX12_apart_54 : decode cX12_apart 54 = .ok (.iconst 1, 1) := by decide +kernel
theorem dX12_apart_55 : decode cX12_apart 55 = .ok (.invokevirtual 181, 3) := by decide +kernel
theorem dX12_apart_58 : decode cX12_apart 58 = .ok (.aload_n 0, 1) := by decide +kernel
theorem dX12_apart_59 : decode cX12_apart 59 = .ok (.invokevirtual 262, 3) := by decide +kernel
theorem dX12_apart_62 : decode cX12_apart 62 = .ok (.iload_n 3, 1) := by decide +kernel
theorem dX12_apart_63 : decode cX12_apart 63 = .ok (.ifCond .eq 42, 3) := by decide +kernel
theorem dX12_apart_66 : decode cX12_apart 66 = .ok (.aload_n 0, 1) := by decide +kernel
theorem dX12_apart_67 : decode cX12_apart 67 = .ok (.invokevirtual 185, 3) := by decide +kernel
theorem dX12_apart_70 : decode cX12_apart 70 = .ok (.ifCond .eq 27, 3) := by decide +kernel
theorem dX12_apart_73 : decode cX12_apart 73 = .ok (.aload_n 0, 1) := by decide +kernel
theorem dX12_apart_74 : decode cX12_apart 74 = .ok (.iconst 1, 1) := by decide +kernel
theorem dX12_apart_75 : decode cX12_apart 75 = .ok (.invokevirtual 280, 3) := by decide +kernel
theorem dX12_apart_78 : decode cX12_apart 78 = .ok (.aload_n 0, 1) := by decide +kernel
theorem dX12_apart_79 : decode cX12_apart 79 = .ok (.invokevirtual 283, 3) := by decide +kernel
theorem dX12_apart_82 : decode cX12_apart 82 = .ok (.istore 4, 2) := by decide +kernel
theorem dX12_apart_84 : decode cX12_apart 84 = .ok (.iload 4, 2) := by decide +kernel
theorem dX12_apart_86 : decode cX12_apart 86 = .ok (.iload_n 2, 1) := by decide +kernel
theorem dX12_apart_87 : decode cX12_apart 87 = .ok (.if_icmp .ge 10, 3) := by decide +kernel
theorem dX12_apart_90 : decode cX12_apart 90 = .ok (.iload 4, 2) := by decide +kernel
theorem dX12_apart_92 : decode cX12_apart 92 = .ok (.istore_n 2, 1) := by decide +kernel
theorem dX12_apart_93 : decode cX12_apart 93 = .ok (.aload_n 0, 1) := by decide +kernel
theorem dX12_apart_94 : decode cX12_apart 94 = .ok (.invokevirtual 268, 3) := by decide +kernel
theorem dX12_apart_97 : decode cX12_apart 97 = .ok (.aload_n 0, 1) := by decide +kernel
theorem dX12_apart_98 : decode cX12_apart 98 = .ok (.invokevirtual 271, 3) := by decide +kernel
theorem dX12_apart_101 : decode cX12_apart 101 = .ok (.istore_n 3, 1) := by decide +kernel
theorem dX12_apart_102 : decode cX12_apart 102 = .ok (.goto (-40), 3) := by decide +kernel
theorem dX12_apart_105 : decode cX12_apart 105 = .ok (.iload_n 2, 1) := by decide +kernel
theorem dX12_apart_106 : decode cX12_apart 106 = .ok (.ldc 157, 2) := by decide +kernel
theorem dX12_apart_108 : decode cX12_apart 108 = .ok (.if_icmp .ne 13, 3) := by decide +kernel
theorem dX12_apart_111 : decode cX12_apart 111 = .ok (.aload_n 0, 1) := by decide +kernel
theorem dX12_apart_112 : decode cX12_apart 112 = .ok (.bipush (-3), 2) := by decide +kernel
theorem dX12_apart_114 : decode cX12_apart 114 = .ok (.invokevirtual 63, 3) := by decide +kernel
theorem dX12_apart_117 : decode cX12_apart 117 = .ok (.pop, 1) := by decide +kernel
theorem dX12_apart_118 : decode cX12_apart 118 = .ok (.bipush (-20), 2) := by decide +kernel
theorem dX12_apart_120 : decode cX12_apart 120 = .ok (.ireturn, 1) := by decide +kernel
theorem dX12_apart_121 : decode cX12_apart 121 = .ok (.iload_n 1, 1) := by decide +kernel
theorem dX12_apart_122 : decode cX12_apart 122 = .ok (.iconst (-1), 1) := by decide +kernel
theorem dX12_apart_123 : decode cX12_apart 123 = .ok (.if_icmp .ne 7, 3) := by decide +kernel
theorem dX12_apart_126 : decode cX12_apart 126 = .ok (.iload_n 2, 1) := by decide +kernel
theorem dX12_apart_127 : decode cX12_apart 127 = .ok (.goto 22, 3) := by decide +kernel
theorem dX12_apart_130 : decode cX12_apart 130 = .ok (.iload_n 1, 1) := by decide +kernel
theorem dX12_apart_131 : decode cX12_apart 131 = .ok (.aload_n 0, 1) := by decide +kernel
theorem dX12_apart_132 : decode cX12_apart 132 = .ok (.getfield 168, 3) := by decide +kernel
theorem dX12_apart_135 : decode cX12_apart 135 = .ok (.if_icmp .ge 12, 3) := by decide +kernel
theorem dX12_apart_138 : decode cX12_apart 138 = .ok (.aload_n 0, 1) := by decide +kernel
theorem dX12_apart_139 : decode cX12_apart 139 = .ok (.getfield 42, 3) := by decide +kernel
theorem dX12_apart_142 : decode cX12_apart 142 = .ok (.iload_n 1, 1) := by decide +kernel
theorem dX12_apart_143 : decode cX12_apart 143 = .ok (.iaload, 1) := by decide +kernel
theorem dX12_apart_144 : decode cX12_apart 144 = .ok (.goto 5, 3) := by decide +kernel
theorem dX12_apart_147 : decode cX12_apart 147 = .ok (.bipush (-5), 2) := by decide +kernel
theorem dX12_apart_149 : decode cX12_apart 149 = .ok (.ireturn, 1) := by decide +kernel
theorem bX12_apart_0 {Z : ZT} {X : XT} {μ : Mu} {a1 : Int32} (E : Ent Z X mX12_apart 0 0) {p : Int32 → Mu → Prop} 
    (c : CtrS Z mX12_in [.int a1, .int (-1), .int (nI 5)] μ (rI p)) (k : ∀ v μ1, p v μ1 → JS Z X 6 [(0, .ref (Z.2.2.1 + 455)), (1, .int a1)] [.int v] μ1) :
    JS Z X 0 [(0, .ref (Z.2.2.1 + 455)), (1, .int a1)] [] μ := by
  refine J_iload_n E dX12_apart_0 rfl ?_
  refine J_iconst (v := -1) E dX12_apart_1 rfl ?_
  refine J_iconst (v := nI 5) E dX12_apart_2 rfl ?_
  refine S_callS (As := [.int a1, .int (-1), .int (nI 5)]) (rest := []) E dX12_apart_3 c kX12_in ⟨Nat.le_of_ble_eq_true rfl, Nat.le_of_ble_eq_true rfl⟩ rfl (Nat.le_of_ble_eq_true rfl) w6_67 w6_68 (fun r_ μ1 hp_ => ?_)
  obtain ⟨v, rfl, hp_⟩ := hp_
  exact k v μ1 hp_
theorem bX12_apart_6 {Z : ZT} {X : XT} {μ : Mu} {a1 : Int32} {s0 : Int32} (E : Ent Z X mX12_apart 0 0)  
    (kt : ¬ s0 = 0 → JS Z X 19 [(0, .ref (Z.2.2.1 + 455)), (1, .int a1)] [] μ) (kf : s0 = 0 → JS Z X 9 [(0, .ref (Z.2.2.1 + 455))] [] μ) :
    JS Z X 6 [(0, .ref (Z.2.2.1 + 455)), (1, .int a1)] [.int s0] μ := by
  refine J_if_ne (tgt := 19) E dX12_apart_6 (by decide) (fun c => ?_) (fun c => ?_)
  · exact kt c
  · refine J.weak [0] rfl ?_
    exact kf c
theorem bX12_apart_9 {Z : ZT} {X : XT} {μ : Mu} (E : Ent Z X mX12_apart 0 0) {p : Int32 → Mu → Prop} 
    (c : CtrS Z mX12_refuse [.ref (Z.2.2.1 + 455), .int (-2)] μ (rI p)) (k : ∀ v μ1, p v μ1 → JS Z X 15 [] [.int v] μ1) :
    JS Z X 9 [(0, .ref (Z.2.2.1 + 455))] [] μ := by
  refine J_aload_n E dX12_apart_9 rfl ?_
  refine J_bipush (v := -2) E dX12_apart_10 rfl ?_
  refine S_callV (As := [.int (-2)]) (rest := []) E dX12_apart_12 c kX12_refuse ⟨Nat.le_of_ble_eq_true rfl, Nat.le_of_ble_eq_true rfl⟩ rfl (Nat.le_of_ble_eq_true rfl) sh455 rfl rfl w6_51 w6_53 wp_30 (fun r_ μ1 hp_ => ?_)
  obtain ⟨v, rfl, hp_⟩ := hp_
  refine J.weak [] rfl ?_
  exact k v μ1 hp_
theorem bX12_apart_15 {Z : ZT} {X : XT} {μ : Mu} {s0 : Int32} (E : Ent Z X mX12_apart 0 0) {P : Option Value → Mu → Prop} (hB : BodS Z X P) 
    (k : P (some (.int (-10))) μ) :
    JS Z X 15 [] [.int s0] μ := by
  refine J_pop E dX12_apart_15 rfl ?_
  refine J_bipush (v := -10) E dX12_apart_16 rfl ?_
  exact S_iret E hB dX12_apart_18 rfl k
theorem bX12_apart_19 {Z : ZT} {X : XT} {μ : Mu} {a1 : Int32} (E : Ent Z X mX12_apart 0 0) {p : Int32 → Mu → Prop} 
    (c : CtrS Z mX12_isHunt [.ref (Z.2.2.1 + 455), .int (nI 1)] μ (rI p)) (k : ∀ v μ1, p v μ1 → JS Z X 27 [(0, .ref (Z.2.2.1 + 455)), (1, .int a1), (2, .int (nI 100000))] [.int v] μ1) :
    JS Z X 19 [(0, .ref (Z.2.2.1 + 455)), (1, .int a1)] [] μ := by
  refine J_ldc (v := nI 100000) E dX12_apart_19 w6_192 ?_
  refine J_istore_n (lv' := [(0, .ref (Z.2.2.1 + 455)), (1, .int a1), (2, .int (nI 100000))]) E dX12_apart_21 (Nat.le_of_ble_eq_true rfl) rfl ?_
  refine J_aload_n E dX12_apart_22 rfl ?_
  refine J_iconst (v := nI 1) E dX12_apart_23 rfl ?_
  refine S_callV (As := [.int (nI 1)]) (rest := []) E dX12_apart_24 c kX12_isHunt ⟨Nat.le_of_ble_eq_true rfl, Nat.le_of_ble_eq_true rfl⟩ rfl (Nat.le_of_ble_eq_true rfl) sh455 rfl rfl w6_197 w6_199 wp_47 (fun r_ μ1 hp_ => ?_)
  obtain ⟨v, rfl, hp_⟩ := hp_
  exact k v μ1 hp_
theorem bX12_apart_27 {Z : ZT} {X : XT} {μ : Mu} {a1 : Int32} {a2 : Int32} {s0 : Int32} (E : Ent Z X mX12_apart 0 0)  
    (kt : s0 = 0 → JS Z X 42 [(0, .ref (Z.2.2.1 + 455)), (1, .int a1), (2, .int a2)] [] μ) (kf : ¬ (s0 = 0) → JS Z X 30 [(0, .ref (Z.2.2.1 + 455)), (1, .int a1), (2, .int a2)] [] μ) :
    JS Z X 27 [(0, .ref (Z.2.2.1 + 455)), (1, .int a1), (2, .int a2)] [.int s0] μ := by
  refine J_if_eq (tgt := 42) E dX12_apart_27 (by decide) (fun c => ?_) (fun c => ?_)
  · exact kt c
  · exact kf c
theorem bX12_apart_30 {Z : ZT} {X : XT} {μ : Mu} {a1 : Int32} {a2 : Int32} (E : Ent Z X mX12_apart 0 0) {p : Int32 → Mu → Prop} 
    (c : CtrS Z mX12_isHunt [.ref (Z.2.2.1 + 455), .int (nI 0)] μ (rI p)) (k : ∀ v μ1, p v μ1 → JS Z X 35 [(0, .ref (Z.2.2.1 + 455)), (1, .int a1), (2, .int a2)] [.int v] μ1) :
    JS Z X 30 [(0, .ref (Z.2.2.1 + 455)), (1, .int a1), (2, .int a2)] [] μ := by
  refine J_aload_n E dX12_apart_30 rfl ?_
  refine J_iconst (v := nI 0) E dX12_apart_31 rfl ?_
  refine S_callV (As := [.int (nI 0)]) (rest := []) E dX12_apart_32 c kX12_isHunt ⟨Nat.le_of_ble_eq_true rfl, Nat.le_of_ble_eq_true rfl⟩ rfl (Nat.le_of_ble_eq_true rfl) sh455 rfl rfl w6_197 w6_199 wp_47 (fun r_ μ1 hp_ => ?_)
  obtain ⟨v, rfl, hp_⟩ := hp_
  exact k v μ1 hp_
theorem bX12_apart_35 {Z : ZT} {X : XT} {μ : Mu} {a1 : Int32} {a2 : Int32} {s0 : Int32} (E : Ent Z X mX12_apart 0 0)  
    (kt : s0 = 0 → JS Z X 42 [(0, .ref (Z.2.2.1 + 455)), (1, .int a1), (2, .int a2)] [] μ) (kf : ¬ (s0 = 0) → JS Z X 38 [(0, .ref (Z.2.2.1 + 455)), (1, .int a1), (2, .int a2)] [] μ) :
    JS Z X 35 [(0, .ref (Z.2.2.1 + 455)), (1, .int a1), (2, .int a2)] [.int s0] μ := by
  refine J_if_eq (tgt := 42) E dX12_apart_35 (by decide) (fun c => ?_) (fun c => ?_)
  · exact kt c
  · exact kf c
theorem bX12_apart_38 {Z : ZT} {X : XT} {μ : Mu} {a1 : Int32} {a2 : Int32} (E : Ent Z X mX12_apart 0 0)  
    (k : JS Z X 43 [(0, .ref (Z.2.2.1 + 455)), (1, .int a1), (2, .int a2)] [.int (nI 1)] μ) :
    JS Z X 38 [(0, .ref (Z.2.2.1 + 455)), (1, .int a1), (2, .int a2)] [] μ := by
  refine J_iconst (v := nI 1) E dX12_apart_38 rfl ?_
  refine J_goto (tgt := 43) E dX12_apart_39 (by decide) ?_
  exact k
theorem bX12_apart_42 {Z : ZT} {X : XT} {μ : Mu} {a1 : Int32} {a2 : Int32} (E : Ent Z X mX12_apart 0 0)  
    (k : JS Z X 43 [(0, .ref (Z.2.2.1 + 455)), (1, .int a1), (2, .int a2)] [.int (nI 0)] μ) :
    JS Z X 42 [(0, .ref (Z.2.2.1 + 455)), (1, .int a1), (2, .int a2)] [] μ := by
  refine J_iconst (v := nI 0) E dX12_apart_42 rfl ?_
  exact k
theorem bX12_apart_43 {Z : ZT} {X : XT} {μ : Mu} {a1 : Int32} {a2 : Int32} {s0 : Int32} (E : Ent Z X mX12_apart 0 0)  
    (kt : s0 = 0 → JS Z X 105 [(0, .ref (Z.2.2.1 + 455)), (1, .int a1), (2, .int a2)] [] μ) (kf : ¬ (s0 = 0) → JS Z X 48 [(0, .ref (Z.2.2.1 + 455)), (1, .int a1), (2, .int a2), (3, .int s0)] [] μ) :
    JS Z X 43 [(0, .ref (Z.2.2.1 + 455)), (1, .int a1), (2, .int a2)] [.int s0] μ := by
  refine J_istore_n (lv' := [(0, .ref (Z.2.2.1 + 455)), (1, .int a1), (2, .int a2), (3, .int s0)]) E dX12_apart_43 (Nat.le_of_ble_eq_true rfl) rfl ?_
  refine J_iload_n E dX12_apart_44 rfl ?_
  refine J_if_eq (tgt := 105) E dX12_apart_45 (by decide) (fun c => ?_) (fun c => ?_)
  · refine J.weak [0, 1, 2] rfl ?_
    exact kt c
  · exact kf c
theorem bX12_apart_48 {Z : ZT} {X : XT} {μ : Mu} {a1 : Int32} {a2 : Int32} {a3 : Int32} (E : Ent Z X mX12_apart 0 0) {p : Mu → Prop} 
    (c : CtrS Z mX12_findTimes [.ref (Z.2.2.1 + 455), .int (nI 0)] μ (rV p)) (k : ∀ μ1, p μ1 → JS Z X 53 [(0, .ref (Z.2.2.1 + 455)), (1, .int a1), (2, .int a2), (3, .int a3)] [] μ1) :
    JS Z X 48 [(0, .ref (Z.2.2.1 + 455)), (1, .int a1), (2, .int a2), (3, .int a3)] [] μ := by
  refine J_aload_n E dX12_apart_48 rfl ?_
  refine J_iconst (v := nI 0) E dX12_apart_49 rfl ?_
  refine S_callV (As := [.int (nI 0)]) (rest := []) E dX12_apart_50 c kX12_findTimes ⟨Nat.le_of_ble_eq_true rfl, Nat.le_of_ble_eq_true rfl⟩ rfl (Nat.le_of_ble_eq_true rfl) sh455 rfl rfl w7_124 w7_126 wp_80 (fun r_ μ1 hp_ => ?_)
  obtain ⟨rfl, hp_⟩ := hp_
  exact k μ1 hp_
theorem bX12_apart_53 {Z : ZT} {X : XT} {μ : Mu} {a1 : Int32} {a2 : Int32} {a3 : Int32} (E : Ent Z X mX12_apart 0 0) {p : Mu → Prop} 
    (c : CtrS Z mX12_takeRow [.ref (Z.2.2.1 + 455), .int (nI 1)] μ (rV p)) (k : ∀ μ1, p μ1 → JS Z X 58 [(0, .ref (Z.2.2.1 + 455)), (1, .int a1), (2, .int a2), (3, .int a3)] [] μ1) :
    JS Z X 53 [(0, .ref (Z.2.2.1 + 455)), (1, .int a1), (2, .int a2), (3, .int a3)] [] μ := by
  refine J_aload_n E dX12_apart_53 rfl ?_
  refine J_iconst (v := nI 1) E dX12_apart_54 rfl ?_
  refine S_callV (As := [.int (nI 1)]) (rest := []) E dX12_apart_55 c kX12_takeRow ⟨Nat.le_of_ble_eq_true rfl, Nat.le_of_ble_eq_true rfl⟩ rfl (Nat.le_of_ble_eq_true rfl) sh455 rfl rfl w6_201 w6_203 wp_48 (fun r_ μ1 hp_ => ?_)
  obtain ⟨rfl, hp_⟩ := hp_
  exact k μ1 hp_
theorem bX12_apart_58 {Z : ZT} {X : XT} {μ : Mu} {a1 : Int32} {a2 : Int32} {a3 : Int32} (E : Ent Z X mX12_apart 0 0) {p : Mu → Prop} 
    (c : CtrS Z mX12_sortOrder [.ref (Z.2.2.1 + 455)] μ (rV p)) (k : ∀ μ1, p μ1 → JS Z X 62 [(0, .ref (Z.2.2.1 + 455)), (1, .int a1), (2, .int a2), (3, .int a3)] [] μ1) :
    JS Z X 58 [(0, .ref (Z.2.2.1 + 455)), (1, .int a1), (2, .int a2), (3, .int a3)] [] μ := by
  refine J_aload_n E dX12_apart_58 rfl ?_
  refine S_callV (As := []) (rest := []) E dX12_apart_59 c kX12_sortOrder ⟨Nat.le_of_ble_eq_true rfl, Nat.le_of_ble_eq_true rfl⟩ rfl (Nat.le_of_ble_eq_true rfl) sh455 rfl rfl w7_88 w7_90 wp_73 (fun r_ μ1 hp_ => ?_)
  obtain ⟨rfl, hp_⟩ := hp_
  exact k μ1 hp_
theorem bX12_apart_62 {Z : ZT} {X : XT} {μ : Mu} {a1 : Int32} {a2 : Int32} {a3 : Int32} (E : Ent Z X mX12_apart 0 0)  
    (kt : a3 = 0 → JS Z X 105 [(0, .ref (Z.2.2.1 + 455)), (1, .int a1), (2, .int a2)] [] μ) (kf : ¬ (a3 = 0) → JS Z X 66 [(0, .ref (Z.2.2.1 + 455)), (1, .int a1), (2, .int a2)] [] μ) :
    JS Z X 62 [(0, .ref (Z.2.2.1 + 455)), (1, .int a1), (2, .int a2), (3, .int a3)] [] μ := by
  refine J_iload_n E dX12_apart_62 rfl ?_
  refine J_if_eq (tgt := 105) E dX12_apart_63 (by decide) (fun c => ?_) (fun c => ?_)
  · refine J.weak [0, 1, 2] rfl ?_
    exact kt c
  · refine J.weak [0, 1, 2] rfl ?_
    exact kf c
theorem bX12_apart_66 {Z : ZT} {X : XT} {μ : Mu} {a1 : Int32} {a2 : Int32} (E : Ent Z X mX12_apart 0 0) {p : Int32 → Mu → Prop} 
    (c : CtrS Z mX12_findHunt [.ref (Z.2.2.1 + 455)] μ (rI p)) (k : ∀ v μ1, p v μ1 → JS Z X 70 [(0, .ref (Z.2.2.1 + 455)), (1, .int a1), (2, .int a2)] [.int v] μ1) :
    JS Z X 66 [(0, .ref (Z.2.2.1 + 455)), (1, .int a1), (2, .int a2)] [] μ := by
  refine J_aload_n E dX12_apart_66 rfl ?_
  refine S_callV (As := []) (rest := []) E dX12_apart_67 c kX12_findHunt ⟨Nat.le_of_ble_eq_true rfl, Nat.le_of_ble_eq_true rfl⟩ rfl (Nat.le_of_ble_eq_true rfl) sh455 rfl rfl w6_205 w6_207 wp_49 (fun r_ μ1 hp_ => ?_)
  obtain ⟨v, rfl, hp_⟩ := hp_
  exact k v μ1 hp_
theorem bX12_apart_70 {Z : ZT} {X : XT} {μ : Mu} {a1 : Int32} {a2 : Int32} {s0 : Int32} (E : Ent Z X mX12_apart 0 0)  
    (kt : s0 = 0 → JS Z X 97 [(0, .ref (Z.2.2.1 + 455)), (1, .int a1), (2, .int a2)] [] μ) (kf : ¬ (s0 = 0) → JS Z X 73 [(0, .ref (Z.2.2.1 + 455)), (1, .int a1), (2, .int a2)] [] μ) :
    JS Z X 70 [(0, .ref (Z.2.2.1 + 455)), (1, .int a1), (2, .int a2)] [.int s0] μ := by
  refine J_if_eq (tgt := 97) E dX12_apart_70 (by decide) (fun c => ?_) (fun c => ?_)
  · exact kt c
  · exact kf c
theorem bX12_apart_73 {Z : ZT} {X : XT} {μ : Mu} {a1 : Int32} {a2 : Int32} (E : Ent Z X mX12_apart 0 0) {p : Mu → Prop} 
    (c : CtrS Z mX12_findTimes [.ref (Z.2.2.1 + 455), .int (nI 1)] μ (rV p)) (k : ∀ μ1, p μ1 → JS Z X 78 [(0, .ref (Z.2.2.1 + 455)), (1, .int a1), (2, .int a2)] [] μ1) :
    JS Z X 73 [(0, .ref (Z.2.2.1 + 455)), (1, .int a1), (2, .int a2)] [] μ := by
  refine J_aload_n E dX12_apart_73 rfl ?_
  refine J_iconst (v := nI 1) E dX12_apart_74 rfl ?_
  refine S_callV (As := [.int (nI 1)]) (rest := []) E dX12_apart_75 c kX12_findTimes ⟨Nat.le_of_ble_eq_true rfl, Nat.le_of_ble_eq_true rfl⟩ rfl (Nat.le_of_ble_eq_true rfl) sh455 rfl rfl w7_124 w7_126 wp_80 (fun r_ μ1 hp_ => ?_)
  obtain ⟨rfl, hp_⟩ := hp_
  exact k μ1 hp_
theorem bX12_apart_78 {Z : ZT} {X : XT} {μ : Mu} {a1 : Int32} {a2 : Int32} (E : Ent Z X mX12_apart 0 0) {p : Int32 → Mu → Prop} 
    (c : CtrS Z mX12_meetings [.ref (Z.2.2.1 + 455)] μ (rI p)) (k : ∀ v μ1, p v μ1 → JS Z X 82 [(0, .ref (Z.2.2.1 + 455)), (1, .int a1), (2, .int a2)] [.int v] μ1) :
    JS Z X 78 [(0, .ref (Z.2.2.1 + 455)), (1, .int a1), (2, .int a2)] [] μ := by
  refine J_aload_n E dX12_apart_78 rfl ?_
  refine S_callV (As := []) (rest := []) E dX12_apart_79 c kX12_meetings ⟨Nat.le_of_ble_eq_true rfl, Nat.le_of_ble_eq_true rfl⟩ rfl (Nat.le_of_ble_eq_true rfl) sh455 rfl rfl w7_128 w7_130 wp_81 (fun r_ μ1 hp_ => ?_)
  obtain ⟨v, rfl, hp_⟩ := hp_
  exact k v μ1 hp_
theorem bX12_apart_82 {Z : ZT} {X : XT} {μ : Mu} {a1 : Int32} {a2 : Int32} {s0 : Int32} (E : Ent Z X mX12_apart 0 0)  
    (kt : a2 ≤ s0 → JS Z X 97 [(0, .ref (Z.2.2.1 + 455)), (1, .int a1), (2, .int a2)] [] μ) (kf : ¬ (a2 ≤ s0) → JS Z X 90 [(0, .ref (Z.2.2.1 + 455)), (1, .int a1), (4, .int s0)] [] μ) :
    JS Z X 82 [(0, .ref (Z.2.2.1 + 455)), (1, .int a1), (2, .int a2)] [.int s0] μ := by
  refine J_istore (lv' := [(0, .ref (Z.2.2.1 + 455)), (1, .int a1), (2, .int a2), (4, .int s0)]) E dX12_apart_82 (Nat.le_of_ble_eq_true rfl) rfl ?_
  refine J_iload E dX12_apart_84 rfl ?_
  refine J_iload_n E dX12_apart_86 rfl ?_
  refine J_icmp_ge (tgt := 97) E dX12_apart_87 (by decide) (fun c => ?_) (fun c => ?_)
  · refine J.weak [0, 1, 2] rfl ?_
    exact kt c
  · refine J.weak [0, 1, 3] rfl ?_
    exact kf c
theorem bX12_apart_90 {Z : ZT} {X : XT} {μ : Mu} {a1 : Int32} {a4 : Int32} (E : Ent Z X mX12_apart 0 0) {p : Mu → Prop} 
    (c : CtrS Z mX12_keepOrder [.ref (Z.2.2.1 + 455)] μ (rV p)) (k : ∀ μ1, p μ1 → JS Z X 97 [(0, .ref (Z.2.2.1 + 455)), (1, .int a1), (2, .int a4)] [] μ1) :
    JS Z X 90 [(0, .ref (Z.2.2.1 + 455)), (1, .int a1), (4, .int a4)] [] μ := by
  refine J_iload E dX12_apart_90 rfl ?_
  refine J_istore_n (lv' := [(0, .ref (Z.2.2.1 + 455)), (1, .int a1), (2, .int a4), (4, .int a4)]) E dX12_apart_92 (Nat.le_of_ble_eq_true rfl) rfl ?_
  refine J_aload_n E dX12_apart_93 rfl ?_
  refine S_callV (As := []) (rest := []) E dX12_apart_94 c kX12_keepOrder ⟨Nat.le_of_ble_eq_true rfl, Nat.le_of_ble_eq_true rfl⟩ rfl (Nat.le_of_ble_eq_true rfl) sh455 rfl rfl w7_96 w7_98 wp_75 (fun r_ μ1 hp_ => ?_)
  obtain ⟨rfl, hp_⟩ := hp_
  refine J.weak [0, 1, 2] rfl ?_
  exact k μ1 hp_
theorem bX12_apart_97 {Z : ZT} {X : XT} {μ : Mu} {a1 : Int32} {a2 : Int32} (E : Ent Z X mX12_apart 0 0) {p : Int32 → Mu → Prop} 
    (c : CtrS Z mX12_nextOrder [.ref (Z.2.2.1 + 455)] μ (rI p)) (k : ∀ v μ1, p v μ1 → JS Z X 101 [(0, .ref (Z.2.2.1 + 455)), (1, .int a1), (2, .int a2)] [.int v] μ1) :
    JS Z X 97 [(0, .ref (Z.2.2.1 + 455)), (1, .int a1), (2, .int a2)] [] μ := by
  refine J_aload_n E dX12_apart_97 rfl ?_
  refine S_callV (As := []) (rest := []) E dX12_apart_98 c kX12_nextOrder ⟨Nat.le_of_ble_eq_true rfl, Nat.le_of_ble_eq_true rfl⟩ rfl (Nat.le_of_ble_eq_true rfl) sh455 rfl rfl w7_100 w7_102 wp_76 (fun r_ μ1 hp_ => ?_)
  obtain ⟨v, rfl, hp_⟩ := hp_
  exact k v μ1 hp_
theorem bX12_apart_101 {Z : ZT} {X : XT} {μ : Mu} {a1 : Int32} {a2 : Int32} {s0 : Int32} (E : Ent Z X mX12_apart 0 0)  
    (k : JS Z X 62 [(0, .ref (Z.2.2.1 + 455)), (1, .int a1), (2, .int a2), (3, .int s0)] [] μ) :
    JS Z X 101 [(0, .ref (Z.2.2.1 + 455)), (1, .int a1), (2, .int a2)] [.int s0] μ := by
  refine J_istore_n (lv' := [(0, .ref (Z.2.2.1 + 455)), (1, .int a1), (2, .int a2), (3, .int s0)]) E dX12_apart_101 (Nat.le_of_ble_eq_true rfl) rfl ?_
  refine J_goto (tgt := 62) E dX12_apart_102 (by decide) ?_
  exact k
theorem bX12_apart_105 {Z : ZT} {X : XT} {μ : Mu} {a1 : Int32} {a2 : Int32} (E : Ent Z X mX12_apart 0 0)  
    (kt : ¬ a2 = (nI 100000) → JS Z X 121 [(0, .ref (Z.2.2.1 + 455)), (1, .int a1), (2, .int a2)] [] μ) (kf : a2 = (nI 100000) → JS Z X 111 [(0, .ref (Z.2.2.1 + 455))] [] μ) :
    JS Z X 105 [(0, .ref (Z.2.2.1 + 455)), (1, .int a1), (2, .int a2)] [] μ := by
  refine J_iload_n E dX12_apart_105 rfl ?_
  refine J_ldc (v := nI 100000) E dX12_apart_106 w6_192 ?_
  refine J_icmp_ne (tgt := 121) E dX12_apart_108 (by decide) (fun c => ?_) (fun c => ?_)
  · exact kt c
  · refine J.weak [0] rfl ?_
    exact kf c
theorem bX12_apart_111 {Z : ZT} {X : XT} {μ : Mu} (E : Ent Z X mX12_apart 0 0) {p : Int32 → Mu → Prop} 
    (c : CtrS Z mX12_refuse [.ref (Z.2.2.1 + 455), .int (-3)] μ (rI p)) (k : ∀ v μ1, p v μ1 → JS Z X 117 [] [.int v] μ1) :
    JS Z X 111 [(0, .ref (Z.2.2.1 + 455))] [] μ := by
  refine J_aload_n E dX12_apart_111 rfl ?_
  refine J_bipush (v := -3) E dX12_apart_112 rfl ?_
  refine S_callV (As := [.int (-3)]) (rest := []) E dX12_apart_114 c kX12_refuse ⟨Nat.le_of_ble_eq_true rfl, Nat.le_of_ble_eq_true rfl⟩ rfl (Nat.le_of_ble_eq_true rfl) sh455 rfl rfl w6_51 w6_53 wp_30 (fun r_ μ1 hp_ => ?_)
  obtain ⟨v, rfl, hp_⟩ := hp_
  refine J.weak [] rfl ?_
  exact k v μ1 hp_
theorem bX12_apart_117 {Z : ZT} {X : XT} {μ : Mu} {s0 : Int32} (E : Ent Z X mX12_apart 0 0) {P : Option Value → Mu → Prop} (hB : BodS Z X P) 
    (k : P (some (.int (-20))) μ) :
    JS Z X 117 [] [.int s0] μ := by
  refine J_pop E dX12_apart_117 rfl ?_
  refine J_bipush (v := -20) E dX12_apart_118 rfl ?_
  exact S_iret E hB dX12_apart_120 rfl k
theorem bX12_apart_121 {Z : ZT} {X : XT} {μ : Mu} {a1 : Int32} {a2 : Int32} (E : Ent Z X mX12_apart 0 0)  
    (kt : ¬ a1 = (-1) → JS Z X 130 [(0, .ref (Z.2.2.1 + 455)), (1, .int a1)] [] μ) (kf : a1 = (-1) → JS Z X 126 [(2, .int a2)] [] μ) :
    JS Z X 121 [(0, .ref (Z.2.2.1 + 455)), (1, .int a1), (2, .int a2)] [] μ := by
  refine J_iload_n E dX12_apart_121 rfl ?_
  refine J_iconst (v := -1) E dX12_apart_122 rfl ?_
  refine J_icmp_ne (tgt := 130) E dX12_apart_123 (by decide) (fun c => ?_) (fun c => ?_)
  · refine J.weak [0, 1] rfl ?_
    exact kt c
  · refine J.weak [2] rfl ?_
    exact kf c
theorem bX12_apart_126 {Z : ZT} {X : XT} {μ : Mu} {a2 : Int32} (E : Ent Z X mX12_apart 0 0)  
    (k : JS Z X 149 [] [.int a2] μ) :
    JS Z X 126 [(2, .int a2)] [] μ := by
  refine J_iload_n E dX12_apart_126 rfl ?_
  refine J_goto (tgt := 149) E dX12_apart_127 (by decide) ?_
  refine J.weak [] rfl ?_
  exact k
theorem bX12_apart_130 {Z : ZT} {X : XT} {μ : Mu} {a1 : Int32} (E : Ent Z X mX12_apart 0 0)  
    (kt : (μ 455 13) ≤ a1 → JS Z X 147 [] [] μ) (kf : ¬ ((μ 455 13) ≤ a1) → JS Z X 138 [(0, .ref (Z.2.2.1 + 455)), (1, .int a1)] [] μ) :
    JS Z X 130 [(0, .ref (Z.2.2.1 + 455)), (1, .int a1)] [] μ := by
  refine J_iload_n E dX12_apart_130 rfl ?_
  refine J_aload_n E dX12_apart_131 rfl ?_
  refine S_get (ci := 12) (q := 13) (v := .int (μ 455 13)) E dX12_apart_132 fs_X12_168 sh455 rfl ?_
  refine J_icmp_ge (tgt := 147) E dX12_apart_135 (by decide) (fun c => ?_) (fun c => ?_)
  · refine J.weak [] rfl ?_
    exact kt c
  · exact kf c
theorem bX12_apart_138 {Z : ZT} {X : XT} {μ : Mu} {a1 : Int32} (E : Ent Z X mX12_apart 0 0)  (s1_ : vp_in a1 6)
    (k : JS Z X 149 [] [.int (μ 466 (ix a1))] μ) :
    JS Z X 138 [(0, .ref (Z.2.2.1 + 455)), (1, .int a1)] [] μ := by
  refine J_aload_n E dX12_apart_138 rfl ?_
  refine S_get (ci := 12) (q := 20) (v := .ref (Z.2.2.1 + 466)) E dX12_apart_139 fs_X12_42 sh455 rfl ?_
  refine J_iload_n E dX12_apart_142 rfl ?_
  refine S_iald E dX12_apart_143 sh466 s1_ ?_
  refine J_goto (tgt := 149) E dX12_apart_144 (by decide) ?_
  refine J.weak [] rfl ?_
  exact k
theorem bX12_apart_147 {Z : ZT} {X : XT} {μ : Mu} (E : Ent Z X mX12_apart 0 0)  
    (k : JS Z X 149 [] [.int (-5)] μ) :
    JS Z X 147 [] [] μ := by
  refine J_bipush (v := -5) E dX12_apart_147 rfl ?_
  exact k
theorem bX12_apart_149 {Z : ZT} {X : XT} {μ : Mu} {s0 : Int32} (E : Ent Z X mX12_apart 0 0) {P : Option Value → Mu → Prop} (hB : BodS Z X P) 
    (k : P (some (.int s0)) μ) :
    JS Z X 149 [] [.int s0] μ := by
  exact S_iret E hB dX12_apart_149 rfl k
theorem dX12_isSpare_0 : decode cX12_isSpare 0 = .ok (.aload_n 0, 1) := by decide +kernel
theorem dX12_isSpare_1 : decode cX12_isSpare 1 = .ok (.getfield 7, 3) := by decide +kernel
theorem dX12_isSpare_4 : decode cX12_isSpare 4 = .ok (.sipush 171, 3) := by decide +kernel
theorem dX12_isSpare_7 : decode cX12_isSpare 7 = .ok (.aload_n 0, 1) := by decide +kernel
theorem dX12_isSpare_8 : decode cX12_isSpare 8 = .ok (.getfield 30, 3) := by decide +kernel
theorem dX12_isSpare_11 : decode cX12_isSpare 11 = .ok (.iload_n 1, 1) := by decide +kernel
theorem dX12_isSpare_12 : decode cX12_isSpare 12 = .ok (.iaload, 1) := by decide +kernel
theorem dX12_isSpare_13 : decode cX12_isSpare 13 = .ok (.iadd, 1) := by decide +kernel
theorem dX12_isSpare_14 : decode cX12_isSpare 14 = .ok (.iaload, 1) := by decide +kernel
theorem dX12_isSpare_15 : decode cX12_isSpare 15 = .ok (.iconst 1, 1) := by decide +kernel
theorem dX12_isSpare_16 : decode cX12_isSpare 16 = .ok (.if_icmp .ne 7, 3) := by decide +kernel
theorem dX12_isSpare_19 : decode cX12_isSpare 19 = .ok (.iconst 1, 1) := by decide +kernel
theorem dX12_isSpare_20 : decode cX12_isSpare 20 = .ok (.goto 4, 3) := by decide +kernel
theorem dX12_isSpare_23 : decode cX12_isSpare 23 = .ok (.iconst 0, 1) := by decide +kernel
theorem dX12_isSpare_24 : decode cX12_isSpare 24 = .ok (.ireturn, 1) := by decide +kernel
theorem bX12_isSpare_0 {Z : ZT} {X : XT} {μ : Mu} {a1 : Int32} (E : Ent Z X mX12_isSpare 0 0)  (s1_ : vp_in a1 6) (s2_ : vp_in ((nI 171) + (μ 462 (ix a1))) 988)
    (kt : ¬ (μ 456 (ix ((nI 171) + (μ 462 (ix a1))))) = (nI 1) → JS Z X 23 [] [] μ) (kf : (μ 456 (ix ((nI 171) + (μ 462 (ix a1))))) = (nI 1) → JS Z X 19 [] [] μ) :
    JS Z X 0 [(0, .ref (Z.2.2.1 + 455)), (1, .int a1)] [] μ := by
  refine J_aload_n E dX12_isSpare_0 rfl ?_
  refine S_get (ci := 12) (q := 0) (v := .ref (Z.2.2.1 + 456)) E dX12_isSpare_1 fs_X12_7 sh455 rfl ?_
  refine J_sipush (v := nI 171) E dX12_isSpare_4 rfl ?_
  refine J_aload_n E dX12_isSpare_7 rfl ?_
  refine S_get (ci := 12) (q := 14) (v := .ref (Z.2.2.1 + 462)) E dX12_isSpare_8 fs_X12_30 sh455 rfl ?_
  refine J_iload_n E dX12_isSpare_11 rfl ?_
  refine S_iald E dX12_isSpare_12 sh462 s1_ ?_
  refine J_iadd E dX12_isSpare_13 ?_
  refine S_iald E dX12_isSpare_14 sh456 s2_ ?_
  refine J_iconst (v := nI 1) E dX12_isSpare_15 rfl ?_
  refine J_icmp_ne (tgt := 23) E dX12_isSpare_16 (by decide) (fun c => ?_) (fun c => ?_)
  · refine J.weak [] rfl ?_
    exact kt c
  · refine J.weak [] rfl ?_
    exact kf c
theorem bX12_isSpare_19 {Z : ZT} {X : XT} {μ : Mu} (E : Ent Z X mX12_isSpare 0 0)  
    (k : JS Z X 24 [] [.int (nI 1)] μ) :
    JS Z X 19 [] [] μ := by
  refine J_iconst (v := nI 1) E dX12_isSpare_19 rfl ?_
  refine J_goto (tgt := 24) E dX12_isSpare_20 (by decide) ?_
  exact k
theorem bX12_isSpare_23 {Z : ZT} {X : XT} {μ : Mu} (E : Ent Z X mX12_isSpare 0 0)  
    (k : JS Z X 24 [] [.int (nI 0)] μ) :
    JS Z X 23 [] [] μ := by
  refine J_iconst (v := nI 0) E dX12_isSpare_23 rfl ?_
  exact k
theorem bX12_isSpare_24 {Z : ZT} {X : XT} {μ : Mu} {s0 : Int32} (E : Ent Z X mX12_isSpare 0 0) {P : Option Value → Mu → Prop} (hB : BodS Z X P) (s1_ : narrow .boolean (.int s0) = .int s0)
    (k : P (some (.int s0)) μ) :
    JS Z X 24 [] [.int s0] μ := by
  exact S_zret E hB dX12_isSpare_24 rfl s1_ k
theorem dX12_hangs_0 : decode cX12_hangs 0 = .ok (.iload_n 1, 1) := by decide +kernel
theorem dX12_hangs_1 : decode cX12_hangs 1 = .ok (.invokestatic 85, 3) := by decide +kernel
theorem dX12_hangs_4 : decode cX12_hangs 4 = .ok (.ifCond .eq 16, 3) := by decide +kernel
theorem dX12_hangs_7 : decode cX12_hangs 7 = .ok (.aload_n 0, 1) := by decide +kernel
theorem dX12_hangs_8 : decode cX12_hangs 8 = .ok (.getfield 7, 3) := by decide +kernel
theorem dX12_hangs_11 : decode cX12_hangs 11 = .ok (.sipush 187, 3) := by decide +kernel
theorem dX12_hangs_14 : decode cX12_hangs 14 = .ok (.iload_n 1, 1) := by decide +kernel
theorem dX12_hangs_15 : decode cX12_hangs 15 = .ok (.iadd, 1) := by decide +kernel
theorem dX12_hangs_16 : decode cX12_hangs 16 = .ok (.iaload, 1) := by decide +kernel
theorem dX12_hangs_17 : decode cX12_hangs 17 = .ok (.ifCond .ne 20, 3) := by decide +kernel
theorem dX12_hangs_20 : decode cX12_hangs 20 = .ok (.aload_n 0, 1) := by decide +kernel
theorem dX12_hangs_21 : decode cX12_hangs 21 = .ok (.iload_n 1, 1) := by decide +kernel
theorem dX12_hangs_22 : decode cX12_hangs 22 = .ok (.invokestatic 85, 3) := by decide +kernel
theorem dX12_hangs_25 : decode cX12_hangs 25 = .ok (.ifCond .ne 7, 3) := by decide +kernel
theorem dX12_hangs_28 : decode cX12_hangs 28 = .ok (.iconst 1, 1) := by decide +kernel
theorem dX12_hangs_29 : decode cX12_hangs 29 = .ok (.goto 4, 3) := by decide +kernel
theorem dX12_hangs_32 : decode cX12_hangs 32 = .ok (.iconst 0, 1) := by decide +kernel
theorem dX12_hangs_33 : decode cX12_hangs 33 = .ok (.invokevirtual 286, 3) := by decide +kernel
theorem dX12_hangs_36 : decode cX12_hangs 36 = .ok (.ireturn, 1) := by decide +kernel
theorem dX12_hangs_37 : decode cX12_hangs 37 = .ok (.aload_n 0, 1) := by decide +kernel
theorem dX12_hangs_38 : decode cX12_hangs 38 = .ok (.iload_n 1, 1) := by decide +kernel
theorem dX12_hangs_39 : decode cX12_hangs 39 = .ok (.invokevirtual 181, 3) := by decide +kernel
theorem dX12_hangs_42 : decode cX12_hangs 42 = .ok (.iconst 0, 1) := by decide +kernel
theorem dX12_hangs_43 : decode cX12_hangs 43 = .ok (.istore_n 2, 1) := by decide +kernel
theorem dX12_hangs_44 : decode cX12_hangs 44 = .ok (.iconst 1, 1) := by decide +kernel
theorem dX12_hangs_45 : decode cX12_hangs 45 = .ok (.istore_n 3, 1) := by decide +kernel
theorem dX12_hangs_46 : decode cX12_hangs 46 = .ok (.iload_n 3, 1) := by decide +kernel
theorem dX12_hangs_47 : decode cX12_hangs 47 = .ok (.aload_n 0, 1) := by decide +kernel
theorem dX12_hangs_48 : decode cX12_hangs 48 = .ok (.getfield 168, 3) := by decide +kernel
theorem dX12_hangs_51 : decode cX12_hangs 51 = .ok (.if_icmp .ge 29, 3) := by decide +kernel
theorem dX12_hangs_54 : decode cX12_hangs 54 = .ok (.iload_n 2, 1) := by decide +kernel
theorem dX12_hangs_55 : decode cX12_hangs 55 = .ok (.aload_n 0, 1) := by decide +kernel
theorem dX12_hangs_56 : decode cX12_hangs 56 = .ok (.iload_n 3, 1) := by decide +kernel
theorem dX12_hangs_57 : decode cX12_hangs 57 = .ok (.iconst 1, 1) := by decide +kernel
theorem dX12_hangs_58 : decode cX12_hangs 58 = .ok (.isub, 1) := by decide +kernel
theorem dX12_hangs_59 : decode cX12_hangs 59 = .ok (.invokevirtual 289, 3) := by decide +kernel
theorem dX12_hangs_62 : decode cX12_hangs 62 = .ok (.ifCond .eq 7, 3) := by decide +kernel
theorem dX12_hangs_65 : decode cX12_hangs 65 = .ok (.iconst 0, 1) := by decide +kernel
theorem dX12_hangs_66 : decode cX12_hangs 66 = .ok (.goto 6, 3) := by decide +kernel
theorem dX12_hangs_69 : decode cX12_hangs 69 = .ok (.iconst 1, 1) := by decide +kernel
theorem dX12_hangs_70 : decode cX12_hangs 70 = .ok (.iload_n 3, 1) := by decide +kernel
theorem dX12_hangs_71 : decode cX12_hangs 71 = .ok (.ishl, 1) := by decide +kernel
theorem dX12_hangs_72 : decode cX12_hangs 72 = .ok (.ior, 1) := by decide +kernel
theorem dX12_hangs_73 : decode cX12_hangs 73 = .ok (.istore_n 2, 1) := by decide +kernel
theorem dX12_hangs_74 : decode cX12_hangs 74 = .ok (.iinc 3 1, 3) := by decide +kernel
theorem dX12_hangs_77 : decode cX12_hangs 77 = .ok (.goto (-31), 3) := by decide +kernel
theorem dX12_hangs_80 : decode cX12_hangs 80 = .ok (.iload_n 2, 1) := by decide +kernel
theorem dX12_hangs_81 : decode cX12_hangs 81 = .ok (.ireturn, 1) := by decide +kernel
theorem bX12_hangs_0 {Z : ZT} {X : XT} {μ : Mu} {a1 : Int32} (E : Ent Z X mX12_hangs 0 0) {p : Int32 → Mu → Prop} 
    (c : CtrS Z mX12_isLot [.int a1] μ (rI p)) (k : ∀ v μ1, p v μ1 → JS Z X 4 [(0, .ref (Z.2.2.1 + 455)), (1, .int a1)] [.int v] μ1) :
    JS Z X 0 [(0, .ref (Z.2.2.1 + 455)), (1, .int a1)] [] μ := by
  refine J_iload_n E dX12_hangs_0 rfl ?_
  refine S_callS (As := [.int a1]) (rest := []) E dX12_hangs_1 c kX12_isLot ⟨Nat.le_of_ble_eq_true rfl, Nat.le_of_ble_eq_true rfl⟩ rfl (Nat.le_of_ble_eq_true rfl) w6_138 w6_139 (fun r_ μ1 hp_ => ?_)
  obtain ⟨v, rfl, hp_⟩ := hp_
  exact k v μ1 hp_
theorem bX12_hangs_4 {Z : ZT} {X : XT} {μ : Mu} {a1 : Int32} {s0 : Int32} (E : Ent Z X mX12_hangs 0 0)  
    (kt : s0 = 0 → JS Z X 20 [(0, .ref (Z.2.2.1 + 455)), (1, .int a1)] [] μ) (kf : ¬ (s0 = 0) → JS Z X 7 [(0, .ref (Z.2.2.1 + 455)), (1, .int a1)] [] μ) :
    JS Z X 4 [(0, .ref (Z.2.2.1 + 455)), (1, .int a1)] [.int s0] μ := by
  refine J_if_eq (tgt := 20) E dX12_hangs_4 (by decide) (fun c => ?_) (fun c => ?_)
  · exact kt c
  · exact kf c
theorem bX12_hangs_7 {Z : ZT} {X : XT} {μ : Mu} {a1 : Int32} (E : Ent Z X mX12_hangs 0 0)  (s1_ : vp_in ((nI 187) + a1) 988)
    (kt : ¬ (μ 456 (ix ((nI 187) + a1))) = 0 → JS Z X 37 [(0, .ref (Z.2.2.1 + 455)), (1, .int a1)] [] μ) (kf : (μ 456 (ix ((nI 187) + a1))) = 0 → JS Z X 20 [(0, .ref (Z.2.2.1 + 455)), (1, .int a1)] [] μ) :
    JS Z X 7 [(0, .ref (Z.2.2.1 + 455)), (1, .int a1)] [] μ := by
  refine J_aload_n E dX12_hangs_7 rfl ?_
  refine S_get (ci := 12) (q := 0) (v := .ref (Z.2.2.1 + 456)) E dX12_hangs_8 fs_X12_7 sh455 rfl ?_
  refine J_sipush (v := nI 187) E dX12_hangs_11 rfl ?_
  refine J_iload_n E dX12_hangs_14 rfl ?_
  refine J_iadd E dX12_hangs_15 ?_
  refine S_iald E dX12_hangs_16 sh456 s1_ ?_
  refine J_if_ne (tgt := 37) E dX12_hangs_17 (by decide) (fun c => ?_) (fun c => ?_)
  · exact kt c
  · exact kf c
theorem bX12_hangs_20 {Z : ZT} {X : XT} {μ : Mu} {a1 : Int32} (E : Ent Z X mX12_hangs 0 0) {p : Int32 → Mu → Prop} 
    (c : CtrS Z mX12_isLot [.int a1] μ (rI p)) (k : ∀ v μ1, p v μ1 → JS Z X 25 [] [.int v, .ref (Z.2.2.1 + 455)] μ1) :
    JS Z X 20 [(0, .ref (Z.2.2.1 + 455)), (1, .int a1)] [] μ := by
  refine J_aload_n E dX12_hangs_20 rfl ?_
  refine J_iload_n E dX12_hangs_21 rfl ?_
  refine S_callS (As := [.int a1]) (rest := [.ref (Z.2.2.1 + 455)]) E dX12_hangs_22 c kX12_isLot ⟨Nat.le_of_ble_eq_true rfl, Nat.le_of_ble_eq_true rfl⟩ rfl (Nat.le_of_ble_eq_true rfl) w6_138 w6_139 (fun r_ μ1 hp_ => ?_)
  obtain ⟨v, rfl, hp_⟩ := hp_
  refine J.weak [] rfl ?_
  exact k v μ1 hp_
theorem bX12_hangs_25 {Z : ZT} {X : XT} {μ : Mu} {s1 : Int32} (E : Ent Z X mX12_hangs 0 0)  
    (kt : ¬ s1 = 0 → JS Z X 32 [] [.ref (Z.2.2.1 + 455)] μ) (kf : s1 = 0 → JS Z X 28 [] [.ref (Z.2.2.1 + 455)] μ) :
    JS Z X 25 [] [.int s1, .ref (Z.2.2.1 + 455)] μ := by
  refine J_if_ne (tgt := 32) E dX12_hangs_25 (by decide) (fun c => ?_) (fun c => ?_)
  · exact kt c
  · exact kf c
theorem bX12_hangs_28 {Z : ZT} {X : XT} {μ : Mu} (E : Ent Z X mX12_hangs 0 0)  
    (k : JS Z X 33 [] [.int (nI 1), .ref (Z.2.2.1 + 455)] μ) :
    JS Z X 28 [] [.ref (Z.2.2.1 + 455)] μ := by
  refine J_iconst (v := nI 1) E dX12_hangs_28 rfl ?_
  refine J_goto (tgt := 33) E dX12_hangs_29 (by decide) ?_
  exact k
theorem bX12_hangs_32 {Z : ZT} {X : XT} {μ : Mu} (E : Ent Z X mX12_hangs 0 0)  
    (k : JS Z X 33 [] [.int (nI 0), .ref (Z.2.2.1 + 455)] μ) :
    JS Z X 32 [] [.ref (Z.2.2.1 + 455)] μ := by
  refine J_iconst (v := nI 0) E dX12_hangs_32 rfl ?_
  exact k
theorem bX12_hangs_33 {Z : ZT} {X : XT} {μ : Mu} {s1 : Int32} (E : Ent Z X mX12_hangs 0 0) {p : Int32 → Mu → Prop} 
    (c : CtrS Z mX12_no [.ref (Z.2.2.1 + 455), .int s1] μ (rI p)) (k : ∀ v μ1, p v μ1 → JS Z X 36 [] [.int v] μ1) :
    JS Z X 33 [] [.int s1, .ref (Z.2.2.1 + 455)] μ := by
  refine S_callV (As := [.int s1]) (rest := []) E dX12_hangs_33 c kX12_no ⟨Nat.le_of_ble_eq_true rfl, Nat.le_of_ble_eq_true rfl⟩ rfl (Nat.le_of_ble_eq_true rfl) sh455 rfl rfl w7_140 w7_142 wp_82 (fun r_ μ1 hp_ => ?_)
  obtain ⟨v, rfl, hp_⟩ := hp_
  exact k v μ1 hp_
theorem bX12_hangs_36 {Z : ZT} {X : XT} {μ : Mu} {s0 : Int32} (E : Ent Z X mX12_hangs 0 0) {P : Option Value → Mu → Prop} (hB : BodS Z X P) 
    (k : P (some (.int s0)) μ) :
    JS Z X 36 [] [.int s0] μ := by
  exact S_iret E hB dX12_hangs_36 rfl k
theorem bX12_hangs_37 {Z : ZT} {X : XT} {μ : Mu} {a1 : Int32} (E : Ent Z X mX12_hangs 0 0) {p : Mu → Prop} 
    (c : CtrS Z mX12_takeRow [.ref (Z.2.2.1 + 455), .int a1] μ (rV p)) (k : ∀ μ1, p μ1 → JS Z X 42 [(0, .ref (Z.2.2.1 + 455))] [] μ1) :
    JS Z X 37 [(0, .ref (Z.2.2.1 + 455)), (1, .int a1)] [] μ := by
  refine J_aload_n E dX12_hangs_37 rfl ?_
  refine J_iload_n E dX12_hangs_38 rfl ?_
  refine S_callV (As := [.int a1]) (rest := []) E dX12_hangs_39 c kX12_takeRow ⟨Nat.le_of_ble_eq_true rfl, Nat.le_of_ble_eq_true rfl⟩ rfl (Nat.le_of_ble_eq_true rfl) sh455 rfl rfl w6_201 w6_203 wp_48 (fun r_ μ1 hp_ => ?_)
  obtain ⟨rfl, hp_⟩ := hp_
  refine J.weak [0] rfl ?_
  exact k μ1 hp_
theorem bX12_hangs_42 {Z : ZT} {X : XT} {μ : Mu} (E : Ent Z X mX12_hangs 0 0)  
    (k : JS Z X 46 [(0, .ref (Z.2.2.1 + 455)), (2, .int (nI 0)), (3, .int (nI 1))] [] μ) :
    JS Z X 42 [(0, .ref (Z.2.2.1 + 455))] [] μ := by
  refine J_iconst (v := nI 0) E dX12_hangs_42 rfl ?_
  refine J_istore_n (lv' := [(0, .ref (Z.2.2.1 + 455)), (2, .int (nI 0))]) E dX12_hangs_43 (Nat.le_of_ble_eq_true rfl) rfl ?_
  refine J_iconst (v := nI 1) E dX12_hangs_44 rfl ?_
  refine J_istore_n (lv' := [(0, .ref (Z.2.2.1 + 455)), (2, .int (nI 0)), (3, .int (nI 1))]) E dX12_hangs_45 (Nat.le_of_ble_eq_true rfl) rfl ?_
  exact k
theorem bX12_hangs_46 {Z : ZT} {X : XT} {μ : Mu} {a2 : Int32} {a3 : Int32} (E : Ent Z X mX12_hangs 0 0)  
    (kt : (μ 455 13) ≤ a3 → JS Z X 80 [(2, .int a2)] [] μ) (kf : ¬ ((μ 455 13) ≤ a3) → JS Z X 54 [(0, .ref (Z.2.2.1 + 455)), (2, .int a2), (3, .int a3)] [] μ) :
    JS Z X 46 [(0, .ref (Z.2.2.1 + 455)), (2, .int a2), (3, .int a3)] [] μ := by
  refine J_iload_n E dX12_hangs_46 rfl ?_
  refine J_aload_n E dX12_hangs_47 rfl ?_
  refine S_get (ci := 12) (q := 13) (v := .int (μ 455 13)) E dX12_hangs_48 fs_X12_168 sh455 rfl ?_
  refine J_icmp_ge (tgt := 80) E dX12_hangs_51 (by decide) (fun c => ?_) (fun c => ?_)
  · refine J.weak [1] rfl ?_
    exact kt c
  · exact kf c
theorem bX12_hangs_54 {Z : ZT} {X : XT} {μ : Mu} {a2 : Int32} {a3 : Int32} (E : Ent Z X mX12_hangs 0 0) {p : Int32 → Mu → Prop} 
    (c : CtrS Z mX12_isSpare [.ref (Z.2.2.1 + 455), .int (a3 - (nI 1))] μ (rI p)) (k : ∀ v μ1, p v μ1 → JS Z X 62 [(0, .ref (Z.2.2.1 + 455)), (3, .int a3)] [.int v, .int a2] μ1) :
    JS Z X 54 [(0, .ref (Z.2.2.1 + 455)), (2, .int a2), (3, .int a3)] [] μ := by
  refine J_iload_n E dX12_hangs_54 rfl ?_
  refine J_aload_n E dX12_hangs_55 rfl ?_
  refine J_iload_n E dX12_hangs_56 rfl ?_
  refine J_iconst (v := nI 1) E dX12_hangs_57 rfl ?_
  refine J_isub E dX12_hangs_58 ?_
  refine S_callV (As := [.int (a3 - (nI 1))]) (rest := [.int a2]) E dX12_hangs_59 c kX12_isSpare ⟨Nat.le_of_ble_eq_true rfl, Nat.le_of_ble_eq_true rfl⟩ rfl (Nat.le_of_ble_eq_true rfl) sh455 rfl rfl w7_144 w7_146 wp_83 (fun r_ μ1 hp_ => ?_)
  obtain ⟨v, rfl, hp_⟩ := hp_
  refine J.weak [0, 2] rfl ?_
  exact k v μ1 hp_
theorem bX12_hangs_62 {Z : ZT} {X : XT} {μ : Mu} {a3 : Int32} {s0 : Int32} {s1 : Int32} (E : Ent Z X mX12_hangs 0 0)  
    (kt : s1 = 0 → JS Z X 69 [(0, .ref (Z.2.2.1 + 455)), (3, .int a3)] [.int s0] μ) (kf : ¬ (s1 = 0) → JS Z X 65 [(0, .ref (Z.2.2.1 + 455)), (3, .int a3)] [.int s0] μ) :
    JS Z X 62 [(0, .ref (Z.2.2.1 + 455)), (3, .int a3)] [.int s1, .int s0] μ := by
  refine J_if_eq (tgt := 69) E dX12_hangs_62 (by decide) (fun c => ?_) (fun c => ?_)
  · exact kt c
  · exact kf c
theorem bX12_hangs_65 {Z : ZT} {X : XT} {μ : Mu} {a3 : Int32} {s0 : Int32} (E : Ent Z X mX12_hangs 0 0)  
    (k : JS Z X 72 [(0, .ref (Z.2.2.1 + 455)), (3, .int a3)] [.int (nI 0), .int s0] μ) :
    JS Z X 65 [(0, .ref (Z.2.2.1 + 455)), (3, .int a3)] [.int s0] μ := by
  refine J_iconst (v := nI 0) E dX12_hangs_65 rfl ?_
  refine J_goto (tgt := 72) E dX12_hangs_66 (by decide) ?_
  exact k
theorem bX12_hangs_69 {Z : ZT} {X : XT} {μ : Mu} {a3 : Int32} {s0 : Int32} (E : Ent Z X mX12_hangs 0 0)  
    (k : JS Z X 72 [(0, .ref (Z.2.2.1 + 455)), (3, .int a3)] [.int ((nI 1) <<< (a3 &&& 31)), .int s0] μ) :
    JS Z X 69 [(0, .ref (Z.2.2.1 + 455)), (3, .int a3)] [.int s0] μ := by
  refine J_iconst (v := nI 1) E dX12_hangs_69 rfl ?_
  refine J_iload_n E dX12_hangs_70 rfl ?_
  refine J_ishl E dX12_hangs_71 ?_
  exact k
theorem bX12_hangs_72 {Z : ZT} {X : XT} {μ : Mu} {a3 : Int32} {s0 : Int32} {s1 : Int32} (E : Ent Z X mX12_hangs 0 0)  
    (k : JS Z X 46 [(0, .ref (Z.2.2.1 + 455)), (2, .int (s0 ||| s1)), (3, .int (a3 + nI 1))] [] μ) :
    JS Z X 72 [(0, .ref (Z.2.2.1 + 455)), (3, .int a3)] [.int s1, .int s0] μ := by
  refine J_ior E dX12_hangs_72 ?_
  refine J_istore_n (lv' := [(0, .ref (Z.2.2.1 + 455)), (2, .int (s0 ||| s1)), (3, .int a3)]) E dX12_hangs_73 (Nat.le_of_ble_eq_true rfl) rfl ?_
  refine J_iinc (v := a3 + nI 1) (lv' := [(0, .ref (Z.2.2.1 + 455)), (2, .int (s0 ||| s1)), (3, .int (a3 + nI 1))]) E dX12_hangs_74 rfl rfl (Nat.le_of_ble_eq_true rfl) rfl ?_
  refine J_goto (tgt := 46) E dX12_hangs_77 (by decide) ?_
  exact k
theorem bX12_hangs_80 {Z : ZT} {X : XT} {μ : Mu} {a2 : Int32} (E : Ent Z X mX12_hangs 0 0) {P : Option Value → Mu → Prop} (hB : BodS Z X P) 
    (k : P (some (.int a2)) μ) :
    JS Z X 80 [(2, .int a2)] [] μ := by
  refine J_iload_n E dX12_hangs_80 rfl ?_
  exact S_iret E hB dX12_hangs_81 rfl k
theorem dX12_bears_0 : decode cX12_bears 0 = .ok (.iload_n 1, 1) := by decide +kernel
theorem dX12_bears_1 : decode cX12_bears 1 = .ok (.invokestatic 85, 3) := by decide +kernel
theorem dX12_bears_4 : decode cX12_bears 4 = .ok (.ifCond .eq 16, 3) := by decide +kernel
theorem dX12_bears_7 : decode cX12_bears 7 = .ok (.aload_n 0, 1) := by decide +kernel
theorem dX12_bears_8 : decode cX12_bears 8 = .ok (.getfield 7, 3) := by decide +kernel
theorem dX12_bears_11 : decode cX12_bears 11 = .ok (.sipush 187, 3) := by decide +kernel
theorem dX12_bears_14 : decode cX12_bears 14 = .ok (.iload_n 1, 1) := by decide +kernel
theorem dX12_bears_15 : decode cX12_bears 15 = .ok (.iadd, 1) := by decide +kernel
theorem dX12_bears_16 : decode cX12_bears 16 = .ok (.iaload, 1) := by decide +kernel
theorem dX12_bears_17 : decode cX12_bears 17 = .ok (.ifCond .ne 20, 3) := by decide +kernel
theorem dX12_bears_20 : decode cX12_bears 20 = .ok (.aload_n 0, 1) := by decide +kernel
theorem dX12_bears_21 : decode cX12_bears 21 = .ok (.iload_n 1, 1) := by decide +kernel
theorem dX12_bears_22 : decode cX12_bears 22 = .ok (.invokestatic 85, 3) := by decide +kernel
theorem dX12_bears_25 : decode cX12_bears 25 = .ok (.ifCond .ne 7, 3) := by decide +kernel
theorem dX12_bears_28 : decode cX12_bears 28 = .ok (.iconst 1, 1) := by decide +kernel
theorem dX12_bears_29 : decode cX12_bears 29 = .ok (.goto 4, 3) := by decide +kernel
theorem dX12_bears_32 : decode cX12_bears 32 = .ok (.iconst 0, 1) := by decide +kernel
theorem dX12_bears_33 : decode cX12_bears 33 = .ok (.invokevirtual 286, 3) := by decide +kernel
theorem dX12_bears_36 : decode cX12_bears 36 = .ok (.ireturn, 1) := by decide +kernel
theorem dX12_bears_37 : decode cX12_bears 37 = .ok (.aload_n 0, 1) := by decide +kernel
theorem dX12_bears_38 : decode cX12_bears 38 = .ok (.iload_n 1, 1) := by decide +kernel
theorem dX12_bears_39 : decode cX12_bears 39 = .ok (.invokevirtual 181, 3) := by decide +kernel
theorem dX12_bears_42 : decode cX12_bears 42 = .ok (.aload_n 0, 1) := by decide +kernel
theorem dX12_bears_43 : decode cX12_bears 43 = .ok (.getfield 7, 3) := by decide +kernel
theorem dX12_bears_46 : decode cX12_bears 46 = .ok (.sipush 203, 3) := by decide +kernel
theorem dX12_bears_49 : decode cX12_bears 49 = .ok (.iaload, 1) := by decide +kernel
theorem dX12_bears_50 : decode cX12_bears 50 = .ok (.istore_n 2, 1) := by decide +kernel
theorem dX12_bears_51 : decode cX12_bears 51 = .ok (.aload_n 0, 1) := by decide +kernel
theorem dX12_bears_52 : decode cX12_bears 52 = .ok (.getfield 60, 3) := by decide +kernel
theorem dX12_bears_55 : decode cX12_bears 55 = .ok (.aload_n 0, 1) := by decide +kernel
theorem dX12_bears_56 : decode cX12_bears 56 = .ok (.getfield 168, 3) := by decide +kernel
theorem dX12_bears_59 : decode cX12_bears 59 = .ok (.iconst 1, 1) := by decide +kernel
theorem dX12_bears_60 : decode cX12_bears 60 = .ok (.isub, 1) := by decide +kernel
theorem dX12_bears_61 : decode cX12_bears 61 = .ok (.iconst 1, 1) := by decide +kernel
theorem dX12_bears_62 : decode cX12_bears 62 = .ok (.iastore, 1) := by decide +kernel
theorem dX12_bears_63 : decode cX12_bears 63 = .ok (.aload_n 0, 1) := by decide +kernel
theorem dX12_bears_64 : decode cX12_bears 64 = .ok (.getfield 168, 3) := by decide +kernel
theorem dX12_bears_67 : decode cX12_bears 67 = .ok (.iconst 2, 1) := by decide +kernel
theorem dX12_bears_68 : decode cX12_bears 68 = .ok (.isub, 1) := by decide +kernel
theorem dX12_bears_69 : decode cX12_bears 69 = .ok (.istore_n 3, 1) := by decide +kernel
theorem dX12_bears_70 : decode cX12_bears 70 = .ok (.iload_n 3, 1) := by decide +kernel
theorem dX12_bears_71 : decode cX12_bears 71 = .ok (.ifCond .lt 74, 3) := by decide +kernel
theorem dX12_bears_74 : decode cX12_bears 74 = .ok (.aload_n 0, 1) := by decide +kernel
theorem dX12_bears_75 : decode cX12_bears 75 = .ok (.iload_n 3, 1) := by decide +kernel
theorem dX12_bears_76 : decode cX12_bears 76 = .ok (.invokevirtual 289, 3) := by decide +kernel
theorem dX12_bears_79 : decode cX12_bears 79 = .ok (.ifCond .ne 7, 3) := by decide +kernel
theorem dX12_bears_82 : decode cX12_bears 82 = .ok (.iconst 0, 1) := by decide +kernel
theorem dX12_bears_83 : decode cX12_bears 83 = .ok (.goto 30, 3) := by decide +kernel
theorem dX12_bears_86 : decode cX12_bears 86 = .ok (.iload_n 3, 1) := by decide +kernel
theorem dX12_bears_87 : decode cX12_bears 87 = .ok (.aload_n 0, 1) := by decide +kernel
theorem dX12_bears_88 : decode cX12_bears 88 = .ok (.getfield 168, 3) := by decide +kernel
theorem dX12_bears_91 : decode cX12_bears 91 = .ok (.iconst 2, 1) := by decide +kernel
theorem dX12_bears_92 : decode cX12_bears 92 = .ok (.isub, 1) := by decide +kernel
theorem dX12_bears_93 : decode cX12_bears 93 = .ok (.if_icmp .ne 7, 3) := by decide +kernel
theorem dX12_bears_96 : decode cX12_bears 96 = .ok (.iconst 1, 1) := by decide +kernel
theorem dX12_bears_97 : decode cX12_bears 97 = .ok (.goto 16, 3) := by decide +kernel
theorem dX12_bears_100 : decode cX12_bears 100 = .ok (.bipush 10, 2) := by decide +kernel
theorem dX12_bears_102 : decode cX12_bears 102 = .ok (.iload_n 2, 1) := by decide +kernel
theorem dX12_bears_103 : decode cX12_bears 103 = .ok (.isub, 1) := by decide +kernel
theorem dX12_bears_104 : decode cX12_bears 104 = .ok (.aload_n 0, 1) := by decide +kernel
theorem dX12_bears_105 : decode cX12_bears 105 = .ok (.getfield 60, 3) := by decide +kernel
theorem dX12_bears_108 : decode cX12_bears 108 = .ok (.iload_n 3, 1) := by decide +kernel
theorem dX12_bears_109 : decode cX12_bears 109 = .ok (.iconst 2, 1) := by decide +kernel
theorem dX12_bears_110 : decode cX12_bears 110 = .ok (.iadd, 1) := by decide +kernel
theorem dX12_bears_111 : decode cX12_bears 111 = .ok (.iaload, 1) := by decide +kernel
theorem dX12_bears_112 : decode cX12_bears 112 = .ok (.imul, 1) := by decide +kernel
theorem dX12_bears_113 : decode cX12_bears 113 = .ok (.istore 4, 2) := by decide +kernel
theorem dX12_bears_115 : decode cX12_bears 115 = .ok (.aload_n 0, 1) := by decide +kernel
theorem dX12_bears_116 : decode cX12_bears 116 = .ok (.getfield 60, 3) := by decide +kernel
theorem dX12_bears_119 : decode cX12_bears 119 = .ok (.iload_n 3, 1) := by decide +kernel
theorem dX12_bears_120 : decode cX12_bears 120 = .ok (.bipush 10, 2) := by decide +kernel
theorem dX12_bears_122 : decode cX12_bears 122 = .ok (.iload_n 2, 1) := by decide +kernel
theorem dX12_bears_123 : decode cX12_bears 123 = .ok (.isub, 1) := by decide +kernel
theorem dX12_bears_124 : decode cX12_bears 124 = .ok (.aload_n 0, 1) := by decide +kernel
theorem dX12_bears_125 : decode cX12_bears 125 = .ok (.getfield 60, 3) := by decide +kernel
theorem dX12_bears_128 : decode cX12_bears 128 = .ok (.iload_n 3, 1) := by decide +kernel
theorem dX12_bears_129 : decode cX12_bears 129 = .ok (.iconst 1, 1) := by decide +kernel
theorem dX12_bears_130 : decode cX12_bears 130 = .ok (.iadd, 1) := by decide +kernel
theorem dX12_bears_131 : decode cX12_bears 131 = .ok (.iaload, 1) := by decide +kernel
theorem dX12_bears_132 : decode cX12_bears 132 = .ok (.imul, 1) := by decide +kernel
theorem dX12_bears_133 : decode cX12_bears 133 = .ok (.iload_n 2, 1) := by decide +kernel
theorem dX12_bears_134 : decode cX12_bears 134 = .ok (.iload 4, 2) := by decide +kernel
theorem dX12_bears_136 : decode cX12_bears 136 = .ok (.imul, 1) := by decide +kernel
theorem dX12_bears_137 : decode cX12_bears 137 = .ok (.iadd, 1) := by decide +kernel
theorem dX12_bears_138 : decode cX12_bears 138 = .ok (.iastore, 1) := by decide +kernel
theorem dX12_bears_139 : decode cX12_bears 139 = .ok (.iinc 3 (-1), 3) := by decide +kernel
theorem dX12_bears_142 : decode cX12_bears 142 = .ok (.goto (-72), 3) := by decide +kernel
theorem dX12_bears_145 : decode cX12_bears 145 = .ok (.aload_n 0, 1) := by decide +kernel
theorem dX12_bears_146 : decode cX12_bears 146 = .ok (.iconst 2, 1) := by decide +kernel
theorem dX12_bears_147 : decode cX12_bears 147 = .ok (.aload_n 0, 1) := by decide +kernel
theorem dX12_bears_148 : decode cX12_bears 148 = .ok (.getfield 60, 3) := by decide +kernel
theorem dX12_bears_151 : decode cX12_bears 151 = .ok (.iconst 0, 1) := by decide +kernel
theorem dX12_bears_152 : decode cX12_bears 152 = .ok (.iaload, 1) := by decide +kernel
theorem dX12_bears_153 : decode cX12_bears 153 = .ok (.invokevirtual 204, 3) := by decide +kernel
theorem dX12_bears_156 : decode cX12_bears 156 = .ok (.aload_n 0, 1) := by decide +kernel
theorem dX12_bears_157 : decode cX12_bears 157 = .ok (.iconst 2, 1) := by decide +kernel
theorem dX12_bears_158 : decode cX12_bears 158 = .ok (.aload_n 0, 1) := by decide +kernel
theorem dX12_bears_159 : decode cX12_bears 159 = .ok (.getfield 168, 3) := by decide +kernel
theorem dX12_bears_162 : decode cX12_bears 162 = .ok (.iconst 1, 1) := by decide +kernel
theorem dX12_bears_163 : decode cX12_bears 163 = .ok (.isub, 1) := by decide +kernel
theorem dX12_bears_164 : decode cX12_bears 164 = .ok (.invokevirtual 238, 3) := by decide +kernel
theorem dX12_bears_167 : decode cX12_bears 167 = .ok (.iconst 1, 1) := by decide +kernel
theorem dX12_bears_168 : decode cX12_bears 168 = .ok (.ireturn, 1) := by decide +kernel
theorem bX12_bears_0 {Z : ZT} {X : XT} {μ : Mu} {a1 : Int32} (E : Ent Z X mX12_bears 0 0) {p : Int32 → Mu → Prop} 
    (c : CtrS Z mX12_isLot [.int a1] μ (rI p)) (k : ∀ v μ1, p v μ1 → JS Z X 4 [(0, .ref (Z.2.2.1 + 455)), (1, .int a1)] [.int v] μ1) :
    JS Z X 0 [(0, .ref (Z.2.2.1 + 455)), (1, .int a1)] [] μ := by
  refine J_iload_n E dX12_bears_0 rfl ?_
  refine S_callS (As := [.int a1]) (rest := []) E dX12_bears_1 c kX12_isLot ⟨Nat.le_of_ble_eq_true rfl, Nat.le_of_ble_eq_true rfl⟩ rfl (Nat.le_of_ble_eq_true rfl) w6_138 w6_139 (fun r_ μ1 hp_ => ?_)
  obtain ⟨v, rfl, hp_⟩ := hp_
  exact k v μ1 hp_
theorem bX12_bears_4 {Z : ZT} {X : XT} {μ : Mu} {a1 : Int32} {s0 : Int32} (E : Ent Z X mX12_bears 0 0)  
    (kt : s0 = 0 → JS Z X 20 [(0, .ref (Z.2.2.1 + 455)), (1, .int a1)] [] μ) (kf : ¬ (s0 = 0) → JS Z X 7 [(0, .ref (Z.2.2.1 + 455)), (1, .int a1)] [] μ) :
    JS Z X 4 [(0, .ref (Z.2.2.1 + 455)), (1, .int a1)] [.int s0] μ := by
  refine J_if_eq (tgt := 20) E dX12_bears_4 (by decide) (fun c => ?_) (fun c => ?_)
  · exact kt c
  · exact kf c
theorem bX12_bears_7 {Z : ZT} {X : XT} {μ : Mu} {a1 : Int32} (E : Ent Z X mX12_bears 0 0)  (s1_ : vp_in ((nI 187) + a1) 988)
    (kt : ¬ (μ 456 (ix ((nI 187) + a1))) = 0 → JS Z X 37 [(0, .ref (Z.2.2.1 + 455)), (1, .int a1)] [] μ) (kf : (μ 456 (ix ((nI 187) + a1))) = 0 → JS Z X 20 [(0, .ref (Z.2.2.1 + 455)), (1, .int a1)] [] μ) :
    JS Z X 7 [(0, .ref (Z.2.2.1 + 455)), (1, .int a1)] [] μ := by
  refine J_aload_n E dX12_bears_7 rfl ?_
  refine S_get (ci := 12) (q := 0) (v := .ref (Z.2.2.1 + 456)) E dX12_bears_8 fs_X12_7 sh455 rfl ?_
  refine J_sipush (v := nI 187) E dX12_bears_11 rfl ?_
  refine J_iload_n E dX12_bears_14 rfl ?_
  refine J_iadd E dX12_bears_15 ?_
  refine S_iald E dX12_bears_16 sh456 s1_ ?_
  refine J_if_ne (tgt := 37) E dX12_bears_17 (by decide) (fun c => ?_) (fun c => ?_)
  · exact kt c
  · exact kf c
theorem bX12_bears_20 {Z : ZT} {X : XT} {μ : Mu} {a1 : Int32} (E : Ent Z X mX12_bears 0 0) {p : Int32 → Mu → Prop} 
    (c : CtrS Z mX12_isLot [.int a1] μ (rI p)) (k : ∀ v μ1, p v μ1 → JS Z X 25 [] [.int v, .ref (Z.2.2.1 + 455)] μ1) :
    JS Z X 20 [(0, .ref (Z.2.2.1 + 455)), (1, .int a1)] [] μ := by
  refine J_aload_n E dX12_bears_20 rfl ?_
  refine J_iload_n E dX12_bears_21 rfl ?_
  refine S_callS (As := [.int a1]) (rest := [.ref (Z.2.2.1 + 455)]) E dX12_bears_22 c kX12_isLot ⟨Nat.le_of_ble_eq_true rfl, Nat.le_of_ble_eq_true rfl⟩ rfl (Nat.le_of_ble_eq_true rfl) w6_138 w6_139 (fun r_ μ1 hp_ => ?_)
  obtain ⟨v, rfl, hp_⟩ := hp_
  refine J.weak [] rfl ?_
  exact k v μ1 hp_
theorem bX12_bears_25 {Z : ZT} {X : XT} {μ : Mu} {s1 : Int32} (E : Ent Z X mX12_bears 0 0)  
    (kt : ¬ s1 = 0 → JS Z X 32 [] [.ref (Z.2.2.1 + 455)] μ) (kf : s1 = 0 → JS Z X 28 [] [.ref (Z.2.2.1 + 455)] μ) :
    JS Z X 25 [] [.int s1, .ref (Z.2.2.1 + 455)] μ := by
  refine J_if_ne (tgt := 32) E dX12_bears_25 (by decide) (fun c => ?_) (fun c => ?_)
  · exact kt c
  · exact kf c
theorem bX12_bears_28 {Z : ZT} {X : XT} {μ : Mu} (E : Ent Z X mX12_bears 0 0)  
    (k : JS Z X 33 [] [.int (nI 1), .ref (Z.2.2.1 + 455)] μ) :
    JS Z X 28 [] [.ref (Z.2.2.1 + 455)] μ := by
  refine J_iconst (v := nI 1) E dX12_bears_28 rfl ?_
  refine J_goto (tgt := 33) E dX12_bears_29 (by decide) ?_
  exact k
theorem bX12_bears_32 {Z : ZT} {X : XT} {μ : Mu} (E : Ent Z X mX12_bears 0 0)  
    (k : JS Z X 33 [] [.int (nI 0), .ref (Z.2.2.1 + 455)] μ) :
    JS Z X 32 [] [.ref (Z.2.2.1 + 455)] μ := by
  refine J_iconst (v := nI 0) E dX12_bears_32 rfl ?_
  exact k
theorem bX12_bears_33 {Z : ZT} {X : XT} {μ : Mu} {s1 : Int32} (E : Ent Z X mX12_bears 0 0) {p : Int32 → Mu → Prop} 
    (c : CtrS Z mX12_no [.ref (Z.2.2.1 + 455), .int s1] μ (rI p)) (k : ∀ v μ1, p v μ1 → JS Z X 36 [] [.int v] μ1) :
    JS Z X 33 [] [.int s1, .ref (Z.2.2.1 + 455)] μ := by
  refine S_callV (As := [.int s1]) (rest := []) E dX12_bears_33 c kX12_no ⟨Nat.le_of_ble_eq_true rfl, Nat.le_of_ble_eq_true rfl⟩ rfl (Nat.le_of_ble_eq_true rfl) sh455 rfl rfl w7_140 w7_142 wp_82 (fun r_ μ1 hp_ => ?_)
  obtain ⟨v, rfl, hp_⟩ := hp_
  exact k v μ1 hp_
theorem bX12_bears_36 {Z : ZT} {X : XT} {μ : Mu} {s0 : Int32} (E : Ent Z X mX12_bears 0 0) {P : Option Value → Mu → Prop} (hB : BodS Z X P) 
    (k : P (some (.int s0)) μ) :
    JS Z X 36 [] [.int s0] μ := by
  exact S_iret E hB dX12_bears_36 rfl k
theorem bX12_bears_37 {Z : ZT} {X : XT} {μ : Mu} {a1 : Int32} (E : Ent Z X mX12_bears 0 0) {p : Mu → Prop} 
    (c : CtrS Z mX12_takeRow [.ref (Z.2.2.1 + 455), .int a1] μ (rV p)) (k : ∀ μ1, p μ1 → JS Z X 42 [(0, .ref (Z.2.2.1 + 455))] [] μ1) :
    JS Z X 37 [(0, .ref (Z.2.2.1 + 455)), (1, .int a1)] [] μ := by
  refine J_aload_n E dX12_bears_37 rfl ?_
  refine J_iload_n E dX12_bears_38 rfl ?_
  refine S_callV (As := [.int a1]) (rest := []) E dX12_bears_39 c kX12_takeRow ⟨Nat.le_of_ble_eq_true rfl, Nat.le_of_ble_eq_true rfl⟩ rfl (Nat.le_of_ble_eq_true rfl) sh455 rfl rfl w6_201 w6_203 wp_48 (fun r_ μ1 hp_ => ?_)
  obtain ⟨rfl, hp_⟩ := hp_
  refine J.weak [0] rfl ?_
  exact k μ1 hp_
theorem bX12_bears_42 {Z : ZT} {X : XT} {μ : Mu} (E : Ent Z X mX12_bears 0 0)  (s1_ : vp_in (nI 203) 988) (s2_ : vp_in ((μ 455 13) - (nI 1)) 8)
    (k : JS Z X 63 [(0, .ref (Z.2.2.1 + 455)), (2, .int (μ 456 (ix (nI 203))))] [] (uR μ 472 (upd (μ 472) (ix ((μ 455 13) - (nI 1))) (nI 1)))) :
    JS Z X 42 [(0, .ref (Z.2.2.1 + 455))] [] μ := by
  refine J_aload_n E dX12_bears_42 rfl ?_
  refine S_get (ci := 12) (q := 0) (v := .ref (Z.2.2.1 + 456)) E dX12_bears_43 fs_X12_7 sh455 rfl ?_
  refine J_sipush (v := nI 203) E dX12_bears_46 rfl ?_
  refine S_iald E dX12_bears_49 sh456 s1_ ?_
  refine J_istore_n (lv' := [(0, .ref (Z.2.2.1 + 455)), (2, .int (μ 456 (ix (nI 203))))]) E dX12_bears_50 (Nat.le_of_ble_eq_true rfl) rfl ?_
  refine J_aload_n E dX12_bears_51 rfl ?_
  refine S_get (ci := 12) (q := 26) (v := .ref (Z.2.2.1 + 472)) E dX12_bears_52 fs_X12_60 sh455 rfl ?_
  refine J_aload_n E dX12_bears_55 rfl ?_
  refine S_get (ci := 12) (q := 13) (v := .int (μ 455 13)) E dX12_bears_56 fs_X12_168 sh455 rfl ?_
  refine J_iconst (v := nI 1) E dX12_bears_59 rfl ?_
  refine J_isub E dX12_bears_60 ?_
  refine J_iconst (v := nI 1) E dX12_bears_61 rfl ?_
  refine S_iast E dX12_bears_62 sh472 s2_ ?_
  exact k
theorem bX12_bears_63 {Z : ZT} {X : XT} {μ : Mu} {a2 : Int32} (E : Ent Z X mX12_bears 0 0)  
    (k : JS Z X 70 [(0, .ref (Z.2.2.1 + 455)), (2, .int a2), (3, .int ((μ 455 13) - (nI 2)))] [] μ) :
    JS Z X 63 [(0, .ref (Z.2.2.1 + 455)), (2, .int a2)] [] μ := by
  refine J_aload_n E dX12_bears_63 rfl ?_
  refine S_get (ci := 12) (q := 13) (v := .int (μ 455 13)) E dX12_bears_64 fs_X12_168 sh455 rfl ?_
  refine J_iconst (v := nI 2) E dX12_bears_67 rfl ?_
  refine J_isub E dX12_bears_68 ?_
  refine J_istore_n (lv' := [(0, .ref (Z.2.2.1 + 455)), (2, .int a2), (3, .int ((μ 455 13) - (nI 2)))]) E dX12_bears_69 (Nat.le_of_ble_eq_true rfl) rfl ?_
  exact k
theorem bX12_bears_70 {Z : ZT} {X : XT} {μ : Mu} {a2 : Int32} {a3 : Int32} (E : Ent Z X mX12_bears 0 0)  
    (kt : a3 < 0 → JS Z X 145 [(0, .ref (Z.2.2.1 + 455))] [] μ) (kf : ¬ (a3 < 0) → JS Z X 74 [(0, .ref (Z.2.2.1 + 455)), (2, .int a2), (3, .int a3)] [] μ) :
    JS Z X 70 [(0, .ref (Z.2.2.1 + 455)), (2, .int a2), (3, .int a3)] [] μ := by
  refine J_iload_n E dX12_bears_70 rfl ?_
  refine J_if_lt (tgt := 145) E dX12_bears_71 (by decide) (fun c => ?_) (fun c => ?_)
  · refine J.weak [0] rfl ?_
    exact kt c
  · exact kf c
theorem bX12_bears_74 {Z : ZT} {X : XT} {μ : Mu} {a2 : Int32} {a3 : Int32} (E : Ent Z X mX12_bears 0 0) {p : Int32 → Mu → Prop} 
    (c : CtrS Z mX12_isSpare [.ref (Z.2.2.1 + 455), .int a3] μ (rI p)) (k : ∀ v μ1, p v μ1 → JS Z X 79 [(0, .ref (Z.2.2.1 + 455)), (2, .int a2), (3, .int a3)] [.int v] μ1) :
    JS Z X 74 [(0, .ref (Z.2.2.1 + 455)), (2, .int a2), (3, .int a3)] [] μ := by
  refine J_aload_n E dX12_bears_74 rfl ?_
  refine J_iload_n E dX12_bears_75 rfl ?_
  refine S_callV (As := [.int a3]) (rest := []) E dX12_bears_76 c kX12_isSpare ⟨Nat.le_of_ble_eq_true rfl, Nat.le_of_ble_eq_true rfl⟩ rfl (Nat.le_of_ble_eq_true rfl) sh455 rfl rfl w7_144 w7_146 wp_83 (fun r_ μ1 hp_ => ?_)
  obtain ⟨v, rfl, hp_⟩ := hp_
  exact k v μ1 hp_
theorem bX12_bears_79 {Z : ZT} {X : XT} {μ : Mu} {a2 : Int32} {a3 : Int32} {s0 : Int32} (E : Ent Z X mX12_bears 0 0)  
    (kt : ¬ s0 = 0 → JS Z X 86 [(0, .ref (Z.2.2.1 + 455)), (2, .int a2), (3, .int a3)] [] μ) (kf : s0 = 0 → JS Z X 82 [(0, .ref (Z.2.2.1 + 455)), (2, .int a2), (3, .int a3)] [] μ) :
    JS Z X 79 [(0, .ref (Z.2.2.1 + 455)), (2, .int a2), (3, .int a3)] [.int s0] μ := by
  refine J_if_ne (tgt := 86) E dX12_bears_79 (by decide) (fun c => ?_) (fun c => ?_)
  · exact kt c
  · exact kf c
theorem bX12_bears_82 {Z : ZT} {X : XT} {μ : Mu} {a2 : Int32} {a3 : Int32} (E : Ent Z X mX12_bears 0 0)  
    (k : JS Z X 113 [(0, .ref (Z.2.2.1 + 455)), (2, .int a2), (3, .int a3)] [.int (nI 0)] μ) :
    JS Z X 82 [(0, .ref (Z.2.2.1 + 455)), (2, .int a2), (3, .int a3)] [] μ := by
  refine J_iconst (v := nI 0) E dX12_bears_82 rfl ?_
  refine J_goto (tgt := 113) E dX12_bears_83 (by decide) ?_
  exact k
theorem bX12_bears_86 {Z : ZT} {X : XT} {μ : Mu} {a2 : Int32} {a3 : Int32} (E : Ent Z X mX12_bears 0 0)  
    (kt : ¬ a3 = ((μ 455 13) - (nI 2)) → JS Z X 100 [(0, .ref (Z.2.2.1 + 455)), (2, .int a2), (3, .int a3)] [] μ) (kf : a3 = ((μ 455 13) - (nI 2)) → JS Z X 96 [(0, .ref (Z.2.2.1 + 455)), (2, .int a2), (3, .int a3)] [] μ) :
    JS Z X 86 [(0, .ref (Z.2.2.1 + 455)), (2, .int a2), (3, .int a3)] [] μ := by
  refine J_iload_n E dX12_bears_86 rfl ?_
  refine J_aload_n E dX12_bears_87 rfl ?_
  refine S_get (ci := 12) (q := 13) (v := .int (μ 455 13)) E dX12_bears_88 fs_X12_168 sh455 rfl ?_
  refine J_iconst (v := nI 2) E dX12_bears_91 rfl ?_
  refine J_isub E dX12_bears_92 ?_
  refine J_icmp_ne (tgt := 100) E dX12_bears_93 (by decide) (fun c => ?_) (fun c => ?_)
  · exact kt c
  · exact kf c
theorem bX12_bears_96 {Z : ZT} {X : XT} {μ : Mu} {a2 : Int32} {a3 : Int32} (E : Ent Z X mX12_bears 0 0)  
    (k : JS Z X 113 [(0, .ref (Z.2.2.1 + 455)), (2, .int a2), (3, .int a3)] [.int (nI 1)] μ) :
    JS Z X 96 [(0, .ref (Z.2.2.1 + 455)), (2, .int a2), (3, .int a3)] [] μ := by
  refine J_iconst (v := nI 1) E dX12_bears_96 rfl ?_
  refine J_goto (tgt := 113) E dX12_bears_97 (by decide) ?_
  exact k
theorem bX12_bears_100 {Z : ZT} {X : XT} {μ : Mu} {a2 : Int32} {a3 : Int32} (E : Ent Z X mX12_bears 0 0)  (s1_ : vp_in (a3 + (nI 2)) 8)
    (k : JS Z X 113 [(0, .ref (Z.2.2.1 + 455)), (2, .int a2), (3, .int a3)] [.int (((nI 10) - a2) * (μ 472 (ix (a3 + (nI 2)))))] μ) :
    JS Z X 100 [(0, .ref (Z.2.2.1 + 455)), (2, .int a2), (3, .int a3)] [] μ := by
  refine J_bipush (v := nI 10) E dX12_bears_100 rfl ?_
  refine J_iload_n E dX12_bears_102 rfl ?_
  refine J_isub E dX12_bears_103 ?_
  refine J_aload_n E dX12_bears_104 rfl ?_
  refine S_get (ci := 12) (q := 26) (v := .ref (Z.2.2.1 + 472)) E dX12_bears_105 fs_X12_60 sh455 rfl ?_
  refine J_iload_n E dX12_bears_108 rfl ?_
  refine J_iconst (v := nI 2) E dX12_bears_109 rfl ?_
  refine J_iadd E dX12_bears_110 ?_
  refine S_iald E dX12_bears_111 sh472 s1_ ?_
  refine J_imul E dX12_bears_112 ?_
  exact k
theorem bX12_bears_113 {Z : ZT} {X : XT} {μ : Mu} {a2 : Int32} {a3 : Int32} {s0 : Int32} (E : Ent Z X mX12_bears 0 0)  (s1_ : vp_in (a3 + (nI 1)) 8) (s2_ : vp_in a3 8)
    (k : JS Z X 139 [(0, .ref (Z.2.2.1 + 455)), (2, .int a2), (3, .int a3)] [] (uR μ 472 (upd (μ 472) (ix a3) ((((nI 10) - a2) * (μ 472 (ix (a3 + (nI 1))))) + (a2 * s0))))) :
    JS Z X 113 [(0, .ref (Z.2.2.1 + 455)), (2, .int a2), (3, .int a3)] [.int s0] μ := by
  refine J_istore (lv' := [(0, .ref (Z.2.2.1 + 455)), (2, .int a2), (3, .int a3), (4, .int s0)]) E dX12_bears_113 (Nat.le_of_ble_eq_true rfl) rfl ?_
  refine J_aload_n E dX12_bears_115 rfl ?_
  refine S_get (ci := 12) (q := 26) (v := .ref (Z.2.2.1 + 472)) E dX12_bears_116 fs_X12_60 sh455 rfl ?_
  refine J_iload_n E dX12_bears_119 rfl ?_
  refine J_bipush (v := nI 10) E dX12_bears_120 rfl ?_
  refine J_iload_n E dX12_bears_122 rfl ?_
  refine J_isub E dX12_bears_123 ?_
  refine J_aload_n E dX12_bears_124 rfl ?_
  refine S_get (ci := 12) (q := 26) (v := .ref (Z.2.2.1 + 472)) E dX12_bears_125 fs_X12_60 sh455 rfl ?_
  refine J_iload_n E dX12_bears_128 rfl ?_
  refine J_iconst (v := nI 1) E dX12_bears_129 rfl ?_
  refine J_iadd E dX12_bears_130 ?_
  refine S_iald E dX12_bears_131 sh472 s1_ ?_
  refine J_imul E dX12_bears_132 ?_
  refine J_iload_n E dX12_bears_133 rfl ?_
  refine J_iload E dX12_bears_134 rfl ?_
  refine J_imul E dX12_bears_136 ?_
  refine J_iadd E dX12_bears_137 ?_
  refine S_iast E dX12_bears_138 sh472 s2_ ?_
  refine J.weak [0, 1, 2] rfl ?_
  exact k
theorem bX12_bears_139 {Z : ZT} {X : XT} {μ : Mu} {a2 : Int32} {a3 : Int32} (E : Ent Z X mX12_bears 0 0)  
    (k : JS Z X 70 [(0, .ref (Z.2.2.1 + 455)), (2, .int a2), (3, .int (a3 + (-1)))] [] μ) :
    JS Z X 139 [(0, .ref (Z.2.2.1 + 455)), (2, .int a2), (3, .int a3)] [] μ := by
  refine J_iinc (v := a3 + (-1)) (lv' := [(0, .ref (Z.2.2.1 + 455)), (2, .int a2), (3, .int (a3 + (-1)))]) E dX12_bears_139 rfl rfl (Nat.le_of_ble_eq_true rfl) rfl ?_
  refine J_goto (tgt := 70) E dX12_bears_142 (by decide) ?_
  exact k
theorem bX12_bears_145 {Z : ZT} {X : XT} {μ : Mu} (E : Ent Z X mX12_bears 0 0) {p : Mu → Prop} (s1_ : vp_in (nI 0) 8)
    (c : CtrS Z mX12_set [.ref (Z.2.2.1 + 455), .int (nI 2), .int (μ 472 (ix (nI 0)))] μ (rV p)) (k : ∀ μ1, p μ1 → JS Z X 156 [(0, .ref (Z.2.2.1 + 455))] [] μ1) :
    JS Z X 145 [(0, .ref (Z.2.2.1 + 455))] [] μ := by
  refine J_aload_n E dX12_bears_145 rfl ?_
  refine J_iconst (v := nI 2) E dX12_bears_146 rfl ?_
  refine J_aload_n E dX12_bears_147 rfl ?_
  refine S_get (ci := 12) (q := 26) (v := .ref (Z.2.2.1 + 472)) E dX12_bears_148 fs_X12_60 sh455 rfl ?_
  refine J_iconst (v := nI 0) E dX12_bears_151 rfl ?_
  refine S_iald E dX12_bears_152 sh472 s1_ ?_
  refine S_callV (As := [.int (nI 2), .int (μ 472 (ix (nI 0)))]) (rest := []) E dX12_bears_153 c kX12_set ⟨Nat.le_of_ble_eq_true rfl, Nat.le_of_ble_eq_true rfl⟩ rfl (Nat.le_of_ble_eq_true rfl) sh455 rfl rfl w6_230 w6_232 wp_55 (fun r_ μ1 hp_ => ?_)
  obtain ⟨rfl, hp_⟩ := hp_
  exact k μ1 hp_
theorem bX12_bears_156 {Z : ZT} {X : XT} {μ : Mu} (E : Ent Z X mX12_bears 0 0) {p : Mu → Prop} 
    (c : CtrS Z mX12_tell [.ref (Z.2.2.1 + 455), .int (nI 2), .int ((μ 455 13) - (nI 1))] μ (rV p)) (k : ∀ μ1, p μ1 → JS Z X 167 [] [] μ1) :
    JS Z X 156 [(0, .ref (Z.2.2.1 + 455))] [] μ := by
  refine J_aload_n E dX12_bears_156 rfl ?_
  refine J_iconst (v := nI 2) E dX12_bears_157 rfl ?_
  refine J_aload_n E dX12_bears_158 rfl ?_
  refine S_get (ci := 12) (q := 13) (v := .int (μ 455 13)) E dX12_bears_159 fs_X12_168 sh455 rfl ?_
  refine J_iconst (v := nI 1) E dX12_bears_162 rfl ?_
  refine J_isub E dX12_bears_163 ?_
  refine S_callV (As := [.int (nI 2), .int ((μ 455 13) - (nI 1))]) (rest := []) E dX12_bears_164 c kX12_tell ⟨Nat.le_of_ble_eq_true rfl, Nat.le_of_ble_eq_true rfl⟩ rfl (Nat.le_of_ble_eq_true rfl) sh455 rfl rfl w6_234 w6_236 wp_56 (fun r_ μ1 hp_ => ?_)
  obtain ⟨rfl, hp_⟩ := hp_
  refine J.weak [] rfl ?_
  exact k μ1 hp_
theorem bX12_bears_167 {Z : ZT} {X : XT} {μ : Mu} (E : Ent Z X mX12_bears 0 0) {P : Option Value → Mu → Prop} (hB : BodS Z X P) 
    (k : P (some (.int (nI 1))) μ) :
    JS Z X 167 [] [] μ := by
  refine J_iconst (v := nI 1) E dX12_bears_167 rfl ?_
  exact S_iret E hB dX12_bears_168 rfl k
theorem dX12_soon_0 : decode cX12_soon 0 = .ok (.iload_n 1, 1) := by decide +kernel
theorem dX12_soon_1 : decode cX12_soon 1 = .ok (.invokestatic 85, 3) := by decide +kernel
theorem dX12_soon_4 : decode cX12_soon 4 = .ok (.ifCond .ne 10, 3) := by decide +kernel
theorem dX12_soon_7 : decode cX12_soon 7 = .ok (.aload_n 0, 1) := by decide +kernel
theorem dX12_soon_8 : decode cX12_soon 8 = .ok (.bipush (-2), 2) := by decide +kernel
theorem dX12_soon_10 : decode cX12_soon 10 = .ok (.invokevirtual 63, 3) := by decide +kernel
theorem dX12_soon_13 : decode cX12_soon 13 = .ok (.ireturn, 1) := by decide +kernel
theorem dX12_soon_14 : decode cX12_soon 14 = .ok (.aload_n 0, 1) := by decide +kernel
theorem dX12_soon_15 : decode cX12_soon 15 = .ok (.iload_n 1, 1) := by decide +kernel
theorem dX12_soon_16 : decode cX12_soon 16 = .ok (.invokevirtual 235, 3) := by decide +kernel
theorem dX12_soon_19 : decode cX12_soon 19 = .ok (.ifCond .ne 10, 3) := by decide +kernel
theorem dX12_soon_22 : decode cX12_soon 22 = .ok (.aload_n 0, 1) := by decide +kernel
theorem dX12_soon_23 : decode cX12_soon 23 = .ok (.bipush (-3), 2) := by decide +kernel
theorem dX12_soon_25 : decode cX12_soon 25 = .ok (.invokevirtual 63, 3) := by decide +kernel
theorem dX12_soon_28 : decode cX12_soon 28 = .ok (.ireturn, 1) := by decide +kernel
theorem dX12_soon_29 : decode cX12_soon 29 = .ok (.iconst 0, 1) := by decide +kernel
theorem dX12_soon_30 : decode cX12_soon 30 = .ok (.istore_n 2, 1) := by decide +kernel
theorem dX12_soon_31 : decode cX12_soon 31 = .ok (.iconst 0, 1) := by decide +kernel
theorem dX12_soon_32 : decode cX12_soon 32 = .ok (.istore_n 3, 1) := by decide +kernel
theorem dX12_soon_33 : decode cX12_soon 33 = .ok (.iload_n 3, 1) := by decide +kernel
theorem dX12_soon_34 : decode cX12_soon 34 = .ok (.iconst 1, 1) := by decide +kernel
theorem dX12_soon_35 : decode cX12_soon 35 = .ok (.iadd, 1) := by decide +kernel
theorem dX12_soon_36 : decode cX12_soon 36 = .ok (.aload_n 0, 1) := by decide +kernel
theorem dX12_soon_37 : decode cX12_soon 37 = .ok (.getfield 168, 3) := by decide +kernel
theorem dX12_soon_40 : decode cX12_soon 40 = .ok (.if_icmp .ge 74, 3) := by decide +kernel
theorem dX12_soon_43 : decode cX12_soon 43 = .ok (.aload_n 0, 1) := by decide +kernel
theorem dX12_soon_44 : decode cX12_soon 44 = .ok (.aload_n 0, 1) := by decide +kernel
theorem dX12_soon_45 : decode cX12_soon 45 = .ok (.getfield 33, 3) := by decide +kernel
theorem dX12_soon_48 : decode cX12_soon 48 = .ok (.iload_n 3, 1) := by decide +kernel
theorem dX12_soon_49 : decode cX12_soon 49 = .ok (.iaload, 1) := by decide +kernel
theorem dX12_soon_50 : decode cX12_soon 50 = .ok (.aload_n 0, 1) := by decide +kernel
theorem dX12_soon_51 : decode cX12_soon 51 = .ok (.getfield 30, 3) := by decide +kernel
theorem dX12_soon_54 : decode cX12_soon 54 = .ok (.iload_n 3, 1) := by decide +kernel
theorem dX12_soon_55 : decode cX12_soon 55 = .ok (.iaload, 1) := by decide +kernel
theorem dX12_soon_56 : decode cX12_soon 56 = .ok (.aload_n 0, 1) := by decide +kernel
theorem dX12_soon_57 : decode cX12_soon 57 = .ok (.getfield 33, 3) := by decide +kernel
theorem dX12_soon_60 : decode cX12_soon 60 = .ok (.iload_n 3, 1) := by decide +kernel
theorem dX12_soon_61 : decode cX12_soon 61 = .ok (.iconst 1, 1) := by decide +kernel
theorem dX12_soon_62 : decode cX12_soon 62 = .ok (.iadd, 1) := by decide +kernel
theorem dX12_soon_63 : decode cX12_soon 63 = .ok (.iaload, 1) := by decide +kernel
theorem dX12_soon_64 : decode cX12_soon 64 = .ok (.invokevirtual 178, 3) := by decide +kernel
theorem dX12_soon_67 : decode cX12_soon 67 = .ok (.pop, 1) := by decide +kernel
theorem dX12_soon_68 : decode cX12_soon 68 = .ok (.iload_n 3, 1) := by decide +kernel
theorem dX12_soon_69 : decode cX12_soon 69 = .ok (.iconst 2, 1) := by decide +kernel
theorem dX12_soon_70 : decode cX12_soon 70 = .ok (.iadd, 1) := by decide +kernel
theorem dX12_soon_71 : decode cX12_soon 71 = .ok (.istore 4, 2) := by decide +kernel
theorem dX12_soon_73 : decode cX12_soon 73 = .ok (.iload 4, 2) := by decide +kernel
theorem dX12_soon_75 : decode cX12_soon 75 = .ok (.aload_n 0, 1) := by decide +kernel
theorem dX12_soon_76 : decode cX12_soon 76 = .ok (.getfield 168, 3) := by decide +kernel
theorem dX12_soon_79 : decode cX12_soon 79 = .ok (.if_icmp .ge 29, 3) := by decide +kernel
theorem dX12_soon_82 : decode cX12_soon 82 = .ok (.iload_n 2, 1) := by decide +kernel
theorem dX12_soon_83 : decode cX12_soon 83 = .ok (.aload_n 0, 1) := by decide +kernel
theorem dX12_soon_84 : decode cX12_soon 84 = .ok (.getfield 161, 3) := by decide +kernel
theorem dX12_soon_87 : decode cX12_soon 87 = .ok (.aload_n 0, 1) := by decide +kernel
theorem dX12_soon_88 : decode cX12_soon 88 = .ok (.getfield 33, 3) := by decide +kernel
theorem dX12_soon_91 : decode cX12_soon 91 = .ok (.iload 4, 2) := by decide +kernel
theorem dX12_soon_93 : decode cX12_soon 93 = .ok (.iaload, 1) := by decide +kernel
theorem dX12_soon_94 : decode cX12_soon 94 = .ok (.ishr, 1) := by decide +kernel
theorem dX12_soon_95 : decode cX12_soon 95 = .ok (.iconst 1, 1) := by decide +kernel
theorem dX12_soon_96 : decode cX12_soon 96 = .ok (.iand, 1) := by decide +kernel
theorem dX12_soon_97 : decode cX12_soon 97 = .ok (.iload 4, 2) := by decide +kernel
theorem dX12_soon_99 : decode cX12_soon 99 = .ok (.ishl, 1) := by decide +kernel
theorem dX12_soon_100 : decode cX12_soon 100 = .ok (.ior, 1) := by decide +kernel
theorem dX12_soon_101 : decode cX12_soon 101 = .ok (.istore_n 2, 1) := by decide +kernel
theorem dX12_soon_102 : decode cX12_soon 102 = .ok (.iinc 4 1, 3) := by decide +kernel
theorem dX12_soon_105 : decode cX12_soon 105 = .ok (.goto (-32), 3) := by decide +kernel
theorem dX12_soon_108 : decode cX12_soon 108 = .ok (.iinc 3 1, 3) := by decide +kernel
theorem dX12_soon_111 : decode cX12_soon 111 = .ok (.goto (-78), 3) := by decide +kernel
theorem dX12_soon_114 : decode cX12_soon 114 = .ok (.iload_n 2, 1) := by decide +kernel
theorem dX12_soon_115 : decode cX12_soon 115 = .ok (.ireturn, 1) := by decide +kernel
theorem bX12_soon_0 {Z : ZT} {X : XT} {μ : Mu} {a1 : Int32} (E : Ent Z X mX12_soon 0 0) {p : Int32 → Mu → Prop} 
    (c : CtrS Z mX12_isLot [.int a1] μ (rI p)) (k : ∀ v μ1, p v μ1 → JS Z X 4 [(0, .ref (Z.2.2.1 + 455)), (1, .int a1)] [.int v] μ1) :
    JS Z X 0 [(0, .ref (Z.2.2.1 + 455)), (1, .int a1)] [] μ := by
  refine J_iload_n E dX12_soon_0 rfl ?_
  refine S_callS (As := [.int a1]) (rest := []) E dX12_soon_1 c kX12_isLot ⟨Nat.le_of_ble_eq_true rfl, Nat.le_of_ble_eq_true rfl⟩ rfl (Nat.le_of_ble_eq_true rfl) w6_138 w6_139 (fun r_ μ1 hp_ => ?_)
  obtain ⟨v, rfl, hp_⟩ := hp_
  exact k v μ1 hp_
theorem bX12_soon_4 {Z : ZT} {X : XT} {μ : Mu} {a1 : Int32} {s0 : Int32} (E : Ent Z X mX12_soon 0 0)  
    (kt : ¬ s0 = 0 → JS Z X 14 [(0, .ref (Z.2.2.1 + 455)), (1, .int a1)] [] μ) (kf : s0 = 0 → JS Z X 7 [(0, .ref (Z.2.2.1 + 455))] [] μ) :
    JS Z X 4 [(0, .ref (Z.2.2.1 + 455)), (1, .int a1)] [.int s0] μ := by
  refine J_if_ne (tgt := 14) E dX12_soon_4 (by decide) (fun c => ?_) (fun c => ?_)
  · exact kt c
  · refine J.weak [0] rfl ?_
    exact kf c
theorem bX12_soon_7 {Z : ZT} {X : XT} {μ : Mu} (E : Ent Z X mX12_soon 0 0) {p : Int32 → Mu → Prop} 
    (c : CtrS Z mX12_refuse [.ref (Z.2.2.1 + 455), .int (-2)] μ (rI p)) (k : ∀ v μ1, p v μ1 → JS Z X 13 [] [.int v] μ1) :
    JS Z X 7 [(0, .ref (Z.2.2.1 + 455))] [] μ := by
  refine J_aload_n E dX12_soon_7 rfl ?_
  refine J_bipush (v := -2) E dX12_soon_8 rfl ?_
  refine S_callV (As := [.int (-2)]) (rest := []) E dX12_soon_10 c kX12_refuse ⟨Nat.le_of_ble_eq_true rfl, Nat.le_of_ble_eq_true rfl⟩ rfl (Nat.le_of_ble_eq_true rfl) sh455 rfl rfl w6_51 w6_53 wp_30 (fun r_ μ1 hp_ => ?_)
  obtain ⟨v, rfl, hp_⟩ := hp_
  refine J.weak [] rfl ?_
  exact k v μ1 hp_
theorem bX12_soon_13 {Z : ZT} {X : XT} {μ : Mu} {s0 : Int32} (E : Ent Z X mX12_soon 0 0) {P : Option Value → Mu → Prop} (hB : BodS Z X P) 
    (k : P (some (.int s0)) μ) :
    JS Z X 13 [] [.int s0] μ := by
  exact S_iret E hB dX12_soon_13 rfl k
theorem bX12_soon_14 {Z : ZT} {X : XT} {μ : Mu} {a1 : Int32} (E : Ent Z X mX12_soon 0 0) {p : Int32 → Mu → Prop} 
    (c : CtrS Z mX12_isHunt [.ref (Z.2.2.1 + 455), .int a1] μ (rI p)) (k : ∀ v μ1, p v μ1 → JS Z X 19 [(0, .ref (Z.2.2.1 + 455))] [.int v] μ1) :
    JS Z X 14 [(0, .ref (Z.2.2.1 + 455)), (1, .int a1)] [] μ := by
  refine J_aload_n E dX12_soon_14 rfl ?_
  refine J_iload_n E dX12_soon_15 rfl ?_
  refine S_callV (As := [.int a1]) (rest := []) E dX12_soon_16 c kX12_isHunt ⟨Nat.le_of_ble_eq_true rfl, Nat.le_of_ble_eq_true rfl⟩ rfl (Nat.le_of_ble_eq_true rfl) sh455 rfl rfl w6_197 w6_199 wp_47 (fun r_ μ1 hp_ => ?_)
  obtain ⟨v, rfl, hp_⟩ := hp_
  refine J.weak [0] rfl ?_
  exact k v μ1 hp_
theorem bX12_soon_19 {Z : ZT} {X : XT} {μ : Mu} {s0 : Int32} (E : Ent Z X mX12_soon 0 0)  
    (kt : ¬ s0 = 0 → JS Z X 29 [(0, .ref (Z.2.2.1 + 455))] [] μ) (kf : s0 = 0 → JS Z X 22 [(0, .ref (Z.2.2.1 + 455))] [] μ) :
    JS Z X 19 [(0, .ref (Z.2.2.1 + 455))] [.int s0] μ := by
  refine J_if_ne (tgt := 29) E dX12_soon_19 (by decide) (fun c => ?_) (fun c => ?_)
  · exact kt c
  · exact kf c
theorem bX12_soon_22 {Z : ZT} {X : XT} {μ : Mu} (E : Ent Z X mX12_soon 0 0) {p : Int32 → Mu → Prop} 
    (c : CtrS Z mX12_refuse [.ref (Z.2.2.1 + 455), .int (-3)] μ (rI p)) (k : ∀ v μ1, p v μ1 → JS Z X 28 [] [.int v] μ1) :
    JS Z X 22 [(0, .ref (Z.2.2.1 + 455))] [] μ := by
  refine J_aload_n E dX12_soon_22 rfl ?_
  refine J_bipush (v := -3) E dX12_soon_23 rfl ?_
  refine S_callV (As := [.int (-3)]) (rest := []) E dX12_soon_25 c kX12_refuse ⟨Nat.le_of_ble_eq_true rfl, Nat.le_of_ble_eq_true rfl⟩ rfl (Nat.le_of_ble_eq_true rfl) sh455 rfl rfl w6_51 w6_53 wp_30 (fun r_ μ1 hp_ => ?_)
  obtain ⟨v, rfl, hp_⟩ := hp_
  refine J.weak [] rfl ?_
  exact k v μ1 hp_
theorem bX12_soon_28 {Z : ZT} {X : XT} {μ : Mu} {s0 : Int32} (E : Ent Z X mX12_soon 0 0) {P : Option Value → Mu → Prop} (hB : BodS Z X P) 
    (k : P (some (.int s0)) μ) :
    JS Z X 28 [] [.int s0] μ := by
  exact S_iret E hB dX12_soon_28 rfl k
theorem bX12_soon_29 {Z : ZT} {X : XT} {μ : Mu} (E : Ent Z X mX12_soon 0 0)  
    (k : JS Z X 33 [(0, .ref (Z.2.2.1 + 455)), (2, .int (nI 0)), (3, .int (nI 0))] [] μ) :
    JS Z X 29 [(0, .ref (Z.2.2.1 + 455))] [] μ := by
  refine J_iconst (v := nI 0) E dX12_soon_29 rfl ?_
  refine J_istore_n (lv' := [(0, .ref (Z.2.2.1 + 455)), (2, .int (nI 0))]) E dX12_soon_30 (Nat.le_of_ble_eq_true rfl) rfl ?_
  refine J_iconst (v := nI 0) E dX12_soon_31 rfl ?_
  refine J_istore_n (lv' := [(0, .ref (Z.2.2.1 + 455)), (2, .int (nI 0)), (3, .int (nI 0))]) E dX12_soon_32 (Nat.le_of_ble_eq_true rfl) rfl ?_
  exact k
theorem bX12_soon_33 {Z : ZT} {X : XT} {μ : Mu} {a2 : Int32} {a3 : Int32} (E : Ent Z X mX12_soon 0 0)  
    (kt : (μ 455 13) ≤ (a3 + (nI 1)) → JS Z X 114 [(2, .int a2)] [] μ) (kf : ¬ ((μ 455 13) ≤ (a3 + (nI 1))) → JS Z X 43 [(0, .ref (Z.2.2.1 + 455)), (2, .int a2), (3, .int a3)] [] μ) :
    JS Z X 33 [(0, .ref (Z.2.2.1 + 455)), (2, .int a2), (3, .int a3)] [] μ := by
  refine J_iload_n E dX12_soon_33 rfl ?_
  refine J_iconst (v := nI 1) E dX12_soon_34 rfl ?_
  refine J_iadd E dX12_soon_35 ?_
  refine J_aload_n E dX12_soon_36 rfl ?_
  refine S_get (ci := 12) (q := 13) (v := .int (μ 455 13)) E dX12_soon_37 fs_X12_168 sh455 rfl ?_
  refine J_icmp_ge (tgt := 114) E dX12_soon_40 (by decide) (fun c => ?_) (fun c => ?_)
  · refine J.weak [1] rfl ?_
    exact kt c
  · exact kf c
theorem bX12_soon_43 {Z : ZT} {X : XT} {μ : Mu} {a2 : Int32} {a3 : Int32} (E : Ent Z X mX12_soon 0 0) {p : Int32 → Mu → Prop} (s1_ : vp_in a3 6) (s2_ : vp_in a3 6) (s3_ : vp_in (a3 + (nI 1)) 6)
    (c : CtrS Z mX12_searchFor [.ref (Z.2.2.1 + 455), .int (μ 463 (ix a3)), .int (μ 462 (ix a3)), .int (μ 463 (ix (a3 + (nI 1))))] μ (rI p)) (k : ∀ v μ1, p v μ1 → JS Z X 67 [(0, .ref (Z.2.2.1 + 455)), (2, .int a2), (3, .int a3)] [.int v] μ1) :
    JS Z X 43 [(0, .ref (Z.2.2.1 + 455)), (2, .int a2), (3, .int a3)] [] μ := by
  refine J_aload_n E dX12_soon_43 rfl ?_
  refine J_aload_n E dX12_soon_44 rfl ?_
  refine S_get (ci := 12) (q := 15) (v := .ref (Z.2.2.1 + 463)) E dX12_soon_45 fs_X12_33 sh455 rfl ?_
  refine J_iload_n E dX12_soon_48 rfl ?_
  refine S_iald E dX12_soon_49 sh463 s1_ ?_
  refine J_aload_n E dX12_soon_50 rfl ?_
  refine S_get (ci := 12) (q := 14) (v := .ref (Z.2.2.1 + 462)) E dX12_soon_51 fs_X12_30 sh455 rfl ?_
  refine J_iload_n E dX12_soon_54 rfl ?_
  refine S_iald E dX12_soon_55 sh462 s2_ ?_
  refine J_aload_n E dX12_soon_56 rfl ?_
  refine S_get (ci := 12) (q := 15) (v := .ref (Z.2.2.1 + 463)) E dX12_soon_57 fs_X12_33 sh455 rfl ?_
  refine J_iload_n E dX12_soon_60 rfl ?_
  refine J_iconst (v := nI 1) E dX12_soon_61 rfl ?_
  refine J_iadd E dX12_soon_62 ?_
  refine S_iald E dX12_soon_63 sh463 s3_ ?_
  refine S_callV (As := [.int (μ 463 (ix a3)), .int (μ 462 (ix a3)), .int (μ 463 (ix (a3 + (nI 1))))]) (rest := []) E dX12_soon_64 c kX12_searchFor ⟨Nat.le_of_ble_eq_true rfl, Nat.le_of_ble_eq_true rfl⟩ rfl (Nat.le_of_ble_eq_true rfl) sh455 rfl rfl w6_213 w6_215 wp_51 (fun r_ μ1 hp_ => ?_)
  obtain ⟨v, rfl, hp_⟩ := hp_
  exact k v μ1 hp_
theorem bX12_soon_67 {Z : ZT} {X : XT} {μ : Mu} {a2 : Int32} {a3 : Int32} {s0 : Int32} (E : Ent Z X mX12_soon 0 0)  
    (k : JS Z X 73 [(0, .ref (Z.2.2.1 + 455)), (2, .int a2), (3, .int a3), (4, .int (a3 + (nI 2)))] [] μ) :
    JS Z X 67 [(0, .ref (Z.2.2.1 + 455)), (2, .int a2), (3, .int a3)] [.int s0] μ := by
  refine J_pop E dX12_soon_67 rfl ?_
  refine J_iload_n E dX12_soon_68 rfl ?_
  refine J_iconst (v := nI 2) E dX12_soon_69 rfl ?_
  refine J_iadd E dX12_soon_70 ?_
  refine J_istore (lv' := [(0, .ref (Z.2.2.1 + 455)), (2, .int a2), (3, .int a3), (4, .int (a3 + (nI 2)))]) E dX12_soon_71 (Nat.le_of_ble_eq_true rfl) rfl ?_
  exact k
theorem bX12_soon_73 {Z : ZT} {X : XT} {μ : Mu} {a2 : Int32} {a3 : Int32} {a4 : Int32} (E : Ent Z X mX12_soon 0 0)  
    (kt : (μ 455 13) ≤ a4 → JS Z X 108 [(0, .ref (Z.2.2.1 + 455)), (2, .int a2), (3, .int a3)] [] μ) (kf : ¬ ((μ 455 13) ≤ a4) → JS Z X 82 [(0, .ref (Z.2.2.1 + 455)), (2, .int a2), (3, .int a3), (4, .int a4)] [] μ) :
    JS Z X 73 [(0, .ref (Z.2.2.1 + 455)), (2, .int a2), (3, .int a3), (4, .int a4)] [] μ := by
  refine J_iload E dX12_soon_73 rfl ?_
  refine J_aload_n E dX12_soon_75 rfl ?_
  refine S_get (ci := 12) (q := 13) (v := .int (μ 455 13)) E dX12_soon_76 fs_X12_168 sh455 rfl ?_
  refine J_icmp_ge (tgt := 108) E dX12_soon_79 (by decide) (fun c => ?_) (fun c => ?_)
  · refine J.weak [0, 1, 2] rfl ?_
    exact kt c
  · exact kf c
theorem bX12_soon_82 {Z : ZT} {X : XT} {μ : Mu} {a2 : Int32} {a3 : Int32} {a4 : Int32} (E : Ent Z X mX12_soon 0 0)  (s1_ : vp_in a4 6)
    (k : JS Z X 73 [(0, .ref (Z.2.2.1 + 455)), (2, .int (a2 ||| ((((μ 455 12) >>> ((μ 463 (ix a4)) &&& 31)) &&& (nI 1)) <<< (a4 &&& 31)))), (3, .int a3), (4, .int (a4 + nI 1))] [] μ) :
    JS Z X 82 [(0, .ref (Z.2.2.1 + 455)), (2, .int a2), (3, .int a3), (4, .int a4)] [] μ := by
  refine J_iload_n E dX12_soon_82 rfl ?_
  refine J_aload_n E dX12_soon_83 rfl ?_
  refine S_get (ci := 12) (q := 12) (v := .int (μ 455 12)) E dX12_soon_84 fs_X12_161 sh455 rfl ?_
  refine J_aload_n E dX12_soon_87 rfl ?_
  refine S_get (ci := 12) (q := 15) (v := .ref (Z.2.2.1 + 463)) E dX12_soon_88 fs_X12_33 sh455 rfl ?_
  refine J_iload E dX12_soon_91 rfl ?_
  refine S_iald E dX12_soon_93 sh463 s1_ ?_
  refine J_ishr E dX12_soon_94 ?_
  refine J_iconst (v := nI 1) E dX12_soon_95 rfl ?_
  refine J_iand E dX12_soon_96 ?_
  refine J_iload E dX12_soon_97 rfl ?_
  refine J_ishl E dX12_soon_99 ?_
  refine J_ior E dX12_soon_100 ?_
  refine J_istore_n (lv' := [(0, .ref (Z.2.2.1 + 455)), (2, .int (a2 ||| ((((μ 455 12) >>> ((μ 463 (ix a4)) &&& 31)) &&& (nI 1)) <<< (a4 &&& 31)))), (3, .int a3), (4, .int a4)]) E dX12_soon_101 (Nat.le_of_ble_eq_true rfl) rfl ?_
  refine J_iinc (v := a4 + nI 1) (lv' := [(0, .ref (Z.2.2.1 + 455)), (2, .int (a2 ||| ((((μ 455 12) >>> ((μ 463 (ix a4)) &&& 31)) &&& (nI 1)) <<< (a4 &&& 31)))), (3, .int a3), (4, .int (a4 + nI 1))]) E dX12_soon_102 rfl rfl (Nat.le_of_ble_eq_true rfl) rfl ?_
  refine J_goto (tgt := 73) E dX12_soon_105 (by decide) ?_
  exact k
theorem bX12_soon_108 {Z : ZT} {X : XT} {μ : Mu} {a2 : Int32} {a3 : Int32} (E : Ent Z X mX12_soon 0 0)  
    (k : JS Z X 33 [(0, .ref (Z.2.2.1 + 455)), (2, .int a2), (3, .int (a3 + nI 1))] [] μ) :
    JS Z X 108 [(0, .ref (Z.2.2.1 + 455)), (2, .int a2), (3, .int a3)] [] μ := by
  refine J_iinc (v := a3 + nI 1) (lv' := [(0, .ref (Z.2.2.1 + 455)), (2, .int a2), (3, .int (a3 + nI 1))]) E dX12_soon_108 rfl rfl (Nat.le_of_ble_eq_true rfl) rfl ?_
  refine J_goto (tgt := 33) E dX12_soon_111 (by decide) ?_
  exact k
theorem bX12_soon_114 {Z : ZT} {X : XT} {μ : Mu} {a2 : Int32} (E : Ent Z X mX12_soon 0 0) {P : Option Value → Mu → Prop} (hB : BodS Z X P) 
    (k : P (some (.int a2)) μ) :
    JS Z X 114 [(2, .int a2)] [] μ := by
  refine J_iload_n E dX12_soon_114 rfl ?_
  exact S_iret E hB dX12_soon_115 rfl k
theorem dX12_report_0 : decode cX12_report 0 = .ok (.iload_n 1, 1) := by decide +kernel
theorem dX12_report_1 : decode cX12_report 1 = .ok (.iconst 0, 1) := by decide +kernel
theorem dX12_report_2 : decode cX12_report 2 = .ok (.iconst 3, 1) := by decide +kernel
theorem dX12_report_3 : decode cX12_report 3 = .ok (.invokestatic 67, 3) := by decide +kernel
theorem dX12_report_6 : decode cX12_report 6 = .ok (.ifCond .eq 13, 3) := by decide +kernel
theorem dX12_report_9 : decode cX12_report 9 = .ok (.iload_n 2, 1) := by decide +kernel
theorem dX12_report_10 : decode cX12_report 10 = .ok (.iconst 1, 1) := by decide +kernel
theorem dX12_report_11 : decode cX12_report 11 = .ok (.bipush 99, 2) := by decide +kernel
theorem dX12_report_13 : decode cX12_report 13 = .ok (.invokestatic 67, 3) := by decide +kernel
theorem dX12_report_16 : decode cX12_report 16 = .ok (.ifCond .ne 10, 3) := by decide +kernel
theorem dX12_report_19 : decode cX12_report 19 = .ok (.aload_n 0, 1) := by decide +kernel
theorem dX12_report_20 : decode cX12_report 20 = .ok (.bipush (-2), 2) := by decide +kernel
theorem dX12_report_22 : decode cX12_report 22 = .ok (.invokevirtual 63, 3) := by decide +kernel
theorem dX12_report_25 : decode cX12_report 25 = .ok (.ireturn, 1) := by decide +kernel
theorem dX12_report_26 : decode cX12_report 26 = .ok (.aload_n 0, 1) := by decide +kernel
theorem dX12_report_27 : decode cX12_report 27 = .ok (.getfield 7, 3) := by decide +kernel
theorem dX12_report_30 : decode cX12_report 30 = .ok (.sipush 206, 3) := by decide +kernel
theorem dX12_report_33 : decode cX12_report 33 = .ok (.iaload, 1) := by decide +kernel
theorem dX12_report_34 : decode cX12_report 34 = .ok (.istore_n 3, 1) := by decide +kernel
theorem dX12_report_35 : decode cX12_report 35 = .ok (.iload_n 3, 1) := by decide +kernel
theorem dX12_report_36 : decode cX12_report 36 = .ok (.bipush 20, 2) := by decide +kernel
theorem dX12_report_38 : decode cX12_report 38 = .ok (.if_icmp .ne 10, 3) := by decide +kernel
theorem dX12_report_41 : decode cX12_report 41 = .ok (.aload_n 0, 1) := by decide +kernel
theorem dX12_report_42 : decode cX12_report 42 = .ok (.bipush (-4), 2) := by decide +kernel
theorem dX12_report_44 : decode cX12_report 44 = .ok (.invokevirtual 63, 3) := by decide +kernel
theorem dX12_report_47 : decode cX12_report 47 = .ok (.ireturn, 1) := by decide +kernel
theorem dX12_report_48 : decode cX12_report 48 = .ok (.aload_n 0, 1) := by decide +kernel
theorem dX12_report_49 : decode cX12_report 49 = .ok (.getfield 7, 3) := by decide +kernel
theorem dX12_report_52 : decode cX12_report 52 = .ok (.sipush 207, 3) := by decide +kernel
theorem dX12_report_55 : decode cX12_report 55 = .ok (.iload_n 3, 1) := by decide +kernel
theorem dX12_report_56 : decode cX12_report 56 = .ok (.iadd, 1) := by decide +kernel
theorem dX12_report_57 : decode cX12_report 57 = .ok (.iload_n 1, 1) := by decide +kernel
theorem dX12_report_58 : decode cX12_report 58 = .ok (.iastore, 1) := by decide +kernel
theorem dX12_report_59 : decode cX12_report 59 = .ok (.aload_n 0, 1) := by decide +kernel
theorem dX12_report_60 : decode cX12_report 60 = .ok (.getfield 7, 3) := by decide +kernel
theorem dX12_report_63 : decode cX12_report 63 = .ok (.sipush 227, 3) := by decide +kernel
theorem dX12_report_66 : decode cX12_report 66 = .ok (.iload_n 3, 1) := by decide +kernel
theorem dX12_report_67 : decode cX12_report 67 = .ok (.iadd, 1) := by decide +kernel
theorem dX12_report_68 : decode cX12_report 68 = .ok (.iload_n 2, 1) := by decide +kernel
theorem dX12_report_69 : decode cX12_report 69 = .ok (.iastore, 1) := by decide +kernel
theorem dX12_report_70 : decode cX12_report 70 = .ok (.aload_n 0, 1) := by decide +kernel
theorem dX12_report_71 : decode cX12_report 71 = .ok (.getfield 7, 3) := by decide +kernel
theorem dX12_report_74 : decode cX12_report 74 = .ok (.sipush 206, 3) := by decide +kernel
theorem dX12_report_77 : decode cX12_report 77 = .ok (.dup2, 1) := by decide +kernel
theorem dX12_report_78 : decode cX12_report 78 = .ok (.iaload, 1) := by decide +kernel
theorem dX12_report_79 : decode cX12_report 79 = .ok (.iconst 1, 1) := by decide +kernel
theorem dX12_report_80 : decode cX12_report 80 = .ok (.iadd, 1) := by decide +kernel
theorem dX12_report_81 : decode cX12_report 81 = .ok (.iastore, 1) := by decide +kernel
theorem dX12_report_82 : decode cX12_report 82 = .ok (.iload_n 3, 1) := by decide +kernel
theorem dX12_report_83 : decode cX12_report 83 = .ok (.iconst 1, 1) := by decide +kernel
theorem dX12_report_84 : decode cX12_report 84 = .ok (.iadd, 1) := by decide +kernel
theorem dX12_report_85 : decode cX12_report 85 = .ok (.ireturn, 1) := by decide +kernel
theorem bX12_report_0 {Z : ZT} {X : XT} {μ : Mu} {a1 : Int32} {a2 : Int32} (E : Ent Z X mX12_report 0 0) {p : Int32 → Mu → Prop} 
    (c : CtrS Z mX12_in [.int a1, .int (nI 0), .int (nI 3)] μ (rI p)) (k : ∀ v μ1, p v μ1 → JS Z X 6 [(0, .ref (Z.2.2.1 + 455)), (1, .int a1), (2, .int a2)] [.int v] μ1) :
    JS Z X 0 [(0, .ref (Z.2.2.1 + 455)), (1, .int a1), (2, .int a2)] [] μ := by
  refine J_iload_n E dX12_report_0 rfl ?_
  refine J_iconst (v := nI 0) E dX12_report_1 rfl ?_
  refine J_iconst (v := nI 3) E dX12_report_2 rfl ?_
  refine S_callS (As := [.int a1, .int (nI 0), .int (nI 3)]) (rest := []) E dX12_report_3 c kX12_in ⟨Nat.le_of_ble_eq_true rfl, Nat.le_of_ble_eq_true rfl⟩ rfl (Nat.le_of_ble_eq_true rfl) w6_67 w6_68 (fun r_ μ1 hp_ => ?_)
  obtain ⟨v, rfl, hp_⟩ := hp_
  exact k v μ1 hp_
theorem bX12_report_6 {Z : ZT} {X : XT} {μ : Mu} {a1 : Int32} {a2 : Int32} {s0 : Int32} (E : Ent Z X mX12_report 0 0)  
    (kt : s0 = 0 → JS Z X 19 [(0, .ref (Z.2.2.1 + 455))] [] μ) (kf : ¬ (s0 = 0) → JS Z X 9 [(0, .ref (Z.2.2.1 + 455)), (1, .int a1), (2, .int a2)] [] μ) :
    JS Z X 6 [(0, .ref (Z.2.2.1 + 455)), (1, .int a1), (2, .int a2)] [.int s0] μ := by
  refine J_if_eq (tgt := 19) E dX12_report_6 (by decide) (fun c => ?_) (fun c => ?_)
  · refine J.weak [0] rfl ?_
    exact kt c
  · exact kf c
theorem bX12_report_9 {Z : ZT} {X : XT} {μ : Mu} {a1 : Int32} {a2 : Int32} (E : Ent Z X mX12_report 0 0) {p : Int32 → Mu → Prop} 
    (c : CtrS Z mX12_in [.int a2, .int (nI 1), .int (nI 99)] μ (rI p)) (k : ∀ v μ1, p v μ1 → JS Z X 16 [(0, .ref (Z.2.2.1 + 455)), (1, .int a1), (2, .int a2)] [.int v] μ1) :
    JS Z X 9 [(0, .ref (Z.2.2.1 + 455)), (1, .int a1), (2, .int a2)] [] μ := by
  refine J_iload_n E dX12_report_9 rfl ?_
  refine J_iconst (v := nI 1) E dX12_report_10 rfl ?_
  refine J_bipush (v := nI 99) E dX12_report_11 rfl ?_
  refine S_callS (As := [.int a2, .int (nI 1), .int (nI 99)]) (rest := []) E dX12_report_13 c kX12_in ⟨Nat.le_of_ble_eq_true rfl, Nat.le_of_ble_eq_true rfl⟩ rfl (Nat.le_of_ble_eq_true rfl) w6_67 w6_68 (fun r_ μ1 hp_ => ?_)
  obtain ⟨v, rfl, hp_⟩ := hp_
  exact k v μ1 hp_
theorem bX12_report_16 {Z : ZT} {X : XT} {μ : Mu} {a1 : Int32} {a2 : Int32} {s0 : Int32} (E : Ent Z X mX12_report 0 0)  
    (kt : ¬ s0 = 0 → JS Z X 26 [(0, .ref (Z.2.2.1 + 455)), (1, .int a1), (2, .int a2)] [] μ) (kf : s0 = 0 → JS Z X 19 [(0, .ref (Z.2.2.1 + 455))] [] μ) :
    JS Z X 16 [(0, .ref (Z.2.2.1 + 455)), (1, .int a1), (2, .int a2)] [.int s0] μ := by
  refine J_if_ne (tgt := 26) E dX12_report_16 (by decide) (fun c => ?_) (fun c => ?_)
  · exact kt c
  · refine J.weak [0] rfl ?_
    exact kf c
theorem bX12_report_19 {Z : ZT} {X : XT} {μ : Mu} (E : Ent Z X mX12_report 0 0) {p : Int32 → Mu → Prop} 
    (c : CtrS Z mX12_refuse [.ref (Z.2.2.1 + 455), .int (-2)] μ (rI p)) (k : ∀ v μ1, p v μ1 → JS Z X 25 [] [.int v] μ1) :
    JS Z X 19 [(0, .ref (Z.2.2.1 + 455))] [] μ := by
  refine J_aload_n E dX12_report_19 rfl ?_
  refine J_bipush (v := -2) E dX12_report_20 rfl ?_
  refine S_callV (As := [.int (-2)]) (rest := []) E dX12_report_22 c kX12_refuse ⟨Nat.le_of_ble_eq_true rfl, Nat.le_of_ble_eq_true rfl⟩ rfl (Nat.le_of_ble_eq_true rfl) sh455 rfl rfl w6_51 w6_53 wp_30 (fun r_ μ1 hp_ => ?_)
  obtain ⟨v, rfl, hp_⟩ := hp_
  refine J.weak [] rfl ?_
  exact k v μ1 hp_
theorem bX12_report_25 {Z : ZT} {X : XT} {μ : Mu} {s0 : Int32} (E : Ent Z X mX12_report 0 0) {P : Option Value → Mu → Prop} (hB : BodS Z X P) 
    (k : P (some (.int s0)) μ) :
    JS Z X 25 [] [.int s0] μ := by
  exact S_iret E hB dX12_report_25 rfl k
theorem bX12_report_26 {Z : ZT} {X : XT} {μ : Mu} {a1 : Int32} {a2 : Int32} (E : Ent Z X mX12_report 0 0)  (s1_ : vp_in (nI 206) 988)
    (kt : ¬ (μ 456 (ix (nI 206))) = (nI 20) → JS Z X 48 [(0, .ref (Z.2.2.1 + 455)), (1, .int a1), (2, .int a2), (3, .int (μ 456 (ix (nI 206))))] [] μ) (kf : (μ 456 (ix (nI 206))) = (nI 20) → JS Z X 41 [(0, .ref (Z.2.2.1 + 455))] [] μ) :
    JS Z X 26 [(0, .ref (Z.2.2.1 + 455)), (1, .int a1), (2, .int a2)] [] μ := by
  refine J_aload_n E dX12_report_26 rfl ?_
  refine S_get (ci := 12) (q := 0) (v := .ref (Z.2.2.1 + 456)) E dX12_report_27 fs_X12_7 sh455 rfl ?_
  refine J_sipush (v := nI 206) E dX12_report_30 rfl ?_
  refine S_iald E dX12_report_33 sh456 s1_ ?_
  refine J_istore_n (lv' := [(0, .ref (Z.2.2.1 + 455)), (1, .int a1), (2, .int a2), (3, .int (μ 456 (ix (nI 206))))]) E dX12_report_34 (Nat.le_of_ble_eq_true rfl) rfl ?_
  refine J_iload_n E dX12_report_35 rfl ?_
  refine J_bipush (v := nI 20) E dX12_report_36 rfl ?_
  refine J_icmp_ne (tgt := 48) E dX12_report_38 (by decide) (fun c => ?_) (fun c => ?_)
  · exact kt c
  · refine J.weak [0] rfl ?_
    exact kf c
theorem bX12_report_41 {Z : ZT} {X : XT} {μ : Mu} (E : Ent Z X mX12_report 0 0) {p : Int32 → Mu → Prop} 
    (c : CtrS Z mX12_refuse [.ref (Z.2.2.1 + 455), .int (-4)] μ (rI p)) (k : ∀ v μ1, p v μ1 → JS Z X 47 [] [.int v] μ1) :
    JS Z X 41 [(0, .ref (Z.2.2.1 + 455))] [] μ := by
  refine J_aload_n E dX12_report_41 rfl ?_
  refine J_bipush (v := -4) E dX12_report_42 rfl ?_
  refine S_callV (As := [.int (-4)]) (rest := []) E dX12_report_44 c kX12_refuse ⟨Nat.le_of_ble_eq_true rfl, Nat.le_of_ble_eq_true rfl⟩ rfl (Nat.le_of_ble_eq_true rfl) sh455 rfl rfl w6_51 w6_53 wp_30 (fun r_ μ1 hp_ => ?_)
  obtain ⟨v, rfl, hp_⟩ := hp_
  refine J.weak [] rfl ?_
  exact k v μ1 hp_
theorem bX12_report_47 {Z : ZT} {X : XT} {μ : Mu} {s0 : Int32} (E : Ent Z X mX12_report 0 0) {P : Option Value → Mu → Prop} (hB : BodS Z X P) 
    (k : P (some (.int s0)) μ) :
    JS Z X 47 [] [.int s0] μ := by
  exact S_iret E hB dX12_report_47 rfl k
theorem bX12_report_48 {Z : ZT} {X : XT} {μ : Mu} {a1 : Int32} {a2 : Int32} {a3 : Int32} (E : Ent Z X mX12_report 0 0)  (s1_ : vp_in ((nI 207) + a3) 988)
    (k : JS Z X 59 [(0, .ref (Z.2.2.1 + 455)), (2, .int a2), (3, .int a3)] [] (uR μ 456 (upd (μ 456) (ix ((nI 207) + a3)) a1))) :
    JS Z X 48 [(0, .ref (Z.2.2.1 + 455)), (1, .int a1), (2, .int a2), (3, .int a3)] [] μ := by
  refine J_aload_n E dX12_report_48 rfl ?_
  refine S_get (ci := 12) (q := 0) (v := .ref (Z.2.2.1 + 456)) E dX12_report_49 fs_X12_7 sh455 rfl ?_
  refine J_sipush (v := nI 207) E dX12_report_52 rfl ?_
  refine J_iload_n E dX12_report_55 rfl ?_
  refine J_iadd E dX12_report_56 ?_
  refine J_iload_n E dX12_report_57 rfl ?_
  refine S_iast E dX12_report_58 sh456 s1_ ?_
  refine J.weak [0, 2, 3] rfl ?_
  exact k
theorem bX12_report_59 {Z : ZT} {X : XT} {μ : Mu} {a2 : Int32} {a3 : Int32} (E : Ent Z X mX12_report 0 0)  (s1_ : vp_in ((nI 227) + a3) 988)
    (k : JS Z X 70 [(0, .ref (Z.2.2.1 + 455)), (3, .int a3)] [] (uR μ 456 (upd (μ 456) (ix ((nI 227) + a3)) a2))) :
    JS Z X 59 [(0, .ref (Z.2.2.1 + 455)), (2, .int a2), (3, .int a3)] [] μ := by
  refine J_aload_n E dX12_report_59 rfl ?_
  refine S_get (ci := 12) (q := 0) (v := .ref (Z.2.2.1 + 456)) E dX12_report_60 fs_X12_7 sh455 rfl ?_
  refine J_sipush (v := nI 227) E dX12_report_63 rfl ?_
  refine J_iload_n E dX12_report_66 rfl ?_
  refine J_iadd E dX12_report_67 ?_
  refine J_iload_n E dX12_report_68 rfl ?_
  refine S_iast E dX12_report_69 sh456 s1_ ?_
  refine J.weak [0, 2] rfl ?_
  exact k
theorem bX12_report_70 {Z : ZT} {X : XT} {μ : Mu} {a3 : Int32} (E : Ent Z X mX12_report 0 0)  (s1_ : vp_in (nI 206) 988) (s2_ : vp_in (nI 206) 988)
    (k : JS Z X 82 [(3, .int a3)] [] (uR μ 456 (upd (μ 456) (ix (nI 206)) ((μ 456 (ix (nI 206))) + (nI 1))))) :
    JS Z X 70 [(0, .ref (Z.2.2.1 + 455)), (3, .int a3)] [] μ := by
  refine J_aload_n E dX12_report_70 rfl ?_
  refine S_get (ci := 12) (q := 0) (v := .ref (Z.2.2.1 + 456)) E dX12_report_71 fs_X12_7 sh455 rfl ?_
  refine J_sipush (v := nI 206) E dX12_report_74 rfl ?_
  refine J_dup2_11 E dX12_report_77 rfl rfl ?_
  refine S_iald E dX12_report_78 sh456 s1_ ?_
  refine J_iconst (v := nI 1) E dX12_report_79 rfl ?_
  refine J_iadd E dX12_report_80 ?_
  refine S_iast E dX12_report_81 sh456 s2_ ?_
  refine J.weak [1] rfl ?_
  exact k
theorem bX12_report_82 {Z : ZT} {X : XT} {μ : Mu} {a3 : Int32} (E : Ent Z X mX12_report 0 0) {P : Option Value → Mu → Prop} (hB : BodS Z X P) 
    (k : P (some (.int (a3 + (nI 1)))) μ) :
    JS Z X 82 [(3, .int a3)] [] μ := by
  refine J_iload_n E dX12_report_82 rfl ?_
  refine J_iconst (v := nI 1) E dX12_report_83 rfl ?_
  refine J_iadd E dX12_report_84 ?_
  exact S_iret E hB dX12_report_85 rfl k
theorem dX12_common_0 : decode cX12_common 0 = .ok (.iload_n 0, 1) := by decide +kernel
theorem dX12_common_1 : decode cX12_common 1 = .ok (.istore_n 2, 1) := by decide +kernel
theorem dX12_common_2 : decode cX12_common 2 = .ok (.iload_n 1, 1) := by decide +kernel
theorem dX12_common_3 : decode cX12_common 3 = .ok (.istore_n 3, 1) := by decide +kernel
theorem dX12_common_4 : decode cX12_common 4 = .ok (.iload_n 3, 1) := by decide +kernel
theorem dX12_common_5 : decode cX12_common 5 = .ok (.ifCond .eq 16, 3) := by decide +kernel
theorem dX12_common_8 : decode cX12_common 8 = .ok (.iload_n 2, 1) := by decide +kernel
theorem dX12_common_9 : decode cX12_common 9 = .ok (.iload_n 3, 1) := by decide +kernel
theorem dX12_common_10 : decode cX12_common 10 = .ok (.irem, 1) := by decide +kernel
theorem dX12_common_11 : decode cX12_common 11 = .ok (.istore 4, 2) := by decide +kernel
theorem dX12_common_13 : decode cX12_common 13 = .ok (.iload_n 3, 1) := by decide +kernel
theorem dX12_common_14 : decode cX12_common 14 = .ok (.istore_n 2, 1) := by decide +kernel
theorem dX12_common_15 : decode cX12_common 15 = .ok (.iload 4, 2) := by decide +kernel
theorem dX12_common_17 : decode cX12_common 17 = .ok (.istore_n 3, 1) := by decide +kernel
theorem dX12_common_18 : decode cX12_common 18 = .ok (.goto (-14), 3) := by decide +kernel
theorem dX12_common_21 : decode cX12_common 21 = .ok (.iload_n 2, 1) := by decide +kernel
theorem dX12_common_22 : decode cX12_common 22 = .ok (.ireturn, 1) := by decide +kernel
theorem bX12_common_0 {Z : ZT} {X : XT} {μ : Mu} {a0 : Int32} {a1 : Int32} (E : Ent Z X mX12_common 0 0)  
    (k : JS Z X 4 [(2, .int a0), (3, .int a1)] [] μ) :
    JS Z X 0 [(0, .int a0), (1, .int a1)] [] μ := by
  refine J_iload_n E dX12_common_0 rfl ?_
  refine J_istore_n (lv' := [(0, .int a0), (1, .int a1), (2, .int a0)]) E dX12_common_1 (Nat.le_of_ble_eq_true rfl) rfl ?_
  refine J_iload_n E dX12_common_2 rfl ?_
  refine J_istore_n (lv' := [(0, .int a0), (1, .int a1), (2, .int a0), (3, .int a1)]) E dX12_common_3 (Nat.le_of_ble_eq_true rfl) rfl ?_
  refine J.weak [2, 3] rfl ?_
  exact k
theorem bX12_common_4 {Z : ZT} {X : XT} {μ : Mu} {a2 : Int32} {a3 : Int32} (E : Ent Z X mX12_common 0 0)  
    (kt : a3 = 0 → JS Z X 21 [(2, .int a2)] [] μ) (kf : ¬ (a3 = 0) → JS Z X 8 [(2, .int a2), (3, .int a3)] [] μ) :
    JS Z X 4 [(2, .int a2), (3, .int a3)] [] μ := by
  refine J_iload_n E dX12_common_4 rfl ?_
  refine J_if_eq (tgt := 21) E dX12_common_5 (by decide) (fun c => ?_) (fun c => ?_)
  · refine J.weak [0] rfl ?_
    exact kt c
  · exact kf c
theorem bX12_common_8 {Z : ZT} {X : XT} {μ : Mu} {a2 : Int32} {a3 : Int32} (E : Ent Z X mX12_common 0 0)  (s1_ : ¬ a3 = 0)
    (k : JS Z X 4 [(2, .int a3), (3, .int (a2 - a2 / a3 * a3))] [] μ) :
    JS Z X 8 [(2, .int a2), (3, .int a3)] [] μ := by
  refine J_iload_n E dX12_common_8 rfl ?_
  refine J_iload_n E dX12_common_9 rfl ?_
  refine J_irem E dX12_common_10 s1_ ?_
  refine J_istore (lv' := [(2, .int a2), (3, .int a3), (4, .int (a2 - a2 / a3 * a3))]) E dX12_common_11 (Nat.le_of_ble_eq_true rfl) rfl ?_
  refine J_iload_n E dX12_common_13 rfl ?_
  refine J_istore_n (lv' := [(2, .int a3), (3, .int a3), (4, .int (a2 - a2 / a3 * a3))]) E dX12_common_14 (Nat.le_of_ble_eq_true rfl) rfl ?_
  refine J_iload E dX12_common_15 rfl ?_
  refine J_istore_n (lv' := [(2, .int a3), (3, .int (a2 - a2 / a3 * a3)), (4, .int (a2 - a2 / a3 * a3))]) E dX12_common_17 (Nat.le_of_ble_eq_true rfl) rfl ?_
  refine J_goto (tgt := 4) E dX12_common_18 (by decide) ?_
  refine J.weak [0, 1] rfl ?_
  exact k
theorem bX12_common_21 {Z : ZT} {X : XT} {μ : Mu} {a2 : Int32} (E : Ent Z X mX12_common 0 0) {P : Option Value → Mu → Prop} (hB : BodS Z X P) 
    (k : P (some (.int a2)) μ) :
    JS Z X 21 [(2, .int a2)] [] μ := by
  refine J_iload_n E dX12_common_21 rfl ?_
  exact S_iret E hB dX12_common_22 rfl k
theorem dX12_hard_0 : decode cX12_hard 0 = .ok (.iload_n 1, 1) := by decide +kernel
theorem dX12_hard_1 : decode cX12_hard 1 = .ok (.iconst 0, 1) := by decide +kernel
theorem dX12_hard_2 : decode cX12_hard 2 = .ok (.iconst 3, 1) := by decide +kernel
theorem dX12_hard_3 : decode cX12_hard 3 = .ok (.invokestatic 67, 3) := by decide +kernel
theorem dX12_hard_6 : decode cX12_hard 6 = .ok (.ifCond .eq 12, 3) := by decide +kernel
theorem dX12_hard_9 : decode cX12_hard 9 = .ok (.iload_n 2, 1) := by decide +kernel
theorem dX12_hard_10 : decode cX12_hard 10 = .ok (.iconst 0, 1) := by decide +kernel
theorem dX12_hard_11 : decode cX12_hard 11 = .ok (.iconst 2, 1) := by decide +kernel
theorem dX12_hard_12 : decode cX12_hard 12 = .ok (.invokestatic 67, 3) := by decide +kernel
theorem dX12_hard_15 : decode cX12_hard 15 = .ok (.ifCond .ne 10, 3) := by decide +kernel
theorem dX12_hard_18 : decode cX12_hard 18 = .ok (.aload_n 0, 1) := by decide +kernel
theorem dX12_hard_19 : decode cX12_hard 19 = .ok (.bipush (-2), 2) := by decide +kernel
theorem dX12_hard_21 : decode cX12_hard 21 = .ok (.invokevirtual 63, 3) := by decide +kernel
theorem dX12_hard_24 : decode cX12_hard 24 = .ok (.ireturn, 1) := by decide +kernel
theorem dX12_hard_25 : decode cX12_hard 25 = .ok (.iconst 0, 1) := by decide +kernel
theorem dX12_hard_26 : decode cX12_hard 26 = .ok (.istore_n 3, 1) := by decide +kernel
theorem dX12_hard_27 : decode cX12_hard 27 = .ok (.iconst 0, 1) := by decide +kernel
theorem dX12_hard_28 : decode cX12_hard 28 = .ok (.istore 4, 2) := by decide +kernel
theorem dX12_hard_30 : decode cX12_hard 30 = .ok (.bipush 100, 2) := by decide +kernel
theorem dX12_hard_32 : decode cX12_hard 32 = .ok (.istore 5, 2) := by decide +kernel
theorem dX12_hard_34 : decode cX12_hard 34 = .ok (.iconst 0, 1) := by decide +kernel
theorem dX12_hard_35 : decode cX12_hard 35 = .ok (.istore 6, 2) := by decide +kernel
theorem dX12_hard_37 : decode cX12_hard 37 = .ok (.iconst 0, 1) := by decide +kernel
theorem dX12_hard_38 : decode cX12_hard 38 = .ok (.istore 7, 2) := by decide +kernel
theorem dX12_hard_40 : decode cX12_hard 40 = .ok (.iload 7, 2) := by decide +kernel
theorem dX12_hard_42 : decode cX12_hard 42 = .ok (.aload_n 0, 1) := by decide +kernel
theorem dX12_hard_43 : decode cX12_hard 43 = .ok (.getfield 7, 3) := by decide +kernel
theorem dX12_hard_46 : decode cX12_hard 46 = .ok (.sipush 206, 3) := by decide +kernel
theorem dX12_hard_49 : decode cX12_hard 49 = .ok (.iaload, 1) := by decide +kernel
theorem dX12_hard_50 : decode cX12_hard 50 = .ok (.if_icmp .ge 79, 3) := by decide +kernel
theorem dX12_hard_53 : decode cX12_hard 53 = .ok (.aload_n 0, 1) := by decide +kernel
theorem dX12_hard_54 : decode cX12_hard 54 = .ok (.getfield 7, 3) := by decide +kernel
theorem dX12_hard_57 : decode cX12_hard 57 = .ok (.sipush 207, 3) := by decide +kernel
theorem dX12_hard_60 : decode cX12_hard 60 = .ok (.iload 7, 2) := by decide +kernel
theorem dX12_hard_62 : decode cX12_hard 62 = .ok (.iadd, 1) := by decide +kernel
theorem dX12_hard_63 : decode cX12_hard 63 = .ok (.iaload, 1) := by decide +kernel
theorem dX12_hard_64 : decode cX12_hard 64 = .ok (.iload_n 1, 1) := by decide +kernel
theorem dX12_hard_65 : decode cX12_hard 65 = .ok (.if_icmp .ne 58, 3) := by decide +kernel
theorem dX12_hard_68 : decode cX12_hard 68 = .ok (.aload_n 0, 1) := by decide +kernel
theorem dX12_hard_69 : decode cX12_hard 69 = .ok (.getfield 7, 3) := by decide +kernel
theorem dX12_hard_72 : decode cX12_hard 72 = .ok (.sipush 227, 3) := by decide +kernel
theorem dX12_hard_75 : decode cX12_hard 75 = .ok (.iload 7, 2) := by decide +kernel
theorem dX12_hard_77 : decode cX12_hard 77 = .ok (.iadd, 1) := by decide +kernel
theorem dX12_hard_78 : decode cX12_hard 78 = .ok (.iaload, 1) := by decide +kernel
theorem dX12_hard_79 : decode cX12_hard 79 = .ok (.istore 8, 2) := by decide +kernel
theorem dX12_hard_81 : decode cX12_hard 81 = .ok (.iinc 3 1, 3) := by decide +kernel
theorem dX12_hard_84 : decode cX12_hard 84 = .ok (.iload 4, 2) := by decide +kernel
theorem dX12_hard_86 : decode cX12_hard 86 = .ok (.iload 8, 2) := by decide +kernel
theorem dX12_hard_88 : decode cX12_hard 88 = .ok (.iadd, 1) := by decide +kernel
theorem dX12_hard_89 : decode cX12_hard 89 = .ok (.istore 4, 2) := by decide +kernel
theorem dX12_hard_91 : decode cX12_hard 91 = .ok (.iload 8, 2) := by decide +kernel
theorem dX12_hard_93 : decode cX12_hard 93 = .ok (.iload 5, 2) := by decide +kernel
theorem dX12_hard_95 : decode cX12_hard 95 = .ok (.if_icmp .ge 8, 3) := by decide +kernel
theorem dX12_hard_98 : decode cX12_hard 98 = .ok (.iload 8, 2) := by decide +kernel
theorem dX12_hard_100 : decode cX12_hard 100 = .ok (.goto 5, 3) := by decide +kernel
theorem dX12_hard_103 : decode cX12_hard 103 = .ok (.iload 5, 2) := by decide +kernel
theorem dX12_hard_105 : decode cX12_hard 105 = .ok (.istore 5, 2) := by decide +kernel
theorem dX12_hard_107 : decode cX12_hard 107 = .ok (.iload 8, 2) := by decide +kernel
theorem dX12_hard_109 : decode cX12_hard 109 = .ok (.iload 6, 2) := by decide +kernel
theorem dX12_hard_111 : decode cX12_hard 111 = .ok (.if_icmp .le 8, 3) := by decide +kernel
theorem dX12_hard_114 : decode cX12_hard 114 = .ok (.iload 8, 2) := by decide +kernel
theorem dX12_hard_116 : decode cX12_hard 116 = .ok (.goto 5, 3) := by decide +kernel
theorem dX12_hard_119 : decode cX12_hard 119 = .ok (.iload 6, 2) := by decide +kernel
theorem dX12_hard_121 : decode cX12_hard 121 = .ok (.istore 6, 2) := by decide +kernel
theorem dX12_hard_123 : decode cX12_hard 123 = .ok (.iinc 7 1, 3) := by decide +kernel
theorem dX12_hard_126 : decode cX12_hard 126 = .ok (.goto (-86), 3) := by decide +kernel
theorem dX12_hard_129 : decode cX12_hard 129 = .ok (.iload_n 3, 1) := by decide +kernel
theorem dX12_hard_130 : decode cX12_hard 130 = .ok (.ifCond .ne 10, 3) := by decide +kernel
theorem dX12_hard_133 : decode cX12_hard 133 = .ok (.aload_n 0, 1) := by decide +kernel
theorem dX12_hard_134 : decode cX12_hard 134 = .ok (.bipush (-3), 2) := by decide +kernel
theorem dX12_hard_136 : decode cX12_hard 136 = .ok (.invokevirtual 63, 3) := by decide +kernel
theorem dX12_hard_139 : decode cX12_hard 139 = .ok (.ireturn, 1) := by decide +kernel
theorem dX12_hard_140 : decode cX12_hard 140 = .ok (.iload_n 2, 1) := by decide +kernel
theorem dX12_hard_141 : decode cX12_hard 141 = .ok (.iconst 2, 1) := by decide +kernel
theorem dX12_hard_142 : decode cX12_hard 142 = .ok (.if_icmp .ne 35, 3) := by decide +kernel
theorem dX12_hard_145 : decode cX12_hard 145 = .ok (.iload 4, 2) := by decide +kernel
theorem dX12_hard_147 : decode cX12_hard 147 = .ok (.iload_n 3, 1) := by decide +kernel
theorem dX12_hard_148 : decode cX12_hard 148 = .ok (.invokestatic 292, 3) := by decide +kernel
theorem dX12_hard_151 : decode cX12_hard 151 = .ok (.istore 7, 2) := by decide +kernel
theorem dX12_hard_153 : decode cX12_hard 153 = .ok (.aload_n 0, 1) := by decide +kernel
theorem dX12_hard_154 : decode cX12_hard 154 = .ok (.iconst 0, 1) := by decide +kernel
theorem dX12_hard_155 : decode cX12_hard 155 = .ok (.iload 4, 2) := by decide +kernel
theorem dX12_hard_157 : decode cX12_hard 157 = .ok (.iload 7, 2) := by decide +kernel
theorem dX12_hard_159 : decode cX12_hard 159 = .ok (.idiv, 1) := by decide +kernel
theorem dX12_hard_160 : decode cX12_hard 160 = .ok (.invokevirtual 204, 3) := by decide +kernel
theorem dX12_hard_163 : decode cX12_hard 163 = .ok (.aload_n 0, 1) := by decide +kernel
theorem dX12_hard_164 : decode cX12_hard 164 = .ok (.iconst 1, 1) := by decide +kernel
theorem dX12_hard_165 : decode cX12_hard 165 = .ok (.iload_n 3, 1) := by decide +kernel
theorem dX12_hard_166 : decode cX12_hard 166 = .ok (.iload 7, 2) := by decide +kernel
theorem dX12_hard_168 : decode cX12_hard 168 = .ok (.idiv, 1) := by decide +kernel
theorem dX12_hard_169 : decode cX12_hard 169 = .ok (.invokevirtual 204, 3) := by decide +kernel
theorem dX12_hard_172 : decode cX12_hard 172 = .ok (.aload_n 0, 1) := by decide +kernel
theorem dX12_hard_173 : decode cX12_hard 173 = .ok (.iconst 1, 1) := by decide +kernel
theorem dX12_hard_174 : decode cX12_hard 174 = .ok (.putfield 210, 3) := by decide +kernel
theorem dX12_hard_177 : decode cX12_hard 177 = .ok (.iload_n 2, 1) := by decide +kernel
theorem dX12_hard_178 : decode cX12_hard 178 = .ok (.ifCond .ne 8, 3) := by decide +kernel
theorem dX12_hard_181 : decode cX12_hard 181 = .ok (.iload 5, 2) := by decide +kernel
theorem dX12_hard_183 : decode cX12_hard 183 = .ok (.goto 14, 3) := by decide +kernel
theorem dX12_hard_186 : decode cX12_hard 186 = .ok (.iload_n 2, 1) := by decide +kernel
theorem dX12_hard_187 : decode cX12_hard 187 = .ok (.iconst 1, 1) := by decide +kernel
theorem dX12_hard_188 : decode cX12_hard 188 = .ok (.if_icmp .ne 8, 3) := by decide +kernel
theorem dX12_hard_191 : decode cX12_hard 191 = .ok (.iload 6, 2) := by decide +kernel
theorem dX12_hard_193 : decode cX12_hard 193 = .ok (.goto 4, 3) := by decide +kernel
theorem dX12_hard_196 : decode cX12_hard 196 = .ok (.iconst 1, 1) := by decide +kernel
theorem dX12_hard_197 : decode cX12_hard 197 = .ok (.ireturn, 1) := by decide +kernel
theorem bX12_hard_0 {Z : ZT} {X : XT} {μ : Mu} {a1 : Int32} {a2 : Int32} (E : Ent Z X mX12_hard 0 0) {p : Int32 → Mu → Prop} 
    (c : CtrS Z mX12_in [.int a1, .int (nI 0), .int (nI 3)] μ (rI p)) (k : ∀ v μ1, p v μ1 → JS Z X 6 [(0, .ref (Z.2.2.1 + 455)), (1, .int a1), (2, .int a2)] [.int v] μ1) :
    JS Z X 0 [(0, .ref (Z.2.2.1 + 455)), (1, .int a1), (2, .int a2)] [] μ := by
  refine J_iload_n E dX12_hard_0 rfl ?_
  refine J_iconst (v := nI 0) E dX12_hard_1 rfl ?_
  refine J_iconst (v := nI 3) E dX12_hard_2 rfl ?_
  refine S_callS (As := [.int a1, .int (nI 0), .int (nI 3)]) (rest := []) E dX12_hard_3 c kX12_in ⟨Nat.le_of_ble_eq_true rfl, Nat.le_of_ble_eq_true rfl⟩ rfl (Nat.le_of_ble_eq_true rfl) w6_67 w6_68 (fun r_ μ1 hp_ => ?_)
  obtain ⟨v, rfl, hp_⟩ := hp_
  exact k v μ1 hp_
theorem bX12_hard_6 {Z : ZT} {X : XT} {μ : Mu} {a1 : Int32} {a2 : Int32} {s0 : Int32} (E : Ent Z X mX12_hard 0 0)  
    (kt : s0 = 0 → JS Z X 18 [(0, .ref (Z.2.2.1 + 455))] [] μ) (kf : ¬ (s0 = 0) → JS Z X 9 [(0, .ref (Z.2.2.1 + 455)), (1, .int a1), (2, .int a2)] [] μ) :
    JS Z X 6 [(0, .ref (Z.2.2.1 + 455)), (1, .int a1), (2, .int a2)] [.int s0] μ := by
  refine J_if_eq (tgt := 18) E dX12_hard_6 (by decide) (fun c => ?_) (fun c => ?_)
  · refine J.weak [0] rfl ?_
    exact kt c
  · exact kf c
theorem bX12_hard_9 {Z : ZT} {X : XT} {μ : Mu} {a1 : Int32} {a2 : Int32} (E : Ent Z X mX12_hard 0 0) {p : Int32 → Mu → Prop} 
    (c : CtrS Z mX12_in [.int a2, .int (nI 0), .int (nI 2)] μ (rI p)) (k : ∀ v μ1, p v μ1 → JS Z X 15 [(0, .ref (Z.2.2.1 + 455)), (1, .int a1), (2, .int a2)] [.int v] μ1) :
    JS Z X 9 [(0, .ref (Z.2.2.1 + 455)), (1, .int a1), (2, .int a2)] [] μ := by
  refine J_iload_n E dX12_hard_9 rfl ?_
  refine J_iconst (v := nI 0) E dX12_hard_10 rfl ?_
  refine J_iconst (v := nI 2) E dX12_hard_11 rfl ?_
  refine S_callS (As := [.int a2, .int (nI 0), .int (nI 2)]) (rest := []) E dX12_hard_12 c kX12_in ⟨Nat.le_of_ble_eq_true rfl, Nat.le_of_ble_eq_true rfl⟩ rfl (Nat.le_of_ble_eq_true rfl) w6_67 w6_68 (fun r_ μ1 hp_ => ?_)
  obtain ⟨v, rfl, hp_⟩ := hp_
  exact k v μ1 hp_
theorem bX12_hard_15 {Z : ZT} {X : XT} {μ : Mu} {a1 : Int32} {a2 : Int32} {s0 : Int32} (E : Ent Z X mX12_hard 0 0)  
    (kt : ¬ s0 = 0 → JS Z X 25 [(0, .ref (Z.2.2.1 + 455)), (1, .int a1), (2, .int a2)] [] μ) (kf : s0 = 0 → JS Z X 18 [(0, .ref (Z.2.2.1 + 455))] [] μ) :
    JS Z X 15 [(0, .ref (Z.2.2.1 + 455)), (1, .int a1), (2, .int a2)] [.int s0] μ := by
  refine J_if_ne (tgt := 25) E dX12_hard_15 (by decide) (fun c => ?_) (fun c => ?_)
  · exact kt c
  · refine J.weak [0] rfl ?_
    exact kf c
theorem bX12_hard_18 {Z : ZT} {X : XT} {μ : Mu} (E : Ent Z X mX12_hard 0 0) {p : Int32 → Mu → Prop} 
    (c : CtrS Z mX12_refuse [.ref (Z.2.2.1 + 455), .int (-2)] μ (rI p)) (k : ∀ v μ1, p v μ1 → JS Z X 24 [] [.int v] μ1) :
    JS Z X 18 [(0, .ref (Z.2.2.1 + 455))] [] μ := by
  refine J_aload_n E dX12_hard_18 rfl ?_
  refine J_bipush (v := -2) E dX12_hard_19 rfl ?_
  refine S_callV (As := [.int (-2)]) (rest := []) E dX12_hard_21 c kX12_refuse ⟨Nat.le_of_ble_eq_true rfl, Nat.le_of_ble_eq_true rfl⟩ rfl (Nat.le_of_ble_eq_true rfl) sh455 rfl rfl w6_51 w6_53 wp_30 (fun r_ μ1 hp_ => ?_)
  obtain ⟨v, rfl, hp_⟩ := hp_
  refine J.weak [] rfl ?_
  exact k v μ1 hp_
theorem bX12_hard_24 {Z : ZT} {X : XT} {μ : Mu} {s0 : Int32} (E : Ent Z X mX12_hard 0 0) {P : Option Value → Mu → Prop} (hB : BodS Z X P) 
    (k : P (some (.int s0)) μ) :
    JS Z X 24 [] [.int s0] μ := by
  exact S_iret E hB dX12_hard_24 rfl k
theorem bX12_hard_25 {Z : ZT} {X : XT} {μ : Mu} {a1 : Int32} {a2 : Int32} (E : Ent Z X mX12_hard 0 0)  
    (k : JS Z X 40 [(0, .ref (Z.2.2.1 + 455)), (1, .int a1), (2, .int a2), (3, .int (nI 0)), (4, .int (nI 0)), (5, .int (nI 100)), (6, .int (nI 0)), (7, .int (nI 0))] [] μ) :
    JS Z X 25 [(0, .ref (Z.2.2.1 + 455)), (1, .int a1), (2, .int a2)] [] μ := by
  refine J_iconst (v := nI 0) E dX12_hard_25 rfl ?_
  refine J_istore_n (lv' := [(0, .ref (Z.2.2.1 + 455)), (1, .int a1), (2, .int a2), (3, .int (nI 0))]) E dX12_hard_26 (Nat.le_of_ble_eq_true rfl) rfl ?_
  refine J_iconst (v := nI 0) E dX12_hard_27 rfl ?_
  refine J_istore (lv' := [(0, .ref (Z.2.2.1 + 455)), (1, .int a1), (2, .int a2), (3, .int (nI 0)), (4, .int (nI 0))]) E dX12_hard_28 (Nat.le_of_ble_eq_true rfl) rfl ?_
  refine J_bipush (v := nI 100) E dX12_hard_30 rfl ?_
  refine J_istore (lv' := [(0, .ref (Z.2.2.1 + 455)), (1, .int a1), (2, .int a2), (3, .int (nI 0)), (4, .int (nI 0)), (5, .int (nI 100))]) E dX12_hard_32 (Nat.le_of_ble_eq_true rfl) rfl ?_
  refine J_iconst (v := nI 0) E dX12_hard_34 rfl ?_
  refine J_istore (lv' := [(0, .ref (Z.2.2.1 + 455)), (1, .int a1), (2, .int a2), (3, .int (nI 0)), (4, .int (nI 0)), (5, .int (nI 100)), (6, .int (nI 0))]) E dX12_hard_35 (Nat.le_of_ble_eq_true rfl) rfl ?_
  refine J_iconst (v := nI 0) E dX12_hard_37 rfl ?_
  refine J_istore (lv' := [(0, .ref (Z.2.2.1 + 455)), (1, .int a1), (2, .int a2), (3, .int (nI 0)), (4, .int (nI 0)), (5, .int (nI 100)), (6, .int (nI 0)), (7, .int (nI 0))]) E dX12_hard_38 (Nat.le_of_ble_eq_true rfl) rfl ?_
  exact k
theorem bX12_hard_40 {Z : ZT} {X : XT} {μ : Mu} {a1 : Int32} {a2 : Int32} {a3 : Int32} {a4 : Int32} {a5 : Int32} {a6 : Int32} {a7 : Int32} (E : Ent Z X mX12_hard 0 0)  (s1_ : vp_in (nI 206) 988)
    (kt : (μ 456 (ix (nI 206))) ≤ a7 → JS Z X 129 [(0, .ref (Z.2.2.1 + 455)), (2, .int a2), (3, .int a3), (4, .int a4), (5, .int a5), (6, .int a6)] [] μ) (kf : ¬ ((μ 456 (ix (nI 206))) ≤ a7) → JS Z X 53 [(0, .ref (Z.2.2.1 + 455)), (1, .int a1), (2, .int a2), (3, .int a3), (4, .int a4), (5, .int a5), (6, .int a6), (7, .int a7)] [] μ) :
    JS Z X 40 [(0, .ref (Z.2.2.1 + 455)), (1, .int a1), (2, .int a2), (3, .int a3), (4, .int a4), (5, .int a5), (6, .int a6), (7, .int a7)] [] μ := by
  refine J_iload E dX12_hard_40 rfl ?_
  refine J_aload_n E dX12_hard_42 rfl ?_
  refine S_get (ci := 12) (q := 0) (v := .ref (Z.2.2.1 + 456)) E dX12_hard_43 fs_X12_7 sh455 rfl ?_
  refine J_sipush (v := nI 206) E dX12_hard_46 rfl ?_
  refine S_iald E dX12_hard_49 sh456 s1_ ?_
  refine J_icmp_ge (tgt := 129) E dX12_hard_50 (by decide) (fun c => ?_) (fun c => ?_)
  · refine J.weak [0, 2, 3, 4, 5, 6] rfl ?_
    exact kt c
  · exact kf c
theorem bX12_hard_53 {Z : ZT} {X : XT} {μ : Mu} {a1 : Int32} {a2 : Int32} {a3 : Int32} {a4 : Int32} {a5 : Int32} {a6 : Int32} {a7 : Int32} (E : Ent Z X mX12_hard 0 0)  (s1_ : vp_in ((nI 207) + a7) 988)
    (kt : ¬ (μ 456 (ix ((nI 207) + a7))) = a1 → JS Z X 123 [(0, .ref (Z.2.2.1 + 455)), (1, .int a1), (2, .int a2), (3, .int a3), (4, .int a4), (5, .int a5), (6, .int a6), (7, .int a7)] [] μ) (kf : (μ 456 (ix ((nI 207) + a7))) = a1 → JS Z X 68 [(0, .ref (Z.2.2.1 + 455)), (1, .int a1), (2, .int a2), (3, .int a3), (4, .int a4), (5, .int a5), (6, .int a6), (7, .int a7)] [] μ) :
    JS Z X 53 [(0, .ref (Z.2.2.1 + 455)), (1, .int a1), (2, .int a2), (3, .int a3), (4, .int a4), (5, .int a5), (6, .int a6), (7, .int a7)] [] μ := by
  refine J_aload_n E dX12_hard_53 rfl ?_
  refine S_get (ci := 12) (q := 0) (v := .ref (Z.2.2.1 + 456)) E dX12_hard_54 fs_X12_7 sh455 rfl ?_
  refine J_sipush (v := nI 207) E dX12_hard_57 rfl ?_
  refine J_iload E dX12_hard_60 rfl ?_
  refine J_iadd E dX12_hard_62 ?_
  refine S_iald E dX12_hard_63 sh456 s1_ ?_
  refine J_iload_n E dX12_hard_64 rfl ?_
  refine J_icmp_ne (tgt := 123) E dX12_hard_65 (by decide) (fun c => ?_) (fun c => ?_)
  · exact kt c
  · exact kf c
theorem bX12_hard_68 {Z : ZT} {X : XT} {μ : Mu} {a1 : Int32} {a2 : Int32} {a3 : Int32} {a4 : Int32} {a5 : Int32} {a6 : Int32} {a7 : Int32} (E : Ent Z X mX12_hard 0 0)  (s1_ : vp_in ((nI 227) + a7) 988)
    (kt : a5 ≤ (μ 456 (ix ((nI 227) + a7))) → JS Z X 103 [(0, .ref (Z.2.2.1 + 455)), (1, .int a1), (2, .int a2), (3, .int (a3 + nI 1)), (4, .int (a4 + (μ 456 (ix ((nI 227) + a7))))), (5, .int a5), (6, .int a6), (7, .int a7), (8, .int (μ 456 (ix ((nI 227) + a7))))] [] μ) (kf : ¬ (a5 ≤ (μ 456 (ix ((nI 227) + a7)))) → JS Z X 98 [(0, .ref (Z.2.2.1 + 455)), (1, .int a1), (2, .int a2), (3, .int (a3 + nI 1)), (4, .int (a4 + (μ 456 (ix ((nI 227) + a7))))), (6, .int a6), (7, .int a7), (8, .int (μ 456 (ix ((nI 227) + a7))))] [] μ) :
    JS Z X 68 [(0, .ref (Z.2.2.1 + 455)), (1, .int a1), (2, .int a2), (3, .int a3), (4, .int a4), (5, .int a5), (6, .int a6), (7, .int a7)] [] μ := by
  refine J_aload_n E dX12_hard_68 rfl ?_
  refine S_get (ci := 12) (q := 0) (v := .ref (Z.2.2.1 + 456)) E dX12_hard_69 fs_X12_7 sh455 rfl ?_
  refine J_sipush (v := nI 227) E dX12_hard_72 rfl ?_
  refine J_iload E dX12_hard_75 rfl ?_
  refine J_iadd E dX12_hard_77 ?_
  refine S_iald E dX12_hard_78 sh456 s1_ ?_
  refine J_istore (lv' := [(0, .ref (Z.2.2.1 + 455)), (1, .int a1), (2, .int a2), (3, .int a3), (4, .int a4), (5, .int a5), (6, .int a6), (7, .int a7), (8, .int (μ 456 (ix ((nI 227) + a7))))]) E dX12_hard_79 (Nat.le_of_ble_eq_true rfl) rfl ?_
  refine J_iinc (v := a3 + nI 1) (lv' := [(0, .ref (Z.2.2.1 + 455)), (1, .int a1), (2, .int a2), (3, .int (a3 + nI 1)), (4, .int a4), (5, .int a5), (6, .int a6), (7, .int a7), (8, .int (μ 456 (ix ((nI 227) + a7))))]) E dX12_hard_81 rfl rfl (Nat.le_of_ble_eq_true rfl) rfl ?_
  refine J_iload E dX12_hard_84 rfl ?_
  refine J_iload E dX12_hard_86 rfl ?_
  refine J_iadd E dX12_hard_88 ?_
  refine J_istore (lv' := [(0, .ref (Z.2.2.1 + 455)), (1, .int a1), (2, .int a2), (3, .int (a3 + nI 1)), (4, .int (a4 + (μ 456 (ix ((nI 227) + a7))))), (5, .int a5), (6, .int a6), (7, .int a7), (8, .int (μ 456 (ix ((nI 227) + a7))))]) E dX12_hard_89 (Nat.le_of_ble_eq_true rfl) rfl ?_
  refine J_iload E dX12_hard_91 rfl ?_
  refine J_iload E dX12_hard_93 rfl ?_
  refine J_icmp_ge (tgt := 103) E dX12_hard_95 (by decide) (fun c => ?_) (fun c => ?_)
  · exact kt c
  · refine J.weak [0, 1, 2, 3, 4, 6, 7, 8] rfl ?_
    exact kf c
theorem bX12_hard_98 {Z : ZT} {X : XT} {μ : Mu} {a1 : Int32} {a2 : Int32} {a3 : Int32} {a4 : Int32} {a6 : Int32} {a7 : Int32} {a8 : Int32} (E : Ent Z X mX12_hard 0 0)  
    (k : JS Z X 105 [(0, .ref (Z.2.2.1 + 455)), (1, .int a1), (2, .int a2), (3, .int a3), (4, .int a4), (6, .int a6), (7, .int a7), (8, .int a8)] [.int a8] μ) :
    JS Z X 98 [(0, .ref (Z.2.2.1 + 455)), (1, .int a1), (2, .int a2), (3, .int a3), (4, .int a4), (6, .int a6), (7, .int a7), (8, .int a8)] [] μ := by
  refine J_iload E dX12_hard_98 rfl ?_
  refine J_goto (tgt := 105) E dX12_hard_100 (by decide) ?_
  exact k
theorem bX12_hard_103 {Z : ZT} {X : XT} {μ : Mu} {a1 : Int32} {a2 : Int32} {a3 : Int32} {a4 : Int32} {a5 : Int32} {a6 : Int32} {a7 : Int32} {a8 : Int32} (E : Ent Z X mX12_hard 0 0)  
    (k : JS Z X 105 [(0, .ref (Z.2.2.1 + 455)), (1, .int a1), (2, .int a2), (3, .int a3), (4, .int a4), (6, .int a6), (7, .int a7), (8, .int a8)] [.int a5] μ) :
    JS Z X 103 [(0, .ref (Z.2.2.1 + 455)), (1, .int a1), (2, .int a2), (3, .int a3), (4, .int a4), (5, .int a5), (6, .int a6), (7, .int a7), (8, .int a8)] [] μ := by
  refine J_iload E dX12_hard_103 rfl ?_
  refine J.weak [0, 1, 2, 3, 4, 6, 7, 8] rfl ?_
  exact k
theorem bX12_hard_105 {Z : ZT} {X : XT} {μ : Mu} {a1 : Int32} {a2 : Int32} {a3 : Int32} {a4 : Int32} {a6 : Int32} {a7 : Int32} {a8 : Int32} {s0 : Int32} (E : Ent Z X mX12_hard 0 0)  
    (kt : a8 ≤ a6 → JS Z X 119 [(0, .ref (Z.2.2.1 + 455)), (1, .int a1), (2, .int a2), (3, .int a3), (4, .int a4), (5, .int s0), (6, .int a6), (7, .int a7)] [] μ) (kf : ¬ (a8 ≤ a6) → JS Z X 114 [(0, .ref (Z.2.2.1 + 455)), (1, .int a1), (2, .int a2), (3, .int a3), (4, .int a4), (5, .int s0), (7, .int a7), (8, .int a8)] [] μ) :
    JS Z X 105 [(0, .ref (Z.2.2.1 + 455)), (1, .int a1), (2, .int a2), (3, .int a3), (4, .int a4), (6, .int a6), (7, .int a7), (8, .int a8)] [.int s0] μ := by
  refine J_istore (lv' := [(0, .ref (Z.2.2.1 + 455)), (1, .int a1), (2, .int a2), (3, .int a3), (4, .int a4), (5, .int s0), (6, .int a6), (7, .int a7), (8, .int a8)]) E dX12_hard_105 (Nat.le_of_ble_eq_true rfl) rfl ?_
  refine J_iload E dX12_hard_107 rfl ?_
  refine J_iload E dX12_hard_109 rfl ?_
  refine J_icmp_le (tgt := 119) E dX12_hard_111 (by decide) (fun c => ?_) (fun c => ?_)
  · refine J.weak [0, 1, 2, 3, 4, 5, 6, 7] rfl ?_
    exact kt c
  · refine J.weak [0, 1, 2, 3, 4, 5, 7, 8] rfl ?_
    exact kf c
theorem bX12_hard_114 {Z : ZT} {X : XT} {μ : Mu} {a1 : Int32} {a2 : Int32} {a3 : Int32} {a4 : Int32} {a5 : Int32} {a7 : Int32} {a8 : Int32} (E : Ent Z X mX12_hard 0 0)  
    (k : JS Z X 121 [(0, .ref (Z.2.2.1 + 455)), (1, .int a1), (2, .int a2), (3, .int a3), (4, .int a4), (5, .int a5), (7, .int a7)] [.int a8] μ) :
    JS Z X 114 [(0, .ref (Z.2.2.1 + 455)), (1, .int a1), (2, .int a2), (3, .int a3), (4, .int a4), (5, .int a5), (7, .int a7), (8, .int a8)] [] μ := by
  refine J_iload E dX12_hard_114 rfl ?_
  refine J_goto (tgt := 121) E dX12_hard_116 (by decide) ?_
  refine J.weak [0, 1, 2, 3, 4, 5, 6] rfl ?_
  exact k
theorem bX12_hard_119 {Z : ZT} {X : XT} {μ : Mu} {a1 : Int32} {a2 : Int32} {a3 : Int32} {a4 : Int32} {a5 : Int32} {a6 : Int32} {a7 : Int32} (E : Ent Z X mX12_hard 0 0)  
    (k : JS Z X 121 [(0, .ref (Z.2.2.1 + 455)), (1, .int a1), (2, .int a2), (3, .int a3), (4, .int a4), (5, .int a5), (7, .int a7)] [.int a6] μ) :
    JS Z X 119 [(0, .ref (Z.2.2.1 + 455)), (1, .int a1), (2, .int a2), (3, .int a3), (4, .int a4), (5, .int a5), (6, .int a6), (7, .int a7)] [] μ := by
  refine J_iload E dX12_hard_119 rfl ?_
  refine J.weak [0, 1, 2, 3, 4, 5, 7] rfl ?_
  exact k
theorem bX12_hard_121 {Z : ZT} {X : XT} {μ : Mu} {a1 : Int32} {a2 : Int32} {a3 : Int32} {a4 : Int32} {a5 : Int32} {a7 : Int32} {s0 : Int32} (E : Ent Z X mX12_hard 0 0)  
    (k : JS Z X 123 [(0, .ref (Z.2.2.1 + 455)), (1, .int a1), (2, .int a2), (3, .int a3), (4, .int a4), (5, .int a5), (6, .int s0), (7, .int a7)] [] μ) :
    JS Z X 121 [(0, .ref (Z.2.2.1 + 455)), (1, .int a1), (2, .int a2), (3, .int a3), (4, .int a4), (5, .int a5), (7, .int a7)] [.int s0] μ := by
  refine J_istore (lv' := [(0, .ref (Z.2.2.1 + 455)), (1, .int a1), (2, .int a2), (3, .int a3), (4, .int a4), (5, .int a5), (6, .int s0), (7, .int a7)]) E dX12_hard_121 (Nat.le_of_ble_eq_true rfl) rfl ?_
  exact k
theorem bX12_hard_123 {Z : ZT} {X : XT} {μ : Mu} {a1 : Int32} {a2 : Int32} {a3 : Int32} {a4 : Int32} {a5 : Int32} {a6 : Int32} {a7 : Int32} (E : Ent Z X mX12_hard 0 0)  
    (k : JS Z X 40 [(0, .ref (Z.2.2.1 + 455)), (1, .int a1), (2, .int a2), (3, .int a3), (4, .int a4), (5, .int a5), (6, .int a6), (7, .int (a7 + nI 1))] [] μ) :
    JS Z X 123 [(0, .ref (Z.2.2.1 + 455)), (1, .int a1), (2, .int a2), (3, .int a3), (4, .int a4), (5, .int a5), (6, .int a6), (7, .int a7)] [] μ := by
  refine J_iinc (v := a7 + nI 1) (lv' := [(0, .ref (Z.2.2.1 + 455)), (1, .int a1), (2, .int a2), (3, .int a3), (4, .int a4), (5, .int a5), (6, .int a6), (7, .int (a7 + nI 1))]) E dX12_hard_123 rfl rfl (Nat.le_of_ble_eq_true rfl) rfl ?_
  refine J_goto (tgt := 40) E dX12_hard_126 (by decide) ?_
  exact k
theorem bX12_hard_129 {Z : ZT} {X : XT} {μ : Mu} {a2 : Int32} {a3 : Int32} {a4 : Int32} {a5 : Int32} {a6 : Int32} (E : Ent Z X mX12_hard 0 0)  
    (kt : ¬ a3 = 0 → JS Z X 140 [(0, .ref (Z.2.2.1 + 455)), (2, .int a2), (3, .int a3), (4, .int a4), (5, .int a5), (6, .int a6)] [] μ) (kf : a3 = 0 → JS Z X 133 [(0, .ref (Z.2.2.1 + 455))] [] μ) :
    JS Z X 129 [(0, .ref (Z.2.2.1 + 455)), (2, .int a2), (3, .int a3), (4, .int a4), (5, .int a5), (6, .int a6)] [] μ := by
  refine J_iload_n E dX12_hard_129 rfl ?_
  refine J_if_ne (tgt := 140) E dX12_hard_130 (by decide) (fun c => ?_) (fun c => ?_)
  · exact kt c
  · refine J.weak [0] rfl ?_
    exact kf c
theorem bX12_hard_133 {Z : ZT} {X : XT} {μ : Mu} (E : Ent Z X mX12_hard 0 0) {p : Int32 → Mu → Prop} 
    (c : CtrS Z mX12_refuse [.ref (Z.2.2.1 + 455), .int (-3)] μ (rI p)) (k : ∀ v μ1, p v μ1 → JS Z X 139 [] [.int v] μ1) :
    JS Z X 133 [(0, .ref (Z.2.2.1 + 455))] [] μ := by
  refine J_aload_n E dX12_hard_133 rfl ?_
  refine J_bipush (v := -3) E dX12_hard_134 rfl ?_
  refine S_callV (As := [.int (-3)]) (rest := []) E dX12_hard_136 c kX12_refuse ⟨Nat.le_of_ble_eq_true rfl, Nat.le_of_ble_eq_true rfl⟩ rfl (Nat.le_of_ble_eq_true rfl) sh455 rfl rfl w6_51 w6_53 wp_30 (fun r_ μ1 hp_ => ?_)
  obtain ⟨v, rfl, hp_⟩ := hp_
  refine J.weak [] rfl ?_
  exact k v μ1 hp_
theorem bX12_hard_139 {Z : ZT} {X : XT} {μ : Mu} {s0 : Int32} (E : Ent Z X mX12_hard 0 0) {P : Option Value → Mu → Prop} (hB : BodS Z X P) 
    (k : P (some (.int s0)) μ) :
    JS Z X 139 [] [.int s0] μ := by
  exact S_iret E hB dX12_hard_139 rfl k
theorem bX12_hard_140 {Z : ZT} {X : XT} {μ : Mu} {a2 : Int32} {a3 : Int32} {a4 : Int32} {a5 : Int32} {a6 : Int32} (E : Ent Z X mX12_hard 0 0)  
    (kt : ¬ a2 = (nI 2) → JS Z X 177 [(2, .int a2), (5, .int a5), (6, .int a6)] [] μ) (kf : a2 = (nI 2) → JS Z X 145 [(0, .ref (Z.2.2.1 + 455)), (2, .int a2), (3, .int a3), (4, .int a4), (5, .int a5), (6, .int a6)] [] μ) :
    JS Z X 140 [(0, .ref (Z.2.2.1 + 455)), (2, .int a2), (3, .int a3), (4, .int a4), (5, .int a5), (6, .int a6)] [] μ := by
  refine J_iload_n E dX12_hard_140 rfl ?_
  refine J_iconst (v := nI 2) E dX12_hard_141 rfl ?_
  refine J_icmp_ne (tgt := 177) E dX12_hard_142 (by decide) (fun c => ?_) (fun c => ?_)
  · refine J.weak [1, 4, 5] rfl ?_
    exact kt c
  · exact kf c
theorem bX12_hard_145 {Z : ZT} {X : XT} {μ : Mu} {a2 : Int32} {a3 : Int32} {a4 : Int32} {a5 : Int32} {a6 : Int32} (E : Ent Z X mX12_hard 0 0) {p : Int32 → Mu → Prop} 
    (c : CtrS Z mX12_common [.int a4, .int a3] μ (rI p)) (k : ∀ v μ1, p v μ1 → JS Z X 151 [(0, .ref (Z.2.2.1 + 455)), (2, .int a2), (3, .int a3), (4, .int a4), (5, .int a5), (6, .int a6)] [.int v] μ1) :
    JS Z X 145 [(0, .ref (Z.2.2.1 + 455)), (2, .int a2), (3, .int a3), (4, .int a4), (5, .int a5), (6, .int a6)] [] μ := by
  refine J_iload E dX12_hard_145 rfl ?_
  refine J_iload_n E dX12_hard_147 rfl ?_
  refine S_callS (As := [.int a4, .int a3]) (rest := []) E dX12_hard_148 c kX12_common ⟨Nat.le_of_ble_eq_true rfl, Nat.le_of_ble_eq_true rfl⟩ rfl (Nat.le_of_ble_eq_true rfl) w7_164 w7_165 (fun r_ μ1 hp_ => ?_)
  obtain ⟨v, rfl, hp_⟩ := hp_
  exact k v μ1 hp_
theorem bX12_hard_151 {Z : ZT} {X : XT} {μ : Mu} {a2 : Int32} {a3 : Int32} {a4 : Int32} {a5 : Int32} {a6 : Int32} {s0 : Int32} (E : Ent Z X mX12_hard 0 0) {p : Mu → Prop} (s1_ : ¬ s0 = 0)
    (c : CtrS Z mX12_set [.ref (Z.2.2.1 + 455), .int (nI 0), .int (a4 / s0)] μ (rV p)) (k : ∀ μ1, p μ1 → JS Z X 163 [(0, .ref (Z.2.2.1 + 455)), (2, .int a2), (3, .int a3), (5, .int a5), (6, .int a6), (7, .int s0)] [] μ1) :
    JS Z X 151 [(0, .ref (Z.2.2.1 + 455)), (2, .int a2), (3, .int a3), (4, .int a4), (5, .int a5), (6, .int a6)] [.int s0] μ := by
  refine J_istore (lv' := [(0, .ref (Z.2.2.1 + 455)), (2, .int a2), (3, .int a3), (4, .int a4), (5, .int a5), (6, .int a6), (7, .int s0)]) E dX12_hard_151 (Nat.le_of_ble_eq_true rfl) rfl ?_
  refine J_aload_n E dX12_hard_153 rfl ?_
  refine J_iconst (v := nI 0) E dX12_hard_154 rfl ?_
  refine J_iload E dX12_hard_155 rfl ?_
  refine J_iload E dX12_hard_157 rfl ?_
  refine J_idiv E dX12_hard_159 s1_ ?_
  refine S_callV (As := [.int (nI 0), .int (a4 / s0)]) (rest := []) E dX12_hard_160 c kX12_set ⟨Nat.le_of_ble_eq_true rfl, Nat.le_of_ble_eq_true rfl⟩ rfl (Nat.le_of_ble_eq_true rfl) sh455 rfl rfl w6_230 w6_232 wp_55 (fun r_ μ1 hp_ => ?_)
  obtain ⟨rfl, hp_⟩ := hp_
  refine J.weak [0, 1, 2, 4, 5, 6] rfl ?_
  exact k μ1 hp_
theorem bX12_hard_163 {Z : ZT} {X : XT} {μ : Mu} {a2 : Int32} {a3 : Int32} {a5 : Int32} {a6 : Int32} {a7 : Int32} (E : Ent Z X mX12_hard 0 0) {p : Mu → Prop} (s1_ : ¬ a7 = 0)
    (c : CtrS Z mX12_set [.ref (Z.2.2.1 + 455), .int (nI 1), .int (a3 / a7)] μ (rV p)) (k : ∀ μ1, p μ1 → JS Z X 172 [(0, .ref (Z.2.2.1 + 455)), (2, .int a2), (5, .int a5), (6, .int a6)] [] μ1) :
    JS Z X 163 [(0, .ref (Z.2.2.1 + 455)), (2, .int a2), (3, .int a3), (5, .int a5), (6, .int a6), (7, .int a7)] [] μ := by
  refine J_aload_n E dX12_hard_163 rfl ?_
  refine J_iconst (v := nI 1) E dX12_hard_164 rfl ?_
  refine J_iload_n E dX12_hard_165 rfl ?_
  refine J_iload E dX12_hard_166 rfl ?_
  refine J_idiv E dX12_hard_168 s1_ ?_
  refine S_callV (As := [.int (nI 1), .int (a3 / a7)]) (rest := []) E dX12_hard_169 c kX12_set ⟨Nat.le_of_ble_eq_true rfl, Nat.le_of_ble_eq_true rfl⟩ rfl (Nat.le_of_ble_eq_true rfl) sh455 rfl rfl w6_230 w6_232 wp_55 (fun r_ μ1 hp_ => ?_)
  obtain ⟨rfl, hp_⟩ := hp_
  refine J.weak [0, 1, 3, 4] rfl ?_
  exact k μ1 hp_
theorem bX12_hard_172 {Z : ZT} {X : XT} {μ : Mu} {a2 : Int32} {a5 : Int32} {a6 : Int32} (E : Ent Z X mX12_hard 0 0)  
    (k : JS Z X 177 [(2, .int a2), (5, .int a5), (6, .int a6)] [] (uR μ 455 (upd (μ 455) 19 (nI 1)))) :
    JS Z X 172 [(0, .ref (Z.2.2.1 + 455)), (2, .int a2), (5, .int a5), (6, .int a6)] [] μ := by
  refine J_aload_n E dX12_hard_172 rfl ?_
  refine J_iconst (v := nI 1) E dX12_hard_173 rfl ?_
  refine S_puti E dX12_hard_174 fs_X12_210 fp_X12_19 sh455 rfl ?_
  refine J.weak [1, 2, 3] rfl ?_
  exact k
theorem bX12_hard_177 {Z : ZT} {X : XT} {μ : Mu} {a2 : Int32} {a5 : Int32} {a6 : Int32} (E : Ent Z X mX12_hard 0 0)  
    (kt : ¬ a2 = 0 → JS Z X 186 [(2, .int a2), (6, .int a6)] [] μ) (kf : a2 = 0 → JS Z X 181 [(5, .int a5)] [] μ) :
    JS Z X 177 [(2, .int a2), (5, .int a5), (6, .int a6)] [] μ := by
  refine J_iload_n E dX12_hard_177 rfl ?_
  refine J_if_ne (tgt := 186) E dX12_hard_178 (by decide) (fun c => ?_) (fun c => ?_)
  · refine J.weak [0, 2] rfl ?_
    exact kt c
  · refine J.weak [1] rfl ?_
    exact kf c
theorem bX12_hard_181 {Z : ZT} {X : XT} {μ : Mu} {a5 : Int32} (E : Ent Z X mX12_hard 0 0)  
    (k : JS Z X 197 [] [.int a5] μ) :
    JS Z X 181 [(5, .int a5)] [] μ := by
  refine J_iload E dX12_hard_181 rfl ?_
  refine J_goto (tgt := 197) E dX12_hard_183 (by decide) ?_
  refine J.weak [] rfl ?_
  exact k
theorem bX12_hard_186 {Z : ZT} {X : XT} {μ : Mu} {a2 : Int32} {a6 : Int32} (E : Ent Z X mX12_hard 0 0)  
    (kt : ¬ a2 = (nI 1) → JS Z X 196 [] [] μ) (kf : a2 = (nI 1) → JS Z X 191 [(6, .int a6)] [] μ) :
    JS Z X 186 [(2, .int a2), (6, .int a6)] [] μ := by
  refine J_iload_n E dX12_hard_186 rfl ?_
  refine J_iconst (v := nI 1) E dX12_hard_187 rfl ?_
  refine J_icmp_ne (tgt := 196) E dX12_hard_188 (by decide) (fun c => ?_) (fun c => ?_)
  · refine J.weak [] rfl ?_
    exact kt c
  · refine J.weak [1] rfl ?_
    exact kf c
theorem bX12_hard_191 {Z : ZT} {X : XT} {μ : Mu} {a6 : Int32} (E : Ent Z X mX12_hard 0 0)  
    (k : JS Z X 197 [] [.int a6] μ) :
    JS Z X 191 [(6, .int a6)] [] μ := by
  refine J_iload E dX12_hard_191 rfl ?_
  refine J_goto (tgt := 197) E dX12_hard_193 (by decide) ?_
  refine J.weak [] rfl ?_
  exact k
theorem bX12_hard_196 {Z : ZT} {X : XT} {μ : Mu} (E : Ent Z X mX12_hard 0 0)  
    (k : JS Z X 197 [] [.int (nI 1)] μ) :
    JS Z X 196 [] [] μ := by
  refine J_iconst (v := nI 1) E dX12_hard_196 rfl ?_
  exact k
theorem bX12_hard_197 {Z : ZT} {X : XT} {μ : Mu} {s0 : Int32} (E : Ent Z X mX12_hard 0 0) {P : Option Value → Mu → Prop} (hB : BodS Z X P) 
    (k : P (some (.int s0)) μ) :
    JS Z X 197 [] [.int s0] μ := by
  exact S_iret E hB dX12_hard_197 rfl k
theorem dX12_sign_0 : decode cX12_sign 0 = .ok (.iload_n 1, 1) := by decide +kernel
theorem dX12_sign_1 : decode cX12_sign 1 = .ok (.iconst 0, 1) := by decide +kernel
theorem dX12_sign_2 : decode cX12_sign 2 = .ok (.iconst 2, 1) := by decide +kernel
theorem dX12_sign_3 : decode cX12_sign 3 = .ok (.invokestatic 67, 3) := by decide +kernel
theorem dX12_sign_6 : decode cX12_sign 6 = .ok (.ifCond .eq 31, 3) := by decide +kernel
theorem dX12_sign_9 : decode cX12_sign 9 = .ok (.iload_n 1, 1) := by decide +kernel
theorem dX12_sign_10 : decode cX12_sign 10 = .ok (.ifCond .ne 10, 3) := by decide +kernel
theorem dX12_sign_13 : decode cX12_sign 13 = .ok (.aload_n 0, 1) := by decide +kernel
theorem dX12_sign_14 : decode cX12_sign 14 = .ok (.getfield 210, 3) := by decide +kernel
theorem dX12_sign_17 : decode cX12_sign 17 = .ok (.goto 26, 3) := by decide +kernel
theorem dX12_sign_20 : decode cX12_sign 20 = .ok (.aload_n 0, 1) := by decide +kernel
theorem dX12_sign_21 : decode cX12_sign 21 = .ok (.iload_n 1, 1) := by decide +kernel
theorem dX12_sign_22 : decode cX12_sign 22 = .ok (.iconst 1, 1) := by decide +kernel
theorem dX12_sign_23 : decode cX12_sign 23 = .ok (.if_icmp .ne 7, 3) := by decide +kernel
theorem dX12_sign_26 : decode cX12_sign 26 = .ok (.iconst 0, 1) := by decide +kernel
theorem dX12_sign_27 : decode cX12_sign 27 = .ok (.goto 4, 3) := by decide +kernel
theorem dX12_sign_30 : decode cX12_sign 30 = .ok (.iconst 1, 1) := by decide +kernel
theorem dX12_sign_31 : decode cX12_sign 31 = .ok (.invokevirtual 295, 3) := by decide +kernel
theorem dX12_sign_34 : decode cX12_sign 34 = .ok (.goto 9, 3) := by decide +kernel
theorem dX12_sign_37 : decode cX12_sign 37 = .ok (.aload_n 0, 1) := by decide +kernel
theorem dX12_sign_38 : decode cX12_sign 38 = .ok (.bipush (-2), 2) := by decide +kernel
theorem dX12_sign_40 : decode cX12_sign 40 = .ok (.invokevirtual 63, 3) := by decide +kernel
theorem dX12_sign_43 : decode cX12_sign 43 = .ok (.ireturn, 1) := by decide +kernel
theorem bX12_sign_0 {Z : ZT} {X : XT} {μ : Mu} {a1 : Int32} (E : Ent Z X mX12_sign 0 0) {p : Int32 → Mu → Prop} 
    (c : CtrS Z mX12_in [.int a1, .int (nI 0), .int (nI 2)] μ (rI p)) (k : ∀ v μ1, p v μ1 → JS Z X 6 [(0, .ref (Z.2.2.1 + 455)), (1, .int a1)] [.int v] μ1) :
    JS Z X 0 [(0, .ref (Z.2.2.1 + 455)), (1, .int a1)] [] μ := by
  refine J_iload_n E dX12_sign_0 rfl ?_
  refine J_iconst (v := nI 0) E dX12_sign_1 rfl ?_
  refine J_iconst (v := nI 2) E dX12_sign_2 rfl ?_
  refine S_callS (As := [.int a1, .int (nI 0), .int (nI 2)]) (rest := []) E dX12_sign_3 c kX12_in ⟨Nat.le_of_ble_eq_true rfl, Nat.le_of_ble_eq_true rfl⟩ rfl (Nat.le_of_ble_eq_true rfl) w6_67 w6_68 (fun r_ μ1 hp_ => ?_)
  obtain ⟨v, rfl, hp_⟩ := hp_
  exact k v μ1 hp_
theorem bX12_sign_6 {Z : ZT} {X : XT} {μ : Mu} {a1 : Int32} {s0 : Int32} (E : Ent Z X mX12_sign 0 0)  
    (kt : s0 = 0 → JS Z X 37 [(0, .ref (Z.2.2.1 + 455))] [] μ) (kf : ¬ (s0 = 0) → JS Z X 9 [(0, .ref (Z.2.2.1 + 455)), (1, .int a1)] [] μ) :
    JS Z X 6 [(0, .ref (Z.2.2.1 + 455)), (1, .int a1)] [.int s0] μ := by
  refine J_if_eq (tgt := 37) E dX12_sign_6 (by decide) (fun c => ?_) (fun c => ?_)
  · refine J.weak [0] rfl ?_
    exact kt c
  · exact kf c
theorem bX12_sign_9 {Z : ZT} {X : XT} {μ : Mu} {a1 : Int32} (E : Ent Z X mX12_sign 0 0)  
    (kt : ¬ a1 = 0 → JS Z X 20 [(0, .ref (Z.2.2.1 + 455)), (1, .int a1)] [] μ) (kf : a1 = 0 → JS Z X 13 [(0, .ref (Z.2.2.1 + 455))] [] μ) :
    JS Z X 9 [(0, .ref (Z.2.2.1 + 455)), (1, .int a1)] [] μ := by
  refine J_iload_n E dX12_sign_9 rfl ?_
  refine J_if_ne (tgt := 20) E dX12_sign_10 (by decide) (fun c => ?_) (fun c => ?_)
  · exact kt c
  · refine J.weak [0] rfl ?_
    exact kf c
theorem bX12_sign_13 {Z : ZT} {X : XT} {μ : Mu} (E : Ent Z X mX12_sign 0 0)  
    (k : JS Z X 43 [] [.int (μ 455 19)] μ) :
    JS Z X 13 [(0, .ref (Z.2.2.1 + 455))] [] μ := by
  refine J_aload_n E dX12_sign_13 rfl ?_
  refine S_get (ci := 12) (q := 19) (v := .int (μ 455 19)) E dX12_sign_14 fs_X12_210 sh455 rfl ?_
  refine J_goto (tgt := 43) E dX12_sign_17 (by decide) ?_
  refine J.weak [] rfl ?_
  exact k
theorem bX12_sign_20 {Z : ZT} {X : XT} {μ : Mu} {a1 : Int32} (E : Ent Z X mX12_sign 0 0)  
    (kt : ¬ a1 = (nI 1) → JS Z X 30 [] [.ref (Z.2.2.1 + 455)] μ) (kf : a1 = (nI 1) → JS Z X 26 [] [.ref (Z.2.2.1 + 455)] μ) :
    JS Z X 20 [(0, .ref (Z.2.2.1 + 455)), (1, .int a1)] [] μ := by
  refine J_aload_n E dX12_sign_20 rfl ?_
  refine J_iload_n E dX12_sign_21 rfl ?_
  refine J_iconst (v := nI 1) E dX12_sign_22 rfl ?_
  refine J_icmp_ne (tgt := 30) E dX12_sign_23 (by decide) (fun c => ?_) (fun c => ?_)
  · refine J.weak [] rfl ?_
    exact kt c
  · refine J.weak [] rfl ?_
    exact kf c
theorem bX12_sign_26 {Z : ZT} {X : XT} {μ : Mu} (E : Ent Z X mX12_sign 0 0)  
    (k : JS Z X 31 [] [.int (nI 0), .ref (Z.2.2.1 + 455)] μ) :
    JS Z X 26 [] [.ref (Z.2.2.1 + 455)] μ := by
  refine J_iconst (v := nI 0) E dX12_sign_26 rfl ?_
  refine J_goto (tgt := 31) E dX12_sign_27 (by decide) ?_
  exact k
theorem bX12_sign_30 {Z : ZT} {X : XT} {μ : Mu} (E : Ent Z X mX12_sign 0 0)  
    (k : JS Z X 31 [] [.int (nI 1), .ref (Z.2.2.1 + 455)] μ) :
    JS Z X 30 [] [.ref (Z.2.2.1 + 455)] μ := by
  refine J_iconst (v := nI 1) E dX12_sign_30 rfl ?_
  exact k
theorem bX12_sign_31 {Z : ZT} {X : XT} {μ : Mu} {s1 : Int32} (E : Ent Z X mX12_sign 0 0) {p : Int32 → Mu → Prop} 
    (c : CtrS Z mX12_limbsOf [.ref (Z.2.2.1 + 455), .int s1] μ (rI p)) (k : ∀ v μ1, p v μ1 → JS Z X 34 [] [.int v] μ1) :
    JS Z X 31 [] [.int s1, .ref (Z.2.2.1 + 455)] μ := by
  refine S_callV (As := [.int s1]) (rest := []) E dX12_sign_31 c kX12_limbsOf ⟨Nat.le_of_ble_eq_true rfl, Nat.le_of_ble_eq_true rfl⟩ rfl (Nat.le_of_ble_eq_true rfl) sh455 rfl rfl w7_171 w7_173 wp_84 (fun r_ μ1 hp_ => ?_)
  obtain ⟨v, rfl, hp_⟩ := hp_
  exact k v μ1 hp_
theorem bX12_sign_34 {Z : ZT} {X : XT} {μ : Mu} {s0 : Int32} (E : Ent Z X mX12_sign 0 0)  
    (k : JS Z X 43 [] [.int s0] μ) :
    JS Z X 34 [] [.int s0] μ := by
  refine J_goto (tgt := 43) E dX12_sign_34 (by decide) ?_
  exact k
theorem bX12_sign_37 {Z : ZT} {X : XT} {μ : Mu} (E : Ent Z X mX12_sign 0 0) {p : Int32 → Mu → Prop} 
    (c : CtrS Z mX12_refuse [.ref (Z.2.2.1 + 455), .int (-2)] μ (rI p)) (k : ∀ v μ1, p v μ1 → JS Z X 43 [] [.int v] μ1) :
    JS Z X 37 [(0, .ref (Z.2.2.1 + 455))] [] μ := by
  refine J_aload_n E dX12_sign_37 rfl ?_
  refine J_bipush (v := -2) E dX12_sign_38 rfl ?_
  refine S_callV (As := [.int (-2)]) (rest := []) E dX12_sign_40 c kX12_refuse ⟨Nat.le_of_ble_eq_true rfl, Nat.le_of_ble_eq_true rfl⟩ rfl (Nat.le_of_ble_eq_true rfl) sh455 rfl rfl w6_51 w6_53 wp_30 (fun r_ μ1 hp_ => ?_)
  obtain ⟨v, rfl, hp_⟩ := hp_
  refine J.weak [] rfl ?_
  exact k v μ1 hp_
theorem bX12_sign_43 {Z : ZT} {X : XT} {μ : Mu} {s0 : Int32} (E : Ent Z X mX12_sign 0 0) {P : Option Value → Mu → Prop} (hB : BodS Z X P) 
    (k : P (some (.int s0)) μ) :
    JS Z X 43 [] [.int s0] μ := by
  exact S_iret E hB dX12_sign_43 rfl k
theorem dX12_limb_0 : decode cX12_limb 0 = .ok (.iload_n 1, 1) := by decide +kernel
theorem dX12_limb_1 : decode cX12_limb 1 = .ok (.iconst 0, 1) := by decide +kernel
theorem dX12_limb_2 : decode cX12_limb 2 = .ok (.iconst 1, 1) := by decide +kernel
theorem dX12_limb_3 : decode cX12_limb 3 = .ok (.invokestatic 67, 3) := by decide +kernel
theorem dX12_limb_6 : decode cX12_limb 6 = .ok (.ifCond .eq 7, 3) := by decide +kernel
theorem dX12_limb_9 : decode cX12_limb 9 = .ok (.iload_n 2, 1) := by decide +kernel
theorem dX12_limb_10 : decode cX12_limb 10 = .ok (.ifCond .ge 10, 3) := by decide +kernel
theorem dX12_limb_13 : decode cX12_limb 13 = .ok (.aload_n 0, 1) := by decide +kernel
theorem dX12_limb_14 : decode cX12_limb 14 = .ok (.bipush (-2), 2) := by decide +kernel
theorem dX12_limb_16 : decode cX12_limb 16 = .ok (.invokevirtual 63, 3) := by decide +kernel
theorem dX12_limb_19 : decode cX12_limb 19 = .ok (.ireturn, 1) := by decide +kernel
theorem dX12_limb_20 : decode cX12_limb 20 = .ok (.iload_n 2, 1) := by decide +kernel
theorem dX12_limb_21 : decode cX12_limb 21 = .ok (.aload_n 0, 1) := by decide +kernel
theorem dX12_limb_22 : decode cX12_limb 22 = .ok (.iload_n 1, 1) := by decide +kernel
theorem dX12_limb_23 : decode cX12_limb 23 = .ok (.invokevirtual 295, 3) := by decide +kernel
theorem dX12_limb_26 : decode cX12_limb 26 = .ok (.if_icmp .ge 17, 3) := by decide +kernel
theorem dX12_limb_29 : decode cX12_limb 29 = .ok (.aload_n 0, 1) := by decide +kernel
theorem dX12_limb_30 : decode cX12_limb 30 = .ok (.getfield 39, 3) := by decide +kernel
theorem dX12_limb_33 : decode cX12_limb 33 = .ok (.bipush 27, 2) := by decide +kernel
theorem dX12_limb_35 : decode cX12_limb 35 = .ok (.iload_n 1, 1) := by decide +kernel
theorem dX12_limb_36 : decode cX12_limb 36 = .ok (.imul, 1) := by decide +kernel
theorem dX12_limb_37 : decode cX12_limb 37 = .ok (.iload_n 2, 1) := by decide +kernel
theorem dX12_limb_38 : decode cX12_limb 38 = .ok (.iadd, 1) := by decide +kernel
theorem dX12_limb_39 : decode cX12_limb 39 = .ok (.iaload, 1) := by decide +kernel
theorem dX12_limb_40 : decode cX12_limb 40 = .ok (.goto 4, 3) := by decide +kernel
theorem dX12_limb_43 : decode cX12_limb 43 = .ok (.iconst (-1), 1) := by decide +kernel
theorem dX12_limb_44 : decode cX12_limb 44 = .ok (.ireturn, 1) := by decide +kernel
theorem bX12_limb_0 {Z : ZT} {X : XT} {μ : Mu} {a1 : Int32} {a2 : Int32} (E : Ent Z X mX12_limb 0 0) {p : Int32 → Mu → Prop} 
    (c : CtrS Z mX12_in [.int a1, .int (nI 0), .int (nI 1)] μ (rI p)) (k : ∀ v μ1, p v μ1 → JS Z X 6 [(0, .ref (Z.2.2.1 + 455)), (1, .int a1), (2, .int a2)] [.int v] μ1) :
    JS Z X 0 [(0, .ref (Z.2.2.1 + 455)), (1, .int a1), (2, .int a2)] [] μ := by
  refine J_iload_n E dX12_limb_0 rfl ?_
  refine J_iconst (v := nI 0) E dX12_limb_1 rfl ?_
  refine J_iconst (v := nI 1) E dX12_limb_2 rfl ?_
  refine S_callS (As := [.int a1, .int (nI 0), .int (nI 1)]) (rest := []) E dX12_limb_3 c kX12_in ⟨Nat.le_of_ble_eq_true rfl, Nat.le_of_ble_eq_true rfl⟩ rfl (Nat.le_of_ble_eq_true rfl) w6_67 w6_68 (fun r_ μ1 hp_ => ?_)
  obtain ⟨v, rfl, hp_⟩ := hp_
  exact k v μ1 hp_
theorem bX12_limb_6 {Z : ZT} {X : XT} {μ : Mu} {a1 : Int32} {a2 : Int32} {s0 : Int32} (E : Ent Z X mX12_limb 0 0)  
    (kt : s0 = 0 → JS Z X 13 [(0, .ref (Z.2.2.1 + 455))] [] μ) (kf : ¬ (s0 = 0) → JS Z X 9 [(0, .ref (Z.2.2.1 + 455)), (1, .int a1), (2, .int a2)] [] μ) :
    JS Z X 6 [(0, .ref (Z.2.2.1 + 455)), (1, .int a1), (2, .int a2)] [.int s0] μ := by
  refine J_if_eq (tgt := 13) E dX12_limb_6 (by decide) (fun c => ?_) (fun c => ?_)
  · refine J.weak [0] rfl ?_
    exact kt c
  · exact kf c
theorem bX12_limb_9 {Z : ZT} {X : XT} {μ : Mu} {a1 : Int32} {a2 : Int32} (E : Ent Z X mX12_limb 0 0)  
    (kt : 0 ≤ a2 → JS Z X 20 [(0, .ref (Z.2.2.1 + 455)), (1, .int a1), (2, .int a2)] [] μ) (kf : ¬ (0 ≤ a2) → JS Z X 13 [(0, .ref (Z.2.2.1 + 455))] [] μ) :
    JS Z X 9 [(0, .ref (Z.2.2.1 + 455)), (1, .int a1), (2, .int a2)] [] μ := by
  refine J_iload_n E dX12_limb_9 rfl ?_
  refine J_if_ge (tgt := 20) E dX12_limb_10 (by decide) (fun c => ?_) (fun c => ?_)
  · exact kt c
  · refine J.weak [0] rfl ?_
    exact kf c
theorem bX12_limb_13 {Z : ZT} {X : XT} {μ : Mu} (E : Ent Z X mX12_limb 0 0) {p : Int32 → Mu → Prop} 
    (c : CtrS Z mX12_refuse [.ref (Z.2.2.1 + 455), .int (-2)] μ (rI p)) (k : ∀ v μ1, p v μ1 → JS Z X 19 [] [.int v] μ1) :
    JS Z X 13 [(0, .ref (Z.2.2.1 + 455))] [] μ := by
  refine J_aload_n E dX12_limb_13 rfl ?_
  refine J_bipush (v := -2) E dX12_limb_14 rfl ?_
  refine S_callV (As := [.int (-2)]) (rest := []) E dX12_limb_16 c kX12_refuse ⟨Nat.le_of_ble_eq_true rfl, Nat.le_of_ble_eq_true rfl⟩ rfl (Nat.le_of_ble_eq_true rfl) sh455 rfl rfl w6_51 w6_53 wp_30 (fun r_ μ1 hp_ => ?_)
  obtain ⟨v, rfl, hp_⟩ := hp_
  refine J.weak [] rfl ?_
  exact k v μ1 hp_
theorem bX12_limb_19 {Z : ZT} {X : XT} {μ : Mu} {s0 : Int32} (E : Ent Z X mX12_limb 0 0) {P : Option Value → Mu → Prop} (hB : BodS Z X P) 
    (k : P (some (.int s0)) μ) :
    JS Z X 19 [] [.int s0] μ := by
  exact S_iret E hB dX12_limb_19 rfl k
theorem bX12_limb_20 {Z : ZT} {X : XT} {μ : Mu} {a1 : Int32} {a2 : Int32} (E : Ent Z X mX12_limb 0 0) {p : Int32 → Mu → Prop} 
    (c : CtrS Z mX12_limbsOf [.ref (Z.2.2.1 + 455), .int a1] μ (rI p)) (k : ∀ v μ1, p v μ1 → JS Z X 26 [(0, .ref (Z.2.2.1 + 455)), (1, .int a1), (2, .int a2)] [.int v, .int a2] μ1) :
    JS Z X 20 [(0, .ref (Z.2.2.1 + 455)), (1, .int a1), (2, .int a2)] [] μ := by
  refine J_iload_n E dX12_limb_20 rfl ?_
  refine J_aload_n E dX12_limb_21 rfl ?_
  refine J_iload_n E dX12_limb_22 rfl ?_
  refine S_callV (As := [.int a1]) (rest := [.int a2]) E dX12_limb_23 c kX12_limbsOf ⟨Nat.le_of_ble_eq_true rfl, Nat.le_of_ble_eq_true rfl⟩ rfl (Nat.le_of_ble_eq_true rfl) sh455 rfl rfl w7_171 w7_173 wp_84 (fun r_ μ1 hp_ => ?_)
  obtain ⟨v, rfl, hp_⟩ := hp_
  exact k v μ1 hp_
theorem bX12_limb_26 {Z : ZT} {X : XT} {μ : Mu} {a1 : Int32} {a2 : Int32} {s0 : Int32} {s1 : Int32} (E : Ent Z X mX12_limb 0 0)  
    (kt : s1 ≤ s0 → JS Z X 43 [] [] μ) (kf : ¬ (s1 ≤ s0) → JS Z X 29 [(0, .ref (Z.2.2.1 + 455)), (1, .int a1), (2, .int a2)] [] μ) :
    JS Z X 26 [(0, .ref (Z.2.2.1 + 455)), (1, .int a1), (2, .int a2)] [.int s1, .int s0] μ := by
  refine J_icmp_ge (tgt := 43) E dX12_limb_26 (by decide) (fun c => ?_) (fun c => ?_)
  · refine J.weak [] rfl ?_
    exact kt c
  · exact kf c
theorem bX12_limb_29 {Z : ZT} {X : XT} {μ : Mu} {a1 : Int32} {a2 : Int32} (E : Ent Z X mX12_limb 0 0)  (s1_ : vp_in (((nI 27) * a1) + a2) 7587)
    (k : JS Z X 44 [] [.int (μ 465 (ix (((nI 27) * a1) + a2)))] μ) :
    JS Z X 29 [(0, .ref (Z.2.2.1 + 455)), (1, .int a1), (2, .int a2)] [] μ := by
  refine J_aload_n E dX12_limb_29 rfl ?_
  refine S_get (ci := 12) (q := 18) (v := .ref (Z.2.2.1 + 465)) E dX12_limb_30 fs_X12_39 sh455 rfl ?_
  refine J_bipush (v := nI 27) E dX12_limb_33 rfl ?_
  refine J_iload_n E dX12_limb_35 rfl ?_
  refine J_imul E dX12_limb_36 ?_
  refine J_iload_n E dX12_limb_37 rfl ?_
  refine J_iadd E dX12_limb_38 ?_
  refine S_iald E dX12_limb_39 sh465 s1_ ?_
  refine J_goto (tgt := 44) E dX12_limb_40 (by decide) ?_
  refine J.weak [] rfl ?_
  exact k
theorem bX12_limb_43 {Z : ZT} {X : XT} {μ : Mu} (E : Ent Z X mX12_limb 0 0)  
    (k : JS Z X 44 [] [.int (-1)] μ) :
    JS Z X 43 [] [] μ := by
  refine J_iconst (v := -1) E dX12_limb_43 rfl ?_
  exact k
theorem bX12_limb_44 {Z : ZT} {X : XT} {μ : Mu} {s0 : Int32} (E : Ent Z X mX12_limb 0 0) {P : Option Value → Mu → Prop} (hB : BodS Z X P) 
    (k : P (some (.int s0)) μ) :
    JS Z X 44 [] [.int s0] μ := by
  exact S_iret E hB dX12_limb_44 rfl k
theorem dX12_copyHouse_0 : decode cX12_copyHouse 0 = .ok (.iconst 0, 1) := by decide +kernel
theorem dX12_copyHouse_1 : decode cX12_copyHouse 1 = .ok (.istore_n 3, 1) := by decide +kernel
theorem dX12_copyHouse_2 : decode cX12_copyHouse 2 = .ok (.iload_n 3, 1) := by decide +kernel
theorem dX12_copyHouse_3 : decode cX12_copyHouse 3 = .ok (.sipush 247, 3) := by decide +kernel
theorem dX12_copyHouse_6 : decode cX12_copyHouse 6 = .ok (.if_icmp .ge 33, 3) := by decide +kernel
theorem dX12_copyHouse_9 : decode cX12_copyHouse 9 = .ok (.aload_n 0, 1) := by decide +kernel
theorem dX12_copyHouse_10 : decode cX12_copyHouse 10 = .ok (.getfield 7, 3) := by decide +kernel
theorem dX12_copyHouse_13 : decode cX12_copyHouse 13 = .ok (.sipush 247, 3) := by decide +kernel
theorem dX12_copyHouse_16 : decode cX12_copyHouse 16 = .ok (.iload_n 2, 1) := by decide +kernel
theorem dX12_copyHouse_17 : decode cX12_copyHouse 17 = .ok (.imul, 1) := by decide +kernel
theorem dX12_copyHouse_18 : decode cX12_copyHouse 18 = .ok (.iload_n 3, 1) := by decide +kernel
theorem dX12_copyHouse_19 : decode cX12_copyHouse 19 = .ok (.iadd, 1) := by decide +kernel
theorem dX12_copyHouse_20 : decode cX12_copyHouse 20 = .ok (.aload_n 0, 1) := by decide +kernel
theorem dX12_copyHouse_21 : decode cX12_copyHouse 21 = .ok (.getfield 7, 3) := by decide +kernel
theorem dX12_copyHouse_24 : decode cX12_copyHouse 24 = .ok (.sipush 247, 3) := by decide +kernel
theorem dX12_copyHouse_27 : decode cX12_copyHouse 27 = .ok (.iload_n 1, 1) := by decide +kernel
theorem dX12_copyHouse_28 : decode cX12_copyHouse 28 = .ok (.imul, 1) := by decide +kernel
theorem dX12_copyHouse_29 : decode cX12_copyHouse 29 = .ok (.iload_n 3, 1) := by decide +kernel
theorem dX12_copyHouse_30 : decode cX12_copyHouse 30 = .ok (.iadd, 1) := by decide +kernel
theorem dX12_copyHouse_31 : decode cX12_copyHouse 31 = .ok (.iaload, 1) := by decide +kernel
theorem dX12_copyHouse_32 : decode cX12_copyHouse 32 = .ok (.iastore, 1) := by decide +kernel
theorem dX12_copyHouse_33 : decode cX12_copyHouse 33 = .ok (.iinc 3 1, 3) := by decide +kernel
theorem dX12_copyHouse_36 : decode cX12_copyHouse 36 = .ok (.goto (-34), 3) := by decide +kernel
theorem dX12_copyHouse_39 : decode cX12_copyHouse 39 = .ok (.return_, 1) := by decide +kernel
theorem bX12_copyHouse_0 {Z : ZT} {X : XT} {μ : Mu} {a1 : Int32} {a2 : Int32} (E : Ent Z X mX12_copyHouse 0 0)  
    (k : JS Z X 2 [(0, .ref (Z.2.2.1 + 455)), (1, .int a1), (2, .int a2), (3, .int (nI 0))] [] μ) :
    JS Z X 0 [(0, .ref (Z.2.2.1 + 455)), (1, .int a1), (2, .int a2)] [] μ := by
  refine J_iconst (v := nI 0) E dX12_copyHouse_0 rfl ?_
  refine J_istore_n (lv' := [(0, .ref (Z.2.2.1 + 455)), (1, .int a1), (2, .int a2), (3, .int (nI 0))]) E dX12_copyHouse_1 (Nat.le_of_ble_eq_true rfl) rfl ?_
  exact k
theorem bX12_copyHouse_2 {Z : ZT} {X : XT} {μ : Mu} {a1 : Int32} {a2 : Int32} {a3 : Int32} (E : Ent Z X mX12_copyHouse 0 0)  
    (kt : (nI 247) ≤ a3 → JS Z X 39 [] [] μ) (kf : ¬ ((nI 247) ≤ a3) → JS Z X 9 [(0, .ref (Z.2.2.1 + 455)), (1, .int a1), (2, .int a2), (3, .int a3)] [] μ) :
    JS Z X 2 [(0, .ref (Z.2.2.1 + 455)), (1, .int a1), (2, .int a2), (3, .int a3)] [] μ := by
  refine J_iload_n E dX12_copyHouse_2 rfl ?_
  refine J_sipush (v := nI 247) E dX12_copyHouse_3 rfl ?_
  refine J_icmp_ge (tgt := 39) E dX12_copyHouse_6 (by decide) (fun c => ?_) (fun c => ?_)
  · refine J.weak [] rfl ?_
    exact kt c
  · exact kf c
theorem bX12_copyHouse_9 {Z : ZT} {X : XT} {μ : Mu} {a1 : Int32} {a2 : Int32} {a3 : Int32} (E : Ent Z X mX12_copyHouse 0 0)  (s1_ : vp_in (((nI 247) * a1) + a3) 988) (s2_ : vp_in (((nI 247) * a2) + a3) 988)
    (k : JS Z X 33 [(0, .ref (Z.2.2.1 + 455)), (1, .int a1), (2, .int a2), (3, .int a3)] [] (uR μ 456 (upd (μ 456) (ix (((nI 247) * a2) + a3)) (μ 456 (ix (((nI 247) * a1) + a3)))))) :
    JS Z X 9 [(0, .ref (Z.2.2.1 + 455)), (1, .int a1), (2, .int a2), (3, .int a3)] [] μ := by
  refine J_aload_n E dX12_copyHouse_9 rfl ?_
  refine S_get (ci := 12) (q := 0) (v := .ref (Z.2.2.1 + 456)) E dX12_copyHouse_10 fs_X12_7 sh455 rfl ?_
  refine J_sipush (v := nI 247) E dX12_copyHouse_13 rfl ?_
  refine J_iload_n E dX12_copyHouse_16 rfl ?_
  refine J_imul E dX12_copyHouse_17 ?_
  refine J_iload_n E dX12_copyHouse_18 rfl ?_
  refine J_iadd E dX12_copyHouse_19 ?_
  refine J_aload_n E dX12_copyHouse_20 rfl ?_
  refine S_get (ci := 12) (q := 0) (v := .ref (Z.2.2.1 + 456)) E dX12_copyHouse_21 fs_X12_7 sh455 rfl ?_
  refine J_sipush (v := nI 247) E dX12_copyHouse_24 rfl ?_
  refine J_iload_n E dX12_copyHouse_27 rfl ?_
  refine J_imul E dX12_copyHouse_28 ?_
  refine J_iload_n E dX12_copyHouse_29 rfl ?_
  refine J_iadd E dX12_copyHouse_30 ?_
  refine S_iald E dX12_copyHouse_31 sh456 s1_ ?_
  refine S_iast E dX12_copyHouse_32 sh456 s2_ ?_
  exact k
theorem bX12_copyHouse_33 {Z : ZT} {X : XT} {μ : Mu} {a1 : Int32} {a2 : Int32} {a3 : Int32} (E : Ent Z X mX12_copyHouse 0 0)  
    (k : JS Z X 2 [(0, .ref (Z.2.2.1 + 455)), (1, .int a1), (2, .int a2), (3, .int (a3 + nI 1))] [] μ) :
    JS Z X 33 [(0, .ref (Z.2.2.1 + 455)), (1, .int a1), (2, .int a2), (3, .int a3)] [] μ := by
  refine J_iinc (v := a3 + nI 1) (lv' := [(0, .ref (Z.2.2.1 + 455)), (1, .int a1), (2, .int a2), (3, .int (a3 + nI 1))]) E dX12_copyHouse_33 rfl rfl (Nat.le_of_ble_eq_true rfl) rfl ?_
  refine J_goto (tgt := 2) E dX12_copyHouse_36 (by decide) ?_
  exact k
theorem bX12_copyHouse_39 {Z : ZT} {X : XT} {μ : Mu} (E : Ent Z X mX12_copyHouse 0 0) {P : Option Value → Mu → Prop} (hB : BodS Z X P) 
    (k : P none μ) :
    JS Z X 39 [] [] μ := by
  exact S_vret E hB dX12_copyHouse_39 rfl k
theorem dX12_image_0 : decode cX12_image 0 = .ok (.iload_n 1, 1) := by decide +kernel
theorem dX12_image_1 : decode cX12_image 1 = .ok (.iconst 0, 1) := by decide +kernel
theorem dX12_image_2 : decode cX12_image 2 = .ok (.iconst 1, 1) := by decide +kernel
theorem dX12_image_3 : decode cX12_image 3 = .ok (.invokestatic 67, 3) := by decide +kernel
theorem dX12_image_6 : decode cX12_image 6 = .ok (.ifCond .ne 10, 3) := by decide +kernel
theorem dX12_image_9 : decode cX12_image 9 = .ok (.aload_n 0, 1) := by decide +kernel
theorem dX12_image_10 : decode cX12_image 10 = .ok (.bipush (-2), 2) := by decide +kernel
theorem dX12_image_12 : decode cX12_image 12 = .ok (.invokevirtual 63, 3) := by decide +kernel
theorem dX12_image_15 : decode cX12_image 15 = .ok (.ireturn, 1) := by decide +kernel
theorem dX12_image_16 : decode cX12_image 16 = .ok (.aload_n 0, 1) := by decide +kernel
theorem dX12_image_17 : decode cX12_image 17 = .ok (.iconst 0, 1) := by decide +kernel
theorem dX12_image_18 : decode cX12_image 18 = .ok (.iconst 1, 1) := by decide +kernel
theorem dX12_image_19 : decode cX12_image 19 = .ok (.iload_n 1, 1) := by decide +kernel
theorem dX12_image_20 : decode cX12_image 20 = .ok (.iadd, 1) := by decide +kernel
theorem dX12_image_21 : decode cX12_image 21 = .ok (.invokevirtual 298, 3) := by decide +kernel
theorem dX12_image_24 : decode cX12_image 24 = .ok (.aload_n 0, 1) := by decide +kernel
theorem dX12_image_25 : decode cX12_image 25 = .ok (.getfield 13, 3) := by decide +kernel
theorem dX12_image_28 : decode cX12_image 28 = .ok (.iload_n 1, 1) := by decide +kernel
theorem dX12_image_29 : decode cX12_image 29 = .ok (.iconst 1, 1) := by decide +kernel
theorem dX12_image_30 : decode cX12_image 30 = .ok (.bastore, 1) := by decide +kernel
theorem dX12_image_31 : decode cX12_image 31 = .ok (.iconst 1, 1) := by decide +kernel
theorem dX12_image_32 : decode cX12_image 32 = .ok (.ireturn, 1) := by decide +kernel
theorem bX12_image_0 {Z : ZT} {X : XT} {μ : Mu} {a1 : Int32} (E : Ent Z X mX12_image 0 0) {p : Int32 → Mu → Prop} 
    (c : CtrS Z mX12_in [.int a1, .int (nI 0), .int (nI 1)] μ (rI p)) (k : ∀ v μ1, p v μ1 → JS Z X 6 [(0, .ref (Z.2.2.1 + 455)), (1, .int a1)] [.int v] μ1) :
    JS Z X 0 [(0, .ref (Z.2.2.1 + 455)), (1, .int a1)] [] μ := by
  refine J_iload_n E dX12_image_0 rfl ?_
  refine J_iconst (v := nI 0) E dX12_image_1 rfl ?_
  refine J_iconst (v := nI 1) E dX12_image_2 rfl ?_
  refine S_callS (As := [.int a1, .int (nI 0), .int (nI 1)]) (rest := []) E dX12_image_3 c kX12_in ⟨Nat.le_of_ble_eq_true rfl, Nat.le_of_ble_eq_true rfl⟩ rfl (Nat.le_of_ble_eq_true rfl) w6_67 w6_68 (fun r_ μ1 hp_ => ?_)
  obtain ⟨v, rfl, hp_⟩ := hp_
  exact k v μ1 hp_
theorem bX12_image_6 {Z : ZT} {X : XT} {μ : Mu} {a1 : Int32} {s0 : Int32} (E : Ent Z X mX12_image 0 0)  
    (kt : ¬ s0 = 0 → JS Z X 16 [(0, .ref (Z.2.2.1 + 455)), (1, .int a1)] [] μ) (kf : s0 = 0 → JS Z X 9 [(0, .ref (Z.2.2.1 + 455))] [] μ) :
    JS Z X 6 [(0, .ref (Z.2.2.1 + 455)), (1, .int a1)] [.int s0] μ := by
  refine J_if_ne (tgt := 16) E dX12_image_6 (by decide) (fun c => ?_) (fun c => ?_)
  · exact kt c
  · refine J.weak [0] rfl ?_
    exact kf c
theorem bX12_image_9 {Z : ZT} {X : XT} {μ : Mu} (E : Ent Z X mX12_image 0 0) {p : Int32 → Mu → Prop} 
    (c : CtrS Z mX12_refuse [.ref (Z.2.2.1 + 455), .int (-2)] μ (rI p)) (k : ∀ v μ1, p v μ1 → JS Z X 15 [] [.int v] μ1) :
    JS Z X 9 [(0, .ref (Z.2.2.1 + 455))] [] μ := by
  refine J_aload_n E dX12_image_9 rfl ?_
  refine J_bipush (v := -2) E dX12_image_10 rfl ?_
  refine S_callV (As := [.int (-2)]) (rest := []) E dX12_image_12 c kX12_refuse ⟨Nat.le_of_ble_eq_true rfl, Nat.le_of_ble_eq_true rfl⟩ rfl (Nat.le_of_ble_eq_true rfl) sh455 rfl rfl w6_51 w6_53 wp_30 (fun r_ μ1 hp_ => ?_)
  obtain ⟨v, rfl, hp_⟩ := hp_
  refine J.weak [] rfl ?_
  exact k v μ1 hp_
theorem bX12_image_15 {Z : ZT} {X : XT} {μ : Mu} {s0 : Int32} (E : Ent Z X mX12_image 0 0) {P : Option Value → Mu → Prop} (hB : BodS Z X P) 
    (k : P (some (.int s0)) μ) :
    JS Z X 15 [] [.int s0] μ := by
  exact S_iret E hB dX12_image_15 rfl k
theorem bX12_image_16 {Z : ZT} {X : XT} {μ : Mu} {a1 : Int32} (E : Ent Z X mX12_image 0 0) {p : Mu → Prop} 
    (c : CtrS Z mX12_copyHouse [.ref (Z.2.2.1 + 455), .int (nI 0), .int ((nI 1) + a1)] μ (rV p)) (k : ∀ μ1, p μ1 → JS Z X 24 [(0, .ref (Z.2.2.1 + 455)), (1, .int a1)] [] μ1) :
    JS Z X 16 [(0, .ref (Z.2.2.1 + 455)), (1, .int a1)] [] μ := by
  refine J_aload_n E dX12_image_16 rfl ?_
  refine J_iconst (v := nI 0) E dX12_image_17 rfl ?_
  refine J_iconst (v := nI 1) E dX12_image_18 rfl ?_
  refine J_iload_n E dX12_image_19 rfl ?_
  refine J_iadd E dX12_image_20 ?_
  refine S_callV (As := [.int (nI 0), .int ((nI 1) + a1)]) (rest := []) E dX12_image_21 c kX12_copyHouse ⟨Nat.le_of_ble_eq_true rfl, Nat.le_of_ble_eq_true rfl⟩ rfl (Nat.le_of_ble_eq_true rfl) sh455 rfl rfl w7_183 w7_185 wp_85 (fun r_ μ1 hp_ => ?_)
  obtain ⟨rfl, hp_⟩ := hp_
  exact k μ1 hp_
theorem bX12_image_24 {Z : ZT} {X : XT} {μ : Mu} {a1 : Int32} (E : Ent Z X mX12_image 0 0)  (s1_ : vp_in a1 2)
    (k : JS Z X 31 [] [] (uR μ 457 (upd (μ 457) (ix a1) (vp_nar .boolean (nI 1))))) :
    JS Z X 24 [(0, .ref (Z.2.2.1 + 455)), (1, .int a1)] [] μ := by
  refine J_aload_n E dX12_image_24 rfl ?_
  refine S_get (ci := 12) (q := 1) (v := .ref (Z.2.2.1 + 457)) E dX12_image_25 fs_X12_13 sh455 rfl ?_
  refine J_iload_n E dX12_image_28 rfl ?_
  refine J_iconst (v := nI 1) E dX12_image_29 rfl ?_
  refine S_zast E dX12_image_30 sh457 s1_ ?_
  refine J.weak [] rfl ?_
  exact k
theorem bX12_image_31 {Z : ZT} {X : XT} {μ : Mu} (E : Ent Z X mX12_image 0 0) {P : Option Value → Mu → Prop} (hB : BodS Z X P) 
    (k : P (some (.int (nI 1))) μ) :
    JS Z X 31 [] [] μ := by
  refine J_iconst (v := nI 1) E dX12_image_31 rfl ?_
  exact S_iret E hB dX12_image_32 rfl k
theorem dX12_from_0 : decode cX12_from 0 = .ok (.iload_n 1, 1) := by decide +kernel
theorem dX12_from_1 : decode cX12_from 1 = .ok (.iconst 0, 1) := by decide +kernel
theorem dX12_from_2 : decode cX12_from 2 = .ok (.iconst 1, 1) := by decide +kernel
theorem dX12_from_3 : decode cX12_from 3 = .ok (.invokestatic 67, 3) := by decide +kernel
theorem dX12_from_6 : decode cX12_from 6 = .ok (.ifCond .eq 12, 3) := by decide +kernel
theorem dX12_from_9 : decode cX12_from 9 = .ok (.aload_n 0, 1) := by decide +kernel
theorem dX12_from_10 : decode cX12_from 10 = .ok (.getfield 13, 3) := by decide +kernel
theorem dX12_from_13 : decode cX12_from 13 = .ok (.iload_n 1, 1) := by decide +kernel
theorem dX12_from_14 : decode cX12_from 14 = .ok (.baload, 1) := by decide +kernel
theorem dX12_from_15 : decode cX12_from 15 = .ok (.ifCond .ne 22, 3) := by decide +kernel
theorem dX12_from_18 : decode cX12_from 18 = .ok (.aload_n 0, 1) := by decide +kernel
theorem dX12_from_19 : decode cX12_from 19 = .ok (.iload_n 1, 1) := by decide +kernel
theorem dX12_from_20 : decode cX12_from 20 = .ok (.iconst 0, 1) := by decide +kernel
theorem dX12_from_21 : decode cX12_from 21 = .ok (.iconst 1, 1) := by decide +kernel
theorem dX12_from_22 : decode cX12_from 22 = .ok (.invokestatic 67, 3) := by decide +kernel
theorem dX12_from_25 : decode cX12_from 25 = .ok (.ifCond .ne 7, 3) := by decide +kernel
theorem dX12_from_28 : decode cX12_from 28 = .ok (.iconst 1, 1) := by decide +kernel
theorem dX12_from_29 : decode cX12_from 29 = .ok (.goto 4, 3) := by decide +kernel
theorem dX12_from_32 : decode cX12_from 32 = .ok (.iconst 0, 1) := by decide +kernel
theorem dX12_from_33 : decode cX12_from 33 = .ok (.invokevirtual 286, 3) := by decide +kernel
theorem dX12_from_36 : decode cX12_from 36 = .ok (.ireturn, 1) := by decide +kernel
theorem dX12_from_37 : decode cX12_from 37 = .ok (.aload_n 0, 1) := by decide +kernel
theorem dX12_from_38 : decode cX12_from 38 = .ok (.iconst 1, 1) := by decide +kernel
theorem dX12_from_39 : decode cX12_from 39 = .ok (.iload_n 1, 1) := by decide +kernel
theorem dX12_from_40 : decode cX12_from 40 = .ok (.iadd, 1) := by decide +kernel
theorem dX12_from_41 : decode cX12_from 41 = .ok (.iconst 0, 1) := by decide +kernel
theorem dX12_from_42 : decode cX12_from 42 = .ok (.invokevirtual 298, 3) := by decide +kernel
theorem dX12_from_45 : decode cX12_from 45 = .ok (.iconst 1, 1) := by decide +kernel
theorem dX12_from_46 : decode cX12_from 46 = .ok (.ireturn, 1) := by decide +kernel
theorem bX12_from_0 {Z : ZT} {X : XT} {μ : Mu} {a1 : Int32} (E : Ent Z X mX12_from 0 0) {p : Int32 → Mu → Prop} 
    (c : CtrS Z mX12_in [.int a1, .int (nI 0), .int (nI 1)] μ (rI p)) (k : ∀ v μ1, p v μ1 → JS Z X 6 [(0, .ref (Z.2.2.1 + 455)), (1, .int a1)] [.int v] μ1) :
    JS Z X 0 [(0, .ref (Z.2.2.1 + 455)), (1, .int a1)] [] μ := by
  refine J_iload_n E dX12_from_0 rfl ?_
  refine J_iconst (v := nI 0) E dX12_from_1 rfl ?_
  refine J_iconst (v := nI 1) E dX12_from_2 rfl ?_
  refine S_callS (As := [.int a1, .int (nI 0), .int (nI 1)]) (rest := []) E dX12_from_3 c kX12_in ⟨Nat.le_of_ble_eq_true rfl, Nat.le_of_ble_eq_true rfl⟩ rfl (Nat.le_of_ble_eq_true rfl) w6_67 w6_68 (fun r_ μ1 hp_ => ?_)
  obtain ⟨v, rfl, hp_⟩ := hp_
  exact k v μ1 hp_
theorem bX12_from_6 {Z : ZT} {X : XT} {μ : Mu} {a1 : Int32} {s0 : Int32} (E : Ent Z X mX12_from 0 0)  
    (kt : s0 = 0 → JS Z X 18 [(0, .ref (Z.2.2.1 + 455)), (1, .int a1)] [] μ) (kf : ¬ (s0 = 0) → JS Z X 9 [(0, .ref (Z.2.2.1 + 455)), (1, .int a1)] [] μ) :
    JS Z X 6 [(0, .ref (Z.2.2.1 + 455)), (1, .int a1)] [.int s0] μ := by
  refine J_if_eq (tgt := 18) E dX12_from_6 (by decide) (fun c => ?_) (fun c => ?_)
  · exact kt c
  · exact kf c
theorem bX12_from_9 {Z : ZT} {X : XT} {μ : Mu} {a1 : Int32} (E : Ent Z X mX12_from 0 0)  (s1_ : vp_in a1 2)
    (kt : ¬ (μ 457 (ix a1)) = 0 → JS Z X 37 [(0, .ref (Z.2.2.1 + 455)), (1, .int a1)] [] μ) (kf : (μ 457 (ix a1)) = 0 → JS Z X 18 [(0, .ref (Z.2.2.1 + 455)), (1, .int a1)] [] μ) :
    JS Z X 9 [(0, .ref (Z.2.2.1 + 455)), (1, .int a1)] [] μ := by
  refine J_aload_n E dX12_from_9 rfl ?_
  refine S_get (ci := 12) (q := 1) (v := .ref (Z.2.2.1 + 457)) E dX12_from_10 fs_X12_13 sh455 rfl ?_
  refine J_iload_n E dX12_from_13 rfl ?_
  refine S_zald E dX12_from_14 sh457 s1_ ?_
  refine J_if_ne (tgt := 37) E dX12_from_15 (by decide) (fun c => ?_) (fun c => ?_)
  · exact kt c
  · exact kf c
theorem bX12_from_18 {Z : ZT} {X : XT} {μ : Mu} {a1 : Int32} (E : Ent Z X mX12_from 0 0) {p : Int32 → Mu → Prop} 
    (c : CtrS Z mX12_in [.int a1, .int (nI 0), .int (nI 1)] μ (rI p)) (k : ∀ v μ1, p v μ1 → JS Z X 25 [] [.int v, .ref (Z.2.2.1 + 455)] μ1) :
    JS Z X 18 [(0, .ref (Z.2.2.1 + 455)), (1, .int a1)] [] μ := by
  refine J_aload_n E dX12_from_18 rfl ?_
  refine J_iload_n E dX12_from_19 rfl ?_
  refine J_iconst (v := nI 0) E dX12_from_20 rfl ?_
  refine J_iconst (v := nI 1) E dX12_from_21 rfl ?_
  refine S_callS (As := [.int a1, .int (nI 0), .int (nI 1)]) (rest := [.ref (Z.2.2.1 + 455)]) E dX12_from_22 c kX12_in ⟨Nat.le_of_ble_eq_true rfl, Nat.le_of_ble_eq_true rfl⟩ rfl (Nat.le_of_ble_eq_true rfl) w6_67 w6_68 (fun r_ μ1 hp_ => ?_)
  obtain ⟨v, rfl, hp_⟩ := hp_
  refine J.weak [] rfl ?_
  exact k v μ1 hp_
theorem bX12_from_25 {Z : ZT} {X : XT} {μ : Mu} {s1 : Int32} (E : Ent Z X mX12_from 0 0)  
    (kt : ¬ s1 = 0 → JS Z X 32 [] [.ref (Z.2.2.1 + 455)] μ) (kf : s1 = 0 → JS Z X 28 [] [.ref (Z.2.2.1 + 455)] μ) :
    JS Z X 25 [] [.int s1, .ref (Z.2.2.1 + 455)] μ := by
  refine J_if_ne (tgt := 32) E dX12_from_25 (by decide) (fun c => ?_) (fun c => ?_)
  · exact kt c
  · exact kf c
theorem bX12_from_28 {Z : ZT} {X : XT} {μ : Mu} (E : Ent Z X mX12_from 0 0)  
    (k : JS Z X 33 [] [.int (nI 1), .ref (Z.2.2.1 + 455)] μ) :
    JS Z X 28 [] [.ref (Z.2.2.1 + 455)] μ := by
  refine J_iconst (v := nI 1) E dX12_from_28 rfl ?_
  refine J_goto (tgt := 33) E dX12_from_29 (by decide) ?_
  exact k
theorem bX12_from_32 {Z : ZT} {X : XT} {μ : Mu} (E : Ent Z X mX12_from 0 0)  
    (k : JS Z X 33 [] [.int (nI 0), .ref (Z.2.2.1 + 455)] μ) :
    JS Z X 32 [] [.ref (Z.2.2.1 + 455)] μ := by
  refine J_iconst (v := nI 0) E dX12_from_32 rfl ?_
  exact k
theorem bX12_from_33 {Z : ZT} {X : XT} {μ : Mu} {s1 : Int32} (E : Ent Z X mX12_from 0 0) {p : Int32 → Mu → Prop} 
    (c : CtrS Z mX12_no [.ref (Z.2.2.1 + 455), .int s1] μ (rI p)) (k : ∀ v μ1, p v μ1 → JS Z X 36 [] [.int v] μ1) :
    JS Z X 33 [] [.int s1, .ref (Z.2.2.1 + 455)] μ := by
  refine S_callV (As := [.int s1]) (rest := []) E dX12_from_33 c kX12_no ⟨Nat.le_of_ble_eq_true rfl, Nat.le_of_ble_eq_true rfl⟩ rfl (Nat.le_of_ble_eq_true rfl) sh455 rfl rfl w7_140 w7_142 wp_82 (fun r_ μ1 hp_ => ?_)
  obtain ⟨v, rfl, hp_⟩ := hp_
  exact k v μ1 hp_
theorem bX12_from_36 {Z : ZT} {X : XT} {μ : Mu} {s0 : Int32} (E : Ent Z X mX12_from 0 0) {P : Option Value → Mu → Prop} (hB : BodS Z X P) 
    (k : P (some (.int s0)) μ) :
    JS Z X 36 [] [.int s0] μ := by
  exact S_iret E hB dX12_from_36 rfl k
theorem bX12_from_37 {Z : ZT} {X : XT} {μ : Mu} {a1 : Int32} (E : Ent Z X mX12_from 0 0) {p : Mu → Prop} 
    (c : CtrS Z mX12_copyHouse [.ref (Z.2.2.1 + 455), .int ((nI 1) + a1), .int (nI 0)] μ (rV p)) (k : ∀ μ1, p μ1 → JS Z X 45 [] [] μ1) :
    JS Z X 37 [(0, .ref (Z.2.2.1 + 455)), (1, .int a1)] [] μ := by
  refine J_aload_n E dX12_from_37 rfl ?_
  refine J_iconst (v := nI 1) E dX12_from_38 rfl ?_
  refine J_iload_n E dX12_from_39 rfl ?_
  refine J_iadd E dX12_from_40 ?_
  refine J_iconst (v := nI 0) E dX12_from_41 rfl ?_
  refine S_callV (As := [.int ((nI 1) + a1), .int (nI 0)]) (rest := []) E dX12_from_42 c kX12_copyHouse ⟨Nat.le_of_ble_eq_true rfl, Nat.le_of_ble_eq_true rfl⟩ rfl (Nat.le_of_ble_eq_true rfl) sh455 rfl rfl w7_183 w7_185 wp_85 (fun r_ μ1 hp_ => ?_)
  obtain ⟨rfl, hp_⟩ := hp_
  refine J.weak [] rfl ?_
  exact k μ1 hp_
theorem bX12_from_45 {Z : ZT} {X : XT} {μ : Mu} (E : Ent Z X mX12_from 0 0) {P : Option Value → Mu → Prop} (hB : BodS Z X P) 
    (k : P (some (.int (nI 1))) μ) :
    JS Z X 45 [] [] μ := by
  refine J_iconst (v := nI 1) E dX12_from_45 rfl ?_
  exact S_iret E hB dX12_from_46 rfl k
theorem dX12_status_0 : decode cX12_status 0 = .ok (.iload_n 1, 1) := by decide +kernel
theorem dX12_status_1 : decode cX12_status 1 = .ok (.iconst 0, 1) := by decide +kernel
theorem dX12_status_2 : decode cX12_status 2 = .ok (.iconst 2, 1) := by decide +kernel
theorem dX12_status_3 : decode cX12_status 3 = .ok (.invokestatic 67, 3) := by decide +kernel
theorem dX12_status_6 : decode cX12_status 6 = .ok (.ifCond .ne 12, 3) := by decide +kernel
theorem dX12_status_9 : decode cX12_status 9 = .ok (.aload_n 0, 1) := by decide +kernel
theorem dX12_status_10 : decode cX12_status 10 = .ok (.bipush (-2), 2) := by decide +kernel
theorem dX12_status_12 : decode cX12_status 12 = .ok (.invokevirtual 63, 3) := by decide +kernel
theorem dX12_status_15 : decode cX12_status 15 = .ok (.pop, 1) := by decide +kernel
theorem dX12_status_16 : decode cX12_status 16 = .ok (.iconst (-1), 1) := by decide +kernel
theorem dX12_status_17 : decode cX12_status 17 = .ok (.ireturn, 1) := by decide +kernel
theorem dX12_status_18 : decode cX12_status 18 = .ok (.aload_n 0, 1) := by decide +kernel
theorem dX12_status_19 : decode cX12_status 19 = .ok (.getfield 17, 3) := by decide +kernel
theorem dX12_status_22 : decode cX12_status 22 = .ok (.iload_n 1, 1) := by decide +kernel
theorem dX12_status_23 : decode cX12_status 23 = .ok (.iaload, 1) := by decide +kernel
theorem dX12_status_24 : decode cX12_status 24 = .ok (.ireturn, 1) := by decide +kernel
theorem bX12_status_0 {Z : ZT} {X : XT} {μ : Mu} {a1 : Int32} (E : Ent Z X mX12_status 0 0) {p : Int32 → Mu → Prop} 
    (c : CtrS Z mX12_in [.int a1, .int (nI 0), .int (nI 2)] μ (rI p)) (k : ∀ v μ1, p v μ1 → JS Z X 6 [(0, .ref (Z.2.2.1 + 455)), (1, .int a1)] [.int v] μ1) :
    JS Z X 0 [(0, .ref (Z.2.2.1 + 455)), (1, .int a1)] [] μ := by
  refine J_iload_n E dX12_status_0 rfl ?_
  refine J_iconst (v := nI 0) E dX12_status_1 rfl ?_
  refine J_iconst (v := nI 2) E dX12_status_2 rfl ?_
  refine S_callS (As := [.int a1, .int (nI 0), .int (nI 2)]) (rest := []) E dX12_status_3 c kX12_in ⟨Nat.le_of_ble_eq_true rfl, Nat.le_of_ble_eq_true rfl⟩ rfl (Nat.le_of_ble_eq_true rfl) w6_67 w6_68 (fun r_ μ1 hp_ => ?_)
  obtain ⟨v, rfl, hp_⟩ := hp_
  exact k v μ1 hp_
theorem bX12_status_6 {Z : ZT} {X : XT} {μ : Mu} {a1 : Int32} {s0 : Int32} (E : Ent Z X mX12_status 0 0)  
    (kt : ¬ s0 = 0 → JS Z X 18 [(0, .ref (Z.2.2.1 + 455)), (1, .int a1)] [] μ) (kf : s0 = 0 → JS Z X 9 [(0, .ref (Z.2.2.1 + 455))] [] μ) :
    JS Z X 6 [(0, .ref (Z.2.2.1 + 455)), (1, .int a1)] [.int s0] μ := by
  refine J_if_ne (tgt := 18) E dX12_status_6 (by decide) (fun c => ?_) (fun c => ?_)
  · exact kt c
  · refine J.weak [0] rfl ?_
    exact kf c
theorem bX12_status_9 {Z : ZT} {X : XT} {μ : Mu} (E : Ent Z X mX12_status 0 0) {p : Int32 → Mu → Prop} 
    (c : CtrS Z mX12_refuse [.ref (Z.2.2.1 + 455), .int (-2)] μ (rI p)) (k : ∀ v μ1, p v μ1 → JS Z X 15 [] [.int v] μ1) :
    JS Z X 9 [(0, .ref (Z.2.2.1 + 455))] [] μ := by
  refine J_aload_n E dX12_status_9 rfl ?_
  refine J_bipush (v := -2) E dX12_status_10 rfl ?_
  refine S_callV (As := [.int (-2)]) (rest := []) E dX12_status_12 c kX12_refuse ⟨Nat.le_of_ble_eq_true rfl, Nat.le_of_ble_eq_true rfl⟩ rfl (Nat.le_of_ble_eq_true rfl) sh455 rfl rfl w6_51 w6_53 wp_30 (fun r_ μ1 hp_ => ?_)
  obtain ⟨v, rfl, hp_⟩ := hp_
  refine J.weak [] rfl ?_
  exact k v μ1 hp_
theorem bX12_status_15 {Z : ZT} {X : XT} {μ : Mu} {s0 : Int32} (E : Ent Z X mX12_status 0 0) {P : Option Value → Mu → Prop} (hB : BodS Z X P) 
    (k : P (some (.int (-1))) μ) :
    JS Z X 15 [] [.int s0] μ := by
  refine J_pop E dX12_status_15 rfl ?_
  refine J_iconst (v := -1) E dX12_status_16 rfl ?_
  exact S_iret E hB dX12_status_17 rfl k
theorem bX12_status_18 {Z : ZT} {X : XT} {μ : Mu} {a1 : Int32} (E : Ent Z X mX12_status 0 0) {P : Option Value → Mu → Prop} (hB : BodS Z X P) (s1_ : vp_in a1 3)
    (k : P (some (.int (μ 458 (ix a1)))) μ) :
    JS Z X 18 [(0, .ref (Z.2.2.1 + 455)), (1, .int a1)] [] μ := by
  refine J_aload_n E dX12_status_18 rfl ?_
  refine S_get (ci := 12) (q := 2) (v := .ref (Z.2.2.1 + 458)) E dX12_status_19 fs_X12_17 sh455 rfl ?_
  refine J_iload_n E dX12_status_22 rfl ?_
  refine S_iald E dX12_status_23 sh458 s1_ ?_
  exact S_iret E hB dX12_status_24 rfl k
theorem dX12_countOf_0 : decode cX12_countOf 0 = .ok (.iload_n 1, 1) := by decide +kernel
theorem dX12_countOf_1 : decode cX12_countOf 1 = .ok (.ifCond .ne 12, 3) := by decide +kernel
theorem dX12_countOf_4 : decode cX12_countOf 4 = .ok (.aload_n 0, 1) := by decide +kernel
theorem dX12_countOf_5 : decode cX12_countOf 5 = .ok (.getfield 7, 3) := by decide +kernel
theorem dX12_countOf_8 : decode cX12_countOf 8 = .ok (.iconst 0, 1) := by decide +kernel
theorem dX12_countOf_9 : decode cX12_countOf 9 = .ok (.iaload, 1) := by decide +kernel
theorem dX12_countOf_10 : decode cX12_countOf 10 = .ok (.goto 74, 3) := by decide +kernel
theorem dX12_countOf_13 : decode cX12_countOf 13 = .ok (.iload_n 1, 1) := by decide +kernel
theorem dX12_countOf_14 : decode cX12_countOf 14 = .ok (.iconst 1, 1) := by decide +kernel
theorem dX12_countOf_15 : decode cX12_countOf 15 = .ok (.if_icmp .ne 13, 3) := by decide +kernel
theorem dX12_countOf_18 : decode cX12_countOf 18 = .ok (.aload_n 0, 1) := by decide +kernel
theorem dX12_countOf_19 : decode cX12_countOf 19 = .ok (.getfield 7, 3) := by decide +kernel
theorem dX12_countOf_22 : decode cX12_countOf 22 = .ok (.bipush 111, 2) := by decide +kernel
theorem dX12_countOf_24 : decode cX12_countOf 24 = .ok (.iaload, 1) := by decide +kernel
theorem dX12_countOf_25 : decode cX12_countOf 25 = .ok (.goto 59, 3) := by decide +kernel
theorem dX12_countOf_28 : decode cX12_countOf 28 = .ok (.iload_n 1, 1) := by decide +kernel
theorem dX12_countOf_29 : decode cX12_countOf 29 = .ok (.iconst 2, 1) := by decide +kernel
theorem dX12_countOf_30 : decode cX12_countOf 30 = .ok (.if_icmp .ne 14, 3) := by decide +kernel
theorem dX12_countOf_33 : decode cX12_countOf 33 = .ok (.aload_n 0, 1) := by decide +kernel
theorem dX12_countOf_34 : decode cX12_countOf 34 = .ok (.getfield 7, 3) := by decide +kernel
theorem dX12_countOf_37 : decode cX12_countOf 37 = .ok (.sipush 154, 3) := by decide +kernel
theorem dX12_countOf_40 : decode cX12_countOf 40 = .ok (.iaload, 1) := by decide +kernel
theorem dX12_countOf_41 : decode cX12_countOf 41 = .ok (.goto 43, 3) := by decide +kernel
theorem dX12_countOf_44 : decode cX12_countOf 44 = .ok (.iload_n 1, 1) := by decide +kernel
theorem dX12_countOf_45 : decode cX12_countOf 45 = .ok (.iconst 5, 1) := by decide +kernel
theorem dX12_countOf_46 : decode cX12_countOf 46 = .ok (.if_icmp .ge 18, 3) := by decide +kernel
theorem dX12_countOf_49 : decode cX12_countOf 49 = .ok (.aload_n 0, 1) := by decide +kernel
theorem dX12_countOf_50 : decode cX12_countOf 50 = .ok (.getfield 7, 3) := by decide +kernel
theorem dX12_countOf_53 : decode cX12_countOf 53 = .ok (.sipush 187, 3) := by decide +kernel
theorem dX12_countOf_56 : decode cX12_countOf 56 = .ok (.iload_n 1, 1) := by decide +kernel
theorem dX12_countOf_57 : decode cX12_countOf 57 = .ok (.iadd, 1) := by decide +kernel
theorem dX12_countOf_58 : decode cX12_countOf 58 = .ok (.iconst 3, 1) := by decide +kernel
theorem dX12_countOf_59 : decode cX12_countOf 59 = .ok (.isub, 1) := by decide +kernel
theorem dX12_countOf_60 : decode cX12_countOf 60 = .ok (.iaload, 1) := by decide +kernel
theorem dX12_countOf_61 : decode cX12_countOf 61 = .ok (.goto 23, 3) := by decide +kernel
theorem dX12_countOf_64 : decode cX12_countOf 64 = .ok (.iload_n 1, 1) := by decide +kernel
theorem dX12_countOf_65 : decode cX12_countOf 65 = .ok (.iconst 5, 1) := by decide +kernel
theorem dX12_countOf_66 : decode cX12_countOf 66 = .ok (.if_icmp .ne 14, 3) := by decide +kernel
theorem dX12_countOf_69 : decode cX12_countOf 69 = .ok (.aload_n 0, 1) := by decide +kernel
theorem dX12_countOf_70 : decode cX12_countOf 70 = .ok (.getfield 7, 3) := by decide +kernel
theorem dX12_countOf_73 : decode cX12_countOf 73 = .ok (.sipush 206, 3) := by decide +kernel
theorem dX12_countOf_76 : decode cX12_countOf 76 = .ok (.iaload, 1) := by decide +kernel
theorem dX12_countOf_77 : decode cX12_countOf 77 = .ok (.goto 7, 3) := by decide +kernel
theorem dX12_countOf_80 : decode cX12_countOf 80 = .ok (.aload_n 0, 1) := by decide +kernel
theorem dX12_countOf_81 : decode cX12_countOf 81 = .ok (.getfield 116, 3) := by decide +kernel
theorem dX12_countOf_84 : decode cX12_countOf 84 = .ok (.ireturn, 1) := by decide +kernel
theorem bX12_countOf_0 {Z : ZT} {X : XT} {μ : Mu} {a1 : Int32} (E : Ent Z X mX12_countOf 0 0)  
    (kt : ¬ a1 = 0 → JS Z X 13 [(0, .ref (Z.2.2.1 + 455)), (1, .int a1)] [] μ) (kf : a1 = 0 → JS Z X 4 [(0, .ref (Z.2.2.1 + 455))] [] μ) :
    JS Z X 0 [(0, .ref (Z.2.2.1 + 455)), (1, .int a1)] [] μ := by
  refine J_iload_n E dX12_countOf_0 rfl ?_
  refine J_if_ne (tgt := 13) E dX12_countOf_1 (by decide) (fun c => ?_) (fun c => ?_)
  · exact kt c
  · refine J.weak [0] rfl ?_
    exact kf c
theorem bX12_countOf_4 {Z : ZT} {X : XT} {μ : Mu} (E : Ent Z X mX12_countOf 0 0)  (s1_ : vp_in (nI 0) 988)
    (k : JS Z X 84 [] [.int (μ 456 (ix (nI 0)))] μ) :
    JS Z X 4 [(0, .ref (Z.2.2.1 + 455))] [] μ := by
  refine J_aload_n E dX12_countOf_4 rfl ?_
  refine S_get (ci := 12) (q := 0) (v := .ref (Z.2.2.1 + 456)) E dX12_countOf_5 fs_X12_7 sh455 rfl ?_
  refine J_iconst (v := nI 0) E dX12_countOf_8 rfl ?_
  refine S_iald E dX12_countOf_9 sh456 s1_ ?_
  refine J_goto (tgt := 84) E dX12_countOf_10 (by decide) ?_
  refine J.weak [] rfl ?_
  exact k
theorem bX12_countOf_13 {Z : ZT} {X : XT} {μ : Mu} {a1 : Int32} (E : Ent Z X mX12_countOf 0 0)  
    (kt : ¬ a1 = (nI 1) → JS Z X 28 [(0, .ref (Z.2.2.1 + 455)), (1, .int a1)] [] μ) (kf : a1 = (nI 1) → JS Z X 18 [(0, .ref (Z.2.2.1 + 455))] [] μ) :
    JS Z X 13 [(0, .ref (Z.2.2.1 + 455)), (1, .int a1)] [] μ := by
  refine J_iload_n E dX12_countOf_13 rfl ?_
  refine J_iconst (v := nI 1) E dX12_countOf_14 rfl ?_
  refine J_icmp_ne (tgt := 28) E dX12_countOf_15 (by decide) (fun c => ?_) (fun c => ?_)
  · exact kt c
  · refine J.weak [0] rfl ?_
    exact kf c
theorem bX12_countOf_18 {Z : ZT} {X : XT} {μ : Mu} (E : Ent Z X mX12_countOf 0 0)  (s1_ : vp_in (nI 111) 988)
    (k : JS Z X 84 [] [.int (μ 456 (ix (nI 111)))] μ) :
    JS Z X 18 [(0, .ref (Z.2.2.1 + 455))] [] μ := by
  refine J_aload_n E dX12_countOf_18 rfl ?_
  refine S_get (ci := 12) (q := 0) (v := .ref (Z.2.2.1 + 456)) E dX12_countOf_19 fs_X12_7 sh455 rfl ?_
  refine J_bipush (v := nI 111) E dX12_countOf_22 rfl ?_
  refine S_iald E dX12_countOf_24 sh456 s1_ ?_
  refine J_goto (tgt := 84) E dX12_countOf_25 (by decide) ?_
  refine J.weak [] rfl ?_
  exact k
theorem bX12_countOf_28 {Z : ZT} {X : XT} {μ : Mu} {a1 : Int32} (E : Ent Z X mX12_countOf 0 0)  
    (kt : ¬ a1 = (nI 2) → JS Z X 44 [(0, .ref (Z.2.2.1 + 455)), (1, .int a1)] [] μ) (kf : a1 = (nI 2) → JS Z X 33 [(0, .ref (Z.2.2.1 + 455))] [] μ) :
    JS Z X 28 [(0, .ref (Z.2.2.1 + 455)), (1, .int a1)] [] μ := by
  refine J_iload_n E dX12_countOf_28 rfl ?_
  refine J_iconst (v := nI 2) E dX12_countOf_29 rfl ?_
  refine J_icmp_ne (tgt := 44) E dX12_countOf_30 (by decide) (fun c => ?_) (fun c => ?_)
  · exact kt c
  · refine J.weak [0] rfl ?_
    exact kf c
theorem bX12_countOf_33 {Z : ZT} {X : XT} {μ : Mu} (E : Ent Z X mX12_countOf 0 0)  (s1_ : vp_in (nI 154) 988)
    (k : JS Z X 84 [] [.int (μ 456 (ix (nI 154)))] μ) :
    JS Z X 33 [(0, .ref (Z.2.2.1 + 455))] [] μ := by
  refine J_aload_n E dX12_countOf_33 rfl ?_
  refine S_get (ci := 12) (q := 0) (v := .ref (Z.2.2.1 + 456)) E dX12_countOf_34 fs_X12_7 sh455 rfl ?_
  refine J_sipush (v := nI 154) E dX12_countOf_37 rfl ?_
  refine S_iald E dX12_countOf_40 sh456 s1_ ?_
  refine J_goto (tgt := 84) E dX12_countOf_41 (by decide) ?_
  refine J.weak [] rfl ?_
  exact k
theorem bX12_countOf_44 {Z : ZT} {X : XT} {μ : Mu} {a1 : Int32} (E : Ent Z X mX12_countOf 0 0)  
    (kt : (nI 5) ≤ a1 → JS Z X 64 [(0, .ref (Z.2.2.1 + 455)), (1, .int a1)] [] μ) (kf : ¬ ((nI 5) ≤ a1) → JS Z X 49 [(0, .ref (Z.2.2.1 + 455)), (1, .int a1)] [] μ) :
    JS Z X 44 [(0, .ref (Z.2.2.1 + 455)), (1, .int a1)] [] μ := by
  refine J_iload_n E dX12_countOf_44 rfl ?_
  refine J_iconst (v := nI 5) E dX12_countOf_45 rfl ?_
  refine J_icmp_ge (tgt := 64) E dX12_countOf_46 (by decide) (fun c => ?_) (fun c => ?_)
  · exact kt c
  · exact kf c
theorem bX12_countOf_49 {Z : ZT} {X : XT} {μ : Mu} {a1 : Int32} (E : Ent Z X mX12_countOf 0 0)  (s1_ : vp_in (((nI 187) + a1) - (nI 3)) 988)
    (k : JS Z X 84 [] [.int (μ 456 (ix (((nI 187) + a1) - (nI 3))))] μ) :
    JS Z X 49 [(0, .ref (Z.2.2.1 + 455)), (1, .int a1)] [] μ := by
  refine J_aload_n E dX12_countOf_49 rfl ?_
  refine S_get (ci := 12) (q := 0) (v := .ref (Z.2.2.1 + 456)) E dX12_countOf_50 fs_X12_7 sh455 rfl ?_
  refine J_sipush (v := nI 187) E dX12_countOf_53 rfl ?_
  refine J_iload_n E dX12_countOf_56 rfl ?_
  refine J_iadd E dX12_countOf_57 ?_
  refine J_iconst (v := nI 3) E dX12_countOf_58 rfl ?_
  refine J_isub E dX12_countOf_59 ?_
  refine S_iald E dX12_countOf_60 sh456 s1_ ?_
  refine J_goto (tgt := 84) E dX12_countOf_61 (by decide) ?_
  refine J.weak [] rfl ?_
  exact k
theorem bX12_countOf_64 {Z : ZT} {X : XT} {μ : Mu} {a1 : Int32} (E : Ent Z X mX12_countOf 0 0)  
    (kt : ¬ a1 = (nI 5) → JS Z X 80 [(0, .ref (Z.2.2.1 + 455))] [] μ) (kf : a1 = (nI 5) → JS Z X 69 [(0, .ref (Z.2.2.1 + 455))] [] μ) :
    JS Z X 64 [(0, .ref (Z.2.2.1 + 455)), (1, .int a1)] [] μ := by
  refine J_iload_n E dX12_countOf_64 rfl ?_
  refine J_iconst (v := nI 5) E dX12_countOf_65 rfl ?_
  refine J_icmp_ne (tgt := 80) E dX12_countOf_66 (by decide) (fun c => ?_) (fun c => ?_)
  · refine J.weak [0] rfl ?_
    exact kt c
  · refine J.weak [0] rfl ?_
    exact kf c
theorem bX12_countOf_69 {Z : ZT} {X : XT} {μ : Mu} (E : Ent Z X mX12_countOf 0 0)  (s1_ : vp_in (nI 206) 988)
    (k : JS Z X 84 [] [.int (μ 456 (ix (nI 206)))] μ) :
    JS Z X 69 [(0, .ref (Z.2.2.1 + 455))] [] μ := by
  refine J_aload_n E dX12_countOf_69 rfl ?_
  refine S_get (ci := 12) (q := 0) (v := .ref (Z.2.2.1 + 456)) E dX12_countOf_70 fs_X12_7 sh455 rfl ?_
  refine J_sipush (v := nI 206) E dX12_countOf_73 rfl ?_
  refine S_iald E dX12_countOf_76 sh456 s1_ ?_
  refine J_goto (tgt := 84) E dX12_countOf_77 (by decide) ?_
  refine J.weak [] rfl ?_
  exact k
theorem bX12_countOf_80 {Z : ZT} {X : XT} {μ : Mu} (E : Ent Z X mX12_countOf 0 0)  
    (k : JS Z X 84 [] [.int (μ 455 4)] μ) :
    JS Z X 80 [(0, .ref (Z.2.2.1 + 455))] [] μ := by
  refine J_aload_n E dX12_countOf_80 rfl ?_
  refine S_get (ci := 12) (q := 4) (v := .int (μ 455 4)) E dX12_countOf_81 fs_X12_116 sh455 rfl ?_
  refine J.weak [] rfl ?_
  exact k
theorem bX12_countOf_84 {Z : ZT} {X : XT} {μ : Mu} {s0 : Int32} (E : Ent Z X mX12_countOf 0 0) {P : Option Value → Mu → Prop} (hB : BodS Z X P) 
    (k : P (some (.int s0)) μ) :
    JS Z X 84 [] [.int s0] μ := by
  exact S_iret E hB dX12_countOf_84 rfl k
theorem dX12_count_0 : decode cX12_count 0 = .ok (.iload_n 1, 1) := by decide +kernel
theorem dX12_count_1 : decode cX12_count 1 = .ok (.iconst 0, 1) := by decide +kernel
theorem dX12_count_2 : decode cX12_count 2 = .ok (.bipush 6, 2) := by decide +kernel
theorem dX12_count_4 : decode cX12_count 4 = .ok (.invokestatic 67, 3) := by decide +kernel
theorem dX12_count_7 : decode cX12_count 7 = .ok (.ifCond .eq 11, 3) := by decide +kernel
theorem dX12_count_10 : decode cX12_count 10 = .ok (.aload_n 0, 1) := by decide +kernel
theorem dX12_count_11 : decode cX12_count 11 = .ok (.iload_n 1, 1) := by decide +kernel
theorem dX12_count_12 : decode cX12_count 12 = .ok (.invokevirtual 301, 3) := by decide +kernel
theorem dX12_count_15 : decode cX12_count 15 = .ok (.goto 9, 3) := by decide +kernel
theorem dX12_count_18 : decode cX12_count 18 = .ok (.aload_n 0, 1) := by decide +kernel
theorem dX12_count_19 : decode cX12_count 19 = .ok (.bipush (-2), 2) := by decide +kernel
theorem dX12_count_21 : decode cX12_count 21 = .ok (.invokevirtual 63, 3) := by decide +kernel
theorem dX12_count_24 : decode cX12_count 24 = .ok (.ireturn, 1) := by decide +kernel
theorem bX12_count_0 {Z : ZT} {X : XT} {μ : Mu} {a1 : Int32} (E : Ent Z X mX12_count 0 0) {p : Int32 → Mu → Prop} 
    (c : CtrS Z mX12_in [.int a1, .int (nI 0), .int (nI 6)] μ (rI p)) (k : ∀ v μ1, p v μ1 → JS Z X 7 [(0, .ref (Z.2.2.1 + 455)), (1, .int a1)] [.int v] μ1) :
    JS Z X 0 [(0, .ref (Z.2.2.1 + 455)), (1, .int a1)] [] μ := by
  refine J_iload_n E dX12_count_0 rfl ?_
  refine J_iconst (v := nI 0) E dX12_count_1 rfl ?_
  refine J_bipush (v := nI 6) E dX12_count_2 rfl ?_
  refine S_callS (As := [.int a1, .int (nI 0), .int (nI 6)]) (rest := []) E dX12_count_4 c kX12_in ⟨Nat.le_of_ble_eq_true rfl, Nat.le_of_ble_eq_true rfl⟩ rfl (Nat.le_of_ble_eq_true rfl) w6_67 w6_68 (fun r_ μ1 hp_ => ?_)
  obtain ⟨v, rfl, hp_⟩ := hp_
  exact k v μ1 hp_
theorem bX12_count_7 {Z : ZT} {X : XT} {μ : Mu} {a1 : Int32} {s0 : Int32} (E : Ent Z X mX12_count 0 0)  
    (kt : s0 = 0 → JS Z X 18 [(0, .ref (Z.2.2.1 + 455))] [] μ) (kf : ¬ (s0 = 0) → JS Z X 10 [(0, .ref (Z.2.2.1 + 455)), (1, .int a1)] [] μ) :
    JS Z X 7 [(0, .ref (Z.2.2.1 + 455)), (1, .int a1)] [.int s0] μ := by
  refine J_if_eq (tgt := 18) E dX12_count_7 (by decide) (fun c => ?_) (fun c => ?_)
  · refine J.weak [0] rfl ?_
    exact kt c
  · exact kf c
theorem bX12_count_10 {Z : ZT} {X : XT} {μ : Mu} {a1 : Int32} (E : Ent Z X mX12_count 0 0) {p : Int32 → Mu → Prop} 
    (c : CtrS Z mX12_countOf [.ref (Z.2.2.1 + 455), .int a1] μ (rI p)) (k : ∀ v μ1, p v μ1 → JS Z X 15 [] [.int v] μ1) :
    JS Z X 10 [(0, .ref (Z.2.2.1 + 455)), (1, .int a1)] [] μ := by
  refine J_aload_n E dX12_count_10 rfl ?_
  refine J_iload_n E dX12_count_11 rfl ?_
  refine S_callV (As := [.int a1]) (rest := []) E dX12_count_12 c kX12_countOf ⟨Nat.le_of_ble_eq_true rfl, Nat.le_of_ble_eq_true rfl⟩ rfl (Nat.le_of_ble_eq_true rfl) sh455 rfl rfl w7_199 w7_201 wp_86 (fun r_ μ1 hp_ => ?_)
  obtain ⟨v, rfl, hp_⟩ := hp_
  refine J.weak [] rfl ?_
  exact k v μ1 hp_
theorem bX12_count_15 {Z : ZT} {X : XT} {μ : Mu} {s0 : Int32} (E : Ent Z X mX12_count 0 0)  
    (k : JS Z X 24 [] [.int s0] μ) :
    JS Z X 15 [] [.int s0] μ := by
  refine J_goto (tgt := 24) E dX12_count_15 (by decide) ?_
  exact k
theorem bX12_count_18 {Z : ZT} {X : XT} {μ : Mu} (E : Ent Z X mX12_count 0 0) {p : Int32 → Mu → Prop} 
    (c : CtrS Z mX12_refuse [.ref (Z.2.2.1 + 455), .int (-2)] μ (rI p)) (k : ∀ v μ1, p v μ1 → JS Z X 24 [] [.int v] μ1) :
    JS Z X 18 [(0, .ref (Z.2.2.1 + 455))] [] μ := by
  refine J_aload_n E dX12_count_18 rfl ?_
  refine J_bipush (v := -2) E dX12_count_19 rfl ?_
  refine S_callV (As := [.int (-2)]) (rest := []) E dX12_count_21 c kX12_refuse ⟨Nat.le_of_ble_eq_true rfl, Nat.le_of_ble_eq_true rfl⟩ rfl (Nat.le_of_ble_eq_true rfl) sh455 rfl rfl w6_51 w6_53 wp_30 (fun r_ μ1 hp_ => ?_)
  obtain ⟨v, rfl, hp_⟩ := hp_
  refine J.weak [] rfl ?_
  exact k v μ1 hp_
theorem bX12_count_24 {Z : ZT} {X : XT} {μ : Mu} {s0 : Int32} (E : Ent Z X mX12_count 0 0) {P : Option Value → Mu → Prop} (hB : BodS Z X P) 
    (k : P (some (.int s0)) μ) :
    JS Z X 24 [] [.int s0] μ := by
  exact S_iret E hB dX12_count_24 rfl k
theorem dX12_mix_0 : decode cX12_mix 0 = .ok (.aload_n 0, 1) := by decide +kernel
theorem dX12_mix_1 : decode cX12_mix 1 = .ok (.ldc2_w 304, 3) := by decide +kernel
theorem dX12_mix_4 : decode cX12_mix 4 = .ok (.aload_n 0, 1) := by decide +kernel
theorem dX12_mix_5 : decode cX12_mix 5 = .ok (.getfield 306, 3) := by decide +kernel
theorem dX12_mix_8 : decode cX12_mix 8 = .ok (.lmul, 1) := by decide +kernel
theorem dX12_mix_9 : decode cX12_mix 9 = .ok (.iload_n 1, 1) := by decide +kernel
theorem dX12_mix_10 : decode cX12_mix 10 = .ok (.i2l, 1) := by decide +kernel
theorem dX12_mix_11 : decode cX12_mix 11 = .ok (.ladd, 1) := by decide +kernel
theorem dX12_mix_12 : decode cX12_mix 12 = .ok (.putfield 306, 3) := by decide +kernel
theorem dX12_mix_15 : decode cX12_mix 15 = .ok (.return_, 1) := by decide +kernel
theorem bX12_mix_0 {Z : ZT} {X : XT} {μ : Mu} {a1 : Int32} (E : Ent Z X mX12_mix 0 0)  
    (k : JS Z X 15 [] [] (uR μ 455 (upd (upd (μ 455) 27 (hiL (((lN 31) * (mkL (μ 455 27) (μ 455 127))) + a1.toInt64))) 127 (loL (((lN 31) * (mkL (μ 455 27) (μ 455 127))) + a1.toInt64))))) :
    JS Z X 0 [(0, .ref (Z.2.2.1 + 455)), (1, .int a1)] [] μ := by
  refine J_aload_n E dX12_mix_0 rfl ?_
  refine J_ldc2 (v := lN 31) E dX12_mix_1 w7_212 ?_
  refine J_aload_n E dX12_mix_4 rfl ?_
  refine S_get (ci := 12) (q := 27) (v := .long (mkL (μ 455 27) (μ 455 127))) E dX12_mix_5 fs_X12_306 sh455 rfl ?_
  refine J_lmul E dX12_mix_8 ?_
  refine J_iload_n E dX12_mix_9 rfl ?_
  refine J_i2l E dX12_mix_10 ?_
  refine J_ladd E dX12_mix_11 ?_
  refine S_putl E dX12_mix_12 fs_X12_306 fp_X12_27 sh455 rfl ?_
  refine J.weak [] rfl ?_
  exact k
theorem bX12_mix_15 {Z : ZT} {X : XT} {μ : Mu} (E : Ent Z X mX12_mix 0 0) {P : Option Value → Mu → Prop} (hB : BodS Z X P) 
    (k : P none μ) :
    JS Z X 15 [] [] μ := by
  exact S_vret E hB dX12_mix_15 rfl k
theorem dX12_digest_0 : decode cX12_digest 0 = .ok (.aload_n 0, 1) := by decide +kernel
theorem dX12_digest_1 : decode cX12_digest 1 = .ok (.ldc2_w 310, 3) := by decide +kernel
theorem dX12_digest_4 : decode cX12_digest 4 = .ok (.putfield 306, 3) := by decide +kernel
theorem dX12_digest_7 : decode cX12_digest 7 = .ok (.iconst 0, 1) := by decide +kernel
theorem dX12_digest_8 : decode cX12_digest 8 = .ok (.istore_n 1, 1) := by decide +kernel
theorem dX12_digest_9 : decode cX12_digest 9 = .ok (.iload_n 1, 1) := by decide +kernel
theorem dX12_digest_10 : decode cX12_digest 10 = .ok (.bipush 7, 2) := by decide +kernel
theorem dX12_digest_12 : decode cX12_digest 12 = .ok (.if_icmp .ge 18, 3) := by decide +kernel
theorem dX12_digest_15 : decode cX12_digest 15 = .ok (.aload_n 0, 1) := by decide +kernel
theorem dX12_digest_16 : decode cX12_digest 16 = .ok (.aload_n 0, 1) := by decide +kernel
theorem dX12_digest_17 : decode cX12_digest 17 = .ok (.iload_n 1, 1) := by decide +kernel
theorem dX12_digest_18 : decode cX12_digest 18 = .ok (.invokevirtual 301, 3) := by decide +kernel
theorem dX12_digest_21 : decode cX12_digest 21 = .ok (.invokevirtual 312, 3) := by decide +kernel
theorem dX12_digest_24 : decode cX12_digest 24 = .ok (.iinc 1 1, 3) := by decide +kernel
theorem dX12_digest_27 : decode cX12_digest 27 = .ok (.goto (-18), 3) := by decide +kernel
theorem dX12_digest_30 : decode cX12_digest 30 = .ok (.iconst 0, 1) := by decide +kernel
theorem dX12_digest_31 : decode cX12_digest 31 = .ok (.istore_n 1, 1) := by decide +kernel
theorem dX12_digest_32 : decode cX12_digest 32 = .ok (.iload_n 1, 1) := by decide +kernel
theorem dX12_digest_33 : decode cX12_digest 33 = .ok (.aload_n 0, 1) := by decide +kernel
theorem dX12_digest_34 : decode cX12_digest 34 = .ok (.getfield 7, 3) := by decide +kernel
theorem dX12_digest_37 : decode cX12_digest 37 = .ok (.iconst 0, 1) := by decide +kernel
theorem dX12_digest_38 : decode cX12_digest 38 = .ok (.iaload, 1) := by decide +kernel
theorem dX12_digest_39 : decode cX12_digest 39 = .ok (.if_icmp .ge 58, 3) := by decide +kernel
theorem dX12_digest_42 : decode cX12_digest 42 = .ok (.iconst 0, 1) := by decide +kernel
theorem dX12_digest_43 : decode cX12_digest 43 = .ok (.istore_n 2, 1) := by decide +kernel
theorem dX12_digest_44 : decode cX12_digest 44 = .ok (.iload_n 2, 1) := by decide +kernel
theorem dX12_digest_45 : decode cX12_digest 45 = .ok (.iload_n 1, 1) := by decide +kernel
theorem dX12_digest_46 : decode cX12_digest 46 = .ok (.if_icmp .ge 26, 3) := by decide +kernel
theorem dX12_digest_49 : decode cX12_digest 49 = .ok (.aload_n 0, 1) := by decide +kernel
theorem dX12_digest_50 : decode cX12_digest 50 = .ok (.aload_n 0, 1) := by decide +kernel
theorem dX12_digest_51 : decode cX12_digest 51 = .ok (.getfield 7, 3) := by decide +kernel
theorem dX12_digest_54 : decode cX12_digest 54 = .ok (.iconst 1, 1) := by decide +kernel
theorem dX12_digest_55 : decode cX12_digest 55 = .ok (.bipush 10, 2) := by decide +kernel
theorem dX12_digest_57 : decode cX12_digest 57 = .ok (.iload_n 1, 1) := by decide +kernel
theorem dX12_digest_58 : decode cX12_digest 58 = .ok (.imul, 1) := by decide +kernel
theorem dX12_digest_59 : decode cX12_digest 59 = .ok (.iadd, 1) := by decide +kernel
theorem dX12_digest_60 : decode cX12_digest 60 = .ok (.iload_n 2, 1) := by decide +kernel
theorem dX12_digest_61 : decode cX12_digest 61 = .ok (.iadd, 1) := by decide +kernel
theorem dX12_digest_62 : decode cX12_digest 62 = .ok (.iaload, 1) := by decide +kernel
theorem dX12_digest_63 : decode cX12_digest 63 = .ok (.invokevirtual 312, 3) := by decide +kernel
theorem dX12_digest_66 : decode cX12_digest 66 = .ok (.iinc 2 1, 3) := by decide +kernel
theorem dX12_digest_69 : decode cX12_digest 69 = .ok (.goto (-25), 3) := by decide +kernel
theorem dX12_digest_72 : decode cX12_digest 72 = .ok (.aload_n 0, 1) := by decide +kernel
theorem dX12_digest_73 : decode cX12_digest 73 = .ok (.aload_n 0, 1) := by decide +kernel
theorem dX12_digest_74 : decode cX12_digest 74 = .ok (.getfield 7, 3) := by decide +kernel
theorem dX12_digest_77 : decode cX12_digest 77 = .ok (.bipush 101, 2) := by decide +kernel
theorem dX12_digest_79 : decode cX12_digest 79 = .ok (.iload_n 1, 1) := by decide +kernel
theorem dX12_digest_80 : decode cX12_digest 80 = .ok (.iadd, 1) := by decide +kernel
theorem dX12_digest_81 : decode cX12_digest 81 = .ok (.iaload, 1) := by decide +kernel
theorem dX12_digest_82 : decode cX12_digest 82 = .ok (.iconst 1, 1) := by decide +kernel
theorem dX12_digest_83 : decode cX12_digest 83 = .ok (.iload_n 1, 1) := by decide +kernel
theorem dX12_digest_84 : decode cX12_digest 84 = .ok (.ishl, 1) := by decide +kernel
theorem dX12_digest_85 : decode cX12_digest 85 = .ok (.iconst (-1), 1) := by decide +kernel
theorem dX12_digest_86 : decode cX12_digest 86 = .ok (.ixor, 1) := by decide +kernel
theorem dX12_digest_87 : decode cX12_digest 87 = .ok (.iand, 1) := by decide +kernel
theorem dX12_digest_88 : decode cX12_digest 88 = .ok (.invokevirtual 312, 3) := by decide +kernel
theorem dX12_digest_91 : decode cX12_digest 91 = .ok (.iinc 1 1, 3) := by decide +kernel
theorem dX12_digest_94 : decode cX12_digest 94 = .ok (.goto (-62), 3) := by decide +kernel
theorem dX12_digest_97 : decode cX12_digest 97 = .ok (.iconst 0, 1) := by decide +kernel
theorem dX12_digest_98 : decode cX12_digest 98 = .ok (.istore_n 1, 1) := by decide +kernel
theorem dX12_digest_99 : decode cX12_digest 99 = .ok (.iload_n 1, 1) := by decide +kernel
theorem dX12_digest_100 : decode cX12_digest 100 = .ok (.aload_n 0, 1) := by decide +kernel
theorem dX12_digest_101 : decode cX12_digest 101 = .ok (.getfield 7, 3) := by decide +kernel
theorem dX12_digest_104 : decode cX12_digest 104 = .ok (.bipush 111, 2) := by decide +kernel
theorem dX12_digest_106 : decode cX12_digest 106 = .ok (.iaload, 1) := by decide +kernel
theorem dX12_digest_107 : decode cX12_digest 107 = .ok (.if_icmp .ge 80, 3) := by decide +kernel
theorem dX12_digest_110 : decode cX12_digest 110 = .ok (.aload_n 0, 1) := by decide +kernel
theorem dX12_digest_111 : decode cX12_digest 111 = .ok (.aload_n 0, 1) := by decide +kernel
theorem dX12_digest_112 : decode cX12_digest 112 = .ok (.getfield 7, 3) := by decide +kernel
theorem dX12_digest_115 : decode cX12_digest 115 = .ok (.bipush 112, 2) := by decide +kernel
theorem dX12_digest_117 : decode cX12_digest 117 = .ok (.iload_n 1, 1) := by decide +kernel
theorem dX12_digest_118 : decode cX12_digest 118 = .ok (.iadd, 1) := by decide +kernel
theorem dX12_digest_119 : decode cX12_digest 119 = .ok (.iaload, 1) := by decide +kernel
theorem dX12_digest_120 : decode cX12_digest 120 = .ok (.invokevirtual 312, 3) := by decide +kernel
theorem dX12_digest_123 : decode cX12_digest 123 = .ok (.iconst 0, 1) := by decide +kernel
theorem dX12_digest_124 : decode cX12_digest 124 = .ok (.istore_n 2, 1) := by decide +kernel
theorem dX12_digest_125 : decode cX12_digest 125 = .ok (.iload_n 2, 1) := by decide +kernel
theorem dX12_digest_126 : decode cX12_digest 126 = .ok (.iconst 4, 1) := by decide +kernel
theorem dX12_digest_127 : decode cX12_digest 127 = .ok (.if_icmp .ge 26, 3) := by decide +kernel
theorem dX12_digest_130 : decode cX12_digest 130 = .ok (.aload_n 0, 1) := by decide +kernel
theorem dX12_digest_131 : decode cX12_digest 131 = .ok (.aload_n 0, 1) := by decide +kernel
theorem dX12_digest_132 : decode cX12_digest 132 = .ok (.getfield 7, 3) := by decide +kernel
theorem dX12_digest_135 : decode cX12_digest 135 = .ok (.bipush 118, 2) := by decide +kernel
theorem dX12_digest_137 : decode cX12_digest 137 = .ok (.iconst 4, 1) := by decide +kernel
theorem dX12_digest_138 : decode cX12_digest 138 = .ok (.iload_n 1, 1) := by decide +kernel
theorem dX12_digest_139 : decode cX12_digest 139 = .ok (.imul, 1) := by decide +kernel
theorem dX12_digest_140 : decode cX12_digest 140 = .ok (.iadd, 1) := by decide +kernel
theorem dX12_digest_141 : decode cX12_digest 141 = .ok (.iload_n 2, 1) := by decide +kernel
theorem dX12_digest_142 : decode cX12_digest 142 = .ok (.iadd, 1) := by decide +kernel
theorem dX12_digest_143 : decode cX12_digest 143 = .ok (.iaload, 1) := by decide +kernel
theorem dX12_digest_144 : decode cX12_digest 144 = .ok (.invokevirtual 312, 3) := by decide +kernel
theorem dX12_digest_147 : decode cX12_digest 147 = .ok (.iinc 2 1, 3) := by decide +kernel
theorem dX12_digest_150 : decode cX12_digest 150 = .ok (.goto (-25), 3) := by decide +kernel
theorem dX12_digest_153 : decode cX12_digest 153 = .ok (.aload_n 0, 1) := by decide +kernel
theorem dX12_digest_154 : decode cX12_digest 154 = .ok (.aload_n 0, 1) := by decide +kernel
theorem dX12_digest_155 : decode cX12_digest 155 = .ok (.getfield 7, 3) := by decide +kernel
theorem dX12_digest_158 : decode cX12_digest 158 = .ok (.sipush 142, 3) := by decide +kernel
theorem dX12_digest_161 : decode cX12_digest 161 = .ok (.iload_n 1, 1) := by decide +kernel
theorem dX12_digest_162 : decode cX12_digest 162 = .ok (.iadd, 1) := by decide +kernel
theorem dX12_digest_163 : decode cX12_digest 163 = .ok (.iaload, 1) := by decide +kernel
theorem dX12_digest_164 : decode cX12_digest 164 = .ok (.invokevirtual 312, 3) := by decide +kernel
theorem dX12_digest_167 : decode cX12_digest 167 = .ok (.aload_n 0, 1) := by decide +kernel
theorem dX12_digest_168 : decode cX12_digest 168 = .ok (.aload_n 0, 1) := by decide +kernel
theorem dX12_digest_169 : decode cX12_digest 169 = .ok (.getfield 7, 3) := by decide +kernel
theorem dX12_digest_172 : decode cX12_digest 172 = .ok (.sipush 148, 3) := by decide +kernel
theorem dX12_digest_175 : decode cX12_digest 175 = .ok (.iload_n 1, 1) := by decide +kernel
theorem dX12_digest_176 : decode cX12_digest 176 = .ok (.iadd, 1) := by decide +kernel
theorem dX12_digest_177 : decode cX12_digest 177 = .ok (.iaload, 1) := by decide +kernel
theorem dX12_digest_178 : decode cX12_digest 178 = .ok (.invokevirtual 312, 3) := by decide +kernel
theorem dX12_digest_181 : decode cX12_digest 181 = .ok (.iinc 1 1, 3) := by decide +kernel
theorem dX12_digest_184 : decode cX12_digest 184 = .ok (.goto (-85), 3) := by decide +kernel
theorem dX12_digest_187 : decode cX12_digest 187 = .ok (.iconst 0, 1) := by decide +kernel
theorem dX12_digest_188 : decode cX12_digest 188 = .ok (.istore_n 1, 1) := by decide +kernel
theorem dX12_digest_189 : decode cX12_digest 189 = .ok (.iload_n 1, 1) := by decide +kernel
theorem dX12_digest_190 : decode cX12_digest 190 = .ok (.aload_n 0, 1) := by decide +kernel
theorem dX12_digest_191 : decode cX12_digest 191 = .ok (.getfield 7, 3) := by decide +kernel
theorem dX12_digest_194 : decode cX12_digest 194 = .ok (.sipush 154, 3) := by decide +kernel
theorem dX12_digest_197 : decode cX12_digest 197 = .ok (.iaload, 1) := by decide +kernel
theorem dX12_digest_198 : decode cX12_digest 198 = .ok (.if_icmp .ge 65, 3) := by decide +kernel
theorem dX12_digest_201 : decode cX12_digest 201 = .ok (.aload_n 0, 1) := by decide +kernel
theorem dX12_digest_202 : decode cX12_digest 202 = .ok (.aload_n 0, 1) := by decide +kernel
theorem dX12_digest_203 : decode cX12_digest 203 = .ok (.getfield 7, 3) := by decide +kernel
theorem dX12_digest_206 : decode cX12_digest 206 = .ok (.sipush 155, 3) := by decide +kernel
theorem dX12_digest_209 : decode cX12_digest 209 = .ok (.iload_n 1, 1) := by decide +kernel
theorem dX12_digest_210 : decode cX12_digest 210 = .ok (.iadd, 1) := by decide +kernel
theorem dX12_digest_211 : decode cX12_digest 211 = .ok (.iaload, 1) := by decide +kernel
theorem dX12_digest_212 : decode cX12_digest 212 = .ok (.invokevirtual 312, 3) := by decide +kernel
theorem dX12_digest_215 : decode cX12_digest 215 = .ok (.aload_n 0, 1) := by decide +kernel
theorem dX12_digest_216 : decode cX12_digest 216 = .ok (.aload_n 0, 1) := by decide +kernel
theorem dX12_digest_217 : decode cX12_digest 217 = .ok (.getfield 7, 3) := by decide +kernel
theorem dX12_digest_220 : decode cX12_digest 220 = .ok (.sipush 163, 3) := by decide +kernel
theorem dX12_digest_223 : decode cX12_digest 223 = .ok (.iload_n 1, 1) := by decide +kernel
theorem dX12_digest_224 : decode cX12_digest 224 = .ok (.iadd, 1) := by decide +kernel
theorem dX12_digest_225 : decode cX12_digest 225 = .ok (.iaload, 1) := by decide +kernel
theorem dX12_digest_226 : decode cX12_digest 226 = .ok (.invokevirtual 312, 3) := by decide +kernel
theorem dX12_digest_229 : decode cX12_digest 229 = .ok (.aload_n 0, 1) := by decide +kernel
theorem dX12_digest_230 : decode cX12_digest 230 = .ok (.aload_n 0, 1) := by decide +kernel
theorem dX12_digest_231 : decode cX12_digest 231 = .ok (.getfield 7, 3) := by decide +kernel
theorem dX12_digest_234 : decode cX12_digest 234 = .ok (.sipush 171, 3) := by decide +kernel
theorem dX12_digest_237 : decode cX12_digest 237 = .ok (.iload_n 1, 1) := by decide +kernel
theorem dX12_digest_238 : decode cX12_digest 238 = .ok (.iadd, 1) := by decide +kernel
theorem dX12_digest_239 : decode cX12_digest 239 = .ok (.iaload, 1) := by decide +kernel
theorem dX12_digest_240 : decode cX12_digest 240 = .ok (.invokevirtual 312, 3) := by decide +kernel
theorem dX12_digest_243 : decode cX12_digest 243 = .ok (.aload_n 0, 1) := by decide +kernel
theorem dX12_digest_244 : decode cX12_digest 244 = .ok (.aload_n 0, 1) := by decide +kernel
theorem dX12_digest_245 : decode cX12_digest 245 = .ok (.getfield 7, 3) := by decide +kernel
theorem dX12_digest_248 : decode cX12_digest 248 = .ok (.sipush 179, 3) := by decide +kernel
theorem dX12_digest_251 : decode cX12_digest 251 = .ok (.iload_n 1, 1) := by decide +kernel
theorem dX12_digest_252 : decode cX12_digest 252 = .ok (.iadd, 1) := by decide +kernel
theorem dX12_digest_253 : decode cX12_digest 253 = .ok (.iaload, 1) := by decide +kernel
theorem dX12_digest_254 : decode cX12_digest 254 = .ok (.invokevirtual 312, 3) := by decide +kernel
theorem dX12_digest_257 : decode cX12_digest 257 = .ok (.iinc 1 1, 3) := by decide +kernel
theorem dX12_digest_260 : decode cX12_digest 260 = .ok (.goto (-71), 3) := by decide +kernel
theorem dX12_digest_263 : decode cX12_digest 263 = .ok (.iconst 0, 1) := by decide +kernel
theorem dX12_digest_264 : decode cX12_digest 264 = .ok (.istore_n 1, 1) := by decide +kernel
theorem dX12_digest_265 : decode cX12_digest 265 = .ok (.iload_n 1, 1) := by decide +kernel
theorem dX12_digest_266 : decode cX12_digest 266 = .ok (.bipush 12, 2) := by decide +kernel
theorem dX12_digest_268 : decode cX12_digest 268 = .ok (.if_icmp .ge 43, 3) := by decide +kernel
theorem dX12_digest_271 : decode cX12_digest 271 = .ok (.iload_n 1, 1) := by decide +kernel
theorem dX12_digest_272 : decode cX12_digest 272 = .ok (.bipush 6, 2) := by decide +kernel
theorem dX12_digest_274 : decode cX12_digest 274 = .ok (.irem, 1) := by decide +kernel
theorem dX12_digest_275 : decode cX12_digest 275 = .ok (.aload_n 0, 1) := by decide +kernel
theorem dX12_digest_276 : decode cX12_digest 276 = .ok (.getfield 7, 3) := by decide +kernel
theorem dX12_digest_279 : decode cX12_digest 279 = .ok (.sipush 187, 3) := by decide +kernel
theorem dX12_digest_282 : decode cX12_digest 282 = .ok (.iload_n 1, 1) := by decide +kernel
theorem dX12_digest_283 : decode cX12_digest 283 = .ok (.bipush 6, 2) := by decide +kernel
theorem dX12_digest_285 : decode cX12_digest 285 = .ok (.idiv, 1) := by decide +kernel
theorem dX12_digest_286 : decode cX12_digest 286 = .ok (.iadd, 1) := by decide +kernel
theorem dX12_digest_287 : decode cX12_digest 287 = .ok (.iaload, 1) := by decide +kernel
theorem dX12_digest_288 : decode cX12_digest 288 = .ok (.if_icmp .ge 17, 3) := by decide +kernel
theorem dX12_digest_291 : decode cX12_digest 291 = .ok (.aload_n 0, 1) := by decide +kernel
theorem dX12_digest_292 : decode cX12_digest 292 = .ok (.aload_n 0, 1) := by decide +kernel
theorem dX12_digest_293 : decode cX12_digest 293 = .ok (.getfield 7, 3) := by decide +kernel
theorem dX12_digest_296 : decode cX12_digest 296 = .ok (.sipush 189, 3) := by decide +kernel
theorem dX12_digest_299 : decode cX12_digest 299 = .ok (.iload_n 1, 1) := by decide +kernel
theorem dX12_digest_300 : decode cX12_digest 300 = .ok (.iadd, 1) := by decide +kernel
theorem dX12_digest_301 : decode cX12_digest 301 = .ok (.iaload, 1) := by decide +kernel
theorem dX12_digest_302 : decode cX12_digest 302 = .ok (.invokevirtual 312, 3) := by decide +kernel
theorem dX12_digest_305 : decode cX12_digest 305 = .ok (.iinc 1 1, 3) := by decide +kernel
theorem dX12_digest_308 : decode cX12_digest 308 = .ok (.goto (-43), 3) := by decide +kernel
theorem dX12_digest_311 : decode cX12_digest 311 = .ok (.iconst 0, 1) := by decide +kernel
theorem dX12_digest_312 : decode cX12_digest 312 = .ok (.istore_n 1, 1) := by decide +kernel
theorem dX12_digest_313 : decode cX12_digest 313 = .ok (.iload_n 1, 1) := by decide +kernel
theorem dX12_digest_314 : decode cX12_digest 314 = .ok (.iconst 5, 1) := by decide +kernel
theorem dX12_digest_315 : decode cX12_digest 315 = .ok (.if_icmp .ge 23, 3) := by decide +kernel
theorem dX12_digest_318 : decode cX12_digest 318 = .ok (.aload_n 0, 1) := by decide +kernel
theorem dX12_digest_319 : decode cX12_digest 319 = .ok (.aload_n 0, 1) := by decide +kernel
theorem dX12_digest_320 : decode cX12_digest 320 = .ok (.getfield 7, 3) := by decide +kernel
theorem dX12_digest_323 : decode cX12_digest 323 = .ok (.sipush 201, 3) := by decide +kernel
theorem dX12_digest_326 : decode cX12_digest 326 = .ok (.iload_n 1, 1) := by decide +kernel
theorem dX12_digest_327 : decode cX12_digest 327 = .ok (.iadd, 1) := by decide +kernel
theorem dX12_digest_328 : decode cX12_digest 328 = .ok (.iaload, 1) := by decide +kernel
theorem dX12_digest_329 : decode cX12_digest 329 = .ok (.invokevirtual 312, 3) := by decide +kernel
theorem dX12_digest_332 : decode cX12_digest 332 = .ok (.iinc 1 1, 3) := by decide +kernel
theorem dX12_digest_335 : decode cX12_digest 335 = .ok (.goto (-22), 3) := by decide +kernel
theorem dX12_digest_338 : decode cX12_digest 338 = .ok (.iconst 0, 1) := by decide +kernel
theorem dX12_digest_339 : decode cX12_digest 339 = .ok (.istore_n 1, 1) := by decide +kernel
theorem dX12_digest_340 : decode cX12_digest 340 = .ok (.iload_n 1, 1) := by decide +kernel
theorem dX12_digest_341 : decode cX12_digest 341 = .ok (.aload_n 0, 1) := by decide +kernel
theorem dX12_digest_342 : decode cX12_digest 342 = .ok (.getfield 7, 3) := by decide +kernel
theorem dX12_digest_345 : decode cX12_digest 345 = .ok (.sipush 206, 3) := by decide +kernel
theorem dX12_digest_348 : decode cX12_digest 348 = .ok (.iaload, 1) := by decide +kernel
theorem dX12_digest_349 : decode cX12_digest 349 = .ok (.if_icmp .ge 37, 3) := by decide +kernel
theorem dX12_digest_352 : decode cX12_digest 352 = .ok (.aload_n 0, 1) := by decide +kernel
theorem dX12_digest_353 : decode cX12_digest 353 = .ok (.aload_n 0, 1) := by decide +kernel
theorem dX12_digest_354 : decode cX12_digest 354 = .ok (.getfield 7, 3) := by decide +kernel
theorem dX12_digest_357 : decode cX12_digest 357 = .ok (.sipush 207, 3) := by decide +kernel
theorem dX12_digest_360 : decode cX12_digest 360 = .ok (.iload_n 1, 1) := by decide +kernel
theorem dX12_digest_361 : decode cX12_digest 361 = .ok (.iadd, 1) := by decide +kernel
theorem dX12_digest_362 : decode cX12_digest 362 = .ok (.iaload, 1) := by decide +kernel
theorem dX12_digest_363 : decode cX12_digest 363 = .ok (.invokevirtual 312, 3) := by decide +kernel
theorem dX12_digest_366 : decode cX12_digest 366 = .ok (.aload_n 0, 1) := by decide +kernel
theorem dX12_digest_367 : decode cX12_digest 367 = .ok (.aload_n 0, 1) := by decide +kernel
theorem dX12_digest_368 : decode cX12_digest 368 = .ok (.getfield 7, 3) := by decide +kernel
theorem dX12_digest_371 : decode cX12_digest 371 = .ok (.sipush 227, 3) := by decide +kernel
theorem dX12_digest_374 : decode cX12_digest 374 = .ok (.iload_n 1, 1) := by decide +kernel
theorem dX12_digest_375 : decode cX12_digest 375 = .ok (.iadd, 1) := by decide +kernel
theorem dX12_digest_376 : decode cX12_digest 376 = .ok (.iaload, 1) := by decide +kernel
theorem dX12_digest_377 : decode cX12_digest 377 = .ok (.invokevirtual 312, 3) := by decide +kernel
theorem dX12_digest_380 : decode cX12_digest 380 = .ok (.iinc 1 1, 3) := by decide +kernel
theorem dX12_digest_383 : decode cX12_digest 383 = .ok (.goto (-43), 3) := by decide +kernel
theorem dX12_digest_386 : decode cX12_digest 386 = .ok (.aload_n 0, 1) := by decide +kernel
theorem dX12_digest_387 : decode cX12_digest 387 = .ok (.aload_n 0, 1) := by decide +kernel
theorem dX12_digest_388 : decode cX12_digest 388 = .ok (.getfield 210, 3) := by decide +kernel
theorem dX12_digest_391 : decode cX12_digest 391 = .ok (.invokevirtual 312, 3) := by decide +kernel
theorem dX12_digest_394 : decode cX12_digest 394 = .ok (.aload_n 0, 1) := by decide +kernel
theorem dX12_digest_395 : decode cX12_digest 395 = .ok (.aload_n 0, 1) := by decide +kernel
theorem dX12_digest_396 : decode cX12_digest 396 = .ok (.iconst 0, 1) := by decide +kernel
theorem dX12_digest_397 : decode cX12_digest 397 = .ok (.invokevirtual 295, 3) := by decide +kernel
theorem dX12_digest_400 : decode cX12_digest 400 = .ok (.invokevirtual 312, 3) := by decide +kernel
theorem dX12_digest_403 : decode cX12_digest 403 = .ok (.aload_n 0, 1) := by decide +kernel
theorem dX12_digest_404 : decode cX12_digest 404 = .ok (.aload_n 0, 1) := by decide +kernel
theorem dX12_digest_405 : decode cX12_digest 405 = .ok (.iconst 1, 1) := by decide +kernel
theorem dX12_digest_406 : decode cX12_digest 406 = .ok (.invokevirtual 295, 3) := by decide +kernel
theorem dX12_digest_409 : decode cX12_digest 409 = .ok (.invokevirtual 312, 3) := by decide +kernel
theorem dX12_digest_412 : decode cX12_digest 412 = .ok (.iconst 0, 1) := by decide +kernel
theorem dX12_digest_413 : decode cX12_digest 413 = .ok (.istore_n 1, 1) := by decide +kernel
theorem dX12_digest_414 : decode cX12_digest 414 = .ok (.iload_n 1, 1) := by decide +kernel
theorem dX12_digest_415 : decode cX12_digest 415 = .ok (.aload_n 0, 1) := by decide +kernel
theorem dX12_digest_416 : decode cX12_digest 416 = .ok (.iconst 0, 1) := by decide +kernel
theorem dX12_digest_417 : decode cX12_digest 417 = .ok (.invokevirtual 295, 3) := by decide +kernel
theorem dX12_digest_420 : decode cX12_digest 420 = .ok (.if_icmp .ge 21, 3) := by decide +kernel
theorem dX12_digest_423 : decode cX12_digest 423 = .ok (.aload_n 0, 1) := by decide +kernel
theorem dX12_digest_424 : decode cX12_digest 424 = .ok (.aload_n 0, 1) := by decide +kernel
theorem dX12_digest_425 : decode cX12_digest 425 = .ok (.getfield 39, 3) := by decide +kernel
theorem dX12_digest_428 : decode cX12_digest 428 = .ok (.iconst 0, 1) := by decide +kernel
theorem dX12_digest_429 : decode cX12_digest 429 = .ok (.iload_n 1, 1) := by decide +kernel
theorem dX12_digest_430 : decode cX12_digest 430 = .ok (.iadd, 1) := by decide +kernel
theorem dX12_digest_431 : decode cX12_digest 431 = .ok (.iaload, 1) := by decide +kernel
theorem dX12_digest_432 : decode cX12_digest 432 = .ok (.invokevirtual 312, 3) := by decide +kernel
theorem dX12_digest_435 : decode cX12_digest 435 = .ok (.iinc 1 1, 3) := by decide +kernel
theorem dX12_digest_438 : decode cX12_digest 438 = .ok (.goto (-24), 3) := by decide +kernel
theorem dX12_digest_441 : decode cX12_digest 441 = .ok (.iconst 0, 1) := by decide +kernel
theorem dX12_digest_442 : decode cX12_digest 442 = .ok (.istore_n 1, 1) := by decide +kernel
theorem dX12_digest_443 : decode cX12_digest 443 = .ok (.iload_n 1, 1) := by decide +kernel
theorem dX12_digest_444 : decode cX12_digest 444 = .ok (.aload_n 0, 1) := by decide +kernel
theorem dX12_digest_445 : decode cX12_digest 445 = .ok (.iconst 1, 1) := by decide +kernel
theorem dX12_digest_446 : decode cX12_digest 446 = .ok (.invokevirtual 295, 3) := by decide +kernel
theorem dX12_digest_449 : decode cX12_digest 449 = .ok (.if_icmp .ge 22, 3) := by decide +kernel
theorem dX12_digest_452 : decode cX12_digest 452 = .ok (.aload_n 0, 1) := by decide +kernel
theorem dX12_digest_453 : decode cX12_digest 453 = .ok (.aload_n 0, 1) := by decide +kernel
theorem dX12_digest_454 : decode cX12_digest 454 = .ok (.getfield 39, 3) := by decide +kernel
theorem dX12_digest_457 : decode cX12_digest 457 = .ok (.bipush 27, 2) := by decide +kernel
theorem dX12_digest_459 : decode cX12_digest 459 = .ok (.iload_n 1, 1) := by decide +kernel
theorem dX12_digest_460 : decode cX12_digest 460 = .ok (.iadd, 1) := by decide +kernel
theorem dX12_digest_461 : decode cX12_digest 461 = .ok (.iaload, 1) := by decide +kernel
theorem dX12_digest_462 : decode cX12_digest 462 = .ok (.invokevirtual 312, 3) := by decide +kernel
theorem dX12_digest_465 : decode cX12_digest 465 = .ok (.iinc 1 1, 3) := by decide +kernel
theorem dX12_digest_468 : decode cX12_digest 468 = .ok (.goto (-25), 3) := by decide +kernel
theorem dX12_digest_471 : decode cX12_digest 471 = .ok (.aload_n 0, 1) := by decide +kernel
theorem dX12_digest_472 : decode cX12_digest 472 = .ok (.getfield 306, 3) := by decide +kernel
theorem dX12_digest_475 : decode cX12_digest 475 = .ok (.lreturn, 1) := by decide +kernel
theorem bX12_digest_0 {Z : ZT} {X : XT} {μ : Mu} (E : Ent Z X mX12_digest 0 0)  
    (k : JS Z X 7 [(0, .ref (Z.2.2.1 + 455))] [] (uR μ 455 (upd (upd (μ 455) 27 (hiL (lN 577))) 127 (loL (lN 577))))) :
    JS Z X 0 [(0, .ref (Z.2.2.1 + 455))] [] μ := by
  refine J_aload_n E dX12_digest_0 rfl ?_
  refine J_ldc2 (v := lN 577) E dX12_digest_1 w7_207 ?_
  refine S_putl E dX12_digest_4 fs_X12_306 fp_X12_27 sh455 rfl ?_
  exact k
theorem bX12_digest_7 {Z : ZT} {X : XT} {μ : Mu} (E : Ent Z X mX12_digest 0 0)  
    (k : JS Z X 9 [(0, .ref (Z.2.2.1 + 455)), (1, .int (nI 0))] [] μ) :
    JS Z X 7 [(0, .ref (Z.2.2.1 + 455))] [] μ := by
  refine J_iconst (v := nI 0) E dX12_digest_7 rfl ?_
  refine J_istore_n (lv' := [(0, .ref (Z.2.2.1 + 455)), (1, .int (nI 0))]) E dX12_digest_8 (Nat.le_of_ble_eq_true rfl) rfl ?_
  exact k
theorem bX12_digest_9 {Z : ZT} {X : XT} {μ : Mu} {a1 : Int32} (E : Ent Z X mX12_digest 0 0)  
    (kt : (nI 7) ≤ a1 → JS Z X 30 [(0, .ref (Z.2.2.1 + 455))] [] μ) (kf : ¬ ((nI 7) ≤ a1) → JS Z X 15 [(0, .ref (Z.2.2.1 + 455)), (1, .int a1)] [] μ) :
    JS Z X 9 [(0, .ref (Z.2.2.1 + 455)), (1, .int a1)] [] μ := by
  refine J_iload_n E dX12_digest_9 rfl ?_
  refine J_bipush (v := nI 7) E dX12_digest_10 rfl ?_
  refine J_icmp_ge (tgt := 30) E dX12_digest_12 (by decide) (fun c => ?_) (fun c => ?_)
  · refine J.weak [0] rfl ?_
    exact kt c
  · exact kf c
theorem bX12_digest_15 {Z : ZT} {X : XT} {μ : Mu} {a1 : Int32} (E : Ent Z X mX12_digest 0 0) {p : Int32 → Mu → Prop} 
    (c : CtrS Z mX12_countOf [.ref (Z.2.2.1 + 455), .int a1] μ (rI p)) (k : ∀ v μ1, p v μ1 → JS Z X 21 [(0, .ref (Z.2.2.1 + 455)), (1, .int a1)] [.int v, .ref (Z.2.2.1 + 455)] μ1) :
    JS Z X 15 [(0, .ref (Z.2.2.1 + 455)), (1, .int a1)] [] μ := by
  refine J_aload_n E dX12_digest_15 rfl ?_
  refine J_aload_n E dX12_digest_16 rfl ?_
  refine J_iload_n E dX12_digest_17 rfl ?_
  refine S_callV (As := [.int a1]) (rest := [.ref (Z.2.2.1 + 455)]) E dX12_digest_18 c kX12_countOf ⟨Nat.le_of_ble_eq_true rfl, Nat.le_of_ble_eq_true rfl⟩ rfl (Nat.le_of_ble_eq_true rfl) sh455 rfl rfl w7_199 w7_201 wp_86 (fun r_ μ1 hp_ => ?_)
  obtain ⟨v, rfl, hp_⟩ := hp_
  exact k v μ1 hp_
theorem bX12_digest_21 {Z : ZT} {X : XT} {μ : Mu} {a1 : Int32} {s1 : Int32} (E : Ent Z X mX12_digest 0 0) {p : Mu → Prop} 
    (c : CtrS Z mX12_mix [.ref (Z.2.2.1 + 455), .int s1] μ (rV p)) (k : ∀ μ1, p μ1 → JS Z X 24 [(0, .ref (Z.2.2.1 + 455)), (1, .int a1)] [] μ1) :
    JS Z X 21 [(0, .ref (Z.2.2.1 + 455)), (1, .int a1)] [.int s1, .ref (Z.2.2.1 + 455)] μ := by
  refine S_callV (As := [.int s1]) (rest := []) E dX12_digest_21 c kX12_mix ⟨Nat.le_of_ble_eq_true rfl, Nat.le_of_ble_eq_true rfl⟩ rfl (Nat.le_of_ble_eq_true rfl) sh455 rfl rfl w7_208 w7_210 wp_87 (fun r_ μ1 hp_ => ?_)
  obtain ⟨rfl, hp_⟩ := hp_
  exact k μ1 hp_
theorem bX12_digest_24 {Z : ZT} {X : XT} {μ : Mu} {a1 : Int32} (E : Ent Z X mX12_digest 0 0)  
    (k : JS Z X 9 [(0, .ref (Z.2.2.1 + 455)), (1, .int (a1 + nI 1))] [] μ) :
    JS Z X 24 [(0, .ref (Z.2.2.1 + 455)), (1, .int a1)] [] μ := by
  refine J_iinc (v := a1 + nI 1) (lv' := [(0, .ref (Z.2.2.1 + 455)), (1, .int (a1 + nI 1))]) E dX12_digest_24 rfl rfl (Nat.le_of_ble_eq_true rfl) rfl ?_
  refine J_goto (tgt := 9) E dX12_digest_27 (by decide) ?_
  exact k
theorem bX12_digest_30 {Z : ZT} {X : XT} {μ : Mu} (E : Ent Z X mX12_digest 0 0)  
    (k : JS Z X 32 [(0, .ref (Z.2.2.1 + 455)), (1, .int (nI 0))] [] μ) :
    JS Z X 30 [(0, .ref (Z.2.2.1 + 455))] [] μ := by
  refine J_iconst (v := nI 0) E dX12_digest_30 rfl ?_
  refine J_istore_n (lv' := [(0, .ref (Z.2.2.1 + 455)), (1, .int (nI 0))]) E dX12_digest_31 (Nat.le_of_ble_eq_true rfl) rfl ?_
  exact k
theorem bX12_digest_32 {Z : ZT} {X : XT} {μ : Mu} {a1 : Int32} (E : Ent Z X mX12_digest 0 0)  (s1_ : vp_in (nI 0) 988)
    (kt : (μ 456 (ix (nI 0))) ≤ a1 → JS Z X 97 [(0, .ref (Z.2.2.1 + 455))] [] μ) (kf : ¬ ((μ 456 (ix (nI 0))) ≤ a1) → JS Z X 42 [(0, .ref (Z.2.2.1 + 455)), (1, .int a1)] [] μ) :
    JS Z X 32 [(0, .ref (Z.2.2.1 + 455)), (1, .int a1)] [] μ := by
  refine J_iload_n E dX12_digest_32 rfl ?_
  refine J_aload_n E dX12_digest_33 rfl ?_
  refine S_get (ci := 12) (q := 0) (v := .ref (Z.2.2.1 + 456)) E dX12_digest_34 fs_X12_7 sh455 rfl ?_
  refine J_iconst (v := nI 0) E dX12_digest_37 rfl ?_
  refine S_iald E dX12_digest_38 sh456 s1_ ?_
  refine J_icmp_ge (tgt := 97) E dX12_digest_39 (by decide) (fun c => ?_) (fun c => ?_)
  · refine J.weak [0] rfl ?_
    exact kt c
  · exact kf c
theorem bX12_digest_42 {Z : ZT} {X : XT} {μ : Mu} {a1 : Int32} (E : Ent Z X mX12_digest 0 0)  
    (k : JS Z X 44 [(0, .ref (Z.2.2.1 + 455)), (1, .int a1), (2, .int (nI 0))] [] μ) :
    JS Z X 42 [(0, .ref (Z.2.2.1 + 455)), (1, .int a1)] [] μ := by
  refine J_iconst (v := nI 0) E dX12_digest_42 rfl ?_
  refine J_istore_n (lv' := [(0, .ref (Z.2.2.1 + 455)), (1, .int a1), (2, .int (nI 0))]) E dX12_digest_43 (Nat.le_of_ble_eq_true rfl) rfl ?_
  exact k
theorem bX12_digest_44 {Z : ZT} {X : XT} {μ : Mu} {a1 : Int32} {a2 : Int32} (E : Ent Z X mX12_digest 0 0)  
    (kt : a1 ≤ a2 → JS Z X 72 [(0, .ref (Z.2.2.1 + 455)), (1, .int a1)] [] μ) (kf : ¬ (a1 ≤ a2) → JS Z X 49 [(0, .ref (Z.2.2.1 + 455)), (1, .int a1), (2, .int a2)] [] μ) :
    JS Z X 44 [(0, .ref (Z.2.2.1 + 455)), (1, .int a1), (2, .int a2)] [] μ := by
  refine J_iload_n E dX12_digest_44 rfl ?_
  refine J_iload_n E dX12_digest_45 rfl ?_
  refine J_icmp_ge (tgt := 72) E dX12_digest_46 (by decide) (fun c => ?_) (fun c => ?_)
  · refine J.weak [0, 1] rfl ?_
    exact kt c
  · exact kf c
theorem bX12_digest_49 {Z : ZT} {X : XT} {μ : Mu} {a1 : Int32} {a2 : Int32} (E : Ent Z X mX12_digest 0 0) {p : Mu → Prop} (s1_ : vp_in (((nI 1) + ((nI 10) * a1)) + a2) 988)
    (c : CtrS Z mX12_mix [.ref (Z.2.2.1 + 455), .int (μ 456 (ix (((nI 1) + ((nI 10) * a1)) + a2)))] μ (rV p)) (k : ∀ μ1, p μ1 → JS Z X 66 [(0, .ref (Z.2.2.1 + 455)), (1, .int a1), (2, .int a2)] [] μ1) :
    JS Z X 49 [(0, .ref (Z.2.2.1 + 455)), (1, .int a1), (2, .int a2)] [] μ := by
  refine J_aload_n E dX12_digest_49 rfl ?_
  refine J_aload_n E dX12_digest_50 rfl ?_
  refine S_get (ci := 12) (q := 0) (v := .ref (Z.2.2.1 + 456)) E dX12_digest_51 fs_X12_7 sh455 rfl ?_
  refine J_iconst (v := nI 1) E dX12_digest_54 rfl ?_
  refine J_bipush (v := nI 10) E dX12_digest_55 rfl ?_
  refine J_iload_n E dX12_digest_57 rfl ?_
  refine J_imul E dX12_digest_58 ?_
  refine J_iadd E dX12_digest_59 ?_
  refine J_iload_n E dX12_digest_60 rfl ?_
  refine J_iadd E dX12_digest_61 ?_
  refine S_iald E dX12_digest_62 sh456 s1_ ?_
  refine S_callV (As := [.int (μ 456 (ix (((nI 1) + ((nI 10) * a1)) + a2)))]) (rest := []) E dX12_digest_63 c kX12_mix ⟨Nat.le_of_ble_eq_true rfl, Nat.le_of_ble_eq_true rfl⟩ rfl (Nat.le_of_ble_eq_true rfl) sh455 rfl rfl w7_208 w7_210 wp_87 (fun r_ μ1 hp_ => ?_)
  obtain ⟨rfl, hp_⟩ := hp_
  exact k μ1 hp_
theorem bX12_digest_66 {Z : ZT} {X : XT} {μ : Mu} {a1 : Int32} {a2 : Int32} (E : Ent Z X mX12_digest 0 0)  
    (k : JS Z X 44 [(0, .ref (Z.2.2.1 + 455)), (1, .int a1), (2, .int (a2 + nI 1))] [] μ) :
    JS Z X 66 [(0, .ref (Z.2.2.1 + 455)), (1, .int a1), (2, .int a2)] [] μ := by
  refine J_iinc (v := a2 + nI 1) (lv' := [(0, .ref (Z.2.2.1 + 455)), (1, .int a1), (2, .int (a2 + nI 1))]) E dX12_digest_66 rfl rfl (Nat.le_of_ble_eq_true rfl) rfl ?_
  refine J_goto (tgt := 44) E dX12_digest_69 (by decide) ?_
  exact k
theorem bX12_digest_72 {Z : ZT} {X : XT} {μ : Mu} {a1 : Int32} (E : Ent Z X mX12_digest 0 0) {p : Mu → Prop} (s1_ : vp_in ((nI 101) + a1) 988)
    (c : CtrS Z mX12_mix [.ref (Z.2.2.1 + 455), .int ((μ 456 (ix ((nI 101) + a1))) &&& (((nI 1) <<< (a1 &&& 31)) ^^^ (-1)))] μ (rV p)) (k : ∀ μ1, p μ1 → JS Z X 91 [(0, .ref (Z.2.2.1 + 455)), (1, .int a1)] [] μ1) :
    JS Z X 72 [(0, .ref (Z.2.2.1 + 455)), (1, .int a1)] [] μ := by
  refine J_aload_n E dX12_digest_72 rfl ?_
  refine J_aload_n E dX12_digest_73 rfl ?_
  refine S_get (ci := 12) (q := 0) (v := .ref (Z.2.2.1 + 456)) E dX12_digest_74 fs_X12_7 sh455 rfl ?_
  refine J_bipush (v := nI 101) E dX12_digest_77 rfl ?_
  refine J_iload_n E dX12_digest_79 rfl ?_
  refine J_iadd E dX12_digest_80 ?_
  refine S_iald E dX12_digest_81 sh456 s1_ ?_
  refine J_iconst (v := nI 1) E dX12_digest_82 rfl ?_
  refine J_iload_n E dX12_digest_83 rfl ?_
  refine J_ishl E dX12_digest_84 ?_
  refine J_iconst (v := -1) E dX12_digest_85 rfl ?_
  refine J_ixor E dX12_digest_86 ?_
  refine J_iand E dX12_digest_87 ?_
  refine S_callV (As := [.int ((μ 456 (ix ((nI 101) + a1))) &&& (((nI 1) <<< (a1 &&& 31)) ^^^ (-1)))]) (rest := []) E dX12_digest_88 c kX12_mix ⟨Nat.le_of_ble_eq_true rfl, Nat.le_of_ble_eq_true rfl⟩ rfl (Nat.le_of_ble_eq_true rfl) sh455 rfl rfl w7_208 w7_210 wp_87 (fun r_ μ1 hp_ => ?_)
  obtain ⟨rfl, hp_⟩ := hp_
  exact k μ1 hp_
theorem bX12_digest_91 {Z : ZT} {X : XT} {μ : Mu} {a1 : Int32} (E : Ent Z X mX12_digest 0 0)  
    (k : JS Z X 32 [(0, .ref (Z.2.2.1 + 455)), (1, .int (a1 + nI 1))] [] μ) :
    JS Z X 91 [(0, .ref (Z.2.2.1 + 455)), (1, .int a1)] [] μ := by
  refine J_iinc (v := a1 + nI 1) (lv' := [(0, .ref (Z.2.2.1 + 455)), (1, .int (a1 + nI 1))]) E dX12_digest_91 rfl rfl (Nat.le_of_ble_eq_true rfl) rfl ?_
  refine J_goto (tgt := 32) E dX12_digest_94 (by decide) ?_
  exact k
theorem bX12_digest_97 {Z : ZT} {X : XT} {μ : Mu} (E : Ent Z X mX12_digest 0 0)  
    (k : JS Z X 99 [(0, .ref (Z.2.2.1 + 455)), (1, .int (nI 0))] [] μ) :
    JS Z X 97 [(0, .ref (Z.2.2.1 + 455))] [] μ := by
  refine J_iconst (v := nI 0) E dX12_digest_97 rfl ?_
  refine J_istore_n (lv' := [(0, .ref (Z.2.2.1 + 455)), (1, .int (nI 0))]) E dX12_digest_98 (Nat.le_of_ble_eq_true rfl) rfl ?_
  exact k
theorem bX12_digest_99 {Z : ZT} {X : XT} {μ : Mu} {a1 : Int32} (E : Ent Z X mX12_digest 0 0)  (s1_ : vp_in (nI 111) 988)
    (kt : (μ 456 (ix (nI 111))) ≤ a1 → JS Z X 187 [(0, .ref (Z.2.2.1 + 455))] [] μ) (kf : ¬ ((μ 456 (ix (nI 111))) ≤ a1) → JS Z X 110 [(0, .ref (Z.2.2.1 + 455)), (1, .int a1)] [] μ) :
    JS Z X 99 [(0, .ref (Z.2.2.1 + 455)), (1, .int a1)] [] μ := by
  refine J_iload_n E dX12_digest_99 rfl ?_
  refine J_aload_n E dX12_digest_100 rfl ?_
  refine S_get (ci := 12) (q := 0) (v := .ref (Z.2.2.1 + 456)) E dX12_digest_101 fs_X12_7 sh455 rfl ?_
  refine J_bipush (v := nI 111) E dX12_digest_104 rfl ?_
  refine S_iald E dX12_digest_106 sh456 s1_ ?_
  refine J_icmp_ge (tgt := 187) E dX12_digest_107 (by decide) (fun c => ?_) (fun c => ?_)
  · refine J.weak [0] rfl ?_
    exact kt c
  · exact kf c
theorem bX12_digest_110 {Z : ZT} {X : XT} {μ : Mu} {a1 : Int32} (E : Ent Z X mX12_digest 0 0) {p : Mu → Prop} (s1_ : vp_in ((nI 112) + a1) 988)
    (c : CtrS Z mX12_mix [.ref (Z.2.2.1 + 455), .int (μ 456 (ix ((nI 112) + a1)))] μ (rV p)) (k : ∀ μ1, p μ1 → JS Z X 123 [(0, .ref (Z.2.2.1 + 455)), (1, .int a1)] [] μ1) :
    JS Z X 110 [(0, .ref (Z.2.2.1 + 455)), (1, .int a1)] [] μ := by
  refine J_aload_n E dX12_digest_110 rfl ?_
  refine J_aload_n E dX12_digest_111 rfl ?_
  refine S_get (ci := 12) (q := 0) (v := .ref (Z.2.2.1 + 456)) E dX12_digest_112 fs_X12_7 sh455 rfl ?_
  refine J_bipush (v := nI 112) E dX12_digest_115 rfl ?_
  refine J_iload_n E dX12_digest_117 rfl ?_
  refine J_iadd E dX12_digest_118 ?_
  refine S_iald E dX12_digest_119 sh456 s1_ ?_
  refine S_callV (As := [.int (μ 456 (ix ((nI 112) + a1)))]) (rest := []) E dX12_digest_120 c kX12_mix ⟨Nat.le_of_ble_eq_true rfl, Nat.le_of_ble_eq_true rfl⟩ rfl (Nat.le_of_ble_eq_true rfl) sh455 rfl rfl w7_208 w7_210 wp_87 (fun r_ μ1 hp_ => ?_)
  obtain ⟨rfl, hp_⟩ := hp_
  exact k μ1 hp_
theorem bX12_digest_123 {Z : ZT} {X : XT} {μ : Mu} {a1 : Int32} (E : Ent Z X mX12_digest 0 0)  
    (k : JS Z X 125 [(0, .ref (Z.2.2.1 + 455)), (1, .int a1), (2, .int (nI 0))] [] μ) :
    JS Z X 123 [(0, .ref (Z.2.2.1 + 455)), (1, .int a1)] [] μ := by
  refine J_iconst (v := nI 0) E dX12_digest_123 rfl ?_
  refine J_istore_n (lv' := [(0, .ref (Z.2.2.1 + 455)), (1, .int a1), (2, .int (nI 0))]) E dX12_digest_124 (Nat.le_of_ble_eq_true rfl) rfl ?_
  exact k
theorem bX12_digest_125 {Z : ZT} {X : XT} {μ : Mu} {a1 : Int32} {a2 : Int32} (E : Ent Z X mX12_digest 0 0)  
    (kt : (nI 4) ≤ a2 → JS Z X 153 [(0, .ref (Z.2.2.1 + 455)), (1, .int a1)] [] μ) (kf : ¬ ((nI 4) ≤ a2) → JS Z X 130 [(0, .ref (Z.2.2.1 + 455)), (1, .int a1), (2, .int a2)] [] μ) :
    JS Z X 125 [(0, .ref (Z.2.2.1 + 455)), (1, .int a1), (2, .int a2)] [] μ := by
  refine J_iload_n E dX12_digest_125 rfl ?_
  refine J_iconst (v := nI 4) E dX12_digest_126 rfl ?_
  refine J_icmp_ge (tgt := 153) E dX12_digest_127 (by decide) (fun c => ?_) (fun c => ?_)
  · refine J.weak [0, 1] rfl ?_
    exact kt c
  · exact kf c
theorem bX12_digest_130 {Z : ZT} {X : XT} {μ : Mu} {a1 : Int32} {a2 : Int32} (E : Ent Z X mX12_digest 0 0) {p : Mu → Prop} (s1_ : vp_in (((nI 118) + ((nI 4) * a1)) + a2) 988)
    (c : CtrS Z mX12_mix [.ref (Z.2.2.1 + 455), .int (μ 456 (ix (((nI 118) + ((nI 4) * a1)) + a2)))] μ (rV p)) (k : ∀ μ1, p μ1 → JS Z X 147 [(0, .ref (Z.2.2.1 + 455)), (1, .int a1), (2, .int a2)] [] μ1) :
    JS Z X 130 [(0, .ref (Z.2.2.1 + 455)), (1, .int a1), (2, .int a2)] [] μ := by
  refine J_aload_n E dX12_digest_130 rfl ?_
  refine J_aload_n E dX12_digest_131 rfl ?_
  refine S_get (ci := 12) (q := 0) (v := .ref (Z.2.2.1 + 456)) E dX12_digest_132 fs_X12_7 sh455 rfl ?_
  refine J_bipush (v := nI 118) E dX12_digest_135 rfl ?_
  refine J_iconst (v := nI 4) E dX12_digest_137 rfl ?_
  refine J_iload_n E dX12_digest_138 rfl ?_
  refine J_imul E dX12_digest_139 ?_
  refine J_iadd E dX12_digest_140 ?_
  refine J_iload_n E dX12_digest_141 rfl ?_
  refine J_iadd E dX12_digest_142 ?_
  refine S_iald E dX12_digest_143 sh456 s1_ ?_
  refine S_callV (As := [.int (μ 456 (ix (((nI 118) + ((nI 4) * a1)) + a2)))]) (rest := []) E dX12_digest_144 c kX12_mix ⟨Nat.le_of_ble_eq_true rfl, Nat.le_of_ble_eq_true rfl⟩ rfl (Nat.le_of_ble_eq_true rfl) sh455 rfl rfl w7_208 w7_210 wp_87 (fun r_ μ1 hp_ => ?_)
  obtain ⟨rfl, hp_⟩ := hp_
  exact k μ1 hp_
theorem bX12_digest_147 {Z : ZT} {X : XT} {μ : Mu} {a1 : Int32} {a2 : Int32} (E : Ent Z X mX12_digest 0 0)  
    (k : JS Z X 125 [(0, .ref (Z.2.2.1 + 455)), (1, .int a1), (2, .int (a2 + nI 1))] [] μ) :
    JS Z X 147 [(0, .ref (Z.2.2.1 + 455)), (1, .int a1), (2, .int a2)] [] μ := by
  refine J_iinc (v := a2 + nI 1) (lv' := [(0, .ref (Z.2.2.1 + 455)), (1, .int a1), (2, .int (a2 + nI 1))]) E dX12_digest_147 rfl rfl (Nat.le_of_ble_eq_true rfl) rfl ?_
  refine J_goto (tgt := 125) E dX12_digest_150 (by decide) ?_
  exact k
theorem bX12_digest_153 {Z : ZT} {X : XT} {μ : Mu} {a1 : Int32} (E : Ent Z X mX12_digest 0 0) {p : Mu → Prop} (s1_ : vp_in ((nI 142) + a1) 988)
    (c : CtrS Z mX12_mix [.ref (Z.2.2.1 + 455), .int (μ 456 (ix ((nI 142) + a1)))] μ (rV p)) (k : ∀ μ1, p μ1 → JS Z X 167 [(0, .ref (Z.2.2.1 + 455)), (1, .int a1)] [] μ1) :
    JS Z X 153 [(0, .ref (Z.2.2.1 + 455)), (1, .int a1)] [] μ := by
  refine J_aload_n E dX12_digest_153 rfl ?_
  refine J_aload_n E dX12_digest_154 rfl ?_
  refine S_get (ci := 12) (q := 0) (v := .ref (Z.2.2.1 + 456)) E dX12_digest_155 fs_X12_7 sh455 rfl ?_
  refine J_sipush (v := nI 142) E dX12_digest_158 rfl ?_
  refine J_iload_n E dX12_digest_161 rfl ?_
  refine J_iadd E dX12_digest_162 ?_
  refine S_iald E dX12_digest_163 sh456 s1_ ?_
  refine S_callV (As := [.int (μ 456 (ix ((nI 142) + a1)))]) (rest := []) E dX12_digest_164 c kX12_mix ⟨Nat.le_of_ble_eq_true rfl, Nat.le_of_ble_eq_true rfl⟩ rfl (Nat.le_of_ble_eq_true rfl) sh455 rfl rfl w7_208 w7_210 wp_87 (fun r_ μ1 hp_ => ?_)
  obtain ⟨rfl, hp_⟩ := hp_
  exact k μ1 hp_
theorem bX12_digest_167 {Z : ZT} {X : XT} {μ : Mu} {a1 : Int32} (E : Ent Z X mX12_digest 0 0) {p : Mu → Prop} (s1_ : vp_in ((nI 148) + a1) 988)
    (c : CtrS Z mX12_mix [.ref (Z.2.2.1 + 455), .int (μ 456 (ix ((nI 148) + a1)))] μ (rV p)) (k : ∀ μ1, p μ1 → JS Z X 181 [(0, .ref (Z.2.2.1 + 455)), (1, .int a1)] [] μ1) :
    JS Z X 167 [(0, .ref (Z.2.2.1 + 455)), (1, .int a1)] [] μ := by
  refine J_aload_n E dX12_digest_167 rfl ?_
  refine J_aload_n E dX12_digest_168 rfl ?_
  refine S_get (ci := 12) (q := 0) (v := .ref (Z.2.2.1 + 456)) E dX12_digest_169 fs_X12_7 sh455 rfl ?_
  refine J_sipush (v := nI 148) E dX12_digest_172 rfl ?_
  refine J_iload_n E dX12_digest_175 rfl ?_
  refine J_iadd E dX12_digest_176 ?_
  refine S_iald E dX12_digest_177 sh456 s1_ ?_
  refine S_callV (As := [.int (μ 456 (ix ((nI 148) + a1)))]) (rest := []) E dX12_digest_178 c kX12_mix ⟨Nat.le_of_ble_eq_true rfl, Nat.le_of_ble_eq_true rfl⟩ rfl (Nat.le_of_ble_eq_true rfl) sh455 rfl rfl w7_208 w7_210 wp_87 (fun r_ μ1 hp_ => ?_)
  obtain ⟨rfl, hp_⟩ := hp_
  exact k μ1 hp_
theorem bX12_digest_181 {Z : ZT} {X : XT} {μ : Mu} {a1 : Int32} (E : Ent Z X mX12_digest 0 0)  
    (k : JS Z X 99 [(0, .ref (Z.2.2.1 + 455)), (1, .int (a1 + nI 1))] [] μ) :
    JS Z X 181 [(0, .ref (Z.2.2.1 + 455)), (1, .int a1)] [] μ := by
  refine J_iinc (v := a1 + nI 1) (lv' := [(0, .ref (Z.2.2.1 + 455)), (1, .int (a1 + nI 1))]) E dX12_digest_181 rfl rfl (Nat.le_of_ble_eq_true rfl) rfl ?_
  refine J_goto (tgt := 99) E dX12_digest_184 (by decide) ?_
  exact k
theorem bX12_digest_187 {Z : ZT} {X : XT} {μ : Mu} (E : Ent Z X mX12_digest 0 0)  
    (k : JS Z X 189 [(0, .ref (Z.2.2.1 + 455)), (1, .int (nI 0))] [] μ) :
    JS Z X 187 [(0, .ref (Z.2.2.1 + 455))] [] μ := by
  refine J_iconst (v := nI 0) E dX12_digest_187 rfl ?_
  refine J_istore_n (lv' := [(0, .ref (Z.2.2.1 + 455)), (1, .int (nI 0))]) E dX12_digest_188 (Nat.le_of_ble_eq_true rfl) rfl ?_
  exact k
theorem bX12_digest_189 {Z : ZT} {X : XT} {μ : Mu} {a1 : Int32} (E : Ent Z X mX12_digest 0 0)  (s1_ : vp_in (nI 154) 988)
    (kt : (μ 456 (ix (nI 154))) ≤ a1 → JS Z X 263 [(0, .ref (Z.2.2.1 + 455))] [] μ) (kf : ¬ ((μ 456 (ix (nI 154))) ≤ a1) → JS Z X 201 [(0, .ref (Z.2.2.1 + 455)), (1, .int a1)] [] μ) :
    JS Z X 189 [(0, .ref (Z.2.2.1 + 455)), (1, .int a1)] [] μ := by
  refine J_iload_n E dX12_digest_189 rfl ?_
  refine J_aload_n E dX12_digest_190 rfl ?_
  refine S_get (ci := 12) (q := 0) (v := .ref (Z.2.2.1 + 456)) E dX12_digest_191 fs_X12_7 sh455 rfl ?_
  refine J_sipush (v := nI 154) E dX12_digest_194 rfl ?_
  refine S_iald E dX12_digest_197 sh456 s1_ ?_
  refine J_icmp_ge (tgt := 263) E dX12_digest_198 (by decide) (fun c => ?_) (fun c => ?_)
  · refine J.weak [0] rfl ?_
    exact kt c
  · exact kf c
theorem bX12_digest_201 {Z : ZT} {X : XT} {μ : Mu} {a1 : Int32} (E : Ent Z X mX12_digest 0 0) {p : Mu → Prop} (s1_ : vp_in ((nI 155) + a1) 988)
    (c : CtrS Z mX12_mix [.ref (Z.2.2.1 + 455), .int (μ 456 (ix ((nI 155) + a1)))] μ (rV p)) (k : ∀ μ1, p μ1 → JS Z X 215 [(0, .ref (Z.2.2.1 + 455)), (1, .int a1)] [] μ1) :
    JS Z X 201 [(0, .ref (Z.2.2.1 + 455)), (1, .int a1)] [] μ := by
  refine J_aload_n E dX12_digest_201 rfl ?_
  refine J_aload_n E dX12_digest_202 rfl ?_
  refine S_get (ci := 12) (q := 0) (v := .ref (Z.2.2.1 + 456)) E dX12_digest_203 fs_X12_7 sh455 rfl ?_
  refine J_sipush (v := nI 155) E dX12_digest_206 rfl ?_
  refine J_iload_n E dX12_digest_209 rfl ?_
  refine J_iadd E dX12_digest_210 ?_
  refine S_iald E dX12_digest_211 sh456 s1_ ?_
  refine S_callV (As := [.int (μ 456 (ix ((nI 155) + a1)))]) (rest := []) E dX12_digest_212 c kX12_mix ⟨Nat.le_of_ble_eq_true rfl, Nat.le_of_ble_eq_true rfl⟩ rfl (Nat.le_of_ble_eq_true rfl) sh455 rfl rfl w7_208 w7_210 wp_87 (fun r_ μ1 hp_ => ?_)
  obtain ⟨rfl, hp_⟩ := hp_
  exact k μ1 hp_
theorem bX12_digest_215 {Z : ZT} {X : XT} {μ : Mu} {a1 : Int32} (E : Ent Z X mX12_digest 0 0) {p : Mu → Prop} (s1_ : vp_in ((nI 163) + a1) 988)
    (c : CtrS Z mX12_mix [.ref (Z.2.2.1 + 455), .int (μ 456 (ix ((nI 163) + a1)))] μ (rV p)) (k : ∀ μ1, p μ1 → JS Z X 229 [(0, .ref (Z.2.2.1 + 455)), (1, .int a1)] [] μ1) :
    JS Z X 215 [(0, .ref (Z.2.2.1 + 455)), (1, .int a1)] [] μ := by
  refine J_aload_n E dX12_digest_215 rfl ?_
  refine J_aload_n E dX12_digest_216 rfl ?_
  refine S_get (ci := 12) (q := 0) (v := .ref (Z.2.2.1 + 456)) E dX12_digest_217 fs_X12_7 sh455 rfl ?_
  refine J_sipush (v := nI 163) E dX12_digest_220 rfl ?_
  refine J_iload_n E dX12_digest_223 rfl ?_
  refine J_iadd E dX12_digest_224 ?_
  refine S_iald E dX12_digest_225 sh456 s1_ ?_
  refine S_callV (As := [.int (μ 456 (ix ((nI 163) + a1)))]) (rest := []) E dX12_digest_226 c kX12_mix ⟨Nat.le_of_ble_eq_true rfl, Nat.le_of_ble_eq_true rfl⟩ rfl (Nat.le_of_ble_eq_true rfl) sh455 rfl rfl w7_208 w7_210 wp_87 (fun r_ μ1 hp_ => ?_)
  obtain ⟨rfl, hp_⟩ := hp_
  exact k μ1 hp_
theorem bX12_digest_229 {Z : ZT} {X : XT} {μ : Mu} {a1 : Int32} (E : Ent Z X mX12_digest 0 0) {p : Mu → Prop} (s1_ : vp_in ((nI 171) + a1) 988)
    (c : CtrS Z mX12_mix [.ref (Z.2.2.1 + 455), .int (μ 456 (ix ((nI 171) + a1)))] μ (rV p)) (k : ∀ μ1, p μ1 → JS Z X 243 [(0, .ref (Z.2.2.1 + 455)), (1, .int a1)] [] μ1) :
    JS Z X 229 [(0, .ref (Z.2.2.1 + 455)), (1, .int a1)] [] μ := by
  refine J_aload_n E dX12_digest_229 rfl ?_
  refine J_aload_n E dX12_digest_230 rfl ?_
  refine S_get (ci := 12) (q := 0) (v := .ref (Z.2.2.1 + 456)) E dX12_digest_231 fs_X12_7 sh455 rfl ?_
  refine J_sipush (v := nI 171) E dX12_digest_234 rfl ?_
  refine J_iload_n E dX12_digest_237 rfl ?_
  refine J_iadd E dX12_digest_238 ?_
  refine S_iald E dX12_digest_239 sh456 s1_ ?_
  refine S_callV (As := [.int (μ 456 (ix ((nI 171) + a1)))]) (rest := []) E dX12_digest_240 c kX12_mix ⟨Nat.le_of_ble_eq_true rfl, Nat.le_of_ble_eq_true rfl⟩ rfl (Nat.le_of_ble_eq_true rfl) sh455 rfl rfl w7_208 w7_210 wp_87 (fun r_ μ1 hp_ => ?_)
  obtain ⟨rfl, hp_⟩ := hp_
  exact k μ1 hp_
theorem bX12_digest_243 {Z : ZT} {X : XT} {μ : Mu} {a1 : Int32} (E : Ent Z X mX12_digest 0 0) {p : Mu → Prop} (s1_ : vp_in ((nI 179) + a1) 988)
    (c : CtrS Z mX12_mix [.ref (Z.2.2.1 + 455), .int (μ 456 (ix ((nI 179) + a1)))] μ (rV p)) (k : ∀ μ1, p μ1 → JS Z X 257 [(0, .ref (Z.2.2.1 + 455)), (1, .int a1)] [] μ1) :
    JS Z X 243 [(0, .ref (Z.2.2.1 + 455)), (1, .int a1)] [] μ := by
  refine J_aload_n E dX12_digest_243 rfl ?_
  refine J_aload_n E dX12_digest_244 rfl ?_
  refine S_get (ci := 12) (q := 0) (v := .ref (Z.2.2.1 + 456)) E dX12_digest_245 fs_X12_7 sh455 rfl ?_
  refine J_sipush (v := nI 179) E dX12_digest_248 rfl ?_
  refine J_iload_n E dX12_digest_251 rfl ?_
  refine J_iadd E dX12_digest_252 ?_
  refine S_iald E dX12_digest_253 sh456 s1_ ?_
  refine S_callV (As := [.int (μ 456 (ix ((nI 179) + a1)))]) (rest := []) E dX12_digest_254 c kX12_mix ⟨Nat.le_of_ble_eq_true rfl, Nat.le_of_ble_eq_true rfl⟩ rfl (Nat.le_of_ble_eq_true rfl) sh455 rfl rfl w7_208 w7_210 wp_87 (fun r_ μ1 hp_ => ?_)
  obtain ⟨rfl, hp_⟩ := hp_
  exact k μ1 hp_
theorem bX12_digest_257 {Z : ZT} {X : XT} {μ : Mu} {a1 : Int32} (E : Ent Z X mX12_digest 0 0)  
    (k : JS Z X 189 [(0, .ref (Z.2.2.1 + 455)), (1, .int (a1 + nI 1))] [] μ) :
    JS Z X 257 [(0, .ref (Z.2.2.1 + 455)), (1, .int a1)] [] μ := by
  refine J_iinc (v := a1 + nI 1) (lv' := [(0, .ref (Z.2.2.1 + 455)), (1, .int (a1 + nI 1))]) E dX12_digest_257 rfl rfl (Nat.le_of_ble_eq_true rfl) rfl ?_
  refine J_goto (tgt := 189) E dX12_digest_260 (by decide) ?_
  exact k
theorem bX12_digest_263 {Z : ZT} {X : XT} {μ : Mu} (E : Ent Z X mX12_digest 0 0)  
    (k : JS Z X 265 [(0, .ref (Z.2.2.1 + 455)), (1, .int (nI 0))] [] μ) :
    JS Z X 263 [(0, .ref (Z.2.2.1 + 455))] [] μ := by
  refine J_iconst (v := nI 0) E dX12_digest_263 rfl ?_
  refine J_istore_n (lv' := [(0, .ref (Z.2.2.1 + 455)), (1, .int (nI 0))]) E dX12_digest_264 (Nat.le_of_ble_eq_true rfl) rfl ?_
  exact k
theorem bX12_digest_265 {Z : ZT} {X : XT} {μ : Mu} {a1 : Int32} (E : Ent Z X mX12_digest 0 0)  
    (kt : (nI 12) ≤ a1 → JS Z X 311 [(0, .ref (Z.2.2.1 + 455))] [] μ) (kf : ¬ ((nI 12) ≤ a1) → JS Z X 271 [(0, .ref (Z.2.2.1 + 455)), (1, .int a1)] [] μ) :
    JS Z X 265 [(0, .ref (Z.2.2.1 + 455)), (1, .int a1)] [] μ := by
  refine J_iload_n E dX12_digest_265 rfl ?_
  refine J_bipush (v := nI 12) E dX12_digest_266 rfl ?_
  refine J_icmp_ge (tgt := 311) E dX12_digest_268 (by decide) (fun c => ?_) (fun c => ?_)
  · refine J.weak [0] rfl ?_
    exact kt c
  · exact kf c
theorem bX12_digest_271 {Z : ZT} {X : XT} {μ : Mu} {a1 : Int32} (E : Ent Z X mX12_digest 0 0)  (s1_ : vp_in ((nI 187) + (a1 / (nI 6))) 988)
    (kt : (μ 456 (ix ((nI 187) + (a1 / (nI 6))))) ≤ (a1 - a1 / (nI 6) * (nI 6)) → JS Z X 305 [(0, .ref (Z.2.2.1 + 455)), (1, .int a1)] [] μ) (kf : ¬ ((μ 456 (ix ((nI 187) + (a1 / (nI 6))))) ≤ (a1 - a1 / (nI 6) * (nI 6))) → JS Z X 291 [(0, .ref (Z.2.2.1 + 455)), (1, .int a1)] [] μ) :
    JS Z X 271 [(0, .ref (Z.2.2.1 + 455)), (1, .int a1)] [] μ := by
  refine J_iload_n E dX12_digest_271 rfl ?_
  refine J_bipush (v := nI 6) E dX12_digest_272 rfl ?_
  refine J_irem E dX12_digest_274 (by decide) ?_
  refine J_aload_n E dX12_digest_275 rfl ?_
  refine S_get (ci := 12) (q := 0) (v := .ref (Z.2.2.1 + 456)) E dX12_digest_276 fs_X12_7 sh455 rfl ?_
  refine J_sipush (v := nI 187) E dX12_digest_279 rfl ?_
  refine J_iload_n E dX12_digest_282 rfl ?_
  refine J_bipush (v := nI 6) E dX12_digest_283 rfl ?_
  refine J_idiv E dX12_digest_285 (by decide) ?_
  refine J_iadd E dX12_digest_286 ?_
  refine S_iald E dX12_digest_287 sh456 s1_ ?_
  refine J_icmp_ge (tgt := 305) E dX12_digest_288 (by decide) (fun c => ?_) (fun c => ?_)
  · exact kt c
  · exact kf c
theorem bX12_digest_291 {Z : ZT} {X : XT} {μ : Mu} {a1 : Int32} (E : Ent Z X mX12_digest 0 0) {p : Mu → Prop} (s1_ : vp_in ((nI 189) + a1) 988)
    (c : CtrS Z mX12_mix [.ref (Z.2.2.1 + 455), .int (μ 456 (ix ((nI 189) + a1)))] μ (rV p)) (k : ∀ μ1, p μ1 → JS Z X 305 [(0, .ref (Z.2.2.1 + 455)), (1, .int a1)] [] μ1) :
    JS Z X 291 [(0, .ref (Z.2.2.1 + 455)), (1, .int a1)] [] μ := by
  refine J_aload_n E dX12_digest_291 rfl ?_
  refine J_aload_n E dX12_digest_292 rfl ?_
  refine S_get (ci := 12) (q := 0) (v := .ref (Z.2.2.1 + 456)) E dX12_digest_293 fs_X12_7 sh455 rfl ?_
  refine J_sipush (v := nI 189) E dX12_digest_296 rfl ?_
  refine J_iload_n E dX12_digest_299 rfl ?_
  refine J_iadd E dX12_digest_300 ?_
  refine S_iald E dX12_digest_301 sh456 s1_ ?_
  refine S_callV (As := [.int (μ 456 (ix ((nI 189) + a1)))]) (rest := []) E dX12_digest_302 c kX12_mix ⟨Nat.le_of_ble_eq_true rfl, Nat.le_of_ble_eq_true rfl⟩ rfl (Nat.le_of_ble_eq_true rfl) sh455 rfl rfl w7_208 w7_210 wp_87 (fun r_ μ1 hp_ => ?_)
  obtain ⟨rfl, hp_⟩ := hp_
  exact k μ1 hp_
theorem bX12_digest_305 {Z : ZT} {X : XT} {μ : Mu} {a1 : Int32} (E : Ent Z X mX12_digest 0 0)  
    (k : JS Z X 265 [(0, .ref (Z.2.2.1 + 455)), (1, .int (a1 + nI 1))] [] μ) :
    JS Z X 305 [(0, .ref (Z.2.2.1 + 455)), (1, .int a1)] [] μ := by
  refine J_iinc (v := a1 + nI 1) (lv' := [(0, .ref (Z.2.2.1 + 455)), (1, .int (a1 + nI 1))]) E dX12_digest_305 rfl rfl (Nat.le_of_ble_eq_true rfl) rfl ?_
  refine J_goto (tgt := 265) E dX12_digest_308 (by decide) ?_
  exact k
theorem bX12_digest_311 {Z : ZT} {X : XT} {μ : Mu} (E : Ent Z X mX12_digest 0 0)  
    (k : JS Z X 313 [(0, .ref (Z.2.2.1 + 455)), (1, .int (nI 0))] [] μ) :
    JS Z X 311 [(0, .ref (Z.2.2.1 + 455))] [] μ := by
  refine J_iconst (v := nI 0) E dX12_digest_311 rfl ?_
  refine J_istore_n (lv' := [(0, .ref (Z.2.2.1 + 455)), (1, .int (nI 0))]) E dX12_digest_312 (Nat.le_of_ble_eq_true rfl) rfl ?_
  exact k
theorem bX12_digest_313 {Z : ZT} {X : XT} {μ : Mu} {a1 : Int32} (E : Ent Z X mX12_digest 0 0)  
    (kt : (nI 5) ≤ a1 → JS Z X 338 [(0, .ref (Z.2.2.1 + 455))] [] μ) (kf : ¬ ((nI 5) ≤ a1) → JS Z X 318 [(0, .ref (Z.2.2.1 + 455)), (1, .int a1)] [] μ) :
    JS Z X 313 [(0, .ref (Z.2.2.1 + 455)), (1, .int a1)] [] μ := by
  refine J_iload_n E dX12_digest_313 rfl ?_
  refine J_iconst (v := nI 5) E dX12_digest_314 rfl ?_
  refine J_icmp_ge (tgt := 338) E dX12_digest_315 (by decide) (fun c => ?_) (fun c => ?_)
  · refine J.weak [0] rfl ?_
    exact kt c
  · exact kf c
theorem bX12_digest_318 {Z : ZT} {X : XT} {μ : Mu} {a1 : Int32} (E : Ent Z X mX12_digest 0 0) {p : Mu → Prop} (s1_ : vp_in ((nI 201) + a1) 988)
    (c : CtrS Z mX12_mix [.ref (Z.2.2.1 + 455), .int (μ 456 (ix ((nI 201) + a1)))] μ (rV p)) (k : ∀ μ1, p μ1 → JS Z X 332 [(0, .ref (Z.2.2.1 + 455)), (1, .int a1)] [] μ1) :
    JS Z X 318 [(0, .ref (Z.2.2.1 + 455)), (1, .int a1)] [] μ := by
  refine J_aload_n E dX12_digest_318 rfl ?_
  refine J_aload_n E dX12_digest_319 rfl ?_
  refine S_get (ci := 12) (q := 0) (v := .ref (Z.2.2.1 + 456)) E dX12_digest_320 fs_X12_7 sh455 rfl ?_
  refine J_sipush (v := nI 201) E dX12_digest_323 rfl ?_
  refine J_iload_n E dX12_digest_326 rfl ?_
  refine J_iadd E dX12_digest_327 ?_
  refine S_iald E dX12_digest_328 sh456 s1_ ?_
  refine S_callV (As := [.int (μ 456 (ix ((nI 201) + a1)))]) (rest := []) E dX12_digest_329 c kX12_mix ⟨Nat.le_of_ble_eq_true rfl, Nat.le_of_ble_eq_true rfl⟩ rfl (Nat.le_of_ble_eq_true rfl) sh455 rfl rfl w7_208 w7_210 wp_87 (fun r_ μ1 hp_ => ?_)
  obtain ⟨rfl, hp_⟩ := hp_
  exact k μ1 hp_
theorem bX12_digest_332 {Z : ZT} {X : XT} {μ : Mu} {a1 : Int32} (E : Ent Z X mX12_digest 0 0)  
    (k : JS Z X 313 [(0, .ref (Z.2.2.1 + 455)), (1, .int (a1 + nI 1))] [] μ) :
    JS Z X 332 [(0, .ref (Z.2.2.1 + 455)), (1, .int a1)] [] μ := by
  refine J_iinc (v := a1 + nI 1) (lv' := [(0, .ref (Z.2.2.1 + 455)), (1, .int (a1 + nI 1))]) E dX12_digest_332 rfl rfl (Nat.le_of_ble_eq_true rfl) rfl ?_
  refine J_goto (tgt := 313) E dX12_digest_335 (by decide) ?_
  exact k
theorem bX12_digest_338 {Z : ZT} {X : XT} {μ : Mu} (E : Ent Z X mX12_digest 0 0)  
    (k : JS Z X 340 [(0, .ref (Z.2.2.1 + 455)), (1, .int (nI 0))] [] μ) :
    JS Z X 338 [(0, .ref (Z.2.2.1 + 455))] [] μ := by
  refine J_iconst (v := nI 0) E dX12_digest_338 rfl ?_
  refine J_istore_n (lv' := [(0, .ref (Z.2.2.1 + 455)), (1, .int (nI 0))]) E dX12_digest_339 (Nat.le_of_ble_eq_true rfl) rfl ?_
  exact k
theorem bX12_digest_340 {Z : ZT} {X : XT} {μ : Mu} {a1 : Int32} (E : Ent Z X mX12_digest 0 0)  (s1_ : vp_in (nI 206) 988)
    (kt : (μ 456 (ix (nI 206))) ≤ a1 → JS Z X 386 [(0, .ref (Z.2.2.1 + 455))] [] μ) (kf : ¬ ((μ 456 (ix (nI 206))) ≤ a1) → JS Z X 352 [(0, .ref (Z.2.2.1 + 455)), (1, .int a1)] [] μ) :
    JS Z X 340 [(0, .ref (Z.2.2.1 + 455)), (1, .int a1)] [] μ := by
  refine J_iload_n E dX12_digest_340 rfl ?_
  refine J_aload_n E dX12_digest_341 rfl ?_
  refine S_get (ci := 12) (q := 0) (v := .ref (Z.2.2.1 + 456)) E dX12_digest_342 fs_X12_7 sh455 rfl ?_
  refine J_sipush (v := nI 206) E dX12_digest_345 rfl ?_
  refine S_iald E dX12_digest_348 sh456 s1_ ?_
  refine J_icmp_ge (tgt := 386) E dX12_digest_349 (by decide) (fun c => ?_) (fun c => ?_)
  · refine J.weak [0] rfl ?_
    exact kt c
  · exact kf c
theorem bX12_digest_352 {Z : ZT} {X : XT} {μ : Mu} {a1 : Int32} (E : Ent Z X mX12_digest 0 0) {p : Mu → Prop} (s1_ : vp_in ((nI 207) + a1) 988)
    (c : CtrS Z mX12_mix [.ref (Z.2.2.1 + 455), .int (μ 456 (ix ((nI 207) + a1)))] μ (rV p)) (k : ∀ μ1, p μ1 → JS Z X 366 [(0, .ref (Z.2.2.1 + 455)), (1, .int a1)] [] μ1) :
    JS Z X 352 [(0, .ref (Z.2.2.1 + 455)), (1, .int a1)] [] μ := by
  refine J_aload_n E dX12_digest_352 rfl ?_
  refine J_aload_n E dX12_digest_353 rfl ?_
  refine S_get (ci := 12) (q := 0) (v := .ref (Z.2.2.1 + 456)) E dX12_digest_354 fs_X12_7 sh455 rfl ?_
  refine J_sipush (v := nI 207) E dX12_digest_357 rfl ?_
  refine J_iload_n E dX12_digest_360 rfl ?_
  refine J_iadd E dX12_digest_361 ?_
  refine S_iald E dX12_digest_362 sh456 s1_ ?_
  refine S_callV (As := [.int (μ 456 (ix ((nI 207) + a1)))]) (rest := []) E dX12_digest_363 c kX12_mix ⟨Nat.le_of_ble_eq_true rfl, Nat.le_of_ble_eq_true rfl⟩ rfl (Nat.le_of_ble_eq_true rfl) sh455 rfl rfl w7_208 w7_210 wp_87 (fun r_ μ1 hp_ => ?_)
  obtain ⟨rfl, hp_⟩ := hp_
  exact k μ1 hp_
theorem bX12_digest_366 {Z : ZT} {X : XT} {μ : Mu} {a1 : Int32} (E : Ent Z X mX12_digest 0 0) {p : Mu → Prop} (s1_ : vp_in ((nI 227) + a1) 988)
    (c : CtrS Z mX12_mix [.ref (Z.2.2.1 + 455), .int (μ 456 (ix ((nI 227) + a1)))] μ (rV p)) (k : ∀ μ1, p μ1 → JS Z X 380 [(0, .ref (Z.2.2.1 + 455)), (1, .int a1)] [] μ1) :
    JS Z X 366 [(0, .ref (Z.2.2.1 + 455)), (1, .int a1)] [] μ := by
  refine J_aload_n E dX12_digest_366 rfl ?_
  refine J_aload_n E dX12_digest_367 rfl ?_
  refine S_get (ci := 12) (q := 0) (v := .ref (Z.2.2.1 + 456)) E dX12_digest_368 fs_X12_7 sh455 rfl ?_
  refine J_sipush (v := nI 227) E dX12_digest_371 rfl ?_
  refine J_iload_n E dX12_digest_374 rfl ?_
  refine J_iadd E dX12_digest_375 ?_
  refine S_iald E dX12_digest_376 sh456 s1_ ?_
  refine S_callV (As := [.int (μ 456 (ix ((nI 227) + a1)))]) (rest := []) E dX12_digest_377 c kX12_mix ⟨Nat.le_of_ble_eq_true rfl, Nat.le_of_ble_eq_true rfl⟩ rfl (Nat.le_of_ble_eq_true rfl) sh455 rfl rfl w7_208 w7_210 wp_87 (fun r_ μ1 hp_ => ?_)
  obtain ⟨rfl, hp_⟩ := hp_
  exact k μ1 hp_
theorem bX12_digest_380 {Z : ZT} {X : XT} {μ : Mu} {a1 : Int32} (E : Ent Z X mX12_digest 0 0)  
    (k : JS Z X 340 [(0, .ref (Z.2.2.1 + 455)), (1, .int (a1 + nI 1))] [] μ) :
    JS Z X 380 [(0, .ref (Z.2.2.1 + 455)), (1, .int a1)] [] μ := by
  refine J_iinc (v := a1 + nI 1) (lv' := [(0, .ref (Z.2.2.1 + 455)), (1, .int (a1 + nI 1))]) E dX12_digest_380 rfl rfl (Nat.le_of_ble_eq_true rfl) rfl ?_
  refine J_goto (tgt := 340) E dX12_digest_383 (by decide) ?_
  exact k
theorem bX12_digest_386 {Z : ZT} {X : XT} {μ : Mu} (E : Ent Z X mX12_digest 0 0) {p : Mu → Prop} 
    (c : CtrS Z mX12_mix [.ref (Z.2.2.1 + 455), .int (μ 455 19)] μ (rV p)) (k : ∀ μ1, p μ1 → JS Z X 394 [(0, .ref (Z.2.2.1 + 455))] [] μ1) :
    JS Z X 386 [(0, .ref (Z.2.2.1 + 455))] [] μ := by
  refine J_aload_n E dX12_digest_386 rfl ?_
  refine J_aload_n E dX12_digest_387 rfl ?_
  refine S_get (ci := 12) (q := 19) (v := .int (μ 455 19)) E dX12_digest_388 fs_X12_210 sh455 rfl ?_
  refine S_callV (As := [.int (μ 455 19)]) (rest := []) E dX12_digest_391 c kX12_mix ⟨Nat.le_of_ble_eq_true rfl, Nat.le_of_ble_eq_true rfl⟩ rfl (Nat.le_of_ble_eq_true rfl) sh455 rfl rfl w7_208 w7_210 wp_87 (fun r_ μ1 hp_ => ?_)
  obtain ⟨rfl, hp_⟩ := hp_
  exact k μ1 hp_
theorem bX12_digest_394 {Z : ZT} {X : XT} {μ : Mu} (E : Ent Z X mX12_digest 0 0) {p : Int32 → Mu → Prop} 
    (c : CtrS Z mX12_limbsOf [.ref (Z.2.2.1 + 455), .int (nI 0)] μ (rI p)) (k : ∀ v μ1, p v μ1 → JS Z X 400 [(0, .ref (Z.2.2.1 + 455))] [.int v, .ref (Z.2.2.1 + 455)] μ1) :
    JS Z X 394 [(0, .ref (Z.2.2.1 + 455))] [] μ := by
  refine J_aload_n E dX12_digest_394 rfl ?_
  refine J_aload_n E dX12_digest_395 rfl ?_
  refine J_iconst (v := nI 0) E dX12_digest_396 rfl ?_
  refine S_callV (As := [.int (nI 0)]) (rest := [.ref (Z.2.2.1 + 455)]) E dX12_digest_397 c kX12_limbsOf ⟨Nat.le_of_ble_eq_true rfl, Nat.le_of_ble_eq_true rfl⟩ rfl (Nat.le_of_ble_eq_true rfl) sh455 rfl rfl w7_171 w7_173 wp_84 (fun r_ μ1 hp_ => ?_)
  obtain ⟨v, rfl, hp_⟩ := hp_
  exact k v μ1 hp_
theorem bX12_digest_400 {Z : ZT} {X : XT} {μ : Mu} {s1 : Int32} (E : Ent Z X mX12_digest 0 0) {p : Mu → Prop} 
    (c : CtrS Z mX12_mix [.ref (Z.2.2.1 + 455), .int s1] μ (rV p)) (k : ∀ μ1, p μ1 → JS Z X 403 [(0, .ref (Z.2.2.1 + 455))] [] μ1) :
    JS Z X 400 [(0, .ref (Z.2.2.1 + 455))] [.int s1, .ref (Z.2.2.1 + 455)] μ := by
  refine S_callV (As := [.int s1]) (rest := []) E dX12_digest_400 c kX12_mix ⟨Nat.le_of_ble_eq_true rfl, Nat.le_of_ble_eq_true rfl⟩ rfl (Nat.le_of_ble_eq_true rfl) sh455 rfl rfl w7_208 w7_210 wp_87 (fun r_ μ1 hp_ => ?_)
  obtain ⟨rfl, hp_⟩ := hp_
  exact k μ1 hp_
theorem bX12_digest_403 {Z : ZT} {X : XT} {μ : Mu} (E : Ent Z X mX12_digest 0 0) {p : Int32 → Mu → Prop} 
    (c : CtrS Z mX12_limbsOf [.ref (Z.2.2.1 + 455), .int (nI 1)] μ (rI p)) (k : ∀ v μ1, p v μ1 → JS Z X 409 [(0, .ref (Z.2.2.1 + 455))] [.int v, .ref (Z.2.2.1 + 455)] μ1) :
    JS Z X 403 [(0, .ref (Z.2.2.1 + 455))] [] μ := by
  refine J_aload_n E dX12_digest_403 rfl ?_
  refine J_aload_n E dX12_digest_404 rfl ?_
  refine J_iconst (v := nI 1) E dX12_digest_405 rfl ?_
  refine S_callV (As := [.int (nI 1)]) (rest := [.ref (Z.2.2.1 + 455)]) E dX12_digest_406 c kX12_limbsOf ⟨Nat.le_of_ble_eq_true rfl, Nat.le_of_ble_eq_true rfl⟩ rfl (Nat.le_of_ble_eq_true rfl) sh455 rfl rfl w7_171 w7_173 wp_84 (fun r_ μ1 hp_ => ?_)
  obtain ⟨v, rfl, hp_⟩ := hp_
  exact k v μ1 hp_
theorem bX12_digest_409 {Z : ZT} {X : XT} {μ : Mu} {s1 : Int32} (E : Ent Z X mX12_digest 0 0) {p : Mu → Prop} 
    (c : CtrS Z mX12_mix [.ref (Z.2.2.1 + 455), .int s1] μ (rV p)) (k : ∀ μ1, p μ1 → JS Z X 412 [(0, .ref (Z.2.2.1 + 455))] [] μ1) :
    JS Z X 409 [(0, .ref (Z.2.2.1 + 455))] [.int s1, .ref (Z.2.2.1 + 455)] μ := by
  refine S_callV (As := [.int s1]) (rest := []) E dX12_digest_409 c kX12_mix ⟨Nat.le_of_ble_eq_true rfl, Nat.le_of_ble_eq_true rfl⟩ rfl (Nat.le_of_ble_eq_true rfl) sh455 rfl rfl w7_208 w7_210 wp_87 (fun r_ μ1 hp_ => ?_)
  obtain ⟨rfl, hp_⟩ := hp_
  exact k μ1 hp_
theorem bX12_digest_412 {Z : ZT} {X : XT} {μ : Mu} (E : Ent Z X mX12_digest 0 0)  
    (k : JS Z X 414 [(0, .ref (Z.2.2.1 + 455)), (1, .int (nI 0))] [] μ) :
    JS Z X 412 [(0, .ref (Z.2.2.1 + 455))] [] μ := by
  refine J_iconst (v := nI 0) E dX12_digest_412 rfl ?_
  refine J_istore_n (lv' := [(0, .ref (Z.2.2.1 + 455)), (1, .int (nI 0))]) E dX12_digest_413 (Nat.le_of_ble_eq_true rfl) rfl ?_
  exact k
theorem bX12_digest_414 {Z : ZT} {X : XT} {μ : Mu} {a1 : Int32} (E : Ent Z X mX12_digest 0 0) {p : Int32 → Mu → Prop} 
    (c : CtrS Z mX12_limbsOf [.ref (Z.2.2.1 + 455), .int (nI 0)] μ (rI p)) (k : ∀ v μ1, p v μ1 → JS Z X 420 [(0, .ref (Z.2.2.1 + 455)), (1, .int a1)] [.int v, .int a1] μ1) :
    JS Z X 414 [(0, .ref (Z.2.2.1 + 455)), (1, .int a1)] [] μ := by
  refine J_iload_n E dX12_digest_414 rfl ?_
  refine J_aload_n E dX12_digest_415 rfl ?_
  refine J_iconst (v := nI 0) E dX12_digest_416 rfl ?_
  refine S_callV (As := [.int (nI 0)]) (rest := [.int a1]) E dX12_digest_417 c kX12_limbsOf ⟨Nat.le_of_ble_eq_true rfl, Nat.le_of_ble_eq_true rfl⟩ rfl (Nat.le_of_ble_eq_true rfl) sh455 rfl rfl w7_171 w7_173 wp_84 (fun r_ μ1 hp_ => ?_)
  obtain ⟨v, rfl, hp_⟩ := hp_
  exact k v μ1 hp_
theorem bX12_digest_420 {Z : ZT} {X : XT} {μ : Mu} {a1 : Int32} {s0 : Int32} {s1 : Int32} (E : Ent Z X mX12_digest 0 0)  
    (kt : s1 ≤ s0 → JS Z X 441 [(0, .ref (Z.2.2.1 + 455))] [] μ) (kf : ¬ (s1 ≤ s0) → JS Z X 423 [(0, .ref (Z.2.2.1 + 455)), (1, .int a1)] [] μ) :
    JS Z X 420 [(0, .ref (Z.2.2.1 + 455)), (1, .int a1)] [.int s1, .int s0] μ := by
  refine J_icmp_ge (tgt := 441) E dX12_digest_420 (by decide) (fun c => ?_) (fun c => ?_)
  · refine J.weak [0] rfl ?_
    exact kt c
  · exact kf c
theorem bX12_digest_423 {Z : ZT} {X : XT} {μ : Mu} {a1 : Int32} (E : Ent Z X mX12_digest 0 0) {p : Mu → Prop} (s1_ : vp_in ((nI 0) + a1) 7587)
    (c : CtrS Z mX12_mix [.ref (Z.2.2.1 + 455), .int (μ 465 (ix ((nI 0) + a1)))] μ (rV p)) (k : ∀ μ1, p μ1 → JS Z X 435 [(0, .ref (Z.2.2.1 + 455)), (1, .int a1)] [] μ1) :
    JS Z X 423 [(0, .ref (Z.2.2.1 + 455)), (1, .int a1)] [] μ := by
  refine J_aload_n E dX12_digest_423 rfl ?_
  refine J_aload_n E dX12_digest_424 rfl ?_
  refine S_get (ci := 12) (q := 18) (v := .ref (Z.2.2.1 + 465)) E dX12_digest_425 fs_X12_39 sh455 rfl ?_
  refine J_iconst (v := nI 0) E dX12_digest_428 rfl ?_
  refine J_iload_n E dX12_digest_429 rfl ?_
  refine J_iadd E dX12_digest_430 ?_
  refine S_iald E dX12_digest_431 sh465 s1_ ?_
  refine S_callV (As := [.int (μ 465 (ix ((nI 0) + a1)))]) (rest := []) E dX12_digest_432 c kX12_mix ⟨Nat.le_of_ble_eq_true rfl, Nat.le_of_ble_eq_true rfl⟩ rfl (Nat.le_of_ble_eq_true rfl) sh455 rfl rfl w7_208 w7_210 wp_87 (fun r_ μ1 hp_ => ?_)
  obtain ⟨rfl, hp_⟩ := hp_
  exact k μ1 hp_
theorem bX12_digest_435 {Z : ZT} {X : XT} {μ : Mu} {a1 : Int32} (E : Ent Z X mX12_digest 0 0)  
    (k : JS Z X 414 [(0, .ref (Z.2.2.1 + 455)), (1, .int (a1 + nI 1))] [] μ) :
    JS Z X 435 [(0, .ref (Z.2.2.1 + 455)), (1, .int a1)] [] μ := by
  refine J_iinc (v := a1 + nI 1) (lv' := [(0, .ref (Z.2.2.1 + 455)), (1, .int (a1 + nI 1))]) E dX12_digest_435 rfl rfl (Nat.le_of_ble_eq_true rfl) rfl ?_
  refine J_goto (tgt := 414) E dX12_digest_438 (by decide) ?_
  exact k
theorem bX12_digest_441 {Z : ZT} {X : XT} {μ : Mu} (E : Ent Z X mX12_digest 0 0)  
    (k : JS Z X 443 [(0, .ref (Z.2.2.1 + 455)), (1, .int (nI 0))] [] μ) :
    JS Z X 441 [(0, .ref (Z.2.2.1 + 455))] [] μ := by
  refine J_iconst (v := nI 0) E dX12_digest_441 rfl ?_
  refine J_istore_n (lv' := [(0, .ref (Z.2.2.1 + 455)), (1, .int (nI 0))]) E dX12_digest_442 (Nat.le_of_ble_eq_true rfl) rfl ?_
  exact k
theorem bX12_digest_443 {Z : ZT} {X : XT} {μ : Mu} {a1 : Int32} (E : Ent Z X mX12_digest 0 0) {p : Int32 → Mu → Prop} 
    (c : CtrS Z mX12_limbsOf [.ref (Z.2.2.1 + 455), .int (nI 1)] μ (rI p)) (k : ∀ v μ1, p v μ1 → JS Z X 449 [(0, .ref (Z.2.2.1 + 455)), (1, .int a1)] [.int v, .int a1] μ1) :
    JS Z X 443 [(0, .ref (Z.2.2.1 + 455)), (1, .int a1)] [] μ := by
  refine J_iload_n E dX12_digest_443 rfl ?_
  refine J_aload_n E dX12_digest_444 rfl ?_
  refine J_iconst (v := nI 1) E dX12_digest_445 rfl ?_
  refine S_callV (As := [.int (nI 1)]) (rest := [.int a1]) E dX12_digest_446 c kX12_limbsOf ⟨Nat.le_of_ble_eq_true rfl, Nat.le_of_ble_eq_true rfl⟩ rfl (Nat.le_of_ble_eq_true rfl) sh455 rfl rfl w7_171 w7_173 wp_84 (fun r_ μ1 hp_ => ?_)
  obtain ⟨v, rfl, hp_⟩ := hp_
  exact k v μ1 hp_
theorem bX12_digest_449 {Z : ZT} {X : XT} {μ : Mu} {a1 : Int32} {s0 : Int32} {s1 : Int32} (E : Ent Z X mX12_digest 0 0)  
    (kt : s1 ≤ s0 → JS Z X 471 [(0, .ref (Z.2.2.1 + 455))] [] μ) (kf : ¬ (s1 ≤ s0) → JS Z X 452 [(0, .ref (Z.2.2.1 + 455)), (1, .int a1)] [] μ) :
    JS Z X 449 [(0, .ref (Z.2.2.1 + 455)), (1, .int a1)] [.int s1, .int s0] μ := by
  refine J_icmp_ge (tgt := 471) E dX12_digest_449 (by decide) (fun c => ?_) (fun c => ?_)
  · refine J.weak [0] rfl ?_
    exact kt c
  · exact kf c
theorem bX12_digest_452 {Z : ZT} {X : XT} {μ : Mu} {a1 : Int32} (E : Ent Z X mX12_digest 0 0) {p : Mu → Prop} (s1_ : vp_in ((nI 27) + a1) 7587)
    (c : CtrS Z mX12_mix [.ref (Z.2.2.1 + 455), .int (μ 465 (ix ((nI 27) + a1)))] μ (rV p)) (k : ∀ μ1, p μ1 → JS Z X 465 [(0, .ref (Z.2.2.1 + 455)), (1, .int a1)] [] μ1) :
    JS Z X 452 [(0, .ref (Z.2.2.1 + 455)), (1, .int a1)] [] μ := by
  refine J_aload_n E dX12_digest_452 rfl ?_
  refine J_aload_n E dX12_digest_453 rfl ?_
  refine S_get (ci := 12) (q := 18) (v := .ref (Z.2.2.1 + 465)) E dX12_digest_454 fs_X12_39 sh455 rfl ?_
  refine J_bipush (v := nI 27) E dX12_digest_457 rfl ?_
  refine J_iload_n E dX12_digest_459 rfl ?_
  refine J_iadd E dX12_digest_460 ?_
  refine S_iald E dX12_digest_461 sh465 s1_ ?_
  refine S_callV (As := [.int (μ 465 (ix ((nI 27) + a1)))]) (rest := []) E dX12_digest_462 c kX12_mix ⟨Nat.le_of_ble_eq_true rfl, Nat.le_of_ble_eq_true rfl⟩ rfl (Nat.le_of_ble_eq_true rfl) sh455 rfl rfl w7_208 w7_210 wp_87 (fun r_ μ1 hp_ => ?_)
  obtain ⟨rfl, hp_⟩ := hp_
  exact k μ1 hp_
theorem bX12_digest_465 {Z : ZT} {X : XT} {μ : Mu} {a1 : Int32} (E : Ent Z X mX12_digest 0 0)  
    (k : JS Z X 443 [(0, .ref (Z.2.2.1 + 455)), (1, .int (a1 + nI 1))] [] μ) :
    JS Z X 465 [(0, .ref (Z.2.2.1 + 455)), (1, .int a1)] [] μ := by
  refine J_iinc (v := a1 + nI 1) (lv' := [(0, .ref (Z.2.2.1 + 455)), (1, .int (a1 + nI 1))]) E dX12_digest_465 rfl rfl (Nat.le_of_ble_eq_true rfl) rfl ?_
  refine J_goto (tgt := 443) E dX12_digest_468 (by decide) ?_
  exact k
theorem bX12_digest_471 {Z : ZT} {X : XT} {μ : Mu} (E : Ent Z X mX12_digest 0 0) {P : Option Value → Mu → Prop} (hB : BodS Z X P) 
    (k : P (some (.long (mkL (μ 455 27) (μ 455 127)))) μ) :
    JS Z X 471 [(0, .ref (Z.2.2.1 + 455))] [] μ := by
  refine J_aload_n E dX12_digest_471 rfl ?_
  refine S_get (ci := 12) (q := 27) (v := .long (mkL (μ 455 27) (μ 455 127))) E dX12_digest_472 fs_X12_306 sh455 rfl ?_
  exact S_lret E hB dX12_digest_475 rfl k
