theorem dX4_init_0 : decode cX4_init 0 = .ok (.aload_n 0, 1) := by decide +kernel
theorem dX4_init_1 : decode cX4_init 1 = .ok (.invokespecial 3, 3) := by decide +kernel
theorem dX4_init_4 : decode cX4_init 4 = .ok (.aload_n 0, 1) := by decide +kernel
theorem dX4_init_5 : decode cX4_init 5 = .ok (.bipush 6, 2) := by decide +kernel
theorem dX4_init_7 : decode cX4_init 7 = .ok (.newarray .int, 2) := by decide +kernel
theorem dX4_init_9 : decode cX4_init 9 = .ok (.putfield 9, 3) := by decide +kernel
theorem dX4_init_12 : decode cX4_init 12 = .ok (.aload_n 0, 1) := by decide +kernel
theorem dX4_init_13 : decode cX4_init 13 = .ok (.bipush 6, 2) := by decide +kernel
theorem dX4_init_15 : decode cX4_init 15 = .ok (.newarray .int, 2) := by decide +kernel
theorem dX4_init_17 : decode cX4_init 17 = .ok (.putfield 15, 3) := by decide +kernel
theorem dX4_init_20 : decode cX4_init 20 = .ok (.aload_n 0, 1) := by decide +kernel
theorem dX4_init_21 : decode cX4_init 21 = .ok (.bipush 6, 2) := by decide +kernel
theorem dX4_init_23 : decode cX4_init 23 = .ok (.newarray .int, 2) := by decide +kernel
theorem dX4_init_25 : decode cX4_init 25 = .ok (.putfield 18, 3) := by decide +kernel
theorem dX4_init_28 : decode cX4_init 28 = .ok (.aload_n 0, 1) := by decide +kernel
theorem dX4_init_29 : decode cX4_init 29 = .ok (.bipush 6, 2) := by decide +kernel
theorem dX4_init_31 : decode cX4_init 31 = .ok (.newarray .int, 2) := by decide +kernel
theorem dX4_init_33 : decode cX4_init 33 = .ok (.putfield 21, 3) := by decide +kernel
theorem dX4_init_36 : decode cX4_init 36 = .ok (.aload_n 0, 1) := by decide +kernel
theorem dX4_init_37 : decode cX4_init 37 = .ok (.bipush 6, 2) := by decide +kernel
theorem dX4_init_39 : decode cX4_init 39 = .ok (.newarray .int, 2) := by decide +kernel
theorem dX4_init_41 : decode cX4_init 41 = .ok (.putfield 24, 3) := by decide +kernel
theorem dX4_init_44 : decode cX4_init 44 = .ok (.aload_n 0, 1) := by decide +kernel
theorem dX4_init_45 : decode cX4_init 45 = .ok (.bipush 6, 2) := by decide +kernel
theorem dX4_init_47 : decode cX4_init 47 = .ok (.newarray .int, 2) := by decide +kernel
theorem dX4_init_49 : decode cX4_init 49 = .ok (.putfield 27, 3) := by decide +kernel
theorem dX4_init_52 : decode cX4_init 52 = .ok (.aload_n 0, 1) := by decide +kernel
theorem dX4_init_53 : decode cX4_init 53 = .ok (.aload_n 1, 1) := by decide +kernel
theorem dX4_init_54 : decode cX4_init 54 = .ok (.putfield 30, 3) := by decide +kernel
theorem dX4_init_57 : decode cX4_init 57 = .ok (.aload_n 0, 1) := by decide +kernel
theorem dX4_init_58 : decode cX4_init 58 = .ok (.aload_n 2, 1) := by decide +kernel
theorem dX4_init_59 : decode cX4_init 59 = .ok (.putfield 34, 3) := by decide +kernel
theorem dX4_init_62 : decode cX4_init 62 = .ok (.aload_n 0, 1) := by decide +kernel
theorem dX4_init_63 : decode cX4_init 63 = .ok (.aload_n 3, 1) := by decide +kernel
theorem dX4_init_64 : decode cX4_init 64 = .ok (.putfield 38, 3) := by decide +kernel
theorem dX4_init_67 : decode cX4_init 67 = .ok (.return_, 1) := by decide +kernel
theorem dX4_take_0 : decode cX4_take 0 = .ok (.aload_n 0, 1) := by decide +kernel
theorem dX4_take_1 : decode cX4_take 1 = .ok (.iload_n 1, 1) := by decide +kernel
theorem dX4_take_2 : decode cX4_take 2 = .ok (.putfield 42, 3) := by decide +kernel
theorem dX4_take_5 : decode cX4_take 5 = .ok (.aload_n 0, 1) := by decide +kernel
theorem dX4_take_6 : decode cX4_take 6 = .ok (.iload_n 1, 1) := by decide +kernel
theorem dX4_take_7 : decode cX4_take 7 = .ok (.iconst 2, 1) := by decide +kernel
theorem dX4_take_8 : decode cX4_take 8 = .ok (.invokestatic 46, 3) := by decide +kernel
theorem dX4_take_11 : decode cX4_take 11 = .ok (.ifCond .eq 15, 3) := by decide +kernel
theorem dX4_take_14 : decode cX4_take 14 = .ok (.aload_n 0, 1) := by decide +kernel
theorem dX4_take_15 : decode cX4_take 15 = .ok (.getfield 30, 3) := by decide +kernel
theorem dX4_take_18 : decode cX4_take 18 = .ok (.getfield 50, 3) := by decide +kernel
theorem dX4_take_21 : decode cX4_take 21 = .ok (.iload_n 1, 1) := by decide +kernel
theorem dX4_take_22 : decode cX4_take 22 = .ok (.iaload, 1) := by decide +kernel
theorem dX4_take_23 : decode cX4_take 23 = .ok (.goto 4, 3) := by decide +kernel
theorem dX4_take_26 : decode cX4_take 26 = .ok (.iconst 0, 1) := by decide +kernel
theorem dX4_take_27 : decode cX4_take 27 = .ok (.putfield 55, 3) := by decide +kernel
theorem dX4_take_30 : decode cX4_take 30 = .ok (.iconst 0, 1) := by decide +kernel
theorem dX4_take_31 : decode cX4_take 31 = .ok (.istore_n 2, 1) := by decide +kernel
theorem dX4_take_32 : decode cX4_take 32 = .ok (.iload_n 2, 1) := by decide +kernel
theorem dX4_take_33 : decode cX4_take 33 = .ok (.aload_n 0, 1) := by decide +kernel
theorem dX4_take_34 : decode cX4_take 34 = .ok (.getfield 55, 3) := by decide +kernel
theorem dX4_take_37 : decode cX4_take 37 = .ok (.if_icmp .ge 29, 3) := by decide +kernel
theorem dX4_take_40 : decode cX4_take 40 = .ok (.aload_n 0, 1) := by decide +kernel
theorem dX4_take_41 : decode cX4_take 41 = .ok (.getfield 9, 3) := by decide +kernel
theorem dX4_take_44 : decode cX4_take 44 = .ok (.iload_n 2, 1) := by decide +kernel
theorem dX4_take_45 : decode cX4_take 45 = .ok (.aload_n 0, 1) := by decide +kernel
theorem dX4_take_46 : decode cX4_take 46 = .ok (.getfield 30, 3) := by decide +kernel
theorem dX4_take_49 : decode cX4_take 49 = .ok (.getfield 58, 3) := by decide +kernel
theorem dX4_take_52 : decode cX4_take 52 = .ok (.iload_n 1, 1) := by decide +kernel
theorem dX4_take_53 : decode cX4_take 53 = .ok (.bipush 6, 2) := by decide +kernel
theorem dX4_take_55 : decode cX4_take 55 = .ok (.imul, 1) := by decide +kernel
theorem dX4_take_56 : decode cX4_take 56 = .ok (.iload_n 2, 1) := by decide +kernel
theorem dX4_take_57 : decode cX4_take 57 = .ok (.iadd, 1) := by decide +kernel
theorem dX4_take_58 : decode cX4_take 58 = .ok (.iaload, 1) := by decide +kernel
theorem dX4_take_59 : decode cX4_take 59 = .ok (.iastore, 1) := by decide +kernel
theorem dX4_take_60 : decode cX4_take 60 = .ok (.iinc 2 1, 3) := by decide +kernel
theorem dX4_take_63 : decode cX4_take 63 = .ok (.goto (-31), 3) := by decide +kernel
theorem dX4_take_66 : decode cX4_take 66 = .ok (.return_, 1) := by decide +kernel
theorem bX4_take_0 {Z : ZT} {X : XT} {μ : Mu} {a0 : Nat} {a1 : Int32} (E : Ent Z X mX4_take 0 0) (ha0 : SH a0 = .inl 4) 
    (k : JS Z X 5 [(0, .ref (Z.2.2.1 + a0)), (1, .int a1)] [] (uR μ a0 (upd (μ a0) 3 a1))) :
    JS Z X 0 [(0, .ref (Z.2.2.1 + a0)), (1, .int a1)] [] μ := by
  refine J_aload_n E dX4_take_0 rfl ?_
  refine J_iload_n E dX4_take_1 rfl ?_
  refine S_puti E dX4_take_2 fs_X4_42 fp_X4_3 ha0 rfl ?_
  exact k
theorem bX4_take_5 {Z : ZT} {X : XT} {μ : Mu} {a0 : Nat} {a1 : Int32} (E : Ent Z X mX4_take 0 0) (ha0 : SH a0 = .inl 4) {p : Int32 → Mu → Prop} 
    (c : CtrS Z mX11_within [.int a1, .int (nI 2)] μ (rI p)) (k : ∀ v μ1, p v μ1 → JS Z X 11 [(0, .ref (Z.2.2.1 + a0)), (1, .int a1)] [.int v, .ref (Z.2.2.1 + a0)] μ1) :
    JS Z X 5 [(0, .ref (Z.2.2.1 + a0)), (1, .int a1)] [] μ := by
  refine J_aload_n E dX4_take_5 rfl ?_
  refine J_iload_n E dX4_take_6 rfl ?_
  refine J_iconst (v := nI 2) E dX4_take_7 rfl ?_
  refine S_callSN (As := [.int a1, .int (nI 2)]) (rest := [.ref (Z.2.2.1 + a0)]) E dX4_take_8 c kX11_within ⟨Nat.le_of_ble_eq_true rfl, Nat.le_of_ble_eq_true rfl⟩ rfl (Nat.le_of_ble_eq_true rfl) w4_80 w3_46 (fun r_ μ1 hp_ => ?_)
  obtain ⟨v, rfl, hp_⟩ := hp_
  exact k v μ1 hp_
theorem bX4_take_11 {Z : ZT} {X : XT} {μ : Mu} {a0 : Nat} {a1 : Int32} {s0 : Nat} {s1 : Int32} (E : Ent Z X mX4_take 0 0) (ha0 : SH a0 = .inl 4) (hs0 : SH s0 = .inl 4) 
    (kt : s1 = 0 → JS Z X 26 [(0, .ref (Z.2.2.1 + a0)), (1, .int a1)] [.ref (Z.2.2.1 + s0)] μ) (kf : ¬ (s1 = 0) → JS Z X 14 [(0, .ref (Z.2.2.1 + a0)), (1, .int a1)] [.ref (Z.2.2.1 + s0)] μ) :
    JS Z X 11 [(0, .ref (Z.2.2.1 + a0)), (1, .int a1)] [.int s1, .ref (Z.2.2.1 + s0)] μ := by
  refine J_if_eq (tgt := 26) E dX4_take_11 (by decide) (fun c => ?_) (fun c => ?_)
  · exact kt c
  · exact kf c
theorem bX4_take_14 {Z : ZT} {X : XT} {μ : Mu} {a0 : Nat} {a1 : Int32} {s0 : Nat} (E : Ent Z X mX4_take 0 0) (ha0 : SH a0 = .inl 4) (hs0 : SH s0 = .inl 4) (s1_ : vp_in a1 2)
    (k : JS Z X 27 [(0, .ref (Z.2.2.1 + a0)), (1, .int a1)] [.int (μ (1 + 11) (ix a1)), .ref (Z.2.2.1 + s0)] μ) :
    JS Z X 14 [(0, .ref (Z.2.2.1 + a0)), (1, .int a1)] [.ref (Z.2.2.1 + s0)] μ := by
  refine J_aload_n E dX4_take_14 rfl ?_
  refine S_get (ci := 4) (q := 0) (v := .ref (Z.2.2.1 + 1)) E dX4_take_15 fs_X4_30 ha0 rfl ?_
  refine S_get (ci := 3) (q := 13) (v := .ref (Z.2.2.1 + (1 + 11))) E dX4_take_18 fs_X4_50 sh1 rfl ?_
  refine J_iload_n E dX4_take_21 rfl ?_
  refine S_iald E dX4_take_22 (shr_X3_13 sh1) s1_ ?_
  refine J_goto (tgt := 27) E dX4_take_23 (by decide) ?_
  exact k
theorem bX4_take_26 {Z : ZT} {X : XT} {μ : Mu} {a0 : Nat} {a1 : Int32} {s0 : Nat} (E : Ent Z X mX4_take 0 0) (ha0 : SH a0 = .inl 4) (hs0 : SH s0 = .inl 4) 
    (k : JS Z X 27 [(0, .ref (Z.2.2.1 + a0)), (1, .int a1)] [.int (nI 0), .ref (Z.2.2.1 + s0)] μ) :
    JS Z X 26 [(0, .ref (Z.2.2.1 + a0)), (1, .int a1)] [.ref (Z.2.2.1 + s0)] μ := by
  refine J_iconst (v := nI 0) E dX4_take_26 rfl ?_
  exact k
theorem bX4_take_27 {Z : ZT} {X : XT} {μ : Mu} {a0 : Nat} {a1 : Int32} {s0 : Nat} {s1 : Int32} (E : Ent Z X mX4_take 0 0) (ha0 : SH a0 = .inl 4) (hs0 : SH s0 = .inl 4) 
    (k : JS Z X 30 [(0, .ref (Z.2.2.1 + a0)), (1, .int a1)] [] (uR μ s0 (upd (μ s0) 4 s1))) :
    JS Z X 27 [(0, .ref (Z.2.2.1 + a0)), (1, .int a1)] [.int s1, .ref (Z.2.2.1 + s0)] μ := by
  refine S_puti E dX4_take_27 fs_X4_55 fp_X4_4 hs0 rfl ?_
  exact k
theorem bX4_take_30 {Z : ZT} {X : XT} {μ : Mu} {a0 : Nat} {a1 : Int32} (E : Ent Z X mX4_take 0 0) (ha0 : SH a0 = .inl 4) 
    (k : JS Z X 32 [(0, .ref (Z.2.2.1 + a0)), (1, .int a1), (2, .int (nI 0))] [] μ) :
    JS Z X 30 [(0, .ref (Z.2.2.1 + a0)), (1, .int a1)] [] μ := by
  refine J_iconst (v := nI 0) E dX4_take_30 rfl ?_
  refine J_istore_n (lv' := [(0, .ref (Z.2.2.1 + a0)), (1, .int a1), (2, .int (nI 0))]) E dX4_take_31 (Nat.le_of_ble_eq_true rfl) rfl ?_
  exact k
theorem bX4_take_32 {Z : ZT} {X : XT} {μ : Mu} {a0 : Nat} {a1 : Int32} {a2 : Int32} (E : Ent Z X mX4_take 0 0) (ha0 : SH a0 = .inl 4) 
    (kt : (μ a0 4) ≤ a2 → JS Z X 66 [] [] μ) (kf : ¬ ((μ a0 4) ≤ a2) → JS Z X 40 [(0, .ref (Z.2.2.1 + a0)), (1, .int a1), (2, .int a2)] [] μ) :
    JS Z X 32 [(0, .ref (Z.2.2.1 + a0)), (1, .int a1), (2, .int a2)] [] μ := by
  refine J_iload_n E dX4_take_32 rfl ?_
  refine J_aload_n E dX4_take_33 rfl ?_
  refine S_get (ci := 4) (q := 4) (v := .int (μ a0 4)) E dX4_take_34 fs_X4_55 ha0 rfl ?_
  refine J_icmp_ge (tgt := 66) E dX4_take_37 (by decide) (fun c => ?_) (fun c => ?_)
  · refine J.weak [] rfl ?_
    exact kt c
  · exact kf c
theorem bX4_take_40 {Z : ZT} {X : XT} {μ : Mu} {a0 : Nat} {a1 : Int32} {a2 : Int32} (E : Ent Z X mX4_take 0 0) (ha0 : SH a0 = .inl 4) (s1_ : vp_in ((a1 * (nI 6)) + a2) 12) (s2_ : vp_in a2 6)
    (k : JS Z X 60 [(0, .ref (Z.2.2.1 + a0)), (1, .int a1), (2, .int a2)] [] (uR μ (a0 + 1) (upd (μ (a0 + 1)) (ix a2) (μ (1 + 12) (ix ((a1 * (nI 6)) + a2)))))) :
    JS Z X 40 [(0, .ref (Z.2.2.1 + a0)), (1, .int a1), (2, .int a2)] [] μ := by
  refine J_aload_n E dX4_take_40 rfl ?_
  refine S_get (ci := 4) (q := 5) (v := .ref (Z.2.2.1 + (a0 + 1))) E dX4_take_41 fs_X4_9 ha0 rfl ?_
  refine J_iload_n E dX4_take_44 rfl ?_
  refine J_aload_n E dX4_take_45 rfl ?_
  refine S_get (ci := 4) (q := 0) (v := .ref (Z.2.2.1 + 1)) E dX4_take_46 fs_X4_30 ha0 rfl ?_
  refine S_get (ci := 3) (q := 14) (v := .ref (Z.2.2.1 + (1 + 12))) E dX4_take_49 fs_X4_58 sh1 rfl ?_
  refine J_iload_n E dX4_take_52 rfl ?_
  refine J_bipush (v := nI 6) E dX4_take_53 rfl ?_
  refine J_imul E dX4_take_55 ?_
  refine J_iload_n E dX4_take_56 rfl ?_
  refine J_iadd E dX4_take_57 ?_
  refine S_iald E dX4_take_58 (shr_X3_14 sh1) s1_ ?_
  refine S_iast E dX4_take_59 (shr_X4_5 ha0) s2_ ?_
  exact k
theorem bX4_take_60 {Z : ZT} {X : XT} {μ : Mu} {a0 : Nat} {a1 : Int32} {a2 : Int32} (E : Ent Z X mX4_take 0 0) (ha0 : SH a0 = .inl 4) 
    (k : JS Z X 32 [(0, .ref (Z.2.2.1 + a0)), (1, .int a1), (2, .int (a2 + nI 1))] [] μ) :
    JS Z X 60 [(0, .ref (Z.2.2.1 + a0)), (1, .int a1), (2, .int a2)] [] μ := by
  refine J_iinc (v := a2 + nI 1) (lv' := [(0, .ref (Z.2.2.1 + a0)), (1, .int a1), (2, .int (a2 + nI 1))]) E dX4_take_60 rfl rfl (Nat.le_of_ble_eq_true rfl) rfl ?_
  refine J_goto (tgt := 32) E dX4_take_63 (by decide) ?_
  exact k
theorem bX4_take_66 {Z : ZT} {X : XT} {μ : Mu} (E : Ent Z X mX4_take 0 0) {P : Option Value → Mu → Prop} (hB : BodS Z X P) 
    (k : P none μ) :
    JS Z X 66 [] [] μ := by
  exact S_vret E hB dX4_take_66 rfl k
theorem dX4_lay_0 : decode cX4_lay 0 = .ok (.aload_n 0, 1) := by decide +kernel
theorem dX4_lay_1 : decode cX4_lay 1 = .ok (.getfield 34, 3) := by decide +kernel
theorem dX4_lay_4 : decode cX4_lay 4 = .ok (.getfield 61, 3) := by decide +kernel
theorem dX4_lay_7 : decode cX4_lay 7 = .ok (.iconst 4, 1) := by decide +kernel
theorem dX4_lay_8 : decode cX4_lay 8 = .ok (.iaload, 1) := by decide +kernel
theorem dX4_lay_9 : decode cX4_lay 9 = .ok (.istore_n 1, 1) := by decide +kernel
theorem dX4_lay_10 : decode cX4_lay 10 = .ok (.aload_n 0, 1) := by decide +kernel
theorem dX4_lay_11 : decode cX4_lay 11 = .ok (.getfield 34, 3) := by decide +kernel
theorem dX4_lay_14 : decode cX4_lay 14 = .ok (.getfield 61, 3) := by decide +kernel
theorem dX4_lay_17 : decode cX4_lay 17 = .ok (.iconst 3, 1) := by decide +kernel
theorem dX4_lay_18 : decode cX4_lay 18 = .ok (.iaload, 1) := by decide +kernel
theorem dX4_lay_19 : decode cX4_lay 19 = .ok (.istore_n 2, 1) := by decide +kernel
theorem dX4_lay_20 : decode cX4_lay 20 = .ok (.aload_n 0, 1) := by decide +kernel
theorem dX4_lay_21 : decode cX4_lay 21 = .ok (.getfield 55, 3) := by decide +kernel
theorem dX4_lay_24 : decode cX4_lay 24 = .ok (.ifCond .eq 25, 3) := by decide +kernel
theorem dX4_lay_27 : decode cX4_lay 27 = .ok (.aload_n 0, 1) := by decide +kernel
theorem dX4_lay_28 : decode cX4_lay 28 = .ok (.getfield 30, 3) := by decide +kernel
theorem dX4_lay_31 : decode cX4_lay 31 = .ok (.iload_n 2, 1) := by decide +kernel
theorem dX4_lay_32 : decode cX4_lay 32 = .ok (.invokevirtual 66, 3) := by decide +kernel
theorem dX4_lay_35 : decode cX4_lay 35 = .ok (.ifCond .eq 14, 3) := by decide +kernel
theorem dX4_lay_38 : decode cX4_lay 38 = .ok (.aload_n 0, 1) := by decide +kernel
theorem dX4_lay_39 : decode cX4_lay 39 = .ok (.getfield 30, 3) := by decide +kernel
theorem dX4_lay_42 : decode cX4_lay 42 = .ok (.iload_n 1, 1) := by decide +kernel
theorem dX4_lay_43 : decode cX4_lay 43 = .ok (.invokevirtual 66, 3) := by decide +kernel
theorem dX4_lay_46 : decode cX4_lay 46 = .ok (.ifCond .ne 5, 3) := by decide +kernel
theorem dX4_lay_49 : decode cX4_lay 49 = .ok (.iconst 0, 1) := by decide +kernel
theorem dX4_lay_50 : decode cX4_lay 50 = .ok (.ireturn, 1) := by decide +kernel
theorem dX4_lay_51 : decode cX4_lay 51 = .ok (.aload_n 0, 1) := by decide +kernel
theorem dX4_lay_52 : decode cX4_lay 52 = .ok (.iconst 0, 1) := by decide +kernel
theorem dX4_lay_53 : decode cX4_lay 53 = .ok (.putfield 70, 3) := by decide +kernel
theorem dX4_lay_56 : decode cX4_lay 56 = .ok (.aload_n 0, 1) := by decide +kernel
theorem dX4_lay_57 : decode cX4_lay 57 = .ok (.iconst 0, 1) := by decide +kernel
theorem dX4_lay_58 : decode cX4_lay 58 = .ok (.putfield 73, 3) := by decide +kernel
theorem dX4_lay_61 : decode cX4_lay 61 = .ok (.iconst 0, 1) := by decide +kernel
theorem dX4_lay_62 : decode cX4_lay 62 = .ok (.istore_n 3, 1) := by decide +kernel
theorem dX4_lay_63 : decode cX4_lay 63 = .ok (.iload_n 3, 1) := by decide +kernel
theorem dX4_lay_64 : decode cX4_lay 64 = .ok (.aload_n 0, 1) := by decide +kernel
theorem dX4_lay_65 : decode cX4_lay 65 = .ok (.getfield 55, 3) := by decide +kernel
theorem dX4_lay_68 : decode cX4_lay 68 = .ok (.if_icmp .ge 87, 3) := by decide +kernel
theorem dX4_lay_71 : decode cX4_lay 71 = .ok (.aload_n 0, 1) := by decide +kernel
theorem dX4_lay_72 : decode cX4_lay 72 = .ok (.iload_n 3, 1) := by decide +kernel
theorem dX4_lay_73 : decode cX4_lay 73 = .ok (.iload_n 2, 1) := by decide +kernel
theorem dX4_lay_74 : decode cX4_lay 74 = .ok (.invokevirtual 76, 3) := by decide +kernel
theorem dX4_lay_77 : decode cX4_lay 77 = .ok (.iload_n 3, 1) := by decide +kernel
theorem dX4_lay_78 : decode cX4_lay 78 = .ok (.iconst 1, 1) := by decide +kernel
theorem dX4_lay_79 : decode cX4_lay 79 = .ok (.iadd, 1) := by decide +kernel
theorem dX4_lay_80 : decode cX4_lay 80 = .ok (.aload_n 0, 1) := by decide +kernel
theorem dX4_lay_81 : decode cX4_lay 81 = .ok (.getfield 55, 3) := by decide +kernel
theorem dX4_lay_84 : decode cX4_lay 84 = .ok (.if_icmp .ge 22, 3) := by decide +kernel
theorem dX4_lay_87 : decode cX4_lay 87 = .ok (.aload_n 0, 1) := by decide +kernel
theorem dX4_lay_88 : decode cX4_lay 88 = .ok (.getfield 30, 3) := by decide +kernel
theorem dX4_lay_91 : decode cX4_lay 91 = .ok (.getfield 80, 3) := by decide +kernel
theorem dX4_lay_94 : decode cX4_lay 94 = .ok (.aload_n 0, 1) := by decide +kernel
theorem dX4_lay_95 : decode cX4_lay 95 = .ok (.getfield 9, 3) := by decide +kernel
theorem dX4_lay_98 : decode cX4_lay 98 = .ok (.iload_n 3, 1) := by decide +kernel
theorem dX4_lay_99 : decode cX4_lay 99 = .ok (.iconst 1, 1) := by decide +kernel
theorem dX4_lay_100 : decode cX4_lay 100 = .ok (.iadd, 1) := by decide +kernel
theorem dX4_lay_101 : decode cX4_lay 101 = .ok (.iaload, 1) := by decide +kernel
theorem dX4_lay_102 : decode cX4_lay 102 = .ok (.iaload, 1) := by decide +kernel
theorem dX4_lay_103 : decode cX4_lay 103 = .ok (.goto 4, 3) := by decide +kernel
theorem dX4_lay_106 : decode cX4_lay 106 = .ok (.iload_n 1, 1) := by decide +kernel
theorem dX4_lay_107 : decode cX4_lay 107 = .ok (.istore 4, 2) := by decide +kernel
theorem dX4_lay_109 : decode cX4_lay 109 = .ok (.aload_n 0, 1) := by decide +kernel
theorem dX4_lay_110 : decode cX4_lay 110 = .ok (.getfield 38, 3) := by decide +kernel
theorem dX4_lay_113 : decode cX4_lay 113 = .ok (.aload_n 0, 1) := by decide +kernel
theorem dX4_lay_114 : decode cX4_lay 114 = .ok (.getfield 9, 3) := by decide +kernel
theorem dX4_lay_117 : decode cX4_lay 117 = .ok (.iload_n 3, 1) := by decide +kernel
theorem dX4_lay_118 : decode cX4_lay 118 = .ok (.iaload, 1) := by decide +kernel
theorem dX4_lay_119 : decode cX4_lay 119 = .ok (.iload_n 2, 1) := by decide +kernel
theorem dX4_lay_120 : decode cX4_lay 120 = .ok (.iload 4, 2) := by decide +kernel
theorem dX4_lay_122 : decode cX4_lay 122 = .ok (.invokevirtual 83, 3) := by decide +kernel
theorem dX4_lay_125 : decode cX4_lay 125 = .ok (.istore 5, 2) := by decide +kernel
theorem dX4_lay_127 : decode cX4_lay 127 = .ok (.iload 5, 2) := by decide +kernel
theorem dX4_lay_129 : decode cX4_lay 129 = .ok (.iconst (-1), 1) := by decide +kernel
theorem dX4_lay_130 : decode cX4_lay 130 = .ok (.if_icmp .ne 5, 3) := by decide +kernel
theorem dX4_lay_133 : decode cX4_lay 133 = .ok (.iconst 0, 1) := by decide +kernel
theorem dX4_lay_134 : decode cX4_lay 134 = .ok (.ireturn, 1) := by decide +kernel
theorem dX4_lay_135 : decode cX4_lay 135 = .ok (.aload_n 0, 1) := by decide +kernel
theorem dX4_lay_136 : decode cX4_lay 136 = .ok (.dup, 1) := by decide +kernel
theorem dX4_lay_137 : decode cX4_lay 137 = .ok (.getfield 70, 3) := by decide +kernel
theorem dX4_lay_140 : decode cX4_lay 140 = .ok (.iload 5, 2) := by decide +kernel
theorem dX4_lay_142 : decode cX4_lay 142 = .ok (.iadd, 1) := by decide +kernel
theorem dX4_lay_143 : decode cX4_lay 143 = .ok (.putfield 70, 3) := by decide +kernel
theorem dX4_lay_146 : decode cX4_lay 146 = .ok (.iload 4, 2) := by decide +kernel
theorem dX4_lay_148 : decode cX4_lay 148 = .ok (.istore_n 2, 1) := by decide +kernel
theorem dX4_lay_149 : decode cX4_lay 149 = .ok (.iinc 3 1, 3) := by decide +kernel
theorem dX4_lay_152 : decode cX4_lay 152 = .ok (.goto (-89), 3) := by decide +kernel
theorem dX4_lay_155 : decode cX4_lay 155 = .ok (.iconst 1, 1) := by decide +kernel
theorem dX4_lay_156 : decode cX4_lay 156 = .ok (.ireturn, 1) := by decide +kernel
theorem bX4_lay_0 {Z : ZT} {X : XT} {μ : Mu} {a0 : Nat} (E : Ent Z X mX4_lay 0 0) (ha0 : SH a0 = .inl 4) (s1_ : vp_in (nI 4) 5) (s2_ : vp_in (nI 3) 5)
    (kt : (μ a0 4) = 0 → JS Z X 49 [] [] μ) (kf : ¬ ((μ a0 4) = 0) → JS Z X 27 [(0, .ref (Z.2.2.1 + a0)), (1, .int (μ (27 + 1) (ix (nI 4)))), (2, .int (μ (27 + 1) (ix (nI 3))))] [] μ) :
    JS Z X 0 [(0, .ref (Z.2.2.1 + a0))] [] μ := by
  refine J_aload_n E dX4_lay_0 rfl ?_
  refine S_get (ci := 4) (q := 1) (v := .ref (Z.2.2.1 + 27)) E dX4_lay_1 fs_X4_34 ha0 rfl ?_
  refine S_get (ci := 6) (q := 0) (v := .ref (Z.2.2.1 + (27 + 1))) E dX4_lay_4 fs_X4_61 sh27 rfl ?_
  refine J_iconst (v := nI 4) E dX4_lay_7 rfl ?_
  refine S_iald E dX4_lay_8 (shr_X6_0 sh27) s1_ ?_
  refine J_istore_n (lv' := [(0, .ref (Z.2.2.1 + a0)), (1, .int (μ (27 + 1) (ix (nI 4))))]) E dX4_lay_9 (Nat.le_of_ble_eq_true rfl) rfl ?_
  refine J_aload_n E dX4_lay_10 rfl ?_
  refine S_get (ci := 4) (q := 1) (v := .ref (Z.2.2.1 + 27)) E dX4_lay_11 fs_X4_34 ha0 rfl ?_
  refine S_get (ci := 6) (q := 0) (v := .ref (Z.2.2.1 + (27 + 1))) E dX4_lay_14 fs_X4_61 sh27 rfl ?_
  refine J_iconst (v := nI 3) E dX4_lay_17 rfl ?_
  refine S_iald E dX4_lay_18 (shr_X6_0 sh27) s2_ ?_
  refine J_istore_n (lv' := [(0, .ref (Z.2.2.1 + a0)), (1, .int (μ (27 + 1) (ix (nI 4)))), (2, .int (μ (27 + 1) (ix (nI 3))))]) E dX4_lay_19 (Nat.le_of_ble_eq_true rfl) rfl ?_
  refine J_aload_n E dX4_lay_20 rfl ?_
  refine S_get (ci := 4) (q := 4) (v := .int (μ a0 4)) E dX4_lay_21 fs_X4_55 ha0 rfl ?_
  refine J_if_eq (tgt := 49) E dX4_lay_24 (by decide) (fun c => ?_) (fun c => ?_)
  · refine J.weak [] rfl ?_
    exact kt c
  · exact kf c
theorem bX4_lay_27 {Z : ZT} {X : XT} {μ : Mu} {a0 : Nat} {a1 : Int32} {a2 : Int32} (E : Ent Z X mX4_lay 0 0) (ha0 : SH a0 = .inl 4) {p : Int32 → Mu → Prop} 
    (c : CtrS Z mX3_hasPlace [.ref (Z.2.2.1 + 1), .int a2] μ (rI p)) (k : ∀ v μ1, p v μ1 → JS Z X 35 [(0, .ref (Z.2.2.1 + a0)), (1, .int a1), (2, .int a2)] [.int v] μ1) :
    JS Z X 27 [(0, .ref (Z.2.2.1 + a0)), (1, .int a1), (2, .int a2)] [] μ := by
  refine J_aload_n E dX4_lay_27 rfl ?_
  refine S_get (ci := 4) (q := 0) (v := .ref (Z.2.2.1 + 1)) E dX4_lay_28 fs_X4_30 ha0 rfl ?_
  refine J_iload_n E dX4_lay_31 rfl ?_
  refine S_callV (As := [.int a2]) (rest := []) E dX4_lay_32 c kX3_hasPlace ⟨Nat.le_of_ble_eq_true rfl, Nat.le_of_ble_eq_true rfl⟩ rfl (Nat.le_of_ble_eq_true rfl) sh1 rfl rfl w4_85 w3_42 w3_43 (fun r_ μ1 hp_ => ?_)
  obtain ⟨v, rfl, hp_⟩ := hp_
  exact k v μ1 hp_
theorem bX4_lay_35 {Z : ZT} {X : XT} {μ : Mu} {a0 : Nat} {a1 : Int32} {a2 : Int32} {s0 : Int32} (E : Ent Z X mX4_lay 0 0) (ha0 : SH a0 = .inl 4) 
    (kt : s0 = 0 → JS Z X 49 [] [] μ) (kf : ¬ (s0 = 0) → JS Z X 38 [(0, .ref (Z.2.2.1 + a0)), (1, .int a1), (2, .int a2)] [] μ) :
    JS Z X 35 [(0, .ref (Z.2.2.1 + a0)), (1, .int a1), (2, .int a2)] [.int s0] μ := by
  refine J_if_eq (tgt := 49) E dX4_lay_35 (by decide) (fun c => ?_) (fun c => ?_)
  · refine J.weak [] rfl ?_
    exact kt c
  · exact kf c
theorem bX4_lay_38 {Z : ZT} {X : XT} {μ : Mu} {a0 : Nat} {a1 : Int32} {a2 : Int32} (E : Ent Z X mX4_lay 0 0) (ha0 : SH a0 = .inl 4) {p : Int32 → Mu → Prop} 
    (c : CtrS Z mX3_hasPlace [.ref (Z.2.2.1 + 1), .int a1] μ (rI p)) (k : ∀ v μ1, p v μ1 → JS Z X 46 [(0, .ref (Z.2.2.1 + a0)), (1, .int a1), (2, .int a2)] [.int v] μ1) :
    JS Z X 38 [(0, .ref (Z.2.2.1 + a0)), (1, .int a1), (2, .int a2)] [] μ := by
  refine J_aload_n E dX4_lay_38 rfl ?_
  refine S_get (ci := 4) (q := 0) (v := .ref (Z.2.2.1 + 1)) E dX4_lay_39 fs_X4_30 ha0 rfl ?_
  refine J_iload_n E dX4_lay_42 rfl ?_
  refine S_callV (As := [.int a1]) (rest := []) E dX4_lay_43 c kX3_hasPlace ⟨Nat.le_of_ble_eq_true rfl, Nat.le_of_ble_eq_true rfl⟩ rfl (Nat.le_of_ble_eq_true rfl) sh1 rfl rfl w4_85 w3_42 w3_43 (fun r_ μ1 hp_ => ?_)
  obtain ⟨v, rfl, hp_⟩ := hp_
  exact k v μ1 hp_
theorem bX4_lay_46 {Z : ZT} {X : XT} {μ : Mu} {a0 : Nat} {a1 : Int32} {a2 : Int32} {s0 : Int32} (E : Ent Z X mX4_lay 0 0) (ha0 : SH a0 = .inl 4) 
    (kt : ¬ s0 = 0 → JS Z X 51 [(0, .ref (Z.2.2.1 + a0)), (1, .int a1), (2, .int a2)] [] μ) (kf : s0 = 0 → JS Z X 49 [] [] μ) :
    JS Z X 46 [(0, .ref (Z.2.2.1 + a0)), (1, .int a1), (2, .int a2)] [.int s0] μ := by
  refine J_if_ne (tgt := 51) E dX4_lay_46 (by decide) (fun c => ?_) (fun c => ?_)
  · exact kt c
  · refine J.weak [] rfl ?_
    exact kf c
theorem bX4_lay_49 {Z : ZT} {X : XT} {μ : Mu} (E : Ent Z X mX4_lay 0 0) {P : Option Value → Mu → Prop} (hB : BodS Z X P) 
    (k : P (some (.int (nI 0))) μ) :
    JS Z X 49 [] [] μ := by
  refine J_iconst (v := nI 0) E dX4_lay_49 rfl ?_
  exact S_zret E hB dX4_lay_50 rfl rfl k
theorem bX4_lay_51 {Z : ZT} {X : XT} {μ : Mu} {a0 : Nat} {a1 : Int32} {a2 : Int32} (E : Ent Z X mX4_lay 0 0) (ha0 : SH a0 = .inl 4) 
    (k : JS Z X 56 [(0, .ref (Z.2.2.1 + a0)), (1, .int a1), (2, .int a2)] [] (uR μ a0 (upd (μ a0) 11 (nI 0)))) :
    JS Z X 51 [(0, .ref (Z.2.2.1 + a0)), (1, .int a1), (2, .int a2)] [] μ := by
  refine J_aload_n E dX4_lay_51 rfl ?_
  refine J_iconst (v := nI 0) E dX4_lay_52 rfl ?_
  refine S_puti E dX4_lay_53 fs_X4_70 fp_X4_11 ha0 rfl ?_
  exact k
theorem bX4_lay_56 {Z : ZT} {X : XT} {μ : Mu} {a0 : Nat} {a1 : Int32} {a2 : Int32} (E : Ent Z X mX4_lay 0 0) (ha0 : SH a0 = .inl 4) 
    (k : JS Z X 61 [(0, .ref (Z.2.2.1 + a0)), (1, .int a1), (2, .int a2)] [] (uR μ a0 (upd (μ a0) 12 (nI 0)))) :
    JS Z X 56 [(0, .ref (Z.2.2.1 + a0)), (1, .int a1), (2, .int a2)] [] μ := by
  refine J_aload_n E dX4_lay_56 rfl ?_
  refine J_iconst (v := nI 0) E dX4_lay_57 rfl ?_
  refine S_puti E dX4_lay_58 fs_X4_73 fp_X4_12 ha0 rfl ?_
  exact k
theorem bX4_lay_61 {Z : ZT} {X : XT} {μ : Mu} {a0 : Nat} {a1 : Int32} {a2 : Int32} (E : Ent Z X mX4_lay 0 0) (ha0 : SH a0 = .inl 4) 
    (k : JS Z X 63 [(0, .ref (Z.2.2.1 + a0)), (1, .int a1), (2, .int a2), (3, .int (nI 0))] [] μ) :
    JS Z X 61 [(0, .ref (Z.2.2.1 + a0)), (1, .int a1), (2, .int a2)] [] μ := by
  refine J_iconst (v := nI 0) E dX4_lay_61 rfl ?_
  refine J_istore_n (lv' := [(0, .ref (Z.2.2.1 + a0)), (1, .int a1), (2, .int a2), (3, .int (nI 0))]) E dX4_lay_62 (Nat.le_of_ble_eq_true rfl) rfl ?_
  exact k
theorem bX4_lay_63 {Z : ZT} {X : XT} {μ : Mu} {a0 : Nat} {a1 : Int32} {a2 : Int32} {a3 : Int32} (E : Ent Z X mX4_lay 0 0) (ha0 : SH a0 = .inl 4) 
    (kt : (μ a0 4) ≤ a3 → JS Z X 155 [] [] μ) (kf : ¬ ((μ a0 4) ≤ a3) → JS Z X 71 [(0, .ref (Z.2.2.1 + a0)), (1, .int a1), (2, .int a2), (3, .int a3)] [] μ) :
    JS Z X 63 [(0, .ref (Z.2.2.1 + a0)), (1, .int a1), (2, .int a2), (3, .int a3)] [] μ := by
  refine J_iload_n E dX4_lay_63 rfl ?_
  refine J_aload_n E dX4_lay_64 rfl ?_
  refine S_get (ci := 4) (q := 4) (v := .int (μ a0 4)) E dX4_lay_65 fs_X4_55 ha0 rfl ?_
  refine J_icmp_ge (tgt := 155) E dX4_lay_68 (by decide) (fun c => ?_) (fun c => ?_)
  · refine J.weak [] rfl ?_
    exact kt c
  · exact kf c
theorem bX4_lay_71 {Z : ZT} {X : XT} {μ : Mu} {a0 : Nat} {a1 : Int32} {a2 : Int32} {a3 : Int32} (E : Ent Z X mX4_lay 0 0) (ha0 : SH a0 = .inl 4) {p : Mu → Prop} 
    (c : CtrS Z mX4_layRiddle [.ref (Z.2.2.1 + a0), .int a3, .int a2] μ (rV p)) (k : ∀ μ1, p μ1 → JS Z X 77 [(0, .ref (Z.2.2.1 + a0)), (1, .int a1), (2, .int a2), (3, .int a3)] [] μ1) :
    JS Z X 71 [(0, .ref (Z.2.2.1 + a0)), (1, .int a1), (2, .int a2), (3, .int a3)] [] μ := by
  refine J_aload_n E dX4_lay_71 rfl ?_
  refine J_iload_n E dX4_lay_72 rfl ?_
  refine J_iload_n E dX4_lay_73 rfl ?_
  refine S_callV (As := [.int a3, .int a2]) (rest := []) E dX4_lay_74 c kX4_layRiddle ⟨Nat.le_of_ble_eq_true rfl, Nat.le_of_ble_eq_true rfl⟩ rfl (Nat.le_of_ble_eq_true rfl) ha0 rfl rfl w4_86 w4_88 wp_13 (fun r_ μ1 hp_ => ?_)
  obtain ⟨rfl, hp_⟩ := hp_
  exact k μ1 hp_
theorem bX4_lay_77 {Z : ZT} {X : XT} {μ : Mu} {a0 : Nat} {a1 : Int32} {a2 : Int32} {a3 : Int32} (E : Ent Z X mX4_lay 0 0) (ha0 : SH a0 = .inl 4) 
    (kt : (μ a0 4) ≤ (a3 + (nI 1)) → JS Z X 106 [(0, .ref (Z.2.2.1 + a0)), (1, .int a1), (2, .int a2), (3, .int a3)] [] μ) (kf : ¬ ((μ a0 4) ≤ (a3 + (nI 1))) → JS Z X 87 [(0, .ref (Z.2.2.1 + a0)), (1, .int a1), (2, .int a2), (3, .int a3)] [] μ) :
    JS Z X 77 [(0, .ref (Z.2.2.1 + a0)), (1, .int a1), (2, .int a2), (3, .int a3)] [] μ := by
  refine J_iload_n E dX4_lay_77 rfl ?_
  refine J_iconst (v := nI 1) E dX4_lay_78 rfl ?_
  refine J_iadd E dX4_lay_79 ?_
  refine J_aload_n E dX4_lay_80 rfl ?_
  refine S_get (ci := 4) (q := 4) (v := .int (μ a0 4)) E dX4_lay_81 fs_X4_55 ha0 rfl ?_
  refine J_icmp_ge (tgt := 106) E dX4_lay_84 (by decide) (fun c => ?_) (fun c => ?_)
  · exact kt c
  · exact kf c
theorem bX4_lay_87 {Z : ZT} {X : XT} {μ : Mu} {a0 : Nat} {a1 : Int32} {a2 : Int32} {a3 : Int32} (E : Ent Z X mX4_lay 0 0) (ha0 : SH a0 = .inl 4) (s1_ : vp_in (a3 + (nI 1)) 6) (s2_ : vp_in (μ (a0 + 1) (ix (a3 + (nI 1)))) 8)
    (k : JS Z X 107 [(0, .ref (Z.2.2.1 + a0)), (1, .int a1), (2, .int a2), (3, .int a3)] [.int (μ (1 + 7) (ix (μ (a0 + 1) (ix (a3 + (nI 1))))))] μ) :
    JS Z X 87 [(0, .ref (Z.2.2.1 + a0)), (1, .int a1), (2, .int a2), (3, .int a3)] [] μ := by
  refine J_aload_n E dX4_lay_87 rfl ?_
  refine S_get (ci := 4) (q := 0) (v := .ref (Z.2.2.1 + 1)) E dX4_lay_88 fs_X4_30 ha0 rfl ?_
  refine S_get (ci := 3) (q := 9) (v := .ref (Z.2.2.1 + (1 + 7))) E dX4_lay_91 fs_X4_80 sh1 rfl ?_
  refine J_aload_n E dX4_lay_94 rfl ?_
  refine S_get (ci := 4) (q := 5) (v := .ref (Z.2.2.1 + (a0 + 1))) E dX4_lay_95 fs_X4_9 ha0 rfl ?_
  refine J_iload_n E dX4_lay_98 rfl ?_
  refine J_iconst (v := nI 1) E dX4_lay_99 rfl ?_
  refine J_iadd E dX4_lay_100 ?_
  refine S_iald E dX4_lay_101 (shr_X4_5 ha0) s1_ ?_
  refine S_iald E dX4_lay_102 (shr_X3_9 sh1) s2_ ?_
  refine J_goto (tgt := 107) E dX4_lay_103 (by decide) ?_
  exact k
theorem bX4_lay_106 {Z : ZT} {X : XT} {μ : Mu} {a0 : Nat} {a1 : Int32} {a2 : Int32} {a3 : Int32} (E : Ent Z X mX4_lay 0 0) (ha0 : SH a0 = .inl 4) 
    (k : JS Z X 107 [(0, .ref (Z.2.2.1 + a0)), (1, .int a1), (2, .int a2), (3, .int a3)] [.int a1] μ) :
    JS Z X 106 [(0, .ref (Z.2.2.1 + a0)), (1, .int a1), (2, .int a2), (3, .int a3)] [] μ := by
  refine J_iload_n E dX4_lay_106 rfl ?_
  exact k
theorem bX4_lay_107 {Z : ZT} {X : XT} {μ : Mu} {a0 : Nat} {a1 : Int32} {a2 : Int32} {a3 : Int32} {s0 : Int32} (E : Ent Z X mX4_lay 0 0) (ha0 : SH a0 = .inl 4) {p : Int32 → Mu → Prop} (s1_ : vp_in a3 6)
    (c : CtrS Z mX10_leg [.ref (Z.2.2.1 + 73), .int (μ (a0 + 1) (ix a3)), .int a2, .int s0] μ (rI p)) (k : ∀ v μ1, p v μ1 → JS Z X 125 [(0, .ref (Z.2.2.1 + a0)), (1, .int a1), (3, .int a3), (4, .int s0)] [.int v] μ1) :
    JS Z X 107 [(0, .ref (Z.2.2.1 + a0)), (1, .int a1), (2, .int a2), (3, .int a3)] [.int s0] μ := by
  refine J_istore (lv' := [(0, .ref (Z.2.2.1 + a0)), (1, .int a1), (2, .int a2), (3, .int a3), (4, .int s0)]) E dX4_lay_107 (Nat.le_of_ble_eq_true rfl) rfl ?_
  refine J_aload_n E dX4_lay_109 rfl ?_
  refine S_get (ci := 4) (q := 2) (v := .ref (Z.2.2.1 + 73)) E dX4_lay_110 fs_X4_38 ha0 rfl ?_
  refine J_aload_n E dX4_lay_113 rfl ?_
  refine S_get (ci := 4) (q := 5) (v := .ref (Z.2.2.1 + (a0 + 1))) E dX4_lay_114 fs_X4_9 ha0 rfl ?_
  refine J_iload_n E dX4_lay_117 rfl ?_
  refine S_iald E dX4_lay_118 (shr_X4_5 ha0) s1_ ?_
  refine J_iload_n E dX4_lay_119 rfl ?_
  refine J_iload E dX4_lay_120 rfl ?_
  refine S_callV (As := [.int (μ (a0 + 1) (ix a3)), .int a2, .int s0]) (rest := []) E dX4_lay_122 c kX10_leg ⟨Nat.le_of_ble_eq_true rfl, Nat.le_of_ble_eq_true rfl⟩ rfl (Nat.le_of_ble_eq_true rfl) sh73 rfl rfl w4_99 w4_100 w4_101 (fun r_ μ1 hp_ => ?_)
  obtain ⟨v, rfl, hp_⟩ := hp_
  refine J.weak [0, 1, 3, 4] rfl ?_
  exact k v μ1 hp_
theorem bX4_lay_125 {Z : ZT} {X : XT} {μ : Mu} {a0 : Nat} {a1 : Int32} {a3 : Int32} {a4 : Int32} {s0 : Int32} (E : Ent Z X mX4_lay 0 0) (ha0 : SH a0 = .inl 4) 
    (kt : ¬ s0 = (-1) → JS Z X 135 [(0, .ref (Z.2.2.1 + a0)), (1, .int a1), (3, .int a3), (4, .int a4), (5, .int s0)] [] μ) (kf : s0 = (-1) → JS Z X 133 [] [] μ) :
    JS Z X 125 [(0, .ref (Z.2.2.1 + a0)), (1, .int a1), (3, .int a3), (4, .int a4)] [.int s0] μ := by
  refine J_istore (lv' := [(0, .ref (Z.2.2.1 + a0)), (1, .int a1), (3, .int a3), (4, .int a4), (5, .int s0)]) E dX4_lay_125 (Nat.le_of_ble_eq_true rfl) rfl ?_
  refine J_iload E dX4_lay_127 rfl ?_
  refine J_iconst (v := -1) E dX4_lay_129 rfl ?_
  refine J_icmp_ne (tgt := 135) E dX4_lay_130 (by decide) (fun c => ?_) (fun c => ?_)
  · exact kt c
  · refine J.weak [] rfl ?_
    exact kf c
theorem bX4_lay_133 {Z : ZT} {X : XT} {μ : Mu} (E : Ent Z X mX4_lay 0 0) {P : Option Value → Mu → Prop} (hB : BodS Z X P) 
    (k : P (some (.int (nI 0))) μ) :
    JS Z X 133 [] [] μ := by
  refine J_iconst (v := nI 0) E dX4_lay_133 rfl ?_
  exact S_zret E hB dX4_lay_134 rfl rfl k
theorem bX4_lay_135 {Z : ZT} {X : XT} {μ : Mu} {a0 : Nat} {a1 : Int32} {a3 : Int32} {a4 : Int32} {a5 : Int32} (E : Ent Z X mX4_lay 0 0) (ha0 : SH a0 = .inl 4) 
    (k : JS Z X 146 [(0, .ref (Z.2.2.1 + a0)), (1, .int a1), (3, .int a3), (4, .int a4)] [] (uR μ a0 (upd (μ a0) 11 ((μ a0 11) + a5)))) :
    JS Z X 135 [(0, .ref (Z.2.2.1 + a0)), (1, .int a1), (3, .int a3), (4, .int a4), (5, .int a5)] [] μ := by
  refine J_aload_n E dX4_lay_135 rfl ?_
  refine J_dup E dX4_lay_136 rfl ?_
  refine S_get (ci := 4) (q := 11) (v := .int (μ a0 11)) E dX4_lay_137 fs_X4_70 ha0 rfl ?_
  refine J_iload E dX4_lay_140 rfl ?_
  refine J_iadd E dX4_lay_142 ?_
  refine S_puti E dX4_lay_143 fs_X4_70 fp_X4_11 ha0 rfl ?_
  refine J.weak [0, 1, 2, 3] rfl ?_
  exact k
theorem bX4_lay_146 {Z : ZT} {X : XT} {μ : Mu} {a0 : Nat} {a1 : Int32} {a3 : Int32} {a4 : Int32} (E : Ent Z X mX4_lay 0 0) (ha0 : SH a0 = .inl 4) 
    (k : JS Z X 63 [(0, .ref (Z.2.2.1 + a0)), (1, .int a1), (2, .int a4), (3, .int (a3 + nI 1))] [] μ) :
    JS Z X 146 [(0, .ref (Z.2.2.1 + a0)), (1, .int a1), (3, .int a3), (4, .int a4)] [] μ := by
  refine J_iload E dX4_lay_146 rfl ?_
  refine J_istore_n (lv' := [(0, .ref (Z.2.2.1 + a0)), (1, .int a1), (2, .int a4), (3, .int a3), (4, .int a4)]) E dX4_lay_148 (Nat.le_of_ble_eq_true rfl) rfl ?_
  refine J_iinc (v := a3 + nI 1) (lv' := [(0, .ref (Z.2.2.1 + a0)), (1, .int a1), (2, .int a4), (3, .int (a3 + nI 1)), (4, .int a4)]) E dX4_lay_149 rfl rfl (Nat.le_of_ble_eq_true rfl) rfl ?_
  refine J_goto (tgt := 63) E dX4_lay_152 (by decide) ?_
  refine J.weak [0, 1, 2, 3] rfl ?_
  exact k
theorem bX4_lay_155 {Z : ZT} {X : XT} {μ : Mu} (E : Ent Z X mX4_lay 0 0) {P : Option Value → Mu → Prop} (hB : BodS Z X P) 
    (k : P (some (.int (nI 1))) μ) :
    JS Z X 155 [] [] μ := by
  refine J_iconst (v := nI 1) E dX4_lay_155 rfl ?_
  exact S_zret E hB dX4_lay_156 rfl rfl k
theorem dX4_layRiddle_0 : decode cX4_layRiddle 0 = .ok (.aload_n 0, 1) := by decide +kernel
theorem dX4_layRiddle_1 : decode cX4_layRiddle 1 = .ok (.getfield 34, 3) := by decide +kernel
theorem dX4_layRiddle_4 : decode cX4_layRiddle 4 = .ok (.getfield 61, 3) := by decide +kernel
theorem dX4_layRiddle_7 : decode cX4_layRiddle 7 = .ok (.iconst 0, 1) := by decide +kernel
theorem dX4_layRiddle_8 : decode cX4_layRiddle 8 = .ok (.iaload, 1) := by decide +kernel
theorem dX4_layRiddle_9 : decode cX4_layRiddle 9 = .ok (.istore_n 3, 1) := by decide +kernel
theorem dX4_layRiddle_10 : decode cX4_layRiddle 10 = .ok (.aload_n 0, 1) := by decide +kernel
theorem dX4_layRiddle_11 : decode cX4_layRiddle 11 = .ok (.getfield 15, 3) := by decide +kernel
theorem dX4_layRiddle_14 : decode cX4_layRiddle 14 = .ok (.iload_n 1, 1) := by decide +kernel
theorem dX4_layRiddle_15 : decode cX4_layRiddle 15 = .ok (.iload_n 2, 1) := by decide +kernel
theorem dX4_layRiddle_16 : decode cX4_layRiddle 16 = .ok (.iastore, 1) := by decide +kernel
theorem dX4_layRiddle_17 : decode cX4_layRiddle 17 = .ok (.aload_n 0, 1) := by decide +kernel
theorem dX4_layRiddle_18 : decode cX4_layRiddle 18 = .ok (.getfield 18, 3) := by decide +kernel
theorem dX4_layRiddle_21 : decode cX4_layRiddle 21 = .ok (.iload_n 1, 1) := by decide +kernel
theorem dX4_layRiddle_22 : decode cX4_layRiddle 22 = .ok (.aload_n 0, 1) := by decide +kernel
theorem dX4_layRiddle_23 : decode cX4_layRiddle 23 = .ok (.iload_n 1, 1) := by decide +kernel
theorem dX4_layRiddle_24 : decode cX4_layRiddle 24 = .ok (.aload_n 0, 1) := by decide +kernel
theorem dX4_layRiddle_25 : decode cX4_layRiddle 25 = .ok (.getfield 30, 3) := by decide +kernel
theorem dX4_layRiddle_28 : decode cX4_layRiddle 28 = .ok (.getfield 89, 3) := by decide +kernel
theorem dX4_layRiddle_31 : decode cX4_layRiddle 31 = .ok (.aload_n 0, 1) := by decide +kernel
theorem dX4_layRiddle_32 : decode cX4_layRiddle 32 = .ok (.getfield 9, 3) := by decide +kernel
theorem dX4_layRiddle_35 : decode cX4_layRiddle 35 = .ok (.iload_n 1, 1) := by decide +kernel
theorem dX4_layRiddle_36 : decode cX4_layRiddle 36 = .ok (.iaload, 1) := by decide +kernel
theorem dX4_layRiddle_37 : decode cX4_layRiddle 37 = .ok (.iaload, 1) := by decide +kernel
theorem dX4_layRiddle_38 : decode cX4_layRiddle 38 = .ok (.invokevirtual 92, 3) := by decide +kernel
theorem dX4_layRiddle_41 : decode cX4_layRiddle 41 = .ok (.iastore, 1) := by decide +kernel
theorem dX4_layRiddle_42 : decode cX4_layRiddle 42 = .ok (.aload_n 0, 1) := by decide +kernel
theorem dX4_layRiddle_43 : decode cX4_layRiddle 43 = .ok (.getfield 24, 3) := by decide +kernel
theorem dX4_layRiddle_46 : decode cX4_layRiddle 46 = .ok (.iload_n 1, 1) := by decide +kernel
theorem dX4_layRiddle_47 : decode cX4_layRiddle 47 = .ok (.aload_n 0, 1) := by decide +kernel
theorem dX4_layRiddle_48 : decode cX4_layRiddle 48 = .ok (.getfield 70, 3) := by decide +kernel
theorem dX4_layRiddle_51 : decode cX4_layRiddle 51 = .ok (.aload_n 0, 1) := by decide +kernel
theorem dX4_layRiddle_52 : decode cX4_layRiddle 52 = .ok (.getfield 73, 3) := by decide +kernel
theorem dX4_layRiddle_55 : decode cX4_layRiddle 55 = .ok (.iadd, 1) := by decide +kernel
theorem dX4_layRiddle_56 : decode cX4_layRiddle 56 = .ok (.iastore, 1) := by decide +kernel
theorem dX4_layRiddle_57 : decode cX4_layRiddle 57 = .ok (.aload_n 0, 1) := by decide +kernel
theorem dX4_layRiddle_58 : decode cX4_layRiddle 58 = .ok (.getfield 27, 3) := by decide +kernel
theorem dX4_layRiddle_61 : decode cX4_layRiddle 61 = .ok (.iload_n 1, 1) := by decide +kernel
theorem dX4_layRiddle_62 : decode cX4_layRiddle 62 = .ok (.aload_n 0, 1) := by decide +kernel
theorem dX4_layRiddle_63 : decode cX4_layRiddle 63 = .ok (.getfield 70, 3) := by decide +kernel
theorem dX4_layRiddle_66 : decode cX4_layRiddle 66 = .ok (.iload_n 1, 1) := by decide +kernel
theorem dX4_layRiddle_67 : decode cX4_layRiddle 67 = .ok (.iconst 1, 1) := by decide +kernel
theorem dX4_layRiddle_68 : decode cX4_layRiddle 68 = .ok (.iadd, 1) := by decide +kernel
theorem dX4_layRiddle_69 : decode cX4_layRiddle 69 = .ok (.iload_n 3, 1) := by decide +kernel
theorem dX4_layRiddle_70 : decode cX4_layRiddle 70 = .ok (.imul, 1) := by decide +kernel
theorem dX4_layRiddle_71 : decode cX4_layRiddle 71 = .ok (.iadd, 1) := by decide +kernel
theorem dX4_layRiddle_72 : decode cX4_layRiddle 72 = .ok (.iastore, 1) := by decide +kernel
theorem dX4_layRiddle_73 : decode cX4_layRiddle 73 = .ok (.aload_n 0, 1) := by decide +kernel
theorem dX4_layRiddle_74 : decode cX4_layRiddle 74 = .ok (.dup, 1) := by decide +kernel
theorem dX4_layRiddle_75 : decode cX4_layRiddle 75 = .ok (.getfield 73, 3) := by decide +kernel
theorem dX4_layRiddle_78 : decode cX4_layRiddle 78 = .ok (.aload_n 0, 1) := by decide +kernel
theorem dX4_layRiddle_79 : decode cX4_layRiddle 79 = .ok (.getfield 18, 3) := by decide +kernel
theorem dX4_layRiddle_82 : decode cX4_layRiddle 82 = .ok (.iload_n 1, 1) := by decide +kernel
theorem dX4_layRiddle_83 : decode cX4_layRiddle 83 = .ok (.iaload, 1) := by decide +kernel
theorem dX4_layRiddle_84 : decode cX4_layRiddle 84 = .ok (.ldc 96, 2) := by decide +kernel
theorem dX4_layRiddle_86 : decode cX4_layRiddle 86 = .ok (.if_icmp .ge 7, 3) := by decide +kernel
theorem dX4_layRiddle_89 : decode cX4_layRiddle 89 = .ok (.iconst 1, 1) := by decide +kernel
theorem dX4_layRiddle_90 : decode cX4_layRiddle 90 = .ok (.goto 4, 3) := by decide +kernel
theorem dX4_layRiddle_93 : decode cX4_layRiddle 93 = .ok (.iload_n 3, 1) := by decide +kernel
theorem dX4_layRiddle_94 : decode cX4_layRiddle 94 = .ok (.iadd, 1) := by decide +kernel
theorem dX4_layRiddle_95 : decode cX4_layRiddle 95 = .ok (.putfield 73, 3) := by decide +kernel
theorem dX4_layRiddle_98 : decode cX4_layRiddle 98 = .ok (.return_, 1) := by decide +kernel
theorem bX4_layRiddle_0 {Z : ZT} {X : XT} {μ : Mu} {a0 : Nat} {a1 : Int32} {a2 : Int32} (E : Ent Z X mX4_layRiddle 0 0) (ha0 : SH a0 = .inl 4) (s1_ : vp_in (nI 0) 5) (s2_ : vp_in a1 6)
    (k : JS Z X 17 [(0, .ref (Z.2.2.1 + a0)), (1, .int a1), (3, .int (μ (27 + 1) (ix (nI 0))))] [] (uR μ (a0 + 2) (upd (μ (a0 + 2)) (ix a1) a2))) :
    JS Z X 0 [(0, .ref (Z.2.2.1 + a0)), (1, .int a1), (2, .int a2)] [] μ := by
  refine J_aload_n E dX4_layRiddle_0 rfl ?_
  refine S_get (ci := 4) (q := 1) (v := .ref (Z.2.2.1 + 27)) E dX4_layRiddle_1 fs_X4_34 ha0 rfl ?_
  refine S_get (ci := 6) (q := 0) (v := .ref (Z.2.2.1 + (27 + 1))) E dX4_layRiddle_4 fs_X4_61 sh27 rfl ?_
  refine J_iconst (v := nI 0) E dX4_layRiddle_7 rfl ?_
  refine S_iald E dX4_layRiddle_8 (shr_X6_0 sh27) s1_ ?_
  refine J_istore_n (lv' := [(0, .ref (Z.2.2.1 + a0)), (1, .int a1), (2, .int a2), (3, .int (μ (27 + 1) (ix (nI 0))))]) E dX4_layRiddle_9 (Nat.le_of_ble_eq_true rfl) rfl ?_
  refine J_aload_n E dX4_layRiddle_10 rfl ?_
  refine S_get (ci := 4) (q := 6) (v := .ref (Z.2.2.1 + (a0 + 2))) E dX4_layRiddle_11 fs_X4_15 ha0 rfl ?_
  refine J_iload_n E dX4_layRiddle_14 rfl ?_
  refine J_iload_n E dX4_layRiddle_15 rfl ?_
  refine S_iast E dX4_layRiddle_16 (shr_X4_6 ha0) s2_ ?_
  refine J.weak [0, 1, 3] rfl ?_
  exact k
theorem bX4_layRiddle_17 {Z : ZT} {X : XT} {μ : Mu} {a0 : Nat} {a1 : Int32} {a3 : Int32} (E : Ent Z X mX4_layRiddle 0 0) (ha0 : SH a0 = .inl 4) {p : Int32 → Mu → Prop} (s1_ : vp_in a1 6) (s2_ : vp_in (μ (a0 + 1) (ix a1)) 8)
    (c : CtrS Z mX4_weigh [.ref (Z.2.2.1 + a0), .int a1, .int (μ (1 + 8) (ix (μ (a0 + 1) (ix a1))))] μ (rI p)) (k : ∀ v μ1, p v μ1 → JS Z X 41 [(0, .ref (Z.2.2.1 + a0)), (1, .int a1), (3, .int a3)] [.int v, .int a1, .ref (Z.2.2.1 + (a0 + 3))] μ1) :
    JS Z X 17 [(0, .ref (Z.2.2.1 + a0)), (1, .int a1), (3, .int a3)] [] μ := by
  refine J_aload_n E dX4_layRiddle_17 rfl ?_
  refine S_get (ci := 4) (q := 7) (v := .ref (Z.2.2.1 + (a0 + 3))) E dX4_layRiddle_18 fs_X4_18 ha0 rfl ?_
  refine J_iload_n E dX4_layRiddle_21 rfl ?_
  refine J_aload_n E dX4_layRiddle_22 rfl ?_
  refine J_iload_n E dX4_layRiddle_23 rfl ?_
  refine J_aload_n E dX4_layRiddle_24 rfl ?_
  refine S_get (ci := 4) (q := 0) (v := .ref (Z.2.2.1 + 1)) E dX4_layRiddle_25 fs_X4_30 ha0 rfl ?_
  refine S_get (ci := 3) (q := 10) (v := .ref (Z.2.2.1 + (1 + 8))) E dX4_layRiddle_28 fs_X4_89 sh1 rfl ?_
  refine J_aload_n E dX4_layRiddle_31 rfl ?_
  refine S_get (ci := 4) (q := 5) (v := .ref (Z.2.2.1 + (a0 + 1))) E dX4_layRiddle_32 fs_X4_9 ha0 rfl ?_
  refine J_iload_n E dX4_layRiddle_35 rfl ?_
  refine S_iald E dX4_layRiddle_36 (shr_X4_5 ha0) s1_ ?_
  refine S_iald E dX4_layRiddle_37 (shr_X3_10 sh1) s2_ ?_
  refine S_callV (As := [.int a1, .int (μ (1 + 8) (ix (μ (a0 + 1) (ix a1))))]) (rest := [.int a1, .ref (Z.2.2.1 + (a0 + 3))]) E dX4_layRiddle_38 c kX4_weigh ⟨Nat.le_of_ble_eq_true rfl, Nat.le_of_ble_eq_true rfl⟩ rfl (Nat.le_of_ble_eq_true rfl) ha0 rfl rfl w4_90 w4_91 w4_92 (fun r_ μ1 hp_ => ?_)
  obtain ⟨v, rfl, hp_⟩ := hp_
  exact k v μ1 hp_
theorem bX4_layRiddle_41 {Z : ZT} {X : XT} {μ : Mu} {a0 : Nat} {a1 : Int32} {a3 : Int32} {s0 : Nat} {s1 : Int32} {s2 : Int32} (E : Ent Z X mX4_layRiddle 0 0) (ha0 : SH a0 = .inl 4) (hs0 : SH s0 = .inr (0, 6)) (s1_ : vp_in s1 6)
    (k : JS Z X 42 [(0, .ref (Z.2.2.1 + a0)), (1, .int a1), (3, .int a3)] [] (uR μ s0 (upd (μ s0) (ix s1) s2))) :
    JS Z X 41 [(0, .ref (Z.2.2.1 + a0)), (1, .int a1), (3, .int a3)] [.int s2, .int s1, .ref (Z.2.2.1 + s0)] μ := by
  refine S_iast E dX4_layRiddle_41 hs0 s1_ ?_
  exact k
theorem bX4_layRiddle_42 {Z : ZT} {X : XT} {μ : Mu} {a0 : Nat} {a1 : Int32} {a3 : Int32} (E : Ent Z X mX4_layRiddle 0 0) (ha0 : SH a0 = .inl 4) (s1_ : vp_in a1 6)
    (k : JS Z X 57 [(0, .ref (Z.2.2.1 + a0)), (1, .int a1), (3, .int a3)] [] (uR μ (a0 + 5) (upd (μ (a0 + 5)) (ix a1) ((μ a0 11) + (μ a0 12))))) :
    JS Z X 42 [(0, .ref (Z.2.2.1 + a0)), (1, .int a1), (3, .int a3)] [] μ := by
  refine J_aload_n E dX4_layRiddle_42 rfl ?_
  refine S_get (ci := 4) (q := 9) (v := .ref (Z.2.2.1 + (a0 + 5))) E dX4_layRiddle_43 fs_X4_24 ha0 rfl ?_
  refine J_iload_n E dX4_layRiddle_46 rfl ?_
  refine J_aload_n E dX4_layRiddle_47 rfl ?_
  refine S_get (ci := 4) (q := 11) (v := .int (μ a0 11)) E dX4_layRiddle_48 fs_X4_70 ha0 rfl ?_
  refine J_aload_n E dX4_layRiddle_51 rfl ?_
  refine S_get (ci := 4) (q := 12) (v := .int (μ a0 12)) E dX4_layRiddle_52 fs_X4_73 ha0 rfl ?_
  refine J_iadd E dX4_layRiddle_55 ?_
  refine S_iast E dX4_layRiddle_56 (shr_X4_9 ha0) s1_ ?_
  exact k
theorem bX4_layRiddle_57 {Z : ZT} {X : XT} {μ : Mu} {a0 : Nat} {a1 : Int32} {a3 : Int32} (E : Ent Z X mX4_layRiddle 0 0) (ha0 : SH a0 = .inl 4) (s1_ : vp_in a1 6)
    (k : JS Z X 73 [(0, .ref (Z.2.2.1 + a0)), (1, .int a1), (3, .int a3)] [] (uR μ (a0 + 6) (upd (μ (a0 + 6)) (ix a1) ((μ a0 11) + ((a1 + (nI 1)) * a3))))) :
    JS Z X 57 [(0, .ref (Z.2.2.1 + a0)), (1, .int a1), (3, .int a3)] [] μ := by
  refine J_aload_n E dX4_layRiddle_57 rfl ?_
  refine S_get (ci := 4) (q := 10) (v := .ref (Z.2.2.1 + (a0 + 6))) E dX4_layRiddle_58 fs_X4_27 ha0 rfl ?_
  refine J_iload_n E dX4_layRiddle_61 rfl ?_
  refine J_aload_n E dX4_layRiddle_62 rfl ?_
  refine S_get (ci := 4) (q := 11) (v := .int (μ a0 11)) E dX4_layRiddle_63 fs_X4_70 ha0 rfl ?_
  refine J_iload_n E dX4_layRiddle_66 rfl ?_
  refine J_iconst (v := nI 1) E dX4_layRiddle_67 rfl ?_
  refine J_iadd E dX4_layRiddle_68 ?_
  refine J_iload_n E dX4_layRiddle_69 rfl ?_
  refine J_imul E dX4_layRiddle_70 ?_
  refine J_iadd E dX4_layRiddle_71 ?_
  refine S_iast E dX4_layRiddle_72 (shr_X4_10 ha0) s1_ ?_
  exact k
theorem bX4_layRiddle_73 {Z : ZT} {X : XT} {μ : Mu} {a0 : Nat} {a1 : Int32} {a3 : Int32} (E : Ent Z X mX4_layRiddle 0 0) (ha0 : SH a0 = .inl 4) (s1_ : vp_in a1 6)
    (kt : (nI 1000000) ≤ (μ (a0 + 3) (ix a1)) → JS Z X 93 [(3, .int a3)] [.int (μ a0 12), .ref (Z.2.2.1 + a0)] μ) (kf : ¬ ((nI 1000000) ≤ (μ (a0 + 3) (ix a1))) → JS Z X 89 [] [.int (μ a0 12), .ref (Z.2.2.1 + a0)] μ) :
    JS Z X 73 [(0, .ref (Z.2.2.1 + a0)), (1, .int a1), (3, .int a3)] [] μ := by
  refine J_aload_n E dX4_layRiddle_73 rfl ?_
  refine J_dup E dX4_layRiddle_74 rfl ?_
  refine S_get (ci := 4) (q := 12) (v := .int (μ a0 12)) E dX4_layRiddle_75 fs_X4_73 ha0 rfl ?_
  refine J_aload_n E dX4_layRiddle_78 rfl ?_
  refine S_get (ci := 4) (q := 7) (v := .ref (Z.2.2.1 + (a0 + 3))) E dX4_layRiddle_79 fs_X4_18 ha0 rfl ?_
  refine J_iload_n E dX4_layRiddle_82 rfl ?_
  refine S_iald E dX4_layRiddle_83 (shr_X4_7 ha0) s1_ ?_
  refine J_ldc (v := nI 1000000) E dX4_layRiddle_84 w4_94 ?_
  refine J_icmp_ge (tgt := 93) E dX4_layRiddle_86 (by decide) (fun c => ?_) (fun c => ?_)
  · refine J.weak [2] rfl ?_
    exact kt c
  · refine J.weak [] rfl ?_
    exact kf c
theorem bX4_layRiddle_89 {Z : ZT} {X : XT} {μ : Mu} {s0 : Nat} {s1 : Int32} (E : Ent Z X mX4_layRiddle 0 0) (hs0 : SH s0 = .inl 4) 
    (k : JS Z X 94 [] [.int (nI 1), .int s1, .ref (Z.2.2.1 + s0)] μ) :
    JS Z X 89 [] [.int s1, .ref (Z.2.2.1 + s0)] μ := by
  refine J_iconst (v := nI 1) E dX4_layRiddle_89 rfl ?_
  refine J_goto (tgt := 94) E dX4_layRiddle_90 (by decide) ?_
  exact k
theorem bX4_layRiddle_93 {Z : ZT} {X : XT} {μ : Mu} {a3 : Int32} {s0 : Nat} {s1 : Int32} (E : Ent Z X mX4_layRiddle 0 0) (hs0 : SH s0 = .inl 4) 
    (k : JS Z X 94 [] [.int a3, .int s1, .ref (Z.2.2.1 + s0)] μ) :
    JS Z X 93 [(3, .int a3)] [.int s1, .ref (Z.2.2.1 + s0)] μ := by
  refine J_iload_n E dX4_layRiddle_93 rfl ?_
  refine J.weak [] rfl ?_
  exact k
theorem bX4_layRiddle_94 {Z : ZT} {X : XT} {μ : Mu} {s0 : Nat} {s1 : Int32} {s2 : Int32} (E : Ent Z X mX4_layRiddle 0 0) (hs0 : SH s0 = .inl 4) 
    (k : JS Z X 98 [] [] (uR μ s0 (upd (μ s0) 12 (s1 + s2)))) :
    JS Z X 94 [] [.int s2, .int s1, .ref (Z.2.2.1 + s0)] μ := by
  refine J_iadd E dX4_layRiddle_94 ?_
  refine S_puti E dX4_layRiddle_95 fs_X4_73 fp_X4_12 hs0 rfl ?_
  exact k
theorem bX4_layRiddle_98 {Z : ZT} {X : XT} {μ : Mu} (E : Ent Z X mX4_layRiddle 0 0) {P : Option Value → Mu → Prop} (hB : BodS Z X P) 
    (k : P none μ) :
    JS Z X 98 [] [] μ := by
  exact S_vret E hB dX4_layRiddle_98 rfl k
theorem dX4_weigh_0 : decode cX4_weigh 0 = .ok (.ldc 96, 2) := by decide +kernel
theorem dX4_weigh_2 : decode cX4_weigh 2 = .ok (.istore_n 3, 1) := by decide +kernel
theorem dX4_weigh_3 : decode cX4_weigh 3 = .ok (.iconst 0, 1) := by decide +kernel
theorem dX4_weigh_4 : decode cX4_weigh 4 = .ok (.istore 4, 2) := by decide +kernel
theorem dX4_weigh_6 : decode cX4_weigh 6 = .ok (.iload 4, 2) := by decide +kernel
theorem dX4_weigh_8 : decode cX4_weigh 8 = .ok (.bipush 6, 2) := by decide +kernel
theorem dX4_weigh_10 : decode cX4_weigh 10 = .ok (.if_icmp .ge 71, 3) := by decide +kernel
theorem dX4_weigh_13 : decode cX4_weigh 13 = .ok (.aload_n 0, 1) := by decide +kernel
theorem dX4_weigh_14 : decode cX4_weigh 14 = .ok (.getfield 30, 3) := by decide +kernel
theorem dX4_weigh_17 : decode cX4_weigh 17 = .ok (.iload 4, 2) := by decide +kernel
theorem dX4_weigh_19 : decode cX4_weigh 19 = .ok (.aload_n 0, 1) := by decide +kernel
theorem dX4_weigh_20 : decode cX4_weigh 20 = .ok (.getfield 42, 3) := by decide +kernel
theorem dX4_weigh_23 : decode cX4_weigh 23 = .ok (.iload_n 2, 1) := by decide +kernel
theorem dX4_weigh_24 : decode cX4_weigh 24 = .ok (.aload_n 0, 1) := by decide +kernel
theorem dX4_weigh_25 : decode cX4_weigh 25 = .ok (.getfield 15, 3) := by decide +kernel
theorem dX4_weigh_28 : decode cX4_weigh 28 = .ok (.iload_n 1, 1) := by decide +kernel
theorem dX4_weigh_29 : decode cX4_weigh 29 = .ok (.iaload, 1) := by decide +kernel
theorem dX4_weigh_30 : decode cX4_weigh 30 = .ok (.invokevirtual 97, 3) := by decide +kernel
theorem dX4_weigh_33 : decode cX4_weigh 33 = .ok (.istore 5, 2) := by decide +kernel
theorem dX4_weigh_35 : decode cX4_weigh 35 = .ok (.aload_n 0, 1) := by decide +kernel
theorem dX4_weigh_36 : decode cX4_weigh 36 = .ok (.getfield 21, 3) := by decide +kernel
theorem dX4_weigh_39 : decode cX4_weigh 39 = .ok (.iload 4, 2) := by decide +kernel
theorem dX4_weigh_41 : decode cX4_weigh 41 = .ok (.iconst 0, 1) := by decide +kernel
theorem dX4_weigh_42 : decode cX4_weigh 42 = .ok (.iastore, 1) := by decide +kernel
theorem dX4_weigh_43 : decode cX4_weigh 43 = .ok (.iload 5, 2) := by decide +kernel
theorem dX4_weigh_45 : decode cX4_weigh 45 = .ok (.ifCond .le 30, 3) := by decide +kernel
theorem dX4_weigh_48 : decode cX4_weigh 48 = .ok (.iload_n 3, 1) := by decide +kernel
theorem dX4_weigh_49 : decode cX4_weigh 49 = .ok (.bipush 10, 2) := by decide +kernel
theorem dX4_weigh_51 : decode cX4_weigh 51 = .ok (.idiv, 1) := by decide +kernel
theorem dX4_weigh_52 : decode cX4_weigh 52 = .ok (.istore 6, 2) := by decide +kernel
theorem dX4_weigh_54 : decode cX4_weigh 54 = .ok (.aload_n 0, 1) := by decide +kernel
theorem dX4_weigh_55 : decode cX4_weigh 55 = .ok (.getfield 21, 3) := by decide +kernel
theorem dX4_weigh_58 : decode cX4_weigh 58 = .ok (.iload 4, 2) := by decide +kernel
theorem dX4_weigh_60 : decode cX4_weigh 60 = .ok (.iload 6, 2) := by decide +kernel
theorem dX4_weigh_62 : decode cX4_weigh 62 = .ok (.iload 5, 2) := by decide +kernel
theorem dX4_weigh_64 : decode cX4_weigh 64 = .ok (.imul, 1) := by decide +kernel
theorem dX4_weigh_65 : decode cX4_weigh 65 = .ok (.iastore, 1) := by decide +kernel
theorem dX4_weigh_66 : decode cX4_weigh 66 = .ok (.iload 6, 2) := by decide +kernel
theorem dX4_weigh_68 : decode cX4_weigh 68 = .ok (.bipush 10, 2) := by decide +kernel
theorem dX4_weigh_70 : decode cX4_weigh 70 = .ok (.iload 5, 2) := by decide +kernel
theorem dX4_weigh_72 : decode cX4_weigh 72 = .ok (.isub, 1) := by decide +kernel
theorem dX4_weigh_73 : decode cX4_weigh 73 = .ok (.imul, 1) := by decide +kernel
theorem dX4_weigh_74 : decode cX4_weigh 74 = .ok (.istore_n 3, 1) := by decide +kernel
theorem dX4_weigh_75 : decode cX4_weigh 75 = .ok (.iinc 4 1, 3) := by decide +kernel
theorem dX4_weigh_78 : decode cX4_weigh 78 = .ok (.goto (-72), 3) := by decide +kernel
theorem dX4_weigh_81 : decode cX4_weigh 81 = .ok (.iload_n 3, 1) := by decide +kernel
theorem dX4_weigh_82 : decode cX4_weigh 82 = .ok (.ireturn, 1) := by decide +kernel
theorem bX4_weigh_0 {Z : ZT} {X : XT} {μ : Mu} {a0 : Nat} {a1 : Int32} {a2 : Int32} (E : Ent Z X mX4_weigh 0 0) (ha0 : SH a0 = .inl 4) 
    (k : JS Z X 6 [(0, .ref (Z.2.2.1 + a0)), (1, .int a1), (2, .int a2), (3, .int (nI 1000000)), (4, .int (nI 0))] [] μ) :
    JS Z X 0 [(0, .ref (Z.2.2.1 + a0)), (1, .int a1), (2, .int a2)] [] μ := by
  refine J_ldc (v := nI 1000000) E dX4_weigh_0 w4_94 ?_
  refine J_istore_n (lv' := [(0, .ref (Z.2.2.1 + a0)), (1, .int a1), (2, .int a2), (3, .int (nI 1000000))]) E dX4_weigh_2 (Nat.le_of_ble_eq_true rfl) rfl ?_
  refine J_iconst (v := nI 0) E dX4_weigh_3 rfl ?_
  refine J_istore (lv' := [(0, .ref (Z.2.2.1 + a0)), (1, .int a1), (2, .int a2), (3, .int (nI 1000000)), (4, .int (nI 0))]) E dX4_weigh_4 (Nat.le_of_ble_eq_true rfl) rfl ?_
  exact k
theorem bX4_weigh_6 {Z : ZT} {X : XT} {μ : Mu} {a0 : Nat} {a1 : Int32} {a2 : Int32} {a3 : Int32} {a4 : Int32} (E : Ent Z X mX4_weigh 0 0) (ha0 : SH a0 = .inl 4) 
    (kt : (nI 6) ≤ a4 → JS Z X 81 [(3, .int a3)] [] μ) (kf : ¬ ((nI 6) ≤ a4) → JS Z X 13 [(0, .ref (Z.2.2.1 + a0)), (1, .int a1), (2, .int a2), (3, .int a3), (4, .int a4)] [] μ) :
    JS Z X 6 [(0, .ref (Z.2.2.1 + a0)), (1, .int a1), (2, .int a2), (3, .int a3), (4, .int a4)] [] μ := by
  refine J_iload E dX4_weigh_6 rfl ?_
  refine J_bipush (v := nI 6) E dX4_weigh_8 rfl ?_
  refine J_icmp_ge (tgt := 81) E dX4_weigh_10 (by decide) (fun c => ?_) (fun c => ?_)
  · refine J.weak [3] rfl ?_
    exact kt c
  · exact kf c
theorem bX4_weigh_13 {Z : ZT} {X : XT} {μ : Mu} {a0 : Nat} {a1 : Int32} {a2 : Int32} {a3 : Int32} {a4 : Int32} (E : Ent Z X mX4_weigh 0 0) (ha0 : SH a0 = .inl 4) {p : Int32 → Mu → Prop} (s1_ : vp_in a1 6)
    (c : CtrS Z mX3_quickAt [.ref (Z.2.2.1 + 1), .int a4, .int (μ a0 3), .int a2, .int (μ (a0 + 2) (ix a1))] μ (rI p)) (k : ∀ v μ1, p v μ1 → JS Z X 33 [(0, .ref (Z.2.2.1 + a0)), (1, .int a1), (2, .int a2), (3, .int a3), (4, .int a4)] [.int v] μ1) :
    JS Z X 13 [(0, .ref (Z.2.2.1 + a0)), (1, .int a1), (2, .int a2), (3, .int a3), (4, .int a4)] [] μ := by
  refine J_aload_n E dX4_weigh_13 rfl ?_
  refine S_get (ci := 4) (q := 0) (v := .ref (Z.2.2.1 + 1)) E dX4_weigh_14 fs_X4_30 ha0 rfl ?_
  refine J_iload E dX4_weigh_17 rfl ?_
  refine J_aload_n E dX4_weigh_19 rfl ?_
  refine S_get (ci := 4) (q := 3) (v := .int (μ a0 3)) E dX4_weigh_20 fs_X4_42 ha0 rfl ?_
  refine J_iload_n E dX4_weigh_23 rfl ?_
  refine J_aload_n E dX4_weigh_24 rfl ?_
  refine S_get (ci := 4) (q := 6) (v := .ref (Z.2.2.1 + (a0 + 2))) E dX4_weigh_25 fs_X4_15 ha0 rfl ?_
  refine J_iload_n E dX4_weigh_28 rfl ?_
  refine S_iald E dX4_weigh_29 (shr_X4_6 ha0) s1_ ?_
  refine S_callV (As := [.int a4, .int (μ a0 3), .int a2, .int (μ (a0 + 2) (ix a1))]) (rest := []) E dX4_weigh_30 c kX3_quickAt ⟨Nat.le_of_ble_eq_true rfl, Nat.le_of_ble_eq_true rfl⟩ rfl (Nat.le_of_ble_eq_true rfl) sh1 rfl rfl w4_95 w4_96 w4_97 (fun r_ μ1 hp_ => ?_)
  obtain ⟨v, rfl, hp_⟩ := hp_
  exact k v μ1 hp_
theorem bX4_weigh_33 {Z : ZT} {X : XT} {μ : Mu} {a0 : Nat} {a1 : Int32} {a2 : Int32} {a3 : Int32} {a4 : Int32} {s0 : Int32} (E : Ent Z X mX4_weigh 0 0) (ha0 : SH a0 = .inl 4) (s1_ : vp_in a4 6)
    (k : JS Z X 43 [(0, .ref (Z.2.2.1 + a0)), (1, .int a1), (2, .int a2), (3, .int a3), (4, .int a4), (5, .int s0)] [] (uR μ (a0 + 4) (upd (μ (a0 + 4)) (ix a4) (nI 0)))) :
    JS Z X 33 [(0, .ref (Z.2.2.1 + a0)), (1, .int a1), (2, .int a2), (3, .int a3), (4, .int a4)] [.int s0] μ := by
  refine J_istore (lv' := [(0, .ref (Z.2.2.1 + a0)), (1, .int a1), (2, .int a2), (3, .int a3), (4, .int a4), (5, .int s0)]) E dX4_weigh_33 (Nat.le_of_ble_eq_true rfl) rfl ?_
  refine J_aload_n E dX4_weigh_35 rfl ?_
  refine S_get (ci := 4) (q := 8) (v := .ref (Z.2.2.1 + (a0 + 4))) E dX4_weigh_36 fs_X4_21 ha0 rfl ?_
  refine J_iload E dX4_weigh_39 rfl ?_
  refine J_iconst (v := nI 0) E dX4_weigh_41 rfl ?_
  refine S_iast E dX4_weigh_42 (shr_X4_8 ha0) s1_ ?_
  exact k
theorem bX4_weigh_43 {Z : ZT} {X : XT} {μ : Mu} {a0 : Nat} {a1 : Int32} {a2 : Int32} {a3 : Int32} {a4 : Int32} {a5 : Int32} (E : Ent Z X mX4_weigh 0 0) (ha0 : SH a0 = .inl 4) 
    (kt : a5 ≤ 0 → JS Z X 75 [(0, .ref (Z.2.2.1 + a0)), (1, .int a1), (2, .int a2), (3, .int a3), (4, .int a4)] [] μ) (kf : ¬ (a5 ≤ 0) → JS Z X 48 [(0, .ref (Z.2.2.1 + a0)), (1, .int a1), (2, .int a2), (3, .int a3), (4, .int a4), (5, .int a5)] [] μ) :
    JS Z X 43 [(0, .ref (Z.2.2.1 + a0)), (1, .int a1), (2, .int a2), (3, .int a3), (4, .int a4), (5, .int a5)] [] μ := by
  refine J_iload E dX4_weigh_43 rfl ?_
  refine J_if_le (tgt := 75) E dX4_weigh_45 (by decide) (fun c => ?_) (fun c => ?_)
  · refine J.weak [0, 1, 2, 3, 4] rfl ?_
    exact kt c
  · exact kf c
theorem bX4_weigh_48 {Z : ZT} {X : XT} {μ : Mu} {a0 : Nat} {a1 : Int32} {a2 : Int32} {a3 : Int32} {a4 : Int32} {a5 : Int32} (E : Ent Z X mX4_weigh 0 0) (ha0 : SH a0 = .inl 4) (s1_ : vp_in a4 6)
    (k : JS Z X 66 [(0, .ref (Z.2.2.1 + a0)), (1, .int a1), (2, .int a2), (4, .int a4), (5, .int a5), (6, .int (a3 / (nI 10)))] [] (uR μ (a0 + 4) (upd (μ (a0 + 4)) (ix a4) ((a3 / (nI 10)) * a5)))) :
    JS Z X 48 [(0, .ref (Z.2.2.1 + a0)), (1, .int a1), (2, .int a2), (3, .int a3), (4, .int a4), (5, .int a5)] [] μ := by
  refine J_iload_n E dX4_weigh_48 rfl ?_
  refine J_bipush (v := nI 10) E dX4_weigh_49 rfl ?_
  refine J_idiv E dX4_weigh_51 (by decide) ?_
  refine J_istore (lv' := [(0, .ref (Z.2.2.1 + a0)), (1, .int a1), (2, .int a2), (3, .int a3), (4, .int a4), (5, .int a5), (6, .int (a3 / (nI 10)))]) E dX4_weigh_52 (Nat.le_of_ble_eq_true rfl) rfl ?_
  refine J_aload_n E dX4_weigh_54 rfl ?_
  refine S_get (ci := 4) (q := 8) (v := .ref (Z.2.2.1 + (a0 + 4))) E dX4_weigh_55 fs_X4_21 ha0 rfl ?_
  refine J_iload E dX4_weigh_58 rfl ?_
  refine J_iload E dX4_weigh_60 rfl ?_
  refine J_iload E dX4_weigh_62 rfl ?_
  refine J_imul E dX4_weigh_64 ?_
  refine S_iast E dX4_weigh_65 (shr_X4_8 ha0) s1_ ?_
  refine J.weak [0, 1, 2, 4, 5, 6] rfl ?_
  exact k
theorem bX4_weigh_66 {Z : ZT} {X : XT} {μ : Mu} {a0 : Nat} {a1 : Int32} {a2 : Int32} {a4 : Int32} {a5 : Int32} {a6 : Int32} (E : Ent Z X mX4_weigh 0 0) (ha0 : SH a0 = .inl 4) 
    (k : JS Z X 75 [(0, .ref (Z.2.2.1 + a0)), (1, .int a1), (2, .int a2), (3, .int (a6 * ((nI 10) - a5))), (4, .int a4)] [] μ) :
    JS Z X 66 [(0, .ref (Z.2.2.1 + a0)), (1, .int a1), (2, .int a2), (4, .int a4), (5, .int a5), (6, .int a6)] [] μ := by
  refine J_iload E dX4_weigh_66 rfl ?_
  refine J_bipush (v := nI 10) E dX4_weigh_68 rfl ?_
  refine J_iload E dX4_weigh_70 rfl ?_
  refine J_isub E dX4_weigh_72 ?_
  refine J_imul E dX4_weigh_73 ?_
  refine J_istore_n (lv' := [(0, .ref (Z.2.2.1 + a0)), (1, .int a1), (2, .int a2), (3, .int (a6 * ((nI 10) - a5))), (4, .int a4), (5, .int a5), (6, .int a6)]) E dX4_weigh_74 (Nat.le_of_ble_eq_true rfl) rfl ?_
  refine J.weak [0, 1, 2, 3, 4] rfl ?_
  exact k
theorem bX4_weigh_75 {Z : ZT} {X : XT} {μ : Mu} {a0 : Nat} {a1 : Int32} {a2 : Int32} {a3 : Int32} {a4 : Int32} (E : Ent Z X mX4_weigh 0 0) (ha0 : SH a0 = .inl 4) 
    (k : JS Z X 6 [(0, .ref (Z.2.2.1 + a0)), (1, .int a1), (2, .int a2), (3, .int a3), (4, .int (a4 + nI 1))] [] μ) :
    JS Z X 75 [(0, .ref (Z.2.2.1 + a0)), (1, .int a1), (2, .int a2), (3, .int a3), (4, .int a4)] [] μ := by
  refine J_iinc (v := a4 + nI 1) (lv' := [(0, .ref (Z.2.2.1 + a0)), (1, .int a1), (2, .int a2), (3, .int a3), (4, .int (a4 + nI 1))]) E dX4_weigh_75 rfl rfl (Nat.le_of_ble_eq_true rfl) rfl ?_
  refine J_goto (tgt := 6) E dX4_weigh_78 (by decide) ?_
  exact k
theorem bX4_weigh_81 {Z : ZT} {X : XT} {μ : Mu} {a3 : Int32} (E : Ent Z X mX4_weigh 0 0) {P : Option Value → Mu → Prop} (hB : BodS Z X P) 
    (k : P (some (.int a3)) μ) :
    JS Z X 81 [(3, .int a3)] [] μ := by
  refine J_iload_n E dX4_weigh_81 rfl ?_
  exact S_iret E hB dX4_weigh_82 rfl k
theorem dX4_meetings_0 : decode cX4_meetings 0 = .ok (.iconst 0, 1) := by decide +kernel
theorem dX4_meetings_1 : decode cX4_meetings 1 = .ok (.istore_n 2, 1) := by decide +kernel
theorem dX4_meetings_2 : decode cX4_meetings 2 = .ok (.iconst 0, 1) := by decide +kernel
theorem dX4_meetings_3 : decode cX4_meetings 3 = .ok (.istore_n 3, 1) := by decide +kernel
theorem dX4_meetings_4 : decode cX4_meetings 4 = .ok (.iload_n 3, 1) := by decide +kernel
theorem dX4_meetings_5 : decode cX4_meetings 5 = .ok (.aload_n 0, 1) := by decide +kernel
theorem dX4_meetings_6 : decode cX4_meetings 6 = .ok (.getfield 55, 3) := by decide +kernel
theorem dX4_meetings_9 : decode cX4_meetings 9 = .ok (.if_icmp .ge 78, 3) := by decide +kernel
theorem dX4_meetings_12 : decode cX4_meetings 12 = .ok (.iconst 0, 1) := by decide +kernel
theorem dX4_meetings_13 : decode cX4_meetings 13 = .ok (.istore 4, 2) := by decide +kernel
theorem dX4_meetings_15 : decode cX4_meetings 15 = .ok (.iload 4, 2) := by decide +kernel
theorem dX4_meetings_17 : decode cX4_meetings 17 = .ok (.aload_n 1, 1) := by decide +kernel
theorem dX4_meetings_18 : decode cX4_meetings 18 = .ok (.getfield 55, 3) := by decide +kernel
theorem dX4_meetings_21 : decode cX4_meetings 21 = .ok (.if_icmp .ge 60, 3) := by decide +kernel
theorem dX4_meetings_24 : decode cX4_meetings 24 = .ok (.aload_n 0, 1) := by decide +kernel
theorem dX4_meetings_25 : decode cX4_meetings 25 = .ok (.getfield 15, 3) := by decide +kernel
theorem dX4_meetings_28 : decode cX4_meetings 28 = .ok (.iload_n 3, 1) := by decide +kernel
theorem dX4_meetings_29 : decode cX4_meetings 29 = .ok (.iaload, 1) := by decide +kernel
theorem dX4_meetings_30 : decode cX4_meetings 30 = .ok (.aload_n 1, 1) := by decide +kernel
theorem dX4_meetings_31 : decode cX4_meetings 31 = .ok (.getfield 15, 3) := by decide +kernel
theorem dX4_meetings_34 : decode cX4_meetings 34 = .ok (.iload 4, 2) := by decide +kernel
theorem dX4_meetings_36 : decode cX4_meetings 36 = .ok (.iaload, 1) := by decide +kernel
theorem dX4_meetings_37 : decode cX4_meetings 37 = .ok (.if_icmp .ne 38, 3) := by decide +kernel
theorem dX4_meetings_40 : decode cX4_meetings 40 = .ok (.aload_n 0, 1) := by decide +kernel
theorem dX4_meetings_41 : decode cX4_meetings 41 = .ok (.getfield 24, 3) := by decide +kernel
theorem dX4_meetings_44 : decode cX4_meetings 44 = .ok (.iload_n 3, 1) := by decide +kernel
theorem dX4_meetings_45 : decode cX4_meetings 45 = .ok (.iaload, 1) := by decide +kernel
theorem dX4_meetings_46 : decode cX4_meetings 46 = .ok (.aload_n 1, 1) := by decide +kernel
theorem dX4_meetings_47 : decode cX4_meetings 47 = .ok (.getfield 27, 3) := by decide +kernel
theorem dX4_meetings_50 : decode cX4_meetings 50 = .ok (.iload 4, 2) := by decide +kernel
theorem dX4_meetings_52 : decode cX4_meetings 52 = .ok (.iaload, 1) := by decide +kernel
theorem dX4_meetings_53 : decode cX4_meetings 53 = .ok (.if_icmp .gt 22, 3) := by decide +kernel
theorem dX4_meetings_56 : decode cX4_meetings 56 = .ok (.aload_n 1, 1) := by decide +kernel
theorem dX4_meetings_57 : decode cX4_meetings 57 = .ok (.getfield 24, 3) := by decide +kernel
theorem dX4_meetings_60 : decode cX4_meetings 60 = .ok (.iload 4, 2) := by decide +kernel
theorem dX4_meetings_62 : decode cX4_meetings 62 = .ok (.iaload, 1) := by decide +kernel
theorem dX4_meetings_63 : decode cX4_meetings 63 = .ok (.aload_n 0, 1) := by decide +kernel
theorem dX4_meetings_64 : decode cX4_meetings 64 = .ok (.getfield 27, 3) := by decide +kernel
theorem dX4_meetings_67 : decode cX4_meetings 67 = .ok (.iload_n 3, 1) := by decide +kernel
theorem dX4_meetings_68 : decode cX4_meetings 68 = .ok (.iaload, 1) := by decide +kernel
theorem dX4_meetings_69 : decode cX4_meetings 69 = .ok (.if_icmp .gt 6, 3) := by decide +kernel
theorem dX4_meetings_72 : decode cX4_meetings 72 = .ok (.iinc 2 1, 3) := by decide +kernel
theorem dX4_meetings_75 : decode cX4_meetings 75 = .ok (.iinc 4 1, 3) := by decide +kernel
theorem dX4_meetings_78 : decode cX4_meetings 78 = .ok (.goto (-63), 3) := by decide +kernel
theorem dX4_meetings_81 : decode cX4_meetings 81 = .ok (.iinc 3 1, 3) := by decide +kernel
theorem dX4_meetings_84 : decode cX4_meetings 84 = .ok (.goto (-80), 3) := by decide +kernel
theorem dX4_meetings_87 : decode cX4_meetings 87 = .ok (.iload_n 2, 1) := by decide +kernel
theorem dX4_meetings_88 : decode cX4_meetings 88 = .ok (.ireturn, 1) := by decide +kernel
theorem bX4_meetings_0 {Z : ZT} {X : XT} {μ : Mu} {a0 : Nat} {a1 : Nat} (E : Ent Z X mX4_meetings 0 0) (ha0 : SH a0 = .inl 4) (ha1 : SH a1 = .inl 4) 
    (k : JS Z X 4 [(0, .ref (Z.2.2.1 + a0)), (1, .ref (Z.2.2.1 + a1)), (2, .int (nI 0)), (3, .int (nI 0))] [] μ) :
    JS Z X 0 [(0, .ref (Z.2.2.1 + a0)), (1, .ref (Z.2.2.1 + a1))] [] μ := by
  refine J_iconst (v := nI 0) E dX4_meetings_0 rfl ?_
  refine J_istore_n (lv' := [(0, .ref (Z.2.2.1 + a0)), (1, .ref (Z.2.2.1 + a1)), (2, .int (nI 0))]) E dX4_meetings_1 (Nat.le_of_ble_eq_true rfl) rfl ?_
  refine J_iconst (v := nI 0) E dX4_meetings_2 rfl ?_
  refine J_istore_n (lv' := [(0, .ref (Z.2.2.1 + a0)), (1, .ref (Z.2.2.1 + a1)), (2, .int (nI 0)), (3, .int (nI 0))]) E dX4_meetings_3 (Nat.le_of_ble_eq_true rfl) rfl ?_
  exact k
theorem bX4_meetings_4 {Z : ZT} {X : XT} {μ : Mu} {a0 : Nat} {a1 : Nat} {a2 : Int32} {a3 : Int32} (E : Ent Z X mX4_meetings 0 0) (ha0 : SH a0 = .inl 4) (ha1 : SH a1 = .inl 4) 
    (kt : (μ a0 4) ≤ a3 → JS Z X 87 [(2, .int a2)] [] μ) (kf : ¬ ((μ a0 4) ≤ a3) → JS Z X 12 [(0, .ref (Z.2.2.1 + a0)), (1, .ref (Z.2.2.1 + a1)), (2, .int a2), (3, .int a3)] [] μ) :
    JS Z X 4 [(0, .ref (Z.2.2.1 + a0)), (1, .ref (Z.2.2.1 + a1)), (2, .int a2), (3, .int a3)] [] μ := by
  refine J_iload_n E dX4_meetings_4 rfl ?_
  refine J_aload_n E dX4_meetings_5 rfl ?_
  refine S_get (ci := 4) (q := 4) (v := .int (μ a0 4)) E dX4_meetings_6 fs_X4_55 ha0 rfl ?_
  refine J_icmp_ge (tgt := 87) E dX4_meetings_9 (by decide) (fun c => ?_) (fun c => ?_)
  · refine J.weak [2] rfl ?_
    exact kt c
  · exact kf c
theorem bX4_meetings_12 {Z : ZT} {X : XT} {μ : Mu} {a0 : Nat} {a1 : Nat} {a2 : Int32} {a3 : Int32} (E : Ent Z X mX4_meetings 0 0) (ha0 : SH a0 = .inl 4) (ha1 : SH a1 = .inl 4) 
    (k : JS Z X 15 [(0, .ref (Z.2.2.1 + a0)), (1, .ref (Z.2.2.1 + a1)), (2, .int a2), (3, .int a3), (4, .int (nI 0))] [] μ) :
    JS Z X 12 [(0, .ref (Z.2.2.1 + a0)), (1, .ref (Z.2.2.1 + a1)), (2, .int a2), (3, .int a3)] [] μ := by
  refine J_iconst (v := nI 0) E dX4_meetings_12 rfl ?_
  refine J_istore (lv' := [(0, .ref (Z.2.2.1 + a0)), (1, .ref (Z.2.2.1 + a1)), (2, .int a2), (3, .int a3), (4, .int (nI 0))]) E dX4_meetings_13 (Nat.le_of_ble_eq_true rfl) rfl ?_
  exact k
theorem bX4_meetings_15 {Z : ZT} {X : XT} {μ : Mu} {a0 : Nat} {a1 : Nat} {a2 : Int32} {a3 : Int32} {a4 : Int32} (E : Ent Z X mX4_meetings 0 0) (ha0 : SH a0 = .inl 4) (ha1 : SH a1 = .inl 4) 
    (kt : (μ a1 4) ≤ a4 → JS Z X 81 [(0, .ref (Z.2.2.1 + a0)), (1, .ref (Z.2.2.1 + a1)), (2, .int a2), (3, .int a3)] [] μ) (kf : ¬ ((μ a1 4) ≤ a4) → JS Z X 24 [(0, .ref (Z.2.2.1 + a0)), (1, .ref (Z.2.2.1 + a1)), (2, .int a2), (3, .int a3), (4, .int a4)] [] μ) :
    JS Z X 15 [(0, .ref (Z.2.2.1 + a0)), (1, .ref (Z.2.2.1 + a1)), (2, .int a2), (3, .int a3), (4, .int a4)] [] μ := by
  refine J_iload E dX4_meetings_15 rfl ?_
  refine J_aload_n E dX4_meetings_17 rfl ?_
  refine S_get (ci := 4) (q := 4) (v := .int (μ a1 4)) E dX4_meetings_18 fs_X4_55 ha1 rfl ?_
  refine J_icmp_ge (tgt := 81) E dX4_meetings_21 (by decide) (fun c => ?_) (fun c => ?_)
  · refine J.weak [0, 1, 2, 3] rfl ?_
    exact kt c
  · exact kf c
theorem bX4_meetings_24 {Z : ZT} {X : XT} {μ : Mu} {a0 : Nat} {a1 : Nat} {a2 : Int32} {a3 : Int32} {a4 : Int32} (E : Ent Z X mX4_meetings 0 0) (ha0 : SH a0 = .inl 4) (ha1 : SH a1 = .inl 4) (s1_ : vp_in a3 6) (s2_ : vp_in a4 6)
    (kt : ¬ (μ (a0 + 2) (ix a3)) = (μ (a1 + 2) (ix a4)) → JS Z X 75 [(0, .ref (Z.2.2.1 + a0)), (1, .ref (Z.2.2.1 + a1)), (2, .int a2), (3, .int a3), (4, .int a4)] [] μ) (kf : (μ (a0 + 2) (ix a3)) = (μ (a1 + 2) (ix a4)) → JS Z X 40 [(0, .ref (Z.2.2.1 + a0)), (1, .ref (Z.2.2.1 + a1)), (2, .int a2), (3, .int a3), (4, .int a4)] [] μ) :
    JS Z X 24 [(0, .ref (Z.2.2.1 + a0)), (1, .ref (Z.2.2.1 + a1)), (2, .int a2), (3, .int a3), (4, .int a4)] [] μ := by
  refine J_aload_n E dX4_meetings_24 rfl ?_
  refine S_get (ci := 4) (q := 6) (v := .ref (Z.2.2.1 + (a0 + 2))) E dX4_meetings_25 fs_X4_15 ha0 rfl ?_
  refine J_iload_n E dX4_meetings_28 rfl ?_
  refine S_iald E dX4_meetings_29 (shr_X4_6 ha0) s1_ ?_
  refine J_aload_n E dX4_meetings_30 rfl ?_
  refine S_get (ci := 4) (q := 6) (v := .ref (Z.2.2.1 + (a1 + 2))) E dX4_meetings_31 fs_X4_15 ha1 rfl ?_
  refine J_iload E dX4_meetings_34 rfl ?_
  refine S_iald E dX4_meetings_36 (shr_X4_6 ha1) s2_ ?_
  refine J_icmp_ne (tgt := 75) E dX4_meetings_37 (by decide) (fun c => ?_) (fun c => ?_)
  · exact kt c
  · exact kf c
theorem bX4_meetings_40 {Z : ZT} {X : XT} {μ : Mu} {a0 : Nat} {a1 : Nat} {a2 : Int32} {a3 : Int32} {a4 : Int32} (E : Ent Z X mX4_meetings 0 0) (ha0 : SH a0 = .inl 4) (ha1 : SH a1 = .inl 4) (s1_ : vp_in a3 6) (s2_ : vp_in a4 6)
    (kt : (μ (a1 + 6) (ix a4)) < (μ (a0 + 5) (ix a3)) → JS Z X 75 [(0, .ref (Z.2.2.1 + a0)), (1, .ref (Z.2.2.1 + a1)), (2, .int a2), (3, .int a3), (4, .int a4)] [] μ) (kf : ¬ ((μ (a1 + 6) (ix a4)) < (μ (a0 + 5) (ix a3))) → JS Z X 56 [(0, .ref (Z.2.2.1 + a0)), (1, .ref (Z.2.2.1 + a1)), (2, .int a2), (3, .int a3), (4, .int a4)] [] μ) :
    JS Z X 40 [(0, .ref (Z.2.2.1 + a0)), (1, .ref (Z.2.2.1 + a1)), (2, .int a2), (3, .int a3), (4, .int a4)] [] μ := by
  refine J_aload_n E dX4_meetings_40 rfl ?_
  refine S_get (ci := 4) (q := 9) (v := .ref (Z.2.2.1 + (a0 + 5))) E dX4_meetings_41 fs_X4_24 ha0 rfl ?_
  refine J_iload_n E dX4_meetings_44 rfl ?_
  refine S_iald E dX4_meetings_45 (shr_X4_9 ha0) s1_ ?_
  refine J_aload_n E dX4_meetings_46 rfl ?_
  refine S_get (ci := 4) (q := 10) (v := .ref (Z.2.2.1 + (a1 + 6))) E dX4_meetings_47 fs_X4_27 ha1 rfl ?_
  refine J_iload E dX4_meetings_50 rfl ?_
  refine S_iald E dX4_meetings_52 (shr_X4_10 ha1) s2_ ?_
  refine J_icmp_gt (tgt := 75) E dX4_meetings_53 (by decide) (fun c => ?_) (fun c => ?_)
  · exact kt c
  · exact kf c
theorem bX4_meetings_56 {Z : ZT} {X : XT} {μ : Mu} {a0 : Nat} {a1 : Nat} {a2 : Int32} {a3 : Int32} {a4 : Int32} (E : Ent Z X mX4_meetings 0 0) (ha0 : SH a0 = .inl 4) (ha1 : SH a1 = .inl 4) (s1_ : vp_in a4 6) (s2_ : vp_in a3 6)
    (kt : (μ (a0 + 6) (ix a3)) < (μ (a1 + 5) (ix a4)) → JS Z X 75 [(0, .ref (Z.2.2.1 + a0)), (1, .ref (Z.2.2.1 + a1)), (2, .int a2), (3, .int a3), (4, .int a4)] [] μ) (kf : ¬ ((μ (a0 + 6) (ix a3)) < (μ (a1 + 5) (ix a4))) → JS Z X 72 [(0, .ref (Z.2.2.1 + a0)), (1, .ref (Z.2.2.1 + a1)), (2, .int a2), (3, .int a3), (4, .int a4)] [] μ) :
    JS Z X 56 [(0, .ref (Z.2.2.1 + a0)), (1, .ref (Z.2.2.1 + a1)), (2, .int a2), (3, .int a3), (4, .int a4)] [] μ := by
  refine J_aload_n E dX4_meetings_56 rfl ?_
  refine S_get (ci := 4) (q := 9) (v := .ref (Z.2.2.1 + (a1 + 5))) E dX4_meetings_57 fs_X4_24 ha1 rfl ?_
  refine J_iload E dX4_meetings_60 rfl ?_
  refine S_iald E dX4_meetings_62 (shr_X4_9 ha1) s1_ ?_
  refine J_aload_n E dX4_meetings_63 rfl ?_
  refine S_get (ci := 4) (q := 10) (v := .ref (Z.2.2.1 + (a0 + 6))) E dX4_meetings_64 fs_X4_27 ha0 rfl ?_
  refine J_iload_n E dX4_meetings_67 rfl ?_
  refine S_iald E dX4_meetings_68 (shr_X4_10 ha0) s2_ ?_
  refine J_icmp_gt (tgt := 75) E dX4_meetings_69 (by decide) (fun c => ?_) (fun c => ?_)
  · exact kt c
  · exact kf c
theorem bX4_meetings_72 {Z : ZT} {X : XT} {μ : Mu} {a0 : Nat} {a1 : Nat} {a2 : Int32} {a3 : Int32} {a4 : Int32} (E : Ent Z X mX4_meetings 0 0) (ha0 : SH a0 = .inl 4) (ha1 : SH a1 = .inl 4) 
    (k : JS Z X 75 [(0, .ref (Z.2.2.1 + a0)), (1, .ref (Z.2.2.1 + a1)), (2, .int (a2 + nI 1)), (3, .int a3), (4, .int a4)] [] μ) :
    JS Z X 72 [(0, .ref (Z.2.2.1 + a0)), (1, .ref (Z.2.2.1 + a1)), (2, .int a2), (3, .int a3), (4, .int a4)] [] μ := by
  refine J_iinc (v := a2 + nI 1) (lv' := [(0, .ref (Z.2.2.1 + a0)), (1, .ref (Z.2.2.1 + a1)), (2, .int (a2 + nI 1)), (3, .int a3), (4, .int a4)]) E dX4_meetings_72 rfl rfl (Nat.le_of_ble_eq_true rfl) rfl ?_
  exact k
theorem bX4_meetings_75 {Z : ZT} {X : XT} {μ : Mu} {a0 : Nat} {a1 : Nat} {a2 : Int32} {a3 : Int32} {a4 : Int32} (E : Ent Z X mX4_meetings 0 0) (ha0 : SH a0 = .inl 4) (ha1 : SH a1 = .inl 4) 
    (k : JS Z X 15 [(0, .ref (Z.2.2.1 + a0)), (1, .ref (Z.2.2.1 + a1)), (2, .int a2), (3, .int a3), (4, .int (a4 + nI 1))] [] μ) :
    JS Z X 75 [(0, .ref (Z.2.2.1 + a0)), (1, .ref (Z.2.2.1 + a1)), (2, .int a2), (3, .int a3), (4, .int a4)] [] μ := by
  refine J_iinc (v := a4 + nI 1) (lv' := [(0, .ref (Z.2.2.1 + a0)), (1, .ref (Z.2.2.1 + a1)), (2, .int a2), (3, .int a3), (4, .int (a4 + nI 1))]) E dX4_meetings_75 rfl rfl (Nat.le_of_ble_eq_true rfl) rfl ?_
  refine J_goto (tgt := 15) E dX4_meetings_78 (by decide) ?_
  exact k
theorem bX4_meetings_81 {Z : ZT} {X : XT} {μ : Mu} {a0 : Nat} {a1 : Nat} {a2 : Int32} {a3 : Int32} (E : Ent Z X mX4_meetings 0 0) (ha0 : SH a0 = .inl 4) (ha1 : SH a1 = .inl 4) 
    (k : JS Z X 4 [(0, .ref (Z.2.2.1 + a0)), (1, .ref (Z.2.2.1 + a1)), (2, .int a2), (3, .int (a3 + nI 1))] [] μ) :
    JS Z X 81 [(0, .ref (Z.2.2.1 + a0)), (1, .ref (Z.2.2.1 + a1)), (2, .int a2), (3, .int a3)] [] μ := by
  refine J_iinc (v := a3 + nI 1) (lv' := [(0, .ref (Z.2.2.1 + a0)), (1, .ref (Z.2.2.1 + a1)), (2, .int a2), (3, .int (a3 + nI 1))]) E dX4_meetings_81 rfl rfl (Nat.le_of_ble_eq_true rfl) rfl ?_
  refine J_goto (tgt := 4) E dX4_meetings_84 (by decide) ?_
  exact k
theorem bX4_meetings_87 {Z : ZT} {X : XT} {μ : Mu} {a2 : Int32} (E : Ent Z X mX4_meetings 0 0) {P : Option Value → Mu → Prop} (hB : BodS Z X P) 
    (k : P (some (.int a2)) μ) :
    JS Z X 87 [(2, .int a2)] [] μ := by
  refine J_iload_n E dX4_meetings_87 rfl ?_
  exact S_iret E hB dX4_meetings_88 rfl k
theorem dX4_sortSlips_0 : decode cX4_sortSlips 0 = .ok (.iconst 1, 1) := by decide +kernel
theorem dX4_sortSlips_1 : decode cX4_sortSlips 1 = .ok (.istore_n 1, 1) := by decide +kernel
theorem dX4_sortSlips_2 : decode cX4_sortSlips 2 = .ok (.iload_n 1, 1) := by decide +kernel
theorem dX4_sortSlips_3 : decode cX4_sortSlips 3 = .ok (.aload_n 0, 1) := by decide +kernel
theorem dX4_sortSlips_4 : decode cX4_sortSlips 4 = .ok (.getfield 55, 3) := by decide +kernel
theorem dX4_sortSlips_7 : decode cX4_sortSlips 7 = .ok (.if_icmp .ge 46, 3) := by decide +kernel
theorem dX4_sortSlips_10 : decode cX4_sortSlips 10 = .ok (.iload_n 1, 1) := by decide +kernel
theorem dX4_sortSlips_11 : decode cX4_sortSlips 11 = .ok (.istore_n 2, 1) := by decide +kernel
theorem dX4_sortSlips_12 : decode cX4_sortSlips 12 = .ok (.iload_n 2, 1) := by decide +kernel
theorem dX4_sortSlips_13 : decode cX4_sortSlips 13 = .ok (.ifCond .le 34, 3) := by decide +kernel
theorem dX4_sortSlips_16 : decode cX4_sortSlips 16 = .ok (.aload_n 0, 1) := by decide +kernel
theorem dX4_sortSlips_17 : decode cX4_sortSlips 17 = .ok (.getfield 9, 3) := by decide +kernel
theorem dX4_sortSlips_20 : decode cX4_sortSlips 20 = .ok (.iload_n 2, 1) := by decide +kernel
theorem dX4_sortSlips_21 : decode cX4_sortSlips 21 = .ok (.iconst 1, 1) := by decide +kernel
theorem dX4_sortSlips_22 : decode cX4_sortSlips 22 = .ok (.isub, 1) := by decide +kernel
theorem dX4_sortSlips_23 : decode cX4_sortSlips 23 = .ok (.iaload, 1) := by decide +kernel
theorem dX4_sortSlips_24 : decode cX4_sortSlips 24 = .ok (.aload_n 0, 1) := by decide +kernel
theorem dX4_sortSlips_25 : decode cX4_sortSlips 25 = .ok (.getfield 9, 3) := by decide +kernel
theorem dX4_sortSlips_28 : decode cX4_sortSlips 28 = .ok (.iload_n 2, 1) := by decide +kernel
theorem dX4_sortSlips_29 : decode cX4_sortSlips 29 = .ok (.iaload, 1) := by decide +kernel
theorem dX4_sortSlips_30 : decode cX4_sortSlips 30 = .ok (.if_icmp .le 17, 3) := by decide +kernel
theorem dX4_sortSlips_33 : decode cX4_sortSlips 33 = .ok (.aload_n 0, 1) := by decide +kernel
theorem dX4_sortSlips_34 : decode cX4_sortSlips 34 = .ok (.iload_n 2, 1) := by decide +kernel
theorem dX4_sortSlips_35 : decode cX4_sortSlips 35 = .ok (.iconst 1, 1) := by decide +kernel
theorem dX4_sortSlips_36 : decode cX4_sortSlips 36 = .ok (.isub, 1) := by decide +kernel
theorem dX4_sortSlips_37 : decode cX4_sortSlips 37 = .ok (.iload_n 2, 1) := by decide +kernel
theorem dX4_sortSlips_38 : decode cX4_sortSlips 38 = .ok (.invokevirtual 101, 3) := by decide +kernel
theorem dX4_sortSlips_41 : decode cX4_sortSlips 41 = .ok (.iinc 2 (-1), 3) := by decide +kernel
theorem dX4_sortSlips_44 : decode cX4_sortSlips 44 = .ok (.goto (-32), 3) := by decide +kernel
theorem dX4_sortSlips_47 : decode cX4_sortSlips 47 = .ok (.iinc 1 1, 3) := by decide +kernel
theorem dX4_sortSlips_50 : decode cX4_sortSlips 50 = .ok (.goto (-48), 3) := by decide +kernel
theorem dX4_sortSlips_53 : decode cX4_sortSlips 53 = .ok (.return_, 1) := by decide +kernel
theorem bX4_sortSlips_0 {Z : ZT} {X : XT} {μ : Mu} {a0 : Nat} (E : Ent Z X mX4_sortSlips 0 0) (ha0 : SH a0 = .inl 4) 
    (k : JS Z X 2 [(0, .ref (Z.2.2.1 + a0)), (1, .int (nI 1))] [] μ) :
    JS Z X 0 [(0, .ref (Z.2.2.1 + a0))] [] μ := by
  refine J_iconst (v := nI 1) E dX4_sortSlips_0 rfl ?_
  refine J_istore_n (lv' := [(0, .ref (Z.2.2.1 + a0)), (1, .int (nI 1))]) E dX4_sortSlips_1 (Nat.le_of_ble_eq_true rfl) rfl ?_
  exact k
theorem bX4_sortSlips_2 {Z : ZT} {X : XT} {μ : Mu} {a0 : Nat} {a1 : Int32} (E : Ent Z X mX4_sortSlips 0 0) (ha0 : SH a0 = .inl 4) 
    (kt : (μ a0 4) ≤ a1 → JS Z X 53 [] [] μ) (kf : ¬ ((μ a0 4) ≤ a1) → JS Z X 10 [(0, .ref (Z.2.2.1 + a0)), (1, .int a1)] [] μ) :
    JS Z X 2 [(0, .ref (Z.2.2.1 + a0)), (1, .int a1)] [] μ := by
  refine J_iload_n E dX4_sortSlips_2 rfl ?_
  refine J_aload_n E dX4_sortSlips_3 rfl ?_
  refine S_get (ci := 4) (q := 4) (v := .int (μ a0 4)) E dX4_sortSlips_4 fs_X4_55 ha0 rfl ?_
  refine J_icmp_ge (tgt := 53) E dX4_sortSlips_7 (by decide) (fun c => ?_) (fun c => ?_)
  · refine J.weak [] rfl ?_
    exact kt c
  · exact kf c
theorem bX4_sortSlips_10 {Z : ZT} {X : XT} {μ : Mu} {a0 : Nat} {a1 : Int32} (E : Ent Z X mX4_sortSlips 0 0) (ha0 : SH a0 = .inl 4) 
    (k : JS Z X 12 [(0, .ref (Z.2.2.1 + a0)), (1, .int a1), (2, .int a1)] [] μ) :
    JS Z X 10 [(0, .ref (Z.2.2.1 + a0)), (1, .int a1)] [] μ := by
  refine J_iload_n E dX4_sortSlips_10 rfl ?_
  refine J_istore_n (lv' := [(0, .ref (Z.2.2.1 + a0)), (1, .int a1), (2, .int a1)]) E dX4_sortSlips_11 (Nat.le_of_ble_eq_true rfl) rfl ?_
  exact k
theorem bX4_sortSlips_12 {Z : ZT} {X : XT} {μ : Mu} {a0 : Nat} {a1 : Int32} {a2 : Int32} (E : Ent Z X mX4_sortSlips 0 0) (ha0 : SH a0 = .inl 4) 
    (kt : a2 ≤ 0 → JS Z X 47 [(0, .ref (Z.2.2.1 + a0)), (1, .int a1)] [] μ) (kf : ¬ (a2 ≤ 0) → JS Z X 16 [(0, .ref (Z.2.2.1 + a0)), (1, .int a1), (2, .int a2)] [] μ) :
    JS Z X 12 [(0, .ref (Z.2.2.1 + a0)), (1, .int a1), (2, .int a2)] [] μ := by
  refine J_iload_n E dX4_sortSlips_12 rfl ?_
  refine J_if_le (tgt := 47) E dX4_sortSlips_13 (by decide) (fun c => ?_) (fun c => ?_)
  · refine J.weak [0, 1] rfl ?_
    exact kt c
  · exact kf c
theorem bX4_sortSlips_16 {Z : ZT} {X : XT} {μ : Mu} {a0 : Nat} {a1 : Int32} {a2 : Int32} (E : Ent Z X mX4_sortSlips 0 0) (ha0 : SH a0 = .inl 4) (s1_ : vp_in (a2 - (nI 1)) 6) (s2_ : vp_in a2 6)
    (kt : (μ (a0 + 1) (ix (a2 - (nI 1)))) ≤ (μ (a0 + 1) (ix a2)) → JS Z X 47 [(0, .ref (Z.2.2.1 + a0)), (1, .int a1)] [] μ) (kf : ¬ ((μ (a0 + 1) (ix (a2 - (nI 1)))) ≤ (μ (a0 + 1) (ix a2))) → JS Z X 33 [(0, .ref (Z.2.2.1 + a0)), (1, .int a1), (2, .int a2)] [] μ) :
    JS Z X 16 [(0, .ref (Z.2.2.1 + a0)), (1, .int a1), (2, .int a2)] [] μ := by
  refine J_aload_n E dX4_sortSlips_16 rfl ?_
  refine S_get (ci := 4) (q := 5) (v := .ref (Z.2.2.1 + (a0 + 1))) E dX4_sortSlips_17 fs_X4_9 ha0 rfl ?_
  refine J_iload_n E dX4_sortSlips_20 rfl ?_
  refine J_iconst (v := nI 1) E dX4_sortSlips_21 rfl ?_
  refine J_isub E dX4_sortSlips_22 ?_
  refine S_iald E dX4_sortSlips_23 (shr_X4_5 ha0) s1_ ?_
  refine J_aload_n E dX4_sortSlips_24 rfl ?_
  refine S_get (ci := 4) (q := 5) (v := .ref (Z.2.2.1 + (a0 + 1))) E dX4_sortSlips_25 fs_X4_9 ha0 rfl ?_
  refine J_iload_n E dX4_sortSlips_28 rfl ?_
  refine S_iald E dX4_sortSlips_29 (shr_X4_5 ha0) s2_ ?_
  refine J_icmp_le (tgt := 47) E dX4_sortSlips_30 (by decide) (fun c => ?_) (fun c => ?_)
  · refine J.weak [0, 1] rfl ?_
    exact kt c
  · exact kf c
theorem bX4_sortSlips_33 {Z : ZT} {X : XT} {μ : Mu} {a0 : Nat} {a1 : Int32} {a2 : Int32} (E : Ent Z X mX4_sortSlips 0 0) (ha0 : SH a0 = .inl 4) {p : Mu → Prop} 
    (c : CtrS Z mX4_exchange [.ref (Z.2.2.1 + a0), .int (a2 - (nI 1)), .int a2] μ (rV p)) (k : ∀ μ1, p μ1 → JS Z X 41 [(0, .ref (Z.2.2.1 + a0)), (1, .int a1), (2, .int a2)] [] μ1) :
    JS Z X 33 [(0, .ref (Z.2.2.1 + a0)), (1, .int a1), (2, .int a2)] [] μ := by
  refine J_aload_n E dX4_sortSlips_33 rfl ?_
  refine J_iload_n E dX4_sortSlips_34 rfl ?_
  refine J_iconst (v := nI 1) E dX4_sortSlips_35 rfl ?_
  refine J_isub E dX4_sortSlips_36 ?_
  refine J_iload_n E dX4_sortSlips_37 rfl ?_
  refine S_callV (As := [.int (a2 - (nI 1)), .int a2]) (rest := []) E dX4_sortSlips_38 c kX4_exchange ⟨Nat.le_of_ble_eq_true rfl, Nat.le_of_ble_eq_true rfl⟩ rfl (Nat.le_of_ble_eq_true rfl) ha0 rfl rfl w5_10 w5_12 wp_21 (fun r_ μ1 hp_ => ?_)
  obtain ⟨rfl, hp_⟩ := hp_
  exact k μ1 hp_
theorem bX4_sortSlips_41 {Z : ZT} {X : XT} {μ : Mu} {a0 : Nat} {a1 : Int32} {a2 : Int32} (E : Ent Z X mX4_sortSlips 0 0) (ha0 : SH a0 = .inl 4) 
    (k : JS Z X 12 [(0, .ref (Z.2.2.1 + a0)), (1, .int a1), (2, .int (a2 + (-1)))] [] μ) :
    JS Z X 41 [(0, .ref (Z.2.2.1 + a0)), (1, .int a1), (2, .int a2)] [] μ := by
  refine J_iinc (v := a2 + (-1)) (lv' := [(0, .ref (Z.2.2.1 + a0)), (1, .int a1), (2, .int (a2 + (-1)))]) E dX4_sortSlips_41 rfl rfl (Nat.le_of_ble_eq_true rfl) rfl ?_
  refine J_goto (tgt := 12) E dX4_sortSlips_44 (by decide) ?_
  exact k
theorem bX4_sortSlips_47 {Z : ZT} {X : XT} {μ : Mu} {a0 : Nat} {a1 : Int32} (E : Ent Z X mX4_sortSlips 0 0) (ha0 : SH a0 = .inl 4) 
    (k : JS Z X 2 [(0, .ref (Z.2.2.1 + a0)), (1, .int (a1 + nI 1))] [] μ) :
    JS Z X 47 [(0, .ref (Z.2.2.1 + a0)), (1, .int a1)] [] μ := by
  refine J_iinc (v := a1 + nI 1) (lv' := [(0, .ref (Z.2.2.1 + a0)), (1, .int (a1 + nI 1))]) E dX4_sortSlips_47 rfl rfl (Nat.le_of_ble_eq_true rfl) rfl ?_
  refine J_goto (tgt := 2) E dX4_sortSlips_50 (by decide) ?_
  exact k
theorem bX4_sortSlips_53 {Z : ZT} {X : XT} {μ : Mu} (E : Ent Z X mX4_sortSlips 0 0) {P : Option Value → Mu → Prop} (hB : BodS Z X P) 
    (k : P none μ) :
    JS Z X 53 [] [] μ := by
  exact S_vret E hB dX4_sortSlips_53 rfl k
theorem dX4_nextOrder_0 : decode cX4_nextOrder 0 = .ok (.aload_n 0, 1) := by decide +kernel
theorem dX4_nextOrder_1 : decode cX4_nextOrder 1 = .ok (.getfield 55, 3) := by decide +kernel
theorem dX4_nextOrder_4 : decode cX4_nextOrder 4 = .ok (.iconst 2, 1) := by decide +kernel
theorem dX4_nextOrder_5 : decode cX4_nextOrder 5 = .ok (.isub, 1) := by decide +kernel
theorem dX4_nextOrder_6 : decode cX4_nextOrder 6 = .ok (.istore_n 1, 1) := by decide +kernel
theorem dX4_nextOrder_7 : decode cX4_nextOrder 7 = .ok (.iload_n 1, 1) := by decide +kernel
theorem dX4_nextOrder_8 : decode cX4_nextOrder 8 = .ok (.ifCond .lt 26, 3) := by decide +kernel
theorem dX4_nextOrder_11 : decode cX4_nextOrder 11 = .ok (.aload_n 0, 1) := by decide +kernel
theorem dX4_nextOrder_12 : decode cX4_nextOrder 12 = .ok (.getfield 9, 3) := by decide +kernel
theorem dX4_nextOrder_15 : decode cX4_nextOrder 15 = .ok (.iload_n 1, 1) := by decide +kernel
theorem dX4_nextOrder_16 : decode cX4_nextOrder 16 = .ok (.iaload, 1) := by decide +kernel
theorem dX4_nextOrder_17 : decode cX4_nextOrder 17 = .ok (.aload_n 0, 1) := by decide +kernel
theorem dX4_nextOrder_18 : decode cX4_nextOrder 18 = .ok (.getfield 9, 3) := by decide +kernel
theorem dX4_nextOrder_21 : decode cX4_nextOrder 21 = .ok (.iload_n 1, 1) := by decide +kernel
theorem dX4_nextOrder_22 : decode cX4_nextOrder 22 = .ok (.iconst 1, 1) := by decide +kernel
theorem dX4_nextOrder_23 : decode cX4_nextOrder 23 = .ok (.iadd, 1) := by decide +kernel
theorem dX4_nextOrder_24 : decode cX4_nextOrder 24 = .ok (.iaload, 1) := by decide +kernel
theorem dX4_nextOrder_25 : decode cX4_nextOrder 25 = .ok (.if_icmp .le 9, 3) := by decide +kernel
theorem dX4_nextOrder_28 : decode cX4_nextOrder 28 = .ok (.iinc 1 (-1), 3) := by decide +kernel
theorem dX4_nextOrder_31 : decode cX4_nextOrder 31 = .ok (.goto (-24), 3) := by decide +kernel
theorem dX4_nextOrder_34 : decode cX4_nextOrder 34 = .ok (.iload_n 1, 1) := by decide +kernel
theorem dX4_nextOrder_35 : decode cX4_nextOrder 35 = .ok (.ifCond .ge 5, 3) := by decide +kernel
theorem dX4_nextOrder_38 : decode cX4_nextOrder 38 = .ok (.iconst 0, 1) := by decide +kernel
theorem dX4_nextOrder_39 : decode cX4_nextOrder 39 = .ok (.ireturn, 1) := by decide +kernel
theorem dX4_nextOrder_40 : decode cX4_nextOrder 40 = .ok (.aload_n 0, 1) := by decide +kernel
theorem dX4_nextOrder_41 : decode cX4_nextOrder 41 = .ok (.getfield 55, 3) := by decide +kernel
theorem dX4_nextOrder_44 : decode cX4_nextOrder 44 = .ok (.iconst 1, 1) := by decide +kernel
theorem dX4_nextOrder_45 : decode cX4_nextOrder 45 = .ok (.isub, 1) := by decide +kernel
theorem dX4_nextOrder_46 : decode cX4_nextOrder 46 = .ok (.istore_n 2, 1) := by decide +kernel
theorem dX4_nextOrder_47 : decode cX4_nextOrder 47 = .ok (.iload_n 2, 1) := by decide +kernel
theorem dX4_nextOrder_48 : decode cX4_nextOrder 48 = .ok (.iload_n 1, 1) := by decide +kernel
theorem dX4_nextOrder_49 : decode cX4_nextOrder 49 = .ok (.iconst 1, 1) := by decide +kernel
theorem dX4_nextOrder_50 : decode cX4_nextOrder 50 = .ok (.iadd, 1) := by decide +kernel
theorem dX4_nextOrder_51 : decode cX4_nextOrder 51 = .ok (.if_icmp .le 24, 3) := by decide +kernel
theorem dX4_nextOrder_54 : decode cX4_nextOrder 54 = .ok (.aload_n 0, 1) := by decide +kernel
theorem dX4_nextOrder_55 : decode cX4_nextOrder 55 = .ok (.getfield 9, 3) := by decide +kernel
theorem dX4_nextOrder_58 : decode cX4_nextOrder 58 = .ok (.iload_n 2, 1) := by decide +kernel
theorem dX4_nextOrder_59 : decode cX4_nextOrder 59 = .ok (.iaload, 1) := by decide +kernel
theorem dX4_nextOrder_60 : decode cX4_nextOrder 60 = .ok (.aload_n 0, 1) := by decide +kernel
theorem dX4_nextOrder_61 : decode cX4_nextOrder 61 = .ok (.getfield 9, 3) := by decide +kernel
theorem dX4_nextOrder_64 : decode cX4_nextOrder 64 = .ok (.iload_n 1, 1) := by decide +kernel
theorem dX4_nextOrder_65 : decode cX4_nextOrder 65 = .ok (.iaload, 1) := by decide +kernel
theorem dX4_nextOrder_66 : decode cX4_nextOrder 66 = .ok (.if_icmp .ge 9, 3) := by decide +kernel
theorem dX4_nextOrder_69 : decode cX4_nextOrder 69 = .ok (.iinc 2 (-1), 3) := by decide +kernel
theorem dX4_nextOrder_72 : decode cX4_nextOrder 72 = .ok (.goto (-25), 3) := by decide +kernel
theorem dX4_nextOrder_75 : decode cX4_nextOrder 75 = .ok (.aload_n 0, 1) := by decide +kernel
theorem dX4_nextOrder_76 : decode cX4_nextOrder 76 = .ok (.iload_n 1, 1) := by decide +kernel
theorem dX4_nextOrder_77 : decode cX4_nextOrder 77 = .ok (.iload_n 2, 1) := by decide +kernel
theorem dX4_nextOrder_78 : decode cX4_nextOrder 78 = .ok (.invokevirtual 101, 3) := by decide +kernel
theorem dX4_nextOrder_81 : decode cX4_nextOrder 81 = .ok (.iload_n 1, 1) := by decide +kernel
theorem dX4_nextOrder_82 : decode cX4_nextOrder 82 = .ok (.iconst 1, 1) := by decide +kernel
theorem dX4_nextOrder_83 : decode cX4_nextOrder 83 = .ok (.iadd, 1) := by decide +kernel
theorem dX4_nextOrder_84 : decode cX4_nextOrder 84 = .ok (.istore_n 3, 1) := by decide +kernel
theorem dX4_nextOrder_85 : decode cX4_nextOrder 85 = .ok (.aload_n 0, 1) := by decide +kernel
theorem dX4_nextOrder_86 : decode cX4_nextOrder 86 = .ok (.getfield 55, 3) := by decide +kernel
theorem dX4_nextOrder_89 : decode cX4_nextOrder 89 = .ok (.iconst 1, 1) := by decide +kernel
theorem dX4_nextOrder_90 : decode cX4_nextOrder 90 = .ok (.isub, 1) := by decide +kernel
theorem dX4_nextOrder_91 : decode cX4_nextOrder 91 = .ok (.istore 4, 2) := by decide +kernel
theorem dX4_nextOrder_93 : decode cX4_nextOrder 93 = .ok (.iload_n 3, 1) := by decide +kernel
theorem dX4_nextOrder_94 : decode cX4_nextOrder 94 = .ok (.iload 4, 2) := by decide +kernel
theorem dX4_nextOrder_96 : decode cX4_nextOrder 96 = .ok (.if_icmp .ge 19, 3) := by decide +kernel
theorem dX4_nextOrder_99 : decode cX4_nextOrder 99 = .ok (.aload_n 0, 1) := by decide +kernel
theorem dX4_nextOrder_100 : decode cX4_nextOrder 100 = .ok (.iload_n 3, 1) := by decide +kernel
theorem dX4_nextOrder_101 : decode cX4_nextOrder 101 = .ok (.iload 4, 2) := by decide +kernel
theorem dX4_nextOrder_103 : decode cX4_nextOrder 103 = .ok (.invokevirtual 101, 3) := by decide +kernel
theorem dX4_nextOrder_106 : decode cX4_nextOrder 106 = .ok (.iinc 3 1, 3) := by decide +kernel
theorem dX4_nextOrder_109 : decode cX4_nextOrder 109 = .ok (.iinc 4 (-1), 3) := by decide +kernel
theorem dX4_nextOrder_112 : decode cX4_nextOrder 112 = .ok (.goto (-19), 3) := by decide +kernel
theorem dX4_nextOrder_115 : decode cX4_nextOrder 115 = .ok (.iconst 1, 1) := by decide +kernel
theorem dX4_nextOrder_116 : decode cX4_nextOrder 116 = .ok (.ireturn, 1) := by decide +kernel
theorem bX4_nextOrder_0 {Z : ZT} {X : XT} {μ : Mu} {a0 : Nat} (E : Ent Z X mX4_nextOrder 0 0) (ha0 : SH a0 = .inl 4) 
    (k : JS Z X 7 [(0, .ref (Z.2.2.1 + a0)), (1, .int ((μ a0 4) - (nI 2)))] [] μ) :
    JS Z X 0 [(0, .ref (Z.2.2.1 + a0))] [] μ := by
  refine J_aload_n E dX4_nextOrder_0 rfl ?_
  refine S_get (ci := 4) (q := 4) (v := .int (μ a0 4)) E dX4_nextOrder_1 fs_X4_55 ha0 rfl ?_
  refine J_iconst (v := nI 2) E dX4_nextOrder_4 rfl ?_
  refine J_isub E dX4_nextOrder_5 ?_
  refine J_istore_n (lv' := [(0, .ref (Z.2.2.1 + a0)), (1, .int ((μ a0 4) - (nI 2)))]) E dX4_nextOrder_6 (Nat.le_of_ble_eq_true rfl) rfl ?_
  exact k
theorem bX4_nextOrder_7 {Z : ZT} {X : XT} {μ : Mu} {a0 : Nat} {a1 : Int32} (E : Ent Z X mX4_nextOrder 0 0) (ha0 : SH a0 = .inl 4) 
    (kt : a1 < 0 → JS Z X 34 [(0, .ref (Z.2.2.1 + a0)), (1, .int a1)] [] μ) (kf : ¬ (a1 < 0) → JS Z X 11 [(0, .ref (Z.2.2.1 + a0)), (1, .int a1)] [] μ) :
    JS Z X 7 [(0, .ref (Z.2.2.1 + a0)), (1, .int a1)] [] μ := by
  refine J_iload_n E dX4_nextOrder_7 rfl ?_
  refine J_if_lt (tgt := 34) E dX4_nextOrder_8 (by decide) (fun c => ?_) (fun c => ?_)
  · exact kt c
  · exact kf c
theorem bX4_nextOrder_11 {Z : ZT} {X : XT} {μ : Mu} {a0 : Nat} {a1 : Int32} (E : Ent Z X mX4_nextOrder 0 0) (ha0 : SH a0 = .inl 4) (s1_ : vp_in a1 6) (s2_ : vp_in (a1 + (nI 1)) 6)
    (kt : (μ (a0 + 1) (ix a1)) ≤ (μ (a0 + 1) (ix (a1 + (nI 1)))) → JS Z X 34 [(0, .ref (Z.2.2.1 + a0)), (1, .int a1)] [] μ) (kf : ¬ ((μ (a0 + 1) (ix a1)) ≤ (μ (a0 + 1) (ix (a1 + (nI 1))))) → JS Z X 28 [(0, .ref (Z.2.2.1 + a0)), (1, .int a1)] [] μ) :
    JS Z X 11 [(0, .ref (Z.2.2.1 + a0)), (1, .int a1)] [] μ := by
  refine J_aload_n E dX4_nextOrder_11 rfl ?_
  refine S_get (ci := 4) (q := 5) (v := .ref (Z.2.2.1 + (a0 + 1))) E dX4_nextOrder_12 fs_X4_9 ha0 rfl ?_
  refine J_iload_n E dX4_nextOrder_15 rfl ?_
  refine S_iald E dX4_nextOrder_16 (shr_X4_5 ha0) s1_ ?_
  refine J_aload_n E dX4_nextOrder_17 rfl ?_
  refine S_get (ci := 4) (q := 5) (v := .ref (Z.2.2.1 + (a0 + 1))) E dX4_nextOrder_18 fs_X4_9 ha0 rfl ?_
  refine J_iload_n E dX4_nextOrder_21 rfl ?_
  refine J_iconst (v := nI 1) E dX4_nextOrder_22 rfl ?_
  refine J_iadd E dX4_nextOrder_23 ?_
  refine S_iald E dX4_nextOrder_24 (shr_X4_5 ha0) s2_ ?_
  refine J_icmp_le (tgt := 34) E dX4_nextOrder_25 (by decide) (fun c => ?_) (fun c => ?_)
  · exact kt c
  · exact kf c
theorem bX4_nextOrder_28 {Z : ZT} {X : XT} {μ : Mu} {a0 : Nat} {a1 : Int32} (E : Ent Z X mX4_nextOrder 0 0) (ha0 : SH a0 = .inl 4) 
    (k : JS Z X 7 [(0, .ref (Z.2.2.1 + a0)), (1, .int (a1 + (-1)))] [] μ) :
    JS Z X 28 [(0, .ref (Z.2.2.1 + a0)), (1, .int a1)] [] μ := by
  refine J_iinc (v := a1 + (-1)) (lv' := [(0, .ref (Z.2.2.1 + a0)), (1, .int (a1 + (-1)))]) E dX4_nextOrder_28 rfl rfl (Nat.le_of_ble_eq_true rfl) rfl ?_
  refine J_goto (tgt := 7) E dX4_nextOrder_31 (by decide) ?_
  exact k
theorem bX4_nextOrder_34 {Z : ZT} {X : XT} {μ : Mu} {a0 : Nat} {a1 : Int32} (E : Ent Z X mX4_nextOrder 0 0) (ha0 : SH a0 = .inl 4) 
    (kt : 0 ≤ a1 → JS Z X 40 [(0, .ref (Z.2.2.1 + a0)), (1, .int a1)] [] μ) (kf : ¬ (0 ≤ a1) → JS Z X 38 [] [] μ) :
    JS Z X 34 [(0, .ref (Z.2.2.1 + a0)), (1, .int a1)] [] μ := by
  refine J_iload_n E dX4_nextOrder_34 rfl ?_
  refine J_if_ge (tgt := 40) E dX4_nextOrder_35 (by decide) (fun c => ?_) (fun c => ?_)
  · exact kt c
  · refine J.weak [] rfl ?_
    exact kf c
theorem bX4_nextOrder_38 {Z : ZT} {X : XT} {μ : Mu} (E : Ent Z X mX4_nextOrder 0 0) {P : Option Value → Mu → Prop} (hB : BodS Z X P) 
    (k : P (some (.int (nI 0))) μ) :
    JS Z X 38 [] [] μ := by
  refine J_iconst (v := nI 0) E dX4_nextOrder_38 rfl ?_
  exact S_zret E hB dX4_nextOrder_39 rfl rfl k
theorem bX4_nextOrder_40 {Z : ZT} {X : XT} {μ : Mu} {a0 : Nat} {a1 : Int32} (E : Ent Z X mX4_nextOrder 0 0) (ha0 : SH a0 = .inl 4) 
    (k : JS Z X 47 [(0, .ref (Z.2.2.1 + a0)), (1, .int a1), (2, .int ((μ a0 4) - (nI 1)))] [] μ) :
    JS Z X 40 [(0, .ref (Z.2.2.1 + a0)), (1, .int a1)] [] μ := by
  refine J_aload_n E dX4_nextOrder_40 rfl ?_
  refine S_get (ci := 4) (q := 4) (v := .int (μ a0 4)) E dX4_nextOrder_41 fs_X4_55 ha0 rfl ?_
  refine J_iconst (v := nI 1) E dX4_nextOrder_44 rfl ?_
  refine J_isub E dX4_nextOrder_45 ?_
  refine J_istore_n (lv' := [(0, .ref (Z.2.2.1 + a0)), (1, .int a1), (2, .int ((μ a0 4) - (nI 1)))]) E dX4_nextOrder_46 (Nat.le_of_ble_eq_true rfl) rfl ?_
  exact k
theorem bX4_nextOrder_47 {Z : ZT} {X : XT} {μ : Mu} {a0 : Nat} {a1 : Int32} {a2 : Int32} (E : Ent Z X mX4_nextOrder 0 0) (ha0 : SH a0 = .inl 4) 
    (kt : a2 ≤ (a1 + (nI 1)) → JS Z X 75 [(0, .ref (Z.2.2.1 + a0)), (1, .int a1), (2, .int a2)] [] μ) (kf : ¬ (a2 ≤ (a1 + (nI 1))) → JS Z X 54 [(0, .ref (Z.2.2.1 + a0)), (1, .int a1), (2, .int a2)] [] μ) :
    JS Z X 47 [(0, .ref (Z.2.2.1 + a0)), (1, .int a1), (2, .int a2)] [] μ := by
  refine J_iload_n E dX4_nextOrder_47 rfl ?_
  refine J_iload_n E dX4_nextOrder_48 rfl ?_
  refine J_iconst (v := nI 1) E dX4_nextOrder_49 rfl ?_
  refine J_iadd E dX4_nextOrder_50 ?_
  refine J_icmp_le (tgt := 75) E dX4_nextOrder_51 (by decide) (fun c => ?_) (fun c => ?_)
  · exact kt c
  · exact kf c
theorem bX4_nextOrder_54 {Z : ZT} {X : XT} {μ : Mu} {a0 : Nat} {a1 : Int32} {a2 : Int32} (E : Ent Z X mX4_nextOrder 0 0) (ha0 : SH a0 = .inl 4) (s1_ : vp_in a2 6) (s2_ : vp_in a1 6)
    (kt : (μ (a0 + 1) (ix a1)) ≤ (μ (a0 + 1) (ix a2)) → JS Z X 75 [(0, .ref (Z.2.2.1 + a0)), (1, .int a1), (2, .int a2)] [] μ) (kf : ¬ ((μ (a0 + 1) (ix a1)) ≤ (μ (a0 + 1) (ix a2))) → JS Z X 69 [(0, .ref (Z.2.2.1 + a0)), (1, .int a1), (2, .int a2)] [] μ) :
    JS Z X 54 [(0, .ref (Z.2.2.1 + a0)), (1, .int a1), (2, .int a2)] [] μ := by
  refine J_aload_n E dX4_nextOrder_54 rfl ?_
  refine S_get (ci := 4) (q := 5) (v := .ref (Z.2.2.1 + (a0 + 1))) E dX4_nextOrder_55 fs_X4_9 ha0 rfl ?_
  refine J_iload_n E dX4_nextOrder_58 rfl ?_
  refine S_iald E dX4_nextOrder_59 (shr_X4_5 ha0) s1_ ?_
  refine J_aload_n E dX4_nextOrder_60 rfl ?_
  refine S_get (ci := 4) (q := 5) (v := .ref (Z.2.2.1 + (a0 + 1))) E dX4_nextOrder_61 fs_X4_9 ha0 rfl ?_
  refine J_iload_n E dX4_nextOrder_64 rfl ?_
  refine S_iald E dX4_nextOrder_65 (shr_X4_5 ha0) s2_ ?_
  refine J_icmp_ge (tgt := 75) E dX4_nextOrder_66 (by decide) (fun c => ?_) (fun c => ?_)
  · exact kt c
  · exact kf c
theorem bX4_nextOrder_69 {Z : ZT} {X : XT} {μ : Mu} {a0 : Nat} {a1 : Int32} {a2 : Int32} (E : Ent Z X mX4_nextOrder 0 0) (ha0 : SH a0 = .inl 4) 
    (k : JS Z X 47 [(0, .ref (Z.2.2.1 + a0)), (1, .int a1), (2, .int (a2 + (-1)))] [] μ) :
    JS Z X 69 [(0, .ref (Z.2.2.1 + a0)), (1, .int a1), (2, .int a2)] [] μ := by
  refine J_iinc (v := a2 + (-1)) (lv' := [(0, .ref (Z.2.2.1 + a0)), (1, .int a1), (2, .int (a2 + (-1)))]) E dX4_nextOrder_69 rfl rfl (Nat.le_of_ble_eq_true rfl) rfl ?_
  refine J_goto (tgt := 47) E dX4_nextOrder_72 (by decide) ?_
  exact k
theorem bX4_nextOrder_75 {Z : ZT} {X : XT} {μ : Mu} {a0 : Nat} {a1 : Int32} {a2 : Int32} (E : Ent Z X mX4_nextOrder 0 0) (ha0 : SH a0 = .inl 4) {p : Mu → Prop} 
    (c : CtrS Z mX4_exchange [.ref (Z.2.2.1 + a0), .int a1, .int a2] μ (rV p)) (k : ∀ μ1, p μ1 → JS Z X 81 [(0, .ref (Z.2.2.1 + a0)), (1, .int a1)] [] μ1) :
    JS Z X 75 [(0, .ref (Z.2.2.1 + a0)), (1, .int a1), (2, .int a2)] [] μ := by
  refine J_aload_n E dX4_nextOrder_75 rfl ?_
  refine J_iload_n E dX4_nextOrder_76 rfl ?_
  refine J_iload_n E dX4_nextOrder_77 rfl ?_
  refine S_callV (As := [.int a1, .int a2]) (rest := []) E dX4_nextOrder_78 c kX4_exchange ⟨Nat.le_of_ble_eq_true rfl, Nat.le_of_ble_eq_true rfl⟩ rfl (Nat.le_of_ble_eq_true rfl) ha0 rfl rfl w5_10 w5_12 wp_21 (fun r_ μ1 hp_ => ?_)
  obtain ⟨rfl, hp_⟩ := hp_
  refine J.weak [0, 1] rfl ?_
  exact k μ1 hp_
theorem bX4_nextOrder_81 {Z : ZT} {X : XT} {μ : Mu} {a0 : Nat} {a1 : Int32} (E : Ent Z X mX4_nextOrder 0 0) (ha0 : SH a0 = .inl 4) 
    (k : JS Z X 93 [(0, .ref (Z.2.2.1 + a0)), (3, .int (a1 + (nI 1))), (4, .int ((μ a0 4) - (nI 1)))] [] μ) :
    JS Z X 81 [(0, .ref (Z.2.2.1 + a0)), (1, .int a1)] [] μ := by
  refine J_iload_n E dX4_nextOrder_81 rfl ?_
  refine J_iconst (v := nI 1) E dX4_nextOrder_82 rfl ?_
  refine J_iadd E dX4_nextOrder_83 ?_
  refine J_istore_n (lv' := [(0, .ref (Z.2.2.1 + a0)), (1, .int a1), (3, .int (a1 + (nI 1)))]) E dX4_nextOrder_84 (Nat.le_of_ble_eq_true rfl) rfl ?_
  refine J_aload_n E dX4_nextOrder_85 rfl ?_
  refine S_get (ci := 4) (q := 4) (v := .int (μ a0 4)) E dX4_nextOrder_86 fs_X4_55 ha0 rfl ?_
  refine J_iconst (v := nI 1) E dX4_nextOrder_89 rfl ?_
  refine J_isub E dX4_nextOrder_90 ?_
  refine J_istore (lv' := [(0, .ref (Z.2.2.1 + a0)), (1, .int a1), (3, .int (a1 + (nI 1))), (4, .int ((μ a0 4) - (nI 1)))]) E dX4_nextOrder_91 (Nat.le_of_ble_eq_true rfl) rfl ?_
  refine J.weak [0, 2, 3] rfl ?_
  exact k
theorem bX4_nextOrder_93 {Z : ZT} {X : XT} {μ : Mu} {a0 : Nat} {a3 : Int32} {a4 : Int32} (E : Ent Z X mX4_nextOrder 0 0) (ha0 : SH a0 = .inl 4) 
    (kt : a4 ≤ a3 → JS Z X 115 [] [] μ) (kf : ¬ (a4 ≤ a3) → JS Z X 99 [(0, .ref (Z.2.2.1 + a0)), (3, .int a3), (4, .int a4)] [] μ) :
    JS Z X 93 [(0, .ref (Z.2.2.1 + a0)), (3, .int a3), (4, .int a4)] [] μ := by
  refine J_iload_n E dX4_nextOrder_93 rfl ?_
  refine J_iload E dX4_nextOrder_94 rfl ?_
  refine J_icmp_ge (tgt := 115) E dX4_nextOrder_96 (by decide) (fun c => ?_) (fun c => ?_)
  · refine J.weak [] rfl ?_
    exact kt c
  · exact kf c
theorem bX4_nextOrder_99 {Z : ZT} {X : XT} {μ : Mu} {a0 : Nat} {a3 : Int32} {a4 : Int32} (E : Ent Z X mX4_nextOrder 0 0) (ha0 : SH a0 = .inl 4) {p : Mu → Prop} 
    (c : CtrS Z mX4_exchange [.ref (Z.2.2.1 + a0), .int a3, .int a4] μ (rV p)) (k : ∀ μ1, p μ1 → JS Z X 106 [(0, .ref (Z.2.2.1 + a0)), (3, .int a3), (4, .int a4)] [] μ1) :
    JS Z X 99 [(0, .ref (Z.2.2.1 + a0)), (3, .int a3), (4, .int a4)] [] μ := by
  refine J_aload_n E dX4_nextOrder_99 rfl ?_
  refine J_iload_n E dX4_nextOrder_100 rfl ?_
  refine J_iload E dX4_nextOrder_101 rfl ?_
  refine S_callV (As := [.int a3, .int a4]) (rest := []) E dX4_nextOrder_103 c kX4_exchange ⟨Nat.le_of_ble_eq_true rfl, Nat.le_of_ble_eq_true rfl⟩ rfl (Nat.le_of_ble_eq_true rfl) ha0 rfl rfl w5_10 w5_12 wp_21 (fun r_ μ1 hp_ => ?_)
  obtain ⟨rfl, hp_⟩ := hp_
  exact k μ1 hp_
theorem bX4_nextOrder_106 {Z : ZT} {X : XT} {μ : Mu} {a0 : Nat} {a3 : Int32} {a4 : Int32} (E : Ent Z X mX4_nextOrder 0 0) (ha0 : SH a0 = .inl 4) 
    (k : JS Z X 93 [(0, .ref (Z.2.2.1 + a0)), (3, .int (a3 + nI 1)), (4, .int (a4 + (-1)))] [] μ) :
    JS Z X 106 [(0, .ref (Z.2.2.1 + a0)), (3, .int a3), (4, .int a4)] [] μ := by
  refine J_iinc (v := a3 + nI 1) (lv' := [(0, .ref (Z.2.2.1 + a0)), (3, .int (a3 + nI 1)), (4, .int a4)]) E dX4_nextOrder_106 rfl rfl (Nat.le_of_ble_eq_true rfl) rfl ?_
  refine J_iinc (v := a4 + (-1)) (lv' := [(0, .ref (Z.2.2.1 + a0)), (3, .int (a3 + nI 1)), (4, .int (a4 + (-1)))]) E dX4_nextOrder_109 rfl rfl (Nat.le_of_ble_eq_true rfl) rfl ?_
  refine J_goto (tgt := 93) E dX4_nextOrder_112 (by decide) ?_
  exact k
theorem bX4_nextOrder_115 {Z : ZT} {X : XT} {μ : Mu} (E : Ent Z X mX4_nextOrder 0 0) {P : Option Value → Mu → Prop} (hB : BodS Z X P) 
    (k : P (some (.int (nI 1))) μ) :
    JS Z X 115 [] [] μ := by
  refine J_iconst (v := nI 1) E dX4_nextOrder_115 rfl ?_
  exact S_zret E hB dX4_nextOrder_116 rfl rfl k
theorem dX4_exchange_0 : decode cX4_exchange 0 = .ok (.aload_n 0, 1) := by decide +kernel
theorem dX4_exchange_1 : decode cX4_exchange 1 = .ok (.getfield 9, 3) := by decide +kernel
theorem dX4_exchange_4 : decode cX4_exchange 4 = .ok (.iload_n 1, 1) := by decide +kernel
theorem dX4_exchange_5 : decode cX4_exchange 5 = .ok (.iaload, 1) := by decide +kernel
theorem dX4_exchange_6 : decode cX4_exchange 6 = .ok (.istore_n 3, 1) := by decide +kernel
theorem dX4_exchange_7 : decode cX4_exchange 7 = .ok (.aload_n 0, 1) := by decide +kernel
theorem dX4_exchange_8 : decode cX4_exchange 8 = .ok (.getfield 9, 3) := by decide +kernel
theorem dX4_exchange_11 : decode cX4_exchange 11 = .ok (.iload_n 1, 1) := by decide +kernel
theorem dX4_exchange_12 : decode cX4_exchange 12 = .ok (.aload_n 0, 1) := by decide +kernel
theorem dX4_exchange_13 : decode cX4_exchange 13 = .ok (.getfield 9, 3) := by decide +kernel
theorem dX4_exchange_16 : decode cX4_exchange 16 = .ok (.iload_n 2, 1) := by decide +kernel
theorem dX4_exchange_17 : decode cX4_exchange 17 = .ok (.iaload, 1) := by decide +kernel
theorem dX4_exchange_18 : decode cX4_exchange 18 = .ok (.iastore, 1) := by decide +kernel
theorem dX4_exchange_19 : decode cX4_exchange 19 = .ok (.aload_n 0, 1) := by decide +kernel
theorem dX4_exchange_20 : decode cX4_exchange 20 = .ok (.getfield 9, 3) := by decide +kernel
theorem dX4_exchange_23 : decode cX4_exchange 23 = .ok (.iload_n 2, 1) := by decide +kernel
theorem dX4_exchange_24 : decode cX4_exchange 24 = .ok (.iload_n 3, 1) := by decide +kernel
theorem dX4_exchange_25 : decode cX4_exchange 25 = .ok (.iastore, 1) := by decide +kernel
theorem dX4_exchange_26 : decode cX4_exchange 26 = .ok (.return_, 1) := by decide +kernel
theorem bX4_exchange_0 {Z : ZT} {X : XT} {μ : Mu} {a0 : Nat} {a1 : Int32} {a2 : Int32} (E : Ent Z X mX4_exchange 0 0) (ha0 : SH a0 = .inl 4) (s1_ : vp_in a1 6) (s2_ : vp_in a2 6) (s3_ : vp_in a1 6)
    (k : JS Z X 19 [(0, .ref (Z.2.2.1 + a0)), (2, .int a2), (3, .int (μ (a0 + 1) (ix a1)))] [] (uR μ (a0 + 1) (upd (μ (a0 + 1)) (ix a1) (μ (a0 + 1) (ix a2))))) :
    JS Z X 0 [(0, .ref (Z.2.2.1 + a0)), (1, .int a1), (2, .int a2)] [] μ := by
  refine J_aload_n E dX4_exchange_0 rfl ?_
  refine S_get (ci := 4) (q := 5) (v := .ref (Z.2.2.1 + (a0 + 1))) E dX4_exchange_1 fs_X4_9 ha0 rfl ?_
  refine J_iload_n E dX4_exchange_4 rfl ?_
  refine S_iald E dX4_exchange_5 (shr_X4_5 ha0) s1_ ?_
  refine J_istore_n (lv' := [(0, .ref (Z.2.2.1 + a0)), (1, .int a1), (2, .int a2), (3, .int (μ (a0 + 1) (ix a1)))]) E dX4_exchange_6 (Nat.le_of_ble_eq_true rfl) rfl ?_
  refine J_aload_n E dX4_exchange_7 rfl ?_
  refine S_get (ci := 4) (q := 5) (v := .ref (Z.2.2.1 + (a0 + 1))) E dX4_exchange_8 fs_X4_9 ha0 rfl ?_
  refine J_iload_n E dX4_exchange_11 rfl ?_
  refine J_aload_n E dX4_exchange_12 rfl ?_
  refine S_get (ci := 4) (q := 5) (v := .ref (Z.2.2.1 + (a0 + 1))) E dX4_exchange_13 fs_X4_9 ha0 rfl ?_
  refine J_iload_n E dX4_exchange_16 rfl ?_
  refine S_iald E dX4_exchange_17 (shr_X4_5 ha0) s2_ ?_
  refine S_iast E dX4_exchange_18 (shr_X4_5 ha0) s3_ ?_
  refine J.weak [0, 2, 3] rfl ?_
  exact k
theorem bX4_exchange_19 {Z : ZT} {X : XT} {μ : Mu} {a0 : Nat} {a2 : Int32} {a3 : Int32} (E : Ent Z X mX4_exchange 0 0) (ha0 : SH a0 = .inl 4) (s1_ : vp_in a2 6)
    (k : JS Z X 26 [] [] (uR μ (a0 + 1) (upd (μ (a0 + 1)) (ix a2) a3))) :
    JS Z X 19 [(0, .ref (Z.2.2.1 + a0)), (2, .int a2), (3, .int a3)] [] μ := by
  refine J_aload_n E dX4_exchange_19 rfl ?_
  refine S_get (ci := 4) (q := 5) (v := .ref (Z.2.2.1 + (a0 + 1))) E dX4_exchange_20 fs_X4_9 ha0 rfl ?_
  refine J_iload_n E dX4_exchange_23 rfl ?_
  refine J_iload_n E dX4_exchange_24 rfl ?_
  refine S_iast E dX4_exchange_25 (shr_X4_5 ha0) s1_ ?_
  refine J.weak [] rfl ?_
  exact k
theorem bX4_exchange_26 {Z : ZT} {X : XT} {μ : Mu} (E : Ent Z X mX4_exchange 0 0) {P : Option Value → Mu → Prop} (hB : BodS Z X P) 
    (k : P none μ) :
    JS Z X 26 [] [] μ := by
  exact S_vret E hB dX4_exchange_26 rfl k
theorem dX5_init_0 : decode cX5_init 0 = .ok (.aload_n 0, 1) := by decide +kernel
theorem dX5_init_1 : decode cX5_init 1 = .ok (.invokespecial 3, 3) := by decide +kernel
theorem dX5_init_4 : decode cX5_init 4 = .ok (.aload_n 0, 1) := by decide +kernel
theorem dX5_init_5 : decode cX5_init 5 = .ok (.new 9, 3) := by decide +kernel
theorem dX5_init_8 : decode cX5_init 8 = .ok (.dup, 1) := by decide +kernel
theorem dX5_init_9 : decode cX5_init 9 = .ok (.invokespecial 11, 3) := by decide +kernel
theorem dX5_init_12 : decode cX5_init 12 = .ok (.putfield 12, 3) := by decide +kernel
theorem dX5_init_15 : decode cX5_init 15 = .ok (.aload_n 0, 1) := by decide +kernel
theorem dX5_init_16 : decode cX5_init 16 = .ok (.new 9, 3) := by decide +kernel
theorem dX5_init_19 : decode cX5_init 19 = .ok (.dup, 1) := by decide +kernel
theorem dX5_init_20 : decode cX5_init 20 = .ok (.invokespecial 11, 3) := by decide +kernel
theorem dX5_init_23 : decode cX5_init 23 = .ok (.putfield 18, 3) := by decide +kernel
theorem dX5_init_26 : decode cX5_init 26 = .ok (.aload_n 0, 1) := by decide +kernel
theorem dX5_init_27 : decode cX5_init 27 = .ok (.new 9, 3) := by decide +kernel
theorem dX5_init_30 : decode cX5_init 30 = .ok (.dup, 1) := by decide +kernel
theorem dX5_init_31 : decode cX5_init 31 = .ok (.invokespecial 11, 3) := by decide +kernel
theorem dX5_init_34 : decode cX5_init 34 = .ok (.putfield 21, 3) := by decide +kernel
theorem dX5_init_37 : decode cX5_init 37 = .ok (.aload_n 0, 1) := by decide +kernel
theorem dX5_init_38 : decode cX5_init 38 = .ok (.new 9, 3) := by decide +kernel
theorem dX5_init_41 : decode cX5_init 41 = .ok (.dup, 1) := by decide +kernel
theorem dX5_init_42 : decode cX5_init 42 = .ok (.invokespecial 11, 3) := by decide +kernel
theorem dX5_init_45 : decode cX5_init 45 = .ok (.putfield 24, 3) := by decide +kernel
theorem dX5_init_48 : decode cX5_init 48 = .ok (.aload_n 0, 1) := by decide +kernel
theorem dX5_init_49 : decode cX5_init 49 = .ok (.new 9, 3) := by decide +kernel
theorem dX5_init_52 : decode cX5_init 52 = .ok (.dup, 1) := by decide +kernel
theorem dX5_init_53 : decode cX5_init 53 = .ok (.invokespecial 11, 3) := by decide +kernel
theorem dX5_init_56 : decode cX5_init 56 = .ok (.putfield 27, 3) := by decide +kernel
theorem dX5_init_59 : decode cX5_init 59 = .ok (.aload_n 0, 1) := by decide +kernel
theorem dX5_init_60 : decode cX5_init 60 = .ok (.new 9, 3) := by decide +kernel
theorem dX5_init_63 : decode cX5_init 63 = .ok (.dup, 1) := by decide +kernel
theorem dX5_init_64 : decode cX5_init 64 = .ok (.invokespecial 11, 3) := by decide +kernel
theorem dX5_init_67 : decode cX5_init 67 = .ok (.putfield 30, 3) := by decide +kernel
theorem dX5_init_70 : decode cX5_init 70 = .ok (.aload_n 0, 1) := by decide +kernel
theorem dX5_init_71 : decode cX5_init 71 = .ok (.aload_n 1, 1) := by decide +kernel
theorem dX5_init_72 : decode cX5_init 72 = .ok (.putfield 33, 3) := by decide +kernel
theorem dX5_init_75 : decode cX5_init 75 = .ok (.aload_n 0, 1) := by decide +kernel
theorem dX5_init_76 : decode cX5_init 76 = .ok (.aload_n 2, 1) := by decide +kernel
theorem dX5_init_77 : decode cX5_init 77 = .ok (.putfield 37, 3) := by decide +kernel
theorem dX5_init_80 : decode cX5_init 80 = .ok (.return_, 1) := by decide +kernel
theorem dX5_begin_0 : decode cX5_begin 0 = .ok (.aload_n 0, 1) := by decide +kernel
theorem dX5_begin_1 : decode cX5_begin 1 = .ok (.getfield 37, 3) := by decide +kernel
theorem dX5_begin_4 : decode cX5_begin 4 = .ok (.getfield 41, 3) := by decide +kernel
theorem dX5_begin_7 : decode cX5_begin 7 = .ok (.iconst 0, 1) := by decide +kernel
theorem dX5_begin_8 : decode cX5_begin 8 = .ok (.iaload, 1) := by decide +kernel
theorem dX5_begin_9 : decode cX5_begin 9 = .ok (.istore_n 1, 1) := by decide +kernel
theorem dX5_begin_10 : decode cX5_begin 10 = .ok (.aload_n 0, 1) := by decide +kernel
theorem dX5_begin_11 : decode cX5_begin 11 = .ok (.bipush 6, 2) := by decide +kernel
theorem dX5_begin_13 : decode cX5_begin 13 = .ok (.iload_n 1, 1) := by decide +kernel
theorem dX5_begin_14 : decode cX5_begin 14 = .ok (.iconst 1, 1) := by decide +kernel
theorem dX5_begin_15 : decode cX5_begin 15 = .ok (.isub, 1) := by decide +kernel
theorem dX5_begin_16 : decode cX5_begin 16 = .ok (.imul, 1) := by decide +kernel
theorem dX5_begin_17 : decode cX5_begin 17 = .ok (.putfield 47, 3) := by decide +kernel
theorem dX5_begin_20 : decode cX5_begin 20 = .ok (.aload_n 0, 1) := by decide +kernel
theorem dX5_begin_21 : decode cX5_begin 21 = .ok (.getfield 12, 3) := by decide +kernel
theorem dX5_begin_24 : decode cX5_begin 24 = .ok (.iconst 1, 1) := by decide +kernel
theorem dX5_begin_25 : decode cX5_begin 25 = .ok (.invokevirtual 51, 3) := by decide +kernel
theorem dX5_begin_28 : decode cX5_begin 28 = .ok (.iconst 1, 1) := by decide +kernel
theorem dX5_begin_29 : decode cX5_begin 29 = .ok (.istore_n 2, 1) := by decide +kernel
theorem dX5_begin_30 : decode cX5_begin 30 = .ok (.iload_n 2, 1) := by decide +kernel
theorem dX5_begin_31 : decode cX5_begin 31 = .ok (.iload_n 1, 1) := by decide +kernel
theorem dX5_begin_32 : decode cX5_begin 32 = .ok (.if_icmp .ge 18, 3) := by decide +kernel
theorem dX5_begin_35 : decode cX5_begin 35 = .ok (.aload_n 0, 1) := by decide +kernel
theorem dX5_begin_36 : decode cX5_begin 36 = .ok (.getfield 12, 3) := by decide +kernel
theorem dX5_begin_39 : decode cX5_begin 39 = .ok (.ldc 55, 2) := by decide +kernel
theorem dX5_begin_41 : decode cX5_begin 41 = .ok (.invokevirtual 56, 3) := by decide +kernel
theorem dX5_begin_44 : decode cX5_begin 44 = .ok (.iinc 2 1, 3) := by decide +kernel
theorem dX5_begin_47 : decode cX5_begin 47 = .ok (.goto (-17), 3) := by decide +kernel
theorem dX5_begin_50 : decode cX5_begin 50 = .ok (.aload_n 0, 1) := by decide +kernel
theorem dX5_begin_51 : decode cX5_begin 51 = .ok (.getfield 18, 3) := by decide +kernel
theorem dX5_begin_54 : decode cX5_begin 54 = .ok (.iconst 0, 1) := by decide +kernel
theorem dX5_begin_55 : decode cX5_begin 55 = .ok (.invokevirtual 51, 3) := by decide +kernel
theorem dX5_begin_58 : decode cX5_begin 58 = .ok (.aload_n 0, 1) := by decide +kernel
theorem dX5_begin_59 : decode cX5_begin 59 = .ok (.getfield 18, 3) := by decide +kernel
theorem dX5_begin_62 : decode cX5_begin 62 = .ok (.aload_n 0, 1) := by decide +kernel
theorem dX5_begin_63 : decode cX5_begin 63 = .ok (.getfield 12, 3) := by decide +kernel
theorem dX5_begin_66 : decode cX5_begin 66 = .ok (.aload_n 0, 1) := by decide +kernel
theorem dX5_begin_67 : decode cX5_begin 67 = .ok (.getfield 37, 3) := by decide +kernel
theorem dX5_begin_70 : decode cX5_begin 70 = .ok (.getfield 41, 3) := by decide +kernel
theorem dX5_begin_73 : decode cX5_begin 73 = .ok (.iconst 1, 1) := by decide +kernel
theorem dX5_begin_74 : decode cX5_begin 74 = .ok (.iaload, 1) := by decide +kernel
theorem dX5_begin_75 : decode cX5_begin 75 = .ok (.invokevirtual 59, 3) := by decide +kernel
theorem dX5_begin_78 : decode cX5_begin 78 = .ok (.return_, 1) := by decide +kernel
theorem bX5_begin_0 {Z : ZT} {X : XT} {μ : Mu} (E : Ent Z X mX5_begin 0 0)  (s1_ : vp_in (nI 0) 5)
    (k : JS Z X 20 [(0, .ref (Z.2.2.1 + 92)), (1, .int (μ (27 + 1) (ix (nI 0))))] [] (uR μ 92 (upd (μ 92) 2 ((nI 6) * ((μ (27 + 1) (ix (nI 0))) - (nI 1)))))) :
    JS Z X 0 [(0, .ref (Z.2.2.1 + 92))] [] μ := by
  refine J_aload_n E dX5_begin_0 rfl ?_
  refine S_get (ci := 5) (q := 1) (v := .ref (Z.2.2.1 + 27)) E dX5_begin_1 fs_X5_37 sh92 rfl ?_
  refine S_get (ci := 6) (q := 0) (v := .ref (Z.2.2.1 + (27 + 1))) E dX5_begin_4 fs_X5_41 sh27 rfl ?_
  refine J_iconst (v := nI 0) E dX5_begin_7 rfl ?_
  refine S_iald E dX5_begin_8 (shr_X6_0 sh27) s1_ ?_
  refine J_istore_n (lv' := [(0, .ref (Z.2.2.1 + 92)), (1, .int (μ (27 + 1) (ix (nI 0))))]) E dX5_begin_9 (Nat.le_of_ble_eq_true rfl) rfl ?_
  refine J_aload_n E dX5_begin_10 rfl ?_
  refine J_bipush (v := nI 6) E dX5_begin_11 rfl ?_
  refine J_iload_n E dX5_begin_13 rfl ?_
  refine J_iconst (v := nI 1) E dX5_begin_14 rfl ?_
  refine J_isub E dX5_begin_15 ?_
  refine J_imul E dX5_begin_16 ?_
  refine S_puti E dX5_begin_17 fs_X5_47 fp_X5_2 sh92 rfl ?_
  exact k
theorem bX5_begin_20 {Z : ZT} {X : XT} {μ : Mu} {a1 : Int32} (E : Ent Z X mX5_begin 0 0) {p : Mu → Prop} 
    (c : CtrS Z mX0_set [.ref (Z.2.2.1 + 93), .int (nI 1)] μ (rV p)) (k : ∀ μ1, p μ1 → JS Z X 28 [(0, .ref (Z.2.2.1 + 92)), (1, .int a1)] [] μ1) :
    JS Z X 20 [(0, .ref (Z.2.2.1 + 92)), (1, .int a1)] [] μ := by
  refine J_aload_n E dX5_begin_20 rfl ?_
  refine S_get (ci := 5) (q := 3) (v := .ref (Z.2.2.1 + 93)) E dX5_begin_21 fs_X5_12 sh92 rfl ?_
  refine J_iconst (v := nI 1) E dX5_begin_24 rfl ?_
  refine S_callV (As := [.int (nI 1)]) (rest := []) E dX5_begin_25 c kX0_set ⟨Nat.le_of_ble_eq_true rfl, Nat.le_of_ble_eq_true rfl⟩ rfl (Nat.le_of_ble_eq_true rfl) sh93 rfl rfl w4_159 w2_180 w2_181 (fun r_ μ1 hp_ => ?_)
  obtain ⟨rfl, hp_⟩ := hp_
  exact k μ1 hp_
theorem bX5_begin_28 {Z : ZT} {X : XT} {μ : Mu} {a1 : Int32} (E : Ent Z X mX5_begin 0 0)  
    (k : JS Z X 30 [(0, .ref (Z.2.2.1 + 92)), (1, .int a1), (2, .int (nI 1))] [] μ) :
    JS Z X 28 [(0, .ref (Z.2.2.1 + 92)), (1, .int a1)] [] μ := by
  refine J_iconst (v := nI 1) E dX5_begin_28 rfl ?_
  refine J_istore_n (lv' := [(0, .ref (Z.2.2.1 + 92)), (1, .int a1), (2, .int (nI 1))]) E dX5_begin_29 (Nat.le_of_ble_eq_true rfl) rfl ?_
  exact k
theorem bX5_begin_30 {Z : ZT} {X : XT} {μ : Mu} {a1 : Int32} {a2 : Int32} (E : Ent Z X mX5_begin 0 0)  
    (kt : a1 ≤ a2 → JS Z X 50 [(0, .ref (Z.2.2.1 + 92))] [] μ) (kf : ¬ (a1 ≤ a2) → JS Z X 35 [(0, .ref (Z.2.2.1 + 92)), (1, .int a1), (2, .int a2)] [] μ) :
    JS Z X 30 [(0, .ref (Z.2.2.1 + 92)), (1, .int a1), (2, .int a2)] [] μ := by
  refine J_iload_n E dX5_begin_30 rfl ?_
  refine J_iload_n E dX5_begin_31 rfl ?_
  refine J_icmp_ge (tgt := 50) E dX5_begin_32 (by decide) (fun c => ?_) (fun c => ?_)
  · refine J.weak [0] rfl ?_
    exact kt c
  · exact kf c
theorem bX5_begin_35 {Z : ZT} {X : XT} {μ : Mu} {a1 : Int32} {a2 : Int32} (E : Ent Z X mX5_begin 0 0) {p : Mu → Prop} 
    (c : CtrS Z mX0_times [.ref (Z.2.2.1 + 93), .int (nI 1000000)] μ (rV p)) (k : ∀ μ1, p μ1 → JS Z X 44 [(0, .ref (Z.2.2.1 + 92)), (1, .int a1), (2, .int a2)] [] μ1) :
    JS Z X 35 [(0, .ref (Z.2.2.1 + 92)), (1, .int a1), (2, .int a2)] [] μ := by
  refine J_aload_n E dX5_begin_35 rfl ?_
  refine S_get (ci := 5) (q := 3) (v := .ref (Z.2.2.1 + 93)) E dX5_begin_36 fs_X5_12 sh92 rfl ?_
  refine J_ldc (v := nI 1000000) E dX5_begin_39 w4_160 ?_
  refine S_callV (As := [.int (nI 1000000)]) (rest := []) E dX5_begin_41 c kX0_times ⟨Nat.le_of_ble_eq_true rfl, Nat.le_of_ble_eq_true rfl⟩ rfl (Nat.le_of_ble_eq_true rfl) sh93 rfl rfl w4_161 w4_147 w4_148 (fun r_ μ1 hp_ => ?_)
  obtain ⟨rfl, hp_⟩ := hp_
  exact k μ1 hp_
theorem bX5_begin_44 {Z : ZT} {X : XT} {μ : Mu} {a1 : Int32} {a2 : Int32} (E : Ent Z X mX5_begin 0 0)  
    (k : JS Z X 30 [(0, .ref (Z.2.2.1 + 92)), (1, .int a1), (2, .int (a2 + nI 1))] [] μ) :
    JS Z X 44 [(0, .ref (Z.2.2.1 + 92)), (1, .int a1), (2, .int a2)] [] μ := by
  refine J_iinc (v := a2 + nI 1) (lv' := [(0, .ref (Z.2.2.1 + 92)), (1, .int a1), (2, .int (a2 + nI 1))]) E dX5_begin_44 rfl rfl (Nat.le_of_ble_eq_true rfl) rfl ?_
  refine J_goto (tgt := 30) E dX5_begin_47 (by decide) ?_
  exact k
theorem bX5_begin_50 {Z : ZT} {X : XT} {μ : Mu} (E : Ent Z X mX5_begin 0 0) {p : Mu → Prop} 
    (c : CtrS Z mX0_set [.ref (Z.2.2.1 + 95), .int (nI 0)] μ (rV p)) (k : ∀ μ1, p μ1 → JS Z X 58 [(0, .ref (Z.2.2.1 + 92))] [] μ1) :
    JS Z X 50 [(0, .ref (Z.2.2.1 + 92))] [] μ := by
  refine J_aload_n E dX5_begin_50 rfl ?_
  refine S_get (ci := 5) (q := 4) (v := .ref (Z.2.2.1 + 95)) E dX5_begin_51 fs_X5_18 sh92 rfl ?_
  refine J_iconst (v := nI 0) E dX5_begin_54 rfl ?_
  refine S_callV (As := [.int (nI 0)]) (rest := []) E dX5_begin_55 c kX0_set ⟨Nat.le_of_ble_eq_true rfl, Nat.le_of_ble_eq_true rfl⟩ rfl (Nat.le_of_ble_eq_true rfl) sh95 rfl rfl w4_159 w2_180 w2_181 (fun r_ μ1 hp_ => ?_)
  obtain ⟨rfl, hp_⟩ := hp_
  exact k μ1 hp_
theorem bX5_begin_58 {Z : ZT} {X : XT} {μ : Mu} (E : Ent Z X mX5_begin 0 0) {p : Mu → Prop} (s1_ : vp_in (nI 1) 5)
    (c : CtrS Z mX0_addTimes [.ref (Z.2.2.1 + 95), .ref (Z.2.2.1 + 93), .int (μ (27 + 1) (ix (nI 1)))] μ (rV p)) (k : ∀ μ1, p μ1 → JS Z X 78 [] [] μ1) :
    JS Z X 58 [(0, .ref (Z.2.2.1 + 92))] [] μ := by
  refine J_aload_n E dX5_begin_58 rfl ?_
  refine S_get (ci := 5) (q := 4) (v := .ref (Z.2.2.1 + 95)) E dX5_begin_59 fs_X5_18 sh92 rfl ?_
  refine J_aload_n E dX5_begin_62 rfl ?_
  refine S_get (ci := 5) (q := 3) (v := .ref (Z.2.2.1 + 93)) E dX5_begin_63 fs_X5_12 sh92 rfl ?_
  refine J_aload_n E dX5_begin_66 rfl ?_
  refine S_get (ci := 5) (q := 1) (v := .ref (Z.2.2.1 + 27)) E dX5_begin_67 fs_X5_37 sh92 rfl ?_
  refine S_get (ci := 6) (q := 0) (v := .ref (Z.2.2.1 + (27 + 1))) E dX5_begin_70 fs_X5_41 sh27 rfl ?_
  refine J_iconst (v := nI 1) E dX5_begin_73 rfl ?_
  refine S_iald E dX5_begin_74 (shr_X6_0 sh27) s1_ ?_
  refine S_callV (As := [.ref (Z.2.2.1 + 93), .int (μ (27 + 1) (ix (nI 1)))]) (rest := []) E dX5_begin_75 c kX0_addTimes ⟨Nat.le_of_ble_eq_true rfl, Nat.le_of_ble_eq_true rfl⟩ rfl (Nat.le_of_ble_eq_true rfl) sh95 rfl rfl w4_162 w4_163 w4_164 (fun r_ μ1 hp_ => ?_)
  obtain ⟨rfl, hp_⟩ := hp_
  refine J.weak [] rfl ?_
  exact k μ1 hp_
theorem bX5_begin_78 {Z : ZT} {X : XT} {μ : Mu} (E : Ent Z X mX5_begin 0 0) {P : Option Value → Mu → Prop} (hB : BodS Z X P) 
    (k : P none μ) :
    JS Z X 78 [] [] μ := by
  exact S_vret E hB dX5_begin_78 rfl k
theorem dX5_ofRiddle_0 : decode cX5_ofRiddle 0 = .ok (.aload_n 1, 1) := by decide +kernel
theorem dX5_ofRiddle_1 : decode cX5_ofRiddle 1 = .ok (.iconst 1, 1) := by decide +kernel
theorem dX5_ofRiddle_2 : decode cX5_ofRiddle 2 = .ok (.invokevirtual 51, 3) := by decide +kernel
theorem dX5_ofRiddle_5 : decode cX5_ofRiddle 5 = .ok (.aload_n 0, 1) := by decide +kernel
theorem dX5_ofRiddle_6 : decode cX5_ofRiddle 6 = .ok (.getfield 21, 3) := by decide +kernel
theorem dX5_ofRiddle_9 : decode cX5_ofRiddle 9 = .ok (.iconst 1, 1) := by decide +kernel
theorem dX5_ofRiddle_10 : decode cX5_ofRiddle 10 = .ok (.invokevirtual 51, 3) := by decide +kernel
theorem dX5_ofRiddle_13 : decode cX5_ofRiddle 13 = .ok (.iconst 1, 1) := by decide +kernel
theorem dX5_ofRiddle_14 : decode cX5_ofRiddle 14 = .ok (.istore_n 3, 1) := by decide +kernel
theorem dX5_ofRiddle_15 : decode cX5_ofRiddle 15 = .ok (.iload_n 3, 1) := by decide +kernel
theorem dX5_ofRiddle_16 : decode cX5_ofRiddle 16 = .ok (.aload_n 0, 1) := by decide +kernel
theorem dX5_ofRiddle_17 : decode cX5_ofRiddle 17 = .ok (.getfield 37, 3) := by decide +kernel
theorem dX5_ofRiddle_20 : decode cX5_ofRiddle 20 = .ok (.getfield 41, 3) := by decide +kernel
theorem dX5_ofRiddle_23 : decode cX5_ofRiddle 23 = .ok (.iconst 0, 1) := by decide +kernel
theorem dX5_ofRiddle_24 : decode cX5_ofRiddle 24 = .ok (.iaload, 1) := by decide +kernel
theorem dX5_ofRiddle_25 : decode cX5_ofRiddle 25 = .ok (.if_icmp .ge 32, 3) := by decide +kernel
theorem dX5_ofRiddle_28 : decode cX5_ofRiddle 28 = .ok (.aload_n 0, 1) := by decide +kernel
theorem dX5_ofRiddle_29 : decode cX5_ofRiddle 29 = .ok (.getfield 21, 3) := by decide +kernel
theorem dX5_ofRiddle_32 : decode cX5_ofRiddle 32 = .ok (.iload_n 2, 1) := by decide +kernel
theorem dX5_ofRiddle_33 : decode cX5_ofRiddle 33 = .ok (.invokevirtual 56, 3) := by decide +kernel
theorem dX5_ofRiddle_36 : decode cX5_ofRiddle 36 = .ok (.aload_n 1, 1) := by decide +kernel
theorem dX5_ofRiddle_37 : decode cX5_ofRiddle 37 = .ok (.ldc 55, 2) := by decide +kernel
theorem dX5_ofRiddle_39 : decode cX5_ofRiddle 39 = .ok (.invokevirtual 56, 3) := by decide +kernel
theorem dX5_ofRiddle_42 : decode cX5_ofRiddle 42 = .ok (.aload_n 1, 1) := by decide +kernel
theorem dX5_ofRiddle_43 : decode cX5_ofRiddle 43 = .ok (.aload_n 0, 1) := by decide +kernel
theorem dX5_ofRiddle_44 : decode cX5_ofRiddle 44 = .ok (.getfield 21, 3) := by decide +kernel
theorem dX5_ofRiddle_47 : decode cX5_ofRiddle 47 = .ok (.iconst 1, 1) := by decide +kernel
theorem dX5_ofRiddle_48 : decode cX5_ofRiddle 48 = .ok (.invokevirtual 59, 3) := by decide +kernel
theorem dX5_ofRiddle_51 : decode cX5_ofRiddle 51 = .ok (.iinc 3 1, 3) := by decide +kernel
theorem dX5_ofRiddle_54 : decode cX5_ofRiddle 54 = .ok (.goto (-39), 3) := by decide +kernel
theorem dX5_ofRiddle_57 : decode cX5_ofRiddle 57 = .ok (.return_, 1) := by decide +kernel
theorem bX5_ofRiddle_0 {Z : ZT} {X : XT} {μ : Mu} {a1 : Nat} {a2 : Int32} (E : Ent Z X mX5_ofRiddle 0 0) (ha1 : SH a1 = .inl 0) {p : Mu → Prop} 
    (c : CtrS Z mX0_set [.ref (Z.2.2.1 + a1), .int (nI 1)] μ (rV p)) (k : ∀ μ1, p μ1 → JS Z X 5 [(0, .ref (Z.2.2.1 + 92)), (1, .ref (Z.2.2.1 + a1)), (2, .int a2)] [] μ1) :
    JS Z X 0 [(0, .ref (Z.2.2.1 + 92)), (1, .ref (Z.2.2.1 + a1)), (2, .int a2)] [] μ := by
  refine J_aload_n E dX5_ofRiddle_0 rfl ?_
  refine J_iconst (v := nI 1) E dX5_ofRiddle_1 rfl ?_
  refine S_callV (As := [.int (nI 1)]) (rest := []) E dX5_ofRiddle_2 c kX0_set ⟨Nat.le_of_ble_eq_true rfl, Nat.le_of_ble_eq_true rfl⟩ rfl (Nat.le_of_ble_eq_true rfl) ha1 rfl rfl w4_159 w2_180 w2_181 (fun r_ μ1 hp_ => ?_)
  obtain ⟨rfl, hp_⟩ := hp_
  exact k μ1 hp_
theorem bX5_ofRiddle_5 {Z : ZT} {X : XT} {μ : Mu} {a1 : Nat} {a2 : Int32} (E : Ent Z X mX5_ofRiddle 0 0) (ha1 : SH a1 = .inl 0) {p : Mu → Prop} 
    (c : CtrS Z mX0_set [.ref (Z.2.2.1 + 97), .int (nI 1)] μ (rV p)) (k : ∀ μ1, p μ1 → JS Z X 13 [(0, .ref (Z.2.2.1 + 92)), (1, .ref (Z.2.2.1 + a1)), (2, .int a2)] [] μ1) :
    JS Z X 5 [(0, .ref (Z.2.2.1 + 92)), (1, .ref (Z.2.2.1 + a1)), (2, .int a2)] [] μ := by
  refine J_aload_n E dX5_ofRiddle_5 rfl ?_
  refine S_get (ci := 5) (q := 5) (v := .ref (Z.2.2.1 + 97)) E dX5_ofRiddle_6 fs_X5_21 sh92 rfl ?_
  refine J_iconst (v := nI 1) E dX5_ofRiddle_9 rfl ?_
  refine S_callV (As := [.int (nI 1)]) (rest := []) E dX5_ofRiddle_10 c kX0_set ⟨Nat.le_of_ble_eq_true rfl, Nat.le_of_ble_eq_true rfl⟩ rfl (Nat.le_of_ble_eq_true rfl) sh97 rfl rfl w4_159 w2_180 w2_181 (fun r_ μ1 hp_ => ?_)
  obtain ⟨rfl, hp_⟩ := hp_
  exact k μ1 hp_
theorem bX5_ofRiddle_13 {Z : ZT} {X : XT} {μ : Mu} {a1 : Nat} {a2 : Int32} (E : Ent Z X mX5_ofRiddle 0 0) (ha1 : SH a1 = .inl 0) 
    (k : JS Z X 15 [(0, .ref (Z.2.2.1 + 92)), (1, .ref (Z.2.2.1 + a1)), (2, .int a2), (3, .int (nI 1))] [] μ) :
    JS Z X 13 [(0, .ref (Z.2.2.1 + 92)), (1, .ref (Z.2.2.1 + a1)), (2, .int a2)] [] μ := by
  refine J_iconst (v := nI 1) E dX5_ofRiddle_13 rfl ?_
  refine J_istore_n (lv' := [(0, .ref (Z.2.2.1 + 92)), (1, .ref (Z.2.2.1 + a1)), (2, .int a2), (3, .int (nI 1))]) E dX5_ofRiddle_14 (Nat.le_of_ble_eq_true rfl) rfl ?_
  exact k
theorem bX5_ofRiddle_15 {Z : ZT} {X : XT} {μ : Mu} {a1 : Nat} {a2 : Int32} {a3 : Int32} (E : Ent Z X mX5_ofRiddle 0 0) (ha1 : SH a1 = .inl 0) (s1_ : vp_in (nI 0) 5)
    (kt : (μ (27 + 1) (ix (nI 0))) ≤ a3 → JS Z X 57 [] [] μ) (kf : ¬ ((μ (27 + 1) (ix (nI 0))) ≤ a3) → JS Z X 28 [(0, .ref (Z.2.2.1 + 92)), (1, .ref (Z.2.2.1 + a1)), (2, .int a2), (3, .int a3)] [] μ) :
    JS Z X 15 [(0, .ref (Z.2.2.1 + 92)), (1, .ref (Z.2.2.1 + a1)), (2, .int a2), (3, .int a3)] [] μ := by
  refine J_iload_n E dX5_ofRiddle_15 rfl ?_
  refine J_aload_n E dX5_ofRiddle_16 rfl ?_
  refine S_get (ci := 5) (q := 1) (v := .ref (Z.2.2.1 + 27)) E dX5_ofRiddle_17 fs_X5_37 sh92 rfl ?_
  refine S_get (ci := 6) (q := 0) (v := .ref (Z.2.2.1 + (27 + 1))) E dX5_ofRiddle_20 fs_X5_41 sh27 rfl ?_
  refine J_iconst (v := nI 0) E dX5_ofRiddle_23 rfl ?_
  refine S_iald E dX5_ofRiddle_24 (shr_X6_0 sh27) s1_ ?_
  refine J_icmp_ge (tgt := 57) E dX5_ofRiddle_25 (by decide) (fun c => ?_) (fun c => ?_)
  · refine J.weak [] rfl ?_
    exact kt c
  · exact kf c
theorem bX5_ofRiddle_28 {Z : ZT} {X : XT} {μ : Mu} {a1 : Nat} {a2 : Int32} {a3 : Int32} (E : Ent Z X mX5_ofRiddle 0 0) (ha1 : SH a1 = .inl 0) {p : Mu → Prop} 
    (c : CtrS Z mX0_times [.ref (Z.2.2.1 + 97), .int a2] μ (rV p)) (k : ∀ μ1, p μ1 → JS Z X 36 [(0, .ref (Z.2.2.1 + 92)), (1, .ref (Z.2.2.1 + a1)), (2, .int a2), (3, .int a3)] [] μ1) :
    JS Z X 28 [(0, .ref (Z.2.2.1 + 92)), (1, .ref (Z.2.2.1 + a1)), (2, .int a2), (3, .int a3)] [] μ := by
  refine J_aload_n E dX5_ofRiddle_28 rfl ?_
  refine S_get (ci := 5) (q := 5) (v := .ref (Z.2.2.1 + 97)) E dX5_ofRiddle_29 fs_X5_21 sh92 rfl ?_
  refine J_iload_n E dX5_ofRiddle_32 rfl ?_
  refine S_callV (As := [.int a2]) (rest := []) E dX5_ofRiddle_33 c kX0_times ⟨Nat.le_of_ble_eq_true rfl, Nat.le_of_ble_eq_true rfl⟩ rfl (Nat.le_of_ble_eq_true rfl) sh97 rfl rfl w4_161 w4_147 w4_148 (fun r_ μ1 hp_ => ?_)
  obtain ⟨rfl, hp_⟩ := hp_
  exact k μ1 hp_
theorem bX5_ofRiddle_36 {Z : ZT} {X : XT} {μ : Mu} {a1 : Nat} {a2 : Int32} {a3 : Int32} (E : Ent Z X mX5_ofRiddle 0 0) (ha1 : SH a1 = .inl 0) {p : Mu → Prop} 
    (c : CtrS Z mX0_times [.ref (Z.2.2.1 + a1), .int (nI 1000000)] μ (rV p)) (k : ∀ μ1, p μ1 → JS Z X 42 [(0, .ref (Z.2.2.1 + 92)), (1, .ref (Z.2.2.1 + a1)), (2, .int a2), (3, .int a3)] [] μ1) :
    JS Z X 36 [(0, .ref (Z.2.2.1 + 92)), (1, .ref (Z.2.2.1 + a1)), (2, .int a2), (3, .int a3)] [] μ := by
  refine J_aload_n E dX5_ofRiddle_36 rfl ?_
  refine J_ldc (v := nI 1000000) E dX5_ofRiddle_37 w4_160 ?_
  refine S_callV (As := [.int (nI 1000000)]) (rest := []) E dX5_ofRiddle_39 c kX0_times ⟨Nat.le_of_ble_eq_true rfl, Nat.le_of_ble_eq_true rfl⟩ rfl (Nat.le_of_ble_eq_true rfl) ha1 rfl rfl w4_161 w4_147 w4_148 (fun r_ μ1 hp_ => ?_)
  obtain ⟨rfl, hp_⟩ := hp_
  exact k μ1 hp_
theorem bX5_ofRiddle_42 {Z : ZT} {X : XT} {μ : Mu} {a1 : Nat} {a2 : Int32} {a3 : Int32} (E : Ent Z X mX5_ofRiddle 0 0) (ha1 : SH a1 = .inl 0) {p : Mu → Prop} 
    (c : CtrS Z mX0_addTimes [.ref (Z.2.2.1 + a1), .ref (Z.2.2.1 + 97), .int (nI 1)] μ (rV p)) (k : ∀ μ1, p μ1 → JS Z X 51 [(0, .ref (Z.2.2.1 + 92)), (1, .ref (Z.2.2.1 + a1)), (2, .int a2), (3, .int a3)] [] μ1) :
    JS Z X 42 [(0, .ref (Z.2.2.1 + 92)), (1, .ref (Z.2.2.1 + a1)), (2, .int a2), (3, .int a3)] [] μ := by
  refine J_aload_n E dX5_ofRiddle_42 rfl ?_
  refine J_aload_n E dX5_ofRiddle_43 rfl ?_
  refine S_get (ci := 5) (q := 5) (v := .ref (Z.2.2.1 + 97)) E dX5_ofRiddle_44 fs_X5_21 sh92 rfl ?_
  refine J_iconst (v := nI 1) E dX5_ofRiddle_47 rfl ?_
  refine S_callV (As := [.ref (Z.2.2.1 + 97), .int (nI 1)]) (rest := []) E dX5_ofRiddle_48 c kX0_addTimes ⟨Nat.le_of_ble_eq_true rfl, Nat.le_of_ble_eq_true rfl⟩ rfl (Nat.le_of_ble_eq_true rfl) ha1 rfl rfl w4_162 w4_163 w4_164 (fun r_ μ1 hp_ => ?_)
  obtain ⟨rfl, hp_⟩ := hp_
  exact k μ1 hp_
theorem bX5_ofRiddle_51 {Z : ZT} {X : XT} {μ : Mu} {a1 : Nat} {a2 : Int32} {a3 : Int32} (E : Ent Z X mX5_ofRiddle 0 0) (ha1 : SH a1 = .inl 0) 
    (k : JS Z X 15 [(0, .ref (Z.2.2.1 + 92)), (1, .ref (Z.2.2.1 + a1)), (2, .int a2), (3, .int (a3 + nI 1))] [] μ) :
    JS Z X 51 [(0, .ref (Z.2.2.1 + 92)), (1, .ref (Z.2.2.1 + a1)), (2, .int a2), (3, .int a3)] [] μ := by
  refine J_iinc (v := a3 + nI 1) (lv' := [(0, .ref (Z.2.2.1 + 92)), (1, .ref (Z.2.2.1 + a1)), (2, .int a2), (3, .int (a3 + nI 1))]) E dX5_ofRiddle_51 rfl rfl (Nat.le_of_ble_eq_true rfl) rfl ?_
  refine J_goto (tgt := 15) E dX5_ofRiddle_54 (by decide) ?_
  exact k
theorem bX5_ofRiddle_57 {Z : ZT} {X : XT} {μ : Mu} (E : Ent Z X mX5_ofRiddle 0 0) {P : Option Value → Mu → Prop} (hB : BodS Z X P) 
    (k : P none μ) :
    JS Z X 57 [] [] μ := by
  exact S_vret E hB dX5_ofRiddle_57 rfl k
theorem dX5_ofRiddles_0 : decode cX5_ofRiddles 0 = .ok (.aload_n 1, 1) := by decide +kernel
theorem dX5_ofRiddles_1 : decode cX5_ofRiddles 1 = .ok (.iconst 0, 1) := by decide +kernel
theorem dX5_ofRiddles_2 : decode cX5_ofRiddles 2 = .ok (.invokevirtual 51, 3) := by decide +kernel
theorem dX5_ofRiddles_5 : decode cX5_ofRiddles 5 = .ok (.iconst 0, 1) := by decide +kernel
theorem dX5_ofRiddles_6 : decode cX5_ofRiddles 6 = .ok (.istore_n 3, 1) := by decide +kernel
theorem dX5_ofRiddles_7 : decode cX5_ofRiddles 7 = .ok (.iload_n 3, 1) := by decide +kernel
theorem dX5_ofRiddles_8 : decode cX5_ofRiddles 8 = .ok (.aload_n 2, 1) := by decide +kernel
theorem dX5_ofRiddles_9 : decode cX5_ofRiddles 9 = .ok (.getfield 63, 3) := by decide +kernel
theorem dX5_ofRiddles_12 : decode cX5_ofRiddles 12 = .ok (.if_icmp .ge 32, 3) := by decide +kernel
theorem dX5_ofRiddles_15 : decode cX5_ofRiddles 15 = .ok (.aload_n 0, 1) := by decide +kernel
theorem dX5_ofRiddles_16 : decode cX5_ofRiddles 16 = .ok (.aload_n 0, 1) := by decide +kernel
theorem dX5_ofRiddles_17 : decode cX5_ofRiddles 17 = .ok (.getfield 24, 3) := by decide +kernel
theorem dX5_ofRiddles_20 : decode cX5_ofRiddles 20 = .ok (.aload_n 2, 1) := by decide +kernel
theorem dX5_ofRiddles_21 : decode cX5_ofRiddles 21 = .ok (.getfield 68, 3) := by decide +kernel
theorem dX5_ofRiddles_24 : decode cX5_ofRiddles 24 = .ok (.iload_n 3, 1) := by decide +kernel
theorem dX5_ofRiddles_25 : decode cX5_ofRiddles 25 = .ok (.iaload, 1) := by decide +kernel
theorem dX5_ofRiddles_26 : decode cX5_ofRiddles 26 = .ok (.invokevirtual 71, 3) := by decide +kernel
theorem dX5_ofRiddles_29 : decode cX5_ofRiddles 29 = .ok (.aload_n 1, 1) := by decide +kernel
theorem dX5_ofRiddles_30 : decode cX5_ofRiddles 30 = .ok (.aload_n 0, 1) := by decide +kernel
theorem dX5_ofRiddles_31 : decode cX5_ofRiddles 31 = .ok (.getfield 24, 3) := by decide +kernel
theorem dX5_ofRiddles_34 : decode cX5_ofRiddles 34 = .ok (.iconst 1, 1) := by decide +kernel
theorem dX5_ofRiddles_35 : decode cX5_ofRiddles 35 = .ok (.invokevirtual 59, 3) := by decide +kernel
theorem dX5_ofRiddles_38 : decode cX5_ofRiddles 38 = .ok (.iinc 3 1, 3) := by decide +kernel
theorem dX5_ofRiddles_41 : decode cX5_ofRiddles 41 = .ok (.goto (-34), 3) := by decide +kernel
theorem dX5_ofRiddles_44 : decode cX5_ofRiddles 44 = .ok (.return_, 1) := by decide +kernel
theorem bX5_ofRiddles_0 {Z : ZT} {X : XT} {μ : Mu} {a1 : Nat} {a2 : Nat} (E : Ent Z X mX5_ofRiddles 0 0) (ha1 : SH a1 = .inl 0) (ha2 : SH a2 = .inl 4) {p : Mu → Prop} 
    (c : CtrS Z mX0_set [.ref (Z.2.2.1 + a1), .int (nI 0)] μ (rV p)) (k : ∀ μ1, p μ1 → JS Z X 5 [(0, .ref (Z.2.2.1 + 92)), (1, .ref (Z.2.2.1 + a1)), (2, .ref (Z.2.2.1 + a2))] [] μ1) :
    JS Z X 0 [(0, .ref (Z.2.2.1 + 92)), (1, .ref (Z.2.2.1 + a1)), (2, .ref (Z.2.2.1 + a2))] [] μ := by
  refine J_aload_n E dX5_ofRiddles_0 rfl ?_
  refine J_iconst (v := nI 0) E dX5_ofRiddles_1 rfl ?_
  refine S_callV (As := [.int (nI 0)]) (rest := []) E dX5_ofRiddles_2 c kX0_set ⟨Nat.le_of_ble_eq_true rfl, Nat.le_of_ble_eq_true rfl⟩ rfl (Nat.le_of_ble_eq_true rfl) ha1 rfl rfl w4_159 w2_180 w2_181 (fun r_ μ1 hp_ => ?_)
  obtain ⟨rfl, hp_⟩ := hp_
  exact k μ1 hp_
theorem bX5_ofRiddles_5 {Z : ZT} {X : XT} {μ : Mu} {a1 : Nat} {a2 : Nat} (E : Ent Z X mX5_ofRiddles 0 0) (ha1 : SH a1 = .inl 0) (ha2 : SH a2 = .inl 4) 
    (k : JS Z X 7 [(0, .ref (Z.2.2.1 + 92)), (1, .ref (Z.2.2.1 + a1)), (2, .ref (Z.2.2.1 + a2)), (3, .int (nI 0))] [] μ) :
    JS Z X 5 [(0, .ref (Z.2.2.1 + 92)), (1, .ref (Z.2.2.1 + a1)), (2, .ref (Z.2.2.1 + a2))] [] μ := by
  refine J_iconst (v := nI 0) E dX5_ofRiddles_5 rfl ?_
  refine J_istore_n (lv' := [(0, .ref (Z.2.2.1 + 92)), (1, .ref (Z.2.2.1 + a1)), (2, .ref (Z.2.2.1 + a2)), (3, .int (nI 0))]) E dX5_ofRiddles_6 (Nat.le_of_ble_eq_true rfl) rfl ?_
  exact k
theorem bX5_ofRiddles_7 {Z : ZT} {X : XT} {μ : Mu} {a1 : Nat} {a2 : Nat} {a3 : Int32} (E : Ent Z X mX5_ofRiddles 0 0) (ha1 : SH a1 = .inl 0) (ha2 : SH a2 = .inl 4) 
    (kt : (μ a2 4) ≤ a3 → JS Z X 44 [] [] μ) (kf : ¬ ((μ a2 4) ≤ a3) → JS Z X 15 [(0, .ref (Z.2.2.1 + 92)), (1, .ref (Z.2.2.1 + a1)), (2, .ref (Z.2.2.1 + a2)), (3, .int a3)] [] μ) :
    JS Z X 7 [(0, .ref (Z.2.2.1 + 92)), (1, .ref (Z.2.2.1 + a1)), (2, .ref (Z.2.2.1 + a2)), (3, .int a3)] [] μ := by
  refine J_iload_n E dX5_ofRiddles_7 rfl ?_
  refine J_aload_n E dX5_ofRiddles_8 rfl ?_
  refine S_get (ci := 4) (q := 4) (v := .int (μ a2 4)) E dX5_ofRiddles_9 fs_X5_63 ha2 rfl ?_
  refine J_icmp_ge (tgt := 44) E dX5_ofRiddles_12 (by decide) (fun c => ?_) (fun c => ?_)
  · refine J.weak [] rfl ?_
    exact kt c
  · exact kf c
theorem bX5_ofRiddles_15 {Z : ZT} {X : XT} {μ : Mu} {a1 : Nat} {a2 : Nat} {a3 : Int32} (E : Ent Z X mX5_ofRiddles 0 0) (ha1 : SH a1 = .inl 0) (ha2 : SH a2 = .inl 4) {p : Mu → Prop} (s1_ : vp_in a3 6)
    (c : CtrS Z mX5_ofRiddle [.ref (Z.2.2.1 + 92), .ref (Z.2.2.1 + 99), .int (μ (a2 + 3) (ix a3))] μ (rV p)) (k : ∀ μ1, p μ1 → JS Z X 29 [(0, .ref (Z.2.2.1 + 92)), (1, .ref (Z.2.2.1 + a1)), (2, .ref (Z.2.2.1 + a2)), (3, .int a3)] [] μ1) :
    JS Z X 15 [(0, .ref (Z.2.2.1 + 92)), (1, .ref (Z.2.2.1 + a1)), (2, .ref (Z.2.2.1 + a2)), (3, .int a3)] [] μ := by
  refine J_aload_n E dX5_ofRiddles_15 rfl ?_
  refine J_aload_n E dX5_ofRiddles_16 rfl ?_
  refine S_get (ci := 5) (q := 6) (v := .ref (Z.2.2.1 + 99)) E dX5_ofRiddles_17 fs_X5_24 sh92 rfl ?_
  refine J_aload_n E dX5_ofRiddles_20 rfl ?_
  refine S_get (ci := 4) (q := 7) (v := .ref (Z.2.2.1 + (a2 + 3))) E dX5_ofRiddles_21 fs_X5_68 ha2 rfl ?_
  refine J_iload_n E dX5_ofRiddles_24 rfl ?_
  refine S_iald E dX5_ofRiddles_25 (shr_X4_7 ha2) s1_ ?_
  refine S_callV (As := [.ref (Z.2.2.1 + 99), .int (μ (a2 + 3) (ix a3))]) (rest := []) E dX5_ofRiddles_26 c kX5_ofRiddle ⟨Nat.le_of_ble_eq_true rfl, Nat.le_of_ble_eq_true rfl⟩ rfl (Nat.le_of_ble_eq_true rfl) sh92 rfl rfl w4_174 w4_175 w4_176 (fun r_ μ1 hp_ => ?_)
  obtain ⟨rfl, hp_⟩ := hp_
  exact k μ1 hp_
theorem bX5_ofRiddles_29 {Z : ZT} {X : XT} {μ : Mu} {a1 : Nat} {a2 : Nat} {a3 : Int32} (E : Ent Z X mX5_ofRiddles 0 0) (ha1 : SH a1 = .inl 0) (ha2 : SH a2 = .inl 4) {p : Mu → Prop} 
    (c : CtrS Z mX0_addTimes [.ref (Z.2.2.1 + a1), .ref (Z.2.2.1 + 99), .int (nI 1)] μ (rV p)) (k : ∀ μ1, p μ1 → JS Z X 38 [(0, .ref (Z.2.2.1 + 92)), (1, .ref (Z.2.2.1 + a1)), (2, .ref (Z.2.2.1 + a2)), (3, .int a3)] [] μ1) :
    JS Z X 29 [(0, .ref (Z.2.2.1 + 92)), (1, .ref (Z.2.2.1 + a1)), (2, .ref (Z.2.2.1 + a2)), (3, .int a3)] [] μ := by
  refine J_aload_n E dX5_ofRiddles_29 rfl ?_
  refine J_aload_n E dX5_ofRiddles_30 rfl ?_
  refine S_get (ci := 5) (q := 6) (v := .ref (Z.2.2.1 + 99)) E dX5_ofRiddles_31 fs_X5_24 sh92 rfl ?_
  refine J_iconst (v := nI 1) E dX5_ofRiddles_34 rfl ?_
  refine S_callV (As := [.ref (Z.2.2.1 + 99), .int (nI 1)]) (rest := []) E dX5_ofRiddles_35 c kX0_addTimes ⟨Nat.le_of_ble_eq_true rfl, Nat.le_of_ble_eq_true rfl⟩ rfl (Nat.le_of_ble_eq_true rfl) ha1 rfl rfl w4_162 w4_163 w4_164 (fun r_ μ1 hp_ => ?_)
  obtain ⟨rfl, hp_⟩ := hp_
  exact k μ1 hp_
theorem bX5_ofRiddles_38 {Z : ZT} {X : XT} {μ : Mu} {a1 : Nat} {a2 : Nat} {a3 : Int32} (E : Ent Z X mX5_ofRiddles 0 0) (ha1 : SH a1 = .inl 0) (ha2 : SH a2 = .inl 4) 
    (k : JS Z X 7 [(0, .ref (Z.2.2.1 + 92)), (1, .ref (Z.2.2.1 + a1)), (2, .ref (Z.2.2.1 + a2)), (3, .int (a3 + nI 1))] [] μ) :
    JS Z X 38 [(0, .ref (Z.2.2.1 + 92)), (1, .ref (Z.2.2.1 + a1)), (2, .ref (Z.2.2.1 + a2)), (3, .int a3)] [] μ := by
  refine J_iinc (v := a3 + nI 1) (lv' := [(0, .ref (Z.2.2.1 + 92)), (1, .ref (Z.2.2.1 + a1)), (2, .ref (Z.2.2.1 + a2)), (3, .int (a3 + nI 1))]) E dX5_ofRiddles_38 rfl rfl (Nat.le_of_ble_eq_true rfl) rfl ?_
  refine J_goto (tgt := 7) E dX5_ofRiddles_41 (by decide) ?_
  exact k
theorem bX5_ofRiddles_44 {Z : ZT} {X : XT} {μ : Mu} (E : Ent Z X mX5_ofRiddles 0 0) {P : Option Value → Mu → Prop} (hB : BodS Z X P) 
    (k : P none μ) :
    JS Z X 44 [] [] μ := by
  exact S_vret E hB dX5_ofRiddles_44 rfl k
theorem dX5_ofLength_0 : decode cX5_ofLength 0 = .ok (.aload_n 0, 1) := by decide +kernel
theorem dX5_ofLength_1 : decode cX5_ofLength 1 = .ok (.aload_n 1, 1) := by decide +kernel
theorem dX5_ofLength_2 : decode cX5_ofLength 2 = .ok (.aload_n 2, 1) := by decide +kernel
theorem dX5_ofLength_3 : decode cX5_ofLength 3 = .ok (.invokevirtual 74, 3) := by decide +kernel
theorem dX5_ofLength_6 : decode cX5_ofLength 6 = .ok (.aload_n 1, 1) := by decide +kernel
theorem dX5_ofLength_7 : decode cX5_ofLength 7 = .ok (.aload_n 0, 1) := by decide +kernel
theorem dX5_ofLength_8 : decode cX5_ofLength 8 = .ok (.getfield 12, 3) := by decide +kernel
theorem dX5_ofLength_11 : decode cX5_ofLength 11 = .ok (.aload_n 2, 1) := by decide +kernel
theorem dX5_ofLength_12 : decode cX5_ofLength 12 = .ok (.getfield 78, 3) := by decide +kernel
theorem dX5_ofLength_15 : decode cX5_ofLength 15 = .ok (.invokevirtual 59, 3) := by decide +kernel
theorem dX5_ofLength_18 : decode cX5_ofLength 18 = .ok (.return_, 1) := by decide +kernel
theorem bX5_ofLength_0 {Z : ZT} {X : XT} {μ : Mu} {a1 : Nat} {a2 : Nat} (E : Ent Z X mX5_ofLength 0 0) (ha1 : SH a1 = .inl 0) (ha2 : SH a2 = .inl 4) {p : Mu → Prop} 
    (c : CtrS Z mX5_ofRiddles [.ref (Z.2.2.1 + 92), .ref (Z.2.2.1 + a1), .ref (Z.2.2.1 + a2)] μ (rV p)) (k : ∀ μ1, p μ1 → JS Z X 6 [(0, .ref (Z.2.2.1 + 92)), (1, .ref (Z.2.2.1 + a1)), (2, .ref (Z.2.2.1 + a2))] [] μ1) :
    JS Z X 0 [(0, .ref (Z.2.2.1 + 92)), (1, .ref (Z.2.2.1 + a1)), (2, .ref (Z.2.2.1 + a2))] [] μ := by
  refine J_aload_n E dX5_ofLength_0 rfl ?_
  refine J_aload_n E dX5_ofLength_1 rfl ?_
  refine J_aload_n E dX5_ofLength_2 rfl ?_
  refine S_callV (As := [.ref (Z.2.2.1 + a1), .ref (Z.2.2.1 + a2)]) (rest := []) E dX5_ofLength_3 c kX5_ofRiddles ⟨Nat.le_of_ble_eq_true rfl, Nat.le_of_ble_eq_true rfl⟩ rfl (Nat.le_of_ble_eq_true rfl) sh92 rfl rfl w4_170 w4_171 w4_172 (fun r_ μ1 hp_ => ?_)
  obtain ⟨rfl, hp_⟩ := hp_
  exact k μ1 hp_
theorem bX5_ofLength_6 {Z : ZT} {X : XT} {μ : Mu} {a1 : Nat} {a2 : Nat} (E : Ent Z X mX5_ofLength 0 0) (ha1 : SH a1 = .inl 0) (ha2 : SH a2 = .inl 4) {p : Mu → Prop} 
    (c : CtrS Z mX0_addTimes [.ref (Z.2.2.1 + a1), .ref (Z.2.2.1 + 93), .int (μ a2 11)] μ (rV p)) (k : ∀ μ1, p μ1 → JS Z X 18 [] [] μ1) :
    JS Z X 6 [(0, .ref (Z.2.2.1 + 92)), (1, .ref (Z.2.2.1 + a1)), (2, .ref (Z.2.2.1 + a2))] [] μ := by
  refine J_aload_n E dX5_ofLength_6 rfl ?_
  refine J_aload_n E dX5_ofLength_7 rfl ?_
  refine S_get (ci := 5) (q := 3) (v := .ref (Z.2.2.1 + 93)) E dX5_ofLength_8 fs_X5_12 sh92 rfl ?_
  refine J_aload_n E dX5_ofLength_11 rfl ?_
  refine S_get (ci := 4) (q := 11) (v := .int (μ a2 11)) E dX5_ofLength_12 fs_X5_78 ha2 rfl ?_
  refine S_callV (As := [.ref (Z.2.2.1 + 93), .int (μ a2 11)]) (rest := []) E dX5_ofLength_15 c kX0_addTimes ⟨Nat.le_of_ble_eq_true rfl, Nat.le_of_ble_eq_true rfl⟩ rfl (Nat.le_of_ble_eq_true rfl) ha1 rfl rfl w4_162 w4_163 w4_164 (fun r_ μ1 hp_ => ?_)
  obtain ⟨rfl, hp_⟩ := hp_
  refine J.weak [] rfl ?_
  exact k μ1 hp_
theorem bX5_ofLength_18 {Z : ZT} {X : XT} {μ : Mu} (E : Ent Z X mX5_ofLength 0 0) {P : Option Value → Mu → Prop} (hB : BodS Z X P) 
    (k : P none μ) :
    JS Z X 18 [] [] μ := by
  exact S_vret E hB dX5_ofLength_18 rfl k
theorem dX5_ofGuessed_0 : decode cX5_ofGuessed 0 = .ok (.aload_n 1, 1) := by decide +kernel
theorem dX5_ofGuessed_1 : decode cX5_ofGuessed 1 = .ok (.iconst 0, 1) := by decide +kernel
theorem dX5_ofGuessed_2 : decode cX5_ofGuessed 2 = .ok (.invokevirtual 51, 3) := by decide +kernel
theorem dX5_ofGuessed_5 : decode cX5_ofGuessed 5 = .ok (.iload_n 3, 1) := by decide +kernel
theorem dX5_ofGuessed_6 : decode cX5_ofGuessed 6 = .ok (.bipush 6, 2) := by decide +kernel
theorem dX5_ofGuessed_8 : decode cX5_ofGuessed 8 = .ok (.invokestatic 81, 3) := by decide +kernel
theorem dX5_ofGuessed_11 : decode cX5_ofGuessed 11 = .ok (.ifCond .ne 4, 3) := by decide +kernel
theorem dX5_ofGuessed_14 : decode cX5_ofGuessed 14 = .ok (.return_, 1) := by decide +kernel
theorem dX5_ofGuessed_15 : decode cX5_ofGuessed 15 = .ok (.iconst 0, 1) := by decide +kernel
theorem dX5_ofGuessed_16 : decode cX5_ofGuessed 16 = .ok (.istore 4, 2) := by decide +kernel
theorem dX5_ofGuessed_18 : decode cX5_ofGuessed 18 = .ok (.iload 4, 2) := by decide +kernel
theorem dX5_ofGuessed_20 : decode cX5_ofGuessed 20 = .ok (.aload_n 2, 1) := by decide +kernel
theorem dX5_ofGuessed_21 : decode cX5_ofGuessed 21 = .ok (.getfield 63, 3) := by decide +kernel
theorem dX5_ofGuessed_24 : decode cX5_ofGuessed 24 = .ok (.if_icmp .ge 52, 3) := by decide +kernel
theorem dX5_ofGuessed_27 : decode cX5_ofGuessed 27 = .ok (.aload_n 0, 1) := by decide +kernel
theorem dX5_ofGuessed_28 : decode cX5_ofGuessed 28 = .ok (.aload_n 0, 1) := by decide +kernel
theorem dX5_ofGuessed_29 : decode cX5_ofGuessed 29 = .ok (.getfield 24, 3) := by decide +kernel
theorem dX5_ofGuessed_32 : decode cX5_ofGuessed 32 = .ok (.aload_n 2, 1) := by decide +kernel
theorem dX5_ofGuessed_33 : decode cX5_ofGuessed 33 = .ok (.iload 4, 2) := by decide +kernel
theorem dX5_ofGuessed_35 : decode cX5_ofGuessed 35 = .ok (.aload_n 0, 1) := by decide +kernel
theorem dX5_ofGuessed_36 : decode cX5_ofGuessed 36 = .ok (.getfield 33, 3) := by decide +kernel
theorem dX5_ofGuessed_39 : decode cX5_ofGuessed 39 = .ok (.getfield 85, 3) := by decide +kernel
theorem dX5_ofGuessed_42 : decode cX5_ofGuessed 42 = .ok (.aload_n 2, 1) := by decide +kernel
theorem dX5_ofGuessed_43 : decode cX5_ofGuessed 43 = .ok (.getfield 90, 3) := by decide +kernel
theorem dX5_ofGuessed_46 : decode cX5_ofGuessed 46 = .ok (.iload 4, 2) := by decide +kernel
theorem dX5_ofGuessed_48 : decode cX5_ofGuessed 48 = .ok (.iaload, 1) := by decide +kernel
theorem dX5_ofGuessed_49 : decode cX5_ofGuessed 49 = .ok (.iaload, 1) := by decide +kernel
theorem dX5_ofGuessed_50 : decode cX5_ofGuessed 50 = .ok (.invokevirtual 93, 3) := by decide +kernel
theorem dX5_ofGuessed_53 : decode cX5_ofGuessed 53 = .ok (.invokevirtual 71, 3) := by decide +kernel
theorem dX5_ofGuessed_56 : decode cX5_ofGuessed 56 = .ok (.aload_n 1, 1) := by decide +kernel
theorem dX5_ofGuessed_57 : decode cX5_ofGuessed 57 = .ok (.aload_n 0, 1) := by decide +kernel
theorem dX5_ofGuessed_58 : decode cX5_ofGuessed 58 = .ok (.getfield 24, 3) := by decide +kernel
theorem dX5_ofGuessed_61 : decode cX5_ofGuessed 61 = .ok (.aload_n 2, 1) := by decide +kernel
theorem dX5_ofGuessed_62 : decode cX5_ofGuessed 62 = .ok (.getfield 97, 3) := by decide +kernel
theorem dX5_ofGuessed_65 : decode cX5_ofGuessed 65 = .ok (.iload_n 3, 1) := by decide +kernel
theorem dX5_ofGuessed_66 : decode cX5_ofGuessed 66 = .ok (.iaload, 1) := by decide +kernel
theorem dX5_ofGuessed_67 : decode cX5_ofGuessed 67 = .ok (.invokevirtual 59, 3) := by decide +kernel
theorem dX5_ofGuessed_70 : decode cX5_ofGuessed 70 = .ok (.iinc 4 1, 3) := by decide +kernel
theorem dX5_ofGuessed_73 : decode cX5_ofGuessed 73 = .ok (.goto (-55), 3) := by decide +kernel
theorem dX5_ofGuessed_76 : decode cX5_ofGuessed 76 = .ok (.return_, 1) := by decide +kernel
theorem bX5_ofGuessed_0 {Z : ZT} {X : XT} {μ : Mu} {a1 : Nat} {a2 : Nat} {a3 : Int32} (E : Ent Z X mX5_ofGuessed 0 0) (ha1 : SH a1 = .inl 0) (ha2 : SH a2 = .inl 4) {p : Mu → Prop} 
    (c : CtrS Z mX0_set [.ref (Z.2.2.1 + a1), .int (nI 0)] μ (rV p)) (k : ∀ μ1, p μ1 → JS Z X 5 [(0, .ref (Z.2.2.1 + 92)), (1, .ref (Z.2.2.1 + a1)), (2, .ref (Z.2.2.1 + a2)), (3, .int a3)] [] μ1) :
    JS Z X 0 [(0, .ref (Z.2.2.1 + 92)), (1, .ref (Z.2.2.1 + a1)), (2, .ref (Z.2.2.1 + a2)), (3, .int a3)] [] μ := by
  refine J_aload_n E dX5_ofGuessed_0 rfl ?_
  refine J_iconst (v := nI 0) E dX5_ofGuessed_1 rfl ?_
  refine S_callV (As := [.int (nI 0)]) (rest := []) E dX5_ofGuessed_2 c kX0_set ⟨Nat.le_of_ble_eq_true rfl, Nat.le_of_ble_eq_true rfl⟩ rfl (Nat.le_of_ble_eq_true rfl) ha1 rfl rfl w4_159 w2_180 w2_181 (fun r_ μ1 hp_ => ?_)
  obtain ⟨rfl, hp_⟩ := hp_
  exact k μ1 hp_
theorem bX5_ofGuessed_5 {Z : ZT} {X : XT} {μ : Mu} {a1 : Nat} {a2 : Nat} {a3 : Int32} (E : Ent Z X mX5_ofGuessed 0 0) (ha1 : SH a1 = .inl 0) (ha2 : SH a2 = .inl 4) {p : Int32 → Mu → Prop} 
    (c : CtrS Z mX11_within [.int a3, .int (nI 6)] μ (rI p)) (k : ∀ v μ1, p v μ1 → JS Z X 11 [(0, .ref (Z.2.2.1 + 92)), (1, .ref (Z.2.2.1 + a1)), (2, .ref (Z.2.2.1 + a2)), (3, .int a3)] [.int v] μ1) :
    JS Z X 5 [(0, .ref (Z.2.2.1 + 92)), (1, .ref (Z.2.2.1 + a1)), (2, .ref (Z.2.2.1 + a2)), (3, .int a3)] [] μ := by
  refine J_iload_n E dX5_ofGuessed_5 rfl ?_
  refine J_bipush (v := nI 6) E dX5_ofGuessed_6 rfl ?_
  refine S_callSN (As := [.int a3, .int (nI 6)]) (rest := []) E dX5_ofGuessed_8 c kX11_within ⟨Nat.le_of_ble_eq_true rfl, Nat.le_of_ble_eq_true rfl⟩ rfl (Nat.le_of_ble_eq_true rfl) w4_217 w3_46 (fun r_ μ1 hp_ => ?_)
  obtain ⟨v, rfl, hp_⟩ := hp_
  exact k v μ1 hp_
theorem bX5_ofGuessed_11 {Z : ZT} {X : XT} {μ : Mu} {a1 : Nat} {a2 : Nat} {a3 : Int32} {s0 : Int32} (E : Ent Z X mX5_ofGuessed 0 0) (ha1 : SH a1 = .inl 0) (ha2 : SH a2 = .inl 4) 
    (kt : ¬ s0 = 0 → JS Z X 15 [(0, .ref (Z.2.2.1 + 92)), (1, .ref (Z.2.2.1 + a1)), (2, .ref (Z.2.2.1 + a2)), (3, .int a3)] [] μ) (kf : s0 = 0 → JS Z X 14 [] [] μ) :
    JS Z X 11 [(0, .ref (Z.2.2.1 + 92)), (1, .ref (Z.2.2.1 + a1)), (2, .ref (Z.2.2.1 + a2)), (3, .int a3)] [.int s0] μ := by
  refine J_if_ne (tgt := 15) E dX5_ofGuessed_11 (by decide) (fun c => ?_) (fun c => ?_)
  · exact kt c
  · refine J.weak [] rfl ?_
    exact kf c
theorem bX5_ofGuessed_14 {Z : ZT} {X : XT} {μ : Mu} (E : Ent Z X mX5_ofGuessed 0 0) {P : Option Value → Mu → Prop} (hB : BodS Z X P) 
    (k : P none μ) :
    JS Z X 14 [] [] μ := by
  exact S_vret E hB dX5_ofGuessed_14 rfl k
theorem bX5_ofGuessed_15 {Z : ZT} {X : XT} {μ : Mu} {a1 : Nat} {a2 : Nat} {a3 : Int32} (E : Ent Z X mX5_ofGuessed 0 0) (ha1 : SH a1 = .inl 0) (ha2 : SH a2 = .inl 4) 
    (k : JS Z X 18 [(0, .ref (Z.2.2.1 + 92)), (1, .ref (Z.2.2.1 + a1)), (2, .ref (Z.2.2.1 + a2)), (3, .int a3), (4, .int (nI 0))] [] μ) :
    JS Z X 15 [(0, .ref (Z.2.2.1 + 92)), (1, .ref (Z.2.2.1 + a1)), (2, .ref (Z.2.2.1 + a2)), (3, .int a3)] [] μ := by
  refine J_iconst (v := nI 0) E dX5_ofGuessed_15 rfl ?_
  refine J_istore (lv' := [(0, .ref (Z.2.2.1 + 92)), (1, .ref (Z.2.2.1 + a1)), (2, .ref (Z.2.2.1 + a2)), (3, .int a3), (4, .int (nI 0))]) E dX5_ofGuessed_16 (Nat.le_of_ble_eq_true rfl) rfl ?_
  exact k
theorem bX5_ofGuessed_18 {Z : ZT} {X : XT} {μ : Mu} {a1 : Nat} {a2 : Nat} {a3 : Int32} {a4 : Int32} (E : Ent Z X mX5_ofGuessed 0 0) (ha1 : SH a1 = .inl 0) (ha2 : SH a2 = .inl 4) 
    (kt : (μ a2 4) ≤ a4 → JS Z X 76 [] [] μ) (kf : ¬ ((μ a2 4) ≤ a4) → JS Z X 27 [(0, .ref (Z.2.2.1 + 92)), (1, .ref (Z.2.2.1 + a1)), (2, .ref (Z.2.2.1 + a2)), (3, .int a3), (4, .int a4)] [] μ) :
    JS Z X 18 [(0, .ref (Z.2.2.1 + 92)), (1, .ref (Z.2.2.1 + a1)), (2, .ref (Z.2.2.1 + a2)), (3, .int a3), (4, .int a4)] [] μ := by
  refine J_iload E dX5_ofGuessed_18 rfl ?_
  refine J_aload_n E dX5_ofGuessed_20 rfl ?_
  refine S_get (ci := 4) (q := 4) (v := .int (μ a2 4)) E dX5_ofGuessed_21 fs_X5_63 ha2 rfl ?_
  refine J_icmp_ge (tgt := 76) E dX5_ofGuessed_24 (by decide) (fun c => ?_) (fun c => ?_)
  · refine J.weak [] rfl ?_
    exact kt c
  · exact kf c
theorem bX5_ofGuessed_27 {Z : ZT} {X : XT} {μ : Mu} {a1 : Nat} {a2 : Nat} {a3 : Int32} {a4 : Int32} (E : Ent Z X mX5_ofGuessed 0 0) (ha1 : SH a1 = .inl 0) (ha2 : SH a2 = .inl 4) {p : Int32 → Mu → Prop} (s1_ : vp_in a4 6) (s2_ : vp_in (μ (a2 + 1) (ix a4)) 8)
    (c : CtrS Z mX4_weigh [.ref (Z.2.2.1 + a2), .int a4, .int (μ (1 + 8) (ix (μ (a2 + 1) (ix a4))))] μ (rI p)) (k : ∀ v μ1, p v μ1 → JS Z X 53 [(0, .ref (Z.2.2.1 + 92)), (1, .ref (Z.2.2.1 + a1)), (2, .ref (Z.2.2.1 + a2)), (3, .int a3), (4, .int a4)] [.int v, .ref (Z.2.2.1 + 99), .ref (Z.2.2.1 + 92)] μ1) :
    JS Z X 27 [(0, .ref (Z.2.2.1 + 92)), (1, .ref (Z.2.2.1 + a1)), (2, .ref (Z.2.2.1 + a2)), (3, .int a3), (4, .int a4)] [] μ := by
  refine J_aload_n E dX5_ofGuessed_27 rfl ?_
  refine J_aload_n E dX5_ofGuessed_28 rfl ?_
  refine S_get (ci := 5) (q := 6) (v := .ref (Z.2.2.1 + 99)) E dX5_ofGuessed_29 fs_X5_24 sh92 rfl ?_
  refine J_aload_n E dX5_ofGuessed_32 rfl ?_
  refine J_iload E dX5_ofGuessed_33 rfl ?_
  refine J_aload_n E dX5_ofGuessed_35 rfl ?_
  refine S_get (ci := 5) (q := 0) (v := .ref (Z.2.2.1 + 1)) E dX5_ofGuessed_36 fs_X5_33 sh92 rfl ?_
  refine S_get (ci := 3) (q := 10) (v := .ref (Z.2.2.1 + (1 + 8))) E dX5_ofGuessed_39 fs_X5_85 sh1 rfl ?_
  refine J_aload_n E dX5_ofGuessed_42 rfl ?_
  refine S_get (ci := 4) (q := 5) (v := .ref (Z.2.2.1 + (a2 + 1))) E dX5_ofGuessed_43 fs_X5_90 ha2 rfl ?_
  refine J_iload E dX5_ofGuessed_46 rfl ?_
  refine S_iald E dX5_ofGuessed_48 (shr_X4_5 ha2) s1_ ?_
  refine S_iald E dX5_ofGuessed_49 (shr_X3_10 sh1) s2_ ?_
  refine S_callV (As := [.int a4, .int (μ (1 + 8) (ix (μ (a2 + 1) (ix a4))))]) (rest := [.ref (Z.2.2.1 + 99), .ref (Z.2.2.1 + 92)]) E dX5_ofGuessed_50 c kX4_weigh ⟨Nat.le_of_ble_eq_true rfl, Nat.le_of_ble_eq_true rfl⟩ rfl (Nat.le_of_ble_eq_true rfl) ha2 rfl rfl w4_218 w4_91 w4_92 (fun r_ μ1 hp_ => ?_)
  obtain ⟨v, rfl, hp_⟩ := hp_
  exact k v μ1 hp_
theorem bX5_ofGuessed_53 {Z : ZT} {X : XT} {μ : Mu} {a1 : Nat} {a2 : Nat} {a3 : Int32} {a4 : Int32} {s1 : Nat} {s2 : Int32} (E : Ent Z X mX5_ofGuessed 0 0) (ha1 : SH a1 = .inl 0) (ha2 : SH a2 = .inl 4) (hs1 : SH s1 = .inl 0) {p : Mu → Prop} 
    (c : CtrS Z mX5_ofRiddle [.ref (Z.2.2.1 + 92), .ref (Z.2.2.1 + s1), .int s2] μ (rV p)) (k : ∀ μ1, p μ1 → JS Z X 56 [(0, .ref (Z.2.2.1 + 92)), (1, .ref (Z.2.2.1 + a1)), (2, .ref (Z.2.2.1 + a2)), (3, .int a3), (4, .int a4)] [] μ1) :
    JS Z X 53 [(0, .ref (Z.2.2.1 + 92)), (1, .ref (Z.2.2.1 + a1)), (2, .ref (Z.2.2.1 + a2)), (3, .int a3), (4, .int a4)] [.int s2, .ref (Z.2.2.1 + s1), .ref (Z.2.2.1 + 92)] μ := by
  refine S_callV (As := [.ref (Z.2.2.1 + s1), .int s2]) (rest := []) E dX5_ofGuessed_53 c kX5_ofRiddle ⟨Nat.le_of_ble_eq_true rfl, Nat.le_of_ble_eq_true rfl⟩ rfl (Nat.le_of_ble_eq_true rfl) sh92 rfl rfl w4_174 w4_175 w4_176 (fun r_ μ1 hp_ => ?_)
  obtain ⟨rfl, hp_⟩ := hp_
  exact k μ1 hp_
theorem bX5_ofGuessed_56 {Z : ZT} {X : XT} {μ : Mu} {a1 : Nat} {a2 : Nat} {a3 : Int32} {a4 : Int32} (E : Ent Z X mX5_ofGuessed 0 0) (ha1 : SH a1 = .inl 0) (ha2 : SH a2 = .inl 4) {p : Mu → Prop} (s1_ : vp_in a3 6)
    (c : CtrS Z mX0_addTimes [.ref (Z.2.2.1 + a1), .ref (Z.2.2.1 + 99), .int (μ (a2 + 4) (ix a3))] μ (rV p)) (k : ∀ μ1, p μ1 → JS Z X 70 [(0, .ref (Z.2.2.1 + 92)), (1, .ref (Z.2.2.1 + a1)), (2, .ref (Z.2.2.1 + a2)), (3, .int a3), (4, .int a4)] [] μ1) :
    JS Z X 56 [(0, .ref (Z.2.2.1 + 92)), (1, .ref (Z.2.2.1 + a1)), (2, .ref (Z.2.2.1 + a2)), (3, .int a3), (4, .int a4)] [] μ := by
  refine J_aload_n E dX5_ofGuessed_56 rfl ?_
  refine J_aload_n E dX5_ofGuessed_57 rfl ?_
  refine S_get (ci := 5) (q := 6) (v := .ref (Z.2.2.1 + 99)) E dX5_ofGuessed_58 fs_X5_24 sh92 rfl ?_
  refine J_aload_n E dX5_ofGuessed_61 rfl ?_
  refine S_get (ci := 4) (q := 8) (v := .ref (Z.2.2.1 + (a2 + 4))) E dX5_ofGuessed_62 fs_X5_97 ha2 rfl ?_
  refine J_iload_n E dX5_ofGuessed_65 rfl ?_
  refine S_iald E dX5_ofGuessed_66 (shr_X4_8 ha2) s1_ ?_
  refine S_callV (As := [.ref (Z.2.2.1 + 99), .int (μ (a2 + 4) (ix a3))]) (rest := []) E dX5_ofGuessed_67 c kX0_addTimes ⟨Nat.le_of_ble_eq_true rfl, Nat.le_of_ble_eq_true rfl⟩ rfl (Nat.le_of_ble_eq_true rfl) ha1 rfl rfl w4_162 w4_163 w4_164 (fun r_ μ1 hp_ => ?_)
  obtain ⟨rfl, hp_⟩ := hp_
  exact k μ1 hp_
theorem bX5_ofGuessed_70 {Z : ZT} {X : XT} {μ : Mu} {a1 : Nat} {a2 : Nat} {a3 : Int32} {a4 : Int32} (E : Ent Z X mX5_ofGuessed 0 0) (ha1 : SH a1 = .inl 0) (ha2 : SH a2 = .inl 4) 
    (k : JS Z X 18 [(0, .ref (Z.2.2.1 + 92)), (1, .ref (Z.2.2.1 + a1)), (2, .ref (Z.2.2.1 + a2)), (3, .int a3), (4, .int (a4 + nI 1))] [] μ) :
    JS Z X 70 [(0, .ref (Z.2.2.1 + 92)), (1, .ref (Z.2.2.1 + a1)), (2, .ref (Z.2.2.1 + a2)), (3, .int a3), (4, .int a4)] [] μ := by
  refine J_iinc (v := a4 + nI 1) (lv' := [(0, .ref (Z.2.2.1 + 92)), (1, .ref (Z.2.2.1 + a1)), (2, .ref (Z.2.2.1 + a2)), (3, .int a3), (4, .int (a4 + nI 1))]) E dX5_ofGuessed_70 rfl rfl (Nat.le_of_ble_eq_true rfl) rfl ?_
  refine J_goto (tgt := 18) E dX5_ofGuessed_73 (by decide) ?_
  exact k
theorem bX5_ofGuessed_76 {Z : ZT} {X : XT} {μ : Mu} (E : Ent Z X mX5_ofGuessed 0 0) {P : Option Value → Mu → Prop} (hB : BodS Z X P) 
    (k : P none μ) :
    JS Z X 76 [] [] μ := by
  exact S_vret E hB dX5_ofGuessed_76 rfl k
theorem dX5_ofUnfairness_0 : decode cX5_ofUnfairness 0 = .ok (.iconst 0, 1) := by decide +kernel
theorem dX5_ofUnfairness_1 : decode cX5_ofUnfairness 1 = .ok (.istore_n 3, 1) := by decide +kernel
theorem dX5_ofUnfairness_2 : decode cX5_ofUnfairness 2 = .ok (.aload_n 0, 1) := by decide +kernel
theorem dX5_ofUnfairness_3 : decode cX5_ofUnfairness 3 = .ok (.getfield 30, 3) := by decide +kernel
theorem dX5_ofUnfairness_6 : decode cX5_ofUnfairness 6 = .ok (.iconst 0, 1) := by decide +kernel
theorem dX5_ofUnfairness_7 : decode cX5_ofUnfairness 7 = .ok (.invokevirtual 51, 3) := by decide +kernel
theorem dX5_ofUnfairness_10 : decode cX5_ofUnfairness 10 = .ok (.aload_n 1, 1) := by decide +kernel
theorem dX5_ofUnfairness_11 : decode cX5_ofUnfairness 11 = .ok (.iconst 0, 1) := by decide +kernel
theorem dX5_ofUnfairness_12 : decode cX5_ofUnfairness 12 = .ok (.invokevirtual 51, 3) := by decide +kernel
theorem dX5_ofUnfairness_15 : decode cX5_ofUnfairness 15 = .ok (.iconst 0, 1) := by decide +kernel
theorem dX5_ofUnfairness_16 : decode cX5_ofUnfairness 16 = .ok (.istore 4, 2) := by decide +kernel
theorem dX5_ofUnfairness_18 : decode cX5_ofUnfairness 18 = .ok (.iload 4, 2) := by decide +kernel
theorem dX5_ofUnfairness_20 : decode cX5_ofUnfairness 20 = .ok (.aload_n 0, 1) := by decide +kernel
theorem dX5_ofUnfairness_21 : decode cX5_ofUnfairness 21 = .ok (.getfield 33, 3) := by decide +kernel
theorem dX5_ofUnfairness_24 : decode cX5_ofUnfairness 24 = .ok (.getfield 100, 3) := by decide +kernel
theorem dX5_ofUnfairness_27 : decode cX5_ofUnfairness 27 = .ok (.if_icmp .ge 91, 3) := by decide +kernel
theorem dX5_ofUnfairness_30 : decode cX5_ofUnfairness 30 = .ok (.aload_n 0, 1) := by decide +kernel
theorem dX5_ofUnfairness_31 : decode cX5_ofUnfairness 31 = .ok (.getfield 33, 3) := by decide +kernel
theorem dX5_ofUnfairness_34 : decode cX5_ofUnfairness 34 = .ok (.getfield 103, 3) := by decide +kernel
theorem dX5_ofUnfairness_37 : decode cX5_ofUnfairness 37 = .ok (.iload 4, 2) := by decide +kernel
theorem dX5_ofUnfairness_39 : decode cX5_ofUnfairness 39 = .ok (.iaload, 1) := by decide +kernel
theorem dX5_ofUnfairness_40 : decode cX5_ofUnfairness 40 = .ok (.aload_n 2, 1) := by decide +kernel
theorem dX5_ofUnfairness_41 : decode cX5_ofUnfairness 41 = .ok (.getfield 106, 3) := by decide +kernel
theorem dX5_ofUnfairness_44 : decode cX5_ofUnfairness 44 = .ok (.if_icmp .ne 68, 3) := by decide +kernel
theorem dX5_ofUnfairness_47 : decode cX5_ofUnfairness 47 = .ok (.aload_n 0, 1) := by decide +kernel
theorem dX5_ofUnfairness_48 : decode cX5_ofUnfairness 48 = .ok (.aload_n 0, 1) := by decide +kernel
theorem dX5_ofUnfairness_49 : decode cX5_ofUnfairness 49 = .ok (.getfield 27, 3) := by decide +kernel
theorem dX5_ofUnfairness_52 : decode cX5_ofUnfairness 52 = .ok (.aload_n 2, 1) := by decide +kernel
theorem dX5_ofUnfairness_53 : decode cX5_ofUnfairness 53 = .ok (.iload 4, 2) := by decide +kernel
theorem dX5_ofUnfairness_55 : decode cX5_ofUnfairness 55 = .ok (.invokevirtual 108, 3) := by decide +kernel
theorem dX5_ofUnfairness_58 : decode cX5_ofUnfairness 58 = .ok (.iload_n 3, 1) := by decide +kernel
theorem dX5_ofUnfairness_59 : decode cX5_ofUnfairness 59 = .ok (.ifCond .eq 17, 3) := by decide +kernel
theorem dX5_ofUnfairness_62 : decode cX5_ofUnfairness 62 = .ok (.aload_n 0, 1) := by decide +kernel
theorem dX5_ofUnfairness_63 : decode cX5_ofUnfairness 63 = .ok (.getfield 27, 3) := by decide +kernel
theorem dX5_ofUnfairness_66 : decode cX5_ofUnfairness 66 = .ok (.aload_n 0, 1) := by decide +kernel
theorem dX5_ofUnfairness_67 : decode cX5_ofUnfairness 67 = .ok (.getfield 30, 3) := by decide +kernel
theorem dX5_ofUnfairness_70 : decode cX5_ofUnfairness 70 = .ok (.invokevirtual 112, 3) := by decide +kernel
theorem dX5_ofUnfairness_73 : decode cX5_ofUnfairness 73 = .ok (.ifCond .le 14, 3) := by decide +kernel
theorem dX5_ofUnfairness_76 : decode cX5_ofUnfairness 76 = .ok (.aload_n 0, 1) := by decide +kernel
theorem dX5_ofUnfairness_77 : decode cX5_ofUnfairness 77 = .ok (.getfield 30, 3) := by decide +kernel
theorem dX5_ofUnfairness_80 : decode cX5_ofUnfairness 80 = .ok (.aload_n 0, 1) := by decide +kernel
theorem dX5_ofUnfairness_81 : decode cX5_ofUnfairness 81 = .ok (.getfield 27, 3) := by decide +kernel
theorem dX5_ofUnfairness_84 : decode cX5_ofUnfairness 84 = .ok (.invokevirtual 116, 3) := by decide +kernel
theorem dX5_ofUnfairness_87 : decode cX5_ofUnfairness 87 = .ok (.iload_n 3, 1) := by decide +kernel
theorem dX5_ofUnfairness_88 : decode cX5_ofUnfairness 88 = .ok (.ifCond .eq 14, 3) := by decide +kernel
theorem dX5_ofUnfairness_91 : decode cX5_ofUnfairness 91 = .ok (.aload_n 0, 1) := by decide +kernel
theorem dX5_ofUnfairness_92 : decode cX5_ofUnfairness 92 = .ok (.getfield 27, 3) := by decide +kernel
theorem dX5_ofUnfairness_95 : decode cX5_ofUnfairness 95 = .ok (.aload_n 1, 1) := by decide +kernel
theorem dX5_ofUnfairness_96 : decode cX5_ofUnfairness 96 = .ok (.invokevirtual 112, 3) := by decide +kernel
theorem dX5_ofUnfairness_99 : decode cX5_ofUnfairness 99 = .ok (.ifCond .ge 11, 3) := by decide +kernel
theorem dX5_ofUnfairness_102 : decode cX5_ofUnfairness 102 = .ok (.aload_n 1, 1) := by decide +kernel
theorem dX5_ofUnfairness_103 : decode cX5_ofUnfairness 103 = .ok (.aload_n 0, 1) := by decide +kernel
theorem dX5_ofUnfairness_104 : decode cX5_ofUnfairness 104 = .ok (.getfield 27, 3) := by decide +kernel
theorem dX5_ofUnfairness_107 : decode cX5_ofUnfairness 107 = .ok (.invokevirtual 116, 3) := by decide +kernel
theorem dX5_ofUnfairness_110 : decode cX5_ofUnfairness 110 = .ok (.iconst 1, 1) := by decide +kernel
theorem dX5_ofUnfairness_111 : decode cX5_ofUnfairness 111 = .ok (.istore_n 3, 1) := by decide +kernel
theorem dX5_ofUnfairness_112 : decode cX5_ofUnfairness 112 = .ok (.iinc 4 1, 3) := by decide +kernel
theorem dX5_ofUnfairness_115 : decode cX5_ofUnfairness 115 = .ok (.goto (-97), 3) := by decide +kernel
theorem dX5_ofUnfairness_118 : decode cX5_ofUnfairness 118 = .ok (.aload_n 1, 1) := by decide +kernel
theorem dX5_ofUnfairness_119 : decode cX5_ofUnfairness 119 = .ok (.aload_n 0, 1) := by decide +kernel
theorem dX5_ofUnfairness_120 : decode cX5_ofUnfairness 120 = .ok (.getfield 30, 3) := by decide +kernel
theorem dX5_ofUnfairness_123 : decode cX5_ofUnfairness 123 = .ok (.aload_n 1, 1) := by decide +kernel
theorem dX5_ofUnfairness_124 : decode cX5_ofUnfairness 124 = .ok (.invokevirtual 120, 3) := by decide +kernel
theorem dX5_ofUnfairness_127 : decode cX5_ofUnfairness 127 = .ok (.return_, 1) := by decide +kernel
theorem bX5_ofUnfairness_0 {Z : ZT} {X : XT} {μ : Mu} {a1 : Nat} {a2 : Nat} (E : Ent Z X mX5_ofUnfairness 0 0) (ha1 : SH a1 = .inl 0) (ha2 : SH a2 = .inl 4) {p : Mu → Prop} 
    (c : CtrS Z mX0_set [.ref (Z.2.2.1 + 103), .int (nI 0)] μ (rV p)) (k : ∀ μ1, p μ1 → JS Z X 10 [(0, .ref (Z.2.2.1 + 92)), (1, .ref (Z.2.2.1 + a1)), (2, .ref (Z.2.2.1 + a2)), (3, .int (nI 0))] [] μ1) :
    JS Z X 0 [(0, .ref (Z.2.2.1 + 92)), (1, .ref (Z.2.2.1 + a1)), (2, .ref (Z.2.2.1 + a2))] [] μ := by
  refine J_iconst (v := nI 0) E dX5_ofUnfairness_0 rfl ?_
  refine J_istore_n (lv' := [(0, .ref (Z.2.2.1 + 92)), (1, .ref (Z.2.2.1 + a1)), (2, .ref (Z.2.2.1 + a2)), (3, .int (nI 0))]) E dX5_ofUnfairness_1 (Nat.le_of_ble_eq_true rfl) rfl ?_
  refine J_aload_n E dX5_ofUnfairness_2 rfl ?_
  refine S_get (ci := 5) (q := 8) (v := .ref (Z.2.2.1 + 103)) E dX5_ofUnfairness_3 fs_X5_30 sh92 rfl ?_
  refine J_iconst (v := nI 0) E dX5_ofUnfairness_6 rfl ?_
  refine S_callV (As := [.int (nI 0)]) (rest := []) E dX5_ofUnfairness_7 c kX0_set ⟨Nat.le_of_ble_eq_true rfl, Nat.le_of_ble_eq_true rfl⟩ rfl (Nat.le_of_ble_eq_true rfl) sh103 rfl rfl w4_159 w2_180 w2_181 (fun r_ μ1 hp_ => ?_)
  obtain ⟨rfl, hp_⟩ := hp_
  exact k μ1 hp_
theorem bX5_ofUnfairness_10 {Z : ZT} {X : XT} {μ : Mu} {a1 : Nat} {a2 : Nat} {a3 : Int32} (E : Ent Z X mX5_ofUnfairness 0 0) (ha1 : SH a1 = .inl 0) (ha2 : SH a2 = .inl 4) {p : Mu → Prop} 
    (c : CtrS Z mX0_set [.ref (Z.2.2.1 + a1), .int (nI 0)] μ (rV p)) (k : ∀ μ1, p μ1 → JS Z X 15 [(0, .ref (Z.2.2.1 + 92)), (1, .ref (Z.2.2.1 + a1)), (2, .ref (Z.2.2.1 + a2)), (3, .int a3)] [] μ1) :
    JS Z X 10 [(0, .ref (Z.2.2.1 + 92)), (1, .ref (Z.2.2.1 + a1)), (2, .ref (Z.2.2.1 + a2)), (3, .int a3)] [] μ := by
  refine J_aload_n E dX5_ofUnfairness_10 rfl ?_
  refine J_iconst (v := nI 0) E dX5_ofUnfairness_11 rfl ?_
  refine S_callV (As := [.int (nI 0)]) (rest := []) E dX5_ofUnfairness_12 c kX0_set ⟨Nat.le_of_ble_eq_true rfl, Nat.le_of_ble_eq_true rfl⟩ rfl (Nat.le_of_ble_eq_true rfl) ha1 rfl rfl w4_159 w2_180 w2_181 (fun r_ μ1 hp_ => ?_)
  obtain ⟨rfl, hp_⟩ := hp_
  exact k μ1 hp_
theorem bX5_ofUnfairness_15 {Z : ZT} {X : XT} {μ : Mu} {a1 : Nat} {a2 : Nat} {a3 : Int32} (E : Ent Z X mX5_ofUnfairness 0 0) (ha1 : SH a1 = .inl 0) (ha2 : SH a2 = .inl 4) 
    (k : JS Z X 18 [(0, .ref (Z.2.2.1 + 92)), (1, .ref (Z.2.2.1 + a1)), (2, .ref (Z.2.2.1 + a2)), (3, .int a3), (4, .int (nI 0))] [] μ) :
    JS Z X 15 [(0, .ref (Z.2.2.1 + 92)), (1, .ref (Z.2.2.1 + a1)), (2, .ref (Z.2.2.1 + a2)), (3, .int a3)] [] μ := by
  refine J_iconst (v := nI 0) E dX5_ofUnfairness_15 rfl ?_
  refine J_istore (lv' := [(0, .ref (Z.2.2.1 + 92)), (1, .ref (Z.2.2.1 + a1)), (2, .ref (Z.2.2.1 + a2)), (3, .int a3), (4, .int (nI 0))]) E dX5_ofUnfairness_16 (Nat.le_of_ble_eq_true rfl) rfl ?_
  exact k
theorem bX5_ofUnfairness_18 {Z : ZT} {X : XT} {μ : Mu} {a1 : Nat} {a2 : Nat} {a3 : Int32} {a4 : Int32} (E : Ent Z X mX5_ofUnfairness 0 0) (ha1 : SH a1 = .inl 0) (ha2 : SH a2 = .inl 4) 
    (kt : (μ 1 3) ≤ a4 → JS Z X 118 [(0, .ref (Z.2.2.1 + 92)), (1, .ref (Z.2.2.1 + a1))] [] μ) (kf : ¬ ((μ 1 3) ≤ a4) → JS Z X 30 [(0, .ref (Z.2.2.1 + 92)), (1, .ref (Z.2.2.1 + a1)), (2, .ref (Z.2.2.1 + a2)), (3, .int a3), (4, .int a4)] [] μ) :
    JS Z X 18 [(0, .ref (Z.2.2.1 + 92)), (1, .ref (Z.2.2.1 + a1)), (2, .ref (Z.2.2.1 + a2)), (3, .int a3), (4, .int a4)] [] μ := by
  refine J_iload E dX5_ofUnfairness_18 rfl ?_
  refine J_aload_n E dX5_ofUnfairness_20 rfl ?_
  refine S_get (ci := 5) (q := 0) (v := .ref (Z.2.2.1 + 1)) E dX5_ofUnfairness_21 fs_X5_33 sh92 rfl ?_
  refine S_get (ci := 3) (q := 3) (v := .int (μ 1 3)) E dX5_ofUnfairness_24 fs_X5_100 sh1 rfl ?_
  refine J_icmp_ge (tgt := 118) E dX5_ofUnfairness_27 (by decide) (fun c => ?_) (fun c => ?_)
  · refine J.weak [0, 1] rfl ?_
    exact kt c
  · exact kf c
theorem bX5_ofUnfairness_30 {Z : ZT} {X : XT} {μ : Mu} {a1 : Nat} {a2 : Nat} {a3 : Int32} {a4 : Int32} (E : Ent Z X mX5_ofUnfairness 0 0) (ha1 : SH a1 = .inl 0) (ha2 : SH a2 = .inl 4) (s1_ : vp_in a4 6)
    (kt : ¬ (μ (1 + 6) (ix a4)) = (μ a2 3) → JS Z X 112 [(0, .ref (Z.2.2.1 + 92)), (1, .ref (Z.2.2.1 + a1)), (2, .ref (Z.2.2.1 + a2)), (3, .int a3), (4, .int a4)] [] μ) (kf : (μ (1 + 6) (ix a4)) = (μ a2 3) → JS Z X 47 [(0, .ref (Z.2.2.1 + 92)), (1, .ref (Z.2.2.1 + a1)), (2, .ref (Z.2.2.1 + a2)), (3, .int a3), (4, .int a4)] [] μ) :
    JS Z X 30 [(0, .ref (Z.2.2.1 + 92)), (1, .ref (Z.2.2.1 + a1)), (2, .ref (Z.2.2.1 + a2)), (3, .int a3), (4, .int a4)] [] μ := by
  refine J_aload_n E dX5_ofUnfairness_30 rfl ?_
  refine S_get (ci := 5) (q := 0) (v := .ref (Z.2.2.1 + 1)) E dX5_ofUnfairness_31 fs_X5_33 sh92 rfl ?_
  refine S_get (ci := 3) (q := 7) (v := .ref (Z.2.2.1 + (1 + 6))) E dX5_ofUnfairness_34 fs_X5_103 sh1 rfl ?_
  refine J_iload E dX5_ofUnfairness_37 rfl ?_
  refine S_iald E dX5_ofUnfairness_39 (shr_X3_7 sh1) s1_ ?_
  refine J_aload_n E dX5_ofUnfairness_40 rfl ?_
  refine S_get (ci := 4) (q := 3) (v := .int (μ a2 3)) E dX5_ofUnfairness_41 fs_X5_106 ha2 rfl ?_
  refine J_icmp_ne (tgt := 112) E dX5_ofUnfairness_44 (by decide) (fun c => ?_) (fun c => ?_)
  · exact kt c
  · exact kf c
theorem bX5_ofUnfairness_47 {Z : ZT} {X : XT} {μ : Mu} {a1 : Nat} {a2 : Nat} {a3 : Int32} {a4 : Int32} (E : Ent Z X mX5_ofUnfairness 0 0) (ha1 : SH a1 = .inl 0) (ha2 : SH a2 = .inl 4) {p : Mu → Prop} 
    (c : CtrS Z mX5_ofGuessed [.ref (Z.2.2.1 + 92), .ref (Z.2.2.1 + 101), .ref (Z.2.2.1 + a2), .int a4] μ (rV p)) (k : ∀ μ1, p μ1 → JS Z X 58 [(0, .ref (Z.2.2.1 + 92)), (1, .ref (Z.2.2.1 + a1)), (2, .ref (Z.2.2.1 + a2)), (3, .int a3), (4, .int a4)] [] μ1) :
    JS Z X 47 [(0, .ref (Z.2.2.1 + 92)), (1, .ref (Z.2.2.1 + a1)), (2, .ref (Z.2.2.1 + a2)), (3, .int a3), (4, .int a4)] [] μ := by
  refine J_aload_n E dX5_ofUnfairness_47 rfl ?_
  refine J_aload_n E dX5_ofUnfairness_48 rfl ?_
  refine S_get (ci := 5) (q := 7) (v := .ref (Z.2.2.1 + 101)) E dX5_ofUnfairness_49 fs_X5_27 sh92 rfl ?_
  refine J_aload_n E dX5_ofUnfairness_52 rfl ?_
  refine J_iload E dX5_ofUnfairness_53 rfl ?_
  refine S_callV (As := [.ref (Z.2.2.1 + 101), .ref (Z.2.2.1 + a2), .int a4]) (rest := []) E dX5_ofUnfairness_55 c kX5_ofGuessed ⟨Nat.le_of_ble_eq_true rfl, Nat.le_of_ble_eq_true rfl⟩ rfl (Nat.le_of_ble_eq_true rfl) sh92 rfl rfl w4_227 w4_214 w4_215 (fun r_ μ1 hp_ => ?_)
  obtain ⟨rfl, hp_⟩ := hp_
  exact k μ1 hp_
theorem bX5_ofUnfairness_58 {Z : ZT} {X : XT} {μ : Mu} {a1 : Nat} {a2 : Nat} {a3 : Int32} {a4 : Int32} (E : Ent Z X mX5_ofUnfairness 0 0) (ha1 : SH a1 = .inl 0) (ha2 : SH a2 = .inl 4) 
    (kt : a3 = 0 → JS Z X 76 [(0, .ref (Z.2.2.1 + 92)), (1, .ref (Z.2.2.1 + a1)), (2, .ref (Z.2.2.1 + a2)), (3, .int a3), (4, .int a4)] [] μ) (kf : ¬ (a3 = 0) → JS Z X 62 [(0, .ref (Z.2.2.1 + 92)), (1, .ref (Z.2.2.1 + a1)), (2, .ref (Z.2.2.1 + a2)), (3, .int a3), (4, .int a4)] [] μ) :
    JS Z X 58 [(0, .ref (Z.2.2.1 + 92)), (1, .ref (Z.2.2.1 + a1)), (2, .ref (Z.2.2.1 + a2)), (3, .int a3), (4, .int a4)] [] μ := by
  refine J_iload_n E dX5_ofUnfairness_58 rfl ?_
  refine J_if_eq (tgt := 76) E dX5_ofUnfairness_59 (by decide) (fun c => ?_) (fun c => ?_)
  · exact kt c
  · exact kf c
theorem bX5_ofUnfairness_62 {Z : ZT} {X : XT} {μ : Mu} {a1 : Nat} {a2 : Nat} {a3 : Int32} {a4 : Int32} (E : Ent Z X mX5_ofUnfairness 0 0) (ha1 : SH a1 = .inl 0) (ha2 : SH a2 = .inl 4) {p : Int32 → Mu → Prop} 
    (c : CtrS Z mX0_compare [.ref (Z.2.2.1 + 101), .ref (Z.2.2.1 + 103)] μ (rI p)) (k : ∀ v μ1, p v μ1 → JS Z X 73 [(0, .ref (Z.2.2.1 + 92)), (1, .ref (Z.2.2.1 + a1)), (2, .ref (Z.2.2.1 + a2)), (3, .int a3), (4, .int a4)] [.int v] μ1) :
    JS Z X 62 [(0, .ref (Z.2.2.1 + 92)), (1, .ref (Z.2.2.1 + a1)), (2, .ref (Z.2.2.1 + a2)), (3, .int a3), (4, .int a4)] [] μ := by
  refine J_aload_n E dX5_ofUnfairness_62 rfl ?_
  refine S_get (ci := 5) (q := 7) (v := .ref (Z.2.2.1 + 101)) E dX5_ofUnfairness_63 fs_X5_27 sh92 rfl ?_
  refine J_aload_n E dX5_ofUnfairness_66 rfl ?_
  refine S_get (ci := 5) (q := 8) (v := .ref (Z.2.2.1 + 103)) E dX5_ofUnfairness_67 fs_X5_30 sh92 rfl ?_
  refine S_callV (As := [.ref (Z.2.2.1 + 103)]) (rest := []) E dX5_ofUnfairness_70 c kX0_compare ⟨Nat.le_of_ble_eq_true rfl, Nat.le_of_ble_eq_true rfl⟩ rfl (Nat.le_of_ble_eq_true rfl) sh101 rfl rfl w4_228 w4_229 w4_230 (fun r_ μ1 hp_ => ?_)
  obtain ⟨v, rfl, hp_⟩ := hp_
  exact k v μ1 hp_
theorem bX5_ofUnfairness_73 {Z : ZT} {X : XT} {μ : Mu} {a1 : Nat} {a2 : Nat} {a3 : Int32} {a4 : Int32} {s0 : Int32} (E : Ent Z X mX5_ofUnfairness 0 0) (ha1 : SH a1 = .inl 0) (ha2 : SH a2 = .inl 4) 
    (kt : s0 ≤ 0 → JS Z X 87 [(0, .ref (Z.2.2.1 + 92)), (1, .ref (Z.2.2.1 + a1)), (2, .ref (Z.2.2.1 + a2)), (3, .int a3), (4, .int a4)] [] μ) (kf : ¬ (s0 ≤ 0) → JS Z X 76 [(0, .ref (Z.2.2.1 + 92)), (1, .ref (Z.2.2.1 + a1)), (2, .ref (Z.2.2.1 + a2)), (3, .int a3), (4, .int a4)] [] μ) :
    JS Z X 73 [(0, .ref (Z.2.2.1 + 92)), (1, .ref (Z.2.2.1 + a1)), (2, .ref (Z.2.2.1 + a2)), (3, .int a3), (4, .int a4)] [.int s0] μ := by
  refine J_if_le (tgt := 87) E dX5_ofUnfairness_73 (by decide) (fun c => ?_) (fun c => ?_)
  · exact kt c
  · exact kf c
theorem bX5_ofUnfairness_76 {Z : ZT} {X : XT} {μ : Mu} {a1 : Nat} {a2 : Nat} {a3 : Int32} {a4 : Int32} (E : Ent Z X mX5_ofUnfairness 0 0) (ha1 : SH a1 = .inl 0) (ha2 : SH a2 = .inl 4) {p : Mu → Prop} 
    (c : CtrS Z mX0_copy [.ref (Z.2.2.1 + 103), .ref (Z.2.2.1 + 101)] μ (rV p)) (k : ∀ μ1, p μ1 → JS Z X 87 [(0, .ref (Z.2.2.1 + 92)), (1, .ref (Z.2.2.1 + a1)), (2, .ref (Z.2.2.1 + a2)), (3, .int a3), (4, .int a4)] [] μ1) :
    JS Z X 76 [(0, .ref (Z.2.2.1 + 92)), (1, .ref (Z.2.2.1 + a1)), (2, .ref (Z.2.2.1 + a2)), (3, .int a3), (4, .int a4)] [] μ := by
  refine J_aload_n E dX5_ofUnfairness_76 rfl ?_
  refine S_get (ci := 5) (q := 8) (v := .ref (Z.2.2.1 + 103)) E dX5_ofUnfairness_77 fs_X5_30 sh92 rfl ?_
  refine J_aload_n E dX5_ofUnfairness_80 rfl ?_
  refine S_get (ci := 5) (q := 7) (v := .ref (Z.2.2.1 + 101)) E dX5_ofUnfairness_81 fs_X5_27 sh92 rfl ?_
  refine S_callV (As := [.ref (Z.2.2.1 + 101)]) (rest := []) E dX5_ofUnfairness_84 c kX0_copy ⟨Nat.le_of_ble_eq_true rfl, Nat.le_of_ble_eq_true rfl⟩ rfl (Nat.le_of_ble_eq_true rfl) sh103 rfl rfl w4_232 w4_127 w4_128 (fun r_ μ1 hp_ => ?_)
  obtain ⟨rfl, hp_⟩ := hp_
  exact k μ1 hp_
theorem bX5_ofUnfairness_87 {Z : ZT} {X : XT} {μ : Mu} {a1 : Nat} {a2 : Nat} {a3 : Int32} {a4 : Int32} (E : Ent Z X mX5_ofUnfairness 0 0) (ha1 : SH a1 = .inl 0) (ha2 : SH a2 = .inl 4) 
    (kt : a3 = 0 → JS Z X 102 [(0, .ref (Z.2.2.1 + 92)), (1, .ref (Z.2.2.1 + a1)), (2, .ref (Z.2.2.1 + a2)), (4, .int a4)] [] μ) (kf : ¬ (a3 = 0) → JS Z X 91 [(0, .ref (Z.2.2.1 + 92)), (1, .ref (Z.2.2.1 + a1)), (2, .ref (Z.2.2.1 + a2)), (4, .int a4)] [] μ) :
    JS Z X 87 [(0, .ref (Z.2.2.1 + 92)), (1, .ref (Z.2.2.1 + a1)), (2, .ref (Z.2.2.1 + a2)), (3, .int a3), (4, .int a4)] [] μ := by
  refine J_iload_n E dX5_ofUnfairness_87 rfl ?_
  refine J_if_eq (tgt := 102) E dX5_ofUnfairness_88 (by decide) (fun c => ?_) (fun c => ?_)
  · refine J.weak [0, 1, 2, 4] rfl ?_
    exact kt c
  · refine J.weak [0, 1, 2, 4] rfl ?_
    exact kf c
theorem bX5_ofUnfairness_91 {Z : ZT} {X : XT} {μ : Mu} {a1 : Nat} {a2 : Nat} {a4 : Int32} (E : Ent Z X mX5_ofUnfairness 0 0) (ha1 : SH a1 = .inl 0) (ha2 : SH a2 = .inl 4) {p : Int32 → Mu → Prop} 
    (c : CtrS Z mX0_compare [.ref (Z.2.2.1 + 101), .ref (Z.2.2.1 + a1)] μ (rI p)) (k : ∀ v μ1, p v μ1 → JS Z X 99 [(0, .ref (Z.2.2.1 + 92)), (1, .ref (Z.2.2.1 + a1)), (2, .ref (Z.2.2.1 + a2)), (4, .int a4)] [.int v] μ1) :
    JS Z X 91 [(0, .ref (Z.2.2.1 + 92)), (1, .ref (Z.2.2.1 + a1)), (2, .ref (Z.2.2.1 + a2)), (4, .int a4)] [] μ := by
  refine J_aload_n E dX5_ofUnfairness_91 rfl ?_
  refine S_get (ci := 5) (q := 7) (v := .ref (Z.2.2.1 + 101)) E dX5_ofUnfairness_92 fs_X5_27 sh92 rfl ?_
  refine J_aload_n E dX5_ofUnfairness_95 rfl ?_
  refine S_callV (As := [.ref (Z.2.2.1 + a1)]) (rest := []) E dX5_ofUnfairness_96 c kX0_compare ⟨Nat.le_of_ble_eq_true rfl, Nat.le_of_ble_eq_true rfl⟩ rfl (Nat.le_of_ble_eq_true rfl) sh101 rfl rfl w4_228 w4_229 w4_230 (fun r_ μ1 hp_ => ?_)
  obtain ⟨v, rfl, hp_⟩ := hp_
  exact k v μ1 hp_
theorem bX5_ofUnfairness_99 {Z : ZT} {X : XT} {μ : Mu} {a1 : Nat} {a2 : Nat} {a4 : Int32} {s0 : Int32} (E : Ent Z X mX5_ofUnfairness 0 0) (ha1 : SH a1 = .inl 0) (ha2 : SH a2 = .inl 4) 
    (kt : 0 ≤ s0 → JS Z X 110 [(0, .ref (Z.2.2.1 + 92)), (1, .ref (Z.2.2.1 + a1)), (2, .ref (Z.2.2.1 + a2)), (4, .int a4)] [] μ) (kf : ¬ (0 ≤ s0) → JS Z X 102 [(0, .ref (Z.2.2.1 + 92)), (1, .ref (Z.2.2.1 + a1)), (2, .ref (Z.2.2.1 + a2)), (4, .int a4)] [] μ) :
    JS Z X 99 [(0, .ref (Z.2.2.1 + 92)), (1, .ref (Z.2.2.1 + a1)), (2, .ref (Z.2.2.1 + a2)), (4, .int a4)] [.int s0] μ := by
  refine J_if_ge (tgt := 110) E dX5_ofUnfairness_99 (by decide) (fun c => ?_) (fun c => ?_)
  · exact kt c
  · exact kf c
theorem bX5_ofUnfairness_102 {Z : ZT} {X : XT} {μ : Mu} {a1 : Nat} {a2 : Nat} {a4 : Int32} (E : Ent Z X mX5_ofUnfairness 0 0) (ha1 : SH a1 = .inl 0) (ha2 : SH a2 = .inl 4) {p : Mu → Prop} 
    (c : CtrS Z mX0_copy [.ref (Z.2.2.1 + a1), .ref (Z.2.2.1 + 101)] μ (rV p)) (k : ∀ μ1, p μ1 → JS Z X 110 [(0, .ref (Z.2.2.1 + 92)), (1, .ref (Z.2.2.1 + a1)), (2, .ref (Z.2.2.1 + a2)), (4, .int a4)] [] μ1) :
    JS Z X 102 [(0, .ref (Z.2.2.1 + 92)), (1, .ref (Z.2.2.1 + a1)), (2, .ref (Z.2.2.1 + a2)), (4, .int a4)] [] μ := by
  refine J_aload_n E dX5_ofUnfairness_102 rfl ?_
  refine J_aload_n E dX5_ofUnfairness_103 rfl ?_
  refine S_get (ci := 5) (q := 7) (v := .ref (Z.2.2.1 + 101)) E dX5_ofUnfairness_104 fs_X5_27 sh92 rfl ?_
  refine S_callV (As := [.ref (Z.2.2.1 + 101)]) (rest := []) E dX5_ofUnfairness_107 c kX0_copy ⟨Nat.le_of_ble_eq_true rfl, Nat.le_of_ble_eq_true rfl⟩ rfl (Nat.le_of_ble_eq_true rfl) ha1 rfl rfl w4_232 w4_127 w4_128 (fun r_ μ1 hp_ => ?_)
  obtain ⟨rfl, hp_⟩ := hp_
  exact k μ1 hp_
theorem bX5_ofUnfairness_110 {Z : ZT} {X : XT} {μ : Mu} {a1 : Nat} {a2 : Nat} {a4 : Int32} (E : Ent Z X mX5_ofUnfairness 0 0) (ha1 : SH a1 = .inl 0) (ha2 : SH a2 = .inl 4) 
    (k : JS Z X 112 [(0, .ref (Z.2.2.1 + 92)), (1, .ref (Z.2.2.1 + a1)), (2, .ref (Z.2.2.1 + a2)), (3, .int (nI 1)), (4, .int a4)] [] μ) :
    JS Z X 110 [(0, .ref (Z.2.2.1 + 92)), (1, .ref (Z.2.2.1 + a1)), (2, .ref (Z.2.2.1 + a2)), (4, .int a4)] [] μ := by
  refine J_iconst (v := nI 1) E dX5_ofUnfairness_110 rfl ?_
  refine J_istore_n (lv' := [(0, .ref (Z.2.2.1 + 92)), (1, .ref (Z.2.2.1 + a1)), (2, .ref (Z.2.2.1 + a2)), (3, .int (nI 1)), (4, .int a4)]) E dX5_ofUnfairness_111 (Nat.le_of_ble_eq_true rfl) rfl ?_
  exact k
theorem bX5_ofUnfairness_112 {Z : ZT} {X : XT} {μ : Mu} {a1 : Nat} {a2 : Nat} {a3 : Int32} {a4 : Int32} (E : Ent Z X mX5_ofUnfairness 0 0) (ha1 : SH a1 = .inl 0) (ha2 : SH a2 = .inl 4) 
    (k : JS Z X 18 [(0, .ref (Z.2.2.1 + 92)), (1, .ref (Z.2.2.1 + a1)), (2, .ref (Z.2.2.1 + a2)), (3, .int a3), (4, .int (a4 + nI 1))] [] μ) :
    JS Z X 112 [(0, .ref (Z.2.2.1 + 92)), (1, .ref (Z.2.2.1 + a1)), (2, .ref (Z.2.2.1 + a2)), (3, .int a3), (4, .int a4)] [] μ := by
  refine J_iinc (v := a4 + nI 1) (lv' := [(0, .ref (Z.2.2.1 + 92)), (1, .ref (Z.2.2.1 + a1)), (2, .ref (Z.2.2.1 + a2)), (3, .int a3), (4, .int (a4 + nI 1))]) E dX5_ofUnfairness_112 rfl rfl (Nat.le_of_ble_eq_true rfl) rfl ?_
  refine J_goto (tgt := 18) E dX5_ofUnfairness_115 (by decide) ?_
  exact k
theorem bX5_ofUnfairness_118 {Z : ZT} {X : XT} {μ : Mu} {a1 : Nat} (E : Ent Z X mX5_ofUnfairness 0 0) (ha1 : SH a1 = .inl 0) {p : Mu → Prop} 
    (c : CtrS Z mX0_setDifference [.ref (Z.2.2.1 + a1), .ref (Z.2.2.1 + 103), .ref (Z.2.2.1 + a1)] μ (rV p)) (k : ∀ μ1, p μ1 → JS Z X 127 [] [] μ1) :
    JS Z X 118 [(0, .ref (Z.2.2.1 + 92)), (1, .ref (Z.2.2.1 + a1))] [] μ := by
  refine J_aload_n E dX5_ofUnfairness_118 rfl ?_
  refine J_aload_n E dX5_ofUnfairness_119 rfl ?_
  refine S_get (ci := 5) (q := 8) (v := .ref (Z.2.2.1 + 103)) E dX5_ofUnfairness_120 fs_X5_30 sh92 rfl ?_
  refine J_aload_n E dX5_ofUnfairness_123 rfl ?_
  refine S_callV (As := [.ref (Z.2.2.1 + 103), .ref (Z.2.2.1 + a1)]) (rest := []) E dX5_ofUnfairness_124 c kX0_setDifference ⟨Nat.le_of_ble_eq_true rfl, Nat.le_of_ble_eq_true rfl⟩ rfl (Nat.le_of_ble_eq_true rfl) ha1 rfl rfl w4_233 w4_234 w4_235 (fun r_ μ1 hp_ => ?_)
  obtain ⟨rfl, hp_⟩ := hp_
  refine J.weak [] rfl ?_
  exact k μ1 hp_
theorem bX5_ofUnfairness_127 {Z : ZT} {X : XT} {μ : Mu} (E : Ent Z X mX5_ofUnfairness 0 0) {P : Option Value → Mu → Prop} (hB : BodS Z X P) 
    (k : P none μ) :
    JS Z X 127 [] [] μ := by
  exact S_vret E hB dX5_ofUnfairness_127 rfl k
theorem dX6_init_0 : decode cX6_init 0 = .ok (.aload_n 0, 1) := by decide +kernel
theorem dX6_init_1 : decode cX6_init 1 = .ok (.invokespecial 3, 3) := by decide +kernel
theorem dX6_init_4 : decode cX6_init 4 = .ok (.aload_n 0, 1) := by decide +kernel
theorem dX6_init_5 : decode cX6_init 5 = .ok (.iconst 5, 1) := by decide +kernel
theorem dX6_init_6 : decode cX6_init 6 = .ok (.newarray .int, 2) := by decide +kernel
theorem dX6_init_8 : decode cX6_init 8 = .ok (.dup, 1) := by decide +kernel
theorem dX6_init_9 : decode cX6_init 9 = .ok (.iconst 0, 1) := by decide +kernel
theorem dX6_init_10 : decode cX6_init 10 = .ok (.iconst 4, 1) := by decide +kernel
theorem dX6_init_11 : decode cX6_init 11 = .ok (.iastore, 1) := by decide +kernel
theorem dX6_init_12 : decode cX6_init 12 = .ok (.dup, 1) := by decide +kernel
theorem dX6_init_13 : decode cX6_init 13 = .ok (.iconst 1, 1) := by decide +kernel
theorem dX6_init_14 : decode cX6_init 14 = .ok (.bipush 30, 2) := by decide +kernel
theorem dX6_init_16 : decode cX6_init 16 = .ok (.iastore, 1) := by decide +kernel
theorem dX6_init_17 : decode cX6_init 17 = .ok (.dup, 1) := by decide +kernel
theorem dX6_init_18 : decode cX6_init 18 = .ok (.iconst 2, 1) := by decide +kernel
theorem dX6_init_19 : decode cX6_init 19 = .ok (.iconst 1, 1) := by decide +kernel
theorem dX6_init_20 : decode cX6_init 20 = .ok (.iastore, 1) := by decide +kernel
theorem dX6_init_21 : decode cX6_init 21 = .ok (.dup, 1) := by decide +kernel
theorem dX6_init_22 : decode cX6_init 22 = .ok (.iconst 3, 1) := by decide +kernel
theorem dX6_init_23 : decode cX6_init 23 = .ok (.iconst 0, 1) := by decide +kernel
theorem dX6_init_24 : decode cX6_init 24 = .ok (.iastore, 1) := by decide +kernel
theorem dX6_init_25 : decode cX6_init 25 = .ok (.dup, 1) := by decide +kernel
theorem dX6_init_26 : decode cX6_init 26 = .ok (.iconst 4, 1) := by decide +kernel
theorem dX6_init_27 : decode cX6_init 27 = .ok (.iconst 0, 1) := by decide +kernel
theorem dX6_init_28 : decode cX6_init 28 = .ok (.iastore, 1) := by decide +kernel
theorem dX6_init_29 : decode cX6_init 29 = .ok (.putfield 9, 3) := by decide +kernel
theorem dX6_init_32 : decode cX6_init 32 = .ok (.aload_n 0, 1) := by decide +kernel
theorem dX6_init_33 : decode cX6_init 33 = .ok (.bipush 20, 2) := by decide +kernel
theorem dX6_init_35 : decode cX6_init 35 = .ok (.newarray .int, 2) := by decide +kernel
theorem dX6_init_37 : decode cX6_init 37 = .ok (.putfield 15, 3) := by decide +kernel
theorem dX6_init_40 : decode cX6_init 40 = .ok (.aload_n 0, 1) := by decide +kernel
theorem dX6_init_41 : decode cX6_init 41 = .ok (.bipush 20, 2) := by decide +kernel
theorem dX6_init_43 : decode cX6_init 43 = .ok (.newarray .int, 2) := by decide +kernel
theorem dX6_init_45 : decode cX6_init 45 = .ok (.putfield 18, 3) := by decide +kernel
theorem dX6_init_48 : decode cX6_init 48 = .ok (.return_, 1) := by decide +kernel
theorem dX6_copy_0 : decode cX6_copy 0 = .ok (.aload_n 0, 1) := by decide +kernel
theorem dX6_copy_1 : decode cX6_copy 1 = .ok (.aload_n 1, 1) := by decide +kernel
theorem dX6_copy_2 : decode cX6_copy 2 = .ok (.getfield 21, 3) := by decide +kernel
theorem dX6_copy_5 : decode cX6_copy 5 = .ok (.putfield 21, 3) := by decide +kernel
theorem dX6_copy_8 : decode cX6_copy 8 = .ok (.aload_n 1, 1) := by decide +kernel
theorem dX6_copy_9 : decode cX6_copy 9 = .ok (.getfield 9, 3) := by decide +kernel
theorem dX6_copy_12 : decode cX6_copy 12 = .ok (.iconst 0, 1) := by decide +kernel
theorem dX6_copy_13 : decode cX6_copy 13 = .ok (.aload_n 0, 1) := by decide +kernel
theorem dX6_copy_14 : decode cX6_copy 14 = .ok (.getfield 9, 3) := by decide +kernel
theorem dX6_copy_17 : decode cX6_copy 17 = .ok (.iconst 0, 1) := by decide +kernel
theorem dX6_copy_18 : decode cX6_copy 18 = .ok (.iconst 5, 1) := by decide +kernel
theorem dX6_copy_19 : decode cX6_copy 19 = .ok (.invokestatic 25, 3) := by decide +kernel
theorem dX6_copy_22 : decode cX6_copy 22 = .ok (.aload_n 1, 1) := by decide +kernel
theorem dX6_copy_23 : decode cX6_copy 23 = .ok (.getfield 15, 3) := by decide +kernel
theorem dX6_copy_26 : decode cX6_copy 26 = .ok (.iconst 0, 1) := by decide +kernel
theorem dX6_copy_27 : decode cX6_copy 27 = .ok (.aload_n 0, 1) := by decide +kernel
theorem dX6_copy_28 : decode cX6_copy 28 = .ok (.getfield 15, 3) := by decide +kernel
theorem dX6_copy_31 : decode cX6_copy 31 = .ok (.iconst 0, 1) := by decide +kernel
theorem dX6_copy_32 : decode cX6_copy 32 = .ok (.bipush 20, 2) := by decide +kernel
theorem dX6_copy_34 : decode cX6_copy 34 = .ok (.invokestatic 25, 3) := by decide +kernel
theorem dX6_copy_37 : decode cX6_copy 37 = .ok (.aload_n 1, 1) := by decide +kernel
theorem dX6_copy_38 : decode cX6_copy 38 = .ok (.getfield 18, 3) := by decide +kernel
theorem dX6_copy_41 : decode cX6_copy 41 = .ok (.iconst 0, 1) := by decide +kernel
theorem dX6_copy_42 : decode cX6_copy 42 = .ok (.aload_n 0, 1) := by decide +kernel
theorem dX6_copy_43 : decode cX6_copy 43 = .ok (.getfield 18, 3) := by decide +kernel
theorem dX6_copy_46 : decode cX6_copy 46 = .ok (.iconst 0, 1) := by decide +kernel
theorem dX6_copy_47 : decode cX6_copy 47 = .ok (.bipush 20, 2) := by decide +kernel
theorem dX6_copy_49 : decode cX6_copy 49 = .ok (.invokestatic 25, 3) := by decide +kernel
theorem dX6_copy_52 : decode cX6_copy 52 = .ok (.return_, 1) := by decide +kernel
theorem bX6_copy_0 {Z : ZT} {X : XT} {μ : Mu} {a0 : Nat} {a1 : Nat} (E : Ent Z X mX6_copy 0 0) (ha0 : SH a0 = .inl 6) (ha1 : SH a1 = .inl 6) 
    (k : JS Z X 8 [(0, .ref (Z.2.2.1 + a0)), (1, .ref (Z.2.2.1 + a1))] [] (uR μ a0 (upd (μ a0) 1 (μ a1 1)))) :
    JS Z X 0 [(0, .ref (Z.2.2.1 + a0)), (1, .ref (Z.2.2.1 + a1))] [] μ := by
  refine J_aload_n E dX6_copy_0 rfl ?_
  refine J_aload_n E dX6_copy_1 rfl ?_
  refine S_get (ci := 6) (q := 1) (v := .int (μ a1 1)) E dX6_copy_2 fs_X6_21 ha1 rfl ?_
  refine S_puti E dX6_copy_5 fs_X6_21 fp_X6_1 ha0 rfl ?_
  exact k
theorem bX6_copy_8 {Z : ZT} {X : XT} {μ : Mu} {a0 : Nat} {a1 : Nat} (E : Ent Z X mX6_copy 0 0) (ha0 : SH a0 = .inl 6) (ha1 : SH a1 = .inl 6) (s1_ : ix (nI 0) + ix (nI 5) ≤ 5) (s2_ : ix (nI 0) + ix (nI 5) ≤ 5)
    (k : JS Z X 22 [(0, .ref (Z.2.2.1 + a0)), (1, .ref (Z.2.2.1 + a1))] [] (uR μ (a0 + 1) (va_cpy (μ (a1 + 1)) (μ (a0 + 1)) (ix (nI 0)) (ix (nI 0)) (ix (nI 5))))) :
    JS Z X 8 [(0, .ref (Z.2.2.1 + a0)), (1, .ref (Z.2.2.1 + a1))] [] μ := by
  refine J_aload_n E dX6_copy_8 rfl ?_
  refine S_get (ci := 6) (q := 0) (v := .ref (Z.2.2.1 + (a1 + 1))) E dX6_copy_9 fs_X6_9 ha1 rfl ?_
  refine J_iconst (v := nI 0) E dX6_copy_12 rfl ?_
  refine J_aload_n E dX6_copy_13 rfl ?_
  refine S_get (ci := 6) (q := 0) (v := .ref (Z.2.2.1 + (a0 + 1))) E dX6_copy_14 fs_X6_9 ha0 rfl ?_
  refine J_iconst (v := nI 0) E dX6_copy_17 rfl ?_
  refine J_iconst (v := nI 5) E dX6_copy_18 rfl ?_
  refine S_copyi E dX6_copy_19 w5_148 w4_37 w4_36 w1_20 (shr_X6_0 ha1) (shr_X6_0 ha0) (by decide) (by decide) (by decide) s1_ s2_ (Nat.le_of_ble_eq_true rfl) (Nat.le_of_ble_eq_true rfl) ?_
  exact k
theorem bX6_copy_22 {Z : ZT} {X : XT} {μ : Mu} {a0 : Nat} {a1 : Nat} (E : Ent Z X mX6_copy 0 0) (ha0 : SH a0 = .inl 6) (ha1 : SH a1 = .inl 6) (s1_ : ix (nI 0) + ix (nI 20) ≤ 20) (s2_ : ix (nI 0) + ix (nI 20) ≤ 20)
    (k : JS Z X 37 [(0, .ref (Z.2.2.1 + a0)), (1, .ref (Z.2.2.1 + a1))] [] (uR μ (a0 + 2) (va_cpy (μ (a1 + 2)) (μ (a0 + 2)) (ix (nI 0)) (ix (nI 0)) (ix (nI 20))))) :
    JS Z X 22 [(0, .ref (Z.2.2.1 + a0)), (1, .ref (Z.2.2.1 + a1))] [] μ := by
  refine J_aload_n E dX6_copy_22 rfl ?_
  refine S_get (ci := 6) (q := 2) (v := .ref (Z.2.2.1 + (a1 + 2))) E dX6_copy_23 fs_X6_15 ha1 rfl ?_
  refine J_iconst (v := nI 0) E dX6_copy_26 rfl ?_
  refine J_aload_n E dX6_copy_27 rfl ?_
  refine S_get (ci := 6) (q := 2) (v := .ref (Z.2.2.1 + (a0 + 2))) E dX6_copy_28 fs_X6_15 ha0 rfl ?_
  refine J_iconst (v := nI 0) E dX6_copy_31 rfl ?_
  refine J_bipush (v := nI 20) E dX6_copy_32 rfl ?_
  refine S_copyi E dX6_copy_34 w5_148 w4_37 w4_36 w1_20 (shr_X6_2 ha1) (shr_X6_2 ha0) (by decide) (by decide) (by decide) s1_ s2_ (Nat.le_of_ble_eq_true rfl) (Nat.le_of_ble_eq_true rfl) ?_
  exact k
theorem bX6_copy_37 {Z : ZT} {X : XT} {μ : Mu} {a0 : Nat} {a1 : Nat} (E : Ent Z X mX6_copy 0 0) (ha0 : SH a0 = .inl 6) (ha1 : SH a1 = .inl 6) (s1_ : ix (nI 0) + ix (nI 20) ≤ 20) (s2_ : ix (nI 0) + ix (nI 20) ≤ 20)
    (k : JS Z X 52 [] [] (uR μ (a0 + 3) (va_cpy (μ (a1 + 3)) (μ (a0 + 3)) (ix (nI 0)) (ix (nI 0)) (ix (nI 20))))) :
    JS Z X 37 [(0, .ref (Z.2.2.1 + a0)), (1, .ref (Z.2.2.1 + a1))] [] μ := by
  refine J_aload_n E dX6_copy_37 rfl ?_
  refine S_get (ci := 6) (q := 3) (v := .ref (Z.2.2.1 + (a1 + 3))) E dX6_copy_38 fs_X6_18 ha1 rfl ?_
  refine J_iconst (v := nI 0) E dX6_copy_41 rfl ?_
  refine J_aload_n E dX6_copy_42 rfl ?_
  refine S_get (ci := 6) (q := 3) (v := .ref (Z.2.2.1 + (a0 + 3))) E dX6_copy_43 fs_X6_18 ha0 rfl ?_
  refine J_iconst (v := nI 0) E dX6_copy_46 rfl ?_
  refine J_bipush (v := nI 20) E dX6_copy_47 rfl ?_
  refine S_copyi E dX6_copy_49 w5_148 w4_37 w4_36 w1_20 (shr_X6_3 ha1) (shr_X6_3 ha0) (by decide) (by decide) (by decide) s1_ s2_ (Nat.le_of_ble_eq_true rfl) (Nat.le_of_ble_eq_true rfl) ?_
  refine J.weak [] rfl ?_
  exact k
theorem bX6_copy_52 {Z : ZT} {X : XT} {μ : Mu} (E : Ent Z X mX6_copy 0 0) {P : Option Value → Mu → Prop} (hB : BodS Z X P) 
    (k : P none μ) :
    JS Z X 52 [] [] μ := by
  exact S_vret E hB dX6_copy_52 rfl k
theorem dX6_setNumber_0 : decode cX6_setNumber 0 = .ok (.iload_n 1, 1) := by decide +kernel
theorem dX6_setNumber_1 : decode cX6_setNumber 1 = .ok (.iconst 5, 1) := by decide +kernel
theorem dX6_setNumber_2 : decode cX6_setNumber 2 = .ok (.invokestatic 31, 3) := by decide +kernel
theorem dX6_setNumber_5 : decode cX6_setNumber 5 = .ok (.ifCond .eq 21, 3) := by decide +kernel
theorem dX6_setNumber_8 : decode cX6_setNumber 8 = .ok (.iload_n 2, 1) := by decide +kernel
theorem dX6_setNumber_9 : decode cX6_setNumber 9 = .ok (.getstatic 35, 3) := by decide +kernel
theorem dX6_setNumber_12 : decode cX6_setNumber 12 = .ok (.iload_n 1, 1) := by decide +kernel
theorem dX6_setNumber_13 : decode cX6_setNumber 13 = .ok (.iaload, 1) := by decide +kernel
theorem dX6_setNumber_14 : decode cX6_setNumber 14 = .ok (.if_icmp .lt 12, 3) := by decide +kernel
theorem dX6_setNumber_17 : decode cX6_setNumber 17 = .ok (.iload_n 2, 1) := by decide +kernel
theorem dX6_setNumber_18 : decode cX6_setNumber 18 = .ok (.getstatic 38, 3) := by decide +kernel
theorem dX6_setNumber_21 : decode cX6_setNumber 21 = .ok (.iload_n 1, 1) := by decide +kernel
theorem dX6_setNumber_22 : decode cX6_setNumber 22 = .ok (.iaload, 1) := by decide +kernel
theorem dX6_setNumber_23 : decode cX6_setNumber 23 = .ok (.if_icmp .le 6, 3) := by decide +kernel
theorem dX6_setNumber_26 : decode cX6_setNumber 26 = .ok (.bipush (-2), 2) := by decide +kernel
theorem dX6_setNumber_28 : decode cX6_setNumber 28 = .ok (.ireturn, 1) := by decide +kernel
theorem dX6_setNumber_29 : decode cX6_setNumber 29 = .ok (.aload_n 0, 1) := by decide +kernel
theorem dX6_setNumber_30 : decode cX6_setNumber 30 = .ok (.getfield 9, 3) := by decide +kernel
theorem dX6_setNumber_33 : decode cX6_setNumber 33 = .ok (.iload_n 1, 1) := by decide +kernel
theorem dX6_setNumber_34 : decode cX6_setNumber 34 = .ok (.iaload, 1) := by decide +kernel
theorem dX6_setNumber_35 : decode cX6_setNumber 35 = .ok (.istore_n 3, 1) := by decide +kernel
theorem dX6_setNumber_36 : decode cX6_setNumber 36 = .ok (.aload_n 0, 1) := by decide +kernel
theorem dX6_setNumber_37 : decode cX6_setNumber 37 = .ok (.getfield 9, 3) := by decide +kernel
theorem dX6_setNumber_40 : decode cX6_setNumber 40 = .ok (.iload_n 1, 1) := by decide +kernel
theorem dX6_setNumber_41 : decode cX6_setNumber 41 = .ok (.iload_n 2, 1) := by decide +kernel
theorem dX6_setNumber_42 : decode cX6_setNumber 42 = .ok (.iastore, 1) := by decide +kernel
theorem dX6_setNumber_43 : decode cX6_setNumber 43 = .ok (.iload_n 3, 1) := by decide +kernel
theorem dX6_setNumber_44 : decode cX6_setNumber 44 = .ok (.ireturn, 1) := by decide +kernel
theorem bX6_setNumber_0 {Z : ZT} {X : XT} {μ : Mu} {a0 : Nat} {a1 : Int32} {a2 : Int32} (E : Ent Z X mX6_setNumber 0 0) (ha0 : SH a0 = .inl 6) {p : Int32 → Mu → Prop} 
    (c : CtrS Z mX11_within [.int a1, .int (nI 5)] μ (rI p)) (k : ∀ v μ1, p v μ1 → JS Z X 5 [(0, .ref (Z.2.2.1 + a0)), (1, .int a1), (2, .int a2)] [.int v] μ1) :
    JS Z X 0 [(0, .ref (Z.2.2.1 + a0)), (1, .int a1), (2, .int a2)] [] μ := by
  refine J_iload_n E dX6_setNumber_0 rfl ?_
  refine J_iconst (v := nI 5) E dX6_setNumber_1 rfl ?_
  refine S_callSN (As := [.int a1, .int (nI 5)]) (rest := []) E dX6_setNumber_2 c kX11_within ⟨Nat.le_of_ble_eq_true rfl, Nat.le_of_ble_eq_true rfl⟩ rfl (Nat.le_of_ble_eq_true rfl) w3_131 w3_46 (fun r_ μ1 hp_ => ?_)
  obtain ⟨v, rfl, hp_⟩ := hp_
  exact k v μ1 hp_
theorem bX6_setNumber_5 {Z : ZT} {X : XT} {μ : Mu} {a0 : Nat} {a1 : Int32} {a2 : Int32} {s0 : Int32} (E : Ent Z X mX6_setNumber 0 0) (ha0 : SH a0 = .inl 6) 
    (kt : s0 = 0 → JS Z X 26 [] [] μ) (kf : ¬ (s0 = 0) → JS Z X 8 [(0, .ref (Z.2.2.1 + a0)), (1, .int a1), (2, .int a2)] [] μ) :
    JS Z X 5 [(0, .ref (Z.2.2.1 + a0)), (1, .int a1), (2, .int a2)] [.int s0] μ := by
  refine J_if_eq (tgt := 26) E dX6_setNumber_5 (by decide) (fun c => ?_) (fun c => ?_)
  · refine J.weak [] rfl ?_
    exact kt c
  · exact kf c
theorem bX6_setNumber_8 {Z : ZT} {X : XT} {μ : Mu} {a0 : Nat} {a1 : Int32} {a2 : Int32} (E : Ent Z X mX6_setNumber 0 0) (ha0 : SH a0 = .inl 6) (s1_ : vp_in a1 5)
    (kt : a2 < (([1, 0, 0, 0, 0] : List Int32).getD (ix a1) 0) → JS Z X 26 [] [] μ) (kf : ¬ (a2 < (([1, 0, 0, 0, 0] : List Int32).getD (ix a1) 0)) → JS Z X 17 [(0, .ref (Z.2.2.1 + a0)), (1, .int a1), (2, .int a2)] [] μ) :
    JS Z X 8 [(0, .ref (Z.2.2.1 + a0)), (1, .int a1), (2, .int a2)] [] μ := by
  refine J_iload_n E dX6_setNumber_8 rfl ?_
  refine J_gets_tlea E dX6_setNumber_9 w3_132 ?_
  refine J_iload_n E dX6_setNumber_12 rfl ?_
  refine J_ld_tlea E dX6_setNumber_13 s1_ ?_
  refine J_icmp_lt (tgt := 26) E dX6_setNumber_14 (by decide) (fun c => ?_) (fun c => ?_)
  · refine J.weak [] rfl ?_
    exact kt c
  · exact kf c
theorem bX6_setNumber_17 {Z : ZT} {X : XT} {μ : Mu} {a0 : Nat} {a1 : Int32} {a2 : Int32} (E : Ent Z X mX6_setNumber 0 0) (ha0 : SH a0 = .inl 6) (s1_ : vp_in a1 5)
    (kt : a2 ≤ (([6, 200, 10, 9, 9] : List Int32).getD (ix a1) 0) → JS Z X 29 [(0, .ref (Z.2.2.1 + a0)), (1, .int a1), (2, .int a2)] [] μ) (kf : ¬ (a2 ≤ (([6, 200, 10, 9, 9] : List Int32).getD (ix a1) 0)) → JS Z X 26 [] [] μ) :
    JS Z X 17 [(0, .ref (Z.2.2.1 + a0)), (1, .int a1), (2, .int a2)] [] μ := by
  refine J_iload_n E dX6_setNumber_17 rfl ?_
  refine J_gets_tgre E dX6_setNumber_18 w3_134 ?_
  refine J_iload_n E dX6_setNumber_21 rfl ?_
  refine J_ld_tgre E dX6_setNumber_22 s1_ ?_
  refine J_icmp_le (tgt := 29) E dX6_setNumber_23 (by decide) (fun c => ?_) (fun c => ?_)
  · exact kt c
  · refine J.weak [] rfl ?_
    exact kf c
theorem bX6_setNumber_26 {Z : ZT} {X : XT} {μ : Mu} (E : Ent Z X mX6_setNumber 0 0) {P : Option Value → Mu → Prop} (hB : BodS Z X P) 
    (k : P (some (.int (-2))) μ) :
    JS Z X 26 [] [] μ := by
  refine J_bipush (v := -2) E dX6_setNumber_26 rfl ?_
  exact S_iret E hB dX6_setNumber_28 rfl k
theorem bX6_setNumber_29 {Z : ZT} {X : XT} {μ : Mu} {a0 : Nat} {a1 : Int32} {a2 : Int32} (E : Ent Z X mX6_setNumber 0 0) (ha0 : SH a0 = .inl 6) (s1_ : vp_in a1 5) (s2_ : vp_in a1 5)
    (k : JS Z X 43 [(3, .int (μ (a0 + 1) (ix a1)))] [] (uR μ (a0 + 1) (upd (μ (a0 + 1)) (ix a1) a2))) :
    JS Z X 29 [(0, .ref (Z.2.2.1 + a0)), (1, .int a1), (2, .int a2)] [] μ := by
  refine J_aload_n E dX6_setNumber_29 rfl ?_
  refine S_get (ci := 6) (q := 0) (v := .ref (Z.2.2.1 + (a0 + 1))) E dX6_setNumber_30 fs_X6_9 ha0 rfl ?_
  refine J_iload_n E dX6_setNumber_33 rfl ?_
  refine S_iald E dX6_setNumber_34 (shr_X6_0 ha0) s1_ ?_
  refine J_istore_n (lv' := [(0, .ref (Z.2.2.1 + a0)), (1, .int a1), (2, .int a2), (3, .int (μ (a0 + 1) (ix a1)))]) E dX6_setNumber_35 (Nat.le_of_ble_eq_true rfl) rfl ?_
  refine J_aload_n E dX6_setNumber_36 rfl ?_
  refine S_get (ci := 6) (q := 0) (v := .ref (Z.2.2.1 + (a0 + 1))) E dX6_setNumber_37 fs_X6_9 ha0 rfl ?_
  refine J_iload_n E dX6_setNumber_40 rfl ?_
  refine J_iload_n E dX6_setNumber_41 rfl ?_
  refine S_iast E dX6_setNumber_42 (shr_X6_0 ha0) s2_ ?_
  refine J.weak [3] rfl ?_
  exact k
theorem bX6_setNumber_43 {Z : ZT} {X : XT} {μ : Mu} {a3 : Int32} (E : Ent Z X mX6_setNumber 0 0) {P : Option Value → Mu → Prop} (hB : BodS Z X P) 
    (k : P (some (.int a3)) μ) :
    JS Z X 43 [(3, .int a3)] [] μ := by
  refine J_iload_n E dX6_setNumber_43 rfl ?_
  exact S_iret E hB dX6_setNumber_44 rfl k
theorem dX6_addReport_0 : decode cX6_addReport 0 = .ok (.iload_n 1, 1) := by decide +kernel
theorem dX6_addReport_1 : decode cX6_addReport 1 = .ok (.iconst 4, 1) := by decide +kernel
theorem dX6_addReport_2 : decode cX6_addReport 2 = .ok (.invokestatic 31, 3) := by decide +kernel
theorem dX6_addReport_5 : decode cX6_addReport 5 = .ok (.ifCond .eq 14, 3) := by decide +kernel
theorem dX6_addReport_8 : decode cX6_addReport 8 = .ok (.iload_n 2, 1) := by decide +kernel
theorem dX6_addReport_9 : decode cX6_addReport 9 = .ok (.iconst 1, 1) := by decide +kernel
theorem dX6_addReport_10 : decode cX6_addReport 10 = .ok (.if_icmp .lt 9, 3) := by decide +kernel
theorem dX6_addReport_13 : decode cX6_addReport 13 = .ok (.iload_n 2, 1) := by decide +kernel
theorem dX6_addReport_14 : decode cX6_addReport 14 = .ok (.bipush 99, 2) := by decide +kernel
theorem dX6_addReport_16 : decode cX6_addReport 16 = .ok (.if_icmp .le 6, 3) := by decide +kernel
theorem dX6_addReport_19 : decode cX6_addReport 19 = .ok (.bipush (-2), 2) := by decide +kernel
theorem dX6_addReport_21 : decode cX6_addReport 21 = .ok (.ireturn, 1) := by decide +kernel
theorem dX6_addReport_22 : decode cX6_addReport 22 = .ok (.aload_n 0, 1) := by decide +kernel
theorem dX6_addReport_23 : decode cX6_addReport 23 = .ok (.getfield 21, 3) := by decide +kernel
theorem dX6_addReport_26 : decode cX6_addReport 26 = .ok (.bipush 20, 2) := by decide +kernel
theorem dX6_addReport_28 : decode cX6_addReport 28 = .ok (.if_icmp .lt 6, 3) := by decide +kernel
theorem dX6_addReport_31 : decode cX6_addReport 31 = .ok (.bipush (-4), 2) := by decide +kernel
theorem dX6_addReport_33 : decode cX6_addReport 33 = .ok (.ireturn, 1) := by decide +kernel
theorem dX6_addReport_34 : decode cX6_addReport 34 = .ok (.aload_n 0, 1) := by decide +kernel
theorem dX6_addReport_35 : decode cX6_addReport 35 = .ok (.getfield 15, 3) := by decide +kernel
theorem dX6_addReport_38 : decode cX6_addReport 38 = .ok (.aload_n 0, 1) := by decide +kernel
theorem dX6_addReport_39 : decode cX6_addReport 39 = .ok (.getfield 21, 3) := by decide +kernel
theorem dX6_addReport_42 : decode cX6_addReport 42 = .ok (.iload_n 1, 1) := by decide +kernel
theorem dX6_addReport_43 : decode cX6_addReport 43 = .ok (.iastore, 1) := by decide +kernel
theorem dX6_addReport_44 : decode cX6_addReport 44 = .ok (.aload_n 0, 1) := by decide +kernel
theorem dX6_addReport_45 : decode cX6_addReport 45 = .ok (.getfield 18, 3) := by decide +kernel
theorem dX6_addReport_48 : decode cX6_addReport 48 = .ok (.aload_n 0, 1) := by decide +kernel
theorem dX6_addReport_49 : decode cX6_addReport 49 = .ok (.getfield 21, 3) := by decide +kernel
theorem dX6_addReport_52 : decode cX6_addReport 52 = .ok (.iload_n 2, 1) := by decide +kernel
theorem dX6_addReport_53 : decode cX6_addReport 53 = .ok (.iastore, 1) := by decide +kernel
theorem dX6_addReport_54 : decode cX6_addReport 54 = .ok (.aload_n 0, 1) := by decide +kernel
theorem dX6_addReport_55 : decode cX6_addReport 55 = .ok (.dup, 1) := by decide +kernel
theorem dX6_addReport_56 : decode cX6_addReport 56 = .ok (.getfield 21, 3) := by decide +kernel
theorem dX6_addReport_59 : decode cX6_addReport 59 = .ok (.iconst 1, 1) := by decide +kernel
theorem dX6_addReport_60 : decode cX6_addReport 60 = .ok (.iadd, 1) := by decide +kernel
theorem dX6_addReport_61 : decode cX6_addReport 61 = .ok (.putfield 21, 3) := by decide +kernel
theorem dX6_addReport_64 : decode cX6_addReport 64 = .ok (.aload_n 0, 1) := by decide +kernel
theorem dX6_addReport_65 : decode cX6_addReport 65 = .ok (.getfield 21, 3) := by decide +kernel
theorem dX6_addReport_68 : decode cX6_addReport 68 = .ok (.ireturn, 1) := by decide +kernel
theorem bX6_addReport_0 {Z : ZT} {X : XT} {μ : Mu} {a0 : Nat} {a1 : Int32} {a2 : Int32} (E : Ent Z X mX6_addReport 0 0) (ha0 : SH a0 = .inl 6) {p : Int32 → Mu → Prop} 
    (c : CtrS Z mX11_within [.int a1, .int (nI 4)] μ (rI p)) (k : ∀ v μ1, p v μ1 → JS Z X 5 [(0, .ref (Z.2.2.1 + a0)), (1, .int a1), (2, .int a2)] [.int v] μ1) :
    JS Z X 0 [(0, .ref (Z.2.2.1 + a0)), (1, .int a1), (2, .int a2)] [] μ := by
  refine J_iload_n E dX6_addReport_0 rfl ?_
  refine J_iconst (v := nI 4) E dX6_addReport_1 rfl ?_
  refine S_callSN (As := [.int a1, .int (nI 4)]) (rest := []) E dX6_addReport_2 c kX11_within ⟨Nat.le_of_ble_eq_true rfl, Nat.le_of_ble_eq_true rfl⟩ rfl (Nat.le_of_ble_eq_true rfl) w3_131 w3_46 (fun r_ μ1 hp_ => ?_)
  obtain ⟨v, rfl, hp_⟩ := hp_
  exact k v μ1 hp_
theorem bX6_addReport_5 {Z : ZT} {X : XT} {μ : Mu} {a0 : Nat} {a1 : Int32} {a2 : Int32} {s0 : Int32} (E : Ent Z X mX6_addReport 0 0) (ha0 : SH a0 = .inl 6) 
    (kt : s0 = 0 → JS Z X 19 [] [] μ) (kf : ¬ (s0 = 0) → JS Z X 8 [(0, .ref (Z.2.2.1 + a0)), (1, .int a1), (2, .int a2)] [] μ) :
    JS Z X 5 [(0, .ref (Z.2.2.1 + a0)), (1, .int a1), (2, .int a2)] [.int s0] μ := by
  refine J_if_eq (tgt := 19) E dX6_addReport_5 (by decide) (fun c => ?_) (fun c => ?_)
  · refine J.weak [] rfl ?_
    exact kt c
  · exact kf c
theorem bX6_addReport_8 {Z : ZT} {X : XT} {μ : Mu} {a0 : Nat} {a1 : Int32} {a2 : Int32} (E : Ent Z X mX6_addReport 0 0) (ha0 : SH a0 = .inl 6) 
    (kt : a2 < (nI 1) → JS Z X 19 [] [] μ) (kf : ¬ (a2 < (nI 1)) → JS Z X 13 [(0, .ref (Z.2.2.1 + a0)), (1, .int a1), (2, .int a2)] [] μ) :
    JS Z X 8 [(0, .ref (Z.2.2.1 + a0)), (1, .int a1), (2, .int a2)] [] μ := by
  refine J_iload_n E dX6_addReport_8 rfl ?_
  refine J_iconst (v := nI 1) E dX6_addReport_9 rfl ?_
  refine J_icmp_lt (tgt := 19) E dX6_addReport_10 (by decide) (fun c => ?_) (fun c => ?_)
  · refine J.weak [] rfl ?_
    exact kt c
  · exact kf c
theorem bX6_addReport_13 {Z : ZT} {X : XT} {μ : Mu} {a0 : Nat} {a1 : Int32} {a2 : Int32} (E : Ent Z X mX6_addReport 0 0) (ha0 : SH a0 = .inl 6) 
    (kt : a2 ≤ (nI 99) → JS Z X 22 [(0, .ref (Z.2.2.1 + a0)), (1, .int a1), (2, .int a2)] [] μ) (kf : ¬ (a2 ≤ (nI 99)) → JS Z X 19 [] [] μ) :
    JS Z X 13 [(0, .ref (Z.2.2.1 + a0)), (1, .int a1), (2, .int a2)] [] μ := by
  refine J_iload_n E dX6_addReport_13 rfl ?_
  refine J_bipush (v := nI 99) E dX6_addReport_14 rfl ?_
  refine J_icmp_le (tgt := 22) E dX6_addReport_16 (by decide) (fun c => ?_) (fun c => ?_)
  · exact kt c
  · refine J.weak [] rfl ?_
    exact kf c
theorem bX6_addReport_19 {Z : ZT} {X : XT} {μ : Mu} (E : Ent Z X mX6_addReport 0 0) {P : Option Value → Mu → Prop} (hB : BodS Z X P) 
    (k : P (some (.int (-2))) μ) :
    JS Z X 19 [] [] μ := by
  refine J_bipush (v := -2) E dX6_addReport_19 rfl ?_
  exact S_iret E hB dX6_addReport_21 rfl k
theorem bX6_addReport_22 {Z : ZT} {X : XT} {μ : Mu} {a0 : Nat} {a1 : Int32} {a2 : Int32} (E : Ent Z X mX6_addReport 0 0) (ha0 : SH a0 = .inl 6) 
    (kt : (μ a0 1) < (nI 20) → JS Z X 34 [(0, .ref (Z.2.2.1 + a0)), (1, .int a1), (2, .int a2)] [] μ) (kf : ¬ ((μ a0 1) < (nI 20)) → JS Z X 31 [] [] μ) :
    JS Z X 22 [(0, .ref (Z.2.2.1 + a0)), (1, .int a1), (2, .int a2)] [] μ := by
  refine J_aload_n E dX6_addReport_22 rfl ?_
  refine S_get (ci := 6) (q := 1) (v := .int (μ a0 1)) E dX6_addReport_23 fs_X6_21 ha0 rfl ?_
  refine J_bipush (v := nI 20) E dX6_addReport_26 rfl ?_
  refine J_icmp_lt (tgt := 34) E dX6_addReport_28 (by decide) (fun c => ?_) (fun c => ?_)
  · exact kt c
  · refine J.weak [] rfl ?_
    exact kf c
theorem bX6_addReport_31 {Z : ZT} {X : XT} {μ : Mu} (E : Ent Z X mX6_addReport 0 0) {P : Option Value → Mu → Prop} (hB : BodS Z X P) 
    (k : P (some (.int (-4))) μ) :
    JS Z X 31 [] [] μ := by
  refine J_bipush (v := -4) E dX6_addReport_31 rfl ?_
  exact S_iret E hB dX6_addReport_33 rfl k
theorem bX6_addReport_34 {Z : ZT} {X : XT} {μ : Mu} {a0 : Nat} {a1 : Int32} {a2 : Int32} (E : Ent Z X mX6_addReport 0 0) (ha0 : SH a0 = .inl 6) (s1_ : vp_in (μ a0 1) 20)
    (k : JS Z X 44 [(0, .ref (Z.2.2.1 + a0)), (2, .int a2)] [] (uR μ (a0 + 2) (upd (μ (a0 + 2)) (ix (μ a0 1)) a1))) :
    JS Z X 34 [(0, .ref (Z.2.2.1 + a0)), (1, .int a1), (2, .int a2)] [] μ := by
  refine J_aload_n E dX6_addReport_34 rfl ?_
  refine S_get (ci := 6) (q := 2) (v := .ref (Z.2.2.1 + (a0 + 2))) E dX6_addReport_35 fs_X6_15 ha0 rfl ?_
  refine J_aload_n E dX6_addReport_38 rfl ?_
  refine S_get (ci := 6) (q := 1) (v := .int (μ a0 1)) E dX6_addReport_39 fs_X6_21 ha0 rfl ?_
  refine J_iload_n E dX6_addReport_42 rfl ?_
  refine S_iast E dX6_addReport_43 (shr_X6_2 ha0) s1_ ?_
  refine J.weak [0, 2] rfl ?_
  exact k
theorem bX6_addReport_44 {Z : ZT} {X : XT} {μ : Mu} {a0 : Nat} {a2 : Int32} (E : Ent Z X mX6_addReport 0 0) (ha0 : SH a0 = .inl 6) (s1_ : vp_in (μ a0 1) 20)
    (k : JS Z X 54 [(0, .ref (Z.2.2.1 + a0))] [] (uR μ (a0 + 3) (upd (μ (a0 + 3)) (ix (μ a0 1)) a2))) :
    JS Z X 44 [(0, .ref (Z.2.2.1 + a0)), (2, .int a2)] [] μ := by
  refine J_aload_n E dX6_addReport_44 rfl ?_
  refine S_get (ci := 6) (q := 3) (v := .ref (Z.2.2.1 + (a0 + 3))) E dX6_addReport_45 fs_X6_18 ha0 rfl ?_
  refine J_aload_n E dX6_addReport_48 rfl ?_
  refine S_get (ci := 6) (q := 1) (v := .int (μ a0 1)) E dX6_addReport_49 fs_X6_21 ha0 rfl ?_
  refine J_iload_n E dX6_addReport_52 rfl ?_
  refine S_iast E dX6_addReport_53 (shr_X6_3 ha0) s1_ ?_
  refine J.weak [0] rfl ?_
  exact k
theorem bX6_addReport_54 {Z : ZT} {X : XT} {μ : Mu} {a0 : Nat} (E : Ent Z X mX6_addReport 0 0) (ha0 : SH a0 = .inl 6) 
    (k : JS Z X 64 [(0, .ref (Z.2.2.1 + a0))] [] (uR μ a0 (upd (μ a0) 1 ((μ a0 1) + (nI 1))))) :
    JS Z X 54 [(0, .ref (Z.2.2.1 + a0))] [] μ := by
  refine J_aload_n E dX6_addReport_54 rfl ?_
  refine J_dup E dX6_addReport_55 rfl ?_
  refine S_get (ci := 6) (q := 1) (v := .int (μ a0 1)) E dX6_addReport_56 fs_X6_21 ha0 rfl ?_
  refine J_iconst (v := nI 1) E dX6_addReport_59 rfl ?_
  refine J_iadd E dX6_addReport_60 ?_
  refine S_puti E dX6_addReport_61 fs_X6_21 fp_X6_1 ha0 rfl ?_
  exact k
theorem bX6_addReport_64 {Z : ZT} {X : XT} {μ : Mu} {a0 : Nat} (E : Ent Z X mX6_addReport 0 0) {P : Option Value → Mu → Prop} (hB : BodS Z X P) (ha0 : SH a0 = .inl 6) 
    (k : P (some (.int (μ a0 1))) μ) :
    JS Z X 64 [(0, .ref (Z.2.2.1 + a0))] [] μ := by
  refine J_aload_n E dX6_addReport_64 rfl ?_
  refine S_get (ci := 6) (q := 1) (v := .int (μ a0 1)) E dX6_addReport_65 fs_X6_21 ha0 rfl ?_
  exact S_iret E hB dX6_addReport_68 rfl k
theorem dX6_digestOnto_0 : decode cX6_digestOnto 0 = .ok (.lload_n 1, 1) := by decide +kernel
theorem dX6_digestOnto_1 : decode cX6_digestOnto 1 = .ok (.lstore_n 3, 1) := by decide +kernel
theorem dX6_digestOnto_2 : decode cX6_digestOnto 2 = .ok (.iconst 0, 1) := by decide +kernel
theorem dX6_digestOnto_3 : decode cX6_digestOnto 3 = .ok (.istore 5, 2) := by decide +kernel
theorem dX6_digestOnto_5 : decode cX6_digestOnto 5 = .ok (.iload 5, 2) := by decide +kernel
theorem dX6_digestOnto_7 : decode cX6_digestOnto 7 = .ok (.iconst 5, 1) := by decide +kernel
theorem dX6_digestOnto_8 : decode cX6_digestOnto 8 = .ok (.if_icmp .ge 24, 3) := by decide +kernel
theorem dX6_digestOnto_11 : decode cX6_digestOnto 11 = .ok (.ldc2_w 41, 3) := by decide +kernel
theorem dX6_digestOnto_14 : decode cX6_digestOnto 14 = .ok (.lload_n 3, 1) := by decide +kernel
theorem dX6_digestOnto_15 : decode cX6_digestOnto 15 = .ok (.lmul, 1) := by decide +kernel
theorem dX6_digestOnto_16 : decode cX6_digestOnto 16 = .ok (.aload_n 0, 1) := by decide +kernel
theorem dX6_digestOnto_17 : decode cX6_digestOnto 17 = .ok (.getfield 9, 3) := by decide +kernel
theorem dX6_digestOnto_20 : decode cX6_digestOnto 20 = .ok (.iload 5, 2) := by decide +kernel
theorem dX6_digestOnto_22 : decode cX6_digestOnto 22 = .ok (.iaload, 1) := by decide +kernel
theorem dX6_digestOnto_23 : decode cX6_digestOnto 23 = .ok (.i2l, 1) := by decide +kernel
theorem dX6_digestOnto_24 : decode cX6_digestOnto 24 = .ok (.ladd, 1) := by decide +kernel
theorem dX6_digestOnto_25 : decode cX6_digestOnto 25 = .ok (.lstore_n 3, 1) := by decide +kernel
theorem dX6_digestOnto_26 : decode cX6_digestOnto 26 = .ok (.iinc 5 1, 3) := by decide +kernel
theorem dX6_digestOnto_29 : decode cX6_digestOnto 29 = .ok (.goto (-24), 3) := by decide +kernel
theorem dX6_digestOnto_32 : decode cX6_digestOnto 32 = .ok (.iconst 0, 1) := by decide +kernel
theorem dX6_digestOnto_33 : decode cX6_digestOnto 33 = .ok (.istore 5, 2) := by decide +kernel
theorem dX6_digestOnto_35 : decode cX6_digestOnto 35 = .ok (.iload 5, 2) := by decide +kernel
theorem dX6_digestOnto_37 : decode cX6_digestOnto 37 = .ok (.aload_n 0, 1) := by decide +kernel
theorem dX6_digestOnto_38 : decode cX6_digestOnto 38 = .ok (.getfield 21, 3) := by decide +kernel
theorem dX6_digestOnto_41 : decode cX6_digestOnto 41 = .ok (.if_icmp .ge 39, 3) := by decide +kernel
theorem dX6_digestOnto_44 : decode cX6_digestOnto 44 = .ok (.ldc2_w 41, 3) := by decide +kernel
theorem dX6_digestOnto_47 : decode cX6_digestOnto 47 = .ok (.lload_n 3, 1) := by decide +kernel
theorem dX6_digestOnto_48 : decode cX6_digestOnto 48 = .ok (.lmul, 1) := by decide +kernel
theorem dX6_digestOnto_49 : decode cX6_digestOnto 49 = .ok (.aload_n 0, 1) := by decide +kernel
theorem dX6_digestOnto_50 : decode cX6_digestOnto 50 = .ok (.getfield 15, 3) := by decide +kernel
theorem dX6_digestOnto_53 : decode cX6_digestOnto 53 = .ok (.iload 5, 2) := by decide +kernel
theorem dX6_digestOnto_55 : decode cX6_digestOnto 55 = .ok (.iaload, 1) := by decide +kernel
theorem dX6_digestOnto_56 : decode cX6_digestOnto 56 = .ok (.i2l, 1) := by decide +kernel
theorem dX6_digestOnto_57 : decode cX6_digestOnto 57 = .ok (.ladd, 1) := by decide +kernel
theorem dX6_digestOnto_58 : decode cX6_digestOnto 58 = .ok (.lstore_n 3, 1) := by decide +kernel
theorem dX6_digestOnto_59 : decode cX6_digestOnto 59 = .ok (.ldc2_w 41, 3) := by decide +kernel
theorem dX6_digestOnto_62 : decode cX6_digestOnto 62 = .ok (.lload_n 3, 1) := by decide +kernel
theorem dX6_digestOnto_63 : decode cX6_digestOnto 63 = .ok (.lmul, 1) := by decide +kernel
theorem dX6_digestOnto_64 : decode cX6_digestOnto 64 = .ok (.aload_n 0, 1) := by decide +kernel
theorem dX6_digestOnto_65 : decode cX6_digestOnto 65 = .ok (.getfield 18, 3) := by decide +kernel
theorem dX6_digestOnto_68 : decode cX6_digestOnto 68 = .ok (.iload 5, 2) := by decide +kernel
theorem dX6_digestOnto_70 : decode cX6_digestOnto 70 = .ok (.iaload, 1) := by decide +kernel
theorem dX6_digestOnto_71 : decode cX6_digestOnto 71 = .ok (.i2l, 1) := by decide +kernel
theorem dX6_digestOnto_72 : decode cX6_digestOnto 72 = .ok (.ladd, 1) := by decide +kernel
theorem dX6_digestOnto_73 : decode cX6_digestOnto 73 = .ok (.lstore_n 3, 1) := by decide +kernel
theorem dX6_digestOnto_74 : decode cX6_digestOnto 74 = .ok (.iinc 5 1, 3) := by decide +kernel
theorem dX6_digestOnto_77 : decode cX6_digestOnto 77 = .ok (.goto (-42), 3) := by decide +kernel
theorem dX6_digestOnto_80 : decode cX6_digestOnto 80 = .ok (.lload_n 3, 1) := by decide +kernel
theorem dX6_digestOnto_81 : decode cX6_digestOnto 81 = .ok (.lreturn, 1) := by decide +kernel
theorem bX6_digestOnto_0 {Z : ZT} {X : XT} {μ : Mu} {a0 : Nat} {a1 : Int64} (E : Ent Z X mX6_digestOnto 0 0) (ha0 : SH a0 = .inl 6) 
    (k : JS Z X 5 [(0, .ref (Z.2.2.1 + a0)), (3, .long a1), (5, .int (nI 0))] [] μ) :
    JS Z X 0 [(0, .ref (Z.2.2.1 + a0)), (1, .long a1)] [] μ := by
  refine J_lload_n E dX6_digestOnto_0 rfl ?_
  refine J_lstore_n (lv' := [(0, .ref (Z.2.2.1 + a0)), (1, .long a1), (3, .long a1)]) E dX6_digestOnto_1 (Nat.le_of_ble_eq_true rfl) rfl ?_
  refine J_iconst (v := nI 0) E dX6_digestOnto_2 rfl ?_
  refine J_istore (lv' := [(0, .ref (Z.2.2.1 + a0)), (1, .long a1), (3, .long a1), (5, .int (nI 0))]) E dX6_digestOnto_3 (Nat.le_of_ble_eq_true rfl) rfl ?_
  refine J.weak [0, 2, 3] rfl ?_
  exact k
theorem bX6_digestOnto_5 {Z : ZT} {X : XT} {μ : Mu} {a0 : Nat} {a3 : Int64} {a5 : Int32} (E : Ent Z X mX6_digestOnto 0 0) (ha0 : SH a0 = .inl 6) 
    (kt : (nI 5) ≤ a5 → JS Z X 32 [(0, .ref (Z.2.2.1 + a0)), (3, .long a3)] [] μ) (kf : ¬ ((nI 5) ≤ a5) → JS Z X 11 [(0, .ref (Z.2.2.1 + a0)), (3, .long a3), (5, .int a5)] [] μ) :
    JS Z X 5 [(0, .ref (Z.2.2.1 + a0)), (3, .long a3), (5, .int a5)] [] μ := by
  refine J_iload E dX6_digestOnto_5 rfl ?_
  refine J_iconst (v := nI 5) E dX6_digestOnto_7 rfl ?_
  refine J_icmp_ge (tgt := 32) E dX6_digestOnto_8 (by decide) (fun c => ?_) (fun c => ?_)
  · refine J.weak [0, 1] rfl ?_
    exact kt c
  · exact kf c
theorem bX6_digestOnto_11 {Z : ZT} {X : XT} {μ : Mu} {a0 : Nat} {a3 : Int64} {a5 : Int32} (E : Ent Z X mX6_digestOnto 0 0) (ha0 : SH a0 = .inl 6) (s1_ : vp_in a5 5)
    (k : JS Z X 5 [(0, .ref (Z.2.2.1 + a0)), (3, .long (((lN 31) * a3) + ((μ (a0 + 1) (ix a5)).toInt64))), (5, .int (a5 + nI 1))] [] μ) :
    JS Z X 11 [(0, .ref (Z.2.2.1 + a0)), (3, .long a3), (5, .int a5)] [] μ := by
  refine J_ldc2 (v := lN 31) E dX6_digestOnto_11 w5_180 ?_
  refine J_lload_n E dX6_digestOnto_14 rfl ?_
  refine J_lmul E dX6_digestOnto_15 ?_
  refine J_aload_n E dX6_digestOnto_16 rfl ?_
  refine S_get (ci := 6) (q := 0) (v := .ref (Z.2.2.1 + (a0 + 1))) E dX6_digestOnto_17 fs_X6_9 ha0 rfl ?_
  refine J_iload E dX6_digestOnto_20 rfl ?_
  refine S_iald E dX6_digestOnto_22 (shr_X6_0 ha0) s1_ ?_
  refine J_i2l E dX6_digestOnto_23 ?_
  refine J_ladd E dX6_digestOnto_24 ?_
  refine J_lstore_n (lv' := [(0, .ref (Z.2.2.1 + a0)), (3, .long (((lN 31) * a3) + ((μ (a0 + 1) (ix a5)).toInt64))), (5, .int a5)]) E dX6_digestOnto_25 (Nat.le_of_ble_eq_true rfl) rfl ?_
  refine J_iinc (v := a5 + nI 1) (lv' := [(0, .ref (Z.2.2.1 + a0)), (3, .long (((lN 31) * a3) + ((μ (a0 + 1) (ix a5)).toInt64))), (5, .int (a5 + nI 1))]) E dX6_digestOnto_26 rfl rfl (Nat.le_of_ble_eq_true rfl) rfl ?_
  refine J_goto (tgt := 5) E dX6_digestOnto_29 (by decide) ?_
  exact k
theorem bX6_digestOnto_32 {Z : ZT} {X : XT} {μ : Mu} {a0 : Nat} {a3 : Int64} (E : Ent Z X mX6_digestOnto 0 0) (ha0 : SH a0 = .inl 6) 
    (k : JS Z X 35 [(0, .ref (Z.2.2.1 + a0)), (3, .long a3), (5, .int (nI 0))] [] μ) :
    JS Z X 32 [(0, .ref (Z.2.2.1 + a0)), (3, .long a3)] [] μ := by
  refine J_iconst (v := nI 0) E dX6_digestOnto_32 rfl ?_
  refine J_istore (lv' := [(0, .ref (Z.2.2.1 + a0)), (3, .long a3), (5, .int (nI 0))]) E dX6_digestOnto_33 (Nat.le_of_ble_eq_true rfl) rfl ?_
  exact k
theorem bX6_digestOnto_35 {Z : ZT} {X : XT} {μ : Mu} {a0 : Nat} {a3 : Int64} {a5 : Int32} (E : Ent Z X mX6_digestOnto 0 0) (ha0 : SH a0 = .inl 6) 
    (kt : (μ a0 1) ≤ a5 → JS Z X 80 [(3, .long a3)] [] μ) (kf : ¬ ((μ a0 1) ≤ a5) → JS Z X 44 [(0, .ref (Z.2.2.1 + a0)), (3, .long a3), (5, .int a5)] [] μ) :
    JS Z X 35 [(0, .ref (Z.2.2.1 + a0)), (3, .long a3), (5, .int a5)] [] μ := by
  refine J_iload E dX6_digestOnto_35 rfl ?_
  refine J_aload_n E dX6_digestOnto_37 rfl ?_
  refine S_get (ci := 6) (q := 1) (v := .int (μ a0 1)) E dX6_digestOnto_38 fs_X6_21 ha0 rfl ?_
  refine J_icmp_ge (tgt := 80) E dX6_digestOnto_41 (by decide) (fun c => ?_) (fun c => ?_)
  · refine J.weak [1] rfl ?_
    exact kt c
  · exact kf c
theorem bX6_digestOnto_44 {Z : ZT} {X : XT} {μ : Mu} {a0 : Nat} {a3 : Int64} {a5 : Int32} (E : Ent Z X mX6_digestOnto 0 0) (ha0 : SH a0 = .inl 6) (s1_ : vp_in a5 20) (s2_ : vp_in a5 20)
    (k : JS Z X 35 [(0, .ref (Z.2.2.1 + a0)), (3, .long (((lN 31) * (((lN 31) * a3) + ((μ (a0 + 2) (ix a5)).toInt64))) + ((μ (a0 + 3) (ix a5)).toInt64))), (5, .int (a5 + nI 1))] [] μ) :
    JS Z X 44 [(0, .ref (Z.2.2.1 + a0)), (3, .long a3), (5, .int a5)] [] μ := by
  refine J_ldc2 (v := lN 31) E dX6_digestOnto_44 w5_180 ?_
  refine J_lload_n E dX6_digestOnto_47 rfl ?_
  refine J_lmul E dX6_digestOnto_48 ?_
  refine J_aload_n E dX6_digestOnto_49 rfl ?_
  refine S_get (ci := 6) (q := 2) (v := .ref (Z.2.2.1 + (a0 + 2))) E dX6_digestOnto_50 fs_X6_15 ha0 rfl ?_
  refine J_iload E dX6_digestOnto_53 rfl ?_
  refine S_iald E dX6_digestOnto_55 (shr_X6_2 ha0) s1_ ?_
  refine J_i2l E dX6_digestOnto_56 ?_
  refine J_ladd E dX6_digestOnto_57 ?_
  refine J_lstore_n (lv' := [(0, .ref (Z.2.2.1 + a0)), (3, .long (((lN 31) * a3) + ((μ (a0 + 2) (ix a5)).toInt64))), (5, .int a5)]) E dX6_digestOnto_58 (Nat.le_of_ble_eq_true rfl) rfl ?_
  refine J_ldc2 (v := lN 31) E dX6_digestOnto_59 w5_180 ?_
  refine J_lload_n E dX6_digestOnto_62 rfl ?_
  refine J_lmul E dX6_digestOnto_63 ?_
  refine J_aload_n E dX6_digestOnto_64 rfl ?_
  refine S_get (ci := 6) (q := 3) (v := .ref (Z.2.2.1 + (a0 + 3))) E dX6_digestOnto_65 fs_X6_18 ha0 rfl ?_
  refine J_iload E dX6_digestOnto_68 rfl ?_
  refine S_iald E dX6_digestOnto_70 (shr_X6_3 ha0) s2_ ?_
  refine J_i2l E dX6_digestOnto_71 ?_
  refine J_ladd E dX6_digestOnto_72 ?_
  refine J_lstore_n (lv' := [(0, .ref (Z.2.2.1 + a0)), (3, .long (((lN 31) * (((lN 31) * a3) + ((μ (a0 + 2) (ix a5)).toInt64))) + ((μ (a0 + 3) (ix a5)).toInt64))), (5, .int a5)]) E dX6_digestOnto_73 (Nat.le_of_ble_eq_true rfl) rfl ?_
  refine J_iinc (v := a5 + nI 1) (lv' := [(0, .ref (Z.2.2.1 + a0)), (3, .long (((lN 31) * (((lN 31) * a3) + ((μ (a0 + 2) (ix a5)).toInt64))) + ((μ (a0 + 3) (ix a5)).toInt64))), (5, .int (a5 + nI 1))]) E dX6_digestOnto_74 rfl rfl (Nat.le_of_ble_eq_true rfl) rfl ?_
  refine J_goto (tgt := 35) E dX6_digestOnto_77 (by decide) ?_
  exact k
theorem bX6_digestOnto_80 {Z : ZT} {X : XT} {μ : Mu} {a3 : Int64} (E : Ent Z X mX6_digestOnto 0 0) {P : Option Value → Mu → Prop} (hB : BodS Z X P) 
    (k : P (some (.long a3)) μ) :
    JS Z X 80 [(3, .long a3)] [] μ := by
  refine J_lload_n E dX6_digestOnto_80 rfl ?_
  exact S_lret E hB dX6_digestOnto_81 rfl k
theorem dX7_init_0 : decode cX7_init 0 = .ok (.aload_n 0, 1) := by decide +kernel
theorem dX7_init_1 : decode cX7_init 1 = .ok (.invokespecial 3, 3) := by decide +kernel
theorem dX7_init_4 : decode cX7_init 4 = .ok (.aload_n 0, 1) := by decide +kernel
theorem dX7_init_5 : decode cX7_init 5 = .ok (.bipush 6, 2) := by decide +kernel
theorem dX7_init_7 : decode cX7_init 7 = .ok (.newarray .int, 2) := by decide +kernel
theorem dX7_init_9 : decode cX7_init 9 = .ok (.putfield 9, 3) := by decide +kernel
theorem dX7_init_12 : decode cX7_init 12 = .ok (.aload_n 0, 1) := by decide +kernel
theorem dX7_init_13 : decode cX7_init 13 = .ok (.new 15, 3) := by decide +kernel
theorem dX7_init_16 : decode cX7_init 16 = .ok (.dup, 1) := by decide +kernel
theorem dX7_init_17 : decode cX7_init 17 = .ok (.invokespecial 17, 3) := by decide +kernel
theorem dX7_init_20 : decode cX7_init 20 = .ok (.putfield 18, 3) := by decide +kernel
theorem dX7_init_23 : decode cX7_init 23 = .ok (.aload_n 0, 1) := by decide +kernel
theorem dX7_init_24 : decode cX7_init 24 = .ok (.new 15, 3) := by decide +kernel
theorem dX7_init_27 : decode cX7_init 27 = .ok (.dup, 1) := by decide +kernel
theorem dX7_init_28 : decode cX7_init 28 = .ok (.invokespecial 17, 3) := by decide +kernel
theorem dX7_init_31 : decode cX7_init 31 = .ok (.putfield 22, 3) := by decide +kernel
theorem dX7_init_34 : decode cX7_init 34 = .ok (.aload_n 0, 1) := by decide +kernel
theorem dX7_init_35 : decode cX7_init 35 = .ok (.new 15, 3) := by decide +kernel
theorem dX7_init_38 : decode cX7_init 38 = .ok (.dup, 1) := by decide +kernel
theorem dX7_init_39 : decode cX7_init 39 = .ok (.invokespecial 17, 3) := by decide +kernel
theorem dX7_init_42 : decode cX7_init 42 = .ok (.putfield 25, 3) := by decide +kernel
theorem dX7_init_45 : decode cX7_init 45 = .ok (.aload_n 0, 1) := by decide +kernel
theorem dX7_init_46 : decode cX7_init 46 = .ok (.new 15, 3) := by decide +kernel
theorem dX7_init_49 : decode cX7_init 49 = .ok (.dup, 1) := by decide +kernel
theorem dX7_init_50 : decode cX7_init 50 = .ok (.invokespecial 17, 3) := by decide +kernel
theorem dX7_init_53 : decode cX7_init 53 = .ok (.putfield 28, 3) := by decide +kernel
theorem dX7_init_56 : decode cX7_init 56 = .ok (.aload_n 0, 1) := by decide +kernel
theorem dX7_init_57 : decode cX7_init 57 = .ok (.new 15, 3) := by decide +kernel
theorem dX7_init_60 : decode cX7_init 60 = .ok (.dup, 1) := by decide +kernel
theorem dX7_init_61 : decode cX7_init 61 = .ok (.invokespecial 17, 3) := by decide +kernel
theorem dX7_init_64 : decode cX7_init 64 = .ok (.putfield 31, 3) := by decide +kernel
theorem dX7_init_67 : decode cX7_init 67 = .ok (.aload_n 0, 1) := by decide +kernel
theorem dX7_init_68 : decode cX7_init 68 = .ok (.aload_n 1, 1) := by decide +kernel
theorem dX7_init_69 : decode cX7_init 69 = .ok (.putfield 34, 3) := by decide +kernel
theorem dX7_init_72 : decode cX7_init 72 = .ok (.return_, 1) := by decide +kernel
theorem dX7_findNearest_0 : decode cX7_findNearest 0 = .ok (.iconst 0, 1) := by decide +kernel
theorem dX7_findNearest_1 : decode cX7_findNearest 1 = .ok (.istore_n 2, 1) := by decide +kernel
theorem dX7_findNearest_2 : decode cX7_findNearest 2 = .ok (.iconst (-1), 1) := by decide +kernel
theorem dX7_findNearest_3 : decode cX7_findNearest 3 = .ok (.istore_n 3, 1) := by decide +kernel
theorem dX7_findNearest_4 : decode cX7_findNearest 4 = .ok (.aload_n 1, 1) := by decide +kernel
theorem dX7_findNearest_5 : decode cX7_findNearest 5 = .ok (.invokevirtual 38, 3) := by decide +kernel
theorem dX7_findNearest_8 : decode cX7_findNearest 8 = .ok (.iconst 0, 1) := by decide +kernel
theorem dX7_findNearest_9 : decode cX7_findNearest 9 = .ok (.istore 4, 2) := by decide +kernel
theorem dX7_findNearest_11 : decode cX7_findNearest 11 = .ok (.iload 4, 2) := by decide +kernel
theorem dX7_findNearest_13 : decode cX7_findNearest 13 = .ok (.sipush 720, 3) := by decide +kernel
theorem dX7_findNearest_16 : decode cX7_findNearest 16 = .ok (.if_icmp .ge 149, 3) := by decide +kernel
theorem dX7_findNearest_19 : decode cX7_findNearest 19 = .ok (.aload_n 1, 1) := by decide +kernel
theorem dX7_findNearest_20 : decode cX7_findNearest 20 = .ok (.invokevirtual 43, 3) := by decide +kernel
theorem dX7_findNearest_23 : decode cX7_findNearest 23 = .ok (.ifCond .eq 126, 3) := by decide +kernel
theorem dX7_findNearest_26 : decode cX7_findNearest 26 = .ok (.aload_n 1, 1) := by decide +kernel
theorem dX7_findNearest_27 : decode cX7_findNearest 27 = .ok (.getfield 47, 3) := by decide +kernel
theorem dX7_findNearest_30 : decode cX7_findNearest 30 = .ok (.iconst 0, 1) := by decide +kernel
theorem dX7_findNearest_31 : decode cX7_findNearest 31 = .ok (.iaload, 1) := by decide +kernel
theorem dX7_findNearest_32 : decode cX7_findNearest 32 = .ok (.iload_n 3, 1) := by decide +kernel
theorem dX7_findNearest_33 : decode cX7_findNearest 33 = .ok (.if_icmp .eq 22, 3) := by decide +kernel
theorem dX7_findNearest_36 : decode cX7_findNearest 36 = .ok (.aload_n 1, 1) := by decide +kernel
theorem dX7_findNearest_37 : decode cX7_findNearest 37 = .ok (.getfield 47, 3) := by decide +kernel
theorem dX7_findNearest_40 : decode cX7_findNearest 40 = .ok (.iconst 0, 1) := by decide +kernel
theorem dX7_findNearest_41 : decode cX7_findNearest 41 = .ok (.iaload, 1) := by decide +kernel
theorem dX7_findNearest_42 : decode cX7_findNearest 42 = .ok (.istore_n 3, 1) := by decide +kernel
theorem dX7_findNearest_43 : decode cX7_findNearest 43 = .ok (.aload_n 0, 1) := by decide +kernel
theorem dX7_findNearest_44 : decode cX7_findNearest 44 = .ok (.getfield 34, 3) := by decide +kernel
theorem dX7_findNearest_47 : decode cX7_findNearest 47 = .ok (.aload_n 0, 1) := by decide +kernel
theorem dX7_findNearest_48 : decode cX7_findNearest 48 = .ok (.getfield 22, 3) := by decide +kernel
theorem dX7_findNearest_51 : decode cX7_findNearest 51 = .ok (.aload_n 1, 1) := by decide +kernel
theorem dX7_findNearest_52 : decode cX7_findNearest 52 = .ok (.invokevirtual 50, 3) := by decide +kernel
theorem dX7_findNearest_55 : decode cX7_findNearest 55 = .ok (.aload_n 0, 1) := by decide +kernel
theorem dX7_findNearest_56 : decode cX7_findNearest 56 = .ok (.getfield 25, 3) := by decide +kernel
theorem dX7_findNearest_59 : decode cX7_findNearest 59 = .ok (.aload_n 0, 1) := by decide +kernel
theorem dX7_findNearest_60 : decode cX7_findNearest 60 = .ok (.getfield 22, 3) := by decide +kernel
theorem dX7_findNearest_63 : decode cX7_findNearest 63 = .ok (.invokevirtual 56, 3) := by decide +kernel
theorem dX7_findNearest_66 : decode cX7_findNearest 66 = .ok (.aload_n 0, 1) := by decide +kernel
theorem dX7_findNearest_67 : decode cX7_findNearest 67 = .ok (.getfield 25, 3) := by decide +kernel
theorem dX7_findNearest_70 : decode cX7_findNearest 70 = .ok (.aload_n 0, 1) := by decide +kernel
theorem dX7_findNearest_71 : decode cX7_findNearest 71 = .ok (.getfield 34, 3) := by decide +kernel
theorem dX7_findNearest_74 : decode cX7_findNearest 74 = .ok (.getfield 60, 3) := by decide +kernel
theorem dX7_findNearest_77 : decode cX7_findNearest 77 = .ok (.aload_n 1, 1) := by decide +kernel
theorem dX7_findNearest_78 : decode cX7_findNearest 78 = .ok (.getfield 63, 3) := by decide +kernel
theorem dX7_findNearest_81 : decode cX7_findNearest 81 = .ok (.invokevirtual 67, 3) := by decide +kernel
theorem dX7_findNearest_84 : decode cX7_findNearest 84 = .ok (.aload_n 0, 1) := by decide +kernel
theorem dX7_findNearest_85 : decode cX7_findNearest 85 = .ok (.getfield 28, 3) := by decide +kernel
theorem dX7_findNearest_88 : decode cX7_findNearest 88 = .ok (.aload_n 0, 1) := by decide +kernel
theorem dX7_findNearest_89 : decode cX7_findNearest 89 = .ok (.getfield 25, 3) := by decide +kernel
theorem dX7_findNearest_92 : decode cX7_findNearest 92 = .ok (.aload_n 0, 1) := by decide +kernel
theorem dX7_findNearest_93 : decode cX7_findNearest 93 = .ok (.getfield 34, 3) := by decide +kernel
theorem dX7_findNearest_96 : decode cX7_findNearest 96 = .ok (.getfield 71, 3) := by decide +kernel
theorem dX7_findNearest_99 : decode cX7_findNearest 99 = .ok (.invokevirtual 74, 3) := by decide +kernel
theorem dX7_findNearest_102 : decode cX7_findNearest 102 = .ok (.iload_n 2, 1) := by decide +kernel
theorem dX7_findNearest_103 : decode cX7_findNearest 103 = .ok (.ifCond .eq 17, 3) := by decide +kernel
theorem dX7_findNearest_106 : decode cX7_findNearest 106 = .ok (.aload_n 0, 1) := by decide +kernel
theorem dX7_findNearest_107 : decode cX7_findNearest 107 = .ok (.getfield 28, 3) := by decide +kernel
theorem dX7_findNearest_110 : decode cX7_findNearest 110 = .ok (.aload_n 0, 1) := by decide +kernel
theorem dX7_findNearest_111 : decode cX7_findNearest 111 = .ok (.getfield 31, 3) := by decide +kernel
theorem dX7_findNearest_114 : decode cX7_findNearest 114 = .ok (.invokevirtual 78, 3) := by decide +kernel
theorem dX7_findNearest_117 : decode cX7_findNearest 117 = .ok (.ifCond .ge 32, 3) := by decide +kernel
theorem dX7_findNearest_120 : decode cX7_findNearest 120 = .ok (.iconst 1, 1) := by decide +kernel
theorem dX7_findNearest_121 : decode cX7_findNearest 121 = .ok (.istore_n 2, 1) := by decide +kernel
theorem dX7_findNearest_122 : decode cX7_findNearest 122 = .ok (.aload_n 0, 1) := by decide +kernel
theorem dX7_findNearest_123 : decode cX7_findNearest 123 = .ok (.getfield 31, 3) := by decide +kernel
theorem dX7_findNearest_126 : decode cX7_findNearest 126 = .ok (.aload_n 0, 1) := by decide +kernel
theorem dX7_findNearest_127 : decode cX7_findNearest 127 = .ok (.getfield 28, 3) := by decide +kernel
theorem dX7_findNearest_130 : decode cX7_findNearest 130 = .ok (.invokevirtual 56, 3) := by decide +kernel
theorem dX7_findNearest_133 : decode cX7_findNearest 133 = .ok (.aload_n 0, 1) := by decide +kernel
theorem dX7_findNearest_134 : decode cX7_findNearest 134 = .ok (.getfield 18, 3) := by decide +kernel
theorem dX7_findNearest_137 : decode cX7_findNearest 137 = .ok (.aload_n 0, 1) := by decide +kernel
theorem dX7_findNearest_138 : decode cX7_findNearest 138 = .ok (.getfield 25, 3) := by decide +kernel
theorem dX7_findNearest_141 : decode cX7_findNearest 141 = .ok (.invokevirtual 56, 3) := by decide +kernel
theorem dX7_findNearest_144 : decode cX7_findNearest 144 = .ok (.aload_n 0, 1) := by decide +kernel
theorem dX7_findNearest_145 : decode cX7_findNearest 145 = .ok (.aload_n 1, 1) := by decide +kernel
theorem dX7_findNearest_146 : decode cX7_findNearest 146 = .ok (.invokevirtual 82, 3) := by decide +kernel
theorem dX7_findNearest_149 : decode cX7_findNearest 149 = .ok (.aload_n 1, 1) := by decide +kernel
theorem dX7_findNearest_150 : decode cX7_findNearest 150 = .ok (.invokevirtual 86, 3) := by decide +kernel
theorem dX7_findNearest_153 : decode cX7_findNearest 153 = .ok (.ifCond .ne 6, 3) := by decide +kernel
theorem dX7_findNearest_156 : decode cX7_findNearest 156 = .ok (.goto 9, 3) := by decide +kernel
theorem dX7_findNearest_159 : decode cX7_findNearest 159 = .ok (.iinc 4 1, 3) := by decide +kernel
theorem dX7_findNearest_162 : decode cX7_findNearest 162 = .ok (.goto (-151), 3) := by decide +kernel
theorem dX7_findNearest_165 : decode cX7_findNearest 165 = .ok (.iload_n 2, 1) := by decide +kernel
theorem dX7_findNearest_166 : decode cX7_findNearest 166 = .ok (.ireturn, 1) := by decide +kernel
theorem bX7_findNearest_0 {Z : ZT} {X : XT} {μ : Mu} {a1 : Nat} (E : Ent Z X mX7_findNearest 0 0) (ha1 : SH a1 = .inl 4) {p : Mu → Prop} 
    (c : CtrS Z mX4_sortSlips [.ref (Z.2.2.1 + a1)] μ (rV p)) (k : ∀ μ1, p μ1 → JS Z X 8 [(0, .ref (Z.2.2.1 + 273)), (1, .ref (Z.2.2.1 + a1)), (2, .int (nI 0)), (3, .int (-1))] [] μ1) :
    JS Z X 0 [(0, .ref (Z.2.2.1 + 273)), (1, .ref (Z.2.2.1 + a1))] [] μ := by
  refine J_iconst (v := nI 0) E dX7_findNearest_0 rfl ?_
  refine J_istore_n (lv' := [(0, .ref (Z.2.2.1 + 273)), (1, .ref (Z.2.2.1 + a1)), (2, .int (nI 0))]) E dX7_findNearest_1 (Nat.le_of_ble_eq_true rfl) rfl ?_
  refine J_iconst (v := -1) E dX7_findNearest_2 rfl ?_
  refine J_istore_n (lv' := [(0, .ref (Z.2.2.1 + 273)), (1, .ref (Z.2.2.1 + a1)), (2, .int (nI 0)), (3, .int (-1))]) E dX7_findNearest_3 (Nat.le_of_ble_eq_true rfl) rfl ?_
  refine J_aload_n E dX7_findNearest_4 rfl ?_
  refine S_callV (As := []) (rest := []) E dX7_findNearest_5 c kX4_sortSlips ⟨Nat.le_of_ble_eq_true rfl, Nat.le_of_ble_eq_true rfl⟩ rfl (Nat.le_of_ble_eq_true rfl) ha1 rfl rfl w5_6 w5_7 w5_8 (fun r_ μ1 hp_ => ?_)
  obtain ⟨rfl, hp_⟩ := hp_
  exact k μ1 hp_
theorem bX7_findNearest_8 {Z : ZT} {X : XT} {μ : Mu} {a1 : Nat} {a2 : Int32} {a3 : Int32} (E : Ent Z X mX7_findNearest 0 0) (ha1 : SH a1 = .inl 4) 
    (k : JS Z X 11 [(0, .ref (Z.2.2.1 + 273)), (1, .ref (Z.2.2.1 + a1)), (2, .int a2), (3, .int a3), (4, .int (nI 0))] [] μ) :
    JS Z X 8 [(0, .ref (Z.2.2.1 + 273)), (1, .ref (Z.2.2.1 + a1)), (2, .int a2), (3, .int a3)] [] μ := by
  refine J_iconst (v := nI 0) E dX7_findNearest_8 rfl ?_
  refine J_istore (lv' := [(0, .ref (Z.2.2.1 + 273)), (1, .ref (Z.2.2.1 + a1)), (2, .int a2), (3, .int a3), (4, .int (nI 0))]) E dX7_findNearest_9 (Nat.le_of_ble_eq_true rfl) rfl ?_
  exact k
theorem bX7_findNearest_11 {Z : ZT} {X : XT} {μ : Mu} {a1 : Nat} {a2 : Int32} {a3 : Int32} {a4 : Int32} (E : Ent Z X mX7_findNearest 0 0) (ha1 : SH a1 = .inl 4) 
    (kt : (nI 720) ≤ a4 → JS Z X 165 [(2, .int a2)] [] μ) (kf : ¬ ((nI 720) ≤ a4) → JS Z X 19 [(0, .ref (Z.2.2.1 + 273)), (1, .ref (Z.2.2.1 + a1)), (2, .int a2), (3, .int a3), (4, .int a4)] [] μ) :
    JS Z X 11 [(0, .ref (Z.2.2.1 + 273)), (1, .ref (Z.2.2.1 + a1)), (2, .int a2), (3, .int a3), (4, .int a4)] [] μ := by
  refine J_iload E dX7_findNearest_11 rfl ?_
  refine J_sipush (v := nI 720) E dX7_findNearest_13 rfl ?_
  refine J_icmp_ge (tgt := 165) E dX7_findNearest_16 (by decide) (fun c => ?_) (fun c => ?_)
  · refine J.weak [2] rfl ?_
    exact kt c
  · exact kf c
theorem bX7_findNearest_19 {Z : ZT} {X : XT} {μ : Mu} {a1 : Nat} {a2 : Int32} {a3 : Int32} {a4 : Int32} (E : Ent Z X mX7_findNearest 0 0) (ha1 : SH a1 = .inl 4) {p : Int32 → Mu → Prop} 
    (c : CtrS Z mX4_lay [.ref (Z.2.2.1 + a1)] μ (rI p)) (k : ∀ v μ1, p v μ1 → JS Z X 23 [(0, .ref (Z.2.2.1 + 273)), (1, .ref (Z.2.2.1 + a1)), (2, .int a2), (3, .int a3), (4, .int a4)] [.int v] μ1) :
    JS Z X 19 [(0, .ref (Z.2.2.1 + 273)), (1, .ref (Z.2.2.1 + a1)), (2, .int a2), (3, .int a3), (4, .int a4)] [] μ := by
  refine J_aload_n E dX7_findNearest_19 rfl ?_
  refine S_callV (As := []) (rest := []) E dX7_findNearest_20 c kX4_lay ⟨Nat.le_of_ble_eq_true rfl, Nat.le_of_ble_eq_true rfl⟩ rfl (Nat.le_of_ble_eq_true rfl) ha1 rfl rfl w5_14 w4_82 w4_83 (fun r_ μ1 hp_ => ?_)
  obtain ⟨v, rfl, hp_⟩ := hp_
  exact k v μ1 hp_
theorem bX7_findNearest_23 {Z : ZT} {X : XT} {μ : Mu} {a1 : Nat} {a2 : Int32} {a3 : Int32} {a4 : Int32} {s0 : Int32} (E : Ent Z X mX7_findNearest 0 0) (ha1 : SH a1 = .inl 4) 
    (kt : s0 = 0 → JS Z X 149 [(0, .ref (Z.2.2.1 + 273)), (1, .ref (Z.2.2.1 + a1)), (2, .int a2), (3, .int a3), (4, .int a4)] [] μ) (kf : ¬ (s0 = 0) → JS Z X 26 [(0, .ref (Z.2.2.1 + 273)), (1, .ref (Z.2.2.1 + a1)), (2, .int a2), (3, .int a3), (4, .int a4)] [] μ) :
    JS Z X 23 [(0, .ref (Z.2.2.1 + 273)), (1, .ref (Z.2.2.1 + a1)), (2, .int a2), (3, .int a3), (4, .int a4)] [.int s0] μ := by
  refine J_if_eq (tgt := 149) E dX7_findNearest_23 (by decide) (fun c => ?_) (fun c => ?_)
  · exact kt c
  · exact kf c
theorem bX7_findNearest_26 {Z : ZT} {X : XT} {μ : Mu} {a1 : Nat} {a2 : Int32} {a3 : Int32} {a4 : Int32} (E : Ent Z X mX7_findNearest 0 0) (ha1 : SH a1 = .inl 4) (s1_ : vp_in (nI 0) 6)
    (kt : (μ (a1 + 1) (ix (nI 0))) = a3 → JS Z X 55 [(0, .ref (Z.2.2.1 + 273)), (1, .ref (Z.2.2.1 + a1)), (2, .int a2), (3, .int a3), (4, .int a4)] [] μ) (kf : ¬ ((μ (a1 + 1) (ix (nI 0))) = a3) → JS Z X 36 [(0, .ref (Z.2.2.1 + 273)), (1, .ref (Z.2.2.1 + a1)), (2, .int a2), (4, .int a4)] [] μ) :
    JS Z X 26 [(0, .ref (Z.2.2.1 + 273)), (1, .ref (Z.2.2.1 + a1)), (2, .int a2), (3, .int a3), (4, .int a4)] [] μ := by
  refine J_aload_n E dX7_findNearest_26 rfl ?_
  refine S_get (ci := 4) (q := 5) (v := .ref (Z.2.2.1 + (a1 + 1))) E dX7_findNearest_27 fs_X7_47 ha1 rfl ?_
  refine J_iconst (v := nI 0) E dX7_findNearest_30 rfl ?_
  refine S_iald E dX7_findNearest_31 (shr_X4_5 ha1) s1_ ?_
  refine J_iload_n E dX7_findNearest_32 rfl ?_
  refine J_icmp_eq (tgt := 55) E dX7_findNearest_33 (by decide) (fun c => ?_) (fun c => ?_)
  · exact kt c
  · refine J.weak [0, 1, 2, 4] rfl ?_
    exact kf c
theorem bX7_findNearest_36 {Z : ZT} {X : XT} {μ : Mu} {a1 : Nat} {a2 : Int32} {a4 : Int32} (E : Ent Z X mX7_findNearest 0 0) (ha1 : SH a1 = .inl 4) {p : Mu → Prop} (s1_ : vp_in (nI 0) 6)
    (c : CtrS Z mX5_ofRiddles [.ref (Z.2.2.1 + 92), .ref (Z.2.2.1 + 277), .ref (Z.2.2.1 + a1)] μ (rV p)) (k : ∀ μ1, p μ1 → JS Z X 55 [(0, .ref (Z.2.2.1 + 273)), (1, .ref (Z.2.2.1 + a1)), (2, .int a2), (3, .int (μ (a1 + 1) (ix (nI 0)))), (4, .int a4)] [] μ1) :
    JS Z X 36 [(0, .ref (Z.2.2.1 + 273)), (1, .ref (Z.2.2.1 + a1)), (2, .int a2), (4, .int a4)] [] μ := by
  refine J_aload_n E dX7_findNearest_36 rfl ?_
  refine S_get (ci := 4) (q := 5) (v := .ref (Z.2.2.1 + (a1 + 1))) E dX7_findNearest_37 fs_X7_47 ha1 rfl ?_
  refine J_iconst (v := nI 0) E dX7_findNearest_40 rfl ?_
  refine S_iald E dX7_findNearest_41 (shr_X4_5 ha1) s1_ ?_
  refine J_istore_n (lv' := [(0, .ref (Z.2.2.1 + 273)), (1, .ref (Z.2.2.1 + a1)), (2, .int a2), (3, .int (μ (a1 + 1) (ix (nI 0)))), (4, .int a4)]) E dX7_findNearest_42 (Nat.le_of_ble_eq_true rfl) rfl ?_
  refine J_aload_n E dX7_findNearest_43 rfl ?_
  refine S_get (ci := 7) (q := 0) (v := .ref (Z.2.2.1 + 92)) E dX7_findNearest_44 fs_X7_34 sh273 rfl ?_
  refine J_aload_n E dX7_findNearest_47 rfl ?_
  refine S_get (ci := 7) (q := 4) (v := .ref (Z.2.2.1 + 277)) E dX7_findNearest_48 fs_X7_22 sh273 rfl ?_
  refine J_aload_n E dX7_findNearest_51 rfl ?_
  refine S_callV (As := [.ref (Z.2.2.1 + 277), .ref (Z.2.2.1 + a1)]) (rest := []) E dX7_findNearest_52 c kX5_ofRiddles ⟨Nat.le_of_ble_eq_true rfl, Nat.le_of_ble_eq_true rfl⟩ rfl (Nat.le_of_ble_eq_true rfl) sh92 rfl rfl w5_15 w4_171 w4_172 (fun r_ μ1 hp_ => ?_)
  obtain ⟨rfl, hp_⟩ := hp_
  exact k μ1 hp_
theorem bX7_findNearest_55 {Z : ZT} {X : XT} {μ : Mu} {a1 : Nat} {a2 : Int32} {a3 : Int32} {a4 : Int32} (E : Ent Z X mX7_findNearest 0 0) (ha1 : SH a1 = .inl 4) {p : Mu → Prop} 
    (c : CtrS Z mX0_copy [.ref (Z.2.2.1 + 279), .ref (Z.2.2.1 + 277)] μ (rV p)) (k : ∀ μ1, p μ1 → JS Z X 66 [(0, .ref (Z.2.2.1 + 273)), (1, .ref (Z.2.2.1 + a1)), (2, .int a2), (3, .int a3), (4, .int a4)] [] μ1) :
    JS Z X 55 [(0, .ref (Z.2.2.1 + 273)), (1, .ref (Z.2.2.1 + a1)), (2, .int a2), (3, .int a3), (4, .int a4)] [] μ := by
  refine J_aload_n E dX7_findNearest_55 rfl ?_
  refine S_get (ci := 7) (q := 5) (v := .ref (Z.2.2.1 + 279)) E dX7_findNearest_56 fs_X7_25 sh273 rfl ?_
  refine J_aload_n E dX7_findNearest_59 rfl ?_
  refine S_get (ci := 7) (q := 4) (v := .ref (Z.2.2.1 + 277)) E dX7_findNearest_60 fs_X7_22 sh273 rfl ?_
  refine S_callV (As := [.ref (Z.2.2.1 + 277)]) (rest := []) E dX7_findNearest_63 c kX0_copy ⟨Nat.le_of_ble_eq_true rfl, Nat.le_of_ble_eq_true rfl⟩ rfl (Nat.le_of_ble_eq_true rfl) sh279 rfl rfl w5_16 w4_127 w4_128 (fun r_ μ1 hp_ => ?_)
  obtain ⟨rfl, hp_⟩ := hp_
  exact k μ1 hp_
theorem bX7_findNearest_66 {Z : ZT} {X : XT} {μ : Mu} {a1 : Nat} {a2 : Int32} {a3 : Int32} {a4 : Int32} (E : Ent Z X mX7_findNearest 0 0) (ha1 : SH a1 = .inl 4) {p : Mu → Prop} 
    (c : CtrS Z mX0_addTimes [.ref (Z.2.2.1 + 279), .ref (Z.2.2.1 + 93), .int (μ a1 11)] μ (rV p)) (k : ∀ μ1, p μ1 → JS Z X 84 [(0, .ref (Z.2.2.1 + 273)), (1, .ref (Z.2.2.1 + a1)), (2, .int a2), (3, .int a3), (4, .int a4)] [] μ1) :
    JS Z X 66 [(0, .ref (Z.2.2.1 + 273)), (1, .ref (Z.2.2.1 + a1)), (2, .int a2), (3, .int a3), (4, .int a4)] [] μ := by
  refine J_aload_n E dX7_findNearest_66 rfl ?_
  refine S_get (ci := 7) (q := 5) (v := .ref (Z.2.2.1 + 279)) E dX7_findNearest_67 fs_X7_25 sh273 rfl ?_
  refine J_aload_n E dX7_findNearest_70 rfl ?_
  refine S_get (ci := 7) (q := 0) (v := .ref (Z.2.2.1 + 92)) E dX7_findNearest_71 fs_X7_34 sh273 rfl ?_
  refine S_get (ci := 5) (q := 3) (v := .ref (Z.2.2.1 + 93)) E dX7_findNearest_74 fs_X7_60 sh92 rfl ?_
  refine J_aload_n E dX7_findNearest_77 rfl ?_
  refine S_get (ci := 4) (q := 11) (v := .int (μ a1 11)) E dX7_findNearest_78 fs_X7_63 ha1 rfl ?_
  refine S_callV (As := [.ref (Z.2.2.1 + 93), .int (μ a1 11)]) (rest := []) E dX7_findNearest_81 c kX0_addTimes ⟨Nat.le_of_ble_eq_true rfl, Nat.le_of_ble_eq_true rfl⟩ rfl (Nat.le_of_ble_eq_true rfl) sh279 rfl rfl w5_17 w4_163 w4_164 (fun r_ μ1 hp_ => ?_)
  obtain ⟨rfl, hp_⟩ := hp_
  exact k μ1 hp_
theorem bX7_findNearest_84 {Z : ZT} {X : XT} {μ : Mu} {a1 : Nat} {a2 : Int32} {a3 : Int32} {a4 : Int32} (E : Ent Z X mX7_findNearest 0 0) (ha1 : SH a1 = .inl 4) {p : Mu → Prop} 
    (c : CtrS Z mX0_setDifference [.ref (Z.2.2.1 + 281), .ref (Z.2.2.1 + 279), .ref (Z.2.2.1 + 95)] μ (rV p)) (k : ∀ μ1, p μ1 → JS Z X 102 [(0, .ref (Z.2.2.1 + 273)), (1, .ref (Z.2.2.1 + a1)), (2, .int a2), (3, .int a3), (4, .int a4)] [] μ1) :
    JS Z X 84 [(0, .ref (Z.2.2.1 + 273)), (1, .ref (Z.2.2.1 + a1)), (2, .int a2), (3, .int a3), (4, .int a4)] [] μ := by
  refine J_aload_n E dX7_findNearest_84 rfl ?_
  refine S_get (ci := 7) (q := 6) (v := .ref (Z.2.2.1 + 281)) E dX7_findNearest_85 fs_X7_28 sh273 rfl ?_
  refine J_aload_n E dX7_findNearest_88 rfl ?_
  refine S_get (ci := 7) (q := 5) (v := .ref (Z.2.2.1 + 279)) E dX7_findNearest_89 fs_X7_25 sh273 rfl ?_
  refine J_aload_n E dX7_findNearest_92 rfl ?_
  refine S_get (ci := 7) (q := 0) (v := .ref (Z.2.2.1 + 92)) E dX7_findNearest_93 fs_X7_34 sh273 rfl ?_
  refine S_get (ci := 5) (q := 4) (v := .ref (Z.2.2.1 + 95)) E dX7_findNearest_96 fs_X7_71 sh92 rfl ?_
  refine S_callV (As := [.ref (Z.2.2.1 + 279), .ref (Z.2.2.1 + 95)]) (rest := []) E dX7_findNearest_99 c kX0_setDifference ⟨Nat.le_of_ble_eq_true rfl, Nat.le_of_ble_eq_true rfl⟩ rfl (Nat.le_of_ble_eq_true rfl) sh281 rfl rfl w5_18 w4_234 w4_235 (fun r_ μ1 hp_ => ?_)
  obtain ⟨rfl, hp_⟩ := hp_
  exact k μ1 hp_
theorem bX7_findNearest_102 {Z : ZT} {X : XT} {μ : Mu} {a1 : Nat} {a2 : Int32} {a3 : Int32} {a4 : Int32} (E : Ent Z X mX7_findNearest 0 0) (ha1 : SH a1 = .inl 4) 
    (kt : a2 = 0 → JS Z X 120 [(0, .ref (Z.2.2.1 + 273)), (1, .ref (Z.2.2.1 + a1)), (3, .int a3), (4, .int a4)] [] μ) (kf : ¬ (a2 = 0) → JS Z X 106 [(0, .ref (Z.2.2.1 + 273)), (1, .ref (Z.2.2.1 + a1)), (2, .int a2), (3, .int a3), (4, .int a4)] [] μ) :
    JS Z X 102 [(0, .ref (Z.2.2.1 + 273)), (1, .ref (Z.2.2.1 + a1)), (2, .int a2), (3, .int a3), (4, .int a4)] [] μ := by
  refine J_iload_n E dX7_findNearest_102 rfl ?_
  refine J_if_eq (tgt := 120) E dX7_findNearest_103 (by decide) (fun c => ?_) (fun c => ?_)
  · refine J.weak [0, 1, 3, 4] rfl ?_
    exact kt c
  · exact kf c
theorem bX7_findNearest_106 {Z : ZT} {X : XT} {μ : Mu} {a1 : Nat} {a2 : Int32} {a3 : Int32} {a4 : Int32} (E : Ent Z X mX7_findNearest 0 0) (ha1 : SH a1 = .inl 4) {p : Int32 → Mu → Prop} 
    (c : CtrS Z mX0_compare [.ref (Z.2.2.1 + 281), .ref (Z.2.2.1 + 283)] μ (rI p)) (k : ∀ v μ1, p v μ1 → JS Z X 117 [(0, .ref (Z.2.2.1 + 273)), (1, .ref (Z.2.2.1 + a1)), (2, .int a2), (3, .int a3), (4, .int a4)] [.int v] μ1) :
    JS Z X 106 [(0, .ref (Z.2.2.1 + 273)), (1, .ref (Z.2.2.1 + a1)), (2, .int a2), (3, .int a3), (4, .int a4)] [] μ := by
  refine J_aload_n E dX7_findNearest_106 rfl ?_
  refine S_get (ci := 7) (q := 6) (v := .ref (Z.2.2.1 + 281)) E dX7_findNearest_107 fs_X7_28 sh273 rfl ?_
  refine J_aload_n E dX7_findNearest_110 rfl ?_
  refine S_get (ci := 7) (q := 7) (v := .ref (Z.2.2.1 + 283)) E dX7_findNearest_111 fs_X7_31 sh273 rfl ?_
  refine S_callV (As := [.ref (Z.2.2.1 + 283)]) (rest := []) E dX7_findNearest_114 c kX0_compare ⟨Nat.le_of_ble_eq_true rfl, Nat.le_of_ble_eq_true rfl⟩ rfl (Nat.le_of_ble_eq_true rfl) sh281 rfl rfl w5_19 w4_229 w4_230 (fun r_ μ1 hp_ => ?_)
  obtain ⟨v, rfl, hp_⟩ := hp_
  exact k v μ1 hp_
theorem bX7_findNearest_117 {Z : ZT} {X : XT} {μ : Mu} {a1 : Nat} {a2 : Int32} {a3 : Int32} {a4 : Int32} {s0 : Int32} (E : Ent Z X mX7_findNearest 0 0) (ha1 : SH a1 = .inl 4) 
    (kt : 0 ≤ s0 → JS Z X 149 [(0, .ref (Z.2.2.1 + 273)), (1, .ref (Z.2.2.1 + a1)), (2, .int a2), (3, .int a3), (4, .int a4)] [] μ) (kf : ¬ (0 ≤ s0) → JS Z X 120 [(0, .ref (Z.2.2.1 + 273)), (1, .ref (Z.2.2.1 + a1)), (3, .int a3), (4, .int a4)] [] μ) :
    JS Z X 117 [(0, .ref (Z.2.2.1 + 273)), (1, .ref (Z.2.2.1 + a1)), (2, .int a2), (3, .int a3), (4, .int a4)] [.int s0] μ := by
  refine J_if_ge (tgt := 149) E dX7_findNearest_117 (by decide) (fun c => ?_) (fun c => ?_)
  · exact kt c
  · refine J.weak [0, 1, 3, 4] rfl ?_
    exact kf c
theorem bX7_findNearest_120 {Z : ZT} {X : XT} {μ : Mu} {a1 : Nat} {a3 : Int32} {a4 : Int32} (E : Ent Z X mX7_findNearest 0 0) (ha1 : SH a1 = .inl 4) {p : Mu → Prop} 
    (c : CtrS Z mX0_copy [.ref (Z.2.2.1 + 283), .ref (Z.2.2.1 + 281)] μ (rV p)) (k : ∀ μ1, p μ1 → JS Z X 133 [(0, .ref (Z.2.2.1 + 273)), (1, .ref (Z.2.2.1 + a1)), (2, .int (nI 1)), (3, .int a3), (4, .int a4)] [] μ1) :
    JS Z X 120 [(0, .ref (Z.2.2.1 + 273)), (1, .ref (Z.2.2.1 + a1)), (3, .int a3), (4, .int a4)] [] μ := by
  refine J_iconst (v := nI 1) E dX7_findNearest_120 rfl ?_
  refine J_istore_n (lv' := [(0, .ref (Z.2.2.1 + 273)), (1, .ref (Z.2.2.1 + a1)), (2, .int (nI 1)), (3, .int a3), (4, .int a4)]) E dX7_findNearest_121 (Nat.le_of_ble_eq_true rfl) rfl ?_
  refine J_aload_n E dX7_findNearest_122 rfl ?_
  refine S_get (ci := 7) (q := 7) (v := .ref (Z.2.2.1 + 283)) E dX7_findNearest_123 fs_X7_31 sh273 rfl ?_
  refine J_aload_n E dX7_findNearest_126 rfl ?_
  refine S_get (ci := 7) (q := 6) (v := .ref (Z.2.2.1 + 281)) E dX7_findNearest_127 fs_X7_28 sh273 rfl ?_
  refine S_callV (As := [.ref (Z.2.2.1 + 281)]) (rest := []) E dX7_findNearest_130 c kX0_copy ⟨Nat.le_of_ble_eq_true rfl, Nat.le_of_ble_eq_true rfl⟩ rfl (Nat.le_of_ble_eq_true rfl) sh283 rfl rfl w5_16 w4_127 w4_128 (fun r_ μ1 hp_ => ?_)
  obtain ⟨rfl, hp_⟩ := hp_
  exact k μ1 hp_
theorem bX7_findNearest_133 {Z : ZT} {X : XT} {μ : Mu} {a1 : Nat} {a2 : Int32} {a3 : Int32} {a4 : Int32} (E : Ent Z X mX7_findNearest 0 0) (ha1 : SH a1 = .inl 4) {p : Mu → Prop} 
    (c : CtrS Z mX0_copy [.ref (Z.2.2.1 + 275), .ref (Z.2.2.1 + 279)] μ (rV p)) (k : ∀ μ1, p μ1 → JS Z X 144 [(0, .ref (Z.2.2.1 + 273)), (1, .ref (Z.2.2.1 + a1)), (2, .int a2), (3, .int a3), (4, .int a4)] [] μ1) :
    JS Z X 133 [(0, .ref (Z.2.2.1 + 273)), (1, .ref (Z.2.2.1 + a1)), (2, .int a2), (3, .int a3), (4, .int a4)] [] μ := by
  refine J_aload_n E dX7_findNearest_133 rfl ?_
  refine S_get (ci := 7) (q := 3) (v := .ref (Z.2.2.1 + 275)) E dX7_findNearest_134 fs_X7_18 sh273 rfl ?_
  refine J_aload_n E dX7_findNearest_137 rfl ?_
  refine S_get (ci := 7) (q := 5) (v := .ref (Z.2.2.1 + 279)) E dX7_findNearest_138 fs_X7_25 sh273 rfl ?_
  refine S_callV (As := [.ref (Z.2.2.1 + 279)]) (rest := []) E dX7_findNearest_141 c kX0_copy ⟨Nat.le_of_ble_eq_true rfl, Nat.le_of_ble_eq_true rfl⟩ rfl (Nat.le_of_ble_eq_true rfl) sh275 rfl rfl w5_16 w4_127 w4_128 (fun r_ μ1 hp_ => ?_)
  obtain ⟨rfl, hp_⟩ := hp_
  exact k μ1 hp_
theorem bX7_findNearest_144 {Z : ZT} {X : XT} {μ : Mu} {a1 : Nat} {a2 : Int32} {a3 : Int32} {a4 : Int32} (E : Ent Z X mX7_findNearest 0 0) (ha1 : SH a1 = .inl 4) {p : Mu → Prop} 
    (c : CtrS Z mX7_keep [.ref (Z.2.2.1 + 273), .ref (Z.2.2.1 + a1)] μ (rV p)) (k : ∀ μ1, p μ1 → JS Z X 149 [(0, .ref (Z.2.2.1 + 273)), (1, .ref (Z.2.2.1 + a1)), (2, .int a2), (3, .int a3), (4, .int a4)] [] μ1) :
    JS Z X 144 [(0, .ref (Z.2.2.1 + 273)), (1, .ref (Z.2.2.1 + a1)), (2, .int a2), (3, .int a3), (4, .int a4)] [] μ := by
  refine J_aload_n E dX7_findNearest_144 rfl ?_
  refine J_aload_n E dX7_findNearest_145 rfl ?_
  refine S_callV (As := [.ref (Z.2.2.1 + a1)]) (rest := []) E dX7_findNearest_146 c kX7_keep ⟨Nat.le_of_ble_eq_true rfl, Nat.le_of_ble_eq_true rfl⟩ rfl (Nat.le_of_ble_eq_true rfl) sh273 rfl rfl w5_20 w5_22 wp_22 (fun r_ μ1 hp_ => ?_)
  obtain ⟨rfl, hp_⟩ := hp_
  exact k μ1 hp_
theorem bX7_findNearest_149 {Z : ZT} {X : XT} {μ : Mu} {a1 : Nat} {a2 : Int32} {a3 : Int32} {a4 : Int32} (E : Ent Z X mX7_findNearest 0 0) (ha1 : SH a1 = .inl 4) {p : Int32 → Mu → Prop} 
    (c : CtrS Z mX4_nextOrder [.ref (Z.2.2.1 + a1)] μ (rI p)) (k : ∀ v μ1, p v μ1 → JS Z X 153 [(0, .ref (Z.2.2.1 + 273)), (1, .ref (Z.2.2.1 + a1)), (2, .int a2), (3, .int a3), (4, .int a4)] [.int v] μ1) :
    JS Z X 149 [(0, .ref (Z.2.2.1 + 273)), (1, .ref (Z.2.2.1 + a1)), (2, .int a2), (3, .int a3), (4, .int a4)] [] μ := by
  refine J_aload_n E dX7_findNearest_149 rfl ?_
  refine S_callV (As := []) (rest := []) E dX7_findNearest_150 c kX4_nextOrder ⟨Nat.le_of_ble_eq_true rfl, Nat.le_of_ble_eq_true rfl⟩ rfl (Nat.le_of_ble_eq_true rfl) ha1 rfl rfl w5_24 w5_25 w5_26 (fun r_ μ1 hp_ => ?_)
  obtain ⟨v, rfl, hp_⟩ := hp_
  exact k v μ1 hp_
theorem bX7_findNearest_153 {Z : ZT} {X : XT} {μ : Mu} {a1 : Nat} {a2 : Int32} {a3 : Int32} {a4 : Int32} {s0 : Int32} (E : Ent Z X mX7_findNearest 0 0) (ha1 : SH a1 = .inl 4) 
    (kt : ¬ s0 = 0 → JS Z X 159 [(0, .ref (Z.2.2.1 + 273)), (1, .ref (Z.2.2.1 + a1)), (2, .int a2), (3, .int a3), (4, .int a4)] [] μ) (kf : s0 = 0 → JS Z X 156 [(2, .int a2)] [] μ) :
    JS Z X 153 [(0, .ref (Z.2.2.1 + 273)), (1, .ref (Z.2.2.1 + a1)), (2, .int a2), (3, .int a3), (4, .int a4)] [.int s0] μ := by
  refine J_if_ne (tgt := 159) E dX7_findNearest_153 (by decide) (fun c => ?_) (fun c => ?_)
  · exact kt c
  · refine J.weak [2] rfl ?_
    exact kf c
theorem bX7_findNearest_156 {Z : ZT} {X : XT} {μ : Mu} {a2 : Int32} (E : Ent Z X mX7_findNearest 0 0)  
    (k : JS Z X 165 [(2, .int a2)] [] μ) :
    JS Z X 156 [(2, .int a2)] [] μ := by
  refine J_goto (tgt := 165) E dX7_findNearest_156 (by decide) ?_
  exact k
theorem bX7_findNearest_159 {Z : ZT} {X : XT} {μ : Mu} {a1 : Nat} {a2 : Int32} {a3 : Int32} {a4 : Int32} (E : Ent Z X mX7_findNearest 0 0) (ha1 : SH a1 = .inl 4) 
    (k : JS Z X 11 [(0, .ref (Z.2.2.1 + 273)), (1, .ref (Z.2.2.1 + a1)), (2, .int a2), (3, .int a3), (4, .int (a4 + nI 1))] [] μ) :
    JS Z X 159 [(0, .ref (Z.2.2.1 + 273)), (1, .ref (Z.2.2.1 + a1)), (2, .int a2), (3, .int a3), (4, .int a4)] [] μ := by
  refine J_iinc (v := a4 + nI 1) (lv' := [(0, .ref (Z.2.2.1 + 273)), (1, .ref (Z.2.2.1 + a1)), (2, .int a2), (3, .int a3), (4, .int (a4 + nI 1))]) E dX7_findNearest_159 rfl rfl (Nat.le_of_ble_eq_true rfl) rfl ?_
  refine J_goto (tgt := 11) E dX7_findNearest_162 (by decide) ?_
  exact k
theorem bX7_findNearest_165 {Z : ZT} {X : XT} {μ : Mu} {a2 : Int32} (E : Ent Z X mX7_findNearest 0 0) {P : Option Value → Mu → Prop} (hB : BodS Z X P) (s1_ : narrow .boolean (.int a2) = .int a2)
    (k : P (some (.int a2)) μ) :
    JS Z X 165 [(2, .int a2)] [] μ := by
  refine J_iload_n E dX7_findNearest_165 rfl ?_
  exact S_zret E hB dX7_findNearest_166 rfl s1_ k
theorem dX7_findApart_0 : decode cX7_findApart 0 = .ok (.iconst 0, 1) := by decide +kernel
theorem dX7_findApart_1 : decode cX7_findApart 1 = .ok (.istore_n 3, 1) := by decide +kernel
theorem dX7_findApart_2 : decode cX7_findApart 2 = .ok (.aload_n 0, 1) := by decide +kernel
theorem dX7_findApart_3 : decode cX7_findApart 3 = .ok (.iconst 0, 1) := by decide +kernel
theorem dX7_findApart_4 : decode cX7_findApart 4 = .ok (.putfield 89, 3) := by decide +kernel
theorem dX7_findApart_7 : decode cX7_findApart 7 = .ok (.aload_n 1, 1) := by decide +kernel
theorem dX7_findApart_8 : decode cX7_findApart 8 = .ok (.invokevirtual 38, 3) := by decide +kernel
theorem dX7_findApart_11 : decode cX7_findApart 11 = .ok (.iconst 0, 1) := by decide +kernel
theorem dX7_findApart_12 : decode cX7_findApart 12 = .ok (.istore 4, 2) := by decide +kernel
theorem dX7_findApart_14 : decode cX7_findApart 14 = .ok (.iload 4, 2) := by decide +kernel
theorem dX7_findApart_16 : decode cX7_findApart 16 = .ok (.sipush 720, 3) := by decide +kernel
theorem dX7_findApart_19 : decode cX7_findApart 19 = .ok (.if_icmp .ge 59, 3) := by decide +kernel
theorem dX7_findApart_22 : decode cX7_findApart 22 = .ok (.aload_n 1, 1) := by decide +kernel
theorem dX7_findApart_23 : decode cX7_findApart 23 = .ok (.invokevirtual 43, 3) := by decide +kernel
theorem dX7_findApart_26 : decode cX7_findApart 26 = .ok (.ifCond .eq 36, 3) := by decide +kernel
theorem dX7_findApart_29 : decode cX7_findApart 29 = .ok (.aload_n 1, 1) := by decide +kernel
theorem dX7_findApart_30 : decode cX7_findApart 30 = .ok (.aload_n 2, 1) := by decide +kernel
theorem dX7_findApart_31 : decode cX7_findApart 31 = .ok (.invokevirtual 92, 3) := by decide +kernel
theorem dX7_findApart_34 : decode cX7_findApart 34 = .ok (.istore 5, 2) := by decide +kernel
theorem dX7_findApart_36 : decode cX7_findApart 36 = .ok (.iload_n 3, 1) := by decide +kernel
theorem dX7_findApart_37 : decode cX7_findApart 37 = .ok (.ifCond .eq 12, 3) := by decide +kernel
theorem dX7_findApart_40 : decode cX7_findApart 40 = .ok (.iload 5, 2) := by decide +kernel
theorem dX7_findApart_42 : decode cX7_findApart 42 = .ok (.aload_n 0, 1) := by decide +kernel
theorem dX7_findApart_43 : decode cX7_findApart 43 = .ok (.getfield 89, 3) := by decide +kernel
theorem dX7_findApart_46 : decode cX7_findApart 46 = .ok (.if_icmp .ge 16, 3) := by decide +kernel
theorem dX7_findApart_49 : decode cX7_findApart 49 = .ok (.iconst 1, 1) := by decide +kernel
theorem dX7_findApart_50 : decode cX7_findApart 50 = .ok (.istore_n 3, 1) := by decide +kernel
theorem dX7_findApart_51 : decode cX7_findApart 51 = .ok (.aload_n 0, 1) := by decide +kernel
theorem dX7_findApart_52 : decode cX7_findApart 52 = .ok (.iload 5, 2) := by decide +kernel
theorem dX7_findApart_54 : decode cX7_findApart 54 = .ok (.putfield 89, 3) := by decide +kernel
theorem dX7_findApart_57 : decode cX7_findApart 57 = .ok (.aload_n 0, 1) := by decide +kernel
theorem dX7_findApart_58 : decode cX7_findApart 58 = .ok (.aload_n 1, 1) := by decide +kernel
theorem dX7_findApart_59 : decode cX7_findApart 59 = .ok (.invokevirtual 82, 3) := by decide +kernel
theorem dX7_findApart_62 : decode cX7_findApart 62 = .ok (.aload_n 1, 1) := by decide +kernel
theorem dX7_findApart_63 : decode cX7_findApart 63 = .ok (.invokevirtual 86, 3) := by decide +kernel
theorem dX7_findApart_66 : decode cX7_findApart 66 = .ok (.ifCond .ne 6, 3) := by decide +kernel
theorem dX7_findApart_69 : decode cX7_findApart 69 = .ok (.goto 9, 3) := by decide +kernel
theorem dX7_findApart_72 : decode cX7_findApart 72 = .ok (.iinc 4 1, 3) := by decide +kernel
theorem dX7_findApart_75 : decode cX7_findApart 75 = .ok (.goto (-61), 3) := by decide +kernel
theorem dX7_findApart_78 : decode cX7_findApart 78 = .ok (.return_, 1) := by decide +kernel
theorem bX7_findApart_0 {Z : ZT} {X : XT} {μ : Mu} {a1 : Nat} {a2 : Nat} (E : Ent Z X mX7_findApart 0 0) (ha1 : SH a1 = .inl 4) (ha2 : SH a2 = .inl 4) 
    (k : JS Z X 7 [(0, .ref (Z.2.2.1 + 273)), (1, .ref (Z.2.2.1 + a1)), (2, .ref (Z.2.2.1 + a2)), (3, .int (nI 0))] [] (uR μ 273 (upd (μ 273) 2 (nI 0)))) :
    JS Z X 0 [(0, .ref (Z.2.2.1 + 273)), (1, .ref (Z.2.2.1 + a1)), (2, .ref (Z.2.2.1 + a2))] [] μ := by
  refine J_iconst (v := nI 0) E dX7_findApart_0 rfl ?_
  refine J_istore_n (lv' := [(0, .ref (Z.2.2.1 + 273)), (1, .ref (Z.2.2.1 + a1)), (2, .ref (Z.2.2.1 + a2)), (3, .int (nI 0))]) E dX7_findApart_1 (Nat.le_of_ble_eq_true rfl) rfl ?_
  refine J_aload_n E dX7_findApart_2 rfl ?_
  refine J_iconst (v := nI 0) E dX7_findApart_3 rfl ?_
  refine S_puti E dX7_findApart_4 fs_X7_89 fp_X7_2 sh273 rfl ?_
  exact k
theorem bX7_findApart_7 {Z : ZT} {X : XT} {μ : Mu} {a1 : Nat} {a2 : Nat} {a3 : Int32} (E : Ent Z X mX7_findApart 0 0) (ha1 : SH a1 = .inl 4) (ha2 : SH a2 = .inl 4) {p : Mu → Prop} 
    (c : CtrS Z mX4_sortSlips [.ref (Z.2.2.1 + a1)] μ (rV p)) (k : ∀ μ1, p μ1 → JS Z X 11 [(0, .ref (Z.2.2.1 + 273)), (1, .ref (Z.2.2.1 + a1)), (2, .ref (Z.2.2.1 + a2)), (3, .int a3)] [] μ1) :
    JS Z X 7 [(0, .ref (Z.2.2.1 + 273)), (1, .ref (Z.2.2.1 + a1)), (2, .ref (Z.2.2.1 + a2)), (3, .int a3)] [] μ := by
  refine J_aload_n E dX7_findApart_7 rfl ?_
  refine S_callV (As := []) (rest := []) E dX7_findApart_8 c kX4_sortSlips ⟨Nat.le_of_ble_eq_true rfl, Nat.le_of_ble_eq_true rfl⟩ rfl (Nat.le_of_ble_eq_true rfl) ha1 rfl rfl w5_6 w5_7 w5_8 (fun r_ μ1 hp_ => ?_)
  obtain ⟨rfl, hp_⟩ := hp_
  exact k μ1 hp_
theorem bX7_findApart_11 {Z : ZT} {X : XT} {μ : Mu} {a1 : Nat} {a2 : Nat} {a3 : Int32} (E : Ent Z X mX7_findApart 0 0) (ha1 : SH a1 = .inl 4) (ha2 : SH a2 = .inl 4) 
    (k : JS Z X 14 [(0, .ref (Z.2.2.1 + 273)), (1, .ref (Z.2.2.1 + a1)), (2, .ref (Z.2.2.1 + a2)), (3, .int a3), (4, .int (nI 0))] [] μ) :
    JS Z X 11 [(0, .ref (Z.2.2.1 + 273)), (1, .ref (Z.2.2.1 + a1)), (2, .ref (Z.2.2.1 + a2)), (3, .int a3)] [] μ := by
  refine J_iconst (v := nI 0) E dX7_findApart_11 rfl ?_
  refine J_istore (lv' := [(0, .ref (Z.2.2.1 + 273)), (1, .ref (Z.2.2.1 + a1)), (2, .ref (Z.2.2.1 + a2)), (3, .int a3), (4, .int (nI 0))]) E dX7_findApart_12 (Nat.le_of_ble_eq_true rfl) rfl ?_
  exact k
theorem bX7_findApart_14 {Z : ZT} {X : XT} {μ : Mu} {a1 : Nat} {a2 : Nat} {a3 : Int32} {a4 : Int32} (E : Ent Z X mX7_findApart 0 0) (ha1 : SH a1 = .inl 4) (ha2 : SH a2 = .inl 4) 
    (kt : (nI 720) ≤ a4 → JS Z X 78 [] [] μ) (kf : ¬ ((nI 720) ≤ a4) → JS Z X 22 [(0, .ref (Z.2.2.1 + 273)), (1, .ref (Z.2.2.1 + a1)), (2, .ref (Z.2.2.1 + a2)), (3, .int a3), (4, .int a4)] [] μ) :
    JS Z X 14 [(0, .ref (Z.2.2.1 + 273)), (1, .ref (Z.2.2.1 + a1)), (2, .ref (Z.2.2.1 + a2)), (3, .int a3), (4, .int a4)] [] μ := by
  refine J_iload E dX7_findApart_14 rfl ?_
  refine J_sipush (v := nI 720) E dX7_findApart_16 rfl ?_
  refine J_icmp_ge (tgt := 78) E dX7_findApart_19 (by decide) (fun c => ?_) (fun c => ?_)
  · refine J.weak [] rfl ?_
    exact kt c
  · exact kf c
theorem bX7_findApart_22 {Z : ZT} {X : XT} {μ : Mu} {a1 : Nat} {a2 : Nat} {a3 : Int32} {a4 : Int32} (E : Ent Z X mX7_findApart 0 0) (ha1 : SH a1 = .inl 4) (ha2 : SH a2 = .inl 4) {p : Int32 → Mu → Prop} 
    (c : CtrS Z mX4_lay [.ref (Z.2.2.1 + a1)] μ (rI p)) (k : ∀ v μ1, p v μ1 → JS Z X 26 [(0, .ref (Z.2.2.1 + 273)), (1, .ref (Z.2.2.1 + a1)), (2, .ref (Z.2.2.1 + a2)), (3, .int a3), (4, .int a4)] [.int v] μ1) :
    JS Z X 22 [(0, .ref (Z.2.2.1 + 273)), (1, .ref (Z.2.2.1 + a1)), (2, .ref (Z.2.2.1 + a2)), (3, .int a3), (4, .int a4)] [] μ := by
  refine J_aload_n E dX7_findApart_22 rfl ?_
  refine S_callV (As := []) (rest := []) E dX7_findApart_23 c kX4_lay ⟨Nat.le_of_ble_eq_true rfl, Nat.le_of_ble_eq_true rfl⟩ rfl (Nat.le_of_ble_eq_true rfl) ha1 rfl rfl w5_14 w4_82 w4_83 (fun r_ μ1 hp_ => ?_)
  obtain ⟨v, rfl, hp_⟩ := hp_
  exact k v μ1 hp_
theorem bX7_findApart_26 {Z : ZT} {X : XT} {μ : Mu} {a1 : Nat} {a2 : Nat} {a3 : Int32} {a4 : Int32} {s0 : Int32} (E : Ent Z X mX7_findApart 0 0) (ha1 : SH a1 = .inl 4) (ha2 : SH a2 = .inl 4) 
    (kt : s0 = 0 → JS Z X 62 [(0, .ref (Z.2.2.1 + 273)), (1, .ref (Z.2.2.1 + a1)), (2, .ref (Z.2.2.1 + a2)), (3, .int a3), (4, .int a4)] [] μ) (kf : ¬ (s0 = 0) → JS Z X 29 [(0, .ref (Z.2.2.1 + 273)), (1, .ref (Z.2.2.1 + a1)), (2, .ref (Z.2.2.1 + a2)), (3, .int a3), (4, .int a4)] [] μ) :
    JS Z X 26 [(0, .ref (Z.2.2.1 + 273)), (1, .ref (Z.2.2.1 + a1)), (2, .ref (Z.2.2.1 + a2)), (3, .int a3), (4, .int a4)] [.int s0] μ := by
  refine J_if_eq (tgt := 62) E dX7_findApart_26 (by decide) (fun c => ?_) (fun c => ?_)
  · exact kt c
  · exact kf c
theorem bX7_findApart_29 {Z : ZT} {X : XT} {μ : Mu} {a1 : Nat} {a2 : Nat} {a3 : Int32} {a4 : Int32} (E : Ent Z X mX7_findApart 0 0) (ha1 : SH a1 = .inl 4) (ha2 : SH a2 = .inl 4) {p : Int32 → Mu → Prop} 
    (c : CtrS Z mX4_meetings [.ref (Z.2.2.1 + a1), .ref (Z.2.2.1 + a2)] μ (rI p)) (k : ∀ v μ1, p v μ1 → JS Z X 34 [(0, .ref (Z.2.2.1 + 273)), (1, .ref (Z.2.2.1 + a1)), (2, .ref (Z.2.2.1 + a2)), (3, .int a3), (4, .int a4)] [.int v] μ1) :
    JS Z X 29 [(0, .ref (Z.2.2.1 + 273)), (1, .ref (Z.2.2.1 + a1)), (2, .ref (Z.2.2.1 + a2)), (3, .int a3), (4, .int a4)] [] μ := by
  refine J_aload_n E dX7_findApart_29 rfl ?_
  refine J_aload_n E dX7_findApart_30 rfl ?_
  refine S_callV (As := [.ref (Z.2.2.1 + a2)]) (rest := []) E dX7_findApart_31 c kX4_meetings ⟨Nat.le_of_ble_eq_true rfl, Nat.le_of_ble_eq_true rfl⟩ rfl (Nat.le_of_ble_eq_true rfl) ha1 rfl rfl w5_79 w5_68 w5_69 (fun r_ μ1 hp_ => ?_)
  obtain ⟨v, rfl, hp_⟩ := hp_
  exact k v μ1 hp_
theorem bX7_findApart_34 {Z : ZT} {X : XT} {μ : Mu} {a1 : Nat} {a2 : Nat} {a3 : Int32} {a4 : Int32} {s0 : Int32} (E : Ent Z X mX7_findApart 0 0) (ha1 : SH a1 = .inl 4) (ha2 : SH a2 = .inl 4) 
    (kt : a3 = 0 → JS Z X 49 [(0, .ref (Z.2.2.1 + 273)), (1, .ref (Z.2.2.1 + a1)), (2, .ref (Z.2.2.1 + a2)), (4, .int a4), (5, .int s0)] [] μ) (kf : ¬ (a3 = 0) → JS Z X 40 [(0, .ref (Z.2.2.1 + 273)), (1, .ref (Z.2.2.1 + a1)), (2, .ref (Z.2.2.1 + a2)), (3, .int a3), (4, .int a4), (5, .int s0)] [] μ) :
    JS Z X 34 [(0, .ref (Z.2.2.1 + 273)), (1, .ref (Z.2.2.1 + a1)), (2, .ref (Z.2.2.1 + a2)), (3, .int a3), (4, .int a4)] [.int s0] μ := by
  refine J_istore (lv' := [(0, .ref (Z.2.2.1 + 273)), (1, .ref (Z.2.2.1 + a1)), (2, .ref (Z.2.2.1 + a2)), (3, .int a3), (4, .int a4), (5, .int s0)]) E dX7_findApart_34 (Nat.le_of_ble_eq_true rfl) rfl ?_
  refine J_iload_n E dX7_findApart_36 rfl ?_
  refine J_if_eq (tgt := 49) E dX7_findApart_37 (by decide) (fun c => ?_) (fun c => ?_)
  · refine J.weak [0, 1, 2, 4, 5] rfl ?_
    exact kt c
  · exact kf c
theorem bX7_findApart_40 {Z : ZT} {X : XT} {μ : Mu} {a1 : Nat} {a2 : Nat} {a3 : Int32} {a4 : Int32} {a5 : Int32} (E : Ent Z X mX7_findApart 0 0) (ha1 : SH a1 = .inl 4) (ha2 : SH a2 = .inl 4) 
    (kt : (μ 273 2) ≤ a5 → JS Z X 62 [(0, .ref (Z.2.2.1 + 273)), (1, .ref (Z.2.2.1 + a1)), (2, .ref (Z.2.2.1 + a2)), (3, .int a3), (4, .int a4)] [] μ) (kf : ¬ ((μ 273 2) ≤ a5) → JS Z X 49 [(0, .ref (Z.2.2.1 + 273)), (1, .ref (Z.2.2.1 + a1)), (2, .ref (Z.2.2.1 + a2)), (4, .int a4), (5, .int a5)] [] μ) :
    JS Z X 40 [(0, .ref (Z.2.2.1 + 273)), (1, .ref (Z.2.2.1 + a1)), (2, .ref (Z.2.2.1 + a2)), (3, .int a3), (4, .int a4), (5, .int a5)] [] μ := by
  refine J_iload E dX7_findApart_40 rfl ?_
  refine J_aload_n E dX7_findApart_42 rfl ?_
  refine S_get (ci := 7) (q := 2) (v := .int (μ 273 2)) E dX7_findApart_43 fs_X7_89 sh273 rfl ?_
  refine J_icmp_ge (tgt := 62) E dX7_findApart_46 (by decide) (fun c => ?_) (fun c => ?_)
  · refine J.weak [0, 1, 2, 3, 4] rfl ?_
    exact kt c
  · refine J.weak [0, 1, 2, 4, 5] rfl ?_
    exact kf c
theorem bX7_findApart_49 {Z : ZT} {X : XT} {μ : Mu} {a1 : Nat} {a2 : Nat} {a4 : Int32} {a5 : Int32} (E : Ent Z X mX7_findApart 0 0) (ha1 : SH a1 = .inl 4) (ha2 : SH a2 = .inl 4) 
    (k : JS Z X 57 [(0, .ref (Z.2.2.1 + 273)), (1, .ref (Z.2.2.1 + a1)), (2, .ref (Z.2.2.1 + a2)), (3, .int (nI 1)), (4, .int a4)] [] (uR μ 273 (upd (μ 273) 2 a5))) :
    JS Z X 49 [(0, .ref (Z.2.2.1 + 273)), (1, .ref (Z.2.2.1 + a1)), (2, .ref (Z.2.2.1 + a2)), (4, .int a4), (5, .int a5)] [] μ := by
  refine J_iconst (v := nI 1) E dX7_findApart_49 rfl ?_
  refine J_istore_n (lv' := [(0, .ref (Z.2.2.1 + 273)), (1, .ref (Z.2.2.1 + a1)), (2, .ref (Z.2.2.1 + a2)), (3, .int (nI 1)), (4, .int a4), (5, .int a5)]) E dX7_findApart_50 (Nat.le_of_ble_eq_true rfl) rfl ?_
  refine J_aload_n E dX7_findApart_51 rfl ?_
  refine J_iload E dX7_findApart_52 rfl ?_
  refine S_puti E dX7_findApart_54 fs_X7_89 fp_X7_2 sh273 rfl ?_
  refine J.weak [0, 1, 2, 3, 4] rfl ?_
  exact k
theorem bX7_findApart_57 {Z : ZT} {X : XT} {μ : Mu} {a1 : Nat} {a2 : Nat} {a3 : Int32} {a4 : Int32} (E : Ent Z X mX7_findApart 0 0) (ha1 : SH a1 = .inl 4) (ha2 : SH a2 = .inl 4) {p : Mu → Prop} 
    (c : CtrS Z mX7_keep [.ref (Z.2.2.1 + 273), .ref (Z.2.2.1 + a1)] μ (rV p)) (k : ∀ μ1, p μ1 → JS Z X 62 [(0, .ref (Z.2.2.1 + 273)), (1, .ref (Z.2.2.1 + a1)), (2, .ref (Z.2.2.1 + a2)), (3, .int a3), (4, .int a4)] [] μ1) :
    JS Z X 57 [(0, .ref (Z.2.2.1 + 273)), (1, .ref (Z.2.2.1 + a1)), (2, .ref (Z.2.2.1 + a2)), (3, .int a3), (4, .int a4)] [] μ := by
  refine J_aload_n E dX7_findApart_57 rfl ?_
  refine J_aload_n E dX7_findApart_58 rfl ?_
  refine S_callV (As := [.ref (Z.2.2.1 + a1)]) (rest := []) E dX7_findApart_59 c kX7_keep ⟨Nat.le_of_ble_eq_true rfl, Nat.le_of_ble_eq_true rfl⟩ rfl (Nat.le_of_ble_eq_true rfl) sh273 rfl rfl w5_20 w5_22 wp_22 (fun r_ μ1 hp_ => ?_)
  obtain ⟨rfl, hp_⟩ := hp_
  exact k μ1 hp_
theorem bX7_findApart_62 {Z : ZT} {X : XT} {μ : Mu} {a1 : Nat} {a2 : Nat} {a3 : Int32} {a4 : Int32} (E : Ent Z X mX7_findApart 0 0) (ha1 : SH a1 = .inl 4) (ha2 : SH a2 = .inl 4) {p : Int32 → Mu → Prop} 
    (c : CtrS Z mX4_nextOrder [.ref (Z.2.2.1 + a1)] μ (rI p)) (k : ∀ v μ1, p v μ1 → JS Z X 66 [(0, .ref (Z.2.2.1 + 273)), (1, .ref (Z.2.2.1 + a1)), (2, .ref (Z.2.2.1 + a2)), (3, .int a3), (4, .int a4)] [.int v] μ1) :
    JS Z X 62 [(0, .ref (Z.2.2.1 + 273)), (1, .ref (Z.2.2.1 + a1)), (2, .ref (Z.2.2.1 + a2)), (3, .int a3), (4, .int a4)] [] μ := by
  refine J_aload_n E dX7_findApart_62 rfl ?_
  refine S_callV (As := []) (rest := []) E dX7_findApart_63 c kX4_nextOrder ⟨Nat.le_of_ble_eq_true rfl, Nat.le_of_ble_eq_true rfl⟩ rfl (Nat.le_of_ble_eq_true rfl) ha1 rfl rfl w5_24 w5_25 w5_26 (fun r_ μ1 hp_ => ?_)
  obtain ⟨v, rfl, hp_⟩ := hp_
  exact k v μ1 hp_
theorem bX7_findApart_66 {Z : ZT} {X : XT} {μ : Mu} {a1 : Nat} {a2 : Nat} {a3 : Int32} {a4 : Int32} {s0 : Int32} (E : Ent Z X mX7_findApart 0 0) (ha1 : SH a1 = .inl 4) (ha2 : SH a2 = .inl 4) 
    (kt : ¬ s0 = 0 → JS Z X 72 [(0, .ref (Z.2.2.1 + 273)), (1, .ref (Z.2.2.1 + a1)), (2, .ref (Z.2.2.1 + a2)), (3, .int a3), (4, .int a4)] [] μ) (kf : s0 = 0 → JS Z X 69 [] [] μ) :
    JS Z X 66 [(0, .ref (Z.2.2.1 + 273)), (1, .ref (Z.2.2.1 + a1)), (2, .ref (Z.2.2.1 + a2)), (3, .int a3), (4, .int a4)] [.int s0] μ := by
  refine J_if_ne (tgt := 72) E dX7_findApart_66 (by decide) (fun c => ?_) (fun c => ?_)
  · exact kt c
  · refine J.weak [] rfl ?_
    exact kf c
theorem bX7_findApart_69 {Z : ZT} {X : XT} {μ : Mu} (E : Ent Z X mX7_findApart 0 0)  
    (k : JS Z X 78 [] [] μ) :
    JS Z X 69 [] [] μ := by
  refine J_goto (tgt := 78) E dX7_findApart_69 (by decide) ?_
  exact k
theorem bX7_findApart_72 {Z : ZT} {X : XT} {μ : Mu} {a1 : Nat} {a2 : Nat} {a3 : Int32} {a4 : Int32} (E : Ent Z X mX7_findApart 0 0) (ha1 : SH a1 = .inl 4) (ha2 : SH a2 = .inl 4) 
    (k : JS Z X 14 [(0, .ref (Z.2.2.1 + 273)), (1, .ref (Z.2.2.1 + a1)), (2, .ref (Z.2.2.1 + a2)), (3, .int a3), (4, .int (a4 + nI 1))] [] μ) :
    JS Z X 72 [(0, .ref (Z.2.2.1 + 273)), (1, .ref (Z.2.2.1 + a1)), (2, .ref (Z.2.2.1 + a2)), (3, .int a3), (4, .int a4)] [] μ := by
  refine J_iinc (v := a4 + nI 1) (lv' := [(0, .ref (Z.2.2.1 + 273)), (1, .ref (Z.2.2.1 + a1)), (2, .ref (Z.2.2.1 + a2)), (3, .int a3), (4, .int (a4 + nI 1))]) E dX7_findApart_72 rfl rfl (Nat.le_of_ble_eq_true rfl) rfl ?_
  refine J_goto (tgt := 14) E dX7_findApart_75 (by decide) ?_
  exact k
theorem bX7_findApart_78 {Z : ZT} {X : XT} {μ : Mu} (E : Ent Z X mX7_findApart 0 0) {P : Option Value → Mu → Prop} (hB : BodS Z X P) 
    (k : P none μ) :
    JS Z X 78 [] [] μ := by
  exact S_vret E hB dX7_findApart_78 rfl k
theorem dX7_keep_0 : decode cX7_keep 0 = .ok (.iconst 0, 1) := by decide +kernel
theorem dX7_keep_1 : decode cX7_keep 1 = .ok (.istore_n 2, 1) := by decide +kernel
theorem dX7_keep_2 : decode cX7_keep 2 = .ok (.iload_n 2, 1) := by decide +kernel
theorem dX7_keep_3 : decode cX7_keep 3 = .ok (.aload_n 1, 1) := by decide +kernel
theorem dX7_keep_4 : decode cX7_keep 4 = .ok (.getfield 96, 3) := by decide +kernel
theorem dX7_keep_7 : decode cX7_keep 7 = .ok (.if_icmp .ge 21, 3) := by decide +kernel
theorem dX7_keep_10 : decode cX7_keep 10 = .ok (.aload_n 0, 1) := by decide +kernel
theorem dX7_keep_11 : decode cX7_keep 11 = .ok (.getfield 9, 3) := by decide +kernel
theorem dX7_keep_14 : decode cX7_keep 14 = .ok (.iload_n 2, 1) := by decide +kernel
theorem dX7_keep_15 : decode cX7_keep 15 = .ok (.aload_n 1, 1) := by decide +kernel
theorem dX7_keep_16 : decode cX7_keep 16 = .ok (.getfield 47, 3) := by decide +kernel
theorem dX7_keep_19 : decode cX7_keep 19 = .ok (.iload_n 2, 1) := by decide +kernel
theorem dX7_keep_20 : decode cX7_keep 20 = .ok (.iaload, 1) := by decide +kernel
theorem dX7_keep_21 : decode cX7_keep 21 = .ok (.iastore, 1) := by decide +kernel
theorem dX7_keep_22 : decode cX7_keep 22 = .ok (.iinc 2 1, 3) := by decide +kernel
theorem dX7_keep_25 : decode cX7_keep 25 = .ok (.goto (-23), 3) := by decide +kernel
theorem dX7_keep_28 : decode cX7_keep 28 = .ok (.return_, 1) := by decide +kernel
theorem bX7_keep_0 {Z : ZT} {X : XT} {μ : Mu} {a1 : Nat} (E : Ent Z X mX7_keep 0 0) (ha1 : SH a1 = .inl 4) 
    (k : JS Z X 2 [(0, .ref (Z.2.2.1 + 273)), (1, .ref (Z.2.2.1 + a1)), (2, .int (nI 0))] [] μ) :
    JS Z X 0 [(0, .ref (Z.2.2.1 + 273)), (1, .ref (Z.2.2.1 + a1))] [] μ := by
  refine J_iconst (v := nI 0) E dX7_keep_0 rfl ?_
  refine J_istore_n (lv' := [(0, .ref (Z.2.2.1 + 273)), (1, .ref (Z.2.2.1 + a1)), (2, .int (nI 0))]) E dX7_keep_1 (Nat.le_of_ble_eq_true rfl) rfl ?_
  exact k
theorem bX7_keep_2 {Z : ZT} {X : XT} {μ : Mu} {a1 : Nat} {a2 : Int32} (E : Ent Z X mX7_keep 0 0) (ha1 : SH a1 = .inl 4) 
    (kt : (μ a1 4) ≤ a2 → JS Z X 28 [] [] μ) (kf : ¬ ((μ a1 4) ≤ a2) → JS Z X 10 [(0, .ref (Z.2.2.1 + 273)), (1, .ref (Z.2.2.1 + a1)), (2, .int a2)] [] μ) :
    JS Z X 2 [(0, .ref (Z.2.2.1 + 273)), (1, .ref (Z.2.2.1 + a1)), (2, .int a2)] [] μ := by
  refine J_iload_n E dX7_keep_2 rfl ?_
  refine J_aload_n E dX7_keep_3 rfl ?_
  refine S_get (ci := 4) (q := 4) (v := .int (μ a1 4)) E dX7_keep_4 fs_X7_96 ha1 rfl ?_
  refine J_icmp_ge (tgt := 28) E dX7_keep_7 (by decide) (fun c => ?_) (fun c => ?_)
  · refine J.weak [] rfl ?_
    exact kt c
  · exact kf c
theorem bX7_keep_10 {Z : ZT} {X : XT} {μ : Mu} {a1 : Nat} {a2 : Int32} (E : Ent Z X mX7_keep 0 0) (ha1 : SH a1 = .inl 4) (s1_ : vp_in a2 6) (s2_ : vp_in a2 6)
    (k : JS Z X 22 [(0, .ref (Z.2.2.1 + 273)), (1, .ref (Z.2.2.1 + a1)), (2, .int a2)] [] (uR μ 274 (upd (μ 274) (ix a2) (μ (a1 + 1) (ix a2))))) :
    JS Z X 10 [(0, .ref (Z.2.2.1 + 273)), (1, .ref (Z.2.2.1 + a1)), (2, .int a2)] [] μ := by
  refine J_aload_n E dX7_keep_10 rfl ?_
  refine S_get (ci := 7) (q := 1) (v := .ref (Z.2.2.1 + 274)) E dX7_keep_11 fs_X7_9 sh273 rfl ?_
  refine J_iload_n E dX7_keep_14 rfl ?_
  refine J_aload_n E dX7_keep_15 rfl ?_
  refine S_get (ci := 4) (q := 5) (v := .ref (Z.2.2.1 + (a1 + 1))) E dX7_keep_16 fs_X7_47 ha1 rfl ?_
  refine J_iload_n E dX7_keep_19 rfl ?_
  refine S_iald E dX7_keep_20 (shr_X4_5 ha1) s1_ ?_
  refine S_iast E dX7_keep_21 sh274 s2_ ?_
  exact k
theorem bX7_keep_22 {Z : ZT} {X : XT} {μ : Mu} {a1 : Nat} {a2 : Int32} (E : Ent Z X mX7_keep 0 0) (ha1 : SH a1 = .inl 4) 
    (k : JS Z X 2 [(0, .ref (Z.2.2.1 + 273)), (1, .ref (Z.2.2.1 + a1)), (2, .int (a2 + nI 1))] [] μ) :
    JS Z X 22 [(0, .ref (Z.2.2.1 + 273)), (1, .ref (Z.2.2.1 + a1)), (2, .int a2)] [] μ := by
  refine J_iinc (v := a2 + nI 1) (lv' := [(0, .ref (Z.2.2.1 + 273)), (1, .ref (Z.2.2.1 + a1)), (2, .int (a2 + nI 1))]) E dX7_keep_22 rfl rfl (Nat.le_of_ble_eq_true rfl) rfl ?_
  refine J_goto (tgt := 2) E dX7_keep_25 (by decide) ?_
  exact k
theorem bX7_keep_28 {Z : ZT} {X : XT} {μ : Mu} (E : Ent Z X mX7_keep 0 0) {P : Option Value → Mu → Prop} (hB : BodS Z X P) 
    (k : P none μ) :
    JS Z X 28 [] [] μ := by
  exact S_vret E hB dX7_keep_28 rfl k
theorem dX8_init_0 : decode cX8_init 0 = .ok (.aload_n 0, 1) := by decide +kernel
theorem dX8_init_1 : decode cX8_init 1 = .ok (.invokespecial 3, 3) := by decide +kernel
theorem dX8_init_4 : decode cX8_init 4 = .ok (.aload_n 0, 1) := by decide +kernel
theorem dX8_init_5 : decode cX8_init 5 = .ok (.bipush 37, 2) := by decide +kernel
theorem dX8_init_7 : decode cX8_init 7 = .ok (.anewarray 11, 3) := by decide +kernel
theorem dX8_init_10 : decode cX8_init 10 = .ok (.putfield 13, 3) := by decide +kernel
theorem dX8_init_13 : decode cX8_init 13 = .ok (.aload_n 0, 1) := by decide +kernel
theorem dX8_init_14 : decode cX8_init 14 = .ok (.bipush 37, 2) := by decide +kernel
theorem dX8_init_16 : decode cX8_init 16 = .ok (.anewarray 11, 3) := by decide +kernel
theorem dX8_init_19 : decode cX8_init 19 = .ok (.putfield 17, 3) := by decide +kernel
theorem dX8_init_22 : decode cX8_init 22 = .ok (.aload_n 0, 1) := by decide +kernel
theorem dX8_init_23 : decode cX8_init 23 = .ok (.bipush 7, 2) := by decide +kernel
theorem dX8_init_25 : decode cX8_init 25 = .ok (.anewarray 11, 3) := by decide +kernel
theorem dX8_init_28 : decode cX8_init 28 = .ok (.putfield 20, 3) := by decide +kernel
theorem dX8_init_31 : decode cX8_init 31 = .ok (.aload_n 0, 1) := by decide +kernel
theorem dX8_init_32 : decode cX8_init 32 = .ok (.new 11, 3) := by decide +kernel
theorem dX8_init_35 : decode cX8_init 35 = .ok (.dup, 1) := by decide +kernel
theorem dX8_init_36 : decode cX8_init 36 = .ok (.invokespecial 23, 3) := by decide +kernel
theorem dX8_init_39 : decode cX8_init 39 = .ok (.putfield 24, 3) := by decide +kernel
theorem dX8_init_42 : decode cX8_init 42 = .ok (.iconst 0, 1) := by decide +kernel
theorem dX8_init_43 : decode cX8_init 43 = .ok (.istore_n 1, 1) := by decide +kernel
theorem dX8_init_44 : decode cX8_init 44 = .ok (.iload_n 1, 1) := by decide +kernel
theorem dX8_init_45 : decode cX8_init 45 = .ok (.bipush 36, 2) := by decide +kernel
theorem dX8_init_47 : decode cX8_init 47 = .ok (.if_icmp .gt 35, 3) := by decide +kernel
theorem dX8_init_50 : decode cX8_init 50 = .ok (.aload_n 0, 1) := by decide +kernel
theorem dX8_init_51 : decode cX8_init 51 = .ok (.getfield 13, 3) := by decide +kernel
theorem dX8_init_54 : decode cX8_init 54 = .ok (.iload_n 1, 1) := by decide +kernel
theorem dX8_init_55 : decode cX8_init 55 = .ok (.new 11, 3) := by decide +kernel
theorem dX8_init_58 : decode cX8_init 58 = .ok (.dup, 1) := by decide +kernel
theorem dX8_init_59 : decode cX8_init 59 = .ok (.invokespecial 23, 3) := by decide +kernel
theorem dX8_init_62 : decode cX8_init 62 = .ok (.aastore, 1) := by decide +kernel
theorem dX8_init_63 : decode cX8_init 63 = .ok (.aload_n 0, 1) := by decide +kernel
theorem dX8_init_64 : decode cX8_init 64 = .ok (.getfield 17, 3) := by decide +kernel
theorem dX8_init_67 : decode cX8_init 67 = .ok (.iload_n 1, 1) := by decide +kernel
theorem dX8_init_68 : decode cX8_init 68 = .ok (.new 11, 3) := by decide +kernel
theorem dX8_init_71 : decode cX8_init 71 = .ok (.dup, 1) := by decide +kernel
theorem dX8_init_72 : decode cX8_init 72 = .ok (.invokespecial 23, 3) := by decide +kernel
theorem dX8_init_75 : decode cX8_init 75 = .ok (.aastore, 1) := by decide +kernel
theorem dX8_init_76 : decode cX8_init 76 = .ok (.iinc 1 1, 3) := by decide +kernel
theorem dX8_init_79 : decode cX8_init 79 = .ok (.goto (-35), 3) := by decide +kernel
theorem dX8_init_82 : decode cX8_init 82 = .ok (.iconst 0, 1) := by decide +kernel
theorem dX8_init_83 : decode cX8_init 83 = .ok (.istore_n 1, 1) := by decide +kernel
theorem dX8_init_84 : decode cX8_init 84 = .ok (.iload_n 1, 1) := by decide +kernel
theorem dX8_init_85 : decode cX8_init 85 = .ok (.bipush 6, 2) := by decide +kernel
theorem dX8_init_87 : decode cX8_init 87 = .ok (.if_icmp .gt 22, 3) := by decide +kernel
theorem dX8_init_90 : decode cX8_init 90 = .ok (.aload_n 0, 1) := by decide +kernel
theorem dX8_init_91 : decode cX8_init 91 = .ok (.getfield 20, 3) := by decide +kernel
theorem dX8_init_94 : decode cX8_init 94 = .ok (.iload_n 1, 1) := by decide +kernel
theorem dX8_init_95 : decode cX8_init 95 = .ok (.new 11, 3) := by decide +kernel
theorem dX8_init_98 : decode cX8_init 98 = .ok (.dup, 1) := by decide +kernel
theorem dX8_init_99 : decode cX8_init 99 = .ok (.invokespecial 23, 3) := by decide +kernel
theorem dX8_init_102 : decode cX8_init 102 = .ok (.aastore, 1) := by decide +kernel
theorem dX8_init_103 : decode cX8_init 103 = .ok (.iinc 1 1, 3) := by decide +kernel
theorem dX8_init_106 : decode cX8_init 106 = .ok (.goto (-22), 3) := by decide +kernel
theorem dX8_init_109 : decode cX8_init 109 = .ok (.return_, 1) := by decide +kernel
theorem dX8_ofHunt_0 : decode cX8_ofHunt 0 = .ok (.aload_n 0, 1) := by decide +kernel
theorem dX8_ofHunt_1 : decode cX8_ofHunt 1 = .ok (.iconst 0, 1) := by decide +kernel
theorem dX8_ofHunt_2 : decode cX8_ofHunt 2 = .ok (.putfield 28, 3) := by decide +kernel
theorem dX8_ofHunt_5 : decode cX8_ofHunt 5 = .ok (.aload_n 0, 1) := by decide +kernel
theorem dX8_ofHunt_6 : decode cX8_ofHunt 6 = .ok (.iconst 0, 1) := by decide +kernel
theorem dX8_ofHunt_7 : decode cX8_ofHunt 7 = .ok (.putfield 32, 3) := by decide +kernel
theorem dX8_ofHunt_10 : decode cX8_ofHunt 10 = .ok (.aload_n 0, 1) := by decide +kernel
theorem dX8_ofHunt_11 : decode cX8_ofHunt 11 = .ok (.getfield 13, 3) := by decide +kernel
theorem dX8_ofHunt_14 : decode cX8_ofHunt 14 = .ok (.iconst 0, 1) := by decide +kernel
theorem dX8_ofHunt_15 : decode cX8_ofHunt 15 = .ok (.aaload, 1) := by decide +kernel
theorem dX8_ofHunt_16 : decode cX8_ofHunt 16 = .ok (.iconst 1, 1) := by decide +kernel
theorem dX8_ofHunt_17 : decode cX8_ofHunt 17 = .ok (.invokevirtual 35, 3) := by decide +kernel
theorem dX8_ofHunt_20 : decode cX8_ofHunt 20 = .ok (.iconst 0, 1) := by decide +kernel
theorem dX8_ofHunt_21 : decode cX8_ofHunt 21 = .ok (.istore 4, 2) := by decide +kernel
theorem dX8_ofHunt_23 : decode cX8_ofHunt 23 = .ok (.iload 4, 2) := by decide +kernel
theorem dX8_ofHunt_25 : decode cX8_ofHunt 25 = .ok (.aload_n 1, 1) := by decide +kernel
theorem dX8_ofHunt_26 : decode cX8_ofHunt 26 = .ok (.getfield 39, 3) := by decide +kernel
theorem dX8_ofHunt_29 : decode cX8_ofHunt 29 = .ok (.if_icmp .ge 27, 3) := by decide +kernel
theorem dX8_ofHunt_32 : decode cX8_ofHunt 32 = .ok (.iload 4, 2) := by decide +kernel
theorem dX8_ofHunt_34 : decode cX8_ofHunt 34 = .ok (.iload_n 2, 1) := by decide +kernel
theorem dX8_ofHunt_35 : decode cX8_ofHunt 35 = .ok (.if_icmp .eq 15, 3) := by decide +kernel
theorem dX8_ofHunt_38 : decode cX8_ofHunt 38 = .ok (.aload_n 0, 1) := by decide +kernel
theorem dX8_ofHunt_39 : decode cX8_ofHunt 39 = .ok (.aload_n 1, 1) := by decide +kernel
theorem dX8_ofHunt_40 : decode cX8_ofHunt 40 = .ok (.getfield 44, 3) := by decide +kernel
theorem dX8_ofHunt_43 : decode cX8_ofHunt 43 = .ok (.iload 4, 2) := by decide +kernel
theorem dX8_ofHunt_45 : decode cX8_ofHunt 45 = .ok (.iaload, 1) := by decide +kernel
theorem dX8_ofHunt_46 : decode cX8_ofHunt 46 = .ok (.iload_n 3, 1) := by decide +kernel
theorem dX8_ofHunt_47 : decode cX8_ofHunt 47 = .ok (.invokevirtual 48, 3) := by decide +kernel
theorem dX8_ofHunt_50 : decode cX8_ofHunt 50 = .ok (.iinc 4 1, 3) := by decide +kernel
theorem dX8_ofHunt_53 : decode cX8_ofHunt 53 = .ok (.goto (-30), 3) := by decide +kernel
theorem dX8_ofHunt_56 : decode cX8_ofHunt 56 = .ok (.return_, 1) := by decide +kernel
theorem bX8_ofHunt_0 {Z : ZT} {X : XT} {μ : Mu} {a1 : Nat} {a2 : Int32} {a3 : Int32} (E : Ent Z X mX8_ofHunt 0 0) (ha1 : SH a1 = .inl 4) 
    (k : JS Z X 5 [(0, .ref (Z.2.2.1 + 105)), (1, .ref (Z.2.2.1 + a1)), (2, .int a2), (3, .int a3)] [] (uR μ 105 (upd (μ 105) 1 (nI 0)))) :
    JS Z X 0 [(0, .ref (Z.2.2.1 + 105)), (1, .ref (Z.2.2.1 + a1)), (2, .int a2), (3, .int a3)] [] μ := by
  refine J_aload_n E dX8_ofHunt_0 rfl ?_
  refine J_iconst (v := nI 0) E dX8_ofHunt_1 rfl ?_
  refine S_puti E dX8_ofHunt_2 fs_X8_28 fp_X8_1 sh105 rfl ?_
  exact k
theorem bX8_ofHunt_5 {Z : ZT} {X : XT} {μ : Mu} {a1 : Nat} {a2 : Int32} {a3 : Int32} (E : Ent Z X mX8_ofHunt 0 0) (ha1 : SH a1 = .inl 4) 
    (k : JS Z X 10 [(0, .ref (Z.2.2.1 + 105)), (1, .ref (Z.2.2.1 + a1)), (2, .int a2), (3, .int a3)] [] (uR μ 105 (upd (μ 105) 0 (nI 0)))) :
    JS Z X 5 [(0, .ref (Z.2.2.1 + 105)), (1, .ref (Z.2.2.1 + a1)), (2, .int a2), (3, .int a3)] [] μ := by
  refine J_aload_n E dX8_ofHunt_5 rfl ?_
  refine J_iconst (v := nI 0) E dX8_ofHunt_6 rfl ?_
  refine S_puti E dX8_ofHunt_7 fs_X8_32 fp_X8_0 sh105 rfl ?_
  exact k
theorem bX8_ofHunt_10 {Z : ZT} {X : XT} {μ : Mu} {a1 : Nat} {a2 : Int32} {a3 : Int32} (E : Ent Z X mX8_ofHunt 0 0) (ha1 : SH a1 = .inl 4) {p : Mu → Prop} (s1_ : ix (μ 105 2) = 106 ∨ ix (μ 105 2) = 107) (s2_ : vp_in (nI 0) 37)
    (c : CtrS Z mX0_set [.ref (Z.2.2.1 + (el (ix (μ 105 2)) (ix (nI 0)))), .int (nI 1)] μ (rV p)) (k : ∀ μ1, p μ1 → JS Z X 20 [(0, .ref (Z.2.2.1 + 105)), (1, .ref (Z.2.2.1 + a1)), (2, .int a2), (3, .int a3)] [] μ1) :
    JS Z X 10 [(0, .ref (Z.2.2.1 + 105)), (1, .ref (Z.2.2.1 + a1)), (2, .int a2), (3, .int a3)] [] μ := by
  refine J_aload_n E dX8_ofHunt_10 rfl ?_
  refine S_get (ci := 8) (q := 2) (v := .ref (Z.2.2.1 + ix (μ 105 2))) E dX8_ofHunt_11 fs_X8_13 sh105 rfl ?_
  refine J_iconst (v := nI 0) E dX8_ofHunt_14 rfl ?_
  refine S_aald (t := 0) E dX8_ofHunt_15 (sha_var s1_) rfl s2_ (by decide) ?_
  refine J_iconst (v := nI 1) E dX8_ofHunt_16 rfl ?_
  refine S_callV (As := [.int (nI 1)]) (rest := []) E dX8_ofHunt_17 c kX0_set ⟨Nat.le_of_ble_eq_true rfl, Nat.le_of_ble_eq_true rfl⟩ rfl (Nat.le_of_ble_eq_true rfl) (she_var s1_ (vpl s2_)) rfl rfl w4_186 w2_180 w2_181 (fun r_ μ1 hp_ => ?_)
  obtain ⟨rfl, hp_⟩ := hp_
  exact k μ1 hp_
theorem bX8_ofHunt_20 {Z : ZT} {X : XT} {μ : Mu} {a1 : Nat} {a2 : Int32} {a3 : Int32} (E : Ent Z X mX8_ofHunt 0 0) (ha1 : SH a1 = .inl 4) 
    (k : JS Z X 23 [(0, .ref (Z.2.2.1 + 105)), (1, .ref (Z.2.2.1 + a1)), (2, .int a2), (3, .int a3), (4, .int (nI 0))] [] μ) :
    JS Z X 20 [(0, .ref (Z.2.2.1 + 105)), (1, .ref (Z.2.2.1 + a1)), (2, .int a2), (3, .int a3)] [] μ := by
  refine J_iconst (v := nI 0) E dX8_ofHunt_20 rfl ?_
  refine J_istore (lv' := [(0, .ref (Z.2.2.1 + 105)), (1, .ref (Z.2.2.1 + a1)), (2, .int a2), (3, .int a3), (4, .int (nI 0))]) E dX8_ofHunt_21 (Nat.le_of_ble_eq_true rfl) rfl ?_
  exact k
theorem bX8_ofHunt_23 {Z : ZT} {X : XT} {μ : Mu} {a1 : Nat} {a2 : Int32} {a3 : Int32} {a4 : Int32} (E : Ent Z X mX8_ofHunt 0 0) (ha1 : SH a1 = .inl 4) 
    (kt : (μ a1 4) ≤ a4 → JS Z X 56 [] [] μ) (kf : ¬ ((μ a1 4) ≤ a4) → JS Z X 32 [(0, .ref (Z.2.2.1 + 105)), (1, .ref (Z.2.2.1 + a1)), (2, .int a2), (3, .int a3), (4, .int a4)] [] μ) :
    JS Z X 23 [(0, .ref (Z.2.2.1 + 105)), (1, .ref (Z.2.2.1 + a1)), (2, .int a2), (3, .int a3), (4, .int a4)] [] μ := by
  refine J_iload E dX8_ofHunt_23 rfl ?_
  refine J_aload_n E dX8_ofHunt_25 rfl ?_
  refine S_get (ci := 4) (q := 4) (v := .int (μ a1 4)) E dX8_ofHunt_26 fs_X8_39 ha1 rfl ?_
  refine J_icmp_ge (tgt := 56) E dX8_ofHunt_29 (by decide) (fun c => ?_) (fun c => ?_)
  · refine J.weak [] rfl ?_
    exact kt c
  · exact kf c
theorem bX8_ofHunt_32 {Z : ZT} {X : XT} {μ : Mu} {a1 : Nat} {a2 : Int32} {a3 : Int32} {a4 : Int32} (E : Ent Z X mX8_ofHunt 0 0) (ha1 : SH a1 = .inl 4) 
    (kt : a4 = a2 → JS Z X 50 [(0, .ref (Z.2.2.1 + 105)), (1, .ref (Z.2.2.1 + a1)), (2, .int a2), (3, .int a3), (4, .int a4)] [] μ) (kf : ¬ (a4 = a2) → JS Z X 38 [(0, .ref (Z.2.2.1 + 105)), (1, .ref (Z.2.2.1 + a1)), (2, .int a2), (3, .int a3), (4, .int a4)] [] μ) :
    JS Z X 32 [(0, .ref (Z.2.2.1 + 105)), (1, .ref (Z.2.2.1 + a1)), (2, .int a2), (3, .int a3), (4, .int a4)] [] μ := by
  refine J_iload E dX8_ofHunt_32 rfl ?_
  refine J_iload_n E dX8_ofHunt_34 rfl ?_
  refine J_icmp_eq (tgt := 50) E dX8_ofHunt_35 (by decide) (fun c => ?_) (fun c => ?_)
  · exact kt c
  · exact kf c
theorem bX8_ofHunt_38 {Z : ZT} {X : XT} {μ : Mu} {a1 : Nat} {a2 : Int32} {a3 : Int32} {a4 : Int32} (E : Ent Z X mX8_ofHunt 0 0) (ha1 : SH a1 = .inl 4) {p : Mu → Prop} (s1_ : vp_in a4 6)
    (c : CtrS Z mX8_addRiddle [.ref (Z.2.2.1 + 105), .int (μ (a1 + 3) (ix a4)), .int a3] μ (rV p)) (k : ∀ μ1, p μ1 → JS Z X 50 [(0, .ref (Z.2.2.1 + 105)), (1, .ref (Z.2.2.1 + a1)), (2, .int a2), (3, .int a3), (4, .int a4)] [] μ1) :
    JS Z X 38 [(0, .ref (Z.2.2.1 + 105)), (1, .ref (Z.2.2.1 + a1)), (2, .int a2), (3, .int a3), (4, .int a4)] [] μ := by
  refine J_aload_n E dX8_ofHunt_38 rfl ?_
  refine J_aload_n E dX8_ofHunt_39 rfl ?_
  refine S_get (ci := 4) (q := 7) (v := .ref (Z.2.2.1 + (a1 + 3))) E dX8_ofHunt_40 fs_X8_44 ha1 rfl ?_
  refine J_iload E dX8_ofHunt_43 rfl ?_
  refine S_iald E dX8_ofHunt_45 (shr_X4_7 ha1) s1_ ?_
  refine J_iload_n E dX8_ofHunt_46 rfl ?_
  refine S_callV (As := [.int (μ (a1 + 3) (ix a4)), .int a3]) (rest := []) E dX8_ofHunt_47 c kX8_addRiddle ⟨Nat.le_of_ble_eq_true rfl, Nat.le_of_ble_eq_true rfl⟩ rfl (Nat.le_of_ble_eq_true rfl) sh105 rfl rfl w4_187 w4_189 wp_19 (fun r_ μ1 hp_ => ?_)
  obtain ⟨rfl, hp_⟩ := hp_
  exact k μ1 hp_
theorem bX8_ofHunt_50 {Z : ZT} {X : XT} {μ : Mu} {a1 : Nat} {a2 : Int32} {a3 : Int32} {a4 : Int32} (E : Ent Z X mX8_ofHunt 0 0) (ha1 : SH a1 = .inl 4) 
    (k : JS Z X 23 [(0, .ref (Z.2.2.1 + 105)), (1, .ref (Z.2.2.1 + a1)), (2, .int a2), (3, .int a3), (4, .int (a4 + nI 1))] [] μ) :
    JS Z X 50 [(0, .ref (Z.2.2.1 + 105)), (1, .ref (Z.2.2.1 + a1)), (2, .int a2), (3, .int a3), (4, .int a4)] [] μ := by
  refine J_iinc (v := a4 + nI 1) (lv' := [(0, .ref (Z.2.2.1 + 105)), (1, .ref (Z.2.2.1 + a1)), (2, .int a2), (3, .int a3), (4, .int (a4 + nI 1))]) E dX8_ofHunt_50 rfl rfl (Nat.le_of_ble_eq_true rfl) rfl ?_
  refine J_goto (tgt := 23) E dX8_ofHunt_53 (by decide) ?_
  exact k
theorem bX8_ofHunt_56 {Z : ZT} {X : XT} {μ : Mu} (E : Ent Z X mX8_ofHunt 0 0) {P : Option Value → Mu → Prop} (hB : BodS Z X P) 
    (k : P none μ) :
    JS Z X 56 [] [] μ := by
  exact S_vret E hB dX8_ofHunt_56 rfl k
theorem dX8_addRiddle_0 : decode cX8_addRiddle 0 = .ok (.iload_n 2, 1) := by decide +kernel
theorem dX8_addRiddle_1 : decode cX8_addRiddle 1 = .ok (.iconst 1, 1) := by decide +kernel
theorem dX8_addRiddle_2 : decode cX8_addRiddle 2 = .ok (.if_icmp .lt 20, 3) := by decide +kernel
theorem dX8_addRiddle_5 : decode cX8_addRiddle 5 = .ok (.iload_n 2, 1) := by decide +kernel
theorem dX8_addRiddle_6 : decode cX8_addRiddle 6 = .ok (.bipush 6, 2) := by decide +kernel
theorem dX8_addRiddle_8 : decode cX8_addRiddle 8 = .ok (.if_icmp .gt 14, 3) := by decide +kernel
theorem dX8_addRiddle_11 : decode cX8_addRiddle 11 = .ok (.aload_n 0, 1) := by decide +kernel
theorem dX8_addRiddle_12 : decode cX8_addRiddle 12 = .ok (.getfield 28, 3) := by decide +kernel
theorem dX8_addRiddle_15 : decode cX8_addRiddle 15 = .ok (.iload_n 2, 1) := by decide +kernel
theorem dX8_addRiddle_16 : decode cX8_addRiddle 16 = .ok (.iadd, 1) := by decide +kernel
theorem dX8_addRiddle_17 : decode cX8_addRiddle 17 = .ok (.bipush 36, 2) := by decide +kernel
theorem dX8_addRiddle_19 : decode cX8_addRiddle 19 = .ok (.if_icmp .le 4, 3) := by decide +kernel
theorem dX8_addRiddle_22 : decode cX8_addRiddle 22 = .ok (.return_, 1) := by decide +kernel
theorem dX8_addRiddle_23 : decode cX8_addRiddle 23 = .ok (.aload_n 0, 1) := by decide +kernel
theorem dX8_addRiddle_24 : decode cX8_addRiddle 24 = .ok (.iload_n 1, 1) := by decide +kernel
theorem dX8_addRiddle_25 : decode cX8_addRiddle 25 = .ok (.iload_n 2, 1) := by decide +kernel
theorem dX8_addRiddle_26 : decode cX8_addRiddle 26 = .ok (.invokevirtual 52, 3) := by decide +kernel
theorem dX8_addRiddle_29 : decode cX8_addRiddle 29 = .ok (.iconst 0, 1) := by decide +kernel
theorem dX8_addRiddle_30 : decode cX8_addRiddle 30 = .ok (.istore_n 3, 1) := by decide +kernel
theorem dX8_addRiddle_31 : decode cX8_addRiddle 31 = .ok (.iload_n 3, 1) := by decide +kernel
theorem dX8_addRiddle_32 : decode cX8_addRiddle 32 = .ok (.aload_n 0, 1) := by decide +kernel
theorem dX8_addRiddle_33 : decode cX8_addRiddle 33 = .ok (.getfield 28, 3) := by decide +kernel
theorem dX8_addRiddle_36 : decode cX8_addRiddle 36 = .ok (.iload_n 2, 1) := by decide +kernel
theorem dX8_addRiddle_37 : decode cX8_addRiddle 37 = .ok (.iadd, 1) := by decide +kernel
theorem dX8_addRiddle_38 : decode cX8_addRiddle 38 = .ok (.if_icmp .gt 19, 3) := by decide +kernel
theorem dX8_addRiddle_41 : decode cX8_addRiddle 41 = .ok (.aload_n 0, 1) := by decide +kernel
theorem dX8_addRiddle_42 : decode cX8_addRiddle 42 = .ok (.getfield 17, 3) := by decide +kernel
theorem dX8_addRiddle_45 : decode cX8_addRiddle 45 = .ok (.iload_n 3, 1) := by decide +kernel
theorem dX8_addRiddle_46 : decode cX8_addRiddle 46 = .ok (.aaload, 1) := by decide +kernel
theorem dX8_addRiddle_47 : decode cX8_addRiddle 47 = .ok (.iconst 0, 1) := by decide +kernel
theorem dX8_addRiddle_48 : decode cX8_addRiddle 48 = .ok (.invokevirtual 35, 3) := by decide +kernel
theorem dX8_addRiddle_51 : decode cX8_addRiddle 51 = .ok (.iinc 3 1, 3) := by decide +kernel
theorem dX8_addRiddle_54 : decode cX8_addRiddle 54 = .ok (.goto (-23), 3) := by decide +kernel
theorem dX8_addRiddle_57 : decode cX8_addRiddle 57 = .ok (.iconst 0, 1) := by decide +kernel
theorem dX8_addRiddle_58 : decode cX8_addRiddle 58 = .ok (.istore_n 3, 1) := by decide +kernel
theorem dX8_addRiddle_59 : decode cX8_addRiddle 59 = .ok (.iload_n 3, 1) := by decide +kernel
theorem dX8_addRiddle_60 : decode cX8_addRiddle 60 = .ok (.aload_n 0, 1) := by decide +kernel
theorem dX8_addRiddle_61 : decode cX8_addRiddle 61 = .ok (.getfield 28, 3) := by decide +kernel
theorem dX8_addRiddle_64 : decode cX8_addRiddle 64 = .ok (.if_icmp .gt 49, 3) := by decide +kernel
theorem dX8_addRiddle_67 : decode cX8_addRiddle 67 = .ok (.iconst 1, 1) := by decide +kernel
theorem dX8_addRiddle_68 : decode cX8_addRiddle 68 = .ok (.istore 4, 2) := by decide +kernel
theorem dX8_addRiddle_70 : decode cX8_addRiddle 70 = .ok (.iload 4, 2) := by decide +kernel
theorem dX8_addRiddle_72 : decode cX8_addRiddle 72 = .ok (.iload_n 2, 1) := by decide +kernel
theorem dX8_addRiddle_73 : decode cX8_addRiddle 73 = .ok (.if_icmp .gt 34, 3) := by decide +kernel
theorem dX8_addRiddle_76 : decode cX8_addRiddle 76 = .ok (.aload_n 0, 1) := by decide +kernel
theorem dX8_addRiddle_77 : decode cX8_addRiddle 77 = .ok (.getfield 17, 3) := by decide +kernel
theorem dX8_addRiddle_80 : decode cX8_addRiddle 80 = .ok (.iload_n 3, 1) := by decide +kernel
theorem dX8_addRiddle_81 : decode cX8_addRiddle 81 = .ok (.iload 4, 2) := by decide +kernel
theorem dX8_addRiddle_83 : decode cX8_addRiddle 83 = .ok (.iadd, 1) := by decide +kernel
theorem dX8_addRiddle_84 : decode cX8_addRiddle 84 = .ok (.aaload, 1) := by decide +kernel
theorem dX8_addRiddle_85 : decode cX8_addRiddle 85 = .ok (.aload_n 0, 1) := by decide +kernel
theorem dX8_addRiddle_86 : decode cX8_addRiddle 86 = .ok (.getfield 13, 3) := by decide +kernel
theorem dX8_addRiddle_89 : decode cX8_addRiddle 89 = .ok (.iload_n 3, 1) := by decide +kernel
theorem dX8_addRiddle_90 : decode cX8_addRiddle 90 = .ok (.aaload, 1) := by decide +kernel
theorem dX8_addRiddle_91 : decode cX8_addRiddle 91 = .ok (.aload_n 0, 1) := by decide +kernel
theorem dX8_addRiddle_92 : decode cX8_addRiddle 92 = .ok (.getfield 20, 3) := by decide +kernel
theorem dX8_addRiddle_95 : decode cX8_addRiddle 95 = .ok (.iload 4, 2) := by decide +kernel
theorem dX8_addRiddle_97 : decode cX8_addRiddle 97 = .ok (.aaload, 1) := by decide +kernel
theorem dX8_addRiddle_98 : decode cX8_addRiddle 98 = .ok (.invokevirtual 55, 3) := by decide +kernel
theorem dX8_addRiddle_101 : decode cX8_addRiddle 101 = .ok (.iinc 4 1, 3) := by decide +kernel
theorem dX8_addRiddle_104 : decode cX8_addRiddle 104 = .ok (.goto (-34), 3) := by decide +kernel
theorem dX8_addRiddle_107 : decode cX8_addRiddle 107 = .ok (.iinc 3 1, 3) := by decide +kernel
theorem dX8_addRiddle_110 : decode cX8_addRiddle 110 = .ok (.goto (-51), 3) := by decide +kernel
theorem dX8_addRiddle_113 : decode cX8_addRiddle 113 = .ok (.aload_n 0, 1) := by decide +kernel
theorem dX8_addRiddle_114 : decode cX8_addRiddle 114 = .ok (.getfield 13, 3) := by decide +kernel
theorem dX8_addRiddle_117 : decode cX8_addRiddle 117 = .ok (.astore_n 3, 1) := by decide +kernel
theorem dX8_addRiddle_118 : decode cX8_addRiddle 118 = .ok (.aload_n 0, 1) := by decide +kernel
theorem dX8_addRiddle_119 : decode cX8_addRiddle 119 = .ok (.aload_n 0, 1) := by decide +kernel
theorem dX8_addRiddle_120 : decode cX8_addRiddle 120 = .ok (.getfield 17, 3) := by decide +kernel
theorem dX8_addRiddle_123 : decode cX8_addRiddle 123 = .ok (.putfield 13, 3) := by decide +kernel
theorem dX8_addRiddle_126 : decode cX8_addRiddle 126 = .ok (.aload_n 0, 1) := by decide +kernel
theorem dX8_addRiddle_127 : decode cX8_addRiddle 127 = .ok (.aload_n 3, 1) := by decide +kernel
theorem dX8_addRiddle_128 : decode cX8_addRiddle 128 = .ok (.putfield 17, 3) := by decide +kernel
theorem dX8_addRiddle_131 : decode cX8_addRiddle 131 = .ok (.aload_n 0, 1) := by decide +kernel
theorem dX8_addRiddle_132 : decode cX8_addRiddle 132 = .ok (.dup, 1) := by decide +kernel
theorem dX8_addRiddle_133 : decode cX8_addRiddle 133 = .ok (.getfield 28, 3) := by decide +kernel
theorem dX8_addRiddle_136 : decode cX8_addRiddle 136 = .ok (.iload_n 2, 1) := by decide +kernel
theorem dX8_addRiddle_137 : decode cX8_addRiddle 137 = .ok (.iadd, 1) := by decide +kernel
theorem dX8_addRiddle_138 : decode cX8_addRiddle 138 = .ok (.putfield 28, 3) := by decide +kernel
theorem dX8_addRiddle_141 : decode cX8_addRiddle 141 = .ok (.aload_n 0, 1) := by decide +kernel
theorem dX8_addRiddle_142 : decode cX8_addRiddle 142 = .ok (.dup, 1) := by decide +kernel
theorem dX8_addRiddle_143 : decode cX8_addRiddle 143 = .ok (.getfield 32, 3) := by decide +kernel
theorem dX8_addRiddle_146 : decode cX8_addRiddle 146 = .ok (.bipush 6, 2) := by decide +kernel
theorem dX8_addRiddle_148 : decode cX8_addRiddle 148 = .ok (.iload_n 2, 1) := by decide +kernel
theorem dX8_addRiddle_149 : decode cX8_addRiddle 149 = .ok (.iconst 1, 1) := by decide +kernel
theorem dX8_addRiddle_150 : decode cX8_addRiddle 150 = .ok (.isub, 1) := by decide +kernel
theorem dX8_addRiddle_151 : decode cX8_addRiddle 151 = .ok (.imul, 1) := by decide +kernel
theorem dX8_addRiddle_152 : decode cX8_addRiddle 152 = .ok (.iadd, 1) := by decide +kernel
theorem dX8_addRiddle_153 : decode cX8_addRiddle 153 = .ok (.putfield 32, 3) := by decide +kernel
theorem dX8_addRiddle_156 : decode cX8_addRiddle 156 = .ok (.return_, 1) := by decide +kernel
theorem bX8_addRiddle_0 {Z : ZT} {X : XT} {μ : Mu} {a1 : Int32} {a2 : Int32} (E : Ent Z X mX8_addRiddle 0 0)  
    (kt : a2 < (nI 1) → JS Z X 22 [] [] μ) (kf : ¬ (a2 < (nI 1)) → JS Z X 5 [(0, .ref (Z.2.2.1 + 105)), (1, .int a1), (2, .int a2)] [] μ) :
    JS Z X 0 [(0, .ref (Z.2.2.1 + 105)), (1, .int a1), (2, .int a2)] [] μ := by
  refine J_iload_n E dX8_addRiddle_0 rfl ?_
  refine J_iconst (v := nI 1) E dX8_addRiddle_1 rfl ?_
  refine J_icmp_lt (tgt := 22) E dX8_addRiddle_2 (by decide) (fun c => ?_) (fun c => ?_)
  · refine J.weak [] rfl ?_
    exact kt c
  · exact kf c
theorem bX8_addRiddle_5 {Z : ZT} {X : XT} {μ : Mu} {a1 : Int32} {a2 : Int32} (E : Ent Z X mX8_addRiddle 0 0)  
    (kt : (nI 6) < a2 → JS Z X 22 [] [] μ) (kf : ¬ ((nI 6) < a2) → JS Z X 11 [(0, .ref (Z.2.2.1 + 105)), (1, .int a1), (2, .int a2)] [] μ) :
    JS Z X 5 [(0, .ref (Z.2.2.1 + 105)), (1, .int a1), (2, .int a2)] [] μ := by
  refine J_iload_n E dX8_addRiddle_5 rfl ?_
  refine J_bipush (v := nI 6) E dX8_addRiddle_6 rfl ?_
  refine J_icmp_gt (tgt := 22) E dX8_addRiddle_8 (by decide) (fun c => ?_) (fun c => ?_)
  · refine J.weak [] rfl ?_
    exact kt c
  · exact kf c
theorem bX8_addRiddle_11 {Z : ZT} {X : XT} {μ : Mu} {a1 : Int32} {a2 : Int32} (E : Ent Z X mX8_addRiddle 0 0)  
    (kt : ((μ 105 1) + a2) ≤ (nI 36) → JS Z X 23 [(0, .ref (Z.2.2.1 + 105)), (1, .int a1), (2, .int a2)] [] μ) (kf : ¬ (((μ 105 1) + a2) ≤ (nI 36)) → JS Z X 22 [] [] μ) :
    JS Z X 11 [(0, .ref (Z.2.2.1 + 105)), (1, .int a1), (2, .int a2)] [] μ := by
  refine J_aload_n E dX8_addRiddle_11 rfl ?_
  refine S_get (ci := 8) (q := 1) (v := .int (μ 105 1)) E dX8_addRiddle_12 fs_X8_28 sh105 rfl ?_
  refine J_iload_n E dX8_addRiddle_15 rfl ?_
  refine J_iadd E dX8_addRiddle_16 ?_
  refine J_bipush (v := nI 36) E dX8_addRiddle_17 rfl ?_
  refine J_icmp_le (tgt := 23) E dX8_addRiddle_19 (by decide) (fun c => ?_) (fun c => ?_)
  · exact kt c
  · refine J.weak [] rfl ?_
    exact kf c
theorem bX8_addRiddle_22 {Z : ZT} {X : XT} {μ : Mu} (E : Ent Z X mX8_addRiddle 0 0) {P : Option Value → Mu → Prop} (hB : BodS Z X P) 
    (k : P none μ) :
    JS Z X 22 [] [] μ := by
  exact S_vret E hB dX8_addRiddle_22 rfl k
theorem bX8_addRiddle_23 {Z : ZT} {X : XT} {μ : Mu} {a1 : Int32} {a2 : Int32} (E : Ent Z X mX8_addRiddle 0 0) {p : Mu → Prop} 
    (c : CtrS Z mX8_weigh [.ref (Z.2.2.1 + 105), .int a1, .int a2] μ (rV p)) (k : ∀ μ1, p μ1 → JS Z X 29 [(0, .ref (Z.2.2.1 + 105)), (2, .int a2)] [] μ1) :
    JS Z X 23 [(0, .ref (Z.2.2.1 + 105)), (1, .int a1), (2, .int a2)] [] μ := by
  refine J_aload_n E dX8_addRiddle_23 rfl ?_
  refine J_iload_n E dX8_addRiddle_24 rfl ?_
  refine J_iload_n E dX8_addRiddle_25 rfl ?_
  refine S_callV (As := [.int a1, .int a2]) (rest := []) E dX8_addRiddle_26 c kX8_weigh ⟨Nat.le_of_ble_eq_true rfl, Nat.le_of_ble_eq_true rfl⟩ rfl (Nat.le_of_ble_eq_true rfl) sh105 rfl rfl w4_191 w4_193 wp_20 (fun r_ μ1 hp_ => ?_)
  obtain ⟨rfl, hp_⟩ := hp_
  refine J.weak [0, 2] rfl ?_
  exact k μ1 hp_
theorem bX8_addRiddle_29 {Z : ZT} {X : XT} {μ : Mu} {a2 : Int32} (E : Ent Z X mX8_addRiddle 0 0)  
    (k : JS Z X 31 [(0, .ref (Z.2.2.1 + 105)), (2, .int a2), (3, .int (nI 0))] [] μ) :
    JS Z X 29 [(0, .ref (Z.2.2.1 + 105)), (2, .int a2)] [] μ := by
  refine J_iconst (v := nI 0) E dX8_addRiddle_29 rfl ?_
  refine J_istore_n (lv' := [(0, .ref (Z.2.2.1 + 105)), (2, .int a2), (3, .int (nI 0))]) E dX8_addRiddle_30 (Nat.le_of_ble_eq_true rfl) rfl ?_
  exact k
theorem bX8_addRiddle_31 {Z : ZT} {X : XT} {μ : Mu} {a2 : Int32} {a3 : Int32} (E : Ent Z X mX8_addRiddle 0 0)  
    (kt : ((μ 105 1) + a2) < a3 → JS Z X 57 [(0, .ref (Z.2.2.1 + 105)), (2, .int a2)] [] μ) (kf : ¬ (((μ 105 1) + a2) < a3) → JS Z X 41 [(0, .ref (Z.2.2.1 + 105)), (2, .int a2), (3, .int a3)] [] μ) :
    JS Z X 31 [(0, .ref (Z.2.2.1 + 105)), (2, .int a2), (3, .int a3)] [] μ := by
  refine J_iload_n E dX8_addRiddle_31 rfl ?_
  refine J_aload_n E dX8_addRiddle_32 rfl ?_
  refine S_get (ci := 8) (q := 1) (v := .int (μ 105 1)) E dX8_addRiddle_33 fs_X8_28 sh105 rfl ?_
  refine J_iload_n E dX8_addRiddle_36 rfl ?_
  refine J_iadd E dX8_addRiddle_37 ?_
  refine J_icmp_gt (tgt := 57) E dX8_addRiddle_38 (by decide) (fun c => ?_) (fun c => ?_)
  · refine J.weak [0, 1] rfl ?_
    exact kt c
  · exact kf c
theorem bX8_addRiddle_41 {Z : ZT} {X : XT} {μ : Mu} {a2 : Int32} {a3 : Int32} (E : Ent Z X mX8_addRiddle 0 0) {p : Mu → Prop} (s1_ : ix (μ 105 3) = 106 ∨ ix (μ 105 3) = 107) (s2_ : vp_in a3 37)
    (c : CtrS Z mX0_set [.ref (Z.2.2.1 + (el (ix (μ 105 3)) (ix a3))), .int (nI 0)] μ (rV p)) (k : ∀ μ1, p μ1 → JS Z X 51 [(0, .ref (Z.2.2.1 + 105)), (2, .int a2), (3, .int a3)] [] μ1) :
    JS Z X 41 [(0, .ref (Z.2.2.1 + 105)), (2, .int a2), (3, .int a3)] [] μ := by
  refine J_aload_n E dX8_addRiddle_41 rfl ?_
  refine S_get (ci := 8) (q := 3) (v := .ref (Z.2.2.1 + ix (μ 105 3))) E dX8_addRiddle_42 fs_X8_17 sh105 rfl ?_
  refine J_iload_n E dX8_addRiddle_45 rfl ?_
  refine S_aald (t := 0) E dX8_addRiddle_46 (sha_var s1_) rfl s2_ (by decide) ?_
  refine J_iconst (v := nI 0) E dX8_addRiddle_47 rfl ?_
  refine S_callV (As := [.int (nI 0)]) (rest := []) E dX8_addRiddle_48 c kX0_set ⟨Nat.le_of_ble_eq_true rfl, Nat.le_of_ble_eq_true rfl⟩ rfl (Nat.le_of_ble_eq_true rfl) (she_var s1_ (vpl s2_)) rfl rfl w4_186 w2_180 w2_181 (fun r_ μ1 hp_ => ?_)
  obtain ⟨rfl, hp_⟩ := hp_
  exact k μ1 hp_
theorem bX8_addRiddle_51 {Z : ZT} {X : XT} {μ : Mu} {a2 : Int32} {a3 : Int32} (E : Ent Z X mX8_addRiddle 0 0)  
    (k : JS Z X 31 [(0, .ref (Z.2.2.1 + 105)), (2, .int a2), (3, .int (a3 + nI 1))] [] μ) :
    JS Z X 51 [(0, .ref (Z.2.2.1 + 105)), (2, .int a2), (3, .int a3)] [] μ := by
  refine J_iinc (v := a3 + nI 1) (lv' := [(0, .ref (Z.2.2.1 + 105)), (2, .int a2), (3, .int (a3 + nI 1))]) E dX8_addRiddle_51 rfl rfl (Nat.le_of_ble_eq_true rfl) rfl ?_
  refine J_goto (tgt := 31) E dX8_addRiddle_54 (by decide) ?_
  exact k
theorem bX8_addRiddle_57 {Z : ZT} {X : XT} {μ : Mu} {a2 : Int32} (E : Ent Z X mX8_addRiddle 0 0)  
    (k : JS Z X 59 [(0, .ref (Z.2.2.1 + 105)), (2, .int a2), (3, .int (nI 0))] [] μ) :
    JS Z X 57 [(0, .ref (Z.2.2.1 + 105)), (2, .int a2)] [] μ := by
  refine J_iconst (v := nI 0) E dX8_addRiddle_57 rfl ?_
  refine J_istore_n (lv' := [(0, .ref (Z.2.2.1 + 105)), (2, .int a2), (3, .int (nI 0))]) E dX8_addRiddle_58 (Nat.le_of_ble_eq_true rfl) rfl ?_
  exact k
theorem bX8_addRiddle_59 {Z : ZT} {X : XT} {μ : Mu} {a2 : Int32} {a3 : Int32} (E : Ent Z X mX8_addRiddle 0 0)  
    (kt : (μ 105 1) < a3 → JS Z X 113 [(0, .ref (Z.2.2.1 + 105)), (2, .int a2)] [] μ) (kf : ¬ ((μ 105 1) < a3) → JS Z X 67 [(0, .ref (Z.2.2.1 + 105)), (2, .int a2), (3, .int a3)] [] μ) :
    JS Z X 59 [(0, .ref (Z.2.2.1 + 105)), (2, .int a2), (3, .int a3)] [] μ := by
  refine J_iload_n E dX8_addRiddle_59 rfl ?_
  refine J_aload_n E dX8_addRiddle_60 rfl ?_
  refine S_get (ci := 8) (q := 1) (v := .int (μ 105 1)) E dX8_addRiddle_61 fs_X8_28 sh105 rfl ?_
  refine J_icmp_gt (tgt := 113) E dX8_addRiddle_64 (by decide) (fun c => ?_) (fun c => ?_)
  · refine J.weak [0, 1] rfl ?_
    exact kt c
  · exact kf c
theorem bX8_addRiddle_67 {Z : ZT} {X : XT} {μ : Mu} {a2 : Int32} {a3 : Int32} (E : Ent Z X mX8_addRiddle 0 0)  
    (k : JS Z X 70 [(0, .ref (Z.2.2.1 + 105)), (2, .int a2), (3, .int a3), (4, .int (nI 1))] [] μ) :
    JS Z X 67 [(0, .ref (Z.2.2.1 + 105)), (2, .int a2), (3, .int a3)] [] μ := by
  refine J_iconst (v := nI 1) E dX8_addRiddle_67 rfl ?_
  refine J_istore (lv' := [(0, .ref (Z.2.2.1 + 105)), (2, .int a2), (3, .int a3), (4, .int (nI 1))]) E dX8_addRiddle_68 (Nat.le_of_ble_eq_true rfl) rfl ?_
  exact k
theorem bX8_addRiddle_70 {Z : ZT} {X : XT} {μ : Mu} {a2 : Int32} {a3 : Int32} {a4 : Int32} (E : Ent Z X mX8_addRiddle 0 0)  
    (kt : a2 < a4 → JS Z X 107 [(0, .ref (Z.2.2.1 + 105)), (2, .int a2), (3, .int a3)] [] μ) (kf : ¬ (a2 < a4) → JS Z X 76 [(0, .ref (Z.2.2.1 + 105)), (2, .int a2), (3, .int a3), (4, .int a4)] [] μ) :
    JS Z X 70 [(0, .ref (Z.2.2.1 + 105)), (2, .int a2), (3, .int a3), (4, .int a4)] [] μ := by
  refine J_iload E dX8_addRiddle_70 rfl ?_
  refine J_iload_n E dX8_addRiddle_72 rfl ?_
  refine J_icmp_gt (tgt := 107) E dX8_addRiddle_73 (by decide) (fun c => ?_) (fun c => ?_)
  · refine J.weak [0, 1, 2] rfl ?_
    exact kt c
  · exact kf c
theorem bX8_addRiddle_76 {Z : ZT} {X : XT} {μ : Mu} {a2 : Int32} {a3 : Int32} {a4 : Int32} (E : Ent Z X mX8_addRiddle 0 0) {p : Mu → Prop} (s1_ : ix (μ 105 3) = 106 ∨ ix (μ 105 3) = 107) (s2_ : vp_in (a3 + a4) 37) (s3_ : ix (μ 105 2) = 106 ∨ ix (μ 105 2) = 107) (s4_ : vp_in a3 37) (s5_ : vp_in a4 7)
    (c : CtrS Z mX0_addProduct [.ref (Z.2.2.1 + (el (ix (μ 105 3)) (ix (a3 + a4)))), .ref (Z.2.2.1 + (el (ix (μ 105 2)) (ix a3))), .ref (Z.2.2.1 + (el 108 (ix a4)))] μ (rV p)) (k : ∀ μ1, p μ1 → JS Z X 101 [(0, .ref (Z.2.2.1 + 105)), (2, .int a2), (3, .int a3), (4, .int a4)] [] μ1) :
    JS Z X 76 [(0, .ref (Z.2.2.1 + 105)), (2, .int a2), (3, .int a3), (4, .int a4)] [] μ := by
  refine J_aload_n E dX8_addRiddle_76 rfl ?_
  refine S_get (ci := 8) (q := 3) (v := .ref (Z.2.2.1 + ix (μ 105 3))) E dX8_addRiddle_77 fs_X8_17 sh105 rfl ?_
  refine J_iload_n E dX8_addRiddle_80 rfl ?_
  refine J_iload E dX8_addRiddle_81 rfl ?_
  refine J_iadd E dX8_addRiddle_83 ?_
  refine S_aald (t := 0) E dX8_addRiddle_84 (sha_var s1_) rfl s2_ (by decide) ?_
  refine J_aload_n E dX8_addRiddle_85 rfl ?_
  refine S_get (ci := 8) (q := 2) (v := .ref (Z.2.2.1 + ix (μ 105 2))) E dX8_addRiddle_86 fs_X8_13 sh105 rfl ?_
  refine J_iload_n E dX8_addRiddle_89 rfl ?_
  refine S_aald (t := 0) E dX8_addRiddle_90 (sha_var s3_) rfl s4_ (by decide) ?_
  refine J_aload_n E dX8_addRiddle_91 rfl ?_
  refine S_get (ci := 8) (q := 4) (v := .ref (Z.2.2.1 + 108)) E dX8_addRiddle_92 fs_X8_20 sh105 rfl ?_
  refine J_iload E dX8_addRiddle_95 rfl ?_
  refine S_aald (t := 0) E dX8_addRiddle_97 sh108 rfl s5_ (by decide) ?_
  refine S_callV (As := [.ref (Z.2.2.1 + (el (ix (μ 105 2)) (ix a3))), .ref (Z.2.2.1 + (el 108 (ix a4)))]) (rest := []) E dX8_addRiddle_98 c kX0_addProduct ⟨Nat.le_of_ble_eq_true rfl, Nat.le_of_ble_eq_true rfl⟩ rfl (Nat.le_of_ble_eq_true rfl) (she_var s1_ (vpl s2_)) rfl rfl w4_198 w4_199 w4_200 (fun r_ μ1 hp_ => ?_)
  obtain ⟨rfl, hp_⟩ := hp_
  exact k μ1 hp_
theorem bX8_addRiddle_101 {Z : ZT} {X : XT} {μ : Mu} {a2 : Int32} {a3 : Int32} {a4 : Int32} (E : Ent Z X mX8_addRiddle 0 0)  
    (k : JS Z X 70 [(0, .ref (Z.2.2.1 + 105)), (2, .int a2), (3, .int a3), (4, .int (a4 + nI 1))] [] μ) :
    JS Z X 101 [(0, .ref (Z.2.2.1 + 105)), (2, .int a2), (3, .int a3), (4, .int a4)] [] μ := by
  refine J_iinc (v := a4 + nI 1) (lv' := [(0, .ref (Z.2.2.1 + 105)), (2, .int a2), (3, .int a3), (4, .int (a4 + nI 1))]) E dX8_addRiddle_101 rfl rfl (Nat.le_of_ble_eq_true rfl) rfl ?_
  refine J_goto (tgt := 70) E dX8_addRiddle_104 (by decide) ?_
  exact k
theorem bX8_addRiddle_107 {Z : ZT} {X : XT} {μ : Mu} {a2 : Int32} {a3 : Int32} (E : Ent Z X mX8_addRiddle 0 0)  
    (k : JS Z X 59 [(0, .ref (Z.2.2.1 + 105)), (2, .int a2), (3, .int (a3 + nI 1))] [] μ) :
    JS Z X 107 [(0, .ref (Z.2.2.1 + 105)), (2, .int a2), (3, .int a3)] [] μ := by
  refine J_iinc (v := a3 + nI 1) (lv' := [(0, .ref (Z.2.2.1 + 105)), (2, .int a2), (3, .int (a3 + nI 1))]) E dX8_addRiddle_107 rfl rfl (Nat.le_of_ble_eq_true rfl) rfl ?_
  refine J_goto (tgt := 59) E dX8_addRiddle_110 (by decide) ?_
  exact k
theorem bX8_addRiddle_113 {Z : ZT} {X : XT} {μ : Mu} {a2 : Int32} (E : Ent Z X mX8_addRiddle 0 0)  (s1_ : ix (μ 105 2) = 106 ∨ ix (μ 105 2) = 107) (s2_ : ix (μ 105 3) = 106 ∨ ix (μ 105 3) = 107) (s3_ : (ix (μ 105 3)) < 2147483648)
    (k : JS Z X 126 [(0, .ref (Z.2.2.1 + 105)), (2, .int a2), (3, .ref (Z.2.2.1 + (ix (μ 105 2))))] [] (uR μ 105 (upd (μ 105) 2 (nI (ix (μ 105 3)))))) :
    JS Z X 113 [(0, .ref (Z.2.2.1 + 105)), (2, .int a2)] [] μ := by
  refine J_aload_n E dX8_addRiddle_113 rfl ?_
  refine S_get (ci := 8) (q := 2) (v := .ref (Z.2.2.1 + ix (μ 105 2))) E dX8_addRiddle_114 fs_X8_13 sh105 rfl ?_
  refine J_astore_n (lv' := [(0, .ref (Z.2.2.1 + 105)), (2, .int a2), (3, .ref (Z.2.2.1 + (ix (μ 105 2))))]) E dX8_addRiddle_117 (Nat.le_of_ble_eq_true rfl) rfl ?_
  refine J_aload_n E dX8_addRiddle_118 rfl ?_
  refine J_aload_n E dX8_addRiddle_119 rfl ?_
  refine S_get (ci := 8) (q := 3) (v := .ref (Z.2.2.1 + ix (μ 105 3))) E dX8_addRiddle_120 fs_X8_17 sh105 rfl ?_
  refine S_putv (o2 := (ix (μ 105 3))) E dX8_addRiddle_123 fs_X8_13 fp_X8_2 sh105 (by decide) s3_ ?_
  exact k
theorem bX8_addRiddle_126 {Z : ZT} {X : XT} {μ : Mu} {a2 : Int32} {a3 : Nat} (E : Ent Z X mX8_addRiddle 0 0) (ha3 : SH a3 = .inr (3, 37)) (s1_ : a3 < 2147483648)
    (k : JS Z X 131 [(0, .ref (Z.2.2.1 + 105)), (2, .int a2)] [] (uR μ 105 (upd (μ 105) 3 (nI a3)))) :
    JS Z X 126 [(0, .ref (Z.2.2.1 + 105)), (2, .int a2), (3, .ref (Z.2.2.1 + a3))] [] μ := by
  refine J_aload_n E dX8_addRiddle_126 rfl ?_
  refine J_aload_n E dX8_addRiddle_127 rfl ?_
  refine S_putv (o2 := a3) E dX8_addRiddle_128 fs_X8_17 fp_X8_3 sh105 (by decide) s1_ ?_
  refine J.weak [0, 1] rfl ?_
  exact k
theorem bX8_addRiddle_131 {Z : ZT} {X : XT} {μ : Mu} {a2 : Int32} (E : Ent Z X mX8_addRiddle 0 0)  
    (k : JS Z X 141 [(0, .ref (Z.2.2.1 + 105)), (2, .int a2)] [] (uR μ 105 (upd (μ 105) 1 ((μ 105 1) + a2)))) :
    JS Z X 131 [(0, .ref (Z.2.2.1 + 105)), (2, .int a2)] [] μ := by
  refine J_aload_n E dX8_addRiddle_131 rfl ?_
  refine J_dup E dX8_addRiddle_132 rfl ?_
  refine S_get (ci := 8) (q := 1) (v := .int (μ 105 1)) E dX8_addRiddle_133 fs_X8_28 sh105 rfl ?_
  refine J_iload_n E dX8_addRiddle_136 rfl ?_
  refine J_iadd E dX8_addRiddle_137 ?_
  refine S_puti E dX8_addRiddle_138 fs_X8_28 fp_X8_1 sh105 rfl ?_
  exact k
theorem bX8_addRiddle_141 {Z : ZT} {X : XT} {μ : Mu} {a2 : Int32} (E : Ent Z X mX8_addRiddle 0 0)  
    (k : JS Z X 156 [] [] (uR μ 105 (upd (μ 105) 0 ((μ 105 0) + ((nI 6) * (a2 - (nI 1))))))) :
    JS Z X 141 [(0, .ref (Z.2.2.1 + 105)), (2, .int a2)] [] μ := by
  refine J_aload_n E dX8_addRiddle_141 rfl ?_
  refine J_dup E dX8_addRiddle_142 rfl ?_
  refine S_get (ci := 8) (q := 0) (v := .int (μ 105 0)) E dX8_addRiddle_143 fs_X8_32 sh105 rfl ?_
  refine J_bipush (v := nI 6) E dX8_addRiddle_146 rfl ?_
  refine J_iload_n E dX8_addRiddle_148 rfl ?_
  refine J_iconst (v := nI 1) E dX8_addRiddle_149 rfl ?_
  refine J_isub E dX8_addRiddle_150 ?_
  refine J_imul E dX8_addRiddle_151 ?_
  refine J_iadd E dX8_addRiddle_152 ?_
  refine S_puti E dX8_addRiddle_153 fs_X8_32 fp_X8_0 sh105 rfl ?_
  refine J.weak [] rfl ?_
  exact k
theorem bX8_addRiddle_156 {Z : ZT} {X : XT} {μ : Mu} (E : Ent Z X mX8_addRiddle 0 0) {P : Option Value → Mu → Prop} (hB : BodS Z X P) 
    (k : P none μ) :
    JS Z X 156 [] [] μ := by
  exact S_vret E hB dX8_addRiddle_156 rfl k
theorem dX8_weigh_0 : decode cX8_weigh 0 = .ok (.aload_n 0, 1) := by decide +kernel
theorem dX8_weigh_1 : decode cX8_weigh 1 = .ok (.getfield 24, 3) := by decide +kernel
theorem dX8_weigh_4 : decode cX8_weigh 4 = .ok (.iconst 1, 1) := by decide +kernel
theorem dX8_weigh_5 : decode cX8_weigh 5 = .ok (.invokevirtual 35, 3) := by decide +kernel
theorem dX8_weigh_8 : decode cX8_weigh 8 = .ok (.iconst 1, 1) := by decide +kernel
theorem dX8_weigh_9 : decode cX8_weigh 9 = .ok (.istore_n 3, 1) := by decide +kernel
theorem dX8_weigh_10 : decode cX8_weigh 10 = .ok (.iload_n 3, 1) := by decide +kernel
theorem dX8_weigh_11 : decode cX8_weigh 11 = .ok (.iload_n 2, 1) := by decide +kernel
theorem dX8_weigh_12 : decode cX8_weigh 12 = .ok (.if_icmp .ge 71, 3) := by decide +kernel
theorem dX8_weigh_15 : decode cX8_weigh 15 = .ok (.aload_n 0, 1) := by decide +kernel
theorem dX8_weigh_16 : decode cX8_weigh 16 = .ok (.getfield 20, 3) := by decide +kernel
theorem dX8_weigh_19 : decode cX8_weigh 19 = .ok (.iload_n 3, 1) := by decide +kernel
theorem dX8_weigh_20 : decode cX8_weigh 20 = .ok (.aaload, 1) := by decide +kernel
theorem dX8_weigh_21 : decode cX8_weigh 21 = .ok (.aload_n 0, 1) := by decide +kernel
theorem dX8_weigh_22 : decode cX8_weigh 22 = .ok (.getfield 24, 3) := by decide +kernel
theorem dX8_weigh_25 : decode cX8_weigh 25 = .ok (.invokevirtual 59, 3) := by decide +kernel
theorem dX8_weigh_28 : decode cX8_weigh 28 = .ok (.aload_n 0, 1) := by decide +kernel
theorem dX8_weigh_29 : decode cX8_weigh 29 = .ok (.getfield 20, 3) := by decide +kernel
theorem dX8_weigh_32 : decode cX8_weigh 32 = .ok (.iload_n 3, 1) := by decide +kernel
theorem dX8_weigh_33 : decode cX8_weigh 33 = .ok (.aaload, 1) := by decide +kernel
theorem dX8_weigh_34 : decode cX8_weigh 34 = .ok (.ldc 63, 2) := by decide +kernel
theorem dX8_weigh_36 : decode cX8_weigh 36 = .ok (.iload_n 1, 1) := by decide +kernel
theorem dX8_weigh_37 : decode cX8_weigh 37 = .ok (.isub, 1) := by decide +kernel
theorem dX8_weigh_38 : decode cX8_weigh 38 = .ok (.invokevirtual 64, 3) := by decide +kernel
theorem dX8_weigh_41 : decode cX8_weigh 41 = .ok (.iload_n 3, 1) := by decide +kernel
theorem dX8_weigh_42 : decode cX8_weigh 42 = .ok (.iconst 1, 1) := by decide +kernel
theorem dX8_weigh_43 : decode cX8_weigh 43 = .ok (.iadd, 1) := by decide +kernel
theorem dX8_weigh_44 : decode cX8_weigh 44 = .ok (.istore 4, 2) := by decide +kernel
theorem dX8_weigh_46 : decode cX8_weigh 46 = .ok (.iload 4, 2) := by decide +kernel
theorem dX8_weigh_48 : decode cX8_weigh 48 = .ok (.iload_n 2, 1) := by decide +kernel
theorem dX8_weigh_49 : decode cX8_weigh 49 = .ok (.if_icmp .ge 20, 3) := by decide +kernel
theorem dX8_weigh_52 : decode cX8_weigh 52 = .ok (.aload_n 0, 1) := by decide +kernel
theorem dX8_weigh_53 : decode cX8_weigh 53 = .ok (.getfield 20, 3) := by decide +kernel
theorem dX8_weigh_56 : decode cX8_weigh 56 = .ok (.iload_n 3, 1) := by decide +kernel
theorem dX8_weigh_57 : decode cX8_weigh 57 = .ok (.aaload, 1) := by decide +kernel
theorem dX8_weigh_58 : decode cX8_weigh 58 = .ok (.ldc 63, 2) := by decide +kernel
theorem dX8_weigh_60 : decode cX8_weigh 60 = .ok (.invokevirtual 64, 3) := by decide +kernel
theorem dX8_weigh_63 : decode cX8_weigh 63 = .ok (.iinc 4 1, 3) := by decide +kernel
theorem dX8_weigh_66 : decode cX8_weigh 66 = .ok (.goto (-20), 3) := by decide +kernel
theorem dX8_weigh_69 : decode cX8_weigh 69 = .ok (.aload_n 0, 1) := by decide +kernel
theorem dX8_weigh_70 : decode cX8_weigh 70 = .ok (.getfield 24, 3) := by decide +kernel
theorem dX8_weigh_73 : decode cX8_weigh 73 = .ok (.iload_n 1, 1) := by decide +kernel
theorem dX8_weigh_74 : decode cX8_weigh 74 = .ok (.invokevirtual 64, 3) := by decide +kernel
theorem dX8_weigh_77 : decode cX8_weigh 77 = .ok (.iinc 3 1, 3) := by decide +kernel
theorem dX8_weigh_80 : decode cX8_weigh 80 = .ok (.goto (-70), 3) := by decide +kernel
theorem dX8_weigh_83 : decode cX8_weigh 83 = .ok (.aload_n 0, 1) := by decide +kernel
theorem dX8_weigh_84 : decode cX8_weigh 84 = .ok (.getfield 20, 3) := by decide +kernel
theorem dX8_weigh_87 : decode cX8_weigh 87 = .ok (.iload_n 2, 1) := by decide +kernel
theorem dX8_weigh_88 : decode cX8_weigh 88 = .ok (.aaload, 1) := by decide +kernel
theorem dX8_weigh_89 : decode cX8_weigh 89 = .ok (.aload_n 0, 1) := by decide +kernel
theorem dX8_weigh_90 : decode cX8_weigh 90 = .ok (.getfield 24, 3) := by decide +kernel
theorem dX8_weigh_93 : decode cX8_weigh 93 = .ok (.invokevirtual 59, 3) := by decide +kernel
theorem dX8_weigh_96 : decode cX8_weigh 96 = .ok (.return_, 1) := by decide +kernel
theorem bX8_weigh_0 {Z : ZT} {X : XT} {μ : Mu} {a1 : Int32} {a2 : Int32} (E : Ent Z X mX8_weigh 0 0) {p : Mu → Prop} 
    (c : CtrS Z mX0_set [.ref (Z.2.2.1 + 109), .int (nI 1)] μ (rV p)) (k : ∀ μ1, p μ1 → JS Z X 8 [(0, .ref (Z.2.2.1 + 105)), (1, .int a1), (2, .int a2)] [] μ1) :
    JS Z X 0 [(0, .ref (Z.2.2.1 + 105)), (1, .int a1), (2, .int a2)] [] μ := by
  refine J_aload_n E dX8_weigh_0 rfl ?_
  refine S_get (ci := 8) (q := 5) (v := .ref (Z.2.2.1 + 109)) E dX8_weigh_1 fs_X8_24 sh105 rfl ?_
  refine J_iconst (v := nI 1) E dX8_weigh_4 rfl ?_
  refine S_callV (As := [.int (nI 1)]) (rest := []) E dX8_weigh_5 c kX0_set ⟨Nat.le_of_ble_eq_true rfl, Nat.le_of_ble_eq_true rfl⟩ rfl (Nat.le_of_ble_eq_true rfl) sh109 rfl rfl w4_186 w2_180 w2_181 (fun r_ μ1 hp_ => ?_)
  obtain ⟨rfl, hp_⟩ := hp_
  exact k μ1 hp_
theorem bX8_weigh_8 {Z : ZT} {X : XT} {μ : Mu} {a1 : Int32} {a2 : Int32} (E : Ent Z X mX8_weigh 0 0)  
    (k : JS Z X 10 [(0, .ref (Z.2.2.1 + 105)), (1, .int a1), (2, .int a2), (3, .int (nI 1))] [] μ) :
    JS Z X 8 [(0, .ref (Z.2.2.1 + 105)), (1, .int a1), (2, .int a2)] [] μ := by
  refine J_iconst (v := nI 1) E dX8_weigh_8 rfl ?_
  refine J_istore_n (lv' := [(0, .ref (Z.2.2.1 + 105)), (1, .int a1), (2, .int a2), (3, .int (nI 1))]) E dX8_weigh_9 (Nat.le_of_ble_eq_true rfl) rfl ?_
  exact k
theorem bX8_weigh_10 {Z : ZT} {X : XT} {μ : Mu} {a1 : Int32} {a2 : Int32} {a3 : Int32} (E : Ent Z X mX8_weigh 0 0)  
    (kt : a2 ≤ a3 → JS Z X 83 [(0, .ref (Z.2.2.1 + 105)), (2, .int a2)] [] μ) (kf : ¬ (a2 ≤ a3) → JS Z X 15 [(0, .ref (Z.2.2.1 + 105)), (1, .int a1), (2, .int a2), (3, .int a3)] [] μ) :
    JS Z X 10 [(0, .ref (Z.2.2.1 + 105)), (1, .int a1), (2, .int a2), (3, .int a3)] [] μ := by
  refine J_iload_n E dX8_weigh_10 rfl ?_
  refine J_iload_n E dX8_weigh_11 rfl ?_
  refine J_icmp_ge (tgt := 83) E dX8_weigh_12 (by decide) (fun c => ?_) (fun c => ?_)
  · refine J.weak [0, 2] rfl ?_
    exact kt c
  · exact kf c
theorem bX8_weigh_15 {Z : ZT} {X : XT} {μ : Mu} {a1 : Int32} {a2 : Int32} {a3 : Int32} (E : Ent Z X mX8_weigh 0 0) {p : Mu → Prop} (s1_ : vp_in a3 7)
    (c : CtrS Z mX0_copy [.ref (Z.2.2.1 + (el 108 (ix a3))), .ref (Z.2.2.1 + 109)] μ (rV p)) (k : ∀ μ1, p μ1 → JS Z X 28 [(0, .ref (Z.2.2.1 + 105)), (1, .int a1), (2, .int a2), (3, .int a3)] [] μ1) :
    JS Z X 15 [(0, .ref (Z.2.2.1 + 105)), (1, .int a1), (2, .int a2), (3, .int a3)] [] μ := by
  refine J_aload_n E dX8_weigh_15 rfl ?_
  refine S_get (ci := 8) (q := 4) (v := .ref (Z.2.2.1 + 108)) E dX8_weigh_16 fs_X8_20 sh105 rfl ?_
  refine J_iload_n E dX8_weigh_19 rfl ?_
  refine S_aald (t := 0) E dX8_weigh_20 sh108 rfl s1_ (by decide) ?_
  refine J_aload_n E dX8_weigh_21 rfl ?_
  refine S_get (ci := 8) (q := 5) (v := .ref (Z.2.2.1 + 109)) E dX8_weigh_22 fs_X8_24 sh105 rfl ?_
  refine S_callV (As := [.ref (Z.2.2.1 + 109)]) (rest := []) E dX8_weigh_25 c kX0_copy ⟨Nat.le_of_ble_eq_true rfl, Nat.le_of_ble_eq_true rfl⟩ rfl (Nat.le_of_ble_eq_true rfl) (she108 (vpl s1_)) rfl rfl w4_195 w4_127 w4_128 (fun r_ μ1 hp_ => ?_)
  obtain ⟨rfl, hp_⟩ := hp_
  exact k μ1 hp_
theorem bX8_weigh_28 {Z : ZT} {X : XT} {μ : Mu} {a1 : Int32} {a2 : Int32} {a3 : Int32} (E : Ent Z X mX8_weigh 0 0) {p : Mu → Prop} (s1_ : vp_in a3 7)
    (c : CtrS Z mX0_times [.ref (Z.2.2.1 + (el 108 (ix a3))), .int ((nI 1000000) - a1)] μ (rV p)) (k : ∀ μ1, p μ1 → JS Z X 41 [(0, .ref (Z.2.2.1 + 105)), (1, .int a1), (2, .int a2), (3, .int a3)] [] μ1) :
    JS Z X 28 [(0, .ref (Z.2.2.1 + 105)), (1, .int a1), (2, .int a2), (3, .int a3)] [] μ := by
  refine J_aload_n E dX8_weigh_28 rfl ?_
  refine S_get (ci := 8) (q := 4) (v := .ref (Z.2.2.1 + 108)) E dX8_weigh_29 fs_X8_20 sh105 rfl ?_
  refine J_iload_n E dX8_weigh_32 rfl ?_
  refine S_aald (t := 0) E dX8_weigh_33 sh108 rfl s1_ (by decide) ?_
  refine J_ldc (v := nI 1000000) E dX8_weigh_34 w4_196 ?_
  refine J_iload_n E dX8_weigh_36 rfl ?_
  refine J_isub E dX8_weigh_37 ?_
  refine S_callV (As := [.int ((nI 1000000) - a1)]) (rest := []) E dX8_weigh_38 c kX0_times ⟨Nat.le_of_ble_eq_true rfl, Nat.le_of_ble_eq_true rfl⟩ rfl (Nat.le_of_ble_eq_true rfl) (she108 (vpl s1_)) rfl rfl w4_197 w4_147 w4_148 (fun r_ μ1 hp_ => ?_)
  obtain ⟨rfl, hp_⟩ := hp_
  exact k μ1 hp_
theorem bX8_weigh_41 {Z : ZT} {X : XT} {μ : Mu} {a1 : Int32} {a2 : Int32} {a3 : Int32} (E : Ent Z X mX8_weigh 0 0)  
    (k : JS Z X 46 [(0, .ref (Z.2.2.1 + 105)), (1, .int a1), (2, .int a2), (3, .int a3), (4, .int (a3 + (nI 1)))] [] μ) :
    JS Z X 41 [(0, .ref (Z.2.2.1 + 105)), (1, .int a1), (2, .int a2), (3, .int a3)] [] μ := by
  refine J_iload_n E dX8_weigh_41 rfl ?_
  refine J_iconst (v := nI 1) E dX8_weigh_42 rfl ?_
  refine J_iadd E dX8_weigh_43 ?_
  refine J_istore (lv' := [(0, .ref (Z.2.2.1 + 105)), (1, .int a1), (2, .int a2), (3, .int a3), (4, .int (a3 + (nI 1)))]) E dX8_weigh_44 (Nat.le_of_ble_eq_true rfl) rfl ?_
  exact k
theorem bX8_weigh_46 {Z : ZT} {X : XT} {μ : Mu} {a1 : Int32} {a2 : Int32} {a3 : Int32} {a4 : Int32} (E : Ent Z X mX8_weigh 0 0)  
    (kt : a2 ≤ a4 → JS Z X 69 [(0, .ref (Z.2.2.1 + 105)), (1, .int a1), (2, .int a2), (3, .int a3)] [] μ) (kf : ¬ (a2 ≤ a4) → JS Z X 52 [(0, .ref (Z.2.2.1 + 105)), (1, .int a1), (2, .int a2), (3, .int a3), (4, .int a4)] [] μ) :
    JS Z X 46 [(0, .ref (Z.2.2.1 + 105)), (1, .int a1), (2, .int a2), (3, .int a3), (4, .int a4)] [] μ := by
  refine J_iload E dX8_weigh_46 rfl ?_
  refine J_iload_n E dX8_weigh_48 rfl ?_
  refine J_icmp_ge (tgt := 69) E dX8_weigh_49 (by decide) (fun c => ?_) (fun c => ?_)
  · refine J.weak [0, 1, 2, 3] rfl ?_
    exact kt c
  · exact kf c
theorem bX8_weigh_52 {Z : ZT} {X : XT} {μ : Mu} {a1 : Int32} {a2 : Int32} {a3 : Int32} {a4 : Int32} (E : Ent Z X mX8_weigh 0 0) {p : Mu → Prop} (s1_ : vp_in a3 7)
    (c : CtrS Z mX0_times [.ref (Z.2.2.1 + (el 108 (ix a3))), .int (nI 1000000)] μ (rV p)) (k : ∀ μ1, p μ1 → JS Z X 63 [(0, .ref (Z.2.2.1 + 105)), (1, .int a1), (2, .int a2), (3, .int a3), (4, .int a4)] [] μ1) :
    JS Z X 52 [(0, .ref (Z.2.2.1 + 105)), (1, .int a1), (2, .int a2), (3, .int a3), (4, .int a4)] [] μ := by
  refine J_aload_n E dX8_weigh_52 rfl ?_
  refine S_get (ci := 8) (q := 4) (v := .ref (Z.2.2.1 + 108)) E dX8_weigh_53 fs_X8_20 sh105 rfl ?_
  refine J_iload_n E dX8_weigh_56 rfl ?_
  refine S_aald (t := 0) E dX8_weigh_57 sh108 rfl s1_ (by decide) ?_
  refine J_ldc (v := nI 1000000) E dX8_weigh_58 w4_196 ?_
  refine S_callV (As := [.int (nI 1000000)]) (rest := []) E dX8_weigh_60 c kX0_times ⟨Nat.le_of_ble_eq_true rfl, Nat.le_of_ble_eq_true rfl⟩ rfl (Nat.le_of_ble_eq_true rfl) (she108 (vpl s1_)) rfl rfl w4_197 w4_147 w4_148 (fun r_ μ1 hp_ => ?_)
  obtain ⟨rfl, hp_⟩ := hp_
  exact k μ1 hp_
theorem bX8_weigh_63 {Z : ZT} {X : XT} {μ : Mu} {a1 : Int32} {a2 : Int32} {a3 : Int32} {a4 : Int32} (E : Ent Z X mX8_weigh 0 0)  
    (k : JS Z X 46 [(0, .ref (Z.2.2.1 + 105)), (1, .int a1), (2, .int a2), (3, .int a3), (4, .int (a4 + nI 1))] [] μ) :
    JS Z X 63 [(0, .ref (Z.2.2.1 + 105)), (1, .int a1), (2, .int a2), (3, .int a3), (4, .int a4)] [] μ := by
  refine J_iinc (v := a4 + nI 1) (lv' := [(0, .ref (Z.2.2.1 + 105)), (1, .int a1), (2, .int a2), (3, .int a3), (4, .int (a4 + nI 1))]) E dX8_weigh_63 rfl rfl (Nat.le_of_ble_eq_true rfl) rfl ?_
  refine J_goto (tgt := 46) E dX8_weigh_66 (by decide) ?_
  exact k
theorem bX8_weigh_69 {Z : ZT} {X : XT} {μ : Mu} {a1 : Int32} {a2 : Int32} {a3 : Int32} (E : Ent Z X mX8_weigh 0 0) {p : Mu → Prop} 
    (c : CtrS Z mX0_times [.ref (Z.2.2.1 + 109), .int a1] μ (rV p)) (k : ∀ μ1, p μ1 → JS Z X 77 [(0, .ref (Z.2.2.1 + 105)), (1, .int a1), (2, .int a2), (3, .int a3)] [] μ1) :
    JS Z X 69 [(0, .ref (Z.2.2.1 + 105)), (1, .int a1), (2, .int a2), (3, .int a3)] [] μ := by
  refine J_aload_n E dX8_weigh_69 rfl ?_
  refine S_get (ci := 8) (q := 5) (v := .ref (Z.2.2.1 + 109)) E dX8_weigh_70 fs_X8_24 sh105 rfl ?_
  refine J_iload_n E dX8_weigh_73 rfl ?_
  refine S_callV (As := [.int a1]) (rest := []) E dX8_weigh_74 c kX0_times ⟨Nat.le_of_ble_eq_true rfl, Nat.le_of_ble_eq_true rfl⟩ rfl (Nat.le_of_ble_eq_true rfl) sh109 rfl rfl w4_197 w4_147 w4_148 (fun r_ μ1 hp_ => ?_)
  obtain ⟨rfl, hp_⟩ := hp_
  exact k μ1 hp_
theorem bX8_weigh_77 {Z : ZT} {X : XT} {μ : Mu} {a1 : Int32} {a2 : Int32} {a3 : Int32} (E : Ent Z X mX8_weigh 0 0)  
    (k : JS Z X 10 [(0, .ref (Z.2.2.1 + 105)), (1, .int a1), (2, .int a2), (3, .int (a3 + nI 1))] [] μ) :
    JS Z X 77 [(0, .ref (Z.2.2.1 + 105)), (1, .int a1), (2, .int a2), (3, .int a3)] [] μ := by
  refine J_iinc (v := a3 + nI 1) (lv' := [(0, .ref (Z.2.2.1 + 105)), (1, .int a1), (2, .int a2), (3, .int (a3 + nI 1))]) E dX8_weigh_77 rfl rfl (Nat.le_of_ble_eq_true rfl) rfl ?_
  refine J_goto (tgt := 10) E dX8_weigh_80 (by decide) ?_
  exact k
theorem bX8_weigh_83 {Z : ZT} {X : XT} {μ : Mu} {a2 : Int32} (E : Ent Z X mX8_weigh 0 0) {p : Mu → Prop} (s1_ : vp_in a2 7)
    (c : CtrS Z mX0_copy [.ref (Z.2.2.1 + (el 108 (ix a2))), .ref (Z.2.2.1 + 109)] μ (rV p)) (k : ∀ μ1, p μ1 → JS Z X 96 [] [] μ1) :
    JS Z X 83 [(0, .ref (Z.2.2.1 + 105)), (2, .int a2)] [] μ := by
  refine J_aload_n E dX8_weigh_83 rfl ?_
  refine S_get (ci := 8) (q := 4) (v := .ref (Z.2.2.1 + 108)) E dX8_weigh_84 fs_X8_20 sh105 rfl ?_
  refine J_iload_n E dX8_weigh_87 rfl ?_
  refine S_aald (t := 0) E dX8_weigh_88 sh108 rfl s1_ (by decide) ?_
  refine J_aload_n E dX8_weigh_89 rfl ?_
  refine S_get (ci := 8) (q := 5) (v := .ref (Z.2.2.1 + 109)) E dX8_weigh_90 fs_X8_24 sh105 rfl ?_
  refine S_callV (As := [.ref (Z.2.2.1 + 109)]) (rest := []) E dX8_weigh_93 c kX0_copy ⟨Nat.le_of_ble_eq_true rfl, Nat.le_of_ble_eq_true rfl⟩ rfl (Nat.le_of_ble_eq_true rfl) (she108 (vpl s1_)) rfl rfl w4_195 w4_127 w4_128 (fun r_ μ1 hp_ => ?_)
  obtain ⟨rfl, hp_⟩ := hp_
  refine J.weak [] rfl ?_
  exact k μ1 hp_
theorem bX8_weigh_96 {Z : ZT} {X : XT} {μ : Mu} (E : Ent Z X mX8_weigh 0 0) {P : Option Value → Mu → Prop} (hB : BodS Z X P) 
    (k : P none μ) :
    JS Z X 96 [] [] μ := by
  exact S_vret E hB dX8_weigh_96 rfl k
theorem dX8_gather_0 : decode cX8_gather 0 = .ok (.aload_n 1, 1) := by decide +kernel
theorem dX8_gather_1 : decode cX8_gather 1 = .ok (.iconst 0, 1) := by decide +kernel
theorem dX8_gather_2 : decode cX8_gather 2 = .ok (.invokevirtual 35, 3) := by decide +kernel
theorem dX8_gather_5 : decode cX8_gather 5 = .ok (.iload_n 2, 1) := by decide +kernel
theorem dX8_gather_6 : decode cX8_gather 6 = .ok (.iconst 0, 1) := by decide +kernel
theorem dX8_gather_7 : decode cX8_gather 7 = .ok (.invokestatic 67, 3) := by decide +kernel
theorem dX8_gather_10 : decode cX8_gather 10 = .ok (.istore 4, 2) := by decide +kernel
theorem dX8_gather_12 : decode cX8_gather 12 = .ok (.iload 4, 2) := by decide +kernel
theorem dX8_gather_14 : decode cX8_gather 14 = .ok (.iload_n 3, 1) := by decide +kernel
theorem dX8_gather_15 : decode cX8_gather 15 = .ok (.aload_n 0, 1) := by decide +kernel
theorem dX8_gather_16 : decode cX8_gather 16 = .ok (.getfield 28, 3) := by decide +kernel
theorem dX8_gather_19 : decode cX8_gather 19 = .ok (.invokestatic 73, 3) := by decide +kernel
theorem dX8_gather_22 : decode cX8_gather 22 = .ok (.if_icmp .gt 21, 3) := by decide +kernel
theorem dX8_gather_25 : decode cX8_gather 25 = .ok (.aload_n 1, 1) := by decide +kernel
theorem dX8_gather_26 : decode cX8_gather 26 = .ok (.aload_n 0, 1) := by decide +kernel
theorem dX8_gather_27 : decode cX8_gather 27 = .ok (.getfield 13, 3) := by decide +kernel
theorem dX8_gather_30 : decode cX8_gather 30 = .ok (.iload 4, 2) := by decide +kernel
theorem dX8_gather_32 : decode cX8_gather 32 = .ok (.aaload, 1) := by decide +kernel
theorem dX8_gather_33 : decode cX8_gather 33 = .ok (.iconst 1, 1) := by decide +kernel
theorem dX8_gather_34 : decode cX8_gather 34 = .ok (.invokevirtual 76, 3) := by decide +kernel
theorem dX8_gather_37 : decode cX8_gather 37 = .ok (.iinc 4 1, 3) := by decide +kernel
theorem dX8_gather_40 : decode cX8_gather 40 = .ok (.goto (-28), 3) := by decide +kernel
theorem dX8_gather_43 : decode cX8_gather 43 = .ok (.return_, 1) := by decide +kernel
theorem bX8_gather_0 {Z : ZT} {X : XT} {μ : Mu} {a1 : Nat} {a2 : Int32} {a3 : Int32} (E : Ent Z X mX8_gather 0 0) (ha1 : SH a1 = .inl 0) {p : Mu → Prop} 
    (c : CtrS Z mX0_set [.ref (Z.2.2.1 + a1), .int (nI 0)] μ (rV p)) (k : ∀ μ1, p μ1 → JS Z X 5 [(0, .ref (Z.2.2.1 + 105)), (1, .ref (Z.2.2.1 + a1)), (2, .int a2), (3, .int a3)] [] μ1) :
    JS Z X 0 [(0, .ref (Z.2.2.1 + 105)), (1, .ref (Z.2.2.1 + a1)), (2, .int a2), (3, .int a3)] [] μ := by
  refine J_aload_n E dX8_gather_0 rfl ?_
  refine J_iconst (v := nI 0) E dX8_gather_1 rfl ?_
  refine S_callV (As := [.int (nI 0)]) (rest := []) E dX8_gather_2 c kX0_set ⟨Nat.le_of_ble_eq_true rfl, Nat.le_of_ble_eq_true rfl⟩ rfl (Nat.le_of_ble_eq_true rfl) ha1 rfl rfl w4_186 w2_180 w2_181 (fun r_ μ1 hp_ => ?_)
  obtain ⟨rfl, hp_⟩ := hp_
  exact k μ1 hp_
theorem bX8_gather_5 {Z : ZT} {X : XT} {μ : Mu} {a1 : Nat} {a2 : Int32} {a3 : Int32} (E : Ent Z X mX8_gather 0 0) (ha1 : SH a1 = .inl 0) 
    (k : JS Z X 12 [(0, .ref (Z.2.2.1 + 105)), (1, .ref (Z.2.2.1 + a1)), (3, .int a3), (4, .int (if a2 < (nI 0) then (nI 0) else a2))] [] μ) :
    JS Z X 5 [(0, .ref (Z.2.2.1 + 105)), (1, .ref (Z.2.2.1 + a1)), (2, .int a2), (3, .int a3)] [] μ := by
  refine J_iload_n E dX8_gather_5 rfl ?_
  refine J_iconst (v := nI 0) E dX8_gather_6 rfl ?_
  refine J_mmax E dX8_gather_7 w4_206 w4_131 w1_13 w4_132 (Nat.le_of_ble_eq_true rfl) (Nat.le_of_ble_eq_true rfl) (Nat.le_refl 0) (Nat.le_refl 0) ?_
  refine J_istore (lv' := [(0, .ref (Z.2.2.1 + 105)), (1, .ref (Z.2.2.1 + a1)), (2, .int a2), (3, .int a3), (4, .int (if a2 < (nI 0) then (nI 0) else a2))]) E dX8_gather_10 (Nat.le_of_ble_eq_true rfl) rfl ?_
  refine J.weak [0, 1, 3, 4] rfl ?_
  exact k
theorem bX8_gather_12 {Z : ZT} {X : XT} {μ : Mu} {a1 : Nat} {a3 : Int32} {a4 : Int32} (E : Ent Z X mX8_gather 0 0) (ha1 : SH a1 = .inl 0) 
    (kt : (if (μ 105 1) < a3 then (μ 105 1) else a3) < a4 → JS Z X 43 [] [] μ) (kf : ¬ ((if (μ 105 1) < a3 then (μ 105 1) else a3) < a4) → JS Z X 25 [(0, .ref (Z.2.2.1 + 105)), (1, .ref (Z.2.2.1 + a1)), (3, .int a3), (4, .int a4)] [] μ) :
    JS Z X 12 [(0, .ref (Z.2.2.1 + 105)), (1, .ref (Z.2.2.1 + a1)), (3, .int a3), (4, .int a4)] [] μ := by
  refine J_iload E dX8_gather_12 rfl ?_
  refine J_iload_n E dX8_gather_14 rfl ?_
  refine J_aload_n E dX8_gather_15 rfl ?_
  refine S_get (ci := 8) (q := 1) (v := .int (μ 105 1)) E dX8_gather_16 fs_X8_28 sh105 rfl ?_
  refine J_mmin E dX8_gather_19 w4_207 w2_189 w1_13 w2_190 (Nat.le_of_ble_eq_true rfl) (Nat.le_of_ble_eq_true rfl) (Nat.le_refl 0) (Nat.le_refl 0) ?_
  refine J_icmp_gt (tgt := 43) E dX8_gather_22 (by decide) (fun c => ?_) (fun c => ?_)
  · refine J.weak [] rfl ?_
    exact kt c
  · exact kf c
theorem bX8_gather_25 {Z : ZT} {X : XT} {μ : Mu} {a1 : Nat} {a3 : Int32} {a4 : Int32} (E : Ent Z X mX8_gather 0 0) (ha1 : SH a1 = .inl 0) {p : Mu → Prop} (s1_ : ix (μ 105 2) = 106 ∨ ix (μ 105 2) = 107) (s2_ : vp_in a4 37)
    (c : CtrS Z mX0_addTimes [.ref (Z.2.2.1 + a1), .ref (Z.2.2.1 + (el (ix (μ 105 2)) (ix a4))), .int (nI 1)] μ (rV p)) (k : ∀ μ1, p μ1 → JS Z X 37 [(0, .ref (Z.2.2.1 + 105)), (1, .ref (Z.2.2.1 + a1)), (3, .int a3), (4, .int a4)] [] μ1) :
    JS Z X 25 [(0, .ref (Z.2.2.1 + 105)), (1, .ref (Z.2.2.1 + a1)), (3, .int a3), (4, .int a4)] [] μ := by
  refine J_aload_n E dX8_gather_25 rfl ?_
  refine J_aload_n E dX8_gather_26 rfl ?_
  refine S_get (ci := 8) (q := 2) (v := .ref (Z.2.2.1 + ix (μ 105 2))) E dX8_gather_27 fs_X8_13 sh105 rfl ?_
  refine J_iload E dX8_gather_30 rfl ?_
  refine S_aald (t := 0) E dX8_gather_32 (sha_var s1_) rfl s2_ (by decide) ?_
  refine J_iconst (v := nI 1) E dX8_gather_33 rfl ?_
  refine S_callV (As := [.ref (Z.2.2.1 + (el (ix (μ 105 2)) (ix a4))), .int (nI 1)]) (rest := []) E dX8_gather_34 c kX0_addTimes ⟨Nat.le_of_ble_eq_true rfl, Nat.le_of_ble_eq_true rfl⟩ rfl (Nat.le_of_ble_eq_true rfl) ha1 rfl rfl w4_208 w4_163 w4_164 (fun r_ μ1 hp_ => ?_)
  obtain ⟨rfl, hp_⟩ := hp_
  exact k μ1 hp_
theorem bX8_gather_37 {Z : ZT} {X : XT} {μ : Mu} {a1 : Nat} {a3 : Int32} {a4 : Int32} (E : Ent Z X mX8_gather 0 0) (ha1 : SH a1 = .inl 0) 
    (k : JS Z X 12 [(0, .ref (Z.2.2.1 + 105)), (1, .ref (Z.2.2.1 + a1)), (3, .int a3), (4, .int (a4 + nI 1))] [] μ) :
    JS Z X 37 [(0, .ref (Z.2.2.1 + 105)), (1, .ref (Z.2.2.1 + a1)), (3, .int a3), (4, .int a4)] [] μ := by
  refine J_iinc (v := a4 + nI 1) (lv' := [(0, .ref (Z.2.2.1 + 105)), (1, .ref (Z.2.2.1 + a1)), (3, .int a3), (4, .int (a4 + nI 1))]) E dX8_gather_37 rfl rfl (Nat.le_of_ble_eq_true rfl) rfl ?_
  refine J_goto (tgt := 12) E dX8_gather_40 (by decide) ?_
  exact k
theorem bX8_gather_43 {Z : ZT} {X : XT} {μ : Mu} (E : Ent Z X mX8_gather 0 0) {P : Option Value → Mu → Prop} (hB : BodS Z X P) 
    (k : P none μ) :
    JS Z X 43 [] [] μ := by
  exact S_vret E hB dX8_gather_43 rfl k
theorem dX9_init_0 : decode cX9_init 0 = .ok (.aload_n 0, 1) := by decide +kernel
theorem dX9_init_1 : decode cX9_init 1 = .ok (.invokespecial 3, 3) := by decide +kernel
theorem dX9_init_4 : decode cX9_init 4 = .ok (.aload_n 0, 1) := by decide +kernel
theorem dX9_init_5 : decode cX9_init 5 = .ok (.sipush 300, 3) := by decide +kernel
theorem dX9_init_8 : decode cX9_init 8 = .ok (.newarray .int, 2) := by decide +kernel
theorem dX9_init_10 : decode cX9_init 10 = .ok (.putfield 9, 3) := by decide +kernel
theorem dX9_init_13 : decode cX9_init 13 = .ok (.aload_n 0, 1) := by decide +kernel
theorem dX9_init_14 : decode cX9_init 14 = .ok (.bipush 50, 2) := by decide +kernel
theorem dX9_init_16 : decode cX9_init 16 = .ok (.newarray .int, 2) := by decide +kernel
theorem dX9_init_18 : decode cX9_init 18 = .ok (.putfield 15, 3) := by decide +kernel
theorem dX9_init_21 : decode cX9_init 21 = .ok (.aload_n 0, 1) := by decide +kernel
theorem dX9_init_22 : decode cX9_init 22 = .ok (.sipush 250, 3) := by decide +kernel
theorem dX9_init_25 : decode cX9_init 25 = .ok (.newarray .int, 2) := by decide +kernel
theorem dX9_init_27 : decode cX9_init 27 = .ok (.putfield 18, 3) := by decide +kernel
theorem dX9_init_30 : decode cX9_init 30 = .ok (.return_, 1) := by decide +kernel
theorem dX9_addBytes_0 : decode cX9_addBytes 0 = .ok (.iload_n 3, 1) := by decide +kernel
theorem dX9_addBytes_1 : decode cX9_addBytes 1 = .ok (.iconst 1, 1) := by decide +kernel
theorem dX9_addBytes_2 : decode cX9_addBytes 2 = .ok (.if_icmp .lt 9, 3) := by decide +kernel
theorem dX9_addBytes_5 : decode cX9_addBytes 5 = .ok (.iload_n 3, 1) := by decide +kernel
theorem dX9_addBytes_6 : decode cX9_addBytes 6 = .ok (.bipush 8, 2) := by decide +kernel
theorem dX9_addBytes_8 : decode cX9_addBytes 8 = .ok (.if_icmp .le 6, 3) := by decide +kernel
theorem dX9_addBytes_11 : decode cX9_addBytes 11 = .ok (.bipush (-2), 2) := by decide +kernel
theorem dX9_addBytes_13 : decode cX9_addBytes 13 = .ok (.ireturn, 1) := by decide +kernel
theorem dX9_addBytes_14 : decode cX9_addBytes 14 = .ok (.aload_n 0, 1) := by decide +kernel
theorem dX9_addBytes_15 : decode cX9_addBytes 15 = .ok (.getfield 21, 3) := by decide +kernel
theorem dX9_addBytes_18 : decode cX9_addBytes 18 = .ok (.iload_n 3, 1) := by decide +kernel
theorem dX9_addBytes_19 : decode cX9_addBytes 19 = .ok (.iadd, 1) := by decide +kernel
theorem dX9_addBytes_20 : decode cX9_addBytes 20 = .ok (.sipush 300, 3) := by decide +kernel
theorem dX9_addBytes_23 : decode cX9_addBytes 23 = .ok (.if_icmp .le 6, 3) := by decide +kernel
theorem dX9_addBytes_26 : decode cX9_addBytes 26 = .ok (.bipush (-4), 2) := by decide +kernel
theorem dX9_addBytes_28 : decode cX9_addBytes 28 = .ok (.ireturn, 1) := by decide +kernel
theorem dX9_addBytes_29 : decode cX9_addBytes 29 = .ok (.iload_n 3, 1) := by decide +kernel
theorem dX9_addBytes_30 : decode cX9_addBytes 30 = .ok (.iconst 1, 1) := by decide +kernel
theorem dX9_addBytes_31 : decode cX9_addBytes 31 = .ok (.isub, 1) := by decide +kernel
theorem dX9_addBytes_32 : decode cX9_addBytes 32 = .ok (.istore 4, 2) := by decide +kernel
theorem dX9_addBytes_34 : decode cX9_addBytes 34 = .ok (.iload 4, 2) := by decide +kernel
theorem dX9_addBytes_36 : decode cX9_addBytes 36 = .ok (.ifCond .lt 40, 3) := by decide +kernel
theorem dX9_addBytes_39 : decode cX9_addBytes 39 = .ok (.aload_n 0, 1) := by decide +kernel
theorem dX9_addBytes_40 : decode cX9_addBytes 40 = .ok (.getfield 9, 3) := by decide +kernel
theorem dX9_addBytes_43 : decode cX9_addBytes 43 = .ok (.aload_n 0, 1) := by decide +kernel
theorem dX9_addBytes_44 : decode cX9_addBytes 44 = .ok (.getfield 21, 3) := by decide +kernel
theorem dX9_addBytes_47 : decode cX9_addBytes 47 = .ok (.lload_n 1, 1) := by decide +kernel
theorem dX9_addBytes_48 : decode cX9_addBytes 48 = .ok (.bipush 8, 2) := by decide +kernel
theorem dX9_addBytes_50 : decode cX9_addBytes 50 = .ok (.iload 4, 2) := by decide +kernel
theorem dX9_addBytes_52 : decode cX9_addBytes 52 = .ok (.imul, 1) := by decide +kernel
theorem dX9_addBytes_53 : decode cX9_addBytes 53 = .ok (.lushr, 1) := by decide +kernel
theorem dX9_addBytes_54 : decode cX9_addBytes 54 = .ok (.ldc2_w 25, 3) := by decide +kernel
theorem dX9_addBytes_57 : decode cX9_addBytes 57 = .ok (.land, 1) := by decide +kernel
theorem dX9_addBytes_58 : decode cX9_addBytes 58 = .ok (.l2i, 1) := by decide +kernel
theorem dX9_addBytes_59 : decode cX9_addBytes 59 = .ok (.iastore, 1) := by decide +kernel
theorem dX9_addBytes_60 : decode cX9_addBytes 60 = .ok (.aload_n 0, 1) := by decide +kernel
theorem dX9_addBytes_61 : decode cX9_addBytes 61 = .ok (.dup, 1) := by decide +kernel
theorem dX9_addBytes_62 : decode cX9_addBytes 62 = .ok (.getfield 21, 3) := by decide +kernel
theorem dX9_addBytes_65 : decode cX9_addBytes 65 = .ok (.iconst 1, 1) := by decide +kernel
theorem dX9_addBytes_66 : decode cX9_addBytes 66 = .ok (.iadd, 1) := by decide +kernel
theorem dX9_addBytes_67 : decode cX9_addBytes 67 = .ok (.putfield 21, 3) := by decide +kernel
theorem dX9_addBytes_70 : decode cX9_addBytes 70 = .ok (.iinc 4 (-1), 3) := by decide +kernel
theorem dX9_addBytes_73 : decode cX9_addBytes 73 = .ok (.goto (-39), 3) := by decide +kernel
theorem dX9_addBytes_76 : decode cX9_addBytes 76 = .ok (.aload_n 0, 1) := by decide +kernel
theorem dX9_addBytes_77 : decode cX9_addBytes 77 = .ok (.getfield 21, 3) := by decide +kernel
theorem dX9_addBytes_80 : decode cX9_addBytes 80 = .ok (.ireturn, 1) := by decide +kernel
theorem bX9_addBytes_0 {Z : ZT} {X : XT} {μ : Mu} {a1 : Int64} {a3 : Int32} (E : Ent Z X mX9_addBytes 0 0)  
    (kt : a3 < (nI 1) → JS Z X 11 [] [] μ) (kf : ¬ (a3 < (nI 1)) → JS Z X 5 [(0, .ref (Z.2.2.1 + 31)), (1, .long a1), (3, .int a3)] [] μ) :
    JS Z X 0 [(0, .ref (Z.2.2.1 + 31)), (1, .long a1), (3, .int a3)] [] μ := by
  refine J_iload_n E dX9_addBytes_0 rfl ?_
  refine J_iconst (v := nI 1) E dX9_addBytes_1 rfl ?_
  refine J_icmp_lt (tgt := 11) E dX9_addBytes_2 (by decide) (fun c => ?_) (fun c => ?_)
  · refine J.weak [] rfl ?_
    exact kt c
  · exact kf c
theorem bX9_addBytes_5 {Z : ZT} {X : XT} {μ : Mu} {a1 : Int64} {a3 : Int32} (E : Ent Z X mX9_addBytes 0 0)  
    (kt : a3 ≤ (nI 8) → JS Z X 14 [(0, .ref (Z.2.2.1 + 31)), (1, .long a1), (3, .int a3)] [] μ) (kf : ¬ (a3 ≤ (nI 8)) → JS Z X 11 [] [] μ) :
    JS Z X 5 [(0, .ref (Z.2.2.1 + 31)), (1, .long a1), (3, .int a3)] [] μ := by
  refine J_iload_n E dX9_addBytes_5 rfl ?_
  refine J_bipush (v := nI 8) E dX9_addBytes_6 rfl ?_
  refine J_icmp_le (tgt := 14) E dX9_addBytes_8 (by decide) (fun c => ?_) (fun c => ?_)
  · exact kt c
  · refine J.weak [] rfl ?_
    exact kf c
theorem bX9_addBytes_11 {Z : ZT} {X : XT} {μ : Mu} (E : Ent Z X mX9_addBytes 0 0) {P : Option Value → Mu → Prop} (hB : BodS Z X P) 
    (k : P (some (.int (-2))) μ) :
    JS Z X 11 [] [] μ := by
  refine J_bipush (v := -2) E dX9_addBytes_11 rfl ?_
  exact S_iret E hB dX9_addBytes_13 rfl k
theorem bX9_addBytes_14 {Z : ZT} {X : XT} {μ : Mu} {a1 : Int64} {a3 : Int32} (E : Ent Z X mX9_addBytes 0 0)  
    (kt : ((μ 31 1) + a3) ≤ (nI 300) → JS Z X 29 [(0, .ref (Z.2.2.1 + 31)), (1, .long a1), (3, .int a3)] [] μ) (kf : ¬ (((μ 31 1) + a3) ≤ (nI 300)) → JS Z X 26 [] [] μ) :
    JS Z X 14 [(0, .ref (Z.2.2.1 + 31)), (1, .long a1), (3, .int a3)] [] μ := by
  refine J_aload_n E dX9_addBytes_14 rfl ?_
  refine S_get (ci := 9) (q := 1) (v := .int (μ 31 1)) E dX9_addBytes_15 fs_X9_21 sh31 rfl ?_
  refine J_iload_n E dX9_addBytes_18 rfl ?_
  refine J_iadd E dX9_addBytes_19 ?_
  refine J_sipush (v := nI 300) E dX9_addBytes_20 rfl ?_
  refine J_icmp_le (tgt := 29) E dX9_addBytes_23 (by decide) (fun c => ?_) (fun c => ?_)
  · exact kt c
  · refine J.weak [] rfl ?_
    exact kf c
theorem bX9_addBytes_26 {Z : ZT} {X : XT} {μ : Mu} (E : Ent Z X mX9_addBytes 0 0) {P : Option Value → Mu → Prop} (hB : BodS Z X P) 
    (k : P (some (.int (-4))) μ) :
    JS Z X 26 [] [] μ := by
  refine J_bipush (v := -4) E dX9_addBytes_26 rfl ?_
  exact S_iret E hB dX9_addBytes_28 rfl k
theorem bX9_addBytes_29 {Z : ZT} {X : XT} {μ : Mu} {a1 : Int64} {a3 : Int32} (E : Ent Z X mX9_addBytes 0 0)  
    (k : JS Z X 34 [(0, .ref (Z.2.2.1 + 31)), (1, .long a1), (4, .int (a3 - (nI 1)))] [] μ) :
    JS Z X 29 [(0, .ref (Z.2.2.1 + 31)), (1, .long a1), (3, .int a3)] [] μ := by
  refine J_iload_n E dX9_addBytes_29 rfl ?_
  refine J_iconst (v := nI 1) E dX9_addBytes_30 rfl ?_
  refine J_isub E dX9_addBytes_31 ?_
  refine J_istore (lv' := [(0, .ref (Z.2.2.1 + 31)), (1, .long a1), (3, .int a3), (4, .int (a3 - (nI 1)))]) E dX9_addBytes_32 (Nat.le_of_ble_eq_true rfl) rfl ?_
  refine J.weak [0, 1, 3] rfl ?_
  exact k
theorem bX9_addBytes_34 {Z : ZT} {X : XT} {μ : Mu} {a1 : Int64} {a4 : Int32} (E : Ent Z X mX9_addBytes 0 0)  
    (kt : a4 < 0 → JS Z X 76 [(0, .ref (Z.2.2.1 + 31))] [] μ) (kf : ¬ (a4 < 0) → JS Z X 39 [(0, .ref (Z.2.2.1 + 31)), (1, .long a1), (4, .int a4)] [] μ) :
    JS Z X 34 [(0, .ref (Z.2.2.1 + 31)), (1, .long a1), (4, .int a4)] [] μ := by
  refine J_iload E dX9_addBytes_34 rfl ?_
  refine J_if_lt (tgt := 76) E dX9_addBytes_36 (by decide) (fun c => ?_) (fun c => ?_)
  · refine J.weak [0] rfl ?_
    exact kt c
  · exact kf c
theorem bX9_addBytes_39 {Z : ZT} {X : XT} {μ : Mu} {a1 : Int64} {a4 : Int32} (E : Ent Z X mX9_addBytes 0 0)  (s1_ : vp_in (μ 31 1) 300)
    (k : JS Z X 60 [(0, .ref (Z.2.2.1 + 31)), (1, .long a1), (4, .int a4)] [] (uR μ 32 (upd (μ 32) (ix (μ 31 1)) ((((a1.toUInt64 >>> (((nI 8) * a4).toInt64.toUInt64 &&& Int64.toUInt64 63)).toInt64) &&& (lN 255)).toInt32)))) :
    JS Z X 39 [(0, .ref (Z.2.2.1 + 31)), (1, .long a1), (4, .int a4)] [] μ := by
  refine J_aload_n E dX9_addBytes_39 rfl ?_
  refine S_get (ci := 9) (q := 0) (v := .ref (Z.2.2.1 + 32)) E dX9_addBytes_40 fs_X9_9 sh31 rfl ?_
  refine J_aload_n E dX9_addBytes_43 rfl ?_
  refine S_get (ci := 9) (q := 1) (v := .int (μ 31 1)) E dX9_addBytes_44 fs_X9_21 sh31 rfl ?_
  refine J_lload_n E dX9_addBytes_47 rfl ?_
  refine J_bipush (v := nI 8) E dX9_addBytes_48 rfl ?_
  refine J_iload E dX9_addBytes_50 rfl ?_
  refine J_imul E dX9_addBytes_52 ?_
  refine J_lushr E dX9_addBytes_53 ?_
  refine J_ldc2 (v := lN 255) E dX9_addBytes_54 w3_144 ?_
  refine J_land E dX9_addBytes_57 ?_
  refine J_l2i E dX9_addBytes_58 ?_
  refine S_iast E dX9_addBytes_59 sh32 s1_ ?_
  exact k
theorem bX9_addBytes_60 {Z : ZT} {X : XT} {μ : Mu} {a1 : Int64} {a4 : Int32} (E : Ent Z X mX9_addBytes 0 0)  
    (k : JS Z X 70 [(0, .ref (Z.2.2.1 + 31)), (1, .long a1), (4, .int a4)] [] (uR μ 31 (upd (μ 31) 1 ((μ 31 1) + (nI 1))))) :
    JS Z X 60 [(0, .ref (Z.2.2.1 + 31)), (1, .long a1), (4, .int a4)] [] μ := by
  refine J_aload_n E dX9_addBytes_60 rfl ?_
  refine J_dup E dX9_addBytes_61 rfl ?_
  refine S_get (ci := 9) (q := 1) (v := .int (μ 31 1)) E dX9_addBytes_62 fs_X9_21 sh31 rfl ?_
  refine J_iconst (v := nI 1) E dX9_addBytes_65 rfl ?_
  refine J_iadd E dX9_addBytes_66 ?_
  refine S_puti E dX9_addBytes_67 fs_X9_21 fp_X9_1 sh31 rfl ?_
  exact k
theorem bX9_addBytes_70 {Z : ZT} {X : XT} {μ : Mu} {a1 : Int64} {a4 : Int32} (E : Ent Z X mX9_addBytes 0 0)  
    (k : JS Z X 34 [(0, .ref (Z.2.2.1 + 31)), (1, .long a1), (4, .int (a4 + (-1)))] [] μ) :
    JS Z X 70 [(0, .ref (Z.2.2.1 + 31)), (1, .long a1), (4, .int a4)] [] μ := by
  refine J_iinc (v := a4 + (-1)) (lv' := [(0, .ref (Z.2.2.1 + 31)), (1, .long a1), (4, .int (a4 + (-1)))]) E dX9_addBytes_70 rfl rfl (Nat.le_of_ble_eq_true rfl) rfl ?_
  refine J_goto (tgt := 34) E dX9_addBytes_73 (by decide) ?_
  exact k
theorem bX9_addBytes_76 {Z : ZT} {X : XT} {μ : Mu} (E : Ent Z X mX9_addBytes 0 0) {P : Option Value → Mu → Prop} (hB : BodS Z X P) 
    (k : P (some (.int (μ 31 1))) μ) :
    JS Z X 76 [(0, .ref (Z.2.2.1 + 31))] [] μ := by
  refine J_aload_n E dX9_addBytes_76 rfl ?_
  refine S_get (ci := 9) (q := 1) (v := .int (μ 31 1)) E dX9_addBytes_77 fs_X9_21 sh31 rfl ?_
  exact S_iret E hB dX9_addBytes_80 rfl k
theorem dX9_empty_0 : decode cX9_empty 0 = .ok (.aload_n 0, 1) := by decide +kernel
theorem dX9_empty_1 : decode cX9_empty 1 = .ok (.getfield 21, 3) := by decide +kernel
theorem dX9_empty_4 : decode cX9_empty 4 = .ok (.istore_n 1, 1) := by decide +kernel
theorem dX9_empty_5 : decode cX9_empty 5 = .ok (.aload_n 0, 1) := by decide +kernel
theorem dX9_empty_6 : decode cX9_empty 6 = .ok (.iconst 0, 1) := by decide +kernel
theorem dX9_empty_7 : decode cX9_empty 7 = .ok (.putfield 21, 3) := by decide +kernel
theorem dX9_empty_10 : decode cX9_empty 10 = .ok (.iload_n 1, 1) := by decide +kernel
theorem dX9_empty_11 : decode cX9_empty 11 = .ok (.ireturn, 1) := by decide +kernel
theorem bX9_empty_0 {Z : ZT} {X : XT} {μ : Mu} (E : Ent Z X mX9_empty 0 0)  
    (k : JS Z X 10 [(1, .int (μ 31 1))] [] (uR μ 31 (upd (μ 31) 1 (nI 0)))) :
    JS Z X 0 [(0, .ref (Z.2.2.1 + 31))] [] μ := by
  refine J_aload_n E dX9_empty_0 rfl ?_
  refine S_get (ci := 9) (q := 1) (v := .int (μ 31 1)) E dX9_empty_1 fs_X9_21 sh31 rfl ?_
  refine J_istore_n (lv' := [(0, .ref (Z.2.2.1 + 31)), (1, .int (μ 31 1))]) E dX9_empty_4 (Nat.le_of_ble_eq_true rfl) rfl ?_
  refine J_aload_n E dX9_empty_5 rfl ?_
  refine J_iconst (v := nI 0) E dX9_empty_6 rfl ?_
  refine S_puti E dX9_empty_7 fs_X9_21 fp_X9_1 sh31 rfl ?_
  refine J.weak [1] rfl ?_
  exact k
theorem bX9_empty_10 {Z : ZT} {X : XT} {μ : Mu} {a1 : Int32} (E : Ent Z X mX9_empty 0 0) {P : Option Value → Mu → Prop} (hB : BodS Z X P) 
    (k : P (some (.int a1)) μ) :
    JS Z X 10 [(1, .int a1)] [] μ := by
  refine J_iload_n E dX9_empty_10 rfl ?_
  exact S_iret E hB dX9_empty_11 rfl k
theorem dX9_findFault_0 : decode cX9_findFault 0 = .ok (.aload_n 0, 1) := by decide +kernel
theorem dX9_findFault_1 : decode cX9_findFault 1 = .ok (.iconst 0, 1) := by decide +kernel
theorem dX9_findFault_2 : decode cX9_findFault 2 = .ok (.putfield 27, 3) := by decide +kernel
theorem dX9_findFault_5 : decode cX9_findFault 5 = .ok (.aload_n 0, 1) := by decide +kernel
theorem dX9_findFault_6 : decode cX9_findFault 6 = .ok (.iconst 0, 1) := by decide +kernel
theorem dX9_findFault_7 : decode cX9_findFault 7 = .ok (.putfield 30, 3) := by decide +kernel
theorem dX9_findFault_10 : decode cX9_findFault 10 = .ok (.iconst 0, 1) := by decide +kernel
theorem dX9_findFault_11 : decode cX9_findFault 11 = .ok (.istore_n 1, 1) := by decide +kernel
theorem dX9_findFault_12 : decode cX9_findFault 12 = .ok (.iload_n 1, 1) := by decide +kernel
theorem dX9_findFault_13 : decode cX9_findFault 13 = .ok (.bipush 50, 2) := by decide +kernel
theorem dX9_findFault_15 : decode cX9_findFault 15 = .ok (.if_icmp .gt 38, 3) := by decide +kernel
theorem dX9_findFault_18 : decode cX9_findFault 18 = .ok (.aload_n 0, 1) := by decide +kernel
theorem dX9_findFault_19 : decode cX9_findFault 19 = .ok (.invokevirtual 33, 3) := by decide +kernel
theorem dX9_findFault_22 : decode cX9_findFault 22 = .ok (.aload_n 0, 1) := by decide +kernel
theorem dX9_findFault_23 : decode cX9_findFault 23 = .ok (.getfield 30, 3) := by decide +kernel
theorem dX9_findFault_26 : decode cX9_findFault 26 = .ok (.aload_n 0, 1) := by decide +kernel
theorem dX9_findFault_27 : decode cX9_findFault 27 = .ok (.getfield 21, 3) := by decide +kernel
theorem dX9_findFault_30 : decode cX9_findFault 30 = .ok (.if_icmp .lt 5, 3) := by decide +kernel
theorem dX9_findFault_33 : decode cX9_findFault 33 = .ok (.iconst (-1), 1) := by decide +kernel
theorem dX9_findFault_34 : decode cX9_findFault 34 = .ok (.ireturn, 1) := by decide +kernel
theorem dX9_findFault_35 : decode cX9_findFault 35 = .ok (.aload_n 0, 1) := by decide +kernel
theorem dX9_findFault_36 : decode cX9_findFault 36 = .ok (.invokevirtual 36, 3) := by decide +kernel
theorem dX9_findFault_39 : decode cX9_findFault 39 = .ok (.ifCond .ne 8, 3) := by decide +kernel
theorem dX9_findFault_42 : decode cX9_findFault 42 = .ok (.aload_n 0, 1) := by decide +kernel
theorem dX9_findFault_43 : decode cX9_findFault 43 = .ok (.getfield 30, 3) := by decide +kernel
theorem dX9_findFault_46 : decode cX9_findFault 46 = .ok (.ireturn, 1) := by decide +kernel
theorem dX9_findFault_47 : decode cX9_findFault 47 = .ok (.iinc 1 1, 3) := by decide +kernel
theorem dX9_findFault_50 : decode cX9_findFault 50 = .ok (.goto (-38), 3) := by decide +kernel
theorem dX9_findFault_53 : decode cX9_findFault 53 = .ok (.iconst (-1), 1) := by decide +kernel
theorem dX9_findFault_54 : decode cX9_findFault 54 = .ok (.ireturn, 1) := by decide +kernel
theorem bX9_findFault_0 {Z : ZT} {X : XT} {μ : Mu} (E : Ent Z X mX9_findFault 0 0)  
    (k : JS Z X 5 [(0, .ref (Z.2.2.1 + 31))] [] (uR μ 31 (upd (μ 31) 2 (nI 0)))) :
    JS Z X 0 [(0, .ref (Z.2.2.1 + 31))] [] μ := by
  refine J_aload_n E dX9_findFault_0 rfl ?_
  refine J_iconst (v := nI 0) E dX9_findFault_1 rfl ?_
  refine S_puti E dX9_findFault_2 fs_X9_27 fp_X9_2 sh31 rfl ?_
  exact k
theorem bX9_findFault_5 {Z : ZT} {X : XT} {μ : Mu} (E : Ent Z X mX9_findFault 0 0)  
    (k : JS Z X 10 [(0, .ref (Z.2.2.1 + 31))] [] (uR μ 31 (upd (μ 31) 5 (nI 0)))) :
    JS Z X 5 [(0, .ref (Z.2.2.1 + 31))] [] μ := by
  refine J_aload_n E dX9_findFault_5 rfl ?_
  refine J_iconst (v := nI 0) E dX9_findFault_6 rfl ?_
  refine S_puti E dX9_findFault_7 fs_X9_30 fp_X9_5 sh31 rfl ?_
  exact k
theorem bX9_findFault_10 {Z : ZT} {X : XT} {μ : Mu} (E : Ent Z X mX9_findFault 0 0)  
    (k : JS Z X 12 [(0, .ref (Z.2.2.1 + 31)), (1, .int (nI 0))] [] μ) :
    JS Z X 10 [(0, .ref (Z.2.2.1 + 31))] [] μ := by
  refine J_iconst (v := nI 0) E dX9_findFault_10 rfl ?_
  refine J_istore_n (lv' := [(0, .ref (Z.2.2.1 + 31)), (1, .int (nI 0))]) E dX9_findFault_11 (Nat.le_of_ble_eq_true rfl) rfl ?_
  exact k
theorem bX9_findFault_12 {Z : ZT} {X : XT} {μ : Mu} {a1 : Int32} (E : Ent Z X mX9_findFault 0 0)  
    (kt : (nI 50) < a1 → JS Z X 53 [] [] μ) (kf : ¬ ((nI 50) < a1) → JS Z X 18 [(0, .ref (Z.2.2.1 + 31)), (1, .int a1)] [] μ) :
    JS Z X 12 [(0, .ref (Z.2.2.1 + 31)), (1, .int a1)] [] μ := by
  refine J_iload_n E dX9_findFault_12 rfl ?_
  refine J_bipush (v := nI 50) E dX9_findFault_13 rfl ?_
  refine J_icmp_gt (tgt := 53) E dX9_findFault_15 (by decide) (fun c => ?_) (fun c => ?_)
  · refine J.weak [] rfl ?_
    exact kt c
  · exact kf c
theorem bX9_findFault_18 {Z : ZT} {X : XT} {μ : Mu} {a1 : Int32} (E : Ent Z X mX9_findFault 0 0) {p : Mu → Prop} 
    (c : CtrS Z mX9_skipBlanks [.ref (Z.2.2.1 + 31)] μ (rV p)) (k : ∀ μ1, p μ1 → JS Z X 22 [(0, .ref (Z.2.2.1 + 31)), (1, .int a1)] [] μ1) :
    JS Z X 18 [(0, .ref (Z.2.2.1 + 31)), (1, .int a1)] [] μ := by
  refine J_aload_n E dX9_findFault_18 rfl ?_
  refine S_callV (As := []) (rest := []) E dX9_findFault_19 c kX9_skipBlanks ⟨Nat.le_of_ble_eq_true rfl, Nat.le_of_ble_eq_true rfl⟩ rfl (Nat.le_of_ble_eq_true rfl) sh31 rfl rfl w3_161 w3_163 wp_3 (fun r_ μ1 hp_ => ?_)
  obtain ⟨rfl, hp_⟩ := hp_
  exact k μ1 hp_
theorem bX9_findFault_22 {Z : ZT} {X : XT} {μ : Mu} {a1 : Int32} (E : Ent Z X mX9_findFault 0 0)  
    (kt : (μ 31 5) < (μ 31 1) → JS Z X 35 [(0, .ref (Z.2.2.1 + 31)), (1, .int a1)] [] μ) (kf : ¬ ((μ 31 5) < (μ 31 1)) → JS Z X 33 [] [] μ) :
    JS Z X 22 [(0, .ref (Z.2.2.1 + 31)), (1, .int a1)] [] μ := by
  refine J_aload_n E dX9_findFault_22 rfl ?_
  refine S_get (ci := 9) (q := 5) (v := .int (μ 31 5)) E dX9_findFault_23 fs_X9_30 sh31 rfl ?_
  refine J_aload_n E dX9_findFault_26 rfl ?_
  refine S_get (ci := 9) (q := 1) (v := .int (μ 31 1)) E dX9_findFault_27 fs_X9_21 sh31 rfl ?_
  refine J_icmp_lt (tgt := 35) E dX9_findFault_30 (by decide) (fun c => ?_) (fun c => ?_)
  · exact kt c
  · refine J.weak [] rfl ?_
    exact kf c
theorem bX9_findFault_33 {Z : ZT} {X : XT} {μ : Mu} (E : Ent Z X mX9_findFault 0 0) {P : Option Value → Mu → Prop} (hB : BodS Z X P) 
    (k : P (some (.int (-1))) μ) :
    JS Z X 33 [] [] μ := by
  refine J_iconst (v := -1) E dX9_findFault_33 rfl ?_
  exact S_iret E hB dX9_findFault_34 rfl k
theorem bX9_findFault_35 {Z : ZT} {X : XT} {μ : Mu} {a1 : Int32} (E : Ent Z X mX9_findFault 0 0) {p : Int32 → Mu → Prop} 
    (c : CtrS Z mX9_readItem [.ref (Z.2.2.1 + 31)] μ (rI p)) (k : ∀ v μ1, p v μ1 → JS Z X 39 [(0, .ref (Z.2.2.1 + 31)), (1, .int a1)] [.int v] μ1) :
    JS Z X 35 [(0, .ref (Z.2.2.1 + 31)), (1, .int a1)] [] μ := by
  refine J_aload_n E dX9_findFault_35 rfl ?_
  refine S_callV (As := []) (rest := []) E dX9_findFault_36 c kX9_readItem ⟨Nat.le_of_ble_eq_true rfl, Nat.le_of_ble_eq_true rfl⟩ rfl (Nat.le_of_ble_eq_true rfl) sh31 rfl rfl w3_165 w3_167 wp_4 (fun r_ μ1 hp_ => ?_)
  obtain ⟨v, rfl, hp_⟩ := hp_
  exact k v μ1 hp_
theorem bX9_findFault_39 {Z : ZT} {X : XT} {μ : Mu} {a1 : Int32} {s0 : Int32} (E : Ent Z X mX9_findFault 0 0)  
    (kt : ¬ s0 = 0 → JS Z X 47 [(0, .ref (Z.2.2.1 + 31)), (1, .int a1)] [] μ) (kf : s0 = 0 → JS Z X 42 [(0, .ref (Z.2.2.1 + 31))] [] μ) :
    JS Z X 39 [(0, .ref (Z.2.2.1 + 31)), (1, .int a1)] [.int s0] μ := by
  refine J_if_ne (tgt := 47) E dX9_findFault_39 (by decide) (fun c => ?_) (fun c => ?_)
  · exact kt c
  · refine J.weak [0] rfl ?_
    exact kf c
theorem bX9_findFault_42 {Z : ZT} {X : XT} {μ : Mu} (E : Ent Z X mX9_findFault 0 0) {P : Option Value → Mu → Prop} (hB : BodS Z X P) 
    (k : P (some (.int (μ 31 5))) μ) :
    JS Z X 42 [(0, .ref (Z.2.2.1 + 31))] [] μ := by
  refine J_aload_n E dX9_findFault_42 rfl ?_
  refine S_get (ci := 9) (q := 5) (v := .int (μ 31 5)) E dX9_findFault_43 fs_X9_30 sh31 rfl ?_
  exact S_iret E hB dX9_findFault_46 rfl k
theorem bX9_findFault_47 {Z : ZT} {X : XT} {μ : Mu} {a1 : Int32} (E : Ent Z X mX9_findFault 0 0)  
    (k : JS Z X 12 [(0, .ref (Z.2.2.1 + 31)), (1, .int (a1 + nI 1))] [] μ) :
    JS Z X 47 [(0, .ref (Z.2.2.1 + 31)), (1, .int a1)] [] μ := by
  refine J_iinc (v := a1 + nI 1) (lv' := [(0, .ref (Z.2.2.1 + 31)), (1, .int (a1 + nI 1))]) E dX9_findFault_47 rfl rfl (Nat.le_of_ble_eq_true rfl) rfl ?_
  refine J_goto (tgt := 12) E dX9_findFault_50 (by decide) ?_
  exact k
theorem bX9_findFault_53 {Z : ZT} {X : XT} {μ : Mu} (E : Ent Z X mX9_findFault 0 0) {P : Option Value → Mu → Prop} (hB : BodS Z X P) 
    (k : P (some (.int (-1))) μ) :
    JS Z X 53 [] [] μ := by
  refine J_iconst (v := -1) E dX9_findFault_53 rfl ?_
  exact S_iret E hB dX9_findFault_54 rfl k
theorem dX9_readItem_0 : decode cX9_readItem 0 = .ok (.aload_n 0, 1) := by decide +kernel
theorem dX9_readItem_1 : decode cX9_readItem 1 = .ok (.bipush 97, 2) := by decide +kernel
theorem dX9_readItem_3 : decode cX9_readItem 3 = .ok (.bipush 122, 2) := by decide +kernel
theorem dX9_readItem_5 : decode cX9_readItem 5 = .ok (.invokevirtual 40, 3) := by decide +kernel
theorem dX9_readItem_8 : decode cX9_readItem 8 = .ok (.istore_n 1, 1) := by decide +kernel
theorem dX9_readItem_9 : decode cX9_readItem 9 = .ok (.aload_n 0, 1) := by decide +kernel
theorem dX9_readItem_10 : decode cX9_readItem 10 = .ok (.iload_n 1, 1) := by decide +kernel
theorem dX9_readItem_11 : decode cX9_readItem 11 = .ok (.invokevirtual 44, 3) := by decide +kernel
theorem dX9_readItem_14 : decode cX9_readItem 14 = .ok (.istore_n 2, 1) := by decide +kernel
theorem dX9_readItem_15 : decode cX9_readItem 15 = .ok (.iload_n 2, 1) := by decide +kernel
theorem dX9_readItem_16 : decode cX9_readItem 16 = .ok (.iconst (-1), 1) := by decide +kernel
theorem dX9_readItem_17 : decode cX9_readItem 17 = .ok (.if_icmp .eq 12, 3) := by decide +kernel
theorem dX9_readItem_20 : decode cX9_readItem 20 = .ok (.aload_n 0, 1) := by decide +kernel
theorem dX9_readItem_21 : decode cX9_readItem 21 = .ok (.getfield 27, 3) := by decide +kernel
theorem dX9_readItem_24 : decode cX9_readItem 24 = .ok (.bipush 50, 2) := by decide +kernel
theorem dX9_readItem_26 : decode cX9_readItem 26 = .ok (.if_icmp .lt 5, 3) := by decide +kernel
theorem dX9_readItem_29 : decode cX9_readItem 29 = .ok (.iconst 0, 1) := by decide +kernel
theorem dX9_readItem_30 : decode cX9_readItem 30 = .ok (.ireturn, 1) := by decide +kernel
theorem dX9_readItem_31 : decode cX9_readItem 31 = .ok (.aload_n 0, 1) := by decide +kernel
theorem dX9_readItem_32 : decode cX9_readItem 32 = .ok (.iload_n 1, 1) := by decide +kernel
theorem dX9_readItem_33 : decode cX9_readItem 33 = .ok (.putfield 30, 3) := by decide +kernel
theorem dX9_readItem_36 : decode cX9_readItem 36 = .ok (.iconst 0, 1) := by decide +kernel
theorem dX9_readItem_37 : decode cX9_readItem 37 = .ok (.istore_n 3, 1) := by decide +kernel
theorem dX9_readItem_38 : decode cX9_readItem 38 = .ok (.iload_n 3, 1) := by decide +kernel
theorem dX9_readItem_39 : decode cX9_readItem 39 = .ok (.getstatic 48, 3) := by decide +kernel
theorem dX9_readItem_42 : decode cX9_readItem 42 = .ok (.iload_n 2, 1) := by decide +kernel
theorem dX9_readItem_43 : decode cX9_readItem 43 = .ok (.iaload, 1) := by decide +kernel
theorem dX9_readItem_44 : decode cX9_readItem 44 = .ok (.if_icmp .ge 65, 3) := by decide +kernel
theorem dX9_readItem_47 : decode cX9_readItem 47 = .ok (.aload_n 0, 1) := by decide +kernel
theorem dX9_readItem_48 : decode cX9_readItem 48 = .ok (.invokevirtual 33, 3) := by decide +kernel
theorem dX9_readItem_51 : decode cX9_readItem 51 = .ok (.aload_n 0, 1) := by decide +kernel
theorem dX9_readItem_52 : decode cX9_readItem 52 = .ok (.bipush 48, 2) := by decide +kernel
theorem dX9_readItem_54 : decode cX9_readItem 54 = .ok (.bipush 57, 2) := by decide +kernel
theorem dX9_readItem_56 : decode cX9_readItem 56 = .ok (.invokevirtual 40, 3) := by decide +kernel
theorem dX9_readItem_59 : decode cX9_readItem 59 = .ok (.istore_n 1, 1) := by decide +kernel
theorem dX9_readItem_60 : decode cX9_readItem 60 = .ok (.iload_n 1, 1) := by decide +kernel
theorem dX9_readItem_61 : decode cX9_readItem 61 = .ok (.aload_n 0, 1) := by decide +kernel
theorem dX9_readItem_62 : decode cX9_readItem 62 = .ok (.getfield 30, 3) := by decide +kernel
theorem dX9_readItem_65 : decode cX9_readItem 65 = .ok (.if_icmp .eq 13, 3) := by decide +kernel
theorem dX9_readItem_68 : decode cX9_readItem 68 = .ok (.iload_n 1, 1) := by decide +kernel
theorem dX9_readItem_69 : decode cX9_readItem 69 = .ok (.aload_n 0, 1) := by decide +kernel
theorem dX9_readItem_70 : decode cX9_readItem 70 = .ok (.getfield 30, 3) := by decide +kernel
theorem dX9_readItem_73 : decode cX9_readItem 73 = .ok (.iconst 3, 1) := by decide +kernel
theorem dX9_readItem_74 : decode cX9_readItem 74 = .ok (.iadd, 1) := by decide +kernel
theorem dX9_readItem_75 : decode cX9_readItem 75 = .ok (.if_icmp .le 5, 3) := by decide +kernel
theorem dX9_readItem_78 : decode cX9_readItem 78 = .ok (.iconst 0, 1) := by decide +kernel
theorem dX9_readItem_79 : decode cX9_readItem 79 = .ok (.ireturn, 1) := by decide +kernel
theorem dX9_readItem_80 : decode cX9_readItem 80 = .ok (.aload_n 0, 1) := by decide +kernel
theorem dX9_readItem_81 : decode cX9_readItem 81 = .ok (.getfield 18, 3) := by decide +kernel
theorem dX9_readItem_84 : decode cX9_readItem 84 = .ok (.aload_n 0, 1) := by decide +kernel
theorem dX9_readItem_85 : decode cX9_readItem 85 = .ok (.getfield 27, 3) := by decide +kernel
theorem dX9_readItem_88 : decode cX9_readItem 88 = .ok (.iconst 5, 1) := by decide +kernel
theorem dX9_readItem_89 : decode cX9_readItem 89 = .ok (.imul, 1) := by decide +kernel
theorem dX9_readItem_90 : decode cX9_readItem 90 = .ok (.iload_n 3, 1) := by decide +kernel
theorem dX9_readItem_91 : decode cX9_readItem 91 = .ok (.iadd, 1) := by decide +kernel
theorem dX9_readItem_92 : decode cX9_readItem 92 = .ok (.aload_n 0, 1) := by decide +kernel
theorem dX9_readItem_93 : decode cX9_readItem 93 = .ok (.iload_n 1, 1) := by decide +kernel
theorem dX9_readItem_94 : decode cX9_readItem 94 = .ok (.invokevirtual 51, 3) := by decide +kernel
theorem dX9_readItem_97 : decode cX9_readItem 97 = .ok (.iastore, 1) := by decide +kernel
theorem dX9_readItem_98 : decode cX9_readItem 98 = .ok (.aload_n 0, 1) := by decide +kernel
theorem dX9_readItem_99 : decode cX9_readItem 99 = .ok (.iload_n 1, 1) := by decide +kernel
theorem dX9_readItem_100 : decode cX9_readItem 100 = .ok (.putfield 30, 3) := by decide +kernel
theorem dX9_readItem_103 : decode cX9_readItem 103 = .ok (.iinc 3 1, 3) := by decide +kernel
theorem dX9_readItem_106 : decode cX9_readItem 106 = .ok (.goto (-68), 3) := by decide +kernel
theorem dX9_readItem_109 : decode cX9_readItem 109 = .ok (.aload_n 0, 1) := by decide +kernel
theorem dX9_readItem_110 : decode cX9_readItem 110 = .ok (.invokevirtual 33, 3) := by decide +kernel
theorem dX9_readItem_113 : decode cX9_readItem 113 = .ok (.aload_n 0, 1) := by decide +kernel
theorem dX9_readItem_114 : decode cX9_readItem 114 = .ok (.getfield 30, 3) := by decide +kernel
theorem dX9_readItem_117 : decode cX9_readItem 117 = .ok (.aload_n 0, 1) := by decide +kernel
theorem dX9_readItem_118 : decode cX9_readItem 118 = .ok (.getfield 21, 3) := by decide +kernel
theorem dX9_readItem_121 : decode cX9_readItem 121 = .ok (.if_icmp .ge 17, 3) := by decide +kernel
theorem dX9_readItem_124 : decode cX9_readItem 124 = .ok (.aload_n 0, 1) := by decide +kernel
theorem dX9_readItem_125 : decode cX9_readItem 125 = .ok (.getfield 9, 3) := by decide +kernel
theorem dX9_readItem_128 : decode cX9_readItem 128 = .ok (.aload_n 0, 1) := by decide +kernel
theorem dX9_readItem_129 : decode cX9_readItem 129 = .ok (.getfield 30, 3) := by decide +kernel
theorem dX9_readItem_132 : decode cX9_readItem 132 = .ok (.iaload, 1) := by decide +kernel
theorem dX9_readItem_133 : decode cX9_readItem 133 = .ok (.bipush 59, 2) := by decide +kernel
theorem dX9_readItem_135 : decode cX9_readItem 135 = .ok (.if_icmp .eq 5, 3) := by decide +kernel
theorem dX9_readItem_138 : decode cX9_readItem 138 = .ok (.iconst 0, 1) := by decide +kernel
theorem dX9_readItem_139 : decode cX9_readItem 139 = .ok (.ireturn, 1) := by decide +kernel
theorem dX9_readItem_140 : decode cX9_readItem 140 = .ok (.aload_n 0, 1) := by decide +kernel
theorem dX9_readItem_141 : decode cX9_readItem 141 = .ok (.dup, 1) := by decide +kernel
theorem dX9_readItem_142 : decode cX9_readItem 142 = .ok (.getfield 30, 3) := by decide +kernel
theorem dX9_readItem_145 : decode cX9_readItem 145 = .ok (.iconst 1, 1) := by decide +kernel
theorem dX9_readItem_146 : decode cX9_readItem 146 = .ok (.iadd, 1) := by decide +kernel
theorem dX9_readItem_147 : decode cX9_readItem 147 = .ok (.putfield 30, 3) := by decide +kernel
theorem dX9_readItem_150 : decode cX9_readItem 150 = .ok (.aload_n 0, 1) := by decide +kernel
theorem dX9_readItem_151 : decode cX9_readItem 151 = .ok (.getfield 15, 3) := by decide +kernel
theorem dX9_readItem_154 : decode cX9_readItem 154 = .ok (.aload_n 0, 1) := by decide +kernel
theorem dX9_readItem_155 : decode cX9_readItem 155 = .ok (.getfield 27, 3) := by decide +kernel
theorem dX9_readItem_158 : decode cX9_readItem 158 = .ok (.iload_n 2, 1) := by decide +kernel
theorem dX9_readItem_159 : decode cX9_readItem 159 = .ok (.iastore, 1) := by decide +kernel
theorem dX9_readItem_160 : decode cX9_readItem 160 = .ok (.aload_n 0, 1) := by decide +kernel
theorem dX9_readItem_161 : decode cX9_readItem 161 = .ok (.dup, 1) := by decide +kernel
theorem dX9_readItem_162 : decode cX9_readItem 162 = .ok (.getfield 27, 3) := by decide +kernel
theorem dX9_readItem_165 : decode cX9_readItem 165 = .ok (.iconst 1, 1) := by decide +kernel
theorem dX9_readItem_166 : decode cX9_readItem 166 = .ok (.iadd, 1) := by decide +kernel
theorem dX9_readItem_167 : decode cX9_readItem 167 = .ok (.putfield 27, 3) := by decide +kernel
theorem dX9_readItem_170 : decode cX9_readItem 170 = .ok (.iconst 1, 1) := by decide +kernel
theorem dX9_readItem_171 : decode cX9_readItem 171 = .ok (.ireturn, 1) := by decide +kernel
theorem bX9_readItem_0 {Z : ZT} {X : XT} {μ : Mu} (E : Ent Z X mX9_readItem 0 0) {p : Int32 → Mu → Prop} 
    (c : CtrS Z mX9_endOfRun [.ref (Z.2.2.1 + 31), .int (nI 97), .int (nI 122)] μ (rI p)) (k : ∀ v μ1, p v μ1 → JS Z X 8 [(0, .ref (Z.2.2.1 + 31))] [.int v] μ1) :
    JS Z X 0 [(0, .ref (Z.2.2.1 + 31))] [] μ := by
  refine J_aload_n E dX9_readItem_0 rfl ?_
  refine J_bipush (v := nI 97) E dX9_readItem_1 rfl ?_
  refine J_bipush (v := nI 122) E dX9_readItem_3 rfl ?_
  refine S_callV (As := [.int (nI 97), .int (nI 122)]) (rest := []) E dX9_readItem_5 c kX9_endOfRun ⟨Nat.le_of_ble_eq_true rfl, Nat.le_of_ble_eq_true rfl⟩ rfl (Nat.le_of_ble_eq_true rfl) sh31 rfl rfl w3_169 w3_171 wp_5 (fun r_ μ1 hp_ => ?_)
  obtain ⟨v, rfl, hp_⟩ := hp_
  exact k v μ1 hp_
theorem bX9_readItem_8 {Z : ZT} {X : XT} {μ : Mu} {s0 : Int32} (E : Ent Z X mX9_readItem 0 0) {p : Int32 → Mu → Prop} 
    (c : CtrS Z mX9_kindTo [.ref (Z.2.2.1 + 31), .int s0] μ (rI p)) (k : ∀ v μ1, p v μ1 → JS Z X 14 [(0, .ref (Z.2.2.1 + 31)), (1, .int s0)] [.int v] μ1) :
    JS Z X 8 [(0, .ref (Z.2.2.1 + 31))] [.int s0] μ := by
  refine J_istore_n (lv' := [(0, .ref (Z.2.2.1 + 31)), (1, .int s0)]) E dX9_readItem_8 (Nat.le_of_ble_eq_true rfl) rfl ?_
  refine J_aload_n E dX9_readItem_9 rfl ?_
  refine J_iload_n E dX9_readItem_10 rfl ?_
  refine S_callV (As := [.int s0]) (rest := []) E dX9_readItem_11 c kX9_kindTo ⟨Nat.le_of_ble_eq_true rfl, Nat.le_of_ble_eq_true rfl⟩ rfl (Nat.le_of_ble_eq_true rfl) sh31 rfl rfl w3_173 w3_175 wp_6 (fun r_ μ1 hp_ => ?_)
  obtain ⟨v, rfl, hp_⟩ := hp_
  exact k v μ1 hp_
theorem bX9_readItem_14 {Z : ZT} {X : XT} {μ : Mu} {a1 : Int32} {s0 : Int32} (E : Ent Z X mX9_readItem 0 0)  
    (kt : s0 = (-1) → JS Z X 29 [] [] μ) (kf : ¬ (s0 = (-1)) → JS Z X 20 [(0, .ref (Z.2.2.1 + 31)), (1, .int a1), (2, .int s0)] [] μ) :
    JS Z X 14 [(0, .ref (Z.2.2.1 + 31)), (1, .int a1)] [.int s0] μ := by
  refine J_istore_n (lv' := [(0, .ref (Z.2.2.1 + 31)), (1, .int a1), (2, .int s0)]) E dX9_readItem_14 (Nat.le_of_ble_eq_true rfl) rfl ?_
  refine J_iload_n E dX9_readItem_15 rfl ?_
  refine J_iconst (v := -1) E dX9_readItem_16 rfl ?_
  refine J_icmp_eq (tgt := 29) E dX9_readItem_17 (by decide) (fun c => ?_) (fun c => ?_)
  · refine J.weak [] rfl ?_
    exact kt c
  · exact kf c
theorem bX9_readItem_20 {Z : ZT} {X : XT} {μ : Mu} {a1 : Int32} {a2 : Int32} (E : Ent Z X mX9_readItem 0 0)  
    (kt : (μ 31 2) < (nI 50) → JS Z X 31 [(0, .ref (Z.2.2.1 + 31)), (1, .int a1), (2, .int a2)] [] μ) (kf : ¬ ((μ 31 2) < (nI 50)) → JS Z X 29 [] [] μ) :
    JS Z X 20 [(0, .ref (Z.2.2.1 + 31)), (1, .int a1), (2, .int a2)] [] μ := by
  refine J_aload_n E dX9_readItem_20 rfl ?_
  refine S_get (ci := 9) (q := 2) (v := .int (μ 31 2)) E dX9_readItem_21 fs_X9_27 sh31 rfl ?_
  refine J_bipush (v := nI 50) E dX9_readItem_24 rfl ?_
  refine J_icmp_lt (tgt := 31) E dX9_readItem_26 (by decide) (fun c => ?_) (fun c => ?_)
  · exact kt c
  · refine J.weak [] rfl ?_
    exact kf c
theorem bX9_readItem_29 {Z : ZT} {X : XT} {μ : Mu} (E : Ent Z X mX9_readItem 0 0) {P : Option Value → Mu → Prop} (hB : BodS Z X P) 
    (k : P (some (.int (nI 0))) μ) :
    JS Z X 29 [] [] μ := by
  refine J_iconst (v := nI 0) E dX9_readItem_29 rfl ?_
  exact S_zret E hB dX9_readItem_30 rfl rfl k
theorem bX9_readItem_31 {Z : ZT} {X : XT} {μ : Mu} {a1 : Int32} {a2 : Int32} (E : Ent Z X mX9_readItem 0 0)  
    (k : JS Z X 36 [(0, .ref (Z.2.2.1 + 31)), (2, .int a2)] [] (uR μ 31 (upd (μ 31) 5 a1))) :
    JS Z X 31 [(0, .ref (Z.2.2.1 + 31)), (1, .int a1), (2, .int a2)] [] μ := by
  refine J_aload_n E dX9_readItem_31 rfl ?_
  refine J_iload_n E dX9_readItem_32 rfl ?_
  refine S_puti E dX9_readItem_33 fs_X9_30 fp_X9_5 sh31 rfl ?_
  refine J.weak [0, 2] rfl ?_
  exact k
theorem bX9_readItem_36 {Z : ZT} {X : XT} {μ : Mu} {a2 : Int32} (E : Ent Z X mX9_readItem 0 0)  
    (k : JS Z X 38 [(0, .ref (Z.2.2.1 + 31)), (2, .int a2), (3, .int (nI 0))] [] μ) :
    JS Z X 36 [(0, .ref (Z.2.2.1 + 31)), (2, .int a2)] [] μ := by
  refine J_iconst (v := nI 0) E dX9_readItem_36 rfl ?_
  refine J_istore_n (lv' := [(0, .ref (Z.2.2.1 + 31)), (2, .int a2), (3, .int (nI 0))]) E dX9_readItem_37 (Nat.le_of_ble_eq_true rfl) rfl ?_
  exact k
theorem bX9_readItem_38 {Z : ZT} {X : XT} {μ : Mu} {a2 : Int32} {a3 : Int32} (E : Ent Z X mX9_readItem 0 0)  (s1_ : vp_in a2 10)
    (kt : (([0, 3, 2, 5, 2, 2, 2, 1, 2, 2] : List Int32).getD (ix a2) 0) ≤ a3 → JS Z X 109 [(0, .ref (Z.2.2.1 + 31)), (2, .int a2)] [] μ) (kf : ¬ ((([0, 3, 2, 5, 2, 2, 2, 1, 2, 2] : List Int32).getD (ix a2) 0) ≤ a3) → JS Z X 47 [(0, .ref (Z.2.2.1 + 31)), (2, .int a2), (3, .int a3)] [] μ) :
    JS Z X 38 [(0, .ref (Z.2.2.1 + 31)), (2, .int a2), (3, .int a3)] [] μ := by
  refine J_iload_n E dX9_readItem_38 rfl ?_
  refine J_gets_tnum E dX9_readItem_39 w3_239 ?_
  refine J_iload_n E dX9_readItem_42 rfl ?_
  refine J_ld_tnum E dX9_readItem_43 s1_ ?_
  refine J_icmp_ge (tgt := 109) E dX9_readItem_44 (by decide) (fun c => ?_) (fun c => ?_)
  · refine J.weak [0, 1] rfl ?_
    exact kt c
  · exact kf c
theorem bX9_readItem_47 {Z : ZT} {X : XT} {μ : Mu} {a2 : Int32} {a3 : Int32} (E : Ent Z X mX9_readItem 0 0) {p : Mu → Prop} 
    (c : CtrS Z mX9_skipBlanks [.ref (Z.2.2.1 + 31)] μ (rV p)) (k : ∀ μ1, p μ1 → JS Z X 51 [(0, .ref (Z.2.2.1 + 31)), (2, .int a2), (3, .int a3)] [] μ1) :
    JS Z X 47 [(0, .ref (Z.2.2.1 + 31)), (2, .int a2), (3, .int a3)] [] μ := by
  refine J_aload_n E dX9_readItem_47 rfl ?_
  refine S_callV (As := []) (rest := []) E dX9_readItem_48 c kX9_skipBlanks ⟨Nat.le_of_ble_eq_true rfl, Nat.le_of_ble_eq_true rfl⟩ rfl (Nat.le_of_ble_eq_true rfl) sh31 rfl rfl w3_161 w3_163 wp_3 (fun r_ μ1 hp_ => ?_)
  obtain ⟨rfl, hp_⟩ := hp_
  exact k μ1 hp_
theorem bX9_readItem_51 {Z : ZT} {X : XT} {μ : Mu} {a2 : Int32} {a3 : Int32} (E : Ent Z X mX9_readItem 0 0) {p : Int32 → Mu → Prop} 
    (c : CtrS Z mX9_endOfRun [.ref (Z.2.2.1 + 31), .int (nI 48), .int (nI 57)] μ (rI p)) (k : ∀ v μ1, p v μ1 → JS Z X 59 [(0, .ref (Z.2.2.1 + 31)), (2, .int a2), (3, .int a3)] [.int v] μ1) :
    JS Z X 51 [(0, .ref (Z.2.2.1 + 31)), (2, .int a2), (3, .int a3)] [] μ := by
  refine J_aload_n E dX9_readItem_51 rfl ?_
  refine J_bipush (v := nI 48) E dX9_readItem_52 rfl ?_
  refine J_bipush (v := nI 57) E dX9_readItem_54 rfl ?_
  refine S_callV (As := [.int (nI 48), .int (nI 57)]) (rest := []) E dX9_readItem_56 c kX9_endOfRun ⟨Nat.le_of_ble_eq_true rfl, Nat.le_of_ble_eq_true rfl⟩ rfl (Nat.le_of_ble_eq_true rfl) sh31 rfl rfl w3_169 w3_171 wp_5 (fun r_ μ1 hp_ => ?_)
  obtain ⟨v, rfl, hp_⟩ := hp_
  exact k v μ1 hp_
theorem bX9_readItem_59 {Z : ZT} {X : XT} {μ : Mu} {a2 : Int32} {a3 : Int32} {s0 : Int32} (E : Ent Z X mX9_readItem 0 0)  
    (kt : s0 = (μ 31 5) → JS Z X 78 [] [] μ) (kf : ¬ (s0 = (μ 31 5)) → JS Z X 68 [(0, .ref (Z.2.2.1 + 31)), (1, .int s0), (2, .int a2), (3, .int a3)] [] μ) :
    JS Z X 59 [(0, .ref (Z.2.2.1 + 31)), (2, .int a2), (3, .int a3)] [.int s0] μ := by
  refine J_istore_n (lv' := [(0, .ref (Z.2.2.1 + 31)), (1, .int s0), (2, .int a2), (3, .int a3)]) E dX9_readItem_59 (Nat.le_of_ble_eq_true rfl) rfl ?_
  refine J_iload_n E dX9_readItem_60 rfl ?_
  refine J_aload_n E dX9_readItem_61 rfl ?_
  refine S_get (ci := 9) (q := 5) (v := .int (μ 31 5)) E dX9_readItem_62 fs_X9_30 sh31 rfl ?_
  refine J_icmp_eq (tgt := 78) E dX9_readItem_65 (by decide) (fun c => ?_) (fun c => ?_)
  · refine J.weak [] rfl ?_
    exact kt c
  · exact kf c
theorem bX9_readItem_68 {Z : ZT} {X : XT} {μ : Mu} {a1 : Int32} {a2 : Int32} {a3 : Int32} (E : Ent Z X mX9_readItem 0 0)  
    (kt : a1 ≤ ((μ 31 5) + (nI 3)) → JS Z X 80 [(0, .ref (Z.2.2.1 + 31)), (1, .int a1), (2, .int a2), (3, .int a3)] [] μ) (kf : ¬ (a1 ≤ ((μ 31 5) + (nI 3))) → JS Z X 78 [] [] μ) :
    JS Z X 68 [(0, .ref (Z.2.2.1 + 31)), (1, .int a1), (2, .int a2), (3, .int a3)] [] μ := by
  refine J_iload_n E dX9_readItem_68 rfl ?_
  refine J_aload_n E dX9_readItem_69 rfl ?_
  refine S_get (ci := 9) (q := 5) (v := .int (μ 31 5)) E dX9_readItem_70 fs_X9_30 sh31 rfl ?_
  refine J_iconst (v := nI 3) E dX9_readItem_73 rfl ?_
  refine J_iadd E dX9_readItem_74 ?_
  refine J_icmp_le (tgt := 80) E dX9_readItem_75 (by decide) (fun c => ?_) (fun c => ?_)
  · exact kt c
  · refine J.weak [] rfl ?_
    exact kf c
theorem bX9_readItem_78 {Z : ZT} {X : XT} {μ : Mu} (E : Ent Z X mX9_readItem 0 0) {P : Option Value → Mu → Prop} (hB : BodS Z X P) 
    (k : P (some (.int (nI 0))) μ) :
    JS Z X 78 [] [] μ := by
  refine J_iconst (v := nI 0) E dX9_readItem_78 rfl ?_
  exact S_zret E hB dX9_readItem_79 rfl rfl k
theorem bX9_readItem_80 {Z : ZT} {X : XT} {μ : Mu} {a1 : Int32} {a2 : Int32} {a3 : Int32} (E : Ent Z X mX9_readItem 0 0) {p : Int32 → Mu → Prop} 
    (c : CtrS Z mX9_valueTo [.ref (Z.2.2.1 + 31), .int a1] μ (rI p)) (k : ∀ v μ1, p v μ1 → JS Z X 97 [(0, .ref (Z.2.2.1 + 31)), (1, .int a1), (2, .int a2), (3, .int a3)] [.int v, .int (((μ 31 2) * (nI 5)) + a3), .ref (Z.2.2.1 + 34)] μ1) :
    JS Z X 80 [(0, .ref (Z.2.2.1 + 31)), (1, .int a1), (2, .int a2), (3, .int a3)] [] μ := by
  refine J_aload_n E dX9_readItem_80 rfl ?_
  refine S_get (ci := 9) (q := 4) (v := .ref (Z.2.2.1 + 34)) E dX9_readItem_81 fs_X9_18 sh31 rfl ?_
  refine J_aload_n E dX9_readItem_84 rfl ?_
  refine S_get (ci := 9) (q := 2) (v := .int (μ 31 2)) E dX9_readItem_85 fs_X9_27 sh31 rfl ?_
  refine J_iconst (v := nI 5) E dX9_readItem_88 rfl ?_
  refine J_imul E dX9_readItem_89 ?_
  refine J_iload_n E dX9_readItem_90 rfl ?_
  refine J_iadd E dX9_readItem_91 ?_
  refine J_aload_n E dX9_readItem_92 rfl ?_
  refine J_iload_n E dX9_readItem_93 rfl ?_
  refine S_callV (As := [.int a1]) (rest := [.int (((μ 31 2) * (nI 5)) + a3), .ref (Z.2.2.1 + 34)]) E dX9_readItem_94 c kX9_valueTo ⟨Nat.le_of_ble_eq_true rfl, Nat.le_of_ble_eq_true rfl⟩ rfl (Nat.le_of_ble_eq_true rfl) sh31 rfl rfl w4_1 w4_3 wp_8 (fun r_ μ1 hp_ => ?_)
  obtain ⟨v, rfl, hp_⟩ := hp_
  exact k v μ1 hp_
theorem bX9_readItem_97 {Z : ZT} {X : XT} {μ : Mu} {a1 : Int32} {a2 : Int32} {a3 : Int32} {s0 : Nat} {s1 : Int32} {s2 : Int32} (E : Ent Z X mX9_readItem 0 0) (hs0 : SH s0 = .inr (0, 250)) (s1_ : vp_in s1 250)
    (k : JS Z X 98 [(0, .ref (Z.2.2.1 + 31)), (1, .int a1), (2, .int a2), (3, .int a3)] [] (uR μ s0 (upd (μ s0) (ix s1) s2))) :
    JS Z X 97 [(0, .ref (Z.2.2.1 + 31)), (1, .int a1), (2, .int a2), (3, .int a3)] [.int s2, .int s1, .ref (Z.2.2.1 + s0)] μ := by
  refine S_iast E dX9_readItem_97 hs0 s1_ ?_
  exact k
theorem bX9_readItem_98 {Z : ZT} {X : XT} {μ : Mu} {a1 : Int32} {a2 : Int32} {a3 : Int32} (E : Ent Z X mX9_readItem 0 0)  
    (k : JS Z X 103 [(0, .ref (Z.2.2.1 + 31)), (2, .int a2), (3, .int a3)] [] (uR μ 31 (upd (μ 31) 5 a1))) :
    JS Z X 98 [(0, .ref (Z.2.2.1 + 31)), (1, .int a1), (2, .int a2), (3, .int a3)] [] μ := by
  refine J_aload_n E dX9_readItem_98 rfl ?_
  refine J_iload_n E dX9_readItem_99 rfl ?_
  refine S_puti E dX9_readItem_100 fs_X9_30 fp_X9_5 sh31 rfl ?_
  refine J.weak [0, 2, 3] rfl ?_
  exact k
theorem bX9_readItem_103 {Z : ZT} {X : XT} {μ : Mu} {a2 : Int32} {a3 : Int32} (E : Ent Z X mX9_readItem 0 0)  
    (k : JS Z X 38 [(0, .ref (Z.2.2.1 + 31)), (2, .int a2), (3, .int (a3 + nI 1))] [] μ) :
    JS Z X 103 [(0, .ref (Z.2.2.1 + 31)), (2, .int a2), (3, .int a3)] [] μ := by
  refine J_iinc (v := a3 + nI 1) (lv' := [(0, .ref (Z.2.2.1 + 31)), (2, .int a2), (3, .int (a3 + nI 1))]) E dX9_readItem_103 rfl rfl (Nat.le_of_ble_eq_true rfl) rfl ?_
  refine J_goto (tgt := 38) E dX9_readItem_106 (by decide) ?_
  exact k
theorem bX9_readItem_109 {Z : ZT} {X : XT} {μ : Mu} {a2 : Int32} (E : Ent Z X mX9_readItem 0 0) {p : Mu → Prop} 
    (c : CtrS Z mX9_skipBlanks [.ref (Z.2.2.1 + 31)] μ (rV p)) (k : ∀ μ1, p μ1 → JS Z X 113 [(0, .ref (Z.2.2.1 + 31)), (2, .int a2)] [] μ1) :
    JS Z X 109 [(0, .ref (Z.2.2.1 + 31)), (2, .int a2)] [] μ := by
  refine J_aload_n E dX9_readItem_109 rfl ?_
  refine S_callV (As := []) (rest := []) E dX9_readItem_110 c kX9_skipBlanks ⟨Nat.le_of_ble_eq_true rfl, Nat.le_of_ble_eq_true rfl⟩ rfl (Nat.le_of_ble_eq_true rfl) sh31 rfl rfl w3_161 w3_163 wp_3 (fun r_ μ1 hp_ => ?_)
  obtain ⟨rfl, hp_⟩ := hp_
  exact k μ1 hp_
theorem bX9_readItem_113 {Z : ZT} {X : XT} {μ : Mu} {a2 : Int32} (E : Ent Z X mX9_readItem 0 0)  
    (kt : (μ 31 1) ≤ (μ 31 5) → JS Z X 138 [] [] μ) (kf : ¬ ((μ 31 1) ≤ (μ 31 5)) → JS Z X 124 [(0, .ref (Z.2.2.1 + 31)), (2, .int a2)] [] μ) :
    JS Z X 113 [(0, .ref (Z.2.2.1 + 31)), (2, .int a2)] [] μ := by
  refine J_aload_n E dX9_readItem_113 rfl ?_
  refine S_get (ci := 9) (q := 5) (v := .int (μ 31 5)) E dX9_readItem_114 fs_X9_30 sh31 rfl ?_
  refine J_aload_n E dX9_readItem_117 rfl ?_
  refine S_get (ci := 9) (q := 1) (v := .int (μ 31 1)) E dX9_readItem_118 fs_X9_21 sh31 rfl ?_
  refine J_icmp_ge (tgt := 138) E dX9_readItem_121 (by decide) (fun c => ?_) (fun c => ?_)
  · refine J.weak [] rfl ?_
    exact kt c
  · exact kf c
theorem bX9_readItem_124 {Z : ZT} {X : XT} {μ : Mu} {a2 : Int32} (E : Ent Z X mX9_readItem 0 0)  (s1_ : vp_in (μ 31 5) 300)
    (kt : (μ 32 (ix (μ 31 5))) = (nI 59) → JS Z X 140 [(0, .ref (Z.2.2.1 + 31)), (2, .int a2)] [] μ) (kf : ¬ ((μ 32 (ix (μ 31 5))) = (nI 59)) → JS Z X 138 [] [] μ) :
    JS Z X 124 [(0, .ref (Z.2.2.1 + 31)), (2, .int a2)] [] μ := by
  refine J_aload_n E dX9_readItem_124 rfl ?_
  refine S_get (ci := 9) (q := 0) (v := .ref (Z.2.2.1 + 32)) E dX9_readItem_125 fs_X9_9 sh31 rfl ?_
  refine J_aload_n E dX9_readItem_128 rfl ?_
  refine S_get (ci := 9) (q := 5) (v := .int (μ 31 5)) E dX9_readItem_129 fs_X9_30 sh31 rfl ?_
  refine S_iald E dX9_readItem_132 sh32 s1_ ?_
  refine J_bipush (v := nI 59) E dX9_readItem_133 rfl ?_
  refine J_icmp_eq (tgt := 140) E dX9_readItem_135 (by decide) (fun c => ?_) (fun c => ?_)
  · exact kt c
  · refine J.weak [] rfl ?_
    exact kf c
theorem bX9_readItem_138 {Z : ZT} {X : XT} {μ : Mu} (E : Ent Z X mX9_readItem 0 0) {P : Option Value → Mu → Prop} (hB : BodS Z X P) 
    (k : P (some (.int (nI 0))) μ) :
    JS Z X 138 [] [] μ := by
  refine J_iconst (v := nI 0) E dX9_readItem_138 rfl ?_
  exact S_zret E hB dX9_readItem_139 rfl rfl k
theorem bX9_readItem_140 {Z : ZT} {X : XT} {μ : Mu} {a2 : Int32} (E : Ent Z X mX9_readItem 0 0)  
    (k : JS Z X 150 [(0, .ref (Z.2.2.1 + 31)), (2, .int a2)] [] (uR μ 31 (upd (μ 31) 5 ((μ 31 5) + (nI 1))))) :
    JS Z X 140 [(0, .ref (Z.2.2.1 + 31)), (2, .int a2)] [] μ := by
  refine J_aload_n E dX9_readItem_140 rfl ?_
  refine J_dup E dX9_readItem_141 rfl ?_
  refine S_get (ci := 9) (q := 5) (v := .int (μ 31 5)) E dX9_readItem_142 fs_X9_30 sh31 rfl ?_
  refine J_iconst (v := nI 1) E dX9_readItem_145 rfl ?_
  refine J_iadd E dX9_readItem_146 ?_
  refine S_puti E dX9_readItem_147 fs_X9_30 fp_X9_5 sh31 rfl ?_
  exact k
theorem bX9_readItem_150 {Z : ZT} {X : XT} {μ : Mu} {a2 : Int32} (E : Ent Z X mX9_readItem 0 0)  (s1_ : vp_in (μ 31 2) 50)
    (k : JS Z X 160 [(0, .ref (Z.2.2.1 + 31))] [] (uR μ 33 (upd (μ 33) (ix (μ 31 2)) a2))) :
    JS Z X 150 [(0, .ref (Z.2.2.1 + 31)), (2, .int a2)] [] μ := by
  refine J_aload_n E dX9_readItem_150 rfl ?_
  refine S_get (ci := 9) (q := 3) (v := .ref (Z.2.2.1 + 33)) E dX9_readItem_151 fs_X9_15 sh31 rfl ?_
  refine J_aload_n E dX9_readItem_154 rfl ?_
  refine S_get (ci := 9) (q := 2) (v := .int (μ 31 2)) E dX9_readItem_155 fs_X9_27 sh31 rfl ?_
  refine J_iload_n E dX9_readItem_158 rfl ?_
  refine S_iast E dX9_readItem_159 sh33 s1_ ?_
  refine J.weak [0] rfl ?_
  exact k
theorem bX9_readItem_160 {Z : ZT} {X : XT} {μ : Mu} (E : Ent Z X mX9_readItem 0 0)  
    (k : JS Z X 170 [] [] (uR μ 31 (upd (μ 31) 2 ((μ 31 2) + (nI 1))))) :
    JS Z X 160 [(0, .ref (Z.2.2.1 + 31))] [] μ := by
  refine J_aload_n E dX9_readItem_160 rfl ?_
  refine J_dup E dX9_readItem_161 rfl ?_
  refine S_get (ci := 9) (q := 2) (v := .int (μ 31 2)) E dX9_readItem_162 fs_X9_27 sh31 rfl ?_
  refine J_iconst (v := nI 1) E dX9_readItem_165 rfl ?_
  refine J_iadd E dX9_readItem_166 ?_
  refine S_puti E dX9_readItem_167 fs_X9_27 fp_X9_2 sh31 rfl ?_
  refine J.weak [] rfl ?_
  exact k
theorem bX9_readItem_170 {Z : ZT} {X : XT} {μ : Mu} (E : Ent Z X mX9_readItem 0 0) {P : Option Value → Mu → Prop} (hB : BodS Z X P) 
    (k : P (some (.int (nI 1))) μ) :
    JS Z X 170 [] [] μ := by
  refine J_iconst (v := nI 1) E dX9_readItem_170 rfl ?_
  exact S_zret E hB dX9_readItem_171 rfl rfl k
theorem dX9_skipBlanks_0 : decode cX9_skipBlanks 0 = .ok (.aload_n 0, 1) := by decide +kernel
theorem dX9_skipBlanks_1 : decode cX9_skipBlanks 1 = .ok (.getfield 30, 3) := by decide +kernel
theorem dX9_skipBlanks_4 : decode cX9_skipBlanks 4 = .ok (.aload_n 0, 1) := by decide +kernel
theorem dX9_skipBlanks_5 : decode cX9_skipBlanks 5 = .ok (.getfield 21, 3) := by decide +kernel
theorem dX9_skipBlanks_8 : decode cX9_skipBlanks 8 = .ok (.if_icmp .ge 30, 3) := by decide +kernel
theorem dX9_skipBlanks_11 : decode cX9_skipBlanks 11 = .ok (.aload_n 0, 1) := by decide +kernel
theorem dX9_skipBlanks_12 : decode cX9_skipBlanks 12 = .ok (.getfield 9, 3) := by decide +kernel
theorem dX9_skipBlanks_15 : decode cX9_skipBlanks 15 = .ok (.aload_n 0, 1) := by decide +kernel
theorem dX9_skipBlanks_16 : decode cX9_skipBlanks 16 = .ok (.getfield 30, 3) := by decide +kernel
theorem dX9_skipBlanks_19 : decode cX9_skipBlanks 19 = .ok (.iaload, 1) := by decide +kernel
theorem dX9_skipBlanks_20 : decode cX9_skipBlanks 20 = .ok (.bipush 32, 2) := by decide +kernel
theorem dX9_skipBlanks_22 : decode cX9_skipBlanks 22 = .ok (.if_icmp .ne 16, 3) := by decide +kernel
theorem dX9_skipBlanks_25 : decode cX9_skipBlanks 25 = .ok (.aload_n 0, 1) := by decide +kernel
theorem dX9_skipBlanks_26 : decode cX9_skipBlanks 26 = .ok (.dup, 1) := by decide +kernel
theorem dX9_skipBlanks_27 : decode cX9_skipBlanks 27 = .ok (.getfield 30, 3) := by decide +kernel
theorem dX9_skipBlanks_30 : decode cX9_skipBlanks 30 = .ok (.iconst 1, 1) := by decide +kernel
theorem dX9_skipBlanks_31 : decode cX9_skipBlanks 31 = .ok (.iadd, 1) := by decide +kernel
theorem dX9_skipBlanks_32 : decode cX9_skipBlanks 32 = .ok (.putfield 30, 3) := by decide +kernel
theorem dX9_skipBlanks_35 : decode cX9_skipBlanks 35 = .ok (.goto (-35), 3) := by decide +kernel
theorem dX9_skipBlanks_38 : decode cX9_skipBlanks 38 = .ok (.return_, 1) := by decide +kernel
theorem bX9_skipBlanks_0 {Z : ZT} {X : XT} {μ : Mu} (E : Ent Z X mX9_skipBlanks 0 0)  
    (kt : (μ 31 1) ≤ (μ 31 5) → JS Z X 38 [] [] μ) (kf : ¬ ((μ 31 1) ≤ (μ 31 5)) → JS Z X 11 [(0, .ref (Z.2.2.1 + 31))] [] μ) :
    JS Z X 0 [(0, .ref (Z.2.2.1 + 31))] [] μ := by
  refine J_aload_n E dX9_skipBlanks_0 rfl ?_
  refine S_get (ci := 9) (q := 5) (v := .int (μ 31 5)) E dX9_skipBlanks_1 fs_X9_30 sh31 rfl ?_
  refine J_aload_n E dX9_skipBlanks_4 rfl ?_
  refine S_get (ci := 9) (q := 1) (v := .int (μ 31 1)) E dX9_skipBlanks_5 fs_X9_21 sh31 rfl ?_
  refine J_icmp_ge (tgt := 38) E dX9_skipBlanks_8 (by decide) (fun c => ?_) (fun c => ?_)
  · refine J.weak [] rfl ?_
    exact kt c
  · exact kf c
theorem bX9_skipBlanks_11 {Z : ZT} {X : XT} {μ : Mu} (E : Ent Z X mX9_skipBlanks 0 0)  (s1_ : vp_in (μ 31 5) 300)
    (kt : ¬ (μ 32 (ix (μ 31 5))) = (nI 32) → JS Z X 38 [] [] μ) (kf : (μ 32 (ix (μ 31 5))) = (nI 32) → JS Z X 25 [(0, .ref (Z.2.2.1 + 31))] [] μ) :
    JS Z X 11 [(0, .ref (Z.2.2.1 + 31))] [] μ := by
  refine J_aload_n E dX9_skipBlanks_11 rfl ?_
  refine S_get (ci := 9) (q := 0) (v := .ref (Z.2.2.1 + 32)) E dX9_skipBlanks_12 fs_X9_9 sh31 rfl ?_
  refine J_aload_n E dX9_skipBlanks_15 rfl ?_
  refine S_get (ci := 9) (q := 5) (v := .int (μ 31 5)) E dX9_skipBlanks_16 fs_X9_30 sh31 rfl ?_
  refine S_iald E dX9_skipBlanks_19 sh32 s1_ ?_
  refine J_bipush (v := nI 32) E dX9_skipBlanks_20 rfl ?_
  refine J_icmp_ne (tgt := 38) E dX9_skipBlanks_22 (by decide) (fun c => ?_) (fun c => ?_)
  · refine J.weak [] rfl ?_
    exact kt c
  · exact kf c
theorem bX9_skipBlanks_25 {Z : ZT} {X : XT} {μ : Mu} (E : Ent Z X mX9_skipBlanks 0 0)  
    (k : JS Z X 35 [(0, .ref (Z.2.2.1 + 31))] [] (uR μ 31 (upd (μ 31) 5 ((μ 31 5) + (nI 1))))) :
    JS Z X 25 [(0, .ref (Z.2.2.1 + 31))] [] μ := by
  refine J_aload_n E dX9_skipBlanks_25 rfl ?_
  refine J_dup E dX9_skipBlanks_26 rfl ?_
  refine S_get (ci := 9) (q := 5) (v := .int (μ 31 5)) E dX9_skipBlanks_27 fs_X9_30 sh31 rfl ?_
  refine J_iconst (v := nI 1) E dX9_skipBlanks_30 rfl ?_
  refine J_iadd E dX9_skipBlanks_31 ?_
  refine S_puti E dX9_skipBlanks_32 fs_X9_30 fp_X9_5 sh31 rfl ?_
  exact k
theorem bX9_skipBlanks_35 {Z : ZT} {X : XT} {μ : Mu} (E : Ent Z X mX9_skipBlanks 0 0)  
    (k : JS Z X 0 [(0, .ref (Z.2.2.1 + 31))] [] μ) :
    JS Z X 35 [(0, .ref (Z.2.2.1 + 31))] [] μ := by
  refine J_goto (tgt := 0) E dX9_skipBlanks_35 (by decide) ?_
  exact k
theorem bX9_skipBlanks_38 {Z : ZT} {X : XT} {μ : Mu} (E : Ent Z X mX9_skipBlanks 0 0) {P : Option Value → Mu → Prop} (hB : BodS Z X P) 
    (k : P none μ) :
    JS Z X 38 [] [] μ := by
  exact S_vret E hB dX9_skipBlanks_38 rfl k
theorem dX9_endOfRun_0 : decode cX9_endOfRun 0 = .ok (.aload_n 0, 1) := by decide +kernel
theorem dX9_endOfRun_1 : decode cX9_endOfRun 1 = .ok (.getfield 30, 3) := by decide +kernel
theorem dX9_endOfRun_4 : decode cX9_endOfRun 4 = .ok (.istore_n 3, 1) := by decide +kernel
theorem dX9_endOfRun_5 : decode cX9_endOfRun 5 = .ok (.iload_n 3, 1) := by decide +kernel
theorem dX9_endOfRun_6 : decode cX9_endOfRun 6 = .ok (.aload_n 0, 1) := by decide +kernel
theorem dX9_endOfRun_7 : decode cX9_endOfRun 7 = .ok (.getfield 21, 3) := by decide +kernel
theorem dX9_endOfRun_10 : decode cX9_endOfRun 10 = .ok (.if_icmp .ge 29, 3) := by decide +kernel
theorem dX9_endOfRun_13 : decode cX9_endOfRun 13 = .ok (.aload_n 0, 1) := by decide +kernel
theorem dX9_endOfRun_14 : decode cX9_endOfRun 14 = .ok (.getfield 9, 3) := by decide +kernel
theorem dX9_endOfRun_17 : decode cX9_endOfRun 17 = .ok (.iload_n 3, 1) := by decide +kernel
theorem dX9_endOfRun_18 : decode cX9_endOfRun 18 = .ok (.iaload, 1) := by decide +kernel
theorem dX9_endOfRun_19 : decode cX9_endOfRun 19 = .ok (.iload_n 1, 1) := by decide +kernel
theorem dX9_endOfRun_20 : decode cX9_endOfRun 20 = .ok (.if_icmp .lt 19, 3) := by decide +kernel
theorem dX9_endOfRun_23 : decode cX9_endOfRun 23 = .ok (.aload_n 0, 1) := by decide +kernel
theorem dX9_endOfRun_24 : decode cX9_endOfRun 24 = .ok (.getfield 9, 3) := by decide +kernel
theorem dX9_endOfRun_27 : decode cX9_endOfRun 27 = .ok (.iload_n 3, 1) := by decide +kernel
theorem dX9_endOfRun_28 : decode cX9_endOfRun 28 = .ok (.iaload, 1) := by decide +kernel
theorem dX9_endOfRun_29 : decode cX9_endOfRun 29 = .ok (.iload_n 2, 1) := by decide +kernel
theorem dX9_endOfRun_30 : decode cX9_endOfRun 30 = .ok (.if_icmp .gt 9, 3) := by decide +kernel
theorem dX9_endOfRun_33 : decode cX9_endOfRun 33 = .ok (.iinc 3 1, 3) := by decide +kernel
theorem dX9_endOfRun_36 : decode cX9_endOfRun 36 = .ok (.goto (-31), 3) := by decide +kernel
theorem dX9_endOfRun_39 : decode cX9_endOfRun 39 = .ok (.iload_n 3, 1) := by decide +kernel
theorem dX9_endOfRun_40 : decode cX9_endOfRun 40 = .ok (.ireturn, 1) := by decide +kernel
theorem bX9_endOfRun_0 {Z : ZT} {X : XT} {μ : Mu} {a1 : Int32} {a2 : Int32} (E : Ent Z X mX9_endOfRun 0 0)  
    (k : JS Z X 5 [(0, .ref (Z.2.2.1 + 31)), (1, .int a1), (2, .int a2), (3, .int (μ 31 5))] [] μ) :
    JS Z X 0 [(0, .ref (Z.2.2.1 + 31)), (1, .int a1), (2, .int a2)] [] μ := by
  refine J_aload_n E dX9_endOfRun_0 rfl ?_
  refine S_get (ci := 9) (q := 5) (v := .int (μ 31 5)) E dX9_endOfRun_1 fs_X9_30 sh31 rfl ?_
  refine J_istore_n (lv' := [(0, .ref (Z.2.2.1 + 31)), (1, .int a1), (2, .int a2), (3, .int (μ 31 5))]) E dX9_endOfRun_4 (Nat.le_of_ble_eq_true rfl) rfl ?_
  exact k
theorem bX9_endOfRun_5 {Z : ZT} {X : XT} {μ : Mu} {a1 : Int32} {a2 : Int32} {a3 : Int32} (E : Ent Z X mX9_endOfRun 0 0)  
    (kt : (μ 31 1) ≤ a3 → JS Z X 39 [(3, .int a3)] [] μ) (kf : ¬ ((μ 31 1) ≤ a3) → JS Z X 13 [(0, .ref (Z.2.2.1 + 31)), (1, .int a1), (2, .int a2), (3, .int a3)] [] μ) :
    JS Z X 5 [(0, .ref (Z.2.2.1 + 31)), (1, .int a1), (2, .int a2), (3, .int a3)] [] μ := by
  refine J_iload_n E dX9_endOfRun_5 rfl ?_
  refine J_aload_n E dX9_endOfRun_6 rfl ?_
  refine S_get (ci := 9) (q := 1) (v := .int (μ 31 1)) E dX9_endOfRun_7 fs_X9_21 sh31 rfl ?_
  refine J_icmp_ge (tgt := 39) E dX9_endOfRun_10 (by decide) (fun c => ?_) (fun c => ?_)
  · refine J.weak [3] rfl ?_
    exact kt c
  · exact kf c
theorem bX9_endOfRun_13 {Z : ZT} {X : XT} {μ : Mu} {a1 : Int32} {a2 : Int32} {a3 : Int32} (E : Ent Z X mX9_endOfRun 0 0)  (s1_ : vp_in a3 300)
    (kt : (μ 32 (ix a3)) < a1 → JS Z X 39 [(3, .int a3)] [] μ) (kf : ¬ ((μ 32 (ix a3)) < a1) → JS Z X 23 [(0, .ref (Z.2.2.1 + 31)), (1, .int a1), (2, .int a2), (3, .int a3)] [] μ) :
    JS Z X 13 [(0, .ref (Z.2.2.1 + 31)), (1, .int a1), (2, .int a2), (3, .int a3)] [] μ := by
  refine J_aload_n E dX9_endOfRun_13 rfl ?_
  refine S_get (ci := 9) (q := 0) (v := .ref (Z.2.2.1 + 32)) E dX9_endOfRun_14 fs_X9_9 sh31 rfl ?_
  refine J_iload_n E dX9_endOfRun_17 rfl ?_
  refine S_iald E dX9_endOfRun_18 sh32 s1_ ?_
  refine J_iload_n E dX9_endOfRun_19 rfl ?_
  refine J_icmp_lt (tgt := 39) E dX9_endOfRun_20 (by decide) (fun c => ?_) (fun c => ?_)
  · refine J.weak [3] rfl ?_
    exact kt c
  · exact kf c
theorem bX9_endOfRun_23 {Z : ZT} {X : XT} {μ : Mu} {a1 : Int32} {a2 : Int32} {a3 : Int32} (E : Ent Z X mX9_endOfRun 0 0)  (s1_ : vp_in a3 300)
    (kt : a2 < (μ 32 (ix a3)) → JS Z X 39 [(3, .int a3)] [] μ) (kf : ¬ (a2 < (μ 32 (ix a3))) → JS Z X 33 [(0, .ref (Z.2.2.1 + 31)), (1, .int a1), (2, .int a2), (3, .int a3)] [] μ) :
    JS Z X 23 [(0, .ref (Z.2.2.1 + 31)), (1, .int a1), (2, .int a2), (3, .int a3)] [] μ := by
  refine J_aload_n E dX9_endOfRun_23 rfl ?_
  refine S_get (ci := 9) (q := 0) (v := .ref (Z.2.2.1 + 32)) E dX9_endOfRun_24 fs_X9_9 sh31 rfl ?_
  refine J_iload_n E dX9_endOfRun_27 rfl ?_
  refine S_iald E dX9_endOfRun_28 sh32 s1_ ?_
  refine J_iload_n E dX9_endOfRun_29 rfl ?_
  refine J_icmp_gt (tgt := 39) E dX9_endOfRun_30 (by decide) (fun c => ?_) (fun c => ?_)
  · refine J.weak [3] rfl ?_
    exact kt c
  · exact kf c
theorem bX9_endOfRun_33 {Z : ZT} {X : XT} {μ : Mu} {a1 : Int32} {a2 : Int32} {a3 : Int32} (E : Ent Z X mX9_endOfRun 0 0)  
    (k : JS Z X 5 [(0, .ref (Z.2.2.1 + 31)), (1, .int a1), (2, .int a2), (3, .int (a3 + nI 1))] [] μ) :
    JS Z X 33 [(0, .ref (Z.2.2.1 + 31)), (1, .int a1), (2, .int a2), (3, .int a3)] [] μ := by
  refine J_iinc (v := a3 + nI 1) (lv' := [(0, .ref (Z.2.2.1 + 31)), (1, .int a1), (2, .int a2), (3, .int (a3 + nI 1))]) E dX9_endOfRun_33 rfl rfl (Nat.le_of_ble_eq_true rfl) rfl ?_
  refine J_goto (tgt := 5) E dX9_endOfRun_36 (by decide) ?_
  exact k
theorem bX9_endOfRun_39 {Z : ZT} {X : XT} {μ : Mu} {a3 : Int32} (E : Ent Z X mX9_endOfRun 0 0) {P : Option Value → Mu → Prop} (hB : BodS Z X P) 
    (k : P (some (.int a3)) μ) :
    JS Z X 39 [(3, .int a3)] [] μ := by
  refine J_iload_n E dX9_endOfRun_39 rfl ?_
  exact S_iret E hB dX9_endOfRun_40 rfl k
theorem dX9_valueTo_0 : decode cX9_valueTo 0 = .ok (.iconst 0, 1) := by decide +kernel
theorem dX9_valueTo_1 : decode cX9_valueTo 1 = .ok (.istore_n 2, 1) := by decide +kernel
theorem dX9_valueTo_2 : decode cX9_valueTo 2 = .ok (.aload_n 0, 1) := by decide +kernel
theorem dX9_valueTo_3 : decode cX9_valueTo 3 = .ok (.getfield 30, 3) := by decide +kernel
theorem dX9_valueTo_6 : decode cX9_valueTo 6 = .ok (.istore_n 3, 1) := by decide +kernel
theorem dX9_valueTo_7 : decode cX9_valueTo 7 = .ok (.iload_n 3, 1) := by decide +kernel
theorem dX9_valueTo_8 : decode cX9_valueTo 8 = .ok (.iload_n 1, 1) := by decide +kernel
theorem dX9_valueTo_9 : decode cX9_valueTo 9 = .ok (.if_icmp .ge 24, 3) := by decide +kernel
theorem dX9_valueTo_12 : decode cX9_valueTo 12 = .ok (.iload_n 2, 1) := by decide +kernel
theorem dX9_valueTo_13 : decode cX9_valueTo 13 = .ok (.bipush 10, 2) := by decide +kernel
theorem dX9_valueTo_15 : decode cX9_valueTo 15 = .ok (.imul, 1) := by decide +kernel
theorem dX9_valueTo_16 : decode cX9_valueTo 16 = .ok (.aload_n 0, 1) := by decide +kernel
theorem dX9_valueTo_17 : decode cX9_valueTo 17 = .ok (.getfield 9, 3) := by decide +kernel
theorem dX9_valueTo_20 : decode cX9_valueTo 20 = .ok (.iload_n 3, 1) := by decide +kernel
theorem dX9_valueTo_21 : decode cX9_valueTo 21 = .ok (.iaload, 1) := by decide +kernel
theorem dX9_valueTo_22 : decode cX9_valueTo 22 = .ok (.iadd, 1) := by decide +kernel
theorem dX9_valueTo_23 : decode cX9_valueTo 23 = .ok (.bipush 48, 2) := by decide +kernel
theorem dX9_valueTo_25 : decode cX9_valueTo 25 = .ok (.isub, 1) := by decide +kernel
theorem dX9_valueTo_26 : decode cX9_valueTo 26 = .ok (.istore_n 2, 1) := by decide +kernel
theorem dX9_valueTo_27 : decode cX9_valueTo 27 = .ok (.iinc 3 1, 3) := by decide +kernel
theorem dX9_valueTo_30 : decode cX9_valueTo 30 = .ok (.goto (-23), 3) := by decide +kernel
theorem dX9_valueTo_33 : decode cX9_valueTo 33 = .ok (.iload_n 2, 1) := by decide +kernel
theorem dX9_valueTo_34 : decode cX9_valueTo 34 = .ok (.ireturn, 1) := by decide +kernel
theorem bX9_valueTo_0 {Z : ZT} {X : XT} {μ : Mu} {a1 : Int32} (E : Ent Z X mX9_valueTo 0 0)  
    (k : JS Z X 7 [(0, .ref (Z.2.2.1 + 31)), (1, .int a1), (2, .int (nI 0)), (3, .int (μ 31 5))] [] μ) :
    JS Z X 0 [(0, .ref (Z.2.2.1 + 31)), (1, .int a1)] [] μ := by
  refine J_iconst (v := nI 0) E dX9_valueTo_0 rfl ?_
  refine J_istore_n (lv' := [(0, .ref (Z.2.2.1 + 31)), (1, .int a1), (2, .int (nI 0))]) E dX9_valueTo_1 (Nat.le_of_ble_eq_true rfl) rfl ?_
  refine J_aload_n E dX9_valueTo_2 rfl ?_
  refine S_get (ci := 9) (q := 5) (v := .int (μ 31 5)) E dX9_valueTo_3 fs_X9_30 sh31 rfl ?_
  refine J_istore_n (lv' := [(0, .ref (Z.2.2.1 + 31)), (1, .int a1), (2, .int (nI 0)), (3, .int (μ 31 5))]) E dX9_valueTo_6 (Nat.le_of_ble_eq_true rfl) rfl ?_
  exact k
theorem bX9_valueTo_7 {Z : ZT} {X : XT} {μ : Mu} {a1 : Int32} {a2 : Int32} {a3 : Int32} (E : Ent Z X mX9_valueTo 0 0)  
    (kt : a1 ≤ a3 → JS Z X 33 [(2, .int a2)] [] μ) (kf : ¬ (a1 ≤ a3) → JS Z X 12 [(0, .ref (Z.2.2.1 + 31)), (1, .int a1), (2, .int a2), (3, .int a3)] [] μ) :
    JS Z X 7 [(0, .ref (Z.2.2.1 + 31)), (1, .int a1), (2, .int a2), (3, .int a3)] [] μ := by
  refine J_iload_n E dX9_valueTo_7 rfl ?_
  refine J_iload_n E dX9_valueTo_8 rfl ?_
  refine J_icmp_ge (tgt := 33) E dX9_valueTo_9 (by decide) (fun c => ?_) (fun c => ?_)
  · refine J.weak [2] rfl ?_
    exact kt c
  · exact kf c
theorem bX9_valueTo_12 {Z : ZT} {X : XT} {μ : Mu} {a1 : Int32} {a2 : Int32} {a3 : Int32} (E : Ent Z X mX9_valueTo 0 0)  (s1_ : vp_in a3 300)
    (k : JS Z X 7 [(0, .ref (Z.2.2.1 + 31)), (1, .int a1), (2, .int (((a2 * (nI 10)) + (μ 32 (ix a3))) - (nI 48))), (3, .int (a3 + nI 1))] [] μ) :
    JS Z X 12 [(0, .ref (Z.2.2.1 + 31)), (1, .int a1), (2, .int a2), (3, .int a3)] [] μ := by
  refine J_iload_n E dX9_valueTo_12 rfl ?_
  refine J_bipush (v := nI 10) E dX9_valueTo_13 rfl ?_
  refine J_imul E dX9_valueTo_15 ?_
  refine J_aload_n E dX9_valueTo_16 rfl ?_
  refine S_get (ci := 9) (q := 0) (v := .ref (Z.2.2.1 + 32)) E dX9_valueTo_17 fs_X9_9 sh31 rfl ?_
  refine J_iload_n E dX9_valueTo_20 rfl ?_
  refine S_iald E dX9_valueTo_21 sh32 s1_ ?_
  refine J_iadd E dX9_valueTo_22 ?_
  refine J_bipush (v := nI 48) E dX9_valueTo_23 rfl ?_
  refine J_isub E dX9_valueTo_25 ?_
  refine J_istore_n (lv' := [(0, .ref (Z.2.2.1 + 31)), (1, .int a1), (2, .int (((a2 * (nI 10)) + (μ 32 (ix a3))) - (nI 48))), (3, .int a3)]) E dX9_valueTo_26 (Nat.le_of_ble_eq_true rfl) rfl ?_
  refine J_iinc (v := a3 + nI 1) (lv' := [(0, .ref (Z.2.2.1 + 31)), (1, .int a1), (2, .int (((a2 * (nI 10)) + (μ 32 (ix a3))) - (nI 48))), (3, .int (a3 + nI 1))]) E dX9_valueTo_27 rfl rfl (Nat.le_of_ble_eq_true rfl) rfl ?_
  refine J_goto (tgt := 7) E dX9_valueTo_30 (by decide) ?_
  exact k
theorem bX9_valueTo_33 {Z : ZT} {X : XT} {μ : Mu} {a2 : Int32} (E : Ent Z X mX9_valueTo 0 0) {P : Option Value → Mu → Prop} (hB : BodS Z X P) 
    (k : P (some (.int a2)) μ) :
    JS Z X 33 [(2, .int a2)] [] μ := by
  refine J_iload_n E dX9_valueTo_33 rfl ?_
  exact S_iret E hB dX9_valueTo_34 rfl k
theorem dX9_kindTo_0 : decode cX9_kindTo 0 = .ok (.aload_n 0, 1) := by decide +kernel
theorem dX9_kindTo_1 : decode cX9_kindTo 1 = .ok (.iload_n 1, 1) := by decide +kernel
theorem dX9_kindTo_2 : decode cX9_kindTo 2 = .ok (.ldc 54, 2) := by decide +kernel
theorem dX9_kindTo_4 : decode cX9_kindTo 4 = .ok (.invokevirtual 56, 3) := by decide +kernel
theorem dX9_kindTo_7 : decode cX9_kindTo 7 = .ok (.ifCond .eq 5, 3) := by decide +kernel
theorem dX9_kindTo_10 : decode cX9_kindTo 10 = .ok (.iconst 0, 1) := by decide +kernel
theorem dX9_kindTo_11 : decode cX9_kindTo 11 = .ok (.ireturn, 1) := by decide +kernel
theorem dX9_kindTo_12 : decode cX9_kindTo 12 = .ok (.aload_n 0, 1) := by decide +kernel
theorem dX9_kindTo_13 : decode cX9_kindTo 13 = .ok (.iload_n 1, 1) := by decide +kernel
theorem dX9_kindTo_14 : decode cX9_kindTo 14 = .ok (.ldc 60, 2) := by decide +kernel
theorem dX9_kindTo_16 : decode cX9_kindTo 16 = .ok (.invokevirtual 56, 3) := by decide +kernel
theorem dX9_kindTo_19 : decode cX9_kindTo 19 = .ok (.ifCond .eq 5, 3) := by decide +kernel
theorem dX9_kindTo_22 : decode cX9_kindTo 22 = .ok (.iconst 1, 1) := by decide +kernel
theorem dX9_kindTo_23 : decode cX9_kindTo 23 = .ok (.ireturn, 1) := by decide +kernel
theorem dX9_kindTo_24 : decode cX9_kindTo 24 = .ok (.aload_n 0, 1) := by decide +kernel
theorem dX9_kindTo_25 : decode cX9_kindTo 25 = .ok (.iload_n 1, 1) := by decide +kernel
theorem dX9_kindTo_26 : decode cX9_kindTo 26 = .ok (.ldc 62, 2) := by decide +kernel
theorem dX9_kindTo_28 : decode cX9_kindTo 28 = .ok (.invokevirtual 56, 3) := by decide +kernel
theorem dX9_kindTo_31 : decode cX9_kindTo 31 = .ok (.ifCond .eq 5, 3) := by decide +kernel
theorem dX9_kindTo_34 : decode cX9_kindTo 34 = .ok (.iconst 2, 1) := by decide +kernel
theorem dX9_kindTo_35 : decode cX9_kindTo 35 = .ok (.ireturn, 1) := by decide +kernel
theorem dX9_kindTo_36 : decode cX9_kindTo 36 = .ok (.aload_n 0, 1) := by decide +kernel
theorem dX9_kindTo_37 : decode cX9_kindTo 37 = .ok (.iload_n 1, 1) := by decide +kernel
theorem dX9_kindTo_38 : decode cX9_kindTo 38 = .ok (.ldc 64, 2) := by decide +kernel
theorem dX9_kindTo_40 : decode cX9_kindTo 40 = .ok (.invokevirtual 56, 3) := by decide +kernel
theorem dX9_kindTo_43 : decode cX9_kindTo 43 = .ok (.ifCond .eq 5, 3) := by decide +kernel
theorem dX9_kindTo_46 : decode cX9_kindTo 46 = .ok (.iconst 3, 1) := by decide +kernel
theorem dX9_kindTo_47 : decode cX9_kindTo 47 = .ok (.ireturn, 1) := by decide +kernel
theorem dX9_kindTo_48 : decode cX9_kindTo 48 = .ok (.aload_n 0, 1) := by decide +kernel
theorem dX9_kindTo_49 : decode cX9_kindTo 49 = .ok (.iload_n 1, 1) := by decide +kernel
theorem dX9_kindTo_50 : decode cX9_kindTo 50 = .ok (.ldc 66, 2) := by decide +kernel
theorem dX9_kindTo_52 : decode cX9_kindTo 52 = .ok (.invokevirtual 56, 3) := by decide +kernel
theorem dX9_kindTo_55 : decode cX9_kindTo 55 = .ok (.ifCond .eq 5, 3) := by decide +kernel
theorem dX9_kindTo_58 : decode cX9_kindTo 58 = .ok (.iconst 4, 1) := by decide +kernel
theorem dX9_kindTo_59 : decode cX9_kindTo 59 = .ok (.ireturn, 1) := by decide +kernel
theorem dX9_kindTo_60 : decode cX9_kindTo 60 = .ok (.aload_n 0, 1) := by decide +kernel
theorem dX9_kindTo_61 : decode cX9_kindTo 61 = .ok (.iload_n 1, 1) := by decide +kernel
theorem dX9_kindTo_62 : decode cX9_kindTo 62 = .ok (.ldc 68, 2) := by decide +kernel
theorem dX9_kindTo_64 : decode cX9_kindTo 64 = .ok (.invokevirtual 56, 3) := by decide +kernel
theorem dX9_kindTo_67 : decode cX9_kindTo 67 = .ok (.ifCond .eq 5, 3) := by decide +kernel
theorem dX9_kindTo_70 : decode cX9_kindTo 70 = .ok (.iconst 5, 1) := by decide +kernel
theorem dX9_kindTo_71 : decode cX9_kindTo 71 = .ok (.ireturn, 1) := by decide +kernel
theorem dX9_kindTo_72 : decode cX9_kindTo 72 = .ok (.aload_n 0, 1) := by decide +kernel
theorem dX9_kindTo_73 : decode cX9_kindTo 73 = .ok (.iload_n 1, 1) := by decide +kernel
theorem dX9_kindTo_74 : decode cX9_kindTo 74 = .ok (.ldc 70, 2) := by decide +kernel
theorem dX9_kindTo_76 : decode cX9_kindTo 76 = .ok (.invokevirtual 56, 3) := by decide +kernel
theorem dX9_kindTo_79 : decode cX9_kindTo 79 = .ok (.ifCond .eq 6, 3) := by decide +kernel
theorem dX9_kindTo_82 : decode cX9_kindTo 82 = .ok (.bipush 6, 2) := by decide +kernel
theorem dX9_kindTo_84 : decode cX9_kindTo 84 = .ok (.ireturn, 1) := by decide +kernel
theorem dX9_kindTo_85 : decode cX9_kindTo 85 = .ok (.aload_n 0, 1) := by decide +kernel
theorem dX9_kindTo_86 : decode cX9_kindTo 86 = .ok (.iload_n 1, 1) := by decide +kernel
theorem dX9_kindTo_87 : decode cX9_kindTo 87 = .ok (.ldc 72, 2) := by decide +kernel
theorem dX9_kindTo_89 : decode cX9_kindTo 89 = .ok (.invokevirtual 56, 3) := by decide +kernel
theorem dX9_kindTo_92 : decode cX9_kindTo 92 = .ok (.ifCond .eq 6, 3) := by decide +kernel
theorem dX9_kindTo_95 : decode cX9_kindTo 95 = .ok (.bipush 7, 2) := by decide +kernel
theorem dX9_kindTo_97 : decode cX9_kindTo 97 = .ok (.ireturn, 1) := by decide +kernel
theorem dX9_kindTo_98 : decode cX9_kindTo 98 = .ok (.aload_n 0, 1) := by decide +kernel
theorem dX9_kindTo_99 : decode cX9_kindTo 99 = .ok (.iload_n 1, 1) := by decide +kernel
theorem dX9_kindTo_100 : decode cX9_kindTo 100 = .ok (.ldc 74, 2) := by decide +kernel
theorem dX9_kindTo_102 : decode cX9_kindTo 102 = .ok (.invokevirtual 56, 3) := by decide +kernel
theorem dX9_kindTo_105 : decode cX9_kindTo 105 = .ok (.ifCond .eq 6, 3) := by decide +kernel
theorem dX9_kindTo_108 : decode cX9_kindTo 108 = .ok (.bipush 8, 2) := by decide +kernel
theorem dX9_kindTo_110 : decode cX9_kindTo 110 = .ok (.ireturn, 1) := by decide +kernel
theorem dX9_kindTo_111 : decode cX9_kindTo 111 = .ok (.aload_n 0, 1) := by decide +kernel
theorem dX9_kindTo_112 : decode cX9_kindTo 112 = .ok (.iload_n 1, 1) := by decide +kernel
theorem dX9_kindTo_113 : decode cX9_kindTo 113 = .ok (.ldc 76, 2) := by decide +kernel
theorem dX9_kindTo_115 : decode cX9_kindTo 115 = .ok (.invokevirtual 56, 3) := by decide +kernel
theorem dX9_kindTo_118 : decode cX9_kindTo 118 = .ok (.ifCond .eq 6, 3) := by decide +kernel
theorem dX9_kindTo_121 : decode cX9_kindTo 121 = .ok (.bipush 9, 2) := by decide +kernel
theorem dX9_kindTo_123 : decode cX9_kindTo 123 = .ok (.ireturn, 1) := by decide +kernel
theorem dX9_kindTo_124 : decode cX9_kindTo 124 = .ok (.iconst (-1), 1) := by decide +kernel
theorem dX9_kindTo_125 : decode cX9_kindTo 125 = .ok (.ireturn, 1) := by decide +kernel
theorem dX9_spells_0 : decode cX9_spells 0 = .ok (.iload_n 1, 1) := by decide +kernel
theorem dX9_spells_1 : decode cX9_spells 1 = .ok (.aload_n 0, 1) := by decide +kernel
theorem dX9_spells_2 : decode cX9_spells 2 = .ok (.getfield 30, 3) := by decide +kernel
theorem dX9_spells_5 : decode cX9_spells 5 = .ok (.isub, 1) := by decide +kernel
theorem dX9_spells_6 : decode cX9_spells 6 = .ok (.aload_n 2, 1) := by decide +kernel
theorem dX9_spells_7 : decode cX9_spells 7 = .ok (.invokevirtual 78, 3) := by decide +kernel
theorem dX9_spells_10 : decode cX9_spells 10 = .ok (.if_icmp .eq 5, 3) := by decide +kernel
theorem dX9_spells_13 : decode cX9_spells 13 = .ok (.iconst 0, 1) := by decide +kernel
theorem dX9_spells_14 : decode cX9_spells 14 = .ok (.ireturn, 1) := by decide +kernel
theorem dX9_spells_15 : decode cX9_spells 15 = .ok (.iconst 0, 1) := by decide +kernel
theorem dX9_spells_16 : decode cX9_spells 16 = .ok (.istore_n 3, 1) := by decide +kernel
theorem dX9_spells_17 : decode cX9_spells 17 = .ok (.iload_n 3, 1) := by decide +kernel
theorem dX9_spells_18 : decode cX9_spells 18 = .ok (.aload_n 2, 1) := by decide +kernel
theorem dX9_spells_19 : decode cX9_spells 19 = .ok (.invokevirtual 78, 3) := by decide +kernel
theorem dX9_spells_22 : decode cX9_spells 22 = .ok (.if_icmp .ge 30, 3) := by decide +kernel
theorem dX9_spells_25 : decode cX9_spells 25 = .ok (.aload_n 0, 1) := by decide +kernel
theorem dX9_spells_26 : decode cX9_spells 26 = .ok (.getfield 9, 3) := by decide +kernel
theorem dX9_spells_29 : decode cX9_spells 29 = .ok (.aload_n 0, 1) := by decide +kernel
theorem dX9_spells_30 : decode cX9_spells 30 = .ok (.getfield 30, 3) := by decide +kernel
theorem dX9_spells_33 : decode cX9_spells 33 = .ok (.iload_n 3, 1) := by decide +kernel
theorem dX9_spells_34 : decode cX9_spells 34 = .ok (.iadd, 1) := by decide +kernel
theorem dX9_spells_35 : decode cX9_spells 35 = .ok (.iaload, 1) := by decide +kernel
theorem dX9_spells_36 : decode cX9_spells 36 = .ok (.aload_n 2, 1) := by decide +kernel
theorem dX9_spells_37 : decode cX9_spells 37 = .ok (.iload_n 3, 1) := by decide +kernel
theorem dX9_spells_38 : decode cX9_spells 38 = .ok (.invokevirtual 83, 3) := by decide +kernel
theorem dX9_spells_41 : decode cX9_spells 41 = .ok (.if_icmp .eq 5, 3) := by decide +kernel
theorem dX9_spells_44 : decode cX9_spells 44 = .ok (.iconst 0, 1) := by decide +kernel
theorem dX9_spells_45 : decode cX9_spells 45 = .ok (.ireturn, 1) := by decide +kernel
theorem dX9_spells_46 : decode cX9_spells 46 = .ok (.iinc 3 1, 3) := by decide +kernel
theorem dX9_spells_49 : decode cX9_spells 49 = .ok (.goto (-32), 3) := by decide +kernel
theorem dX9_spells_52 : decode cX9_spells 52 = .ok (.iconst 1, 1) := by decide +kernel
theorem dX9_spells_53 : decode cX9_spells 53 = .ok (.ireturn, 1) := by decide +kernel
theorem dX9_tell_0 : decode cX9_tell 0 = .ok (.iload_n 2, 1) := by decide +kernel
theorem dX9_tell_1 : decode cX9_tell 1 = .ok (.aload_n 0, 1) := by decide +kernel
theorem dX9_tell_2 : decode cX9_tell 2 = .ok (.getfield 27, 3) := by decide +kernel
theorem dX9_tell_5 : decode cX9_tell 5 = .ok (.invokestatic 87, 3) := by decide +kernel
theorem dX9_tell_8 : decode cX9_tell 8 = .ok (.ifCond .ne 6, 3) := by decide +kernel
theorem dX9_tell_11 : decode cX9_tell 11 = .ok (.bipush (-2), 2) := by decide +kernel
theorem dX9_tell_13 : decode cX9_tell 13 = .ok (.ireturn, 1) := by decide +kernel
theorem dX9_tell_14 : decode cX9_tell 14 = .ok (.iload_n 2, 1) := by decide +kernel
theorem dX9_tell_15 : decode cX9_tell 15 = .ok (.iconst 5, 1) := by decide +kernel
theorem dX9_tell_16 : decode cX9_tell 16 = .ok (.imul, 1) := by decide +kernel
theorem dX9_tell_17 : decode cX9_tell 17 = .ok (.istore_n 3, 1) := by decide +kernel
theorem dX9_tell_18 : decode cX9_tell 18 = .ok (.aload_n 0, 1) := by decide +kernel
theorem dX9_tell_19 : decode cX9_tell 19 = .ok (.getfield 18, 3) := by decide +kernel
theorem dX9_tell_22 : decode cX9_tell 22 = .ok (.iload_n 3, 1) := by decide +kernel
theorem dX9_tell_23 : decode cX9_tell 23 = .ok (.iaload, 1) := by decide +kernel
theorem dX9_tell_24 : decode cX9_tell 24 = .ok (.istore 4, 2) := by decide +kernel
theorem dX9_tell_26 : decode cX9_tell 26 = .ok (.aload_n 0, 1) := by decide +kernel
theorem dX9_tell_27 : decode cX9_tell 27 = .ok (.getfield 18, 3) := by decide +kernel
theorem dX9_tell_30 : decode cX9_tell 30 = .ok (.iload_n 3, 1) := by decide +kernel
theorem dX9_tell_31 : decode cX9_tell 31 = .ok (.iconst 1, 1) := by decide +kernel
theorem dX9_tell_32 : decode cX9_tell 32 = .ok (.iadd, 1) := by decide +kernel
theorem dX9_tell_33 : decode cX9_tell 33 = .ok (.iaload, 1) := by decide +kernel
theorem dX9_tell_34 : decode cX9_tell 34 = .ok (.istore 5, 2) := by decide +kernel
theorem dX9_tell_36 : decode cX9_tell 36 = .ok (.aload_n 0, 1) := by decide +kernel
theorem dX9_tell_37 : decode cX9_tell 37 = .ok (.getfield 18, 3) := by decide +kernel
theorem dX9_tell_40 : decode cX9_tell 40 = .ok (.iload_n 3, 1) := by decide +kernel
theorem dX9_tell_41 : decode cX9_tell 41 = .ok (.iconst 2, 1) := by decide +kernel
theorem dX9_tell_42 : decode cX9_tell 42 = .ok (.iadd, 1) := by decide +kernel
theorem dX9_tell_43 : decode cX9_tell 43 = .ok (.iaload, 1) := by decide +kernel
theorem dX9_tell_44 : decode cX9_tell 44 = .ok (.istore 6, 2) := by decide +kernel
theorem dX9_tell_46 : decode cX9_tell 46 = .ok (.aload_n 0, 1) := by decide +kernel
theorem dX9_tell_47 : decode cX9_tell 47 = .ok (.getfield 15, 3) := by decide +kernel
theorem dX9_tell_50 : decode cX9_tell 50 = .ok (.iload_n 2, 1) := by decide +kernel
theorem dX9_tell_51 : decode cX9_tell 51 = .ok (.iaload, 1) := by decide +kernel
theorem dX9_tell_52 : decode cX9_tell 52 = .ok (.tableswitch 160 0 9 #[56, 61, 72, 81, 108, 117, 126, 135, 142, 151], 56) := by decide +kernel
theorem dX9_tell_108 : decode cX9_tell 108 = .ok (.aload_n 1, 1) := by decide +kernel
theorem dX9_tell_109 : decode cX9_tell 109 = .ok (.invokevirtual 91, 3) := by decide +kernel
theorem dX9_tell_112 : decode cX9_tell 112 = .ok (.ireturn, 1) := by decide +kernel
theorem dX9_tell_113 : decode cX9_tell 113 = .ok (.aload_n 1, 1) := by decide +kernel
theorem dX9_tell_114 : decode cX9_tell 114 = .ok (.iload 4, 2) := by decide +kernel
theorem dX9_tell_116 : decode cX9_tell 116 = .ok (.iload 5, 2) := by decide +kernel
theorem dX9_tell_118 : decode cX9_tell 118 = .ok (.iload 6, 2) := by decide +kernel
theorem dX9_tell_120 : decode cX9_tell 120 = .ok (.invokevirtual 96, 3) := by decide +kernel
theorem dX9_tell_123 : decode cX9_tell 123 = .ok (.ireturn, 1) := by decide +kernel
theorem dX9_tell_124 : decode cX9_tell 124 = .ok (.aload_n 1, 1) := by decide +kernel
theorem dX9_tell_125 : decode cX9_tell 125 = .ok (.iload 4, 2) := by decide +kernel
theorem dX9_tell_127 : decode cX9_tell 127 = .ok (.iload 5, 2) := by decide +kernel
theorem dX9_tell_129 : decode cX9_tell 129 = .ok (.invokevirtual 100, 3) := by decide +kernel
theorem dX9_tell_132 : decode cX9_tell 132 = .ok (.ireturn, 1) := by decide +kernel
theorem dX9_tell_133 : decode cX9_tell 133 = .ok (.aload_n 1, 1) := by decide +kernel
theorem dX9_tell_134 : decode cX9_tell 134 = .ok (.iload 4, 2) := by decide +kernel
theorem dX9_tell_136 : decode cX9_tell 136 = .ok (.iload 5, 2) := by decide +kernel
theorem dX9_tell_138 : decode cX9_tell 138 = .ok (.iload 6, 2) := by decide +kernel
theorem dX9_tell_140 : decode cX9_tell 140 = .ok (.aload_n 0, 1) := by decide +kernel
theorem dX9_tell_141 : decode cX9_tell 141 = .ok (.getfield 18, 3) := by decide +kernel
theorem dX9_tell_144 : decode cX9_tell 144 = .ok (.iload_n 3, 1) := by decide +kernel
theorem dX9_tell_145 : decode cX9_tell 145 = .ok (.iconst 3, 1) := by decide +kernel
theorem dX9_tell_146 : decode cX9_tell 146 = .ok (.iadd, 1) := by decide +kernel
theorem dX9_tell_147 : decode cX9_tell 147 = .ok (.iaload, 1) := by decide +kernel
theorem dX9_tell_148 : decode cX9_tell 148 = .ok (.aload_n 0, 1) := by decide +kernel
theorem dX9_tell_149 : decode cX9_tell 149 = .ok (.getfield 18, 3) := by decide +kernel
theorem dX9_tell_152 : decode cX9_tell 152 = .ok (.iload_n 3, 1) := by decide +kernel
theorem dX9_tell_153 : decode cX9_tell 153 = .ok (.iconst 4, 1) := by decide +kernel
theorem dX9_tell_154 : decode cX9_tell 154 = .ok (.iadd, 1) := by decide +kernel
theorem dX9_tell_155 : decode cX9_tell 155 = .ok (.iaload, 1) := by decide +kernel
theorem dX9_tell_156 : decode cX9_tell 156 = .ok (.invokevirtual 103, 3) := by decide +kernel
theorem dX9_tell_159 : decode cX9_tell 159 = .ok (.ireturn, 1) := by decide +kernel
theorem dX9_tell_160 : decode cX9_tell 160 = .ok (.aload_n 1, 1) := by decide +kernel
theorem dX9_tell_161 : decode cX9_tell 161 = .ok (.iload 4, 2) := by decide +kernel
theorem dX9_tell_163 : decode cX9_tell 163 = .ok (.iload 5, 2) := by decide +kernel
theorem dX9_tell_165 : decode cX9_tell 165 = .ok (.invokevirtual 107, 3) := by decide +kernel
theorem dX9_tell_168 : decode cX9_tell 168 = .ok (.ireturn, 1) := by decide +kernel
theorem dX9_tell_169 : decode cX9_tell 169 = .ok (.aload_n 1, 1) := by decide +kernel
theorem dX9_tell_170 : decode cX9_tell 170 = .ok (.iload 4, 2) := by decide +kernel
theorem dX9_tell_172 : decode cX9_tell 172 = .ok (.iload 5, 2) := by decide +kernel
theorem dX9_tell_174 : decode cX9_tell 174 = .ok (.invokevirtual 110, 3) := by decide +kernel
theorem dX9_tell_177 : decode cX9_tell 177 = .ok (.ireturn, 1) := by decide +kernel
theorem dX9_tell_178 : decode cX9_tell 178 = .ok (.aload_n 1, 1) := by decide +kernel
theorem dX9_tell_179 : decode cX9_tell 179 = .ok (.iload 4, 2) := by decide +kernel
theorem dX9_tell_181 : decode cX9_tell 181 = .ok (.iload 5, 2) := by decide +kernel
theorem dX9_tell_183 : decode cX9_tell 183 = .ok (.invokevirtual 113, 3) := by decide +kernel
theorem dX9_tell_186 : decode cX9_tell 186 = .ok (.ireturn, 1) := by decide +kernel
theorem dX9_tell_187 : decode cX9_tell 187 = .ok (.aload_n 1, 1) := by decide +kernel
theorem dX9_tell_188 : decode cX9_tell 188 = .ok (.iload 4, 2) := by decide +kernel
theorem dX9_tell_190 : decode cX9_tell 190 = .ok (.invokevirtual 116, 3) := by decide +kernel
theorem dX9_tell_193 : decode cX9_tell 193 = .ok (.ireturn, 1) := by decide +kernel
theorem dX9_tell_194 : decode cX9_tell 194 = .ok (.aload_n 1, 1) := by decide +kernel
theorem dX9_tell_195 : decode cX9_tell 195 = .ok (.iload 4, 2) := by decide +kernel
theorem dX9_tell_197 : decode cX9_tell 197 = .ok (.iload 5, 2) := by decide +kernel
theorem dX9_tell_199 : decode cX9_tell 199 = .ok (.invokevirtual 119, 3) := by decide +kernel
theorem dX9_tell_202 : decode cX9_tell 202 = .ok (.ireturn, 1) := by decide +kernel
theorem dX9_tell_203 : decode cX9_tell 203 = .ok (.aload_n 1, 1) := by decide +kernel
theorem dX9_tell_204 : decode cX9_tell 204 = .ok (.iload 4, 2) := by decide +kernel
theorem dX9_tell_206 : decode cX9_tell 206 = .ok (.iload 5, 2) := by decide +kernel
theorem dX9_tell_208 : decode cX9_tell 208 = .ok (.invokevirtual 122, 3) := by decide +kernel
theorem dX9_tell_211 : decode cX9_tell 211 = .ok (.ireturn, 1) := by decide +kernel
theorem dX9_tell_212 : decode cX9_tell 212 = .ok (.bipush (-2), 2) := by decide +kernel
theorem dX9_tell_214 : decode cX9_tell 214 = .ok (.ireturn, 1) := by decide +kernel
theorem bX9_tell_0 {Z : ZT} {X : XT} {μ : Mu} {a1 : Nat} {a2 : Int32} (E : Ent Z X mX9_tell 0 0) (ha1 : SH a1 = .inl 3) {p : Int32 → Mu → Prop} 
    (c : CtrS Z mX11_within [.int a2, .int (μ 31 2)] μ (rI p)) (k : ∀ v μ1, p v μ1 → JS Z X 8 [(0, .ref (Z.2.2.1 + 31)), (1, .ref (Z.2.2.1 + a1)), (2, .int a2)] [.int v] μ1) :
    JS Z X 0 [(0, .ref (Z.2.2.1 + 31)), (1, .ref (Z.2.2.1 + a1)), (2, .int a2)] [] μ := by
  refine J_iload_n E dX9_tell_0 rfl ?_
  refine J_aload_n E dX9_tell_1 rfl ?_
  refine S_get (ci := 9) (q := 2) (v := .int (μ 31 2)) E dX9_tell_2 fs_X9_27 sh31 rfl ?_
  refine S_callSN (As := [.int a2, .int (μ 31 2)]) (rest := []) E dX9_tell_5 c kX11_within ⟨Nat.le_of_ble_eq_true rfl, Nat.le_of_ble_eq_true rfl⟩ rfl (Nat.le_of_ble_eq_true rfl) w4_16 w3_46 (fun r_ μ1 hp_ => ?_)
  obtain ⟨v, rfl, hp_⟩ := hp_
  exact k v μ1 hp_
theorem bX9_tell_8 {Z : ZT} {X : XT} {μ : Mu} {a1 : Nat} {a2 : Int32} {s0 : Int32} (E : Ent Z X mX9_tell 0 0) (ha1 : SH a1 = .inl 3) 
    (kt : ¬ s0 = 0 → JS Z X 14 [(0, .ref (Z.2.2.1 + 31)), (1, .ref (Z.2.2.1 + a1)), (2, .int a2)] [] μ) (kf : s0 = 0 → JS Z X 11 [] [] μ) :
    JS Z X 8 [(0, .ref (Z.2.2.1 + 31)), (1, .ref (Z.2.2.1 + a1)), (2, .int a2)] [.int s0] μ := by
  refine J_if_ne (tgt := 14) E dX9_tell_8 (by decide) (fun c => ?_) (fun c => ?_)
  · exact kt c
  · refine J.weak [] rfl ?_
    exact kf c
theorem bX9_tell_11 {Z : ZT} {X : XT} {μ : Mu} (E : Ent Z X mX9_tell 0 0) {P : Option Value → Mu → Prop} (hB : BodS Z X P) 
    (k : P (some (.int (-2))) μ) :
    JS Z X 11 [] [] μ := by
  refine J_bipush (v := -2) E dX9_tell_11 rfl ?_
  exact S_iret E hB dX9_tell_13 rfl k
theorem bX9_tell_14 {Z : ZT} {X : XT} {μ : Mu} {a1 : Nat} {a2 : Int32} (E : Ent Z X mX9_tell 0 0) (ha1 : SH a1 = .inl 3) (s1_ : vp_in (a2 * (nI 5)) 250) (s2_ : vp_in ((a2 * (nI 5)) + (nI 1)) 250) (s3_ : vp_in ((a2 * (nI 5)) + (nI 2)) 250) (s4_ : vp_in a2 50)
    (kd : ((μ 33 (ix a2)).toInt < 0 ∨ 9 < (μ 33 (ix a2)).toInt) → JS Z X 212 [] [] μ) (k0 : (μ 33 (ix a2)) = nI 0 → JS Z X 108 [(1, .ref (Z.2.2.1 + a1))] [] μ) (k1 : (μ 33 (ix a2)) = nI 1 → JS Z X 113 [(1, .ref (Z.2.2.1 + a1)), (4, .int (μ 34 (ix (a2 * (nI 5))))), (5, .int (μ 34 (ix ((a2 * (nI 5)) + (nI 1))))), (6, .int (μ 34 (ix ((a2 * (nI 5)) + (nI 2)))))] [] μ) (k2 : (μ 33 (ix a2)) = nI 2 → JS Z X 124 [(1, .ref (Z.2.2.1 + a1)), (4, .int (μ 34 (ix (a2 * (nI 5))))), (5, .int (μ 34 (ix ((a2 * (nI 5)) + (nI 1)))))] [] μ) (k3 : (μ 33 (ix a2)) = nI 3 → JS Z X 133 [(0, .ref (Z.2.2.1 + 31)), (1, .ref (Z.2.2.1 + a1)), (3, .int (a2 * (nI 5))), (4, .int (μ 34 (ix (a2 * (nI 5))))), (5, .int (μ 34 (ix ((a2 * (nI 5)) + (nI 1))))), (6, .int (μ 34 (ix ((a2 * (nI 5)) + (nI 2)))))] [] μ) (k4 : (μ 33 (ix a2)) = nI 4 → JS Z X 160 [(1, .ref (Z.2.2.1 + a1)), (4, .int (μ 34 (ix (a2 * (nI 5))))), (5, .int (μ 34 (ix ((a2 * (nI 5)) + (nI 1)))))] [] μ) (k5 : (μ 33 (ix a2)) = nI 5 → JS Z X 169 [(1, .ref (Z.2.2.1 + a1)), (4, .int (μ 34 (ix (a2 * (nI 5))))), (5, .int (μ 34 (ix ((a2 * (nI 5)) + (nI 1)))))] [] μ) (k6 : (μ 33 (ix a2)) = nI 6 → JS Z X 178 [(1, .ref (Z.2.2.1 + a1)), (4, .int (μ 34 (ix (a2 * (nI 5))))), (5, .int (μ 34 (ix ((a2 * (nI 5)) + (nI 1)))))] [] μ) (k7 : (μ 33 (ix a2)) = nI 7 → JS Z X 187 [(1, .ref (Z.2.2.1 + a1)), (4, .int (μ 34 (ix (a2 * (nI 5)))))] [] μ) (k8 : (μ 33 (ix a2)) = nI 8 → JS Z X 194 [(1, .ref (Z.2.2.1 + a1)), (4, .int (μ 34 (ix (a2 * (nI 5))))), (5, .int (μ 34 (ix ((a2 * (nI 5)) + (nI 1)))))] [] μ) (k9 : (μ 33 (ix a2)) = nI 9 → JS Z X 203 [(1, .ref (Z.2.2.1 + a1)), (4, .int (μ 34 (ix (a2 * (nI 5))))), (5, .int (μ 34 (ix ((a2 * (nI 5)) + (nI 1)))))] [] μ) :
    JS Z X 14 [(0, .ref (Z.2.2.1 + 31)), (1, .ref (Z.2.2.1 + a1)), (2, .int a2)] [] μ := by
  refine J_iload_n E dX9_tell_14 rfl ?_
  refine J_iconst (v := nI 5) E dX9_tell_15 rfl ?_
  refine J_imul E dX9_tell_16 ?_
  refine J_istore_n (lv' := [(0, .ref (Z.2.2.1 + 31)), (1, .ref (Z.2.2.1 + a1)), (2, .int a2), (3, .int (a2 * (nI 5)))]) E dX9_tell_17 (Nat.le_of_ble_eq_true rfl) rfl ?_
  refine J_aload_n E dX9_tell_18 rfl ?_
  refine S_get (ci := 9) (q := 4) (v := .ref (Z.2.2.1 + 34)) E dX9_tell_19 fs_X9_18 sh31 rfl ?_
  refine J_iload_n E dX9_tell_22 rfl ?_
  refine S_iald E dX9_tell_23 sh34 s1_ ?_
  refine J_istore (lv' := [(0, .ref (Z.2.2.1 + 31)), (1, .ref (Z.2.2.1 + a1)), (2, .int a2), (3, .int (a2 * (nI 5))), (4, .int (μ 34 (ix (a2 * (nI 5)))))]) E dX9_tell_24 (Nat.le_of_ble_eq_true rfl) rfl ?_
  refine J_aload_n E dX9_tell_26 rfl ?_
  refine S_get (ci := 9) (q := 4) (v := .ref (Z.2.2.1 + 34)) E dX9_tell_27 fs_X9_18 sh31 rfl ?_
  refine J_iload_n E dX9_tell_30 rfl ?_
  refine J_iconst (v := nI 1) E dX9_tell_31 rfl ?_
  refine J_iadd E dX9_tell_32 ?_
  refine S_iald E dX9_tell_33 sh34 s2_ ?_
  refine J_istore (lv' := [(0, .ref (Z.2.2.1 + 31)), (1, .ref (Z.2.2.1 + a1)), (2, .int a2), (3, .int (a2 * (nI 5))), (4, .int (μ 34 (ix (a2 * (nI 5))))), (5, .int (μ 34 (ix ((a2 * (nI 5)) + (nI 1)))))]) E dX9_tell_34 (Nat.le_of_ble_eq_true rfl) rfl ?_
  refine J_aload_n E dX9_tell_36 rfl ?_
  refine S_get (ci := 9) (q := 4) (v := .ref (Z.2.2.1 + 34)) E dX9_tell_37 fs_X9_18 sh31 rfl ?_
  refine J_iload_n E dX9_tell_40 rfl ?_
  refine J_iconst (v := nI 2) E dX9_tell_41 rfl ?_
  refine J_iadd E dX9_tell_42 ?_
  refine S_iald E dX9_tell_43 sh34 s3_ ?_
  refine J_istore (lv' := [(0, .ref (Z.2.2.1 + 31)), (1, .ref (Z.2.2.1 + a1)), (2, .int a2), (3, .int (a2 * (nI 5))), (4, .int (μ 34 (ix (a2 * (nI 5))))), (5, .int (μ 34 (ix ((a2 * (nI 5)) + (nI 1))))), (6, .int (μ 34 (ix ((a2 * (nI 5)) + (nI 2)))))]) E dX9_tell_44 (Nat.le_of_ble_eq_true rfl) rfl ?_
  refine J_aload_n E dX9_tell_46 rfl ?_
  refine S_get (ci := 9) (q := 3) (v := .ref (Z.2.2.1 + 33)) E dX9_tell_47 fs_X9_15 sh31 rfl ?_
  refine J_iload_n E dX9_tell_50 rfl ?_
  refine S_iald E dX9_tell_51 sh33 s4_ ?_
  rcases sw_le (x := (μ 33 (ix a2))) (lo := 0) (hi := 9) with g | ⟨j, hj, hj2, g⟩
  · refine J_tableOut (tgt := 212) E dX9_tell_52 g (by decide) ?_
    refine J.weak [] rfl ?_
    exact kd g
  · rcases (show j = 0 ∨ j = 1 ∨ j = 2 ∨ j = 3 ∨ j = 4 ∨ j = 5 ∨ j = 6 ∨ j = 7 ∨ j = 8 ∨ j = 9 by omega) with e | e | e | e | e | e | e | e | e | e
    · have g : (μ 33 (ix a2)) = nI 0 := by rw [g, e]
      refine J_tableIn (tgt := 108) E dX9_tell_52 (by rw [g]; decide) (by rw [g]; decide) (by rw [g]; rfl) (by decide) ?_
      refine J.weak [1] rfl ?_
      exact k0 g
    · have g : (μ 33 (ix a2)) = nI 1 := by rw [g, e]
      refine J_tableIn (tgt := 113) E dX9_tell_52 (by rw [g]; decide) (by rw [g]; decide) (by rw [g]; rfl) (by decide) ?_
      refine J.weak [1, 4, 5, 6] rfl ?_
      exact k1 g
    · have g : (μ 33 (ix a2)) = nI 2 := by rw [g, e]
      refine J_tableIn (tgt := 124) E dX9_tell_52 (by rw [g]; decide) (by rw [g]; decide) (by rw [g]; rfl) (by decide) ?_
      refine J.weak [1, 4, 5] rfl ?_
      exact k2 g
    · have g : (μ 33 (ix a2)) = nI 3 := by rw [g, e]
      refine J_tableIn (tgt := 133) E dX9_tell_52 (by rw [g]; decide) (by rw [g]; decide) (by rw [g]; rfl) (by decide) ?_
      refine J.weak [0, 1, 3, 4, 5, 6] rfl ?_
      exact k3 g
    · have g : (μ 33 (ix a2)) = nI 4 := by rw [g, e]
      refine J_tableIn (tgt := 160) E dX9_tell_52 (by rw [g]; decide) (by rw [g]; decide) (by rw [g]; rfl) (by decide) ?_
      refine J.weak [1, 4, 5] rfl ?_
      exact k4 g
    · have g : (μ 33 (ix a2)) = nI 5 := by rw [g, e]
      refine J_tableIn (tgt := 169) E dX9_tell_52 (by rw [g]; decide) (by rw [g]; decide) (by rw [g]; rfl) (by decide) ?_
      refine J.weak [1, 4, 5] rfl ?_
      exact k5 g
    · have g : (μ 33 (ix a2)) = nI 6 := by rw [g, e]
      refine J_tableIn (tgt := 178) E dX9_tell_52 (by rw [g]; decide) (by rw [g]; decide) (by rw [g]; rfl) (by decide) ?_
      refine J.weak [1, 4, 5] rfl ?_
      exact k6 g
    · have g : (μ 33 (ix a2)) = nI 7 := by rw [g, e]
      refine J_tableIn (tgt := 187) E dX9_tell_52 (by rw [g]; decide) (by rw [g]; decide) (by rw [g]; rfl) (by decide) ?_
      refine J.weak [1, 4] rfl ?_
      exact k7 g
    · have g : (μ 33 (ix a2)) = nI 8 := by rw [g, e]
      refine J_tableIn (tgt := 194) E dX9_tell_52 (by rw [g]; decide) (by rw [g]; decide) (by rw [g]; rfl) (by decide) ?_
      refine J.weak [1, 4, 5] rfl ?_
      exact k8 g
    · have g : (μ 33 (ix a2)) = nI 9 := by rw [g, e]
      refine J_tableIn (tgt := 203) E dX9_tell_52 (by rw [g]; decide) (by rw [g]; decide) (by rw [g]; rfl) (by decide) ?_
      refine J.weak [1, 4, 5] rfl ?_
      exact k9 g
theorem bX9_tell_108 {Z : ZT} {X : XT} {μ : Mu} {a1 : Nat} (E : Ent Z X mX9_tell 0 0) (ha1 : SH a1 = .inl 3) {p : Int32 → Mu → Prop} 
    (c : CtrS Z mX3_addPlace [.ref (Z.2.2.1 + a1)] μ (rI p)) (k : ∀ v μ1, p v μ1 → JS Z X 112 [] [.int v] μ1) :
    JS Z X 108 [(1, .ref (Z.2.2.1 + a1))] [] μ := by
  refine J_aload_n E dX9_tell_108 rfl ?_
  refine S_callV (As := []) (rest := []) E dX9_tell_109 c kX3_addPlace ⟨Nat.le_of_ble_eq_true rfl, Nat.le_of_ble_eq_true rfl⟩ rfl (Nat.le_of_ble_eq_true rfl) ha1 rfl rfl w4_17 w3_22 w3_23 (fun r_ μ1 hp_ => ?_)
  obtain ⟨v, rfl, hp_⟩ := hp_
  refine J.weak [] rfl ?_
  exact k v μ1 hp_
theorem bX9_tell_112 {Z : ZT} {X : XT} {μ : Mu} {s0 : Int32} (E : Ent Z X mX9_tell 0 0) {P : Option Value → Mu → Prop} (hB : BodS Z X P) 
    (k : P (some (.int s0)) μ) :
    JS Z X 112 [] [.int s0] μ := by
  exact S_iret E hB dX9_tell_112 rfl k
theorem bX9_tell_113 {Z : ZT} {X : XT} {μ : Mu} {a1 : Nat} {a4 : Int32} {a5 : Int32} {a6 : Int32} (E : Ent Z X mX9_tell 0 0) (ha1 : SH a1 = .inl 3) {p : Int32 → Mu → Prop} 
    (c : CtrS Z mX3_setWay [.ref (Z.2.2.1 + a1), .int a4, .int a5, .int a6] μ (rI p)) (k : ∀ v μ1, p v μ1 → JS Z X 123 [] [.int v] μ1) :
    JS Z X 113 [(1, .ref (Z.2.2.1 + a1)), (4, .int a4), (5, .int a5), (6, .int a6)] [] μ := by
  refine J_aload_n E dX9_tell_113 rfl ?_
  refine J_iload E dX9_tell_114 rfl ?_
  refine J_iload E dX9_tell_116 rfl ?_
  refine J_iload E dX9_tell_118 rfl ?_
  refine S_callV (As := [.int a4, .int a5, .int a6]) (rest := []) E dX9_tell_120 c kX3_setWay ⟨Nat.le_of_ble_eq_true rfl, Nat.le_of_ble_eq_true rfl⟩ rfl (Nat.le_of_ble_eq_true rfl) ha1 rfl rfl w4_18 w3_34 w3_35 (fun r_ μ1 hp_ => ?_)
  obtain ⟨v, rfl, hp_⟩ := hp_
  refine J.weak [] rfl ?_
  exact k v μ1 hp_
theorem bX9_tell_123 {Z : ZT} {X : XT} {μ : Mu} {s0 : Int32} (E : Ent Z X mX9_tell 0 0) {P : Option Value → Mu → Prop} (hB : BodS Z X P) 
    (k : P (some (.int s0)) μ) :
    JS Z X 123 [] [.int s0] μ := by
  exact S_iret E hB dX9_tell_123 rfl k
theorem bX9_tell_124 {Z : ZT} {X : XT} {μ : Mu} {a1 : Nat} {a4 : Int32} {a5 : Int32} (E : Ent Z X mX9_tell 0 0) (ha1 : SH a1 = .inl 3) {p : Int32 → Mu → Prop} 
    (c : CtrS Z mX3_addSight [.ref (Z.2.2.1 + a1), .int a4, .int a5] μ (rI p)) (k : ∀ v μ1, p v μ1 → JS Z X 132 [] [.int v] μ1) :
    JS Z X 124 [(1, .ref (Z.2.2.1 + a1)), (4, .int a4), (5, .int a5)] [] μ := by
  refine J_aload_n E dX9_tell_124 rfl ?_
  refine J_iload E dX9_tell_125 rfl ?_
  refine J_iload E dX9_tell_127 rfl ?_
  refine S_callV (As := [.int a4, .int a5]) (rest := []) E dX9_tell_129 c kX3_addSight ⟨Nat.le_of_ble_eq_true rfl, Nat.le_of_ble_eq_true rfl⟩ rfl (Nat.le_of_ble_eq_true rfl) ha1 rfl rfl w4_19 w3_53 w3_54 (fun r_ μ1 hp_ => ?_)
  obtain ⟨v, rfl, hp_⟩ := hp_
  refine J.weak [] rfl ?_
  exact k v μ1 hp_
theorem bX9_tell_132 {Z : ZT} {X : XT} {μ : Mu} {s0 : Int32} (E : Ent Z X mX9_tell 0 0) {P : Option Value → Mu → Prop} (hB : BodS Z X P) 
    (k : P (some (.int s0)) μ) :
    JS Z X 132 [] [.int s0] μ := by
  exact S_iret E hB dX9_tell_132 rfl k
theorem bX9_tell_133 {Z : ZT} {X : XT} {μ : Mu} {a1 : Nat} {a3 : Int32} {a4 : Int32} {a5 : Int32} {a6 : Int32} (E : Ent Z X mX9_tell 0 0) (ha1 : SH a1 = .inl 3) {p : Int32 → Mu → Prop} (s1_ : vp_in (a3 + (nI 3)) 250) (s2_ : vp_in (a3 + (nI 4)) 250)
    (c : CtrS Z mX3_addChild [.ref (Z.2.2.1 + a1), .int a4, .int a5, .int a6, .int (μ 34 (ix (a3 + (nI 3)))), .int (μ 34 (ix (a3 + (nI 4))))] μ (rI p)) (k : ∀ v μ1, p v μ1 → JS Z X 159 [] [.int v] μ1) :
    JS Z X 133 [(0, .ref (Z.2.2.1 + 31)), (1, .ref (Z.2.2.1 + a1)), (3, .int a3), (4, .int a4), (5, .int a5), (6, .int a6)] [] μ := by
  refine J_aload_n E dX9_tell_133 rfl ?_
  refine J_iload E dX9_tell_134 rfl ?_
  refine J_iload E dX9_tell_136 rfl ?_
  refine J_iload E dX9_tell_138 rfl ?_
  refine J_aload_n E dX9_tell_140 rfl ?_
  refine S_get (ci := 9) (q := 4) (v := .ref (Z.2.2.1 + 34)) E dX9_tell_141 fs_X9_18 sh31 rfl ?_
  refine J_iload_n E dX9_tell_144 rfl ?_
  refine J_iconst (v := nI 3) E dX9_tell_145 rfl ?_
  refine J_iadd E dX9_tell_146 ?_
  refine S_iald E dX9_tell_147 sh34 s1_ ?_
  refine J_aload_n E dX9_tell_148 rfl ?_
  refine S_get (ci := 9) (q := 4) (v := .ref (Z.2.2.1 + 34)) E dX9_tell_149 fs_X9_18 sh31 rfl ?_
  refine J_iload_n E dX9_tell_152 rfl ?_
  refine J_iconst (v := nI 4) E dX9_tell_153 rfl ?_
  refine J_iadd E dX9_tell_154 ?_
  refine S_iald E dX9_tell_155 sh34 s2_ ?_
  refine S_callV (As := [.int a4, .int a5, .int a6, .int (μ 34 (ix (a3 + (nI 3)))), .int (μ 34 (ix (a3 + (nI 4))))]) (rest := []) E dX9_tell_156 c kX3_addChild ⟨Nat.le_of_ble_eq_true rfl, Nat.le_of_ble_eq_true rfl⟩ rfl (Nat.le_of_ble_eq_true rfl) ha1 rfl rfl w4_20 w3_61 w3_62 (fun r_ μ1 hp_ => ?_)
  obtain ⟨v, rfl, hp_⟩ := hp_
  refine J.weak [] rfl ?_
  exact k v μ1 hp_
theorem bX9_tell_159 {Z : ZT} {X : XT} {μ : Mu} {s0 : Int32} (E : Ent Z X mX9_tell 0 0) {P : Option Value → Mu → Prop} (hB : BodS Z X P) 
    (k : P (some (.int s0)) μ) :
    JS Z X 159 [] [.int s0] μ := by
  exact S_iret E hB dX9_tell_159 rfl k
theorem bX9_tell_160 {Z : ZT} {X : XT} {μ : Mu} {a1 : Nat} {a4 : Int32} {a5 : Int32} (E : Ent Z X mX9_tell 0 0) (ha1 : SH a1 = .inl 3) {p : Int32 → Mu → Prop} 
    (c : CtrS Z mX3_addBar [.ref (Z.2.2.1 + a1), .int a4, .int a5] μ (rI p)) (k : ∀ v μ1, p v μ1 → JS Z X 168 [] [.int v] μ1) :
    JS Z X 160 [(1, .ref (Z.2.2.1 + a1)), (4, .int a4), (5, .int a5)] [] μ := by
  refine J_aload_n E dX9_tell_160 rfl ?_
  refine J_iload E dX9_tell_161 rfl ?_
  refine J_iload E dX9_tell_163 rfl ?_
  refine S_callV (As := [.int a4, .int a5]) (rest := []) E dX9_tell_165 c kX3_addBar ⟨Nat.le_of_ble_eq_true rfl, Nat.le_of_ble_eq_true rfl⟩ rfl (Nat.le_of_ble_eq_true rfl) ha1 rfl rfl w4_21 w3_72 w3_73 (fun r_ μ1 hp_ => ?_)
  obtain ⟨v, rfl, hp_⟩ := hp_
  refine J.weak [] rfl ?_
  exact k v μ1 hp_
theorem bX9_tell_168 {Z : ZT} {X : XT} {μ : Mu} {s0 : Int32} (E : Ent Z X mX9_tell 0 0) {P : Option Value → Mu → Prop} (hB : BodS Z X P) 
    (k : P (some (.int s0)) μ) :
    JS Z X 168 [] [.int s0] μ := by
  exact S_iret E hB dX9_tell_168 rfl k
theorem bX9_tell_169 {Z : ZT} {X : XT} {μ : Mu} {a1 : Nat} {a4 : Int32} {a5 : Int32} (E : Ent Z X mX9_tell 0 0) (ha1 : SH a1 = .inl 3) {p : Int32 → Mu → Prop} 
    (c : CtrS Z mX3_setLot [.ref (Z.2.2.1 + a1), .int a4, .int a5] μ (rI p)) (k : ∀ v μ1, p v μ1 → JS Z X 177 [] [.int v] μ1) :
    JS Z X 169 [(1, .ref (Z.2.2.1 + a1)), (4, .int a4), (5, .int a5)] [] μ := by
  refine J_aload_n E dX9_tell_169 rfl ?_
  refine J_iload E dX9_tell_170 rfl ?_
  refine J_iload E dX9_tell_172 rfl ?_
  refine S_callV (As := [.int a4, .int a5]) (rest := []) E dX9_tell_174 c kX3_setLot ⟨Nat.le_of_ble_eq_true rfl, Nat.le_of_ble_eq_true rfl⟩ rfl (Nat.le_of_ble_eq_true rfl) ha1 rfl rfl w4_22 w3_80 w3_81 (fun r_ μ1 hp_ => ?_)
  obtain ⟨v, rfl, hp_⟩ := hp_
  refine J.weak [] rfl ?_
  exact k v μ1 hp_
theorem bX9_tell_177 {Z : ZT} {X : XT} {μ : Mu} {s0 : Int32} (E : Ent Z X mX9_tell 0 0) {P : Option Value → Mu → Prop} (hB : BodS Z X P) 
    (k : P (some (.int s0)) μ) :
    JS Z X 177 [] [.int s0] μ := by
  exact S_iret E hB dX9_tell_177 rfl k
theorem bX9_tell_178 {Z : ZT} {X : XT} {μ : Mu} {a1 : Nat} {a4 : Int32} {a5 : Int32} (E : Ent Z X mX9_tell 0 0) (ha1 : SH a1 = .inl 3) {p : Int32 → Mu → Prop} 
    (c : CtrS Z mX3_addSlip [.ref (Z.2.2.1 + a1), .int a4, .int a5] μ (rI p)) (k : ∀ v μ1, p v μ1 → JS Z X 186 [] [.int v] μ1) :
    JS Z X 178 [(1, .ref (Z.2.2.1 + a1)), (4, .int a4), (5, .int a5)] [] μ := by
  refine J_aload_n E dX9_tell_178 rfl ?_
  refine J_iload E dX9_tell_179 rfl ?_
  refine J_iload E dX9_tell_181 rfl ?_
  refine S_callV (As := [.int a4, .int a5]) (rest := []) E dX9_tell_183 c kX3_addSlip ⟨Nat.le_of_ble_eq_true rfl, Nat.le_of_ble_eq_true rfl⟩ rfl (Nat.le_of_ble_eq_true rfl) ha1 rfl rfl w4_23 w3_88 w3_89 (fun r_ μ1 hp_ => ?_)
  obtain ⟨v, rfl, hp_⟩ := hp_
  refine J.weak [] rfl ?_
  exact k v μ1 hp_
theorem bX9_tell_186 {Z : ZT} {X : XT} {μ : Mu} {s0 : Int32} (E : Ent Z X mX9_tell 0 0) {P : Option Value → Mu → Prop} (hB : BodS Z X P) 
    (k : P (some (.int s0)) μ) :
    JS Z X 186 [] [.int s0] μ := by
  exact S_iret E hB dX9_tell_186 rfl k
theorem bX9_tell_187 {Z : ZT} {X : XT} {μ : Mu} {a1 : Nat} {a4 : Int32} (E : Ent Z X mX9_tell 0 0) (ha1 : SH a1 = .inl 3) {p : Int32 → Mu → Prop} 
    (c : CtrS Z mX3_setSpare [.ref (Z.2.2.1 + a1), .int a4] μ (rI p)) (k : ∀ v μ1, p v μ1 → JS Z X 193 [] [.int v] μ1) :
    JS Z X 187 [(1, .ref (Z.2.2.1 + a1)), (4, .int a4)] [] μ := by
  refine J_aload_n E dX9_tell_187 rfl ?_
  refine J_iload E dX9_tell_188 rfl ?_
  refine S_callV (As := [.int a4]) (rest := []) E dX9_tell_190 c kX3_setSpare ⟨Nat.le_of_ble_eq_true rfl, Nat.le_of_ble_eq_true rfl⟩ rfl (Nat.le_of_ble_eq_true rfl) ha1 rfl rfl w4_24 w3_96 w3_97 (fun r_ μ1 hp_ => ?_)
  obtain ⟨v, rfl, hp_⟩ := hp_
  refine J.weak [] rfl ?_
  exact k v μ1 hp_
theorem bX9_tell_193 {Z : ZT} {X : XT} {μ : Mu} {s0 : Int32} (E : Ent Z X mX9_tell 0 0) {P : Option Value → Mu → Prop} (hB : BodS Z X P) 
    (k : P (some (.int s0)) μ) :
    JS Z X 193 [] [.int s0] μ := by
  exact S_iret E hB dX9_tell_193 rfl k
theorem bX9_tell_194 {Z : ZT} {X : XT} {μ : Mu} {a1 : Nat} {a4 : Int32} {a5 : Int32} (E : Ent Z X mX9_tell 0 0) (ha1 : SH a1 = .inl 3) {p : Int32 → Mu → Prop} 
    (c : CtrS Z mX3_addMistaken [.ref (Z.2.2.1 + a1), .int a4, .int a5] μ (rI p)) (k : ∀ v μ1, p v μ1 → JS Z X 202 [] [.int v] μ1) :
    JS Z X 194 [(1, .ref (Z.2.2.1 + a1)), (4, .int a4), (5, .int a5)] [] μ := by
  refine J_aload_n E dX9_tell_194 rfl ?_
  refine J_iload E dX9_tell_195 rfl ?_
  refine J_iload E dX9_tell_197 rfl ?_
  refine S_callV (As := [.int a4, .int a5]) (rest := []) E dX9_tell_199 c kX3_addMistaken ⟨Nat.le_of_ble_eq_true rfl, Nat.le_of_ble_eq_true rfl⟩ rfl (Nat.le_of_ble_eq_true rfl) ha1 rfl rfl w4_25 w3_104 w3_105 (fun r_ μ1 hp_ => ?_)
  obtain ⟨v, rfl, hp_⟩ := hp_
  refine J.weak [] rfl ?_
  exact k v μ1 hp_
theorem bX9_tell_202 {Z : ZT} {X : XT} {μ : Mu} {s0 : Int32} (E : Ent Z X mX9_tell 0 0) {P : Option Value → Mu → Prop} (hB : BodS Z X P) 
    (k : P (some (.int s0)) μ) :
    JS Z X 202 [] [.int s0] μ := by
  exact S_iret E hB dX9_tell_202 rfl k
theorem bX9_tell_203 {Z : ZT} {X : XT} {μ : Mu} {a1 : Nat} {a4 : Int32} {a5 : Int32} (E : Ent Z X mX9_tell 0 0) (ha1 : SH a1 = .inl 3) {p : Int32 → Mu → Prop} 
    (c : CtrS Z mX3_addToRow [.ref (Z.2.2.1 + a1), .int a4, .int a5] μ (rI p)) (k : ∀ v μ1, p v μ1 → JS Z X 211 [] [.int v] μ1) :
    JS Z X 203 [(1, .ref (Z.2.2.1 + a1)), (4, .int a4), (5, .int a5)] [] μ := by
  refine J_aload_n E dX9_tell_203 rfl ?_
  refine J_iload E dX9_tell_204 rfl ?_
  refine J_iload E dX9_tell_206 rfl ?_
  refine S_callV (As := [.int a4, .int a5]) (rest := []) E dX9_tell_208 c kX3_addToRow ⟨Nat.le_of_ble_eq_true rfl, Nat.le_of_ble_eq_true rfl⟩ rfl (Nat.le_of_ble_eq_true rfl) ha1 rfl rfl w4_26 w3_112 w3_113 (fun r_ μ1 hp_ => ?_)
  obtain ⟨v, rfl, hp_⟩ := hp_
  refine J.weak [] rfl ?_
  exact k v μ1 hp_
theorem bX9_tell_211 {Z : ZT} {X : XT} {μ : Mu} {s0 : Int32} (E : Ent Z X mX9_tell 0 0) {P : Option Value → Mu → Prop} (hB : BodS Z X P) 
    (k : P (some (.int s0)) μ) :
    JS Z X 211 [] [.int s0] μ := by
  exact S_iret E hB dX9_tell_211 rfl k
theorem bX9_tell_212 {Z : ZT} {X : XT} {μ : Mu} (E : Ent Z X mX9_tell 0 0) {P : Option Value → Mu → Prop} (hB : BodS Z X P) 
    (k : P (some (.int (-2))) μ) :
    JS Z X 212 [] [] μ := by
  refine J_bipush (v := -2) E dX9_tell_212 rfl ?_
  exact S_iret E hB dX9_tell_214 rfl k
theorem dX10_init_0 : decode cX10_init 0 = .ok (.aload_n 0, 1) := by decide +kernel
theorem dX10_init_1 : decode cX10_init 1 = .ok (.invokespecial 3, 3) := by decide +kernel
theorem dX10_init_4 : decode cX10_init 4 = .ok (.aload_n 0, 1) := by decide +kernel
theorem dX10_init_5 : decode cX10_init 5 = .ok (.bipush 100, 2) := by decide +kernel
theorem dX10_init_7 : decode cX10_init 7 = .ok (.newarray .int, 2) := by decide +kernel
theorem dX10_init_9 : decode cX10_init 9 = .ok (.putfield 9, 3) := by decide +kernel
theorem dX10_init_12 : decode cX10_init 12 = .ok (.aload_n 0, 1) := by decide +kernel
theorem dX10_init_13 : decode cX10_init 13 = .ok (.bipush 100, 2) := by decide +kernel
theorem dX10_init_15 : decode cX10_init 15 = .ok (.newarray .int, 2) := by decide +kernel
theorem dX10_init_17 : decode cX10_init 17 = .ok (.putfield 15, 3) := by decide +kernel
theorem dX10_init_20 : decode cX10_init 20 = .ok (.aload_n 0, 1) := by decide +kernel
theorem dX10_init_21 : decode cX10_init 21 = .ok (.sipush 800, 3) := by decide +kernel
theorem dX10_init_24 : decode cX10_init 24 = .ok (.newarray .int, 2) := by decide +kernel
theorem dX10_init_26 : decode cX10_init 26 = .ok (.putfield 18, 3) := by decide +kernel
theorem dX10_init_29 : decode cX10_init 29 = .ok (.aload_n 0, 1) := by decide +kernel
theorem dX10_init_30 : decode cX10_init 30 = .ok (.sipush 800, 3) := by decide +kernel
theorem dX10_init_33 : decode cX10_init 33 = .ok (.newarray .int, 2) := by decide +kernel
theorem dX10_init_35 : decode cX10_init 35 = .ok (.putfield 21, 3) := by decide +kernel
theorem dX10_init_38 : decode cX10_init 38 = .ok (.aload_n 0, 1) := by decide +kernel
theorem dX10_init_39 : decode cX10_init 39 = .ok (.aload_n 1, 1) := by decide +kernel
theorem dX10_init_40 : decode cX10_init 40 = .ok (.putfield 24, 3) := by decide +kernel
theorem dX10_init_43 : decode cX10_init 43 = .ok (.return_, 1) := by decide +kernel
theorem dX10_measure_0 : decode cX10_measure 0 = .ok (.aload_n 0, 1) := by decide +kernel
theorem dX10_measure_1 : decode cX10_measure 1 = .ok (.invokevirtual 28, 3) := by decide +kernel
theorem dX10_measure_4 : decode cX10_measure 4 = .ok (.aload_n 0, 1) := by decide +kernel
theorem dX10_measure_5 : decode cX10_measure 5 = .ok (.invokevirtual 31, 3) := by decide +kernel
theorem dX10_measure_8 : decode cX10_measure 8 = .ok (.aload_n 0, 1) := by decide +kernel
theorem dX10_measure_9 : decode cX10_measure 9 = .ok (.invokevirtual 34, 3) := by decide +kernel
theorem dX10_measure_12 : decode cX10_measure 12 = .ok (.aload_n 0, 1) := by decide +kernel
theorem dX10_measure_13 : decode cX10_measure 13 = .ok (.getfield 18, 3) := by decide +kernel
theorem dX10_measure_16 : decode cX10_measure 16 = .ok (.bipush (-2), 2) := by decide +kernel
theorem dX10_measure_18 : decode cX10_measure 18 = .ok (.invokestatic 37, 3) := by decide +kernel
theorem dX10_measure_21 : decode cX10_measure 21 = .ok (.return_, 1) := by decide +kernel
theorem bX10_measure_0 {Z : ZT} {X : XT} {μ : Mu} (E : Ent Z X mX10_measure 0 0) {p : Mu → Prop} 
    (c : CtrS Z mX10_startWithWays [.ref (Z.2.2.1 + 73)] μ (rV p)) (k : ∀ μ1, p μ1 → JS Z X 4 [(0, .ref (Z.2.2.1 + 73))] [] μ1) :
    JS Z X 0 [(0, .ref (Z.2.2.1 + 73))] [] μ := by
  refine J_aload_n E dX10_measure_0 rfl ?_
  refine S_callV (As := []) (rest := []) E dX10_measure_1 c kX10_startWithWays ⟨Nat.le_of_ble_eq_true rfl, Nat.le_of_ble_eq_true rfl⟩ rfl (Nat.le_of_ble_eq_true rfl) sh73 rfl rfl w4_48 w4_50 wp_9 (fun r_ μ1 hp_ => ?_)
  obtain ⟨rfl, hp_⟩ := hp_
  exact k μ1 hp_
theorem bX10_measure_4 {Z : ZT} {X : XT} {μ : Mu} (E : Ent Z X mX10_measure 0 0) {p : Mu → Prop} 
    (c : CtrS Z mX10_shortenByRounds [.ref (Z.2.2.1 + 73)] μ (rV p)) (k : ∀ μ1, p μ1 → JS Z X 8 [(0, .ref (Z.2.2.1 + 73))] [] μ1) :
    JS Z X 4 [(0, .ref (Z.2.2.1 + 73))] [] μ := by
  refine J_aload_n E dX10_measure_4 rfl ?_
  refine S_callV (As := []) (rest := []) E dX10_measure_5 c kX10_shortenByRounds ⟨Nat.le_of_ble_eq_true rfl, Nat.le_of_ble_eq_true rfl⟩ rfl (Nat.le_of_ble_eq_true rfl) sh73 rfl rfl w4_52 w4_54 wp_10 (fun r_ μ1 hp_ => ?_)
  obtain ⟨rfl, hp_⟩ := hp_
  exact k μ1 hp_
theorem bX10_measure_8 {Z : ZT} {X : XT} {μ : Mu} (E : Ent Z X mX10_measure 0 0) {p : Mu → Prop} 
    (c : CtrS Z mX10_chooseSteps [.ref (Z.2.2.1 + 73)] μ (rV p)) (k : ∀ μ1, p μ1 → JS Z X 12 [(0, .ref (Z.2.2.1 + 73))] [] μ1) :
    JS Z X 8 [(0, .ref (Z.2.2.1 + 73))] [] μ := by
  refine J_aload_n E dX10_measure_8 rfl ?_
  refine S_callV (As := []) (rest := []) E dX10_measure_9 c kX10_chooseSteps ⟨Nat.le_of_ble_eq_true rfl, Nat.le_of_ble_eq_true rfl⟩ rfl (Nat.le_of_ble_eq_true rfl) sh73 rfl rfl w4_57 w4_59 wp_11 (fun r_ μ1 hp_ => ?_)
  obtain ⟨rfl, hp_⟩ := hp_
  exact k μ1 hp_
theorem bX10_measure_12 {Z : ZT} {X : XT} {μ : Mu} (E : Ent Z X mX10_measure 0 0) {p : Mu → Prop} 
    (c : CtrS Z mJ7_fill_53178 [.ref (Z.2.2.1 + 76), .int (-2)] μ (rV p)) (k : ∀ μ1, p μ1 → JS Z X 21 [] [] μ1) :
    JS Z X 12 [(0, .ref (Z.2.2.1 + 73))] [] μ := by
  refine J_aload_n E dX10_measure_12 rfl ?_
  refine S_get (ci := 10) (q := 3) (v := .ref (Z.2.2.1 + 76)) E dX10_measure_13 fs_X10_18 sh73 rfl ?_
  refine J_bipush (v := -2) E dX10_measure_16 rfl ?_
  refine S_callS (As := [.ref (Z.2.2.1 + 76), .int (-2)]) (rest := []) E dX10_measure_18 c kJ7_fill_53178 ⟨Nat.le_of_ble_eq_true rfl, Nat.le_of_ble_eq_true rfl⟩ rfl (Nat.le_of_ble_eq_true rfl) w4_61 w4_10 (fun r_ μ1 hp_ => ?_)
  obtain ⟨rfl, hp_⟩ := hp_
  refine J.weak [] rfl ?_
  exact k μ1 hp_
theorem bX10_measure_21 {Z : ZT} {X : XT} {μ : Mu} (E : Ent Z X mX10_measure 0 0) {P : Option Value → Mu → Prop} (hB : BodS Z X P) 
    (k : P none μ) :
    JS Z X 21 [] [] μ := by
  exact S_vret E hB dX10_measure_21 rfl k
theorem dX10_startWithWays_0 : decode cX10_startWithWays 0 = .ok (.iconst 0, 1) := by decide +kernel
theorem dX10_startWithWays_1 : decode cX10_startWithWays 1 = .ok (.istore_n 1, 1) := by decide +kernel
theorem dX10_startWithWays_2 : decode cX10_startWithWays 2 = .ok (.iload_n 1, 1) := by decide +kernel
theorem dX10_startWithWays_3 : decode cX10_startWithWays 3 = .ok (.aload_n 0, 1) := by decide +kernel
theorem dX10_startWithWays_4 : decode cX10_startWithWays 4 = .ok (.getfield 24, 3) := by decide +kernel
theorem dX10_startWithWays_7 : decode cX10_startWithWays 7 = .ok (.getfield 43, 3) := by decide +kernel
theorem dX10_startWithWays_10 : decode cX10_startWithWays 10 = .ok (.if_icmp .ge 74, 3) := by decide +kernel
theorem dX10_startWithWays_13 : decode cX10_startWithWays 13 = .ok (.iconst 0, 1) := by decide +kernel
theorem dX10_startWithWays_14 : decode cX10_startWithWays 14 = .ok (.istore_n 2, 1) := by decide +kernel
theorem dX10_startWithWays_15 : decode cX10_startWithWays 15 = .ok (.iload_n 2, 1) := by decide +kernel
theorem dX10_startWithWays_16 : decode cX10_startWithWays 16 = .ok (.aload_n 0, 1) := by decide +kernel
theorem dX10_startWithWays_17 : decode cX10_startWithWays 17 = .ok (.getfield 24, 3) := by decide +kernel
theorem dX10_startWithWays_20 : decode cX10_startWithWays 20 = .ok (.getfield 43, 3) := by decide +kernel
theorem dX10_startWithWays_23 : decode cX10_startWithWays 23 = .ok (.if_icmp .ge 55, 3) := by decide +kernel
theorem dX10_startWithWays_26 : decode cX10_startWithWays 26 = .ok (.aload_n 0, 1) := by decide +kernel
theorem dX10_startWithWays_27 : decode cX10_startWithWays 27 = .ok (.getfield 24, 3) := by decide +kernel
theorem dX10_startWithWays_30 : decode cX10_startWithWays 30 = .ok (.getfield 49, 3) := by decide +kernel
theorem dX10_startWithWays_33 : decode cX10_startWithWays 33 = .ok (.iload_n 1, 1) := by decide +kernel
theorem dX10_startWithWays_34 : decode cX10_startWithWays 34 = .ok (.bipush 10, 2) := by decide +kernel
theorem dX10_startWithWays_36 : decode cX10_startWithWays 36 = .ok (.imul, 1) := by decide +kernel
theorem dX10_startWithWays_37 : decode cX10_startWithWays 37 = .ok (.iload_n 2, 1) := by decide +kernel
theorem dX10_startWithWays_38 : decode cX10_startWithWays 38 = .ok (.iadd, 1) := by decide +kernel
theorem dX10_startWithWays_39 : decode cX10_startWithWays 39 = .ok (.iaload, 1) := by decide +kernel
theorem dX10_startWithWays_40 : decode cX10_startWithWays 40 = .ok (.istore_n 3, 1) := by decide +kernel
theorem dX10_startWithWays_41 : decode cX10_startWithWays 41 = .ok (.aload_n 0, 1) := by decide +kernel
theorem dX10_startWithWays_42 : decode cX10_startWithWays 42 = .ok (.getfield 9, 3) := by decide +kernel
theorem dX10_startWithWays_45 : decode cX10_startWithWays 45 = .ok (.iload_n 1, 1) := by decide +kernel
theorem dX10_startWithWays_46 : decode cX10_startWithWays 46 = .ok (.bipush 10, 2) := by decide +kernel
theorem dX10_startWithWays_48 : decode cX10_startWithWays 48 = .ok (.imul, 1) := by decide +kernel
theorem dX10_startWithWays_49 : decode cX10_startWithWays 49 = .ok (.iload_n 2, 1) := by decide +kernel
theorem dX10_startWithWays_50 : decode cX10_startWithWays 50 = .ok (.iadd, 1) := by decide +kernel
theorem dX10_startWithWays_51 : decode cX10_startWithWays 51 = .ok (.iload_n 1, 1) := by decide +kernel
theorem dX10_startWithWays_52 : decode cX10_startWithWays 52 = .ok (.iload_n 2, 1) := by decide +kernel
theorem dX10_startWithWays_53 : decode cX10_startWithWays 53 = .ok (.if_icmp .ne 7, 3) := by decide +kernel
theorem dX10_startWithWays_56 : decode cX10_startWithWays 56 = .ok (.iconst 0, 1) := by decide +kernel
theorem dX10_startWithWays_57 : decode cX10_startWithWays 57 = .ok (.goto 14, 3) := by decide +kernel
theorem dX10_startWithWays_60 : decode cX10_startWithWays 60 = .ok (.iload_n 3, 1) := by decide +kernel
theorem dX10_startWithWays_61 : decode cX10_startWithWays 61 = .ok (.ifCond .le 7, 3) := by decide +kernel
theorem dX10_startWithWays_64 : decode cX10_startWithWays 64 = .ok (.iload_n 3, 1) := by decide +kernel
theorem dX10_startWithWays_65 : decode cX10_startWithWays 65 = .ok (.goto 6, 3) := by decide +kernel
theorem dX10_startWithWays_68 : decode cX10_startWithWays 68 = .ok (.sipush 10000, 3) := by decide +kernel
theorem dX10_startWithWays_71 : decode cX10_startWithWays 71 = .ok (.iastore, 1) := by decide +kernel
theorem dX10_startWithWays_72 : decode cX10_startWithWays 72 = .ok (.iinc 2 1, 3) := by decide +kernel
theorem dX10_startWithWays_75 : decode cX10_startWithWays 75 = .ok (.goto (-60), 3) := by decide +kernel
theorem dX10_startWithWays_78 : decode cX10_startWithWays 78 = .ok (.iinc 1 1, 3) := by decide +kernel
theorem dX10_startWithWays_81 : decode cX10_startWithWays 81 = .ok (.goto (-79), 3) := by decide +kernel
theorem dX10_startWithWays_84 : decode cX10_startWithWays 84 = .ok (.return_, 1) := by decide +kernel
theorem bX10_startWithWays_0 {Z : ZT} {X : XT} {μ : Mu} (E : Ent Z X mX10_startWithWays 0 0)  
    (k : JS Z X 2 [(0, .ref (Z.2.2.1 + 73)), (1, .int (nI 0))] [] μ) :
    JS Z X 0 [(0, .ref (Z.2.2.1 + 73))] [] μ := by
  refine J_iconst (v := nI 0) E dX10_startWithWays_0 rfl ?_
  refine J_istore_n (lv' := [(0, .ref (Z.2.2.1 + 73)), (1, .int (nI 0))]) E dX10_startWithWays_1 (Nat.le_of_ble_eq_true rfl) rfl ?_
  exact k
theorem bX10_startWithWays_2 {Z : ZT} {X : XT} {μ : Mu} {a1 : Int32} (E : Ent Z X mX10_startWithWays 0 0)  
    (kt : (μ 1 0) ≤ a1 → JS Z X 84 [] [] μ) (kf : ¬ ((μ 1 0) ≤ a1) → JS Z X 13 [(0, .ref (Z.2.2.1 + 73)), (1, .int a1)] [] μ) :
    JS Z X 2 [(0, .ref (Z.2.2.1 + 73)), (1, .int a1)] [] μ := by
  refine J_iload_n E dX10_startWithWays_2 rfl ?_
  refine J_aload_n E dX10_startWithWays_3 rfl ?_
  refine S_get (ci := 10) (q := 0) (v := .ref (Z.2.2.1 + 1)) E dX10_startWithWays_4 fs_X10_24 sh73 rfl ?_
  refine S_get (ci := 3) (q := 0) (v := .int (μ 1 0)) E dX10_startWithWays_7 fs_X10_43 sh1 rfl ?_
  refine J_icmp_ge (tgt := 84) E dX10_startWithWays_10 (by decide) (fun c => ?_) (fun c => ?_)
  · refine J.weak [] rfl ?_
    exact kt c
  · exact kf c
theorem bX10_startWithWays_13 {Z : ZT} {X : XT} {μ : Mu} {a1 : Int32} (E : Ent Z X mX10_startWithWays 0 0)  
    (k : JS Z X 15 [(0, .ref (Z.2.2.1 + 73)), (1, .int a1), (2, .int (nI 0))] [] μ) :
    JS Z X 13 [(0, .ref (Z.2.2.1 + 73)), (1, .int a1)] [] μ := by
  refine J_iconst (v := nI 0) E dX10_startWithWays_13 rfl ?_
  refine J_istore_n (lv' := [(0, .ref (Z.2.2.1 + 73)), (1, .int a1), (2, .int (nI 0))]) E dX10_startWithWays_14 (Nat.le_of_ble_eq_true rfl) rfl ?_
  exact k
theorem bX10_startWithWays_15 {Z : ZT} {X : XT} {μ : Mu} {a1 : Int32} {a2 : Int32} (E : Ent Z X mX10_startWithWays 0 0)  
    (kt : (μ 1 0) ≤ a2 → JS Z X 78 [(0, .ref (Z.2.2.1 + 73)), (1, .int a1)] [] μ) (kf : ¬ ((μ 1 0) ≤ a2) → JS Z X 26 [(0, .ref (Z.2.2.1 + 73)), (1, .int a1), (2, .int a2)] [] μ) :
    JS Z X 15 [(0, .ref (Z.2.2.1 + 73)), (1, .int a1), (2, .int a2)] [] μ := by
  refine J_iload_n E dX10_startWithWays_15 rfl ?_
  refine J_aload_n E dX10_startWithWays_16 rfl ?_
  refine S_get (ci := 10) (q := 0) (v := .ref (Z.2.2.1 + 1)) E dX10_startWithWays_17 fs_X10_24 sh73 rfl ?_
  refine S_get (ci := 3) (q := 0) (v := .int (μ 1 0)) E dX10_startWithWays_20 fs_X10_43 sh1 rfl ?_
  refine J_icmp_ge (tgt := 78) E dX10_startWithWays_23 (by decide) (fun c => ?_) (fun c => ?_)
  · refine J.weak [0, 1] rfl ?_
    exact kt c
  · exact kf c
theorem bX10_startWithWays_26 {Z : ZT} {X : XT} {μ : Mu} {a1 : Int32} {a2 : Int32} (E : Ent Z X mX10_startWithWays 0 0)  (s1_ : vp_in ((a1 * (nI 10)) + a2) 100)
    (kt : ¬ a1 = a2 → JS Z X 60 [(0, .ref (Z.2.2.1 + 73)), (1, .int a1), (2, .int a2), (3, .int (μ (1 + 1) (ix ((a1 * (nI 10)) + a2))))] [.int ((a1 * (nI 10)) + a2), .ref (Z.2.2.1 + 74)] μ) (kf : a1 = a2 → JS Z X 56 [(0, .ref (Z.2.2.1 + 73)), (1, .int a1), (2, .int a2)] [.int ((a1 * (nI 10)) + a2), .ref (Z.2.2.1 + 74)] μ) :
    JS Z X 26 [(0, .ref (Z.2.2.1 + 73)), (1, .int a1), (2, .int a2)] [] μ := by
  refine J_aload_n E dX10_startWithWays_26 rfl ?_
  refine S_get (ci := 10) (q := 0) (v := .ref (Z.2.2.1 + 1)) E dX10_startWithWays_27 fs_X10_24 sh73 rfl ?_
  refine S_get (ci := 3) (q := 1) (v := .ref (Z.2.2.1 + (1 + 1))) E dX10_startWithWays_30 fs_X10_49 sh1 rfl ?_
  refine J_iload_n E dX10_startWithWays_33 rfl ?_
  refine J_bipush (v := nI 10) E dX10_startWithWays_34 rfl ?_
  refine J_imul E dX10_startWithWays_36 ?_
  refine J_iload_n E dX10_startWithWays_37 rfl ?_
  refine J_iadd E dX10_startWithWays_38 ?_
  refine S_iald E dX10_startWithWays_39 (shr_X3_1 sh1) s1_ ?_
  refine J_istore_n (lv' := [(0, .ref (Z.2.2.1 + 73)), (1, .int a1), (2, .int a2), (3, .int (μ (1 + 1) (ix ((a1 * (nI 10)) + a2))))]) E dX10_startWithWays_40 (Nat.le_of_ble_eq_true rfl) rfl ?_
  refine J_aload_n E dX10_startWithWays_41 rfl ?_
  refine S_get (ci := 10) (q := 1) (v := .ref (Z.2.2.1 + 74)) E dX10_startWithWays_42 fs_X10_9 sh73 rfl ?_
  refine J_iload_n E dX10_startWithWays_45 rfl ?_
  refine J_bipush (v := nI 10) E dX10_startWithWays_46 rfl ?_
  refine J_imul E dX10_startWithWays_48 ?_
  refine J_iload_n E dX10_startWithWays_49 rfl ?_
  refine J_iadd E dX10_startWithWays_50 ?_
  refine J_iload_n E dX10_startWithWays_51 rfl ?_
  refine J_iload_n E dX10_startWithWays_52 rfl ?_
  refine J_icmp_ne (tgt := 60) E dX10_startWithWays_53 (by decide) (fun c => ?_) (fun c => ?_)
  · exact kt c
  · refine J.weak [0, 1, 2] rfl ?_
    exact kf c
theorem bX10_startWithWays_56 {Z : ZT} {X : XT} {μ : Mu} {a1 : Int32} {a2 : Int32} {s0 : Nat} {s1 : Int32} (E : Ent Z X mX10_startWithWays 0 0) (hs0 : SH s0 = .inr (0, 100)) 
    (k : JS Z X 71 [(0, .ref (Z.2.2.1 + 73)), (1, .int a1), (2, .int a2)] [.int (nI 0), .int s1, .ref (Z.2.2.1 + s0)] μ) :
    JS Z X 56 [(0, .ref (Z.2.2.1 + 73)), (1, .int a1), (2, .int a2)] [.int s1, .ref (Z.2.2.1 + s0)] μ := by
  refine J_iconst (v := nI 0) E dX10_startWithWays_56 rfl ?_
  refine J_goto (tgt := 71) E dX10_startWithWays_57 (by decide) ?_
  exact k
theorem bX10_startWithWays_60 {Z : ZT} {X : XT} {μ : Mu} {a1 : Int32} {a2 : Int32} {a3 : Int32} {s0 : Nat} {s1 : Int32} (E : Ent Z X mX10_startWithWays 0 0) (hs0 : SH s0 = .inr (0, 100)) 
    (kt : a3 ≤ 0 → JS Z X 68 [(0, .ref (Z.2.2.1 + 73)), (1, .int a1), (2, .int a2)] [.int s1, .ref (Z.2.2.1 + s0)] μ) (kf : ¬ (a3 ≤ 0) → JS Z X 64 [(0, .ref (Z.2.2.1 + 73)), (1, .int a1), (2, .int a2), (3, .int a3)] [.int s1, .ref (Z.2.2.1 + s0)] μ) :
    JS Z X 60 [(0, .ref (Z.2.2.1 + 73)), (1, .int a1), (2, .int a2), (3, .int a3)] [.int s1, .ref (Z.2.2.1 + s0)] μ := by
  refine J_iload_n E dX10_startWithWays_60 rfl ?_
  refine J_if_le (tgt := 68) E dX10_startWithWays_61 (by decide) (fun c => ?_) (fun c => ?_)
  · refine J.weak [0, 1, 2] rfl ?_
    exact kt c
  · exact kf c
theorem bX10_startWithWays_64 {Z : ZT} {X : XT} {μ : Mu} {a1 : Int32} {a2 : Int32} {a3 : Int32} {s0 : Nat} {s1 : Int32} (E : Ent Z X mX10_startWithWays 0 0) (hs0 : SH s0 = .inr (0, 100)) 
    (k : JS Z X 71 [(0, .ref (Z.2.2.1 + 73)), (1, .int a1), (2, .int a2)] [.int a3, .int s1, .ref (Z.2.2.1 + s0)] μ) :
    JS Z X 64 [(0, .ref (Z.2.2.1 + 73)), (1, .int a1), (2, .int a2), (3, .int a3)] [.int s1, .ref (Z.2.2.1 + s0)] μ := by
  refine J_iload_n E dX10_startWithWays_64 rfl ?_
  refine J_goto (tgt := 71) E dX10_startWithWays_65 (by decide) ?_
  refine J.weak [0, 1, 2] rfl ?_
  exact k
theorem bX10_startWithWays_68 {Z : ZT} {X : XT} {μ : Mu} {a1 : Int32} {a2 : Int32} {s0 : Nat} {s1 : Int32} (E : Ent Z X mX10_startWithWays 0 0) (hs0 : SH s0 = .inr (0, 100)) 
    (k : JS Z X 71 [(0, .ref (Z.2.2.1 + 73)), (1, .int a1), (2, .int a2)] [.int (nI 10000), .int s1, .ref (Z.2.2.1 + s0)] μ) :
    JS Z X 68 [(0, .ref (Z.2.2.1 + 73)), (1, .int a1), (2, .int a2)] [.int s1, .ref (Z.2.2.1 + s0)] μ := by
  refine J_sipush (v := nI 10000) E dX10_startWithWays_68 rfl ?_
  exact k
theorem bX10_startWithWays_71 {Z : ZT} {X : XT} {μ : Mu} {a1 : Int32} {a2 : Int32} {s0 : Nat} {s1 : Int32} {s2 : Int32} (E : Ent Z X mX10_startWithWays 0 0) (hs0 : SH s0 = .inr (0, 100)) (s1_ : vp_in s1 100)
    (k : JS Z X 72 [(0, .ref (Z.2.2.1 + 73)), (1, .int a1), (2, .int a2)] [] (uR μ s0 (upd (μ s0) (ix s1) s2))) :
    JS Z X 71 [(0, .ref (Z.2.2.1 + 73)), (1, .int a1), (2, .int a2)] [.int s2, .int s1, .ref (Z.2.2.1 + s0)] μ := by
  refine S_iast E dX10_startWithWays_71 hs0 s1_ ?_
  exact k
theorem bX10_startWithWays_72 {Z : ZT} {X : XT} {μ : Mu} {a1 : Int32} {a2 : Int32} (E : Ent Z X mX10_startWithWays 0 0)  
    (k : JS Z X 15 [(0, .ref (Z.2.2.1 + 73)), (1, .int a1), (2, .int (a2 + nI 1))] [] μ) :
    JS Z X 72 [(0, .ref (Z.2.2.1 + 73)), (1, .int a1), (2, .int a2)] [] μ := by
  refine J_iinc (v := a2 + nI 1) (lv' := [(0, .ref (Z.2.2.1 + 73)), (1, .int a1), (2, .int (a2 + nI 1))]) E dX10_startWithWays_72 rfl rfl (Nat.le_of_ble_eq_true rfl) rfl ?_
  refine J_goto (tgt := 15) E dX10_startWithWays_75 (by decide) ?_
  exact k
theorem bX10_startWithWays_78 {Z : ZT} {X : XT} {μ : Mu} {a1 : Int32} (E : Ent Z X mX10_startWithWays 0 0)  
    (k : JS Z X 2 [(0, .ref (Z.2.2.1 + 73)), (1, .int (a1 + nI 1))] [] μ) :
    JS Z X 78 [(0, .ref (Z.2.2.1 + 73)), (1, .int a1)] [] μ := by
  refine J_iinc (v := a1 + nI 1) (lv' := [(0, .ref (Z.2.2.1 + 73)), (1, .int (a1 + nI 1))]) E dX10_startWithWays_78 rfl rfl (Nat.le_of_ble_eq_true rfl) rfl ?_
  refine J_goto (tgt := 2) E dX10_startWithWays_81 (by decide) ?_
  exact k
theorem bX10_startWithWays_84 {Z : ZT} {X : XT} {μ : Mu} (E : Ent Z X mX10_startWithWays 0 0) {P : Option Value → Mu → Prop} (hB : BodS Z X P) 
    (k : P none μ) :
    JS Z X 84 [] [] μ := by
  exact S_vret E hB dX10_startWithWays_84 rfl k
theorem dX10_shortenByRounds_0 : decode cX10_shortenByRounds 0 = .ok (.iconst 0, 1) := by decide +kernel
theorem dX10_shortenByRounds_1 : decode cX10_shortenByRounds 1 = .ok (.istore_n 1, 1) := by decide +kernel
theorem dX10_shortenByRounds_2 : decode cX10_shortenByRounds 2 = .ok (.iload_n 1, 1) := by decide +kernel
theorem dX10_shortenByRounds_3 : decode cX10_shortenByRounds 3 = .ok (.aload_n 0, 1) := by decide +kernel
theorem dX10_shortenByRounds_4 : decode cX10_shortenByRounds 4 = .ok (.getfield 24, 3) := by decide +kernel
theorem dX10_shortenByRounds_7 : decode cX10_shortenByRounds 7 = .ok (.getfield 43, 3) := by decide +kernel
theorem dX10_shortenByRounds_10 : decode cX10_shortenByRounds 10 = .ok (.if_icmp .ge 99, 3) := by decide +kernel
theorem dX10_shortenByRounds_13 : decode cX10_shortenByRounds 13 = .ok (.iconst 0, 1) := by decide +kernel
theorem dX10_shortenByRounds_14 : decode cX10_shortenByRounds 14 = .ok (.istore_n 2, 1) := by decide +kernel
theorem dX10_shortenByRounds_15 : decode cX10_shortenByRounds 15 = .ok (.iload_n 2, 1) := by decide +kernel
theorem dX10_shortenByRounds_16 : decode cX10_shortenByRounds 16 = .ok (.aload_n 0, 1) := by decide +kernel
theorem dX10_shortenByRounds_17 : decode cX10_shortenByRounds 17 = .ok (.getfield 24, 3) := by decide +kernel
theorem dX10_shortenByRounds_20 : decode cX10_shortenByRounds 20 = .ok (.getfield 43, 3) := by decide +kernel
theorem dX10_shortenByRounds_23 : decode cX10_shortenByRounds 23 = .ok (.if_icmp .ge 80, 3) := by decide +kernel
theorem dX10_shortenByRounds_26 : decode cX10_shortenByRounds 26 = .ok (.iconst 0, 1) := by decide +kernel
theorem dX10_shortenByRounds_27 : decode cX10_shortenByRounds 27 = .ok (.istore_n 3, 1) := by decide +kernel
theorem dX10_shortenByRounds_28 : decode cX10_shortenByRounds 28 = .ok (.iload_n 3, 1) := by decide +kernel
theorem dX10_shortenByRounds_29 : decode cX10_shortenByRounds 29 = .ok (.aload_n 0, 1) := by decide +kernel
theorem dX10_shortenByRounds_30 : decode cX10_shortenByRounds 30 = .ok (.getfield 24, 3) := by decide +kernel
theorem dX10_shortenByRounds_33 : decode cX10_shortenByRounds 33 = .ok (.getfield 43, 3) := by decide +kernel
theorem dX10_shortenByRounds_36 : decode cX10_shortenByRounds 36 = .ok (.if_icmp .ge 61, 3) := by decide +kernel
theorem dX10_shortenByRounds_39 : decode cX10_shortenByRounds 39 = .ok (.aload_n 0, 1) := by decide +kernel
theorem dX10_shortenByRounds_40 : decode cX10_shortenByRounds 40 = .ok (.getfield 9, 3) := by decide +kernel
theorem dX10_shortenByRounds_43 : decode cX10_shortenByRounds 43 = .ok (.iload_n 2, 1) := by decide +kernel
theorem dX10_shortenByRounds_44 : decode cX10_shortenByRounds 44 = .ok (.bipush 10, 2) := by decide +kernel
theorem dX10_shortenByRounds_46 : decode cX10_shortenByRounds 46 = .ok (.imul, 1) := by decide +kernel
theorem dX10_shortenByRounds_47 : decode cX10_shortenByRounds 47 = .ok (.iload_n 1, 1) := by decide +kernel
theorem dX10_shortenByRounds_48 : decode cX10_shortenByRounds 48 = .ok (.iadd, 1) := by decide +kernel
theorem dX10_shortenByRounds_49 : decode cX10_shortenByRounds 49 = .ok (.iaload, 1) := by decide +kernel
theorem dX10_shortenByRounds_50 : decode cX10_shortenByRounds 50 = .ok (.aload_n 0, 1) := by decide +kernel
theorem dX10_shortenByRounds_51 : decode cX10_shortenByRounds 51 = .ok (.getfield 9, 3) := by decide +kernel
theorem dX10_shortenByRounds_54 : decode cX10_shortenByRounds 54 = .ok (.iload_n 1, 1) := by decide +kernel
theorem dX10_shortenByRounds_55 : decode cX10_shortenByRounds 55 = .ok (.bipush 10, 2) := by decide +kernel
theorem dX10_shortenByRounds_57 : decode cX10_shortenByRounds 57 = .ok (.imul, 1) := by decide +kernel
theorem dX10_shortenByRounds_58 : decode cX10_shortenByRounds 58 = .ok (.iload_n 3, 1) := by decide +kernel
theorem dX10_shortenByRounds_59 : decode cX10_shortenByRounds 59 = .ok (.iadd, 1) := by decide +kernel
theorem dX10_shortenByRounds_60 : decode cX10_shortenByRounds 60 = .ok (.iaload, 1) := by decide +kernel
theorem dX10_shortenByRounds_61 : decode cX10_shortenByRounds 61 = .ok (.iadd, 1) := by decide +kernel
theorem dX10_shortenByRounds_62 : decode cX10_shortenByRounds 62 = .ok (.istore 4, 2) := by decide +kernel
theorem dX10_shortenByRounds_64 : decode cX10_shortenByRounds 64 = .ok (.aload_n 0, 1) := by decide +kernel
theorem dX10_shortenByRounds_65 : decode cX10_shortenByRounds 65 = .ok (.getfield 9, 3) := by decide +kernel
theorem dX10_shortenByRounds_68 : decode cX10_shortenByRounds 68 = .ok (.iload_n 2, 1) := by decide +kernel
theorem dX10_shortenByRounds_69 : decode cX10_shortenByRounds 69 = .ok (.bipush 10, 2) := by decide +kernel
theorem dX10_shortenByRounds_71 : decode cX10_shortenByRounds 71 = .ok (.imul, 1) := by decide +kernel
theorem dX10_shortenByRounds_72 : decode cX10_shortenByRounds 72 = .ok (.iload_n 3, 1) := by decide +kernel
theorem dX10_shortenByRounds_73 : decode cX10_shortenByRounds 73 = .ok (.iadd, 1) := by decide +kernel
theorem dX10_shortenByRounds_74 : decode cX10_shortenByRounds 74 = .ok (.iload 4, 2) := by decide +kernel
theorem dX10_shortenByRounds_76 : decode cX10_shortenByRounds 76 = .ok (.aload_n 0, 1) := by decide +kernel
theorem dX10_shortenByRounds_77 : decode cX10_shortenByRounds 77 = .ok (.getfield 9, 3) := by decide +kernel
theorem dX10_shortenByRounds_80 : decode cX10_shortenByRounds 80 = .ok (.iload_n 2, 1) := by decide +kernel
theorem dX10_shortenByRounds_81 : decode cX10_shortenByRounds 81 = .ok (.bipush 10, 2) := by decide +kernel
theorem dX10_shortenByRounds_83 : decode cX10_shortenByRounds 83 = .ok (.imul, 1) := by decide +kernel
theorem dX10_shortenByRounds_84 : decode cX10_shortenByRounds 84 = .ok (.iload_n 3, 1) := by decide +kernel
theorem dX10_shortenByRounds_85 : decode cX10_shortenByRounds 85 = .ok (.iadd, 1) := by decide +kernel
theorem dX10_shortenByRounds_86 : decode cX10_shortenByRounds 86 = .ok (.iaload, 1) := by decide +kernel
theorem dX10_shortenByRounds_87 : decode cX10_shortenByRounds 87 = .ok (.invokestatic 52, 3) := by decide +kernel
theorem dX10_shortenByRounds_90 : decode cX10_shortenByRounds 90 = .ok (.iastore, 1) := by decide +kernel
theorem dX10_shortenByRounds_91 : decode cX10_shortenByRounds 91 = .ok (.iinc 3 1, 3) := by decide +kernel
theorem dX10_shortenByRounds_94 : decode cX10_shortenByRounds 94 = .ok (.goto (-66), 3) := by decide +kernel
theorem dX10_shortenByRounds_97 : decode cX10_shortenByRounds 97 = .ok (.iinc 2 1, 3) := by decide +kernel
theorem dX10_shortenByRounds_100 : decode cX10_shortenByRounds 100 = .ok (.goto (-85), 3) := by decide +kernel
theorem dX10_shortenByRounds_103 : decode cX10_shortenByRounds 103 = .ok (.iinc 1 1, 3) := by decide +kernel
theorem dX10_shortenByRounds_106 : decode cX10_shortenByRounds 106 = .ok (.goto (-104), 3) := by decide +kernel
theorem dX10_shortenByRounds_109 : decode cX10_shortenByRounds 109 = .ok (.return_, 1) := by decide +kernel
theorem bX10_shortenByRounds_0 {Z : ZT} {X : XT} {μ : Mu} (E : Ent Z X mX10_shortenByRounds 0 0)  
    (k : JS Z X 2 [(0, .ref (Z.2.2.1 + 73)), (1, .int (nI 0))] [] μ) :
    JS Z X 0 [(0, .ref (Z.2.2.1 + 73))] [] μ := by
  refine J_iconst (v := nI 0) E dX10_shortenByRounds_0 rfl ?_
  refine J_istore_n (lv' := [(0, .ref (Z.2.2.1 + 73)), (1, .int (nI 0))]) E dX10_shortenByRounds_1 (Nat.le_of_ble_eq_true rfl) rfl ?_
  exact k
theorem bX10_shortenByRounds_2 {Z : ZT} {X : XT} {μ : Mu} {a1 : Int32} (E : Ent Z X mX10_shortenByRounds 0 0)  
    (kt : (μ 1 0) ≤ a1 → JS Z X 109 [] [] μ) (kf : ¬ ((μ 1 0) ≤ a1) → JS Z X 13 [(0, .ref (Z.2.2.1 + 73)), (1, .int a1)] [] μ) :
    JS Z X 2 [(0, .ref (Z.2.2.1 + 73)), (1, .int a1)] [] μ := by
  refine J_iload_n E dX10_shortenByRounds_2 rfl ?_
  refine J_aload_n E dX10_shortenByRounds_3 rfl ?_
  refine S_get (ci := 10) (q := 0) (v := .ref (Z.2.2.1 + 1)) E dX10_shortenByRounds_4 fs_X10_24 sh73 rfl ?_
  refine S_get (ci := 3) (q := 0) (v := .int (μ 1 0)) E dX10_shortenByRounds_7 fs_X10_43 sh1 rfl ?_
  refine J_icmp_ge (tgt := 109) E dX10_shortenByRounds_10 (by decide) (fun c => ?_) (fun c => ?_)
  · refine J.weak [] rfl ?_
    exact kt c
  · exact kf c
theorem bX10_shortenByRounds_13 {Z : ZT} {X : XT} {μ : Mu} {a1 : Int32} (E : Ent Z X mX10_shortenByRounds 0 0)  
    (k : JS Z X 15 [(0, .ref (Z.2.2.1 + 73)), (1, .int a1), (2, .int (nI 0))] [] μ) :
    JS Z X 13 [(0, .ref (Z.2.2.1 + 73)), (1, .int a1)] [] μ := by
  refine J_iconst (v := nI 0) E dX10_shortenByRounds_13 rfl ?_
  refine J_istore_n (lv' := [(0, .ref (Z.2.2.1 + 73)), (1, .int a1), (2, .int (nI 0))]) E dX10_shortenByRounds_14 (Nat.le_of_ble_eq_true rfl) rfl ?_
  exact k
theorem bX10_shortenByRounds_15 {Z : ZT} {X : XT} {μ : Mu} {a1 : Int32} {a2 : Int32} (E : Ent Z X mX10_shortenByRounds 0 0)  
    (kt : (μ 1 0) ≤ a2 → JS Z X 103 [(0, .ref (Z.2.2.1 + 73)), (1, .int a1)] [] μ) (kf : ¬ ((μ 1 0) ≤ a2) → JS Z X 26 [(0, .ref (Z.2.2.1 + 73)), (1, .int a1), (2, .int a2)] [] μ) :
    JS Z X 15 [(0, .ref (Z.2.2.1 + 73)), (1, .int a1), (2, .int a2)] [] μ := by
  refine J_iload_n E dX10_shortenByRounds_15 rfl ?_
  refine J_aload_n E dX10_shortenByRounds_16 rfl ?_
  refine S_get (ci := 10) (q := 0) (v := .ref (Z.2.2.1 + 1)) E dX10_shortenByRounds_17 fs_X10_24 sh73 rfl ?_
  refine S_get (ci := 3) (q := 0) (v := .int (μ 1 0)) E dX10_shortenByRounds_20 fs_X10_43 sh1 rfl ?_
  refine J_icmp_ge (tgt := 103) E dX10_shortenByRounds_23 (by decide) (fun c => ?_) (fun c => ?_)
  · refine J.weak [0, 1] rfl ?_
    exact kt c
  · exact kf c
theorem bX10_shortenByRounds_26 {Z : ZT} {X : XT} {μ : Mu} {a1 : Int32} {a2 : Int32} (E : Ent Z X mX10_shortenByRounds 0 0)  
    (k : JS Z X 28 [(0, .ref (Z.2.2.1 + 73)), (1, .int a1), (2, .int a2), (3, .int (nI 0))] [] μ) :
    JS Z X 26 [(0, .ref (Z.2.2.1 + 73)), (1, .int a1), (2, .int a2)] [] μ := by
  refine J_iconst (v := nI 0) E dX10_shortenByRounds_26 rfl ?_
  refine J_istore_n (lv' := [(0, .ref (Z.2.2.1 + 73)), (1, .int a1), (2, .int a2), (3, .int (nI 0))]) E dX10_shortenByRounds_27 (Nat.le_of_ble_eq_true rfl) rfl ?_
  exact k
theorem bX10_shortenByRounds_28 {Z : ZT} {X : XT} {μ : Mu} {a1 : Int32} {a2 : Int32} {a3 : Int32} (E : Ent Z X mX10_shortenByRounds 0 0)  
    (kt : (μ 1 0) ≤ a3 → JS Z X 97 [(0, .ref (Z.2.2.1 + 73)), (1, .int a1), (2, .int a2)] [] μ) (kf : ¬ ((μ 1 0) ≤ a3) → JS Z X 39 [(0, .ref (Z.2.2.1 + 73)), (1, .int a1), (2, .int a2), (3, .int a3)] [] μ) :
    JS Z X 28 [(0, .ref (Z.2.2.1 + 73)), (1, .int a1), (2, .int a2), (3, .int a3)] [] μ := by
  refine J_iload_n E dX10_shortenByRounds_28 rfl ?_
  refine J_aload_n E dX10_shortenByRounds_29 rfl ?_
  refine S_get (ci := 10) (q := 0) (v := .ref (Z.2.2.1 + 1)) E dX10_shortenByRounds_30 fs_X10_24 sh73 rfl ?_
  refine S_get (ci := 3) (q := 0) (v := .int (μ 1 0)) E dX10_shortenByRounds_33 fs_X10_43 sh1 rfl ?_
  refine J_icmp_ge (tgt := 97) E dX10_shortenByRounds_36 (by decide) (fun c => ?_) (fun c => ?_)
  · refine J.weak [0, 1, 2] rfl ?_
    exact kt c
  · exact kf c
theorem bX10_shortenByRounds_39 {Z : ZT} {X : XT} {μ : Mu} {a1 : Int32} {a2 : Int32} {a3 : Int32} (E : Ent Z X mX10_shortenByRounds 0 0)  (s1_ : vp_in ((a2 * (nI 10)) + a1) 100) (s2_ : vp_in ((a1 * (nI 10)) + a3) 100) (s3_ : vp_in ((a2 * (nI 10)) + a3) 100) (s4_ : vp_in ((a2 * (nI 10)) + a3) 100)
    (k : JS Z X 91 [(0, .ref (Z.2.2.1 + 73)), (1, .int a1), (2, .int a2), (3, .int a3)] [] (uR μ 74 (upd (μ 74) (ix ((a2 * (nI 10)) + a3)) (if (μ 74 (ix ((a2 * (nI 10)) + a3))) < ((μ 74 (ix ((a2 * (nI 10)) + a1))) + (μ 74 (ix ((a1 * (nI 10)) + a3)))) then (μ 74 (ix ((a2 * (nI 10)) + a3))) else ((μ 74 (ix ((a2 * (nI 10)) + a1))) + (μ 74 (ix ((a1 * (nI 10)) + a3)))))))) :
    JS Z X 39 [(0, .ref (Z.2.2.1 + 73)), (1, .int a1), (2, .int a2), (3, .int a3)] [] μ := by
  refine J_aload_n E dX10_shortenByRounds_39 rfl ?_
  refine S_get (ci := 10) (q := 1) (v := .ref (Z.2.2.1 + 74)) E dX10_shortenByRounds_40 fs_X10_9 sh73 rfl ?_
  refine J_iload_n E dX10_shortenByRounds_43 rfl ?_
  refine J_bipush (v := nI 10) E dX10_shortenByRounds_44 rfl ?_
  refine J_imul E dX10_shortenByRounds_46 ?_
  refine J_iload_n E dX10_shortenByRounds_47 rfl ?_
  refine J_iadd E dX10_shortenByRounds_48 ?_
  refine S_iald E dX10_shortenByRounds_49 sh74 s1_ ?_
  refine J_aload_n E dX10_shortenByRounds_50 rfl ?_
  refine S_get (ci := 10) (q := 1) (v := .ref (Z.2.2.1 + 74)) E dX10_shortenByRounds_51 fs_X10_9 sh73 rfl ?_
  refine J_iload_n E dX10_shortenByRounds_54 rfl ?_
  refine J_bipush (v := nI 10) E dX10_shortenByRounds_55 rfl ?_
  refine J_imul E dX10_shortenByRounds_57 ?_
  refine J_iload_n E dX10_shortenByRounds_58 rfl ?_
  refine J_iadd E dX10_shortenByRounds_59 ?_
  refine S_iald E dX10_shortenByRounds_60 sh74 s2_ ?_
  refine J_iadd E dX10_shortenByRounds_61 ?_
  refine J_istore (lv' := [(0, .ref (Z.2.2.1 + 73)), (1, .int a1), (2, .int a2), (3, .int a3), (4, .int ((μ 74 (ix ((a2 * (nI 10)) + a1))) + (μ 74 (ix ((a1 * (nI 10)) + a3)))))]) E dX10_shortenByRounds_62 (Nat.le_of_ble_eq_true rfl) rfl ?_
  refine J_aload_n E dX10_shortenByRounds_64 rfl ?_
  refine S_get (ci := 10) (q := 1) (v := .ref (Z.2.2.1 + 74)) E dX10_shortenByRounds_65 fs_X10_9 sh73 rfl ?_
  refine J_iload_n E dX10_shortenByRounds_68 rfl ?_
  refine J_bipush (v := nI 10) E dX10_shortenByRounds_69 rfl ?_
  refine J_imul E dX10_shortenByRounds_71 ?_
  refine J_iload_n E dX10_shortenByRounds_72 rfl ?_
  refine J_iadd E dX10_shortenByRounds_73 ?_
  refine J_iload E dX10_shortenByRounds_74 rfl ?_
  refine J_aload_n E dX10_shortenByRounds_76 rfl ?_
  refine S_get (ci := 10) (q := 1) (v := .ref (Z.2.2.1 + 74)) E dX10_shortenByRounds_77 fs_X10_9 sh73 rfl ?_
  refine J_iload_n E dX10_shortenByRounds_80 rfl ?_
  refine J_bipush (v := nI 10) E dX10_shortenByRounds_81 rfl ?_
  refine J_imul E dX10_shortenByRounds_83 ?_
  refine J_iload_n E dX10_shortenByRounds_84 rfl ?_
  refine J_iadd E dX10_shortenByRounds_85 ?_
  refine S_iald E dX10_shortenByRounds_86 sh74 s3_ ?_
  refine J_mmin E dX10_shortenByRounds_87 w4_56 w2_189 w1_13 w2_190 (Nat.le_of_ble_eq_true rfl) (Nat.le_of_ble_eq_true rfl) (Nat.le_refl 0) (Nat.le_refl 0) ?_
  refine S_iast E dX10_shortenByRounds_90 sh74 s4_ ?_
  refine J.weak [0, 1, 2, 3] rfl ?_
  exact k
theorem bX10_shortenByRounds_91 {Z : ZT} {X : XT} {μ : Mu} {a1 : Int32} {a2 : Int32} {a3 : Int32} (E : Ent Z X mX10_shortenByRounds 0 0)  
    (k : JS Z X 28 [(0, .ref (Z.2.2.1 + 73)), (1, .int a1), (2, .int a2), (3, .int (a3 + nI 1))] [] μ) :
    JS Z X 91 [(0, .ref (Z.2.2.1 + 73)), (1, .int a1), (2, .int a2), (3, .int a3)] [] μ := by
  refine J_iinc (v := a3 + nI 1) (lv' := [(0, .ref (Z.2.2.1 + 73)), (1, .int a1), (2, .int a2), (3, .int (a3 + nI 1))]) E dX10_shortenByRounds_91 rfl rfl (Nat.le_of_ble_eq_true rfl) rfl ?_
  refine J_goto (tgt := 28) E dX10_shortenByRounds_94 (by decide) ?_
  exact k
theorem bX10_shortenByRounds_97 {Z : ZT} {X : XT} {μ : Mu} {a1 : Int32} {a2 : Int32} (E : Ent Z X mX10_shortenByRounds 0 0)  
    (k : JS Z X 15 [(0, .ref (Z.2.2.1 + 73)), (1, .int a1), (2, .int (a2 + nI 1))] [] μ) :
    JS Z X 97 [(0, .ref (Z.2.2.1 + 73)), (1, .int a1), (2, .int a2)] [] μ := by
  refine J_iinc (v := a2 + nI 1) (lv' := [(0, .ref (Z.2.2.1 + 73)), (1, .int a1), (2, .int (a2 + nI 1))]) E dX10_shortenByRounds_97 rfl rfl (Nat.le_of_ble_eq_true rfl) rfl ?_
  refine J_goto (tgt := 15) E dX10_shortenByRounds_100 (by decide) ?_
  exact k
theorem bX10_shortenByRounds_103 {Z : ZT} {X : XT} {μ : Mu} {a1 : Int32} (E : Ent Z X mX10_shortenByRounds 0 0)  
    (k : JS Z X 2 [(0, .ref (Z.2.2.1 + 73)), (1, .int (a1 + nI 1))] [] μ) :
    JS Z X 103 [(0, .ref (Z.2.2.1 + 73)), (1, .int a1)] [] μ := by
  refine J_iinc (v := a1 + nI 1) (lv' := [(0, .ref (Z.2.2.1 + 73)), (1, .int (a1 + nI 1))]) E dX10_shortenByRounds_103 rfl rfl (Nat.le_of_ble_eq_true rfl) rfl ?_
  refine J_goto (tgt := 2) E dX10_shortenByRounds_106 (by decide) ?_
  exact k
theorem bX10_shortenByRounds_109 {Z : ZT} {X : XT} {μ : Mu} (E : Ent Z X mX10_shortenByRounds 0 0) {P : Option Value → Mu → Prop} (hB : BodS Z X P) 
    (k : P none μ) :
    JS Z X 109 [] [] μ := by
  exact S_vret E hB dX10_shortenByRounds_109 rfl k
theorem dX10_chooseSteps_0 : decode cX10_chooseSteps 0 = .ok (.iconst 0, 1) := by decide +kernel
theorem dX10_chooseSteps_1 : decode cX10_chooseSteps 1 = .ok (.istore_n 1, 1) := by decide +kernel
theorem dX10_chooseSteps_2 : decode cX10_chooseSteps 2 = .ok (.iload_n 1, 1) := by decide +kernel
theorem dX10_chooseSteps_3 : decode cX10_chooseSteps 3 = .ok (.aload_n 0, 1) := by decide +kernel
theorem dX10_chooseSteps_4 : decode cX10_chooseSteps 4 = .ok (.getfield 24, 3) := by decide +kernel
theorem dX10_chooseSteps_7 : decode cX10_chooseSteps 7 = .ok (.getfield 43, 3) := by decide +kernel
theorem dX10_chooseSteps_10 : decode cX10_chooseSteps 10 = .ok (.if_icmp .ge 121, 3) := by decide +kernel
theorem dX10_chooseSteps_13 : decode cX10_chooseSteps 13 = .ok (.iconst 0, 1) := by decide +kernel
theorem dX10_chooseSteps_14 : decode cX10_chooseSteps 14 = .ok (.istore_n 2, 1) := by decide +kernel
theorem dX10_chooseSteps_15 : decode cX10_chooseSteps 15 = .ok (.iload_n 2, 1) := by decide +kernel
theorem dX10_chooseSteps_16 : decode cX10_chooseSteps 16 = .ok (.aload_n 0, 1) := by decide +kernel
theorem dX10_chooseSteps_17 : decode cX10_chooseSteps 17 = .ok (.getfield 24, 3) := by decide +kernel
theorem dX10_chooseSteps_20 : decode cX10_chooseSteps 20 = .ok (.getfield 43, 3) := by decide +kernel
theorem dX10_chooseSteps_23 : decode cX10_chooseSteps 23 = .ok (.if_icmp .ge 102, 3) := by decide +kernel
theorem dX10_chooseSteps_26 : decode cX10_chooseSteps 26 = .ok (.aload_n 0, 1) := by decide +kernel
theorem dX10_chooseSteps_27 : decode cX10_chooseSteps 27 = .ok (.getfield 15, 3) := by decide +kernel
theorem dX10_chooseSteps_30 : decode cX10_chooseSteps 30 = .ok (.iload_n 1, 1) := by decide +kernel
theorem dX10_chooseSteps_31 : decode cX10_chooseSteps 31 = .ok (.bipush 10, 2) := by decide +kernel
theorem dX10_chooseSteps_33 : decode cX10_chooseSteps 33 = .ok (.imul, 1) := by decide +kernel
theorem dX10_chooseSteps_34 : decode cX10_chooseSteps 34 = .ok (.iload_n 2, 1) := by decide +kernel
theorem dX10_chooseSteps_35 : decode cX10_chooseSteps 35 = .ok (.iadd, 1) := by decide +kernel
theorem dX10_chooseSteps_36 : decode cX10_chooseSteps 36 = .ok (.iload_n 2, 1) := by decide +kernel
theorem dX10_chooseSteps_37 : decode cX10_chooseSteps 37 = .ok (.iastore, 1) := by decide +kernel
theorem dX10_chooseSteps_38 : decode cX10_chooseSteps 38 = .ok (.aload_n 0, 1) := by decide +kernel
theorem dX10_chooseSteps_39 : decode cX10_chooseSteps 39 = .ok (.getfield 24, 3) := by decide +kernel
theorem dX10_chooseSteps_42 : decode cX10_chooseSteps 42 = .ok (.getfield 43, 3) := by decide +kernel
theorem dX10_chooseSteps_45 : decode cX10_chooseSteps 45 = .ok (.iconst 1, 1) := by decide +kernel
theorem dX10_chooseSteps_46 : decode cX10_chooseSteps 46 = .ok (.isub, 1) := by decide +kernel
theorem dX10_chooseSteps_47 : decode cX10_chooseSteps 47 = .ok (.istore_n 3, 1) := by decide +kernel
theorem dX10_chooseSteps_48 : decode cX10_chooseSteps 48 = .ok (.iload_n 3, 1) := by decide +kernel
theorem dX10_chooseSteps_49 : decode cX10_chooseSteps 49 = .ok (.ifCond .lt 70, 3) := by decide +kernel
theorem dX10_chooseSteps_52 : decode cX10_chooseSteps 52 = .ok (.aload_n 0, 1) := by decide +kernel
theorem dX10_chooseSteps_53 : decode cX10_chooseSteps 53 = .ok (.getfield 24, 3) := by decide +kernel
theorem dX10_chooseSteps_56 : decode cX10_chooseSteps 56 = .ok (.getfield 49, 3) := by decide +kernel
theorem dX10_chooseSteps_59 : decode cX10_chooseSteps 59 = .ok (.iload_n 1, 1) := by decide +kernel
theorem dX10_chooseSteps_60 : decode cX10_chooseSteps 60 = .ok (.bipush 10, 2) := by decide +kernel
theorem dX10_chooseSteps_62 : decode cX10_chooseSteps 62 = .ok (.imul, 1) := by decide +kernel
theorem dX10_chooseSteps_63 : decode cX10_chooseSteps 63 = .ok (.iload_n 3, 1) := by decide +kernel
theorem dX10_chooseSteps_64 : decode cX10_chooseSteps 64 = .ok (.iadd, 1) := by decide +kernel
theorem dX10_chooseSteps_65 : decode cX10_chooseSteps 65 = .ok (.iaload, 1) := by decide +kernel
theorem dX10_chooseSteps_66 : decode cX10_chooseSteps 66 = .ok (.istore 4, 2) := by decide +kernel
theorem dX10_chooseSteps_68 : decode cX10_chooseSteps 68 = .ok (.iload 4, 2) := by decide +kernel
theorem dX10_chooseSteps_70 : decode cX10_chooseSteps 70 = .ok (.ifCond .le 43, 3) := by decide +kernel
theorem dX10_chooseSteps_73 : decode cX10_chooseSteps 73 = .ok (.iload 4, 2) := by decide +kernel
theorem dX10_chooseSteps_75 : decode cX10_chooseSteps 75 = .ok (.aload_n 0, 1) := by decide +kernel
theorem dX10_chooseSteps_76 : decode cX10_chooseSteps 76 = .ok (.getfield 9, 3) := by decide +kernel
theorem dX10_chooseSteps_79 : decode cX10_chooseSteps 79 = .ok (.iload_n 3, 1) := by decide +kernel
theorem dX10_chooseSteps_80 : decode cX10_chooseSteps 80 = .ok (.bipush 10, 2) := by decide +kernel
theorem dX10_chooseSteps_82 : decode cX10_chooseSteps 82 = .ok (.imul, 1) := by decide +kernel
theorem dX10_chooseSteps_83 : decode cX10_chooseSteps 83 = .ok (.iload_n 2, 1) := by decide +kernel
theorem dX10_chooseSteps_84 : decode cX10_chooseSteps 84 = .ok (.iadd, 1) := by decide +kernel
theorem dX10_chooseSteps_85 : decode cX10_chooseSteps 85 = .ok (.iaload, 1) := by decide +kernel
theorem dX10_chooseSteps_86 : decode cX10_chooseSteps 86 = .ok (.iadd, 1) := by decide +kernel
theorem dX10_chooseSteps_87 : decode cX10_chooseSteps 87 = .ok (.aload_n 0, 1) := by decide +kernel
theorem dX10_chooseSteps_88 : decode cX10_chooseSteps 88 = .ok (.getfield 9, 3) := by decide +kernel
theorem dX10_chooseSteps_91 : decode cX10_chooseSteps 91 = .ok (.iload_n 1, 1) := by decide +kernel
theorem dX10_chooseSteps_92 : decode cX10_chooseSteps 92 = .ok (.bipush 10, 2) := by decide +kernel
theorem dX10_chooseSteps_94 : decode cX10_chooseSteps 94 = .ok (.imul, 1) := by decide +kernel
theorem dX10_chooseSteps_95 : decode cX10_chooseSteps 95 = .ok (.iload_n 2, 1) := by decide +kernel
theorem dX10_chooseSteps_96 : decode cX10_chooseSteps 96 = .ok (.iadd, 1) := by decide +kernel
theorem dX10_chooseSteps_97 : decode cX10_chooseSteps 97 = .ok (.iaload, 1) := by decide +kernel
theorem dX10_chooseSteps_98 : decode cX10_chooseSteps 98 = .ok (.if_icmp .ne 15, 3) := by decide +kernel
theorem dX10_chooseSteps_101 : decode cX10_chooseSteps 101 = .ok (.aload_n 0, 1) := by decide +kernel
theorem dX10_chooseSteps_102 : decode cX10_chooseSteps 102 = .ok (.getfield 15, 3) := by decide +kernel
theorem dX10_chooseSteps_105 : decode cX10_chooseSteps 105 = .ok (.iload_n 1, 1) := by decide +kernel
theorem dX10_chooseSteps_106 : decode cX10_chooseSteps 106 = .ok (.bipush 10, 2) := by decide +kernel
theorem dX10_chooseSteps_108 : decode cX10_chooseSteps 108 = .ok (.imul, 1) := by decide +kernel
theorem dX10_chooseSteps_109 : decode cX10_chooseSteps 109 = .ok (.iload_n 2, 1) := by decide +kernel
theorem dX10_chooseSteps_110 : decode cX10_chooseSteps 110 = .ok (.iadd, 1) := by decide +kernel
theorem dX10_chooseSteps_111 : decode cX10_chooseSteps 111 = .ok (.iload_n 3, 1) := by decide +kernel
theorem dX10_chooseSteps_112 : decode cX10_chooseSteps 112 = .ok (.iastore, 1) := by decide +kernel
theorem dX10_chooseSteps_113 : decode cX10_chooseSteps 113 = .ok (.iinc 3 (-1), 3) := by decide +kernel
theorem dX10_chooseSteps_116 : decode cX10_chooseSteps 116 = .ok (.goto (-68), 3) := by decide +kernel
theorem dX10_chooseSteps_119 : decode cX10_chooseSteps 119 = .ok (.iinc 2 1, 3) := by decide +kernel
theorem dX10_chooseSteps_122 : decode cX10_chooseSteps 122 = .ok (.goto (-107), 3) := by decide +kernel
theorem dX10_chooseSteps_125 : decode cX10_chooseSteps 125 = .ok (.iinc 1 1, 3) := by decide +kernel
theorem dX10_chooseSteps_128 : decode cX10_chooseSteps 128 = .ok (.goto (-126), 3) := by decide +kernel
theorem dX10_chooseSteps_131 : decode cX10_chooseSteps 131 = .ok (.return_, 1) := by decide +kernel
theorem bX10_chooseSteps_0 {Z : ZT} {X : XT} {μ : Mu} (E : Ent Z X mX10_chooseSteps 0 0)  
    (k : JS Z X 2 [(0, .ref (Z.2.2.1 + 73)), (1, .int (nI 0))] [] μ) :
    JS Z X 0 [(0, .ref (Z.2.2.1 + 73))] [] μ := by
  refine J_iconst (v := nI 0) E dX10_chooseSteps_0 rfl ?_
  refine J_istore_n (lv' := [(0, .ref (Z.2.2.1 + 73)), (1, .int (nI 0))]) E dX10_chooseSteps_1 (Nat.le_of_ble_eq_true rfl) rfl ?_
  exact k
theorem bX10_chooseSteps_2 {Z : ZT} {X : XT} {μ : Mu} {a1 : Int32} (E : Ent Z X mX10_chooseSteps 0 0)  
    (kt : (μ 1 0) ≤ a1 → JS Z X 131 [] [] μ) (kf : ¬ ((μ 1 0) ≤ a1) → JS Z X 13 [(0, .ref (Z.2.2.1 + 73)), (1, .int a1)] [] μ) :
    JS Z X 2 [(0, .ref (Z.2.2.1 + 73)), (1, .int a1)] [] μ := by
  refine J_iload_n E dX10_chooseSteps_2 rfl ?_
  refine J_aload_n E dX10_chooseSteps_3 rfl ?_
  refine S_get (ci := 10) (q := 0) (v := .ref (Z.2.2.1 + 1)) E dX10_chooseSteps_4 fs_X10_24 sh73 rfl ?_
  refine S_get (ci := 3) (q := 0) (v := .int (μ 1 0)) E dX10_chooseSteps_7 fs_X10_43 sh1 rfl ?_
  refine J_icmp_ge (tgt := 131) E dX10_chooseSteps_10 (by decide) (fun c => ?_) (fun c => ?_)
  · refine J.weak [] rfl ?_
    exact kt c
  · exact kf c
theorem bX10_chooseSteps_13 {Z : ZT} {X : XT} {μ : Mu} {a1 : Int32} (E : Ent Z X mX10_chooseSteps 0 0)  
    (k : JS Z X 15 [(0, .ref (Z.2.2.1 + 73)), (1, .int a1), (2, .int (nI 0))] [] μ) :
    JS Z X 13 [(0, .ref (Z.2.2.1 + 73)), (1, .int a1)] [] μ := by
  refine J_iconst (v := nI 0) E dX10_chooseSteps_13 rfl ?_
  refine J_istore_n (lv' := [(0, .ref (Z.2.2.1 + 73)), (1, .int a1), (2, .int (nI 0))]) E dX10_chooseSteps_14 (Nat.le_of_ble_eq_true rfl) rfl ?_
  exact k
theorem bX10_chooseSteps_15 {Z : ZT} {X : XT} {μ : Mu} {a1 : Int32} {a2 : Int32} (E : Ent Z X mX10_chooseSteps 0 0)  
    (kt : (μ 1 0) ≤ a2 → JS Z X 125 [(0, .ref (Z.2.2.1 + 73)), (1, .int a1)] [] μ) (kf : ¬ ((μ 1 0) ≤ a2) → JS Z X 26 [(0, .ref (Z.2.2.1 + 73)), (1, .int a1), (2, .int a2)] [] μ) :
    JS Z X 15 [(0, .ref (Z.2.2.1 + 73)), (1, .int a1), (2, .int a2)] [] μ := by
  refine J_iload_n E dX10_chooseSteps_15 rfl ?_
  refine J_aload_n E dX10_chooseSteps_16 rfl ?_
  refine S_get (ci := 10) (q := 0) (v := .ref (Z.2.2.1 + 1)) E dX10_chooseSteps_17 fs_X10_24 sh73 rfl ?_
  refine S_get (ci := 3) (q := 0) (v := .int (μ 1 0)) E dX10_chooseSteps_20 fs_X10_43 sh1 rfl ?_
  refine J_icmp_ge (tgt := 125) E dX10_chooseSteps_23 (by decide) (fun c => ?_) (fun c => ?_)
  · refine J.weak [0, 1] rfl ?_
    exact kt c
  · exact kf c
theorem bX10_chooseSteps_26 {Z : ZT} {X : XT} {μ : Mu} {a1 : Int32} {a2 : Int32} (E : Ent Z X mX10_chooseSteps 0 0)  (s1_ : vp_in ((a1 * (nI 10)) + a2) 100)
    (k : JS Z X 38 [(0, .ref (Z.2.2.1 + 73)), (1, .int a1), (2, .int a2)] [] (uR μ 75 (upd (μ 75) (ix ((a1 * (nI 10)) + a2)) a2))) :
    JS Z X 26 [(0, .ref (Z.2.2.1 + 73)), (1, .int a1), (2, .int a2)] [] μ := by
  refine J_aload_n E dX10_chooseSteps_26 rfl ?_
  refine S_get (ci := 10) (q := 2) (v := .ref (Z.2.2.1 + 75)) E dX10_chooseSteps_27 fs_X10_15 sh73 rfl ?_
  refine J_iload_n E dX10_chooseSteps_30 rfl ?_
  refine J_bipush (v := nI 10) E dX10_chooseSteps_31 rfl ?_
  refine J_imul E dX10_chooseSteps_33 ?_
  refine J_iload_n E dX10_chooseSteps_34 rfl ?_
  refine J_iadd E dX10_chooseSteps_35 ?_
  refine J_iload_n E dX10_chooseSteps_36 rfl ?_
  refine S_iast E dX10_chooseSteps_37 sh75 s1_ ?_
  exact k
theorem bX10_chooseSteps_38 {Z : ZT} {X : XT} {μ : Mu} {a1 : Int32} {a2 : Int32} (E : Ent Z X mX10_chooseSteps 0 0)  
    (k : JS Z X 48 [(0, .ref (Z.2.2.1 + 73)), (1, .int a1), (2, .int a2), (3, .int ((μ 1 0) - (nI 1)))] [] μ) :
    JS Z X 38 [(0, .ref (Z.2.2.1 + 73)), (1, .int a1), (2, .int a2)] [] μ := by
  refine J_aload_n E dX10_chooseSteps_38 rfl ?_
  refine S_get (ci := 10) (q := 0) (v := .ref (Z.2.2.1 + 1)) E dX10_chooseSteps_39 fs_X10_24 sh73 rfl ?_
  refine S_get (ci := 3) (q := 0) (v := .int (μ 1 0)) E dX10_chooseSteps_42 fs_X10_43 sh1 rfl ?_
  refine J_iconst (v := nI 1) E dX10_chooseSteps_45 rfl ?_
  refine J_isub E dX10_chooseSteps_46 ?_
  refine J_istore_n (lv' := [(0, .ref (Z.2.2.1 + 73)), (1, .int a1), (2, .int a2), (3, .int ((μ 1 0) - (nI 1)))]) E dX10_chooseSteps_47 (Nat.le_of_ble_eq_true rfl) rfl ?_
  exact k
theorem bX10_chooseSteps_48 {Z : ZT} {X : XT} {μ : Mu} {a1 : Int32} {a2 : Int32} {a3 : Int32} (E : Ent Z X mX10_chooseSteps 0 0)  
    (kt : a3 < 0 → JS Z X 119 [(0, .ref (Z.2.2.1 + 73)), (1, .int a1), (2, .int a2)] [] μ) (kf : ¬ (a3 < 0) → JS Z X 52 [(0, .ref (Z.2.2.1 + 73)), (1, .int a1), (2, .int a2), (3, .int a3)] [] μ) :
    JS Z X 48 [(0, .ref (Z.2.2.1 + 73)), (1, .int a1), (2, .int a2), (3, .int a3)] [] μ := by
  refine J_iload_n E dX10_chooseSteps_48 rfl ?_
  refine J_if_lt (tgt := 119) E dX10_chooseSteps_49 (by decide) (fun c => ?_) (fun c => ?_)
  · refine J.weak [0, 1, 2] rfl ?_
    exact kt c
  · exact kf c
theorem bX10_chooseSteps_52 {Z : ZT} {X : XT} {μ : Mu} {a1 : Int32} {a2 : Int32} {a3 : Int32} (E : Ent Z X mX10_chooseSteps 0 0)  (s1_ : vp_in ((a1 * (nI 10)) + a3) 100)
    (kt : (μ (1 + 1) (ix ((a1 * (nI 10)) + a3))) ≤ 0 → JS Z X 113 [(0, .ref (Z.2.2.1 + 73)), (1, .int a1), (2, .int a2), (3, .int a3)] [] μ) (kf : ¬ ((μ (1 + 1) (ix ((a1 * (nI 10)) + a3))) ≤ 0) → JS Z X 73 [(0, .ref (Z.2.2.1 + 73)), (1, .int a1), (2, .int a2), (3, .int a3), (4, .int (μ (1 + 1) (ix ((a1 * (nI 10)) + a3))))] [] μ) :
    JS Z X 52 [(0, .ref (Z.2.2.1 + 73)), (1, .int a1), (2, .int a2), (3, .int a3)] [] μ := by
  refine J_aload_n E dX10_chooseSteps_52 rfl ?_
  refine S_get (ci := 10) (q := 0) (v := .ref (Z.2.2.1 + 1)) E dX10_chooseSteps_53 fs_X10_24 sh73 rfl ?_
  refine S_get (ci := 3) (q := 1) (v := .ref (Z.2.2.1 + (1 + 1))) E dX10_chooseSteps_56 fs_X10_49 sh1 rfl ?_
  refine J_iload_n E dX10_chooseSteps_59 rfl ?_
  refine J_bipush (v := nI 10) E dX10_chooseSteps_60 rfl ?_
  refine J_imul E dX10_chooseSteps_62 ?_
  refine J_iload_n E dX10_chooseSteps_63 rfl ?_
  refine J_iadd E dX10_chooseSteps_64 ?_
  refine S_iald E dX10_chooseSteps_65 (shr_X3_1 sh1) s1_ ?_
  refine J_istore (lv' := [(0, .ref (Z.2.2.1 + 73)), (1, .int a1), (2, .int a2), (3, .int a3), (4, .int (μ (1 + 1) (ix ((a1 * (nI 10)) + a3))))]) E dX10_chooseSteps_66 (Nat.le_of_ble_eq_true rfl) rfl ?_
  refine J_iload E dX10_chooseSteps_68 rfl ?_
  refine J_if_le (tgt := 113) E dX10_chooseSteps_70 (by decide) (fun c => ?_) (fun c => ?_)
  · refine J.weak [0, 1, 2, 3] rfl ?_
    exact kt c
  · exact kf c
theorem bX10_chooseSteps_73 {Z : ZT} {X : XT} {μ : Mu} {a1 : Int32} {a2 : Int32} {a3 : Int32} {a4 : Int32} (E : Ent Z X mX10_chooseSteps 0 0)  (s1_ : vp_in ((a3 * (nI 10)) + a2) 100) (s2_ : vp_in ((a1 * (nI 10)) + a2) 100)
    (kt : ¬ (a4 + (μ 74 (ix ((a3 * (nI 10)) + a2)))) = (μ 74 (ix ((a1 * (nI 10)) + a2))) → JS Z X 113 [(0, .ref (Z.2.2.1 + 73)), (1, .int a1), (2, .int a2), (3, .int a3)] [] μ) (kf : (a4 + (μ 74 (ix ((a3 * (nI 10)) + a2)))) = (μ 74 (ix ((a1 * (nI 10)) + a2))) → JS Z X 101 [(0, .ref (Z.2.2.1 + 73)), (1, .int a1), (2, .int a2), (3, .int a3)] [] μ) :
    JS Z X 73 [(0, .ref (Z.2.2.1 + 73)), (1, .int a1), (2, .int a2), (3, .int a3), (4, .int a4)] [] μ := by
  refine J_iload E dX10_chooseSteps_73 rfl ?_
  refine J_aload_n E dX10_chooseSteps_75 rfl ?_
  refine S_get (ci := 10) (q := 1) (v := .ref (Z.2.2.1 + 74)) E dX10_chooseSteps_76 fs_X10_9 sh73 rfl ?_
  refine J_iload_n E dX10_chooseSteps_79 rfl ?_
  refine J_bipush (v := nI 10) E dX10_chooseSteps_80 rfl ?_
  refine J_imul E dX10_chooseSteps_82 ?_
  refine J_iload_n E dX10_chooseSteps_83 rfl ?_
  refine J_iadd E dX10_chooseSteps_84 ?_
  refine S_iald E dX10_chooseSteps_85 sh74 s1_ ?_
  refine J_iadd E dX10_chooseSteps_86 ?_
  refine J_aload_n E dX10_chooseSteps_87 rfl ?_
  refine S_get (ci := 10) (q := 1) (v := .ref (Z.2.2.1 + 74)) E dX10_chooseSteps_88 fs_X10_9 sh73 rfl ?_
  refine J_iload_n E dX10_chooseSteps_91 rfl ?_
  refine J_bipush (v := nI 10) E dX10_chooseSteps_92 rfl ?_
  refine J_imul E dX10_chooseSteps_94 ?_
  refine J_iload_n E dX10_chooseSteps_95 rfl ?_
  refine J_iadd E dX10_chooseSteps_96 ?_
  refine S_iald E dX10_chooseSteps_97 sh74 s2_ ?_
  refine J_icmp_ne (tgt := 113) E dX10_chooseSteps_98 (by decide) (fun c => ?_) (fun c => ?_)
  · refine J.weak [0, 1, 2, 3] rfl ?_
    exact kt c
  · refine J.weak [0, 1, 2, 3] rfl ?_
    exact kf c
theorem bX10_chooseSteps_101 {Z : ZT} {X : XT} {μ : Mu} {a1 : Int32} {a2 : Int32} {a3 : Int32} (E : Ent Z X mX10_chooseSteps 0 0)  (s1_ : vp_in ((a1 * (nI 10)) + a2) 100)
    (k : JS Z X 113 [(0, .ref (Z.2.2.1 + 73)), (1, .int a1), (2, .int a2), (3, .int a3)] [] (uR μ 75 (upd (μ 75) (ix ((a1 * (nI 10)) + a2)) a3))) :
    JS Z X 101 [(0, .ref (Z.2.2.1 + 73)), (1, .int a1), (2, .int a2), (3, .int a3)] [] μ := by
  refine J_aload_n E dX10_chooseSteps_101 rfl ?_
  refine S_get (ci := 10) (q := 2) (v := .ref (Z.2.2.1 + 75)) E dX10_chooseSteps_102 fs_X10_15 sh73 rfl ?_
  refine J_iload_n E dX10_chooseSteps_105 rfl ?_
  refine J_bipush (v := nI 10) E dX10_chooseSteps_106 rfl ?_
  refine J_imul E dX10_chooseSteps_108 ?_
  refine J_iload_n E dX10_chooseSteps_109 rfl ?_
  refine J_iadd E dX10_chooseSteps_110 ?_
  refine J_iload_n E dX10_chooseSteps_111 rfl ?_
  refine S_iast E dX10_chooseSteps_112 sh75 s1_ ?_
  exact k
theorem bX10_chooseSteps_113 {Z : ZT} {X : XT} {μ : Mu} {a1 : Int32} {a2 : Int32} {a3 : Int32} (E : Ent Z X mX10_chooseSteps 0 0)  
    (k : JS Z X 48 [(0, .ref (Z.2.2.1 + 73)), (1, .int a1), (2, .int a2), (3, .int (a3 + (-1)))] [] μ) :
    JS Z X 113 [(0, .ref (Z.2.2.1 + 73)), (1, .int a1), (2, .int a2), (3, .int a3)] [] μ := by
  refine J_iinc (v := a3 + (-1)) (lv' := [(0, .ref (Z.2.2.1 + 73)), (1, .int a1), (2, .int a2), (3, .int (a3 + (-1)))]) E dX10_chooseSteps_113 rfl rfl (Nat.le_of_ble_eq_true rfl) rfl ?_
  refine J_goto (tgt := 48) E dX10_chooseSteps_116 (by decide) ?_
  exact k
theorem bX10_chooseSteps_119 {Z : ZT} {X : XT} {μ : Mu} {a1 : Int32} {a2 : Int32} (E : Ent Z X mX10_chooseSteps 0 0)  
    (k : JS Z X 15 [(0, .ref (Z.2.2.1 + 73)), (1, .int a1), (2, .int (a2 + nI 1))] [] μ) :
    JS Z X 119 [(0, .ref (Z.2.2.1 + 73)), (1, .int a1), (2, .int a2)] [] μ := by
  refine J_iinc (v := a2 + nI 1) (lv' := [(0, .ref (Z.2.2.1 + 73)), (1, .int a1), (2, .int (a2 + nI 1))]) E dX10_chooseSteps_119 rfl rfl (Nat.le_of_ble_eq_true rfl) rfl ?_
  refine J_goto (tgt := 15) E dX10_chooseSteps_122 (by decide) ?_
  exact k
theorem bX10_chooseSteps_125 {Z : ZT} {X : XT} {μ : Mu} {a1 : Int32} (E : Ent Z X mX10_chooseSteps 0 0)  
    (k : JS Z X 2 [(0, .ref (Z.2.2.1 + 73)), (1, .int (a1 + nI 1))] [] μ) :
    JS Z X 125 [(0, .ref (Z.2.2.1 + 73)), (1, .int a1)] [] μ := by
  refine J_iinc (v := a1 + nI 1) (lv' := [(0, .ref (Z.2.2.1 + 73)), (1, .int (a1 + nI 1))]) E dX10_chooseSteps_125 rfl rfl (Nat.le_of_ble_eq_true rfl) rfl ?_
  refine J_goto (tgt := 2) E dX10_chooseSteps_128 (by decide) ?_
  exact k
theorem bX10_chooseSteps_131 {Z : ZT} {X : XT} {μ : Mu} (E : Ent Z X mX10_chooseSteps 0 0) {P : Option Value → Mu → Prop} (hB : BodS Z X P) 
    (k : P none μ) :
    JS Z X 131 [] [] μ := by
  exact S_vret E hB dX10_chooseSteps_131 rfl k
theorem dX10_between_0 : decode cX10_between 0 = .ok (.aload_n 0, 1) := by decide +kernel
theorem dX10_between_1 : decode cX10_between 1 = .ok (.getfield 24, 3) := by decide +kernel
theorem dX10_between_4 : decode cX10_between 4 = .ok (.iload_n 1, 1) := by decide +kernel
theorem dX10_between_5 : decode cX10_between 5 = .ok (.invokevirtual 58, 3) := by decide +kernel
theorem dX10_between_8 : decode cX10_between 8 = .ok (.ifCond .eq 31, 3) := by decide +kernel
theorem dX10_between_11 : decode cX10_between 11 = .ok (.aload_n 0, 1) := by decide +kernel
theorem dX10_between_12 : decode cX10_between 12 = .ok (.getfield 24, 3) := by decide +kernel
theorem dX10_between_15 : decode cX10_between 15 = .ok (.iload_n 2, 1) := by decide +kernel
theorem dX10_between_16 : decode cX10_between 16 = .ok (.invokevirtual 58, 3) := by decide +kernel
theorem dX10_between_19 : decode cX10_between 19 = .ok (.ifCond .eq 20, 3) := by decide +kernel
theorem dX10_between_22 : decode cX10_between 22 = .ok (.aload_n 0, 1) := by decide +kernel
theorem dX10_between_23 : decode cX10_between 23 = .ok (.getfield 9, 3) := by decide +kernel
theorem dX10_between_26 : decode cX10_between 26 = .ok (.iload_n 1, 1) := by decide +kernel
theorem dX10_between_27 : decode cX10_between 27 = .ok (.bipush 10, 2) := by decide +kernel
theorem dX10_between_29 : decode cX10_between 29 = .ok (.imul, 1) := by decide +kernel
theorem dX10_between_30 : decode cX10_between 30 = .ok (.iload_n 2, 1) := by decide +kernel
theorem dX10_between_31 : decode cX10_between 31 = .ok (.iadd, 1) := by decide +kernel
theorem dX10_between_32 : decode cX10_between 32 = .ok (.iaload, 1) := by decide +kernel
theorem dX10_between_33 : decode cX10_between 33 = .ok (.sipush 10000, 3) := by decide +kernel
theorem dX10_between_36 : decode cX10_between 36 = .ok (.if_icmp .lt 5, 3) := by decide +kernel
theorem dX10_between_39 : decode cX10_between 39 = .ok (.iconst (-1), 1) := by decide +kernel
theorem dX10_between_40 : decode cX10_between 40 = .ok (.ireturn, 1) := by decide +kernel
theorem dX10_between_41 : decode cX10_between 41 = .ok (.aload_n 0, 1) := by decide +kernel
theorem dX10_between_42 : decode cX10_between 42 = .ok (.getfield 9, 3) := by decide +kernel
theorem dX10_between_45 : decode cX10_between 45 = .ok (.iload_n 1, 1) := by decide +kernel
theorem dX10_between_46 : decode cX10_between 46 = .ok (.bipush 10, 2) := by decide +kernel
theorem dX10_between_48 : decode cX10_between 48 = .ok (.imul, 1) := by decide +kernel
theorem dX10_between_49 : decode cX10_between 49 = .ok (.iload_n 2, 1) := by decide +kernel
theorem dX10_between_50 : decode cX10_between 50 = .ok (.iadd, 1) := by decide +kernel
theorem dX10_between_51 : decode cX10_between 51 = .ok (.iaload, 1) := by decide +kernel
theorem dX10_between_52 : decode cX10_between 52 = .ok (.ireturn, 1) := by decide +kernel
theorem bX10_between_0 {Z : ZT} {X : XT} {μ : Mu} {a1 : Int32} {a2 : Int32} (E : Ent Z X mX10_between 0 0) {p : Int32 → Mu → Prop} 
    (c : CtrS Z mX3_hasPlace [.ref (Z.2.2.1 + 1), .int a1] μ (rI p)) (k : ∀ v μ1, p v μ1 → JS Z X 8 [(0, .ref (Z.2.2.1 + 73)), (1, .int a1), (2, .int a2)] [.int v] μ1) :
    JS Z X 0 [(0, .ref (Z.2.2.1 + 73)), (1, .int a1), (2, .int a2)] [] μ := by
  refine J_aload_n E dX10_between_0 rfl ?_
  refine S_get (ci := 10) (q := 0) (v := .ref (Z.2.2.1 + 1)) E dX10_between_1 fs_X10_24 sh73 rfl ?_
  refine J_iload_n E dX10_between_4 rfl ?_
  refine S_callV (As := [.int a1]) (rest := []) E dX10_between_5 c kX3_hasPlace ⟨Nat.le_of_ble_eq_true rfl, Nat.le_of_ble_eq_true rfl⟩ rfl (Nat.le_of_ble_eq_true rfl) sh1 rfl rfl w4_66 w3_42 w3_43 (fun r_ μ1 hp_ => ?_)
  obtain ⟨v, rfl, hp_⟩ := hp_
  exact k v μ1 hp_
theorem bX10_between_8 {Z : ZT} {X : XT} {μ : Mu} {a1 : Int32} {a2 : Int32} {s0 : Int32} (E : Ent Z X mX10_between 0 0)  
    (kt : s0 = 0 → JS Z X 39 [] [] μ) (kf : ¬ (s0 = 0) → JS Z X 11 [(0, .ref (Z.2.2.1 + 73)), (1, .int a1), (2, .int a2)] [] μ) :
    JS Z X 8 [(0, .ref (Z.2.2.1 + 73)), (1, .int a1), (2, .int a2)] [.int s0] μ := by
  refine J_if_eq (tgt := 39) E dX10_between_8 (by decide) (fun c => ?_) (fun c => ?_)
  · refine J.weak [] rfl ?_
    exact kt c
  · exact kf c
theorem bX10_between_11 {Z : ZT} {X : XT} {μ : Mu} {a1 : Int32} {a2 : Int32} (E : Ent Z X mX10_between 0 0) {p : Int32 → Mu → Prop} 
    (c : CtrS Z mX3_hasPlace [.ref (Z.2.2.1 + 1), .int a2] μ (rI p)) (k : ∀ v μ1, p v μ1 → JS Z X 19 [(0, .ref (Z.2.2.1 + 73)), (1, .int a1), (2, .int a2)] [.int v] μ1) :
    JS Z X 11 [(0, .ref (Z.2.2.1 + 73)), (1, .int a1), (2, .int a2)] [] μ := by
  refine J_aload_n E dX10_between_11 rfl ?_
  refine S_get (ci := 10) (q := 0) (v := .ref (Z.2.2.1 + 1)) E dX10_between_12 fs_X10_24 sh73 rfl ?_
  refine J_iload_n E dX10_between_15 rfl ?_
  refine S_callV (As := [.int a2]) (rest := []) E dX10_between_16 c kX3_hasPlace ⟨Nat.le_of_ble_eq_true rfl, Nat.le_of_ble_eq_true rfl⟩ rfl (Nat.le_of_ble_eq_true rfl) sh1 rfl rfl w4_66 w3_42 w3_43 (fun r_ μ1 hp_ => ?_)
  obtain ⟨v, rfl, hp_⟩ := hp_
  exact k v μ1 hp_
theorem bX10_between_19 {Z : ZT} {X : XT} {μ : Mu} {a1 : Int32} {a2 : Int32} {s0 : Int32} (E : Ent Z X mX10_between 0 0)  
    (kt : s0 = 0 → JS Z X 39 [] [] μ) (kf : ¬ (s0 = 0) → JS Z X 22 [(0, .ref (Z.2.2.1 + 73)), (1, .int a1), (2, .int a2)] [] μ) :
    JS Z X 19 [(0, .ref (Z.2.2.1 + 73)), (1, .int a1), (2, .int a2)] [.int s0] μ := by
  refine J_if_eq (tgt := 39) E dX10_between_19 (by decide) (fun c => ?_) (fun c => ?_)
  · refine J.weak [] rfl ?_
    exact kt c
  · exact kf c
theorem bX10_between_22 {Z : ZT} {X : XT} {μ : Mu} {a1 : Int32} {a2 : Int32} (E : Ent Z X mX10_between 0 0)  (s1_ : vp_in ((a1 * (nI 10)) + a2) 100)
    (kt : (μ 74 (ix ((a1 * (nI 10)) + a2))) < (nI 10000) → JS Z X 41 [(0, .ref (Z.2.2.1 + 73)), (1, .int a1), (2, .int a2)] [] μ) (kf : ¬ ((μ 74 (ix ((a1 * (nI 10)) + a2))) < (nI 10000)) → JS Z X 39 [] [] μ) :
    JS Z X 22 [(0, .ref (Z.2.2.1 + 73)), (1, .int a1), (2, .int a2)] [] μ := by
  refine J_aload_n E dX10_between_22 rfl ?_
  refine S_get (ci := 10) (q := 1) (v := .ref (Z.2.2.1 + 74)) E dX10_between_23 fs_X10_9 sh73 rfl ?_
  refine J_iload_n E dX10_between_26 rfl ?_
  refine J_bipush (v := nI 10) E dX10_between_27 rfl ?_
  refine J_imul E dX10_between_29 ?_
  refine J_iload_n E dX10_between_30 rfl ?_
  refine J_iadd E dX10_between_31 ?_
  refine S_iald E dX10_between_32 sh74 s1_ ?_
  refine J_sipush (v := nI 10000) E dX10_between_33 rfl ?_
  refine J_icmp_lt (tgt := 41) E dX10_between_36 (by decide) (fun c => ?_) (fun c => ?_)
  · exact kt c
  · refine J.weak [] rfl ?_
    exact kf c
theorem bX10_between_39 {Z : ZT} {X : XT} {μ : Mu} (E : Ent Z X mX10_between 0 0) {P : Option Value → Mu → Prop} (hB : BodS Z X P) 
    (k : P (some (.int (-1))) μ) :
    JS Z X 39 [] [] μ := by
  refine J_iconst (v := -1) E dX10_between_39 rfl ?_
  exact S_iret E hB dX10_between_40 rfl k
theorem bX10_between_41 {Z : ZT} {X : XT} {μ : Mu} {a1 : Int32} {a2 : Int32} (E : Ent Z X mX10_between 0 0) {P : Option Value → Mu → Prop} (hB : BodS Z X P) (s1_ : vp_in ((a1 * (nI 10)) + a2) 100)
    (k : P (some (.int (μ 74 (ix ((a1 * (nI 10)) + a2))))) μ) :
    JS Z X 41 [(0, .ref (Z.2.2.1 + 73)), (1, .int a1), (2, .int a2)] [] μ := by
  refine J_aload_n E dX10_between_41 rfl ?_
  refine S_get (ci := 10) (q := 1) (v := .ref (Z.2.2.1 + 74)) E dX10_between_42 fs_X10_9 sh73 rfl ?_
  refine J_iload_n E dX10_between_45 rfl ?_
  refine J_bipush (v := nI 10) E dX10_between_46 rfl ?_
  refine J_imul E dX10_between_48 ?_
  refine J_iload_n E dX10_between_49 rfl ?_
  refine J_iadd E dX10_between_50 ?_
  refine S_iald E dX10_between_51 sh74 s1_ ?_
  exact S_iret E hB dX10_between_52 rfl k
theorem dX10_leg_0 : decode cX10_leg 0 = .ok (.aload_n 0, 1) := by decide +kernel
theorem dX10_leg_1 : decode cX10_leg 1 = .ok (.iload_n 1, 1) := by decide +kernel
theorem dX10_leg_2 : decode cX10_leg 2 = .ok (.iload_n 2, 1) := by decide +kernel
theorem dX10_leg_3 : decode cX10_leg 3 = .ok (.iload_n 3, 1) := by decide +kernel
theorem dX10_leg_4 : decode cX10_leg 4 = .ok (.invokevirtual 62, 3) := by decide +kernel
theorem dX10_leg_7 : decode cX10_leg 7 = .ok (.istore 4, 2) := by decide +kernel
theorem dX10_leg_9 : decode cX10_leg 9 = .ok (.iload 4, 2) := by decide +kernel
theorem dX10_leg_11 : decode cX10_leg 11 = .ok (.iconst (-1), 1) := by decide +kernel
theorem dX10_leg_12 : decode cX10_leg 12 = .ok (.if_icmp .ne 7, 3) := by decide +kernel
theorem dX10_leg_15 : decode cX10_leg 15 = .ok (.iconst (-1), 1) := by decide +kernel
theorem dX10_leg_16 : decode cX10_leg 16 = .ok (.goto 10, 3) := by decide +kernel
theorem dX10_leg_19 : decode cX10_leg 19 = .ok (.aload_n 0, 1) := by decide +kernel
theorem dX10_leg_20 : decode cX10_leg 20 = .ok (.getfield 18, 3) := by decide +kernel
theorem dX10_leg_23 : decode cX10_leg 23 = .ok (.iload 4, 2) := by decide +kernel
theorem dX10_leg_25 : decode cX10_leg 25 = .ok (.iaload, 1) := by decide +kernel
theorem dX10_leg_26 : decode cX10_leg 26 = .ok (.ireturn, 1) := by decide +kernel
theorem bX10_leg_0 {Z : ZT} {X : XT} {μ : Mu} {a1 : Int32} {a2 : Int32} {a3 : Int32} (E : Ent Z X mX10_leg 0 0) {p : Int32 → Mu → Prop} 
    (c : CtrS Z mX10_knownLeg [.ref (Z.2.2.1 + 73), .int a1, .int a2, .int a3] μ (rI p)) (k : ∀ v μ1, p v μ1 → JS Z X 7 [(0, .ref (Z.2.2.1 + 73))] [.int v] μ1) :
    JS Z X 0 [(0, .ref (Z.2.2.1 + 73)), (1, .int a1), (2, .int a2), (3, .int a3)] [] μ := by
  refine J_aload_n E dX10_leg_0 rfl ?_
  refine J_iload_n E dX10_leg_1 rfl ?_
  refine J_iload_n E dX10_leg_2 rfl ?_
  refine J_iload_n E dX10_leg_3 rfl ?_
  refine S_callV (As := [.int a1, .int a2, .int a3]) (rest := []) E dX10_leg_4 c kX10_knownLeg ⟨Nat.le_of_ble_eq_true rfl, Nat.le_of_ble_eq_true rfl⟩ rfl (Nat.le_of_ble_eq_true rfl) sh73 rfl rfl w4_103 w4_105 wp_14 (fun r_ μ1 hp_ => ?_)
  obtain ⟨v, rfl, hp_⟩ := hp_
  refine J.weak [0] rfl ?_
  exact k v μ1 hp_
theorem bX10_leg_7 {Z : ZT} {X : XT} {μ : Mu} {s0 : Int32} (E : Ent Z X mX10_leg 0 0)  
    (kt : ¬ s0 = (-1) → JS Z X 19 [(0, .ref (Z.2.2.1 + 73)), (4, .int s0)] [] μ) (kf : s0 = (-1) → JS Z X 15 [] [] μ) :
    JS Z X 7 [(0, .ref (Z.2.2.1 + 73))] [.int s0] μ := by
  refine J_istore (lv' := [(0, .ref (Z.2.2.1 + 73)), (4, .int s0)]) E dX10_leg_7 (Nat.le_of_ble_eq_true rfl) rfl ?_
  refine J_iload E dX10_leg_9 rfl ?_
  refine J_iconst (v := -1) E dX10_leg_11 rfl ?_
  refine J_icmp_ne (tgt := 19) E dX10_leg_12 (by decide) (fun c => ?_) (fun c => ?_)
  · exact kt c
  · refine J.weak [] rfl ?_
    exact kf c
theorem bX10_leg_15 {Z : ZT} {X : XT} {μ : Mu} (E : Ent Z X mX10_leg 0 0)  
    (k : JS Z X 26 [] [.int (-1)] μ) :
    JS Z X 15 [] [] μ := by
  refine J_iconst (v := -1) E dX10_leg_15 rfl ?_
  refine J_goto (tgt := 26) E dX10_leg_16 (by decide) ?_
  exact k
theorem bX10_leg_19 {Z : ZT} {X : XT} {μ : Mu} {a4 : Int32} (E : Ent Z X mX10_leg 0 0)  (s1_ : vp_in a4 800)
    (k : JS Z X 26 [] [.int (μ 76 (ix a4))] μ) :
    JS Z X 19 [(0, .ref (Z.2.2.1 + 73)), (4, .int a4)] [] μ := by
  refine J_aload_n E dX10_leg_19 rfl ?_
  refine S_get (ci := 10) (q := 3) (v := .ref (Z.2.2.1 + 76)) E dX10_leg_20 fs_X10_18 sh73 rfl ?_
  refine J_iload E dX10_leg_23 rfl ?_
  refine S_iald E dX10_leg_25 sh76 s1_ ?_
  refine J.weak [] rfl ?_
  exact k
theorem bX10_leg_26 {Z : ZT} {X : XT} {μ : Mu} {s0 : Int32} (E : Ent Z X mX10_leg 0 0) {P : Option Value → Mu → Prop} (hB : BodS Z X P) 
    (k : P (some (.int s0)) μ) :
    JS Z X 26 [] [.int s0] μ := by
  exact S_iret E hB dX10_leg_26 rfl k
theorem dX10_passed_0 : decode cX10_passed 0 = .ok (.aload_n 0, 1) := by decide +kernel
theorem dX10_passed_1 : decode cX10_passed 1 = .ok (.iload_n 1, 1) := by decide +kernel
theorem dX10_passed_2 : decode cX10_passed 2 = .ok (.iload_n 2, 1) := by decide +kernel
theorem dX10_passed_3 : decode cX10_passed 3 = .ok (.iload_n 3, 1) := by decide +kernel
theorem dX10_passed_4 : decode cX10_passed 4 = .ok (.invokevirtual 62, 3) := by decide +kernel
theorem dX10_passed_7 : decode cX10_passed 7 = .ok (.istore 4, 2) := by decide +kernel
theorem dX10_passed_9 : decode cX10_passed 9 = .ok (.iload 4, 2) := by decide +kernel
theorem dX10_passed_11 : decode cX10_passed 11 = .ok (.iconst (-1), 1) := by decide +kernel
theorem dX10_passed_12 : decode cX10_passed 12 = .ok (.if_icmp .ne 7, 3) := by decide +kernel
theorem dX10_passed_15 : decode cX10_passed 15 = .ok (.iconst 0, 1) := by decide +kernel
theorem dX10_passed_16 : decode cX10_passed 16 = .ok (.goto 10, 3) := by decide +kernel
theorem dX10_passed_19 : decode cX10_passed 19 = .ok (.aload_n 0, 1) := by decide +kernel
theorem dX10_passed_20 : decode cX10_passed 20 = .ok (.getfield 21, 3) := by decide +kernel
theorem dX10_passed_23 : decode cX10_passed 23 = .ok (.iload 4, 2) := by decide +kernel
theorem dX10_passed_25 : decode cX10_passed 25 = .ok (.iaload, 1) := by decide +kernel
theorem dX10_passed_26 : decode cX10_passed 26 = .ok (.ireturn, 1) := by decide +kernel
theorem bX10_passed_0 {Z : ZT} {X : XT} {μ : Mu} {a1 : Int32} {a2 : Int32} {a3 : Int32} (E : Ent Z X mX10_passed 0 0) {p : Int32 → Mu → Prop} 
    (c : CtrS Z mX10_knownLeg [.ref (Z.2.2.1 + 73), .int a1, .int a2, .int a3] μ (rI p)) (k : ∀ v μ1, p v μ1 → JS Z X 7 [(0, .ref (Z.2.2.1 + 73))] [.int v] μ1) :
    JS Z X 0 [(0, .ref (Z.2.2.1 + 73)), (1, .int a1), (2, .int a2), (3, .int a3)] [] μ := by
  refine J_aload_n E dX10_passed_0 rfl ?_
  refine J_iload_n E dX10_passed_1 rfl ?_
  refine J_iload_n E dX10_passed_2 rfl ?_
  refine J_iload_n E dX10_passed_3 rfl ?_
  refine S_callV (As := [.int a1, .int a2, .int a3]) (rest := []) E dX10_passed_4 c kX10_knownLeg ⟨Nat.le_of_ble_eq_true rfl, Nat.le_of_ble_eq_true rfl⟩ rfl (Nat.le_of_ble_eq_true rfl) sh73 rfl rfl w4_103 w4_105 wp_14 (fun r_ μ1 hp_ => ?_)
  obtain ⟨v, rfl, hp_⟩ := hp_
  refine J.weak [0] rfl ?_
  exact k v μ1 hp_
theorem bX10_passed_7 {Z : ZT} {X : XT} {μ : Mu} {s0 : Int32} (E : Ent Z X mX10_passed 0 0)  
    (kt : ¬ s0 = (-1) → JS Z X 19 [(0, .ref (Z.2.2.1 + 73)), (4, .int s0)] [] μ) (kf : s0 = (-1) → JS Z X 15 [] [] μ) :
    JS Z X 7 [(0, .ref (Z.2.2.1 + 73))] [.int s0] μ := by
  refine J_istore (lv' := [(0, .ref (Z.2.2.1 + 73)), (4, .int s0)]) E dX10_passed_7 (Nat.le_of_ble_eq_true rfl) rfl ?_
  refine J_iload E dX10_passed_9 rfl ?_
  refine J_iconst (v := -1) E dX10_passed_11 rfl ?_
  refine J_icmp_ne (tgt := 19) E dX10_passed_12 (by decide) (fun c => ?_) (fun c => ?_)
  · exact kt c
  · refine J.weak [] rfl ?_
    exact kf c
theorem bX10_passed_15 {Z : ZT} {X : XT} {μ : Mu} (E : Ent Z X mX10_passed 0 0)  
    (k : JS Z X 26 [] [.int (nI 0)] μ) :
    JS Z X 15 [] [] μ := by
  refine J_iconst (v := nI 0) E dX10_passed_15 rfl ?_
  refine J_goto (tgt := 26) E dX10_passed_16 (by decide) ?_
  exact k
theorem bX10_passed_19 {Z : ZT} {X : XT} {μ : Mu} {a4 : Int32} (E : Ent Z X mX10_passed 0 0)  (s1_ : vp_in a4 800)
    (k : JS Z X 26 [] [.int (μ 77 (ix a4))] μ) :
    JS Z X 19 [(0, .ref (Z.2.2.1 + 73)), (4, .int a4)] [] μ := by
  refine J_aload_n E dX10_passed_19 rfl ?_
  refine S_get (ci := 10) (q := 4) (v := .ref (Z.2.2.1 + 77)) E dX10_passed_20 fs_X10_21 sh73 rfl ?_
  refine J_iload E dX10_passed_23 rfl ?_
  refine S_iald E dX10_passed_25 sh77 s1_ ?_
  refine J.weak [] rfl ?_
  exact k
theorem bX10_passed_26 {Z : ZT} {X : XT} {μ : Mu} {s0 : Int32} (E : Ent Z X mX10_passed 0 0) {P : Option Value → Mu → Prop} (hB : BodS Z X P) 
    (k : P (some (.int s0)) μ) :
    JS Z X 26 [] [.int s0] μ := by
  exact S_iret E hB dX10_passed_26 rfl k
theorem dX10_knownLeg_0 : decode cX10_knownLeg 0 = .ok (.iload_n 1, 1) := by decide +kernel
theorem dX10_knownLeg_1 : decode cX10_knownLeg 1 = .ok (.aload_n 0, 1) := by decide +kernel
theorem dX10_knownLeg_2 : decode cX10_knownLeg 2 = .ok (.getfield 24, 3) := by decide +kernel
theorem dX10_knownLeg_5 : decode cX10_knownLeg 5 = .ok (.getfield 66, 3) := by decide +kernel
theorem dX10_knownLeg_8 : decode cX10_knownLeg 8 = .ok (.invokestatic 69, 3) := by decide +kernel
theorem dX10_knownLeg_11 : decode cX10_knownLeg 11 = .ok (.ifCond .eq 25, 3) := by decide +kernel
theorem dX10_knownLeg_14 : decode cX10_knownLeg 14 = .ok (.aload_n 0, 1) := by decide +kernel
theorem dX10_knownLeg_15 : decode cX10_knownLeg 15 = .ok (.getfield 24, 3) := by decide +kernel
theorem dX10_knownLeg_18 : decode cX10_knownLeg 18 = .ok (.iload_n 2, 1) := by decide +kernel
theorem dX10_knownLeg_19 : decode cX10_knownLeg 19 = .ok (.invokevirtual 58, 3) := by decide +kernel
theorem dX10_knownLeg_22 : decode cX10_knownLeg 22 = .ok (.ifCond .eq 14, 3) := by decide +kernel
theorem dX10_knownLeg_25 : decode cX10_knownLeg 25 = .ok (.aload_n 0, 1) := by decide +kernel
theorem dX10_knownLeg_26 : decode cX10_knownLeg 26 = .ok (.getfield 24, 3) := by decide +kernel
theorem dX10_knownLeg_29 : decode cX10_knownLeg 29 = .ok (.iload_n 3, 1) := by decide +kernel
theorem dX10_knownLeg_30 : decode cX10_knownLeg 30 = .ok (.invokevirtual 58, 3) := by decide +kernel
theorem dX10_knownLeg_33 : decode cX10_knownLeg 33 = .ok (.ifCond .ne 5, 3) := by decide +kernel
theorem dX10_knownLeg_36 : decode cX10_knownLeg 36 = .ok (.iconst (-1), 1) := by decide +kernel
theorem dX10_knownLeg_37 : decode cX10_knownLeg 37 = .ok (.ireturn, 1) := by decide +kernel
theorem dX10_knownLeg_38 : decode cX10_knownLeg 38 = .ok (.iload_n 1, 1) := by decide +kernel
theorem dX10_knownLeg_39 : decode cX10_knownLeg 39 = .ok (.bipush 10, 2) := by decide +kernel
theorem dX10_knownLeg_41 : decode cX10_knownLeg 41 = .ok (.imul, 1) := by decide +kernel
theorem dX10_knownLeg_42 : decode cX10_knownLeg 42 = .ok (.iload_n 2, 1) := by decide +kernel
theorem dX10_knownLeg_43 : decode cX10_knownLeg 43 = .ok (.iadd, 1) := by decide +kernel
theorem dX10_knownLeg_44 : decode cX10_knownLeg 44 = .ok (.bipush 10, 2) := by decide +kernel
theorem dX10_knownLeg_46 : decode cX10_knownLeg 46 = .ok (.imul, 1) := by decide +kernel
theorem dX10_knownLeg_47 : decode cX10_knownLeg 47 = .ok (.iload_n 3, 1) := by decide +kernel
theorem dX10_knownLeg_48 : decode cX10_knownLeg 48 = .ok (.iadd, 1) := by decide +kernel
theorem dX10_knownLeg_49 : decode cX10_knownLeg 49 = .ok (.istore 4, 2) := by decide +kernel
theorem dX10_knownLeg_51 : decode cX10_knownLeg 51 = .ok (.aload_n 0, 1) := by decide +kernel
theorem dX10_knownLeg_52 : decode cX10_knownLeg 52 = .ok (.getfield 18, 3) := by decide +kernel
theorem dX10_knownLeg_55 : decode cX10_knownLeg 55 = .ok (.iload 4, 2) := by decide +kernel
theorem dX10_knownLeg_57 : decode cX10_knownLeg 57 = .ok (.iaload, 1) := by decide +kernel
theorem dX10_knownLeg_58 : decode cX10_knownLeg 58 = .ok (.bipush (-2), 2) := by decide +kernel
theorem dX10_knownLeg_60 : decode cX10_knownLeg 60 = .ok (.if_icmp .ne 24, 3) := by decide +kernel
theorem dX10_knownLeg_63 : decode cX10_knownLeg 63 = .ok (.aload_n 0, 1) := by decide +kernel
theorem dX10_knownLeg_64 : decode cX10_knownLeg 64 = .ok (.iload 4, 2) := by decide +kernel
theorem dX10_knownLeg_66 : decode cX10_knownLeg 66 = .ok (.iload_n 2, 1) := by decide +kernel
theorem dX10_knownLeg_67 : decode cX10_knownLeg 67 = .ok (.aload_n 0, 1) := by decide +kernel
theorem dX10_knownLeg_68 : decode cX10_knownLeg 68 = .ok (.getfield 24, 3) := by decide +kernel
theorem dX10_knownLeg_71 : decode cX10_knownLeg 71 = .ok (.getfield 73, 3) := by decide +kernel
theorem dX10_knownLeg_74 : decode cX10_knownLeg 74 = .ok (.iload_n 1, 1) := by decide +kernel
theorem dX10_knownLeg_75 : decode cX10_knownLeg 75 = .ok (.iaload, 1) := by decide +kernel
theorem dX10_knownLeg_76 : decode cX10_knownLeg 76 = .ok (.iconst 1, 1) := by decide +kernel
theorem dX10_knownLeg_77 : decode cX10_knownLeg 77 = .ok (.iload_n 3, 1) := by decide +kernel
theorem dX10_knownLeg_78 : decode cX10_knownLeg 78 = .ok (.ishl, 1) := by decide +kernel
theorem dX10_knownLeg_79 : decode cX10_knownLeg 79 = .ok (.ior, 1) := by decide +kernel
theorem dX10_knownLeg_80 : decode cX10_knownLeg 80 = .ok (.iload_n 3, 1) := by decide +kernel
theorem dX10_knownLeg_81 : decode cX10_knownLeg 81 = .ok (.invokevirtual 76, 3) := by decide +kernel
theorem dX10_knownLeg_84 : decode cX10_knownLeg 84 = .ok (.iload 4, 2) := by decide +kernel
theorem dX10_knownLeg_86 : decode cX10_knownLeg 86 = .ok (.ireturn, 1) := by decide +kernel
theorem bX10_knownLeg_0 {Z : ZT} {X : XT} {μ : Mu} {a1 : Int32} {a2 : Int32} {a3 : Int32} (E : Ent Z X mX10_knownLeg 0 0) {p : Int32 → Mu → Prop} 
    (c : CtrS Z mX11_within [.int a1, .int (μ 1 8)] μ (rI p)) (k : ∀ v μ1, p v μ1 → JS Z X 11 [(0, .ref (Z.2.2.1 + 73)), (1, .int a1), (2, .int a2), (3, .int a3)] [.int v] μ1) :
    JS Z X 0 [(0, .ref (Z.2.2.1 + 73)), (1, .int a1), (2, .int a2), (3, .int a3)] [] μ := by
  refine J_iload_n E dX10_knownLeg_0 rfl ?_
  refine J_aload_n E dX10_knownLeg_1 rfl ?_
  refine S_get (ci := 10) (q := 0) (v := .ref (Z.2.2.1 + 1)) E dX10_knownLeg_2 fs_X10_24 sh73 rfl ?_
  refine S_get (ci := 3) (q := 8) (v := .int (μ 1 8)) E dX10_knownLeg_5 fs_X10_66 sh1 rfl ?_
  refine S_callSN (As := [.int a1, .int (μ 1 8)]) (rest := []) E dX10_knownLeg_8 c kX11_within ⟨Nat.le_of_ble_eq_true rfl, Nat.le_of_ble_eq_true rfl⟩ rfl (Nat.le_of_ble_eq_true rfl) w4_107 w3_46 (fun r_ μ1 hp_ => ?_)
  obtain ⟨v, rfl, hp_⟩ := hp_
  exact k v μ1 hp_
theorem bX10_knownLeg_11 {Z : ZT} {X : XT} {μ : Mu} {a1 : Int32} {a2 : Int32} {a3 : Int32} {s0 : Int32} (E : Ent Z X mX10_knownLeg 0 0)  
    (kt : s0 = 0 → JS Z X 36 [] [] μ) (kf : ¬ (s0 = 0) → JS Z X 14 [(0, .ref (Z.2.2.1 + 73)), (1, .int a1), (2, .int a2), (3, .int a3)] [] μ) :
    JS Z X 11 [(0, .ref (Z.2.2.1 + 73)), (1, .int a1), (2, .int a2), (3, .int a3)] [.int s0] μ := by
  refine J_if_eq (tgt := 36) E dX10_knownLeg_11 (by decide) (fun c => ?_) (fun c => ?_)
  · refine J.weak [] rfl ?_
    exact kt c
  · exact kf c
theorem bX10_knownLeg_14 {Z : ZT} {X : XT} {μ : Mu} {a1 : Int32} {a2 : Int32} {a3 : Int32} (E : Ent Z X mX10_knownLeg 0 0) {p : Int32 → Mu → Prop} 
    (c : CtrS Z mX3_hasPlace [.ref (Z.2.2.1 + 1), .int a2] μ (rI p)) (k : ∀ v μ1, p v μ1 → JS Z X 22 [(0, .ref (Z.2.2.1 + 73)), (1, .int a1), (2, .int a2), (3, .int a3)] [.int v] μ1) :
    JS Z X 14 [(0, .ref (Z.2.2.1 + 73)), (1, .int a1), (2, .int a2), (3, .int a3)] [] μ := by
  refine J_aload_n E dX10_knownLeg_14 rfl ?_
  refine S_get (ci := 10) (q := 0) (v := .ref (Z.2.2.1 + 1)) E dX10_knownLeg_15 fs_X10_24 sh73 rfl ?_
  refine J_iload_n E dX10_knownLeg_18 rfl ?_
  refine S_callV (As := [.int a2]) (rest := []) E dX10_knownLeg_19 c kX3_hasPlace ⟨Nat.le_of_ble_eq_true rfl, Nat.le_of_ble_eq_true rfl⟩ rfl (Nat.le_of_ble_eq_true rfl) sh1 rfl rfl w4_66 w3_42 w3_43 (fun r_ μ1 hp_ => ?_)
  obtain ⟨v, rfl, hp_⟩ := hp_
  exact k v μ1 hp_
theorem bX10_knownLeg_22 {Z : ZT} {X : XT} {μ : Mu} {a1 : Int32} {a2 : Int32} {a3 : Int32} {s0 : Int32} (E : Ent Z X mX10_knownLeg 0 0)  
    (kt : s0 = 0 → JS Z X 36 [] [] μ) (kf : ¬ (s0 = 0) → JS Z X 25 [(0, .ref (Z.2.2.1 + 73)), (1, .int a1), (2, .int a2), (3, .int a3)] [] μ) :
    JS Z X 22 [(0, .ref (Z.2.2.1 + 73)), (1, .int a1), (2, .int a2), (3, .int a3)] [.int s0] μ := by
  refine J_if_eq (tgt := 36) E dX10_knownLeg_22 (by decide) (fun c => ?_) (fun c => ?_)
  · refine J.weak [] rfl ?_
    exact kt c
  · exact kf c
theorem bX10_knownLeg_25 {Z : ZT} {X : XT} {μ : Mu} {a1 : Int32} {a2 : Int32} {a3 : Int32} (E : Ent Z X mX10_knownLeg 0 0) {p : Int32 → Mu → Prop} 
    (c : CtrS Z mX3_hasPlace [.ref (Z.2.2.1 + 1), .int a3] μ (rI p)) (k : ∀ v μ1, p v μ1 → JS Z X 33 [(0, .ref (Z.2.2.1 + 73)), (1, .int a1), (2, .int a2), (3, .int a3)] [.int v] μ1) :
    JS Z X 25 [(0, .ref (Z.2.2.1 + 73)), (1, .int a1), (2, .int a2), (3, .int a3)] [] μ := by
  refine J_aload_n E dX10_knownLeg_25 rfl ?_
  refine S_get (ci := 10) (q := 0) (v := .ref (Z.2.2.1 + 1)) E dX10_knownLeg_26 fs_X10_24 sh73 rfl ?_
  refine J_iload_n E dX10_knownLeg_29 rfl ?_
  refine S_callV (As := [.int a3]) (rest := []) E dX10_knownLeg_30 c kX3_hasPlace ⟨Nat.le_of_ble_eq_true rfl, Nat.le_of_ble_eq_true rfl⟩ rfl (Nat.le_of_ble_eq_true rfl) sh1 rfl rfl w4_66 w3_42 w3_43 (fun r_ μ1 hp_ => ?_)
  obtain ⟨v, rfl, hp_⟩ := hp_
  exact k v μ1 hp_
theorem bX10_knownLeg_33 {Z : ZT} {X : XT} {μ : Mu} {a1 : Int32} {a2 : Int32} {a3 : Int32} {s0 : Int32} (E : Ent Z X mX10_knownLeg 0 0)  
    (kt : ¬ s0 = 0 → JS Z X 38 [(0, .ref (Z.2.2.1 + 73)), (1, .int a1), (2, .int a2), (3, .int a3)] [] μ) (kf : s0 = 0 → JS Z X 36 [] [] μ) :
    JS Z X 33 [(0, .ref (Z.2.2.1 + 73)), (1, .int a1), (2, .int a2), (3, .int a3)] [.int s0] μ := by
  refine J_if_ne (tgt := 38) E dX10_knownLeg_33 (by decide) (fun c => ?_) (fun c => ?_)
  · exact kt c
  · refine J.weak [] rfl ?_
    exact kf c
theorem bX10_knownLeg_36 {Z : ZT} {X : XT} {μ : Mu} (E : Ent Z X mX10_knownLeg 0 0) {P : Option Value → Mu → Prop} (hB : BodS Z X P) 
    (k : P (some (.int (-1))) μ) :
    JS Z X 36 [] [] μ := by
  refine J_iconst (v := -1) E dX10_knownLeg_36 rfl ?_
  exact S_iret E hB dX10_knownLeg_37 rfl k
theorem bX10_knownLeg_38 {Z : ZT} {X : XT} {μ : Mu} {a1 : Int32} {a2 : Int32} {a3 : Int32} (E : Ent Z X mX10_knownLeg 0 0)  (s1_ : vp_in ((((a1 * (nI 10)) + a2) * (nI 10)) + a3) 800)
    (kt : ¬ (μ 76 (ix ((((a1 * (nI 10)) + a2) * (nI 10)) + a3))) = (-2) → JS Z X 84 [(4, .int ((((a1 * (nI 10)) + a2) * (nI 10)) + a3))] [] μ) (kf : (μ 76 (ix ((((a1 * (nI 10)) + a2) * (nI 10)) + a3))) = (-2) → JS Z X 63 [(0, .ref (Z.2.2.1 + 73)), (1, .int a1), (2, .int a2), (3, .int a3), (4, .int ((((a1 * (nI 10)) + a2) * (nI 10)) + a3))] [] μ) :
    JS Z X 38 [(0, .ref (Z.2.2.1 + 73)), (1, .int a1), (2, .int a2), (3, .int a3)] [] μ := by
  refine J_iload_n E dX10_knownLeg_38 rfl ?_
  refine J_bipush (v := nI 10) E dX10_knownLeg_39 rfl ?_
  refine J_imul E dX10_knownLeg_41 ?_
  refine J_iload_n E dX10_knownLeg_42 rfl ?_
  refine J_iadd E dX10_knownLeg_43 ?_
  refine J_bipush (v := nI 10) E dX10_knownLeg_44 rfl ?_
  refine J_imul E dX10_knownLeg_46 ?_
  refine J_iload_n E dX10_knownLeg_47 rfl ?_
  refine J_iadd E dX10_knownLeg_48 ?_
  refine J_istore (lv' := [(0, .ref (Z.2.2.1 + 73)), (1, .int a1), (2, .int a2), (3, .int a3), (4, .int ((((a1 * (nI 10)) + a2) * (nI 10)) + a3))]) E dX10_knownLeg_49 (Nat.le_of_ble_eq_true rfl) rfl ?_
  refine J_aload_n E dX10_knownLeg_51 rfl ?_
  refine S_get (ci := 10) (q := 3) (v := .ref (Z.2.2.1 + 76)) E dX10_knownLeg_52 fs_X10_18 sh73 rfl ?_
  refine J_iload E dX10_knownLeg_55 rfl ?_
  refine S_iald E dX10_knownLeg_57 sh76 s1_ ?_
  refine J_bipush (v := -2) E dX10_knownLeg_58 rfl ?_
  refine J_icmp_ne (tgt := 84) E dX10_knownLeg_60 (by decide) (fun c => ?_) (fun c => ?_)
  · refine J.weak [4] rfl ?_
    exact kt c
  · exact kf c
theorem bX10_knownLeg_63 {Z : ZT} {X : XT} {μ : Mu} {a1 : Int32} {a2 : Int32} {a3 : Int32} {a4 : Int32} (E : Ent Z X mX10_knownLeg 0 0) {p : Mu → Prop} (s1_ : vp_in a1 8)
    (c : CtrS Z mX10_goAlong [.ref (Z.2.2.1 + 73), .int a4, .int a2, .int ((μ (1 + 10) (ix a1)) ||| ((nI 1) <<< (a3 &&& 31))), .int a3] μ (rV p)) (k : ∀ μ1, p μ1 → JS Z X 84 [(4, .int a4)] [] μ1) :
    JS Z X 63 [(0, .ref (Z.2.2.1 + 73)), (1, .int a1), (2, .int a2), (3, .int a3), (4, .int a4)] [] μ := by
  refine J_aload_n E dX10_knownLeg_63 rfl ?_
  refine J_iload E dX10_knownLeg_64 rfl ?_
  refine J_iload_n E dX10_knownLeg_66 rfl ?_
  refine J_aload_n E dX10_knownLeg_67 rfl ?_
  refine S_get (ci := 10) (q := 0) (v := .ref (Z.2.2.1 + 1)) E dX10_knownLeg_68 fs_X10_24 sh73 rfl ?_
  refine S_get (ci := 3) (q := 12) (v := .ref (Z.2.2.1 + (1 + 10))) E dX10_knownLeg_71 fs_X10_73 sh1 rfl ?_
  refine J_iload_n E dX10_knownLeg_74 rfl ?_
  refine S_iald E dX10_knownLeg_75 (shr_X3_12 sh1) s1_ ?_
  refine J_iconst (v := nI 1) E dX10_knownLeg_76 rfl ?_
  refine J_iload_n E dX10_knownLeg_77 rfl ?_
  refine J_ishl E dX10_knownLeg_78 ?_
  refine J_ior E dX10_knownLeg_79 ?_
  refine J_iload_n E dX10_knownLeg_80 rfl ?_
  refine S_callV (As := [.int a4, .int a2, .int ((μ (1 + 10) (ix a1)) ||| ((nI 1) <<< (a3 &&& 31))), .int a3]) (rest := []) E dX10_knownLeg_81 c kX10_goAlong ⟨Nat.le_of_ble_eq_true rfl, Nat.le_of_ble_eq_true rfl⟩ rfl (Nat.le_of_ble_eq_true rfl) sh73 rfl rfl w4_108 w4_110 wp_15 (fun r_ μ1 hp_ => ?_)
  obtain ⟨rfl, hp_⟩ := hp_
  refine J.weak [4] rfl ?_
  exact k μ1 hp_
theorem bX10_knownLeg_84 {Z : ZT} {X : XT} {μ : Mu} {a4 : Int32} (E : Ent Z X mX10_knownLeg 0 0) {P : Option Value → Mu → Prop} (hB : BodS Z X P) 
    (k : P (some (.int a4)) μ) :
    JS Z X 84 [(4, .int a4)] [] μ := by
  refine J_iload E dX10_knownLeg_84 rfl ?_
  exact S_iret E hB dX10_knownLeg_86 rfl k
theorem dX10_goAlong_0 : decode cX10_goAlong 0 = .ok (.iload_n 2, 1) := by decide +kernel
theorem dX10_goAlong_1 : decode cX10_goAlong 1 = .ok (.istore 5, 2) := by decide +kernel
theorem dX10_goAlong_3 : decode cX10_goAlong 3 = .ok (.iload_n 3, 1) := by decide +kernel
theorem dX10_goAlong_4 : decode cX10_goAlong 4 = .ok (.istore 6, 2) := by decide +kernel
theorem dX10_goAlong_6 : decode cX10_goAlong 6 = .ok (.iconst 0, 1) := by decide +kernel
theorem dX10_goAlong_7 : decode cX10_goAlong 7 = .ok (.istore 7, 2) := by decide +kernel
theorem dX10_goAlong_9 : decode cX10_goAlong 9 = .ok (.aload_n 0, 1) := by decide +kernel
theorem dX10_goAlong_10 : decode cX10_goAlong 10 = .ok (.getfield 18, 3) := by decide +kernel
theorem dX10_goAlong_13 : decode cX10_goAlong 13 = .ok (.iload_n 1, 1) := by decide +kernel
theorem dX10_goAlong_14 : decode cX10_goAlong 14 = .ok (.iconst (-1), 1) := by decide +kernel
theorem dX10_goAlong_15 : decode cX10_goAlong 15 = .ok (.iastore, 1) := by decide +kernel
theorem dX10_goAlong_16 : decode cX10_goAlong 16 = .ok (.aload_n 0, 1) := by decide +kernel
theorem dX10_goAlong_17 : decode cX10_goAlong 17 = .ok (.getfield 21, 3) := by decide +kernel
theorem dX10_goAlong_20 : decode cX10_goAlong 20 = .ok (.iload_n 1, 1) := by decide +kernel
theorem dX10_goAlong_21 : decode cX10_goAlong 21 = .ok (.iconst 1, 1) := by decide +kernel
theorem dX10_goAlong_22 : decode cX10_goAlong 22 = .ok (.iload_n 2, 1) := by decide +kernel
theorem dX10_goAlong_23 : decode cX10_goAlong 23 = .ok (.ishl, 1) := by decide +kernel
theorem dX10_goAlong_24 : decode cX10_goAlong 24 = .ok (.iastore, 1) := by decide +kernel
theorem dX10_goAlong_25 : decode cX10_goAlong 25 = .ok (.iconst 0, 1) := by decide +kernel
theorem dX10_goAlong_26 : decode cX10_goAlong 26 = .ok (.istore 8, 2) := by decide +kernel
theorem dX10_goAlong_28 : decode cX10_goAlong 28 = .ok (.iload 8, 2) := by decide +kernel
theorem dX10_goAlong_30 : decode cX10_goAlong 30 = .ok (.bipush 10, 2) := by decide +kernel
theorem dX10_goAlong_32 : decode cX10_goAlong 32 = .ok (.if_icmp .ge 92, 3) := by decide +kernel
theorem dX10_goAlong_35 : decode cX10_goAlong 35 = .ok (.aload_n 0, 1) := by decide +kernel
theorem dX10_goAlong_36 : decode cX10_goAlong 36 = .ok (.iload 5, 2) := by decide +kernel
theorem dX10_goAlong_38 : decode cX10_goAlong 38 = .ok (.iload 6, 2) := by decide +kernel
theorem dX10_goAlong_40 : decode cX10_goAlong 40 = .ok (.invokevirtual 80, 3) := by decide +kernel
theorem dX10_goAlong_43 : decode cX10_goAlong 43 = .ok (.istore 9, 2) := by decide +kernel
theorem dX10_goAlong_45 : decode cX10_goAlong 45 = .ok (.iload 9, 2) := by decide +kernel
theorem dX10_goAlong_47 : decode cX10_goAlong 47 = .ok (.iconst (-1), 1) := by decide +kernel
theorem dX10_goAlong_48 : decode cX10_goAlong 48 = .ok (.if_icmp .ne 4, 3) := by decide +kernel
theorem dX10_goAlong_51 : decode cX10_goAlong 51 = .ok (.return_, 1) := by decide +kernel
theorem dX10_goAlong_52 : decode cX10_goAlong 52 = .ok (.iload 7, 2) := by decide +kernel
theorem dX10_goAlong_54 : decode cX10_goAlong 54 = .ok (.aload_n 0, 1) := by decide +kernel
theorem dX10_goAlong_55 : decode cX10_goAlong 55 = .ok (.getfield 9, 3) := by decide +kernel
theorem dX10_goAlong_58 : decode cX10_goAlong 58 = .ok (.iload 5, 2) := by decide +kernel
theorem dX10_goAlong_60 : decode cX10_goAlong 60 = .ok (.bipush 10, 2) := by decide +kernel
theorem dX10_goAlong_62 : decode cX10_goAlong 62 = .ok (.imul, 1) := by decide +kernel
theorem dX10_goAlong_63 : decode cX10_goAlong 63 = .ok (.iload 9, 2) := by decide +kernel
theorem dX10_goAlong_65 : decode cX10_goAlong 65 = .ok (.iadd, 1) := by decide +kernel
theorem dX10_goAlong_66 : decode cX10_goAlong 66 = .ok (.iaload, 1) := by decide +kernel
theorem dX10_goAlong_67 : decode cX10_goAlong 67 = .ok (.iadd, 1) := by decide +kernel
theorem dX10_goAlong_68 : decode cX10_goAlong 68 = .ok (.istore 7, 2) := by decide +kernel
theorem dX10_goAlong_70 : decode cX10_goAlong 70 = .ok (.aload_n 0, 1) := by decide +kernel
theorem dX10_goAlong_71 : decode cX10_goAlong 71 = .ok (.getfield 21, 3) := by decide +kernel
theorem dX10_goAlong_74 : decode cX10_goAlong 74 = .ok (.iload_n 1, 1) := by decide +kernel
theorem dX10_goAlong_75 : decode cX10_goAlong 75 = .ok (.dup2, 1) := by decide +kernel
theorem dX10_goAlong_76 : decode cX10_goAlong 76 = .ok (.iaload, 1) := by decide +kernel
theorem dX10_goAlong_77 : decode cX10_goAlong 77 = .ok (.aload_n 0, 1) := by decide +kernel
theorem dX10_goAlong_78 : decode cX10_goAlong 78 = .ok (.iload 5, 2) := by decide +kernel
theorem dX10_goAlong_80 : decode cX10_goAlong 80 = .ok (.iload 9, 2) := by decide +kernel
theorem dX10_goAlong_82 : decode cX10_goAlong 82 = .ok (.invokevirtual 83, 3) := by decide +kernel
theorem dX10_goAlong_85 : decode cX10_goAlong 85 = .ok (.ior, 1) := by decide +kernel
theorem dX10_goAlong_86 : decode cX10_goAlong 86 = .ok (.iastore, 1) := by decide +kernel
theorem dX10_goAlong_87 : decode cX10_goAlong 87 = .ok (.iload 6, 2) := by decide +kernel
theorem dX10_goAlong_89 : decode cX10_goAlong 89 = .ok (.iconst 1, 1) := by decide +kernel
theorem dX10_goAlong_90 : decode cX10_goAlong 90 = .ok (.iload 9, 2) := by decide +kernel
theorem dX10_goAlong_92 : decode cX10_goAlong 92 = .ok (.ishl, 1) := by decide +kernel
theorem dX10_goAlong_93 : decode cX10_goAlong 93 = .ok (.iconst (-1), 1) := by decide +kernel
theorem dX10_goAlong_94 : decode cX10_goAlong 94 = .ok (.ixor, 1) := by decide +kernel
theorem dX10_goAlong_95 : decode cX10_goAlong 95 = .ok (.iand, 1) := by decide +kernel
theorem dX10_goAlong_96 : decode cX10_goAlong 96 = .ok (.istore 6, 2) := by decide +kernel
theorem dX10_goAlong_98 : decode cX10_goAlong 98 = .ok (.iload 9, 2) := by decide +kernel
theorem dX10_goAlong_100 : decode cX10_goAlong 100 = .ok (.istore 5, 2) := by decide +kernel
theorem dX10_goAlong_102 : decode cX10_goAlong 102 = .ok (.iload 5, 2) := by decide +kernel
theorem dX10_goAlong_104 : decode cX10_goAlong 104 = .ok (.iload 4, 2) := by decide +kernel
theorem dX10_goAlong_106 : decode cX10_goAlong 106 = .ok (.if_icmp .ne 12, 3) := by decide +kernel
theorem dX10_goAlong_109 : decode cX10_goAlong 109 = .ok (.aload_n 0, 1) := by decide +kernel
theorem dX10_goAlong_110 : decode cX10_goAlong 110 = .ok (.getfield 18, 3) := by decide +kernel
theorem dX10_goAlong_113 : decode cX10_goAlong 113 = .ok (.iload_n 1, 1) := by decide +kernel
theorem dX10_goAlong_114 : decode cX10_goAlong 114 = .ok (.iload 7, 2) := by decide +kernel
theorem dX10_goAlong_116 : decode cX10_goAlong 116 = .ok (.iastore, 1) := by decide +kernel
theorem dX10_goAlong_117 : decode cX10_goAlong 117 = .ok (.return_, 1) := by decide +kernel
theorem dX10_goAlong_118 : decode cX10_goAlong 118 = .ok (.iinc 8 1, 3) := by decide +kernel
theorem dX10_goAlong_121 : decode cX10_goAlong 121 = .ok (.goto (-93), 3) := by decide +kernel
theorem dX10_goAlong_124 : decode cX10_goAlong 124 = .ok (.return_, 1) := by decide +kernel
theorem bX10_goAlong_0 {Z : ZT} {X : XT} {μ : Mu} {a1 : Int32} {a2 : Int32} {a3 : Int32} {a4 : Int32} (E : Ent Z X mX10_goAlong 0 0)  (s1_ : vp_in a1 800)
    (k : JS Z X 16 [(0, .ref (Z.2.2.1 + 73)), (1, .int a1), (2, .int a2), (4, .int a4), (5, .int a2), (6, .int a3), (7, .int (nI 0))] [] (uR μ 76 (upd (μ 76) (ix a1) (-1)))) :
    JS Z X 0 [(0, .ref (Z.2.2.1 + 73)), (1, .int a1), (2, .int a2), (3, .int a3), (4, .int a4)] [] μ := by
  refine J_iload_n E dX10_goAlong_0 rfl ?_
  refine J_istore (lv' := [(0, .ref (Z.2.2.1 + 73)), (1, .int a1), (2, .int a2), (3, .int a3), (4, .int a4), (5, .int a2)]) E dX10_goAlong_1 (Nat.le_of_ble_eq_true rfl) rfl ?_
  refine J_iload_n E dX10_goAlong_3 rfl ?_
  refine J_istore (lv' := [(0, .ref (Z.2.2.1 + 73)), (1, .int a1), (2, .int a2), (3, .int a3), (4, .int a4), (5, .int a2), (6, .int a3)]) E dX10_goAlong_4 (Nat.le_of_ble_eq_true rfl) rfl ?_
  refine J_iconst (v := nI 0) E dX10_goAlong_6 rfl ?_
  refine J_istore (lv' := [(0, .ref (Z.2.2.1 + 73)), (1, .int a1), (2, .int a2), (3, .int a3), (4, .int a4), (5, .int a2), (6, .int a3), (7, .int (nI 0))]) E dX10_goAlong_7 (Nat.le_of_ble_eq_true rfl) rfl ?_
  refine J_aload_n E dX10_goAlong_9 rfl ?_
  refine S_get (ci := 10) (q := 3) (v := .ref (Z.2.2.1 + 76)) E dX10_goAlong_10 fs_X10_18 sh73 rfl ?_
  refine J_iload_n E dX10_goAlong_13 rfl ?_
  refine J_iconst (v := -1) E dX10_goAlong_14 rfl ?_
  refine S_iast E dX10_goAlong_15 sh76 s1_ ?_
  refine J.weak [0, 1, 2, 4, 5, 6, 7] rfl ?_
  exact k
theorem bX10_goAlong_16 {Z : ZT} {X : XT} {μ : Mu} {a1 : Int32} {a2 : Int32} {a4 : Int32} {a5 : Int32} {a6 : Int32} {a7 : Int32} (E : Ent Z X mX10_goAlong 0 0)  (s1_ : vp_in a1 800)
    (k : JS Z X 25 [(0, .ref (Z.2.2.1 + 73)), (1, .int a1), (4, .int a4), (5, .int a5), (6, .int a6), (7, .int a7)] [] (uR μ 77 (upd (μ 77) (ix a1) ((nI 1) <<< (a2 &&& 31))))) :
    JS Z X 16 [(0, .ref (Z.2.2.1 + 73)), (1, .int a1), (2, .int a2), (4, .int a4), (5, .int a5), (6, .int a6), (7, .int a7)] [] μ := by
  refine J_aload_n E dX10_goAlong_16 rfl ?_
  refine S_get (ci := 10) (q := 4) (v := .ref (Z.2.2.1 + 77)) E dX10_goAlong_17 fs_X10_21 sh73 rfl ?_
  refine J_iload_n E dX10_goAlong_20 rfl ?_
  refine J_iconst (v := nI 1) E dX10_goAlong_21 rfl ?_
  refine J_iload_n E dX10_goAlong_22 rfl ?_
  refine J_ishl E dX10_goAlong_23 ?_
  refine S_iast E dX10_goAlong_24 sh77 s1_ ?_
  refine J.weak [0, 1, 3, 4, 5, 6] rfl ?_
  exact k
theorem bX10_goAlong_25 {Z : ZT} {X : XT} {μ : Mu} {a1 : Int32} {a4 : Int32} {a5 : Int32} {a6 : Int32} {a7 : Int32} (E : Ent Z X mX10_goAlong 0 0)  
    (k : JS Z X 28 [(0, .ref (Z.2.2.1 + 73)), (1, .int a1), (4, .int a4), (5, .int a5), (6, .int a6), (7, .int a7), (8, .int (nI 0))] [] μ) :
    JS Z X 25 [(0, .ref (Z.2.2.1 + 73)), (1, .int a1), (4, .int a4), (5, .int a5), (6, .int a6), (7, .int a7)] [] μ := by
  refine J_iconst (v := nI 0) E dX10_goAlong_25 rfl ?_
  refine J_istore (lv' := [(0, .ref (Z.2.2.1 + 73)), (1, .int a1), (4, .int a4), (5, .int a5), (6, .int a6), (7, .int a7), (8, .int (nI 0))]) E dX10_goAlong_26 (Nat.le_of_ble_eq_true rfl) rfl ?_
  exact k
theorem bX10_goAlong_28 {Z : ZT} {X : XT} {μ : Mu} {a1 : Int32} {a4 : Int32} {a5 : Int32} {a6 : Int32} {a7 : Int32} {a8 : Int32} (E : Ent Z X mX10_goAlong 0 0)  
    (kt : (nI 10) ≤ a8 → JS Z X 124 [] [] μ) (kf : ¬ ((nI 10) ≤ a8) → JS Z X 35 [(0, .ref (Z.2.2.1 + 73)), (1, .int a1), (4, .int a4), (5, .int a5), (6, .int a6), (7, .int a7), (8, .int a8)] [] μ) :
    JS Z X 28 [(0, .ref (Z.2.2.1 + 73)), (1, .int a1), (4, .int a4), (5, .int a5), (6, .int a6), (7, .int a7), (8, .int a8)] [] μ := by
  refine J_iload E dX10_goAlong_28 rfl ?_
  refine J_bipush (v := nI 10) E dX10_goAlong_30 rfl ?_
  refine J_icmp_ge (tgt := 124) E dX10_goAlong_32 (by decide) (fun c => ?_) (fun c => ?_)
  · refine J.weak [] rfl ?_
    exact kt c
  · exact kf c
theorem bX10_goAlong_35 {Z : ZT} {X : XT} {μ : Mu} {a1 : Int32} {a4 : Int32} {a5 : Int32} {a6 : Int32} {a7 : Int32} {a8 : Int32} (E : Ent Z X mX10_goAlong 0 0) {p : Int32 → Mu → Prop} 
    (c : CtrS Z mX10_nearest [.ref (Z.2.2.1 + 73), .int a5, .int a6] μ (rI p)) (k : ∀ v μ1, p v μ1 → JS Z X 43 [(0, .ref (Z.2.2.1 + 73)), (1, .int a1), (4, .int a4), (5, .int a5), (6, .int a6), (7, .int a7), (8, .int a8)] [.int v] μ1) :
    JS Z X 35 [(0, .ref (Z.2.2.1 + 73)), (1, .int a1), (4, .int a4), (5, .int a5), (6, .int a6), (7, .int a7), (8, .int a8)] [] μ := by
  refine J_aload_n E dX10_goAlong_35 rfl ?_
  refine J_iload E dX10_goAlong_36 rfl ?_
  refine J_iload E dX10_goAlong_38 rfl ?_
  refine S_callV (As := [.int a5, .int a6]) (rest := []) E dX10_goAlong_40 c kX10_nearest ⟨Nat.le_of_ble_eq_true rfl, Nat.le_of_ble_eq_true rfl⟩ rfl (Nat.le_of_ble_eq_true rfl) sh73 rfl rfl w4_112 w4_114 wp_16 (fun r_ μ1 hp_ => ?_)
  obtain ⟨v, rfl, hp_⟩ := hp_
  exact k v μ1 hp_
theorem bX10_goAlong_43 {Z : ZT} {X : XT} {μ : Mu} {a1 : Int32} {a4 : Int32} {a5 : Int32} {a6 : Int32} {a7 : Int32} {a8 : Int32} {s0 : Int32} (E : Ent Z X mX10_goAlong 0 0)  
    (kt : ¬ s0 = (-1) → JS Z X 52 [(0, .ref (Z.2.2.1 + 73)), (1, .int a1), (4, .int a4), (5, .int a5), (6, .int a6), (7, .int a7), (8, .int a8), (9, .int s0)] [] μ) (kf : s0 = (-1) → JS Z X 51 [] [] μ) :
    JS Z X 43 [(0, .ref (Z.2.2.1 + 73)), (1, .int a1), (4, .int a4), (5, .int a5), (6, .int a6), (7, .int a7), (8, .int a8)] [.int s0] μ := by
  refine J_istore (lv' := [(0, .ref (Z.2.2.1 + 73)), (1, .int a1), (4, .int a4), (5, .int a5), (6, .int a6), (7, .int a7), (8, .int a8), (9, .int s0)]) E dX10_goAlong_43 (Nat.le_of_ble_eq_true rfl) rfl ?_
  refine J_iload E dX10_goAlong_45 rfl ?_
  refine J_iconst (v := -1) E dX10_goAlong_47 rfl ?_
  refine J_icmp_ne (tgt := 52) E dX10_goAlong_48 (by decide) (fun c => ?_) (fun c => ?_)
  · exact kt c
  · refine J.weak [] rfl ?_
    exact kf c
theorem bX10_goAlong_51 {Z : ZT} {X : XT} {μ : Mu} (E : Ent Z X mX10_goAlong 0 0) {P : Option Value → Mu → Prop} (hB : BodS Z X P) 
    (k : P none μ) :
    JS Z X 51 [] [] μ := by
  exact S_vret E hB dX10_goAlong_51 rfl k
theorem bX10_goAlong_52 {Z : ZT} {X : XT} {μ : Mu} {a1 : Int32} {a4 : Int32} {a5 : Int32} {a6 : Int32} {a7 : Int32} {a8 : Int32} {a9 : Int32} (E : Ent Z X mX10_goAlong 0 0) {p : Int32 → Mu → Prop} (s1_ : vp_in ((a5 * (nI 10)) + a9) 100) (s2_ : vp_in a1 800)
    (c : CtrS Z mX10_path [.ref (Z.2.2.1 + 73), .int a5, .int a9] μ (rI p)) (k : ∀ v μ1, p v μ1 → JS Z X 85 [(0, .ref (Z.2.2.1 + 73)), (1, .int a1), (4, .int a4), (6, .int a6), (7, .int (a7 + (μ 74 (ix ((a5 * (nI 10)) + a9))))), (8, .int a8), (9, .int a9)] [.int v, .int (μ 77 (ix a1)), .int a1, .ref (Z.2.2.1 + 77)] μ1) :
    JS Z X 52 [(0, .ref (Z.2.2.1 + 73)), (1, .int a1), (4, .int a4), (5, .int a5), (6, .int a6), (7, .int a7), (8, .int a8), (9, .int a9)] [] μ := by
  refine J_iload E dX10_goAlong_52 rfl ?_
  refine J_aload_n E dX10_goAlong_54 rfl ?_
  refine S_get (ci := 10) (q := 1) (v := .ref (Z.2.2.1 + 74)) E dX10_goAlong_55 fs_X10_9 sh73 rfl ?_
  refine J_iload E dX10_goAlong_58 rfl ?_
  refine J_bipush (v := nI 10) E dX10_goAlong_60 rfl ?_
  refine J_imul E dX10_goAlong_62 ?_
  refine J_iload E dX10_goAlong_63 rfl ?_
  refine J_iadd E dX10_goAlong_65 ?_
  refine S_iald E dX10_goAlong_66 sh74 s1_ ?_
  refine J_iadd E dX10_goAlong_67 ?_
  refine J_istore (lv' := [(0, .ref (Z.2.2.1 + 73)), (1, .int a1), (4, .int a4), (5, .int a5), (6, .int a6), (7, .int (a7 + (μ 74 (ix ((a5 * (nI 10)) + a9))))), (8, .int a8), (9, .int a9)]) E dX10_goAlong_68 (Nat.le_of_ble_eq_true rfl) rfl ?_
  refine J_aload_n E dX10_goAlong_70 rfl ?_
  refine S_get (ci := 10) (q := 4) (v := .ref (Z.2.2.1 + 77)) E dX10_goAlong_71 fs_X10_21 sh73 rfl ?_
  refine J_iload_n E dX10_goAlong_74 rfl ?_
  refine J_dup2_11 E dX10_goAlong_75 rfl rfl ?_
  refine S_iald E dX10_goAlong_76 sh77 s2_ ?_
  refine J_aload_n E dX10_goAlong_77 rfl ?_
  refine J_iload E dX10_goAlong_78 rfl ?_
  refine J_iload E dX10_goAlong_80 rfl ?_
  refine S_callV (As := [.int a5, .int a9]) (rest := [.int (μ 77 (ix a1)), .int a1, .ref (Z.2.2.1 + 77)]) E dX10_goAlong_82 c kX10_path ⟨Nat.le_of_ble_eq_true rfl, Nat.le_of_ble_eq_true rfl⟩ rfl (Nat.le_of_ble_eq_true rfl) sh73 rfl rfl w4_116 w4_118 wp_17 (fun r_ μ1 hp_ => ?_)
  obtain ⟨v, rfl, hp_⟩ := hp_
  refine J.weak [0, 1, 2, 4, 5, 6, 7] rfl ?_
  exact k v μ1 hp_
theorem bX10_goAlong_85 {Z : ZT} {X : XT} {μ : Mu} {a1 : Int32} {a4 : Int32} {a6 : Int32} {a7 : Int32} {a8 : Int32} {a9 : Int32} {s0 : Nat} {s1 : Int32} {s2 : Int32} {s3 : Int32} (E : Ent Z X mX10_goAlong 0 0) (hs0 : SH s0 = .inr (0, 800)) (s1_ : vp_in s1 800)
    (k : JS Z X 87 [(0, .ref (Z.2.2.1 + 73)), (1, .int a1), (4, .int a4), (6, .int a6), (7, .int a7), (8, .int a8), (9, .int a9)] [] (uR μ s0 (upd (μ s0) (ix s1) (s2 ||| s3)))) :
    JS Z X 85 [(0, .ref (Z.2.2.1 + 73)), (1, .int a1), (4, .int a4), (6, .int a6), (7, .int a7), (8, .int a8), (9, .int a9)] [.int s3, .int s2, .int s1, .ref (Z.2.2.1 + s0)] μ := by
  refine J_ior E dX10_goAlong_85 ?_
  refine S_iast E dX10_goAlong_86 hs0 s1_ ?_
  exact k
theorem bX10_goAlong_87 {Z : ZT} {X : XT} {μ : Mu} {a1 : Int32} {a4 : Int32} {a6 : Int32} {a7 : Int32} {a8 : Int32} {a9 : Int32} (E : Ent Z X mX10_goAlong 0 0)  
    (kt : ¬ a9 = a4 → JS Z X 118 [(0, .ref (Z.2.2.1 + 73)), (1, .int a1), (4, .int a4), (5, .int a9), (6, .int (a6 &&& (((nI 1) <<< (a9 &&& 31)) ^^^ (-1)))), (7, .int a7), (8, .int a8)] [] μ) (kf : a9 = a4 → JS Z X 109 [(0, .ref (Z.2.2.1 + 73)), (1, .int a1), (7, .int a7)] [] μ) :
    JS Z X 87 [(0, .ref (Z.2.2.1 + 73)), (1, .int a1), (4, .int a4), (6, .int a6), (7, .int a7), (8, .int a8), (9, .int a9)] [] μ := by
  refine J_iload E dX10_goAlong_87 rfl ?_
  refine J_iconst (v := nI 1) E dX10_goAlong_89 rfl ?_
  refine J_iload E dX10_goAlong_90 rfl ?_
  refine J_ishl E dX10_goAlong_92 ?_
  refine J_iconst (v := -1) E dX10_goAlong_93 rfl ?_
  refine J_ixor E dX10_goAlong_94 ?_
  refine J_iand E dX10_goAlong_95 ?_
  refine J_istore (lv' := [(0, .ref (Z.2.2.1 + 73)), (1, .int a1), (4, .int a4), (6, .int (a6 &&& (((nI 1) <<< (a9 &&& 31)) ^^^ (-1)))), (7, .int a7), (8, .int a8), (9, .int a9)]) E dX10_goAlong_96 (Nat.le_of_ble_eq_true rfl) rfl ?_
  refine J_iload E dX10_goAlong_98 rfl ?_
  refine J_istore (lv' := [(0, .ref (Z.2.2.1 + 73)), (1, .int a1), (4, .int a4), (5, .int a9), (6, .int (a6 &&& (((nI 1) <<< (a9 &&& 31)) ^^^ (-1)))), (7, .int a7), (8, .int a8), (9, .int a9)]) E dX10_goAlong_100 (Nat.le_of_ble_eq_true rfl) rfl ?_
  refine J_iload E dX10_goAlong_102 rfl ?_
  refine J_iload E dX10_goAlong_104 rfl ?_
  refine J_icmp_ne (tgt := 118) E dX10_goAlong_106 (by decide) (fun c => ?_) (fun c => ?_)
  · refine J.weak [0, 1, 2, 3, 4, 5, 6] rfl ?_
    exact kt c
  · refine J.weak [0, 1, 5] rfl ?_
    exact kf c
theorem bX10_goAlong_109 {Z : ZT} {X : XT} {μ : Mu} {a1 : Int32} {a7 : Int32} (E : Ent Z X mX10_goAlong 0 0)  (s1_ : vp_in a1 800)
    (k : JS Z X 117 [] [] (uR μ 76 (upd (μ 76) (ix a1) a7))) :
    JS Z X 109 [(0, .ref (Z.2.2.1 + 73)), (1, .int a1), (7, .int a7)] [] μ := by
  refine J_aload_n E dX10_goAlong_109 rfl ?_
  refine S_get (ci := 10) (q := 3) (v := .ref (Z.2.2.1 + 76)) E dX10_goAlong_110 fs_X10_18 sh73 rfl ?_
  refine J_iload_n E dX10_goAlong_113 rfl ?_
  refine J_iload E dX10_goAlong_114 rfl ?_
  refine S_iast E dX10_goAlong_116 sh76 s1_ ?_
  refine J.weak [] rfl ?_
  exact k
theorem bX10_goAlong_117 {Z : ZT} {X : XT} {μ : Mu} (E : Ent Z X mX10_goAlong 0 0) {P : Option Value → Mu → Prop} (hB : BodS Z X P) 
    (k : P none μ) :
    JS Z X 117 [] [] μ := by
  exact S_vret E hB dX10_goAlong_117 rfl k
theorem bX10_goAlong_118 {Z : ZT} {X : XT} {μ : Mu} {a1 : Int32} {a4 : Int32} {a5 : Int32} {a6 : Int32} {a7 : Int32} {a8 : Int32} (E : Ent Z X mX10_goAlong 0 0)  
    (k : JS Z X 28 [(0, .ref (Z.2.2.1 + 73)), (1, .int a1), (4, .int a4), (5, .int a5), (6, .int a6), (7, .int a7), (8, .int (a8 + nI 1))] [] μ) :
    JS Z X 118 [(0, .ref (Z.2.2.1 + 73)), (1, .int a1), (4, .int a4), (5, .int a5), (6, .int a6), (7, .int a7), (8, .int a8)] [] μ := by
  refine J_iinc (v := a8 + nI 1) (lv' := [(0, .ref (Z.2.2.1 + 73)), (1, .int a1), (4, .int a4), (5, .int a5), (6, .int a6), (7, .int a7), (8, .int (a8 + nI 1))]) E dX10_goAlong_118 rfl rfl (Nat.le_of_ble_eq_true rfl) rfl ?_
  refine J_goto (tgt := 28) E dX10_goAlong_121 (by decide) ?_
  exact k
theorem bX10_goAlong_124 {Z : ZT} {X : XT} {μ : Mu} (E : Ent Z X mX10_goAlong 0 0) {P : Option Value → Mu → Prop} (hB : BodS Z X P) 
    (k : P none μ) :
    JS Z X 124 [] [] μ := by
  exact S_vret E hB dX10_goAlong_124 rfl k
theorem dX10_nearest_0 : decode cX10_nearest 0 = .ok (.iconst (-1), 1) := by decide +kernel
theorem dX10_nearest_1 : decode cX10_nearest 1 = .ok (.istore_n 3, 1) := by decide +kernel
theorem dX10_nearest_2 : decode cX10_nearest 2 = .ok (.sipush 10000, 3) := by decide +kernel
theorem dX10_nearest_5 : decode cX10_nearest 5 = .ok (.istore 4, 2) := by decide +kernel
theorem dX10_nearest_7 : decode cX10_nearest 7 = .ok (.iconst 0, 1) := by decide +kernel
theorem dX10_nearest_8 : decode cX10_nearest 8 = .ok (.istore 5, 2) := by decide +kernel
theorem dX10_nearest_10 : decode cX10_nearest 10 = .ok (.iload 5, 2) := by decide +kernel
theorem dX10_nearest_12 : decode cX10_nearest 12 = .ok (.aload_n 0, 1) := by decide +kernel
theorem dX10_nearest_13 : decode cX10_nearest 13 = .ok (.getfield 24, 3) := by decide +kernel
theorem dX10_nearest_16 : decode cX10_nearest 16 = .ok (.getfield 43, 3) := by decide +kernel
theorem dX10_nearest_19 : decode cX10_nearest 19 = .ok (.if_icmp .ge 53, 3) := by decide +kernel
theorem dX10_nearest_22 : decode cX10_nearest 22 = .ok (.iload_n 2, 1) := by decide +kernel
theorem dX10_nearest_23 : decode cX10_nearest 23 = .ok (.iload 5, 2) := by decide +kernel
theorem dX10_nearest_25 : decode cX10_nearest 25 = .ok (.ishr, 1) := by decide +kernel
theorem dX10_nearest_26 : decode cX10_nearest 26 = .ok (.iconst 1, 1) := by decide +kernel
theorem dX10_nearest_27 : decode cX10_nearest 27 = .ok (.iand, 1) := by decide +kernel
theorem dX10_nearest_28 : decode cX10_nearest 28 = .ok (.iconst 1, 1) := by decide +kernel
theorem dX10_nearest_29 : decode cX10_nearest 29 = .ok (.if_icmp .ne 37, 3) := by decide +kernel
theorem dX10_nearest_32 : decode cX10_nearest 32 = .ok (.aload_n 0, 1) := by decide +kernel
theorem dX10_nearest_33 : decode cX10_nearest 33 = .ok (.getfield 9, 3) := by decide +kernel
theorem dX10_nearest_36 : decode cX10_nearest 36 = .ok (.iload_n 1, 1) := by decide +kernel
theorem dX10_nearest_37 : decode cX10_nearest 37 = .ok (.bipush 10, 2) := by decide +kernel
theorem dX10_nearest_39 : decode cX10_nearest 39 = .ok (.imul, 1) := by decide +kernel
theorem dX10_nearest_40 : decode cX10_nearest 40 = .ok (.iload 5, 2) := by decide +kernel
theorem dX10_nearest_42 : decode cX10_nearest 42 = .ok (.iadd, 1) := by decide +kernel
theorem dX10_nearest_43 : decode cX10_nearest 43 = .ok (.iaload, 1) := by decide +kernel
theorem dX10_nearest_44 : decode cX10_nearest 44 = .ok (.iload 4, 2) := by decide +kernel
theorem dX10_nearest_46 : decode cX10_nearest 46 = .ok (.if_icmp .ge 20, 3) := by decide +kernel
theorem dX10_nearest_49 : decode cX10_nearest 49 = .ok (.iload 5, 2) := by decide +kernel
theorem dX10_nearest_51 : decode cX10_nearest 51 = .ok (.istore_n 3, 1) := by decide +kernel
theorem dX10_nearest_52 : decode cX10_nearest 52 = .ok (.aload_n 0, 1) := by decide +kernel
theorem dX10_nearest_53 : decode cX10_nearest 53 = .ok (.getfield 9, 3) := by decide +kernel
theorem dX10_nearest_56 : decode cX10_nearest 56 = .ok (.iload_n 1, 1) := by decide +kernel
theorem dX10_nearest_57 : decode cX10_nearest 57 = .ok (.bipush 10, 2) := by decide +kernel
theorem dX10_nearest_59 : decode cX10_nearest 59 = .ok (.imul, 1) := by decide +kernel
theorem dX10_nearest_60 : decode cX10_nearest 60 = .ok (.iload 5, 2) := by decide +kernel
theorem dX10_nearest_62 : decode cX10_nearest 62 = .ok (.iadd, 1) := by decide +kernel
theorem dX10_nearest_63 : decode cX10_nearest 63 = .ok (.iaload, 1) := by decide +kernel
theorem dX10_nearest_64 : decode cX10_nearest 64 = .ok (.istore 4, 2) := by decide +kernel
theorem dX10_nearest_66 : decode cX10_nearest 66 = .ok (.iinc 5 1, 3) := by decide +kernel
theorem dX10_nearest_69 : decode cX10_nearest 69 = .ok (.goto (-59), 3) := by decide +kernel
theorem dX10_nearest_72 : decode cX10_nearest 72 = .ok (.iload_n 3, 1) := by decide +kernel
theorem dX10_nearest_73 : decode cX10_nearest 73 = .ok (.ireturn, 1) := by decide +kernel
theorem bX10_nearest_0 {Z : ZT} {X : XT} {μ : Mu} {a1 : Int32} {a2 : Int32} (E : Ent Z X mX10_nearest 0 0)  
    (k : JS Z X 10 [(0, .ref (Z.2.2.1 + 73)), (1, .int a1), (2, .int a2), (3, .int (-1)), (4, .int (nI 10000)), (5, .int (nI 0))] [] μ) :
    JS Z X 0 [(0, .ref (Z.2.2.1 + 73)), (1, .int a1), (2, .int a2)] [] μ := by
  refine J_iconst (v := -1) E dX10_nearest_0 rfl ?_
  refine J_istore_n (lv' := [(0, .ref (Z.2.2.1 + 73)), (1, .int a1), (2, .int a2), (3, .int (-1))]) E dX10_nearest_1 (Nat.le_of_ble_eq_true rfl) rfl ?_
  refine J_sipush (v := nI 10000) E dX10_nearest_2 rfl ?_
  refine J_istore (lv' := [(0, .ref (Z.2.2.1 + 73)), (1, .int a1), (2, .int a2), (3, .int (-1)), (4, .int (nI 10000))]) E dX10_nearest_5 (Nat.le_of_ble_eq_true rfl) rfl ?_
  refine J_iconst (v := nI 0) E dX10_nearest_7 rfl ?_
  refine J_istore (lv' := [(0, .ref (Z.2.2.1 + 73)), (1, .int a1), (2, .int a2), (3, .int (-1)), (4, .int (nI 10000)), (5, .int (nI 0))]) E dX10_nearest_8 (Nat.le_of_ble_eq_true rfl) rfl ?_
  exact k
theorem bX10_nearest_10 {Z : ZT} {X : XT} {μ : Mu} {a1 : Int32} {a2 : Int32} {a3 : Int32} {a4 : Int32} {a5 : Int32} (E : Ent Z X mX10_nearest 0 0)  
    (kt : (μ 1 0) ≤ a5 → JS Z X 72 [(3, .int a3)] [] μ) (kf : ¬ ((μ 1 0) ≤ a5) → JS Z X 22 [(0, .ref (Z.2.2.1 + 73)), (1, .int a1), (2, .int a2), (3, .int a3), (4, .int a4), (5, .int a5)] [] μ) :
    JS Z X 10 [(0, .ref (Z.2.2.1 + 73)), (1, .int a1), (2, .int a2), (3, .int a3), (4, .int a4), (5, .int a5)] [] μ := by
  refine J_iload E dX10_nearest_10 rfl ?_
  refine J_aload_n E dX10_nearest_12 rfl ?_
  refine S_get (ci := 10) (q := 0) (v := .ref (Z.2.2.1 + 1)) E dX10_nearest_13 fs_X10_24 sh73 rfl ?_
  refine S_get (ci := 3) (q := 0) (v := .int (μ 1 0)) E dX10_nearest_16 fs_X10_43 sh1 rfl ?_
  refine J_icmp_ge (tgt := 72) E dX10_nearest_19 (by decide) (fun c => ?_) (fun c => ?_)
  · refine J.weak [3] rfl ?_
    exact kt c
  · exact kf c
theorem bX10_nearest_22 {Z : ZT} {X : XT} {μ : Mu} {a1 : Int32} {a2 : Int32} {a3 : Int32} {a4 : Int32} {a5 : Int32} (E : Ent Z X mX10_nearest 0 0)  
    (kt : ¬ ((a2 >>> (a5 &&& 31)) &&& (nI 1)) = (nI 1) → JS Z X 66 [(0, .ref (Z.2.2.1 + 73)), (1, .int a1), (2, .int a2), (3, .int a3), (4, .int a4), (5, .int a5)] [] μ) (kf : ((a2 >>> (a5 &&& 31)) &&& (nI 1)) = (nI 1) → JS Z X 32 [(0, .ref (Z.2.2.1 + 73)), (1, .int a1), (2, .int a2), (3, .int a3), (4, .int a4), (5, .int a5)] [] μ) :
    JS Z X 22 [(0, .ref (Z.2.2.1 + 73)), (1, .int a1), (2, .int a2), (3, .int a3), (4, .int a4), (5, .int a5)] [] μ := by
  refine J_iload_n E dX10_nearest_22 rfl ?_
  refine J_iload E dX10_nearest_23 rfl ?_
  refine J_ishr E dX10_nearest_25 ?_
  refine J_iconst (v := nI 1) E dX10_nearest_26 rfl ?_
  refine J_iand E dX10_nearest_27 ?_
  refine J_iconst (v := nI 1) E dX10_nearest_28 rfl ?_
  refine J_icmp_ne (tgt := 66) E dX10_nearest_29 (by decide) (fun c => ?_) (fun c => ?_)
  · exact kt c
  · exact kf c
theorem bX10_nearest_32 {Z : ZT} {X : XT} {μ : Mu} {a1 : Int32} {a2 : Int32} {a3 : Int32} {a4 : Int32} {a5 : Int32} (E : Ent Z X mX10_nearest 0 0)  (s1_ : vp_in ((a1 * (nI 10)) + a5) 100)
    (kt : a4 ≤ (μ 74 (ix ((a1 * (nI 10)) + a5))) → JS Z X 66 [(0, .ref (Z.2.2.1 + 73)), (1, .int a1), (2, .int a2), (3, .int a3), (4, .int a4), (5, .int a5)] [] μ) (kf : ¬ (a4 ≤ (μ 74 (ix ((a1 * (nI 10)) + a5)))) → JS Z X 49 [(0, .ref (Z.2.2.1 + 73)), (1, .int a1), (2, .int a2), (5, .int a5)] [] μ) :
    JS Z X 32 [(0, .ref (Z.2.2.1 + 73)), (1, .int a1), (2, .int a2), (3, .int a3), (4, .int a4), (5, .int a5)] [] μ := by
  refine J_aload_n E dX10_nearest_32 rfl ?_
  refine S_get (ci := 10) (q := 1) (v := .ref (Z.2.2.1 + 74)) E dX10_nearest_33 fs_X10_9 sh73 rfl ?_
  refine J_iload_n E dX10_nearest_36 rfl ?_
  refine J_bipush (v := nI 10) E dX10_nearest_37 rfl ?_
  refine J_imul E dX10_nearest_39 ?_
  refine J_iload E dX10_nearest_40 rfl ?_
  refine J_iadd E dX10_nearest_42 ?_
  refine S_iald E dX10_nearest_43 sh74 s1_ ?_
  refine J_iload E dX10_nearest_44 rfl ?_
  refine J_icmp_ge (tgt := 66) E dX10_nearest_46 (by decide) (fun c => ?_) (fun c => ?_)
  · exact kt c
  · refine J.weak [0, 1, 2, 5] rfl ?_
    exact kf c
theorem bX10_nearest_49 {Z : ZT} {X : XT} {μ : Mu} {a1 : Int32} {a2 : Int32} {a5 : Int32} (E : Ent Z X mX10_nearest 0 0)  (s1_ : vp_in ((a1 * (nI 10)) + a5) 100)
    (k : JS Z X 66 [(0, .ref (Z.2.2.1 + 73)), (1, .int a1), (2, .int a2), (3, .int a5), (4, .int (μ 74 (ix ((a1 * (nI 10)) + a5)))), (5, .int a5)] [] μ) :
    JS Z X 49 [(0, .ref (Z.2.2.1 + 73)), (1, .int a1), (2, .int a2), (5, .int a5)] [] μ := by
  refine J_iload E dX10_nearest_49 rfl ?_
  refine J_istore_n (lv' := [(0, .ref (Z.2.2.1 + 73)), (1, .int a1), (2, .int a2), (3, .int a5), (5, .int a5)]) E dX10_nearest_51 (Nat.le_of_ble_eq_true rfl) rfl ?_
  refine J_aload_n E dX10_nearest_52 rfl ?_
  refine S_get (ci := 10) (q := 1) (v := .ref (Z.2.2.1 + 74)) E dX10_nearest_53 fs_X10_9 sh73 rfl ?_
  refine J_iload_n E dX10_nearest_56 rfl ?_
  refine J_bipush (v := nI 10) E dX10_nearest_57 rfl ?_
  refine J_imul E dX10_nearest_59 ?_
  refine J_iload E dX10_nearest_60 rfl ?_
  refine J_iadd E dX10_nearest_62 ?_
  refine S_iald E dX10_nearest_63 sh74 s1_ ?_
  refine J_istore (lv' := [(0, .ref (Z.2.2.1 + 73)), (1, .int a1), (2, .int a2), (3, .int a5), (4, .int (μ 74 (ix ((a1 * (nI 10)) + a5)))), (5, .int a5)]) E dX10_nearest_64 (Nat.le_of_ble_eq_true rfl) rfl ?_
  exact k
theorem bX10_nearest_66 {Z : ZT} {X : XT} {μ : Mu} {a1 : Int32} {a2 : Int32} {a3 : Int32} {a4 : Int32} {a5 : Int32} (E : Ent Z X mX10_nearest 0 0)  
    (k : JS Z X 10 [(0, .ref (Z.2.2.1 + 73)), (1, .int a1), (2, .int a2), (3, .int a3), (4, .int a4), (5, .int (a5 + nI 1))] [] μ) :
    JS Z X 66 [(0, .ref (Z.2.2.1 + 73)), (1, .int a1), (2, .int a2), (3, .int a3), (4, .int a4), (5, .int a5)] [] μ := by
  refine J_iinc (v := a5 + nI 1) (lv' := [(0, .ref (Z.2.2.1 + 73)), (1, .int a1), (2, .int a2), (3, .int a3), (4, .int a4), (5, .int (a5 + nI 1))]) E dX10_nearest_66 rfl rfl (Nat.le_of_ble_eq_true rfl) rfl ?_
  refine J_goto (tgt := 10) E dX10_nearest_69 (by decide) ?_
  exact k
theorem bX10_nearest_72 {Z : ZT} {X : XT} {μ : Mu} {a3 : Int32} (E : Ent Z X mX10_nearest 0 0) {P : Option Value → Mu → Prop} (hB : BodS Z X P) 
    (k : P (some (.int a3)) μ) :
    JS Z X 72 [(3, .int a3)] [] μ := by
  refine J_iload_n E dX10_nearest_72 rfl ?_
  exact S_iret E hB dX10_nearest_73 rfl k
theorem dX10_path_0 : decode cX10_path 0 = .ok (.iload_n 1, 1) := by decide +kernel
theorem dX10_path_1 : decode cX10_path 1 = .ok (.istore_n 3, 1) := by decide +kernel
theorem dX10_path_2 : decode cX10_path 2 = .ok (.iconst 1, 1) := by decide +kernel
theorem dX10_path_3 : decode cX10_path 3 = .ok (.iload_n 1, 1) := by decide +kernel
theorem dX10_path_4 : decode cX10_path 4 = .ok (.ishl, 1) := by decide +kernel
theorem dX10_path_5 : decode cX10_path 5 = .ok (.istore 4, 2) := by decide +kernel
theorem dX10_path_7 : decode cX10_path 7 = .ok (.iconst 0, 1) := by decide +kernel
theorem dX10_path_8 : decode cX10_path 8 = .ok (.istore 5, 2) := by decide +kernel
theorem dX10_path_10 : decode cX10_path 10 = .ok (.iload 5, 2) := by decide +kernel
theorem dX10_path_12 : decode cX10_path 12 = .ok (.bipush 10, 2) := by decide +kernel
theorem dX10_path_14 : decode cX10_path 14 = .ok (.if_icmp .ge 34, 3) := by decide +kernel
theorem dX10_path_17 : decode cX10_path 17 = .ok (.iload_n 3, 1) := by decide +kernel
theorem dX10_path_18 : decode cX10_path 18 = .ok (.iload_n 2, 1) := by decide +kernel
theorem dX10_path_19 : decode cX10_path 19 = .ok (.if_icmp .eq 29, 3) := by decide +kernel
theorem dX10_path_22 : decode cX10_path 22 = .ok (.aload_n 0, 1) := by decide +kernel
theorem dX10_path_23 : decode cX10_path 23 = .ok (.getfield 15, 3) := by decide +kernel
theorem dX10_path_26 : decode cX10_path 26 = .ok (.iload_n 3, 1) := by decide +kernel
theorem dX10_path_27 : decode cX10_path 27 = .ok (.bipush 10, 2) := by decide +kernel
theorem dX10_path_29 : decode cX10_path 29 = .ok (.imul, 1) := by decide +kernel
theorem dX10_path_30 : decode cX10_path 30 = .ok (.iload_n 2, 1) := by decide +kernel
theorem dX10_path_31 : decode cX10_path 31 = .ok (.iadd, 1) := by decide +kernel
theorem dX10_path_32 : decode cX10_path 32 = .ok (.iaload, 1) := by decide +kernel
theorem dX10_path_33 : decode cX10_path 33 = .ok (.istore_n 3, 1) := by decide +kernel
theorem dX10_path_34 : decode cX10_path 34 = .ok (.iload 4, 2) := by decide +kernel
theorem dX10_path_36 : decode cX10_path 36 = .ok (.iconst 1, 1) := by decide +kernel
theorem dX10_path_37 : decode cX10_path 37 = .ok (.iload_n 3, 1) := by decide +kernel
theorem dX10_path_38 : decode cX10_path 38 = .ok (.ishl, 1) := by decide +kernel
theorem dX10_path_39 : decode cX10_path 39 = .ok (.ior, 1) := by decide +kernel
theorem dX10_path_40 : decode cX10_path 40 = .ok (.istore 4, 2) := by decide +kernel
theorem dX10_path_42 : decode cX10_path 42 = .ok (.iinc 5 1, 3) := by decide +kernel
theorem dX10_path_45 : decode cX10_path 45 = .ok (.goto (-35), 3) := by decide +kernel
theorem dX10_path_48 : decode cX10_path 48 = .ok (.iload 4, 2) := by decide +kernel
theorem dX10_path_50 : decode cX10_path 50 = .ok (.ireturn, 1) := by decide +kernel
theorem bX10_path_0 {Z : ZT} {X : XT} {μ : Mu} {a1 : Int32} {a2 : Int32} (E : Ent Z X mX10_path 0 0)  
    (k : JS Z X 10 [(0, .ref (Z.2.2.1 + 73)), (2, .int a2), (3, .int a1), (4, .int ((nI 1) <<< (a1 &&& 31))), (5, .int (nI 0))] [] μ) :
    JS Z X 0 [(0, .ref (Z.2.2.1 + 73)), (1, .int a1), (2, .int a2)] [] μ := by
  refine J_iload_n E dX10_path_0 rfl ?_
  refine J_istore_n (lv' := [(0, .ref (Z.2.2.1 + 73)), (1, .int a1), (2, .int a2), (3, .int a1)]) E dX10_path_1 (Nat.le_of_ble_eq_true rfl) rfl ?_
  refine J_iconst (v := nI 1) E dX10_path_2 rfl ?_
  refine J_iload_n E dX10_path_3 rfl ?_
  refine J_ishl E dX10_path_4 ?_
  refine J_istore (lv' := [(0, .ref (Z.2.2.1 + 73)), (1, .int a1), (2, .int a2), (3, .int a1), (4, .int ((nI 1) <<< (a1 &&& 31)))]) E dX10_path_5 (Nat.le_of_ble_eq_true rfl) rfl ?_
  refine J_iconst (v := nI 0) E dX10_path_7 rfl ?_
  refine J_istore (lv' := [(0, .ref (Z.2.2.1 + 73)), (1, .int a1), (2, .int a2), (3, .int a1), (4, .int ((nI 1) <<< (a1 &&& 31))), (5, .int (nI 0))]) E dX10_path_8 (Nat.le_of_ble_eq_true rfl) rfl ?_
  refine J.weak [0, 2, 3, 4, 5] rfl ?_
  exact k
theorem bX10_path_10 {Z : ZT} {X : XT} {μ : Mu} {a2 : Int32} {a3 : Int32} {a4 : Int32} {a5 : Int32} (E : Ent Z X mX10_path 0 0)  
    (kt : (nI 10) ≤ a5 → JS Z X 48 [(4, .int a4)] [] μ) (kf : ¬ ((nI 10) ≤ a5) → JS Z X 17 [(0, .ref (Z.2.2.1 + 73)), (2, .int a2), (3, .int a3), (4, .int a4), (5, .int a5)] [] μ) :
    JS Z X 10 [(0, .ref (Z.2.2.1 + 73)), (2, .int a2), (3, .int a3), (4, .int a4), (5, .int a5)] [] μ := by
  refine J_iload E dX10_path_10 rfl ?_
  refine J_bipush (v := nI 10) E dX10_path_12 rfl ?_
  refine J_icmp_ge (tgt := 48) E dX10_path_14 (by decide) (fun c => ?_) (fun c => ?_)
  · refine J.weak [3] rfl ?_
    exact kt c
  · exact kf c
theorem bX10_path_17 {Z : ZT} {X : XT} {μ : Mu} {a2 : Int32} {a3 : Int32} {a4 : Int32} {a5 : Int32} (E : Ent Z X mX10_path 0 0)  
    (kt : a3 = a2 → JS Z X 48 [(4, .int a4)] [] μ) (kf : ¬ (a3 = a2) → JS Z X 22 [(0, .ref (Z.2.2.1 + 73)), (2, .int a2), (3, .int a3), (4, .int a4), (5, .int a5)] [] μ) :
    JS Z X 17 [(0, .ref (Z.2.2.1 + 73)), (2, .int a2), (3, .int a3), (4, .int a4), (5, .int a5)] [] μ := by
  refine J_iload_n E dX10_path_17 rfl ?_
  refine J_iload_n E dX10_path_18 rfl ?_
  refine J_icmp_eq (tgt := 48) E dX10_path_19 (by decide) (fun c => ?_) (fun c => ?_)
  · refine J.weak [3] rfl ?_
    exact kt c
  · exact kf c
theorem bX10_path_22 {Z : ZT} {X : XT} {μ : Mu} {a2 : Int32} {a3 : Int32} {a4 : Int32} {a5 : Int32} (E : Ent Z X mX10_path 0 0)  (s1_ : vp_in ((a3 * (nI 10)) + a2) 100)
    (k : JS Z X 10 [(0, .ref (Z.2.2.1 + 73)), (2, .int a2), (3, .int (μ 75 (ix ((a3 * (nI 10)) + a2)))), (4, .int (a4 ||| ((nI 1) <<< ((μ 75 (ix ((a3 * (nI 10)) + a2))) &&& 31)))), (5, .int (a5 + nI 1))] [] μ) :
    JS Z X 22 [(0, .ref (Z.2.2.1 + 73)), (2, .int a2), (3, .int a3), (4, .int a4), (5, .int a5)] [] μ := by
  refine J_aload_n E dX10_path_22 rfl ?_
  refine S_get (ci := 10) (q := 2) (v := .ref (Z.2.2.1 + 75)) E dX10_path_23 fs_X10_15 sh73 rfl ?_
  refine J_iload_n E dX10_path_26 rfl ?_
  refine J_bipush (v := nI 10) E dX10_path_27 rfl ?_
  refine J_imul E dX10_path_29 ?_
  refine J_iload_n E dX10_path_30 rfl ?_
  refine J_iadd E dX10_path_31 ?_
  refine S_iald E dX10_path_32 sh75 s1_ ?_
  refine J_istore_n (lv' := [(0, .ref (Z.2.2.1 + 73)), (2, .int a2), (3, .int (μ 75 (ix ((a3 * (nI 10)) + a2)))), (4, .int a4), (5, .int a5)]) E dX10_path_33 (Nat.le_of_ble_eq_true rfl) rfl ?_
  refine J_iload E dX10_path_34 rfl ?_
  refine J_iconst (v := nI 1) E dX10_path_36 rfl ?_
  refine J_iload_n E dX10_path_37 rfl ?_
  refine J_ishl E dX10_path_38 ?_
  refine J_ior E dX10_path_39 ?_
  refine J_istore (lv' := [(0, .ref (Z.2.2.1 + 73)), (2, .int a2), (3, .int (μ 75 (ix ((a3 * (nI 10)) + a2)))), (4, .int (a4 ||| ((nI 1) <<< ((μ 75 (ix ((a3 * (nI 10)) + a2))) &&& 31)))), (5, .int a5)]) E dX10_path_40 (Nat.le_of_ble_eq_true rfl) rfl ?_
  refine J_iinc (v := a5 + nI 1) (lv' := [(0, .ref (Z.2.2.1 + 73)), (2, .int a2), (3, .int (μ 75 (ix ((a3 * (nI 10)) + a2)))), (4, .int (a4 ||| ((nI 1) <<< ((μ 75 (ix ((a3 * (nI 10)) + a2))) &&& 31)))), (5, .int (a5 + nI 1))]) E dX10_path_42 rfl rfl (Nat.le_of_ble_eq_true rfl) rfl ?_
  refine J_goto (tgt := 10) E dX10_path_45 (by decide) ?_
  exact k
theorem bX10_path_48 {Z : ZT} {X : XT} {μ : Mu} {a4 : Int32} (E : Ent Z X mX10_path 0 0) {P : Option Value → Mu → Prop} (hB : BodS Z X P) 
    (k : P (some (.int a4)) μ) :
    JS Z X 48 [(4, .int a4)] [] μ := by
  refine J_iload E dX10_path_48 rfl ?_
  exact S_iret E hB dX10_path_50 rfl k
