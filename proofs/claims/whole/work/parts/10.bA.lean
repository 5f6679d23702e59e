theorem dJ7_fill_53178_0 : decode cJ7_fill_53178 0 = .ok (.iconst 0, 1) := by decide +kernel
theorem dJ7_fill_53178_1 : decode cJ7_fill_53178 1 = .ok (.istore_n 2, 1) := by decide +kernel
theorem dJ7_fill_53178_2 : decode cJ7_fill_53178 2 = .ok (.aload_n 0, 1) := by decide +kernel
theorem dJ7_fill_53178_3 : decode cJ7_fill_53178 3 = .ok (.arraylength, 1) := by decide +kernel
theorem dJ7_fill_53178_4 : decode cJ7_fill_53178 4 = .ok (.istore_n 3, 1) := by decide +kernel
theorem dJ7_fill_53178_5 : decode cJ7_fill_53178 5 = .ok (.iload_n 2, 1) := by decide +kernel
theorem dJ7_fill_53178_6 : decode cJ7_fill_53178 6 = .ok (.iload_n 3, 1) := by decide +kernel
theorem dJ7_fill_53178_7 : decode cJ7_fill_53178 7 = .ok (.if_icmp .ge 13, 3) := by decide +kernel
theorem dJ7_fill_53178_10 : decode cJ7_fill_53178 10 = .ok (.aload_n 0, 1) := by decide +kernel
theorem dJ7_fill_53178_11 : decode cJ7_fill_53178 11 = .ok (.iload_n 2, 1) := by decide +kernel
theorem dJ7_fill_53178_12 : decode cJ7_fill_53178 12 = .ok (.iload_n 1, 1) := by decide +kernel
theorem dJ7_fill_53178_13 : decode cJ7_fill_53178 13 = .ok (.iastore, 1) := by decide +kernel
theorem dJ7_fill_53178_14 : decode cJ7_fill_53178 14 = .ok (.iinc 2 1, 3) := by decide +kernel
theorem dJ7_fill_53178_17 : decode cJ7_fill_53178 17 = .ok (.goto (-12), 3) := by decide +kernel
theorem dJ7_fill_53178_20 : decode cJ7_fill_53178 20 = .ok (.return_, 1) := by decide +kernel
theorem bJ7_fill_53178_0 {Z : ZT} {X : XT} {μ : Mu} {a0 : Nat} {na0 : Nat} {a1 : Int32} (E : Ent Z X mJ7_fill_53178 0 0) (ha0 : SH a0 = .inr (0, na0)) 
    (k : JS Z X 5 [(0, .ref (Z.2.2.1 + a0)), (1, .int a1), (2, .int (nI 0)), (3, .int (nI na0))] [] μ) :
    JS Z X 0 [(0, .ref (Z.2.2.1 + a0)), (1, .int a1)] [] μ := by
  refine J_iconst (v := nI 0) E dJ7_fill_53178_0 rfl ?_
  refine J_istore_n (lv' := [(0, .ref (Z.2.2.1 + a0)), (1, .int a1), (2, .int (nI 0))]) E dJ7_fill_53178_1 (Nat.le_of_ble_eq_true rfl) rfl ?_
  refine J_aload_n E dJ7_fill_53178_2 rfl ?_
  refine S_alen (v := nI na0) E dJ7_fill_53178_3 ha0 rfl ?_
  refine J_istore_n (lv' := [(0, .ref (Z.2.2.1 + a0)), (1, .int a1), (2, .int (nI 0)), (3, .int (nI na0))]) E dJ7_fill_53178_4 (Nat.le_of_ble_eq_true rfl) rfl ?_
  exact k
theorem bJ7_fill_53178_5 {Z : ZT} {X : XT} {μ : Mu} {a0 : Nat} {na0 : Nat} {a1 : Int32} {a2 : Int32} {a3 : Int32} (E : Ent Z X mJ7_fill_53178 0 0) (ha0 : SH a0 = .inr (0, na0)) 
    (kt : a3 ≤ a2 → JS Z X 20 [] [] μ) (kf : ¬ (a3 ≤ a2) → JS Z X 10 [(0, .ref (Z.2.2.1 + a0)), (1, .int a1), (2, .int a2), (3, .int a3)] [] μ) :
    JS Z X 5 [(0, .ref (Z.2.2.1 + a0)), (1, .int a1), (2, .int a2), (3, .int a3)] [] μ := by
  refine J_iload_n E dJ7_fill_53178_5 rfl ?_
  refine J_iload_n E dJ7_fill_53178_6 rfl ?_
  refine J_icmp_ge (tgt := 20) E dJ7_fill_53178_7 (by decide) (fun c => ?_) (fun c => ?_)
  · refine J.weak [] rfl ?_
    exact kt c
  · exact kf c
theorem bJ7_fill_53178_10 {Z : ZT} {X : XT} {μ : Mu} {a0 : Nat} {na0 : Nat} {a1 : Int32} {a2 : Int32} {a3 : Int32} (E : Ent Z X mJ7_fill_53178 0 0) (ha0 : SH a0 = .inr (0, na0)) (s1_ : vp_in a2 na0)
    (k : JS Z X 14 [(0, .ref (Z.2.2.1 + a0)), (1, .int a1), (2, .int a2), (3, .int a3)] [] (uR μ a0 (upd (μ a0) (ix a2) a1))) :
    JS Z X 10 [(0, .ref (Z.2.2.1 + a0)), (1, .int a1), (2, .int a2), (3, .int a3)] [] μ := by
  refine J_aload_n E dJ7_fill_53178_10 rfl ?_
  refine J_iload_n E dJ7_fill_53178_11 rfl ?_
  refine J_iload_n E dJ7_fill_53178_12 rfl ?_
  refine S_iast E dJ7_fill_53178_13 ha0 s1_ ?_
  exact k
theorem bJ7_fill_53178_14 {Z : ZT} {X : XT} {μ : Mu} {a0 : Nat} {na0 : Nat} {a1 : Int32} {a2 : Int32} {a3 : Int32} (E : Ent Z X mJ7_fill_53178 0 0) (ha0 : SH a0 = .inr (0, na0)) 
    (k : JS Z X 5 [(0, .ref (Z.2.2.1 + a0)), (1, .int a1), (2, .int (a2 + nI 1)), (3, .int a3)] [] μ) :
    JS Z X 14 [(0, .ref (Z.2.2.1 + a0)), (1, .int a1), (2, .int a2), (3, .int a3)] [] μ := by
  refine J_iinc (v := a2 + nI 1) (lv' := [(0, .ref (Z.2.2.1 + a0)), (1, .int a1), (2, .int (a2 + nI 1)), (3, .int a3)]) E dJ7_fill_53178_14 rfl rfl (Nat.le_of_ble_eq_true rfl) rfl ?_
  refine J_goto (tgt := 5) E dJ7_fill_53178_17 (by decide) ?_
  exact k
theorem bJ7_fill_53178_20 {Z : ZT} {X : XT} {μ : Mu} (E : Ent Z X mJ7_fill_53178 0 0) {P : Option Value → Mu → Prop} (hB : BodS Z X P) 
    (k : P none μ) :
    JS Z X 20 [] [] μ := by
  exact S_vret E hB dJ7_fill_53178_20 rfl k
theorem dX0_init_0 : decode cX0_init 0 = .ok (.aload_n 0, 1) := by decide +kernel
theorem dX0_init_1 : decode cX0_init 1 = .ok (.invokespecial 3, 3) := by decide +kernel
theorem dX0_init_4 : decode cX0_init 4 = .ok (.aload_n 0, 1) := by decide +kernel
theorem dX0_init_5 : decode cX0_init 5 = .ok (.bipush 24, 2) := by decide +kernel
theorem dX0_init_7 : decode cX0_init 7 = .ok (.newarray .int, 2) := by decide +kernel
theorem dX0_init_9 : decode cX0_init 9 = .ok (.putfield 9, 3) := by decide +kernel
theorem dX0_init_12 : decode cX0_init 12 = .ok (.return_, 1) := by decide +kernel
theorem dX0_set_0 : decode cX0_set 0 = .ok (.iconst 0, 1) := by decide +kernel
theorem dX0_set_1 : decode cX0_set 1 = .ok (.istore_n 2, 1) := by decide +kernel
theorem dX0_set_2 : decode cX0_set 2 = .ok (.iload_n 2, 1) := by decide +kernel
theorem dX0_set_3 : decode cX0_set 3 = .ok (.aload_n 0, 1) := by decide +kernel
theorem dX0_set_4 : decode cX0_set 4 = .ok (.getfield 13, 3) := by decide +kernel
theorem dX0_set_7 : decode cX0_set 7 = .ok (.if_icmp .ge 16, 3) := by decide +kernel
theorem dX0_set_10 : decode cX0_set 10 = .ok (.aload_n 0, 1) := by decide +kernel
theorem dX0_set_11 : decode cX0_set 11 = .ok (.getfield 9, 3) := by decide +kernel
theorem dX0_set_14 : decode cX0_set 14 = .ok (.iload_n 2, 1) := by decide +kernel
theorem dX0_set_15 : decode cX0_set 15 = .ok (.iconst 0, 1) := by decide +kernel
theorem dX0_set_16 : decode cX0_set 16 = .ok (.iastore, 1) := by decide +kernel
theorem dX0_set_17 : decode cX0_set 17 = .ok (.iinc 2 1, 3) := by decide +kernel
theorem dX0_set_20 : decode cX0_set 20 = .ok (.goto (-18), 3) := by decide +kernel
theorem dX0_set_23 : decode cX0_set 23 = .ok (.aload_n 0, 1) := by decide +kernel
theorem dX0_set_24 : decode cX0_set 24 = .ok (.getfield 9, 3) := by decide +kernel
theorem dX0_set_27 : decode cX0_set 27 = .ok (.iconst 0, 1) := by decide +kernel
theorem dX0_set_28 : decode cX0_set 28 = .ok (.iload_n 1, 1) := by decide +kernel
theorem dX0_set_29 : decode cX0_set 29 = .ok (.ldc 17, 2) := by decide +kernel
theorem dX0_set_31 : decode cX0_set 31 = .ok (.iand, 1) := by decide +kernel
theorem dX0_set_32 : decode cX0_set 32 = .ok (.iastore, 1) := by decide +kernel
theorem dX0_set_33 : decode cX0_set 33 = .ok (.aload_n 0, 1) := by decide +kernel
theorem dX0_set_34 : decode cX0_set 34 = .ok (.iconst 1, 1) := by decide +kernel
theorem dX0_set_35 : decode cX0_set 35 = .ok (.invokevirtual 18, 3) := by decide +kernel
theorem dX0_set_38 : decode cX0_set 38 = .ok (.return_, 1) := by decide +kernel
theorem bX0_set_0 {Z : ZT} {X : XT} {μ : Mu} {a0 : Nat} {a1 : Int32} (E : Ent Z X mX0_set 0 0) (ha0 : SH a0 = .inl 0) 
    (k : JS Z X 2 [(0, .ref (Z.2.2.1 + a0)), (1, .int a1), (2, .int (nI 0))] [] μ) :
    JS Z X 0 [(0, .ref (Z.2.2.1 + a0)), (1, .int a1)] [] μ := by
  refine J_iconst (v := nI 0) E dX0_set_0 rfl ?_
  refine J_istore_n (lv' := [(0, .ref (Z.2.2.1 + a0)), (1, .int a1), (2, .int (nI 0))]) E dX0_set_1 (Nat.le_of_ble_eq_true rfl) rfl ?_
  exact k
theorem bX0_set_2 {Z : ZT} {X : XT} {μ : Mu} {a0 : Nat} {a1 : Int32} {a2 : Int32} (E : Ent Z X mX0_set 0 0) (ha0 : SH a0 = .inl 0) 
    (kt : (μ a0 1) ≤ a2 → JS Z X 23 [(0, .ref (Z.2.2.1 + a0)), (1, .int a1)] [] μ) (kf : ¬ ((μ a0 1) ≤ a2) → JS Z X 10 [(0, .ref (Z.2.2.1 + a0)), (1, .int a1), (2, .int a2)] [] μ) :
    JS Z X 2 [(0, .ref (Z.2.2.1 + a0)), (1, .int a1), (2, .int a2)] [] μ := by
  refine J_iload_n E dX0_set_2 rfl ?_
  refine J_aload_n E dX0_set_3 rfl ?_
  refine S_get (ci := 0) (q := 1) (v := .int (μ a0 1)) E dX0_set_4 fs_X0_13 ha0 rfl ?_
  refine J_icmp_ge (tgt := 23) E dX0_set_7 (by decide) (fun c => ?_) (fun c => ?_)
  · refine J.weak [0, 1] rfl ?_
    exact kt c
  · exact kf c
theorem bX0_set_10 {Z : ZT} {X : XT} {μ : Mu} {a0 : Nat} {a1 : Int32} {a2 : Int32} (E : Ent Z X mX0_set 0 0) (ha0 : SH a0 = .inl 0) (s1_ : vp_in a2 24)
    (k : JS Z X 17 [(0, .ref (Z.2.2.1 + a0)), (1, .int a1), (2, .int a2)] [] (uR μ (a0 + 1) (upd (μ (a0 + 1)) (ix a2) (nI 0)))) :
    JS Z X 10 [(0, .ref (Z.2.2.1 + a0)), (1, .int a1), (2, .int a2)] [] μ := by
  refine J_aload_n E dX0_set_10 rfl ?_
  refine S_get (ci := 0) (q := 0) (v := .ref (Z.2.2.1 + (a0 + 1))) E dX0_set_11 fs_X0_9 ha0 rfl ?_
  refine J_iload_n E dX0_set_14 rfl ?_
  refine J_iconst (v := nI 0) E dX0_set_15 rfl ?_
  refine S_iast E dX0_set_16 (shr_X0_0 ha0) s1_ ?_
  exact k
theorem bX0_set_17 {Z : ZT} {X : XT} {μ : Mu} {a0 : Nat} {a1 : Int32} {a2 : Int32} (E : Ent Z X mX0_set 0 0) (ha0 : SH a0 = .inl 0) 
    (k : JS Z X 2 [(0, .ref (Z.2.2.1 + a0)), (1, .int a1), (2, .int (a2 + nI 1))] [] μ) :
    JS Z X 17 [(0, .ref (Z.2.2.1 + a0)), (1, .int a1), (2, .int a2)] [] μ := by
  refine J_iinc (v := a2 + nI 1) (lv' := [(0, .ref (Z.2.2.1 + a0)), (1, .int a1), (2, .int (a2 + nI 1))]) E dX0_set_17 rfl rfl (Nat.le_of_ble_eq_true rfl) rfl ?_
  refine J_goto (tgt := 2) E dX0_set_20 (by decide) ?_
  exact k
theorem bX0_set_23 {Z : ZT} {X : XT} {μ : Mu} {a0 : Nat} {a1 : Int32} (E : Ent Z X mX0_set 0 0) (ha0 : SH a0 = .inl 0) (s1_ : vp_in (nI 0) 24)
    (k : JS Z X 33 [(0, .ref (Z.2.2.1 + a0))] [] (uR μ (a0 + 1) (upd (μ (a0 + 1)) (ix (nI 0)) (a1 &&& (nI 1073741823))))) :
    JS Z X 23 [(0, .ref (Z.2.2.1 + a0)), (1, .int a1)] [] μ := by
  refine J_aload_n E dX0_set_23 rfl ?_
  refine S_get (ci := 0) (q := 0) (v := .ref (Z.2.2.1 + (a0 + 1))) E dX0_set_24 fs_X0_9 ha0 rfl ?_
  refine J_iconst (v := nI 0) E dX0_set_27 rfl ?_
  refine J_iload_n E dX0_set_28 rfl ?_
  refine J_ldc (v := nI 1073741823) E dX0_set_29 w2_183 ?_
  refine J_iand E dX0_set_31 ?_
  refine S_iast E dX0_set_32 (shr_X0_0 ha0) s1_ ?_
  refine J.weak [0] rfl ?_
  exact k
theorem bX0_set_33 {Z : ZT} {X : XT} {μ : Mu} {a0 : Nat} (E : Ent Z X mX0_set 0 0) (ha0 : SH a0 = .inl 0) {p : Mu → Prop} 
    (c : CtrS Z mX0_trim [.ref (Z.2.2.1 + a0), .int (nI 1)] μ (rV p)) (k : ∀ μ1, p μ1 → JS Z X 38 [] [] μ1) :
    JS Z X 33 [(0, .ref (Z.2.2.1 + a0))] [] μ := by
  refine J_aload_n E dX0_set_33 rfl ?_
  refine J_iconst (v := nI 1) E dX0_set_34 rfl ?_
  refine S_callV (As := [.int (nI 1)]) (rest := []) E dX0_set_35 c kX0_trim ⟨Nat.le_of_ble_eq_true rfl, Nat.le_of_ble_eq_true rfl⟩ rfl (Nat.le_of_ble_eq_true rfl) ha0 rfl rfl w2_184 w2_186 wp_0 (fun r_ μ1 hp_ => ?_)
  obtain ⟨rfl, hp_⟩ := hp_
  refine J.weak [] rfl ?_
  exact k μ1 hp_
theorem bX0_set_38 {Z : ZT} {X : XT} {μ : Mu} (E : Ent Z X mX0_set 0 0) {P : Option Value → Mu → Prop} (hB : BodS Z X P) 
    (k : P none μ) :
    JS Z X 38 [] [] μ := by
  exact S_vret E hB dX0_set_38 rfl k
theorem dX0_copy_0 : decode cX0_copy 0 = .ok (.aload_n 1, 1) := by decide +kernel
theorem dX0_copy_1 : decode cX0_copy 1 = .ok (.getfield 9, 3) := by decide +kernel
theorem dX0_copy_4 : decode cX0_copy 4 = .ok (.iconst 0, 1) := by decide +kernel
theorem dX0_copy_5 : decode cX0_copy 5 = .ok (.aload_n 0, 1) := by decide +kernel
theorem dX0_copy_6 : decode cX0_copy 6 = .ok (.getfield 9, 3) := by decide +kernel
theorem dX0_copy_9 : decode cX0_copy 9 = .ok (.iconst 0, 1) := by decide +kernel
theorem dX0_copy_10 : decode cX0_copy 10 = .ok (.aload_n 0, 1) := by decide +kernel
theorem dX0_copy_11 : decode cX0_copy 11 = .ok (.getfield 13, 3) := by decide +kernel
theorem dX0_copy_14 : decode cX0_copy 14 = .ok (.aload_n 1, 1) := by decide +kernel
theorem dX0_copy_15 : decode cX0_copy 15 = .ok (.getfield 13, 3) := by decide +kernel
theorem dX0_copy_18 : decode cX0_copy 18 = .ok (.invokestatic 22, 3) := by decide +kernel
theorem dX0_copy_21 : decode cX0_copy 21 = .ok (.invokestatic 28, 3) := by decide +kernel
theorem dX0_copy_24 : decode cX0_copy 24 = .ok (.aload_n 0, 1) := by decide +kernel
theorem dX0_copy_25 : decode cX0_copy 25 = .ok (.aload_n 1, 1) := by decide +kernel
theorem dX0_copy_26 : decode cX0_copy 26 = .ok (.getfield 13, 3) := by decide +kernel
theorem dX0_copy_29 : decode cX0_copy 29 = .ok (.putfield 13, 3) := by decide +kernel
theorem dX0_copy_32 : decode cX0_copy 32 = .ok (.return_, 1) := by decide +kernel
theorem bX0_copy_0 {Z : ZT} {X : XT} {μ : Mu} {a0 : Nat} {a1 : Nat} (E : Ent Z X mX0_copy 0 0) (ha0 : SH a0 = .inl 0) (ha1 : SH a1 = .inl 0) (s1_ : ¬ (if (μ a0 1) < (μ a1 1) then (μ a1 1) else (μ a0 1)) < 0) (s2_ : ix (nI 0) + ix (if (μ a0 1) < (μ a1 1) then (μ a1 1) else (μ a0 1)) ≤ 24) (s3_ : ix (nI 0) + ix (if (μ a0 1) < (μ a1 1) then (μ a1 1) else (μ a0 1)) ≤ 24)
    (k : JS Z X 24 [(0, .ref (Z.2.2.1 + a0)), (1, .ref (Z.2.2.1 + a1))] [] (uR μ (a0 + 1) (va_cpy (μ (a1 + 1)) (μ (a0 + 1)) (ix (nI 0)) (ix (nI 0)) (ix (if (μ a0 1) < (μ a1 1) then (μ a1 1) else (μ a0 1)))))) :
    JS Z X 0 [(0, .ref (Z.2.2.1 + a0)), (1, .ref (Z.2.2.1 + a1))] [] μ := by
  refine J_aload_n E dX0_copy_0 rfl ?_
  refine S_get (ci := 0) (q := 0) (v := .ref (Z.2.2.1 + (a1 + 1))) E dX0_copy_1 fs_X0_9 ha1 rfl ?_
  refine J_iconst (v := nI 0) E dX0_copy_4 rfl ?_
  refine J_aload_n E dX0_copy_5 rfl ?_
  refine S_get (ci := 0) (q := 0) (v := .ref (Z.2.2.1 + (a0 + 1))) E dX0_copy_6 fs_X0_9 ha0 rfl ?_
  refine J_iconst (v := nI 0) E dX0_copy_9 rfl ?_
  refine J_aload_n E dX0_copy_10 rfl ?_
  refine S_get (ci := 0) (q := 1) (v := .int (μ a0 1)) E dX0_copy_11 fs_X0_13 ha0 rfl ?_
  refine J_aload_n E dX0_copy_14 rfl ?_
  refine S_get (ci := 0) (q := 1) (v := .int (μ a1 1)) E dX0_copy_15 fs_X0_13 ha1 rfl ?_
  refine J_mmax E dX0_copy_18 w4_130 w4_131 w1_13 w4_132 (Nat.le_of_ble_eq_true rfl) (Nat.le_of_ble_eq_true rfl) (Nat.le_refl 0) (Nat.le_refl 0) ?_
  refine S_copyi E dX0_copy_21 w4_133 w4_37 w4_36 w1_20 (shr_X0_0 ha1) (shr_X0_0 ha0) (by decide) (by decide) s1_ s2_ s3_ (Nat.le_of_ble_eq_true rfl) (Nat.le_of_ble_eq_true rfl) ?_
  exact k
theorem bX0_copy_24 {Z : ZT} {X : XT} {μ : Mu} {a0 : Nat} {a1 : Nat} (E : Ent Z X mX0_copy 0 0) (ha0 : SH a0 = .inl 0) (ha1 : SH a1 = .inl 0) 
    (k : JS Z X 32 [] [] (uR μ a0 (upd (μ a0) 1 (μ a1 1)))) :
    JS Z X 24 [(0, .ref (Z.2.2.1 + a0)), (1, .ref (Z.2.2.1 + a1))] [] μ := by
  refine J_aload_n E dX0_copy_24 rfl ?_
  refine J_aload_n E dX0_copy_25 rfl ?_
  refine S_get (ci := 0) (q := 1) (v := .int (μ a1 1)) E dX0_copy_26 fs_X0_13 ha1 rfl ?_
  refine S_puti E dX0_copy_29 fs_X0_13 fp_X0_1 ha0 rfl ?_
  refine J.weak [] rfl ?_
  exact k
theorem bX0_copy_32 {Z : ZT} {X : XT} {μ : Mu} (E : Ent Z X mX0_copy 0 0) {P : Option Value → Mu → Prop} (hB : BodS Z X P) 
    (k : P none μ) :
    JS Z X 32 [] [] μ := by
  exact S_vret E hB dX0_copy_32 rfl k
theorem dX0_times_0 : decode cX0_times 0 = .ok (.lconst 0, 1) := by decide +kernel
theorem dX0_times_1 : decode cX0_times 1 = .ok (.lstore_n 2, 1) := by decide +kernel
theorem dX0_times_2 : decode cX0_times 2 = .ok (.iconst 0, 1) := by decide +kernel
theorem dX0_times_3 : decode cX0_times 3 = .ok (.istore 4, 2) := by decide +kernel
theorem dX0_times_5 : decode cX0_times 5 = .ok (.iload 4, 2) := by decide +kernel
theorem dX0_times_7 : decode cX0_times 7 = .ok (.bipush 24, 2) := by decide +kernel
theorem dX0_times_9 : decode cX0_times 9 = .ok (.if_icmp .ge 56, 3) := by decide +kernel
theorem dX0_times_12 : decode cX0_times 12 = .ok (.iload 4, 2) := by decide +kernel
theorem dX0_times_14 : decode cX0_times 14 = .ok (.aload_n 0, 1) := by decide +kernel
theorem dX0_times_15 : decode cX0_times 15 = .ok (.getfield 13, 3) := by decide +kernel
theorem dX0_times_18 : decode cX0_times 18 = .ok (.if_icmp .lt 9, 3) := by decide +kernel
theorem dX0_times_21 : decode cX0_times 21 = .ok (.lload_n 2, 1) := by decide +kernel
theorem dX0_times_22 : decode cX0_times 22 = .ok (.lconst 0, 1) := by decide +kernel
theorem dX0_times_23 : decode cX0_times 23 = .ok (.lcmp, 1) := by decide +kernel
theorem dX0_times_24 : decode cX0_times 24 = .ok (.ifCond .le 41, 3) := by decide +kernel
theorem dX0_times_27 : decode cX0_times 27 = .ok (.lload_n 2, 1) := by decide +kernel
theorem dX0_times_28 : decode cX0_times 28 = .ok (.aload_n 0, 1) := by decide +kernel
theorem dX0_times_29 : decode cX0_times 29 = .ok (.getfield 9, 3) := by decide +kernel
theorem dX0_times_32 : decode cX0_times 32 = .ok (.iload 4, 2) := by decide +kernel
theorem dX0_times_34 : decode cX0_times 34 = .ok (.iaload, 1) := by decide +kernel
theorem dX0_times_35 : decode cX0_times 35 = .ok (.i2l, 1) := by decide +kernel
theorem dX0_times_36 : decode cX0_times 36 = .ok (.iload_n 1, 1) := by decide +kernel
theorem dX0_times_37 : decode cX0_times 37 = .ok (.i2l, 1) := by decide +kernel
theorem dX0_times_38 : decode cX0_times 38 = .ok (.lmul, 1) := by decide +kernel
theorem dX0_times_39 : decode cX0_times 39 = .ok (.ladd, 1) := by decide +kernel
theorem dX0_times_40 : decode cX0_times 40 = .ok (.lstore_n 2, 1) := by decide +kernel
theorem dX0_times_41 : decode cX0_times 41 = .ok (.aload_n 0, 1) := by decide +kernel
theorem dX0_times_42 : decode cX0_times 42 = .ok (.getfield 9, 3) := by decide +kernel
theorem dX0_times_45 : decode cX0_times 45 = .ok (.iload 4, 2) := by decide +kernel
theorem dX0_times_47 : decode cX0_times 47 = .ok (.lload_n 2, 1) := by decide +kernel
theorem dX0_times_48 : decode cX0_times 48 = .ok (.ldc2_w 34, 3) := by decide +kernel
theorem dX0_times_51 : decode cX0_times 51 = .ok (.land, 1) := by decide +kernel
theorem dX0_times_52 : decode cX0_times 52 = .ok (.l2i, 1) := by decide +kernel
theorem dX0_times_53 : decode cX0_times 53 = .ok (.iastore, 1) := by decide +kernel
theorem dX0_times_54 : decode cX0_times 54 = .ok (.lload_n 2, 1) := by decide +kernel
theorem dX0_times_55 : decode cX0_times 55 = .ok (.bipush 30, 2) := by decide +kernel
theorem dX0_times_57 : decode cX0_times 57 = .ok (.lshr, 1) := by decide +kernel
theorem dX0_times_58 : decode cX0_times 58 = .ok (.lstore_n 2, 1) := by decide +kernel
theorem dX0_times_59 : decode cX0_times 59 = .ok (.iinc 4 1, 3) := by decide +kernel
theorem dX0_times_62 : decode cX0_times 62 = .ok (.goto (-57), 3) := by decide +kernel
theorem dX0_times_65 : decode cX0_times 65 = .ok (.aload_n 0, 1) := by decide +kernel
theorem dX0_times_66 : decode cX0_times 66 = .ok (.iload 4, 2) := by decide +kernel
theorem dX0_times_68 : decode cX0_times 68 = .ok (.invokevirtual 18, 3) := by decide +kernel
theorem dX0_times_71 : decode cX0_times 71 = .ok (.return_, 1) := by decide +kernel
theorem bX0_times_0 {Z : ZT} {X : XT} {μ : Mu} {a0 : Nat} {a1 : Int32} (E : Ent Z X mX0_times 0 0) (ha0 : SH a0 = .inl 0) 
    (k : JS Z X 5 [(0, .ref (Z.2.2.1 + a0)), (1, .int a1), (2, .long (lN 0)), (4, .int (nI 0))] [] μ) :
    JS Z X 0 [(0, .ref (Z.2.2.1 + a0)), (1, .int a1)] [] μ := by
  refine J_lconst (v := lN 0) E dX0_times_0 rfl ?_
  refine J_lstore_n (lv' := [(0, .ref (Z.2.2.1 + a0)), (1, .int a1), (2, .long (lN 0))]) E dX0_times_1 (Nat.le_of_ble_eq_true rfl) rfl ?_
  refine J_iconst (v := nI 0) E dX0_times_2 rfl ?_
  refine J_istore (lv' := [(0, .ref (Z.2.2.1 + a0)), (1, .int a1), (2, .long (lN 0)), (4, .int (nI 0))]) E dX0_times_3 (Nat.le_of_ble_eq_true rfl) rfl ?_
  exact k
theorem bX0_times_5 {Z : ZT} {X : XT} {μ : Mu} {a0 : Nat} {a1 : Int32} {a2 : Int64} {a4 : Int32} (E : Ent Z X mX0_times 0 0) (ha0 : SH a0 = .inl 0) 
    (kt : (nI 24) ≤ a4 → JS Z X 65 [(0, .ref (Z.2.2.1 + a0)), (4, .int a4)] [] μ) (kf : ¬ ((nI 24) ≤ a4) → JS Z X 12 [(0, .ref (Z.2.2.1 + a0)), (1, .int a1), (2, .long a2), (4, .int a4)] [] μ) :
    JS Z X 5 [(0, .ref (Z.2.2.1 + a0)), (1, .int a1), (2, .long a2), (4, .int a4)] [] μ := by
  refine J_iload E dX0_times_5 rfl ?_
  refine J_bipush (v := nI 24) E dX0_times_7 rfl ?_
  refine J_icmp_ge (tgt := 65) E dX0_times_9 (by decide) (fun c => ?_) (fun c => ?_)
  · refine J.weak [0, 3] rfl ?_
    exact kt c
  · exact kf c
theorem bX0_times_12 {Z : ZT} {X : XT} {μ : Mu} {a0 : Nat} {a1 : Int32} {a2 : Int64} {a4 : Int32} (E : Ent Z X mX0_times 0 0) (ha0 : SH a0 = .inl 0) 
    (kt : a4 < (μ a0 1) → JS Z X 27 [(0, .ref (Z.2.2.1 + a0)), (1, .int a1), (2, .long a2), (4, .int a4)] [] μ) (kf : ¬ (a4 < (μ a0 1)) → JS Z X 21 [(0, .ref (Z.2.2.1 + a0)), (1, .int a1), (2, .long a2), (4, .int a4)] [] μ) :
    JS Z X 12 [(0, .ref (Z.2.2.1 + a0)), (1, .int a1), (2, .long a2), (4, .int a4)] [] μ := by
  refine J_iload E dX0_times_12 rfl ?_
  refine J_aload_n E dX0_times_14 rfl ?_
  refine S_get (ci := 0) (q := 1) (v := .int (μ a0 1)) E dX0_times_15 fs_X0_13 ha0 rfl ?_
  refine J_icmp_lt (tgt := 27) E dX0_times_18 (by decide) (fun c => ?_) (fun c => ?_)
  · exact kt c
  · exact kf c
theorem bX0_times_21 {Z : ZT} {X : XT} {μ : Mu} {a0 : Nat} {a1 : Int32} {a2 : Int64} {a4 : Int32} (E : Ent Z X mX0_times 0 0) (ha0 : SH a0 = .inl 0) 
    (kt : (lg_cmp a2 (lN 0)) ≤ 0 → JS Z X 65 [(0, .ref (Z.2.2.1 + a0)), (4, .int a4)] [] μ) (kf : ¬ ((lg_cmp a2 (lN 0)) ≤ 0) → JS Z X 27 [(0, .ref (Z.2.2.1 + a0)), (1, .int a1), (2, .long a2), (4, .int a4)] [] μ) :
    JS Z X 21 [(0, .ref (Z.2.2.1 + a0)), (1, .int a1), (2, .long a2), (4, .int a4)] [] μ := by
  refine J_lload_n E dX0_times_21 rfl ?_
  refine J_lconst (v := lN 0) E dX0_times_22 rfl ?_
  refine J_lcmp E dX0_times_23 ?_
  refine J_if_le (tgt := 65) E dX0_times_24 (by decide) (fun c => ?_) (fun c => ?_)
  · refine J.weak [0, 3] rfl ?_
    exact kt c
  · exact kf c
theorem bX0_times_27 {Z : ZT} {X : XT} {μ : Mu} {a0 : Nat} {a1 : Int32} {a2 : Int64} {a4 : Int32} (E : Ent Z X mX0_times 0 0) (ha0 : SH a0 = .inl 0) (s1_ : vp_in a4 24) (s2_ : vp_in a4 24)
    (k : JS Z X 54 [(0, .ref (Z.2.2.1 + a0)), (1, .int a1), (2, .long (a2 + (((μ (a0 + 1) (ix a4)).toInt64) * a1.toInt64))), (4, .int a4)] [] (uR μ (a0 + 1) (upd (μ (a0 + 1)) (ix a4) (((a2 + (((μ (a0 + 1) (ix a4)).toInt64) * a1.toInt64)) &&& (lN 1073741823)).toInt32)))) :
    JS Z X 27 [(0, .ref (Z.2.2.1 + a0)), (1, .int a1), (2, .long a2), (4, .int a4)] [] μ := by
  refine J_lload_n E dX0_times_27 rfl ?_
  refine J_aload_n E dX0_times_28 rfl ?_
  refine S_get (ci := 0) (q := 0) (v := .ref (Z.2.2.1 + (a0 + 1))) E dX0_times_29 fs_X0_9 ha0 rfl ?_
  refine J_iload E dX0_times_32 rfl ?_
  refine S_iald E dX0_times_34 (shr_X0_0 ha0) s1_ ?_
  refine J_i2l E dX0_times_35 ?_
  refine J_iload_n E dX0_times_36 rfl ?_
  refine J_i2l E dX0_times_37 ?_
  refine J_lmul E dX0_times_38 ?_
  refine J_ladd E dX0_times_39 ?_
  refine J_lstore_n (lv' := [(0, .ref (Z.2.2.1 + a0)), (1, .int a1), (2, .long (a2 + (((μ (a0 + 1) (ix a4)).toInt64) * a1.toInt64))), (4, .int a4)]) E dX0_times_40 (Nat.le_of_ble_eq_true rfl) rfl ?_
  refine J_aload_n E dX0_times_41 rfl ?_
  refine S_get (ci := 0) (q := 0) (v := .ref (Z.2.2.1 + (a0 + 1))) E dX0_times_42 fs_X0_9 ha0 rfl ?_
  refine J_iload E dX0_times_45 rfl ?_
  refine J_lload_n E dX0_times_47 rfl ?_
  refine J_ldc2 (v := lN 1073741823) E dX0_times_48 w4_150 ?_
  refine J_land E dX0_times_51 ?_
  refine J_l2i E dX0_times_52 ?_
  refine S_iast E dX0_times_53 (shr_X0_0 ha0) s2_ ?_
  exact k
theorem bX0_times_54 {Z : ZT} {X : XT} {μ : Mu} {a0 : Nat} {a1 : Int32} {a2 : Int64} {a4 : Int32} (E : Ent Z X mX0_times 0 0) (ha0 : SH a0 = .inl 0) 
    (k : JS Z X 5 [(0, .ref (Z.2.2.1 + a0)), (1, .int a1), (2, .long (a2 >>> ((nI 30).toInt64 &&& 63))), (4, .int (a4 + nI 1))] [] μ) :
    JS Z X 54 [(0, .ref (Z.2.2.1 + a0)), (1, .int a1), (2, .long a2), (4, .int a4)] [] μ := by
  refine J_lload_n E dX0_times_54 rfl ?_
  refine J_bipush (v := nI 30) E dX0_times_55 rfl ?_
  refine J_lshr E dX0_times_57 ?_
  refine J_lstore_n (lv' := [(0, .ref (Z.2.2.1 + a0)), (1, .int a1), (2, .long (a2 >>> ((nI 30).toInt64 &&& 63))), (4, .int a4)]) E dX0_times_58 (Nat.le_of_ble_eq_true rfl) rfl ?_
  refine J_iinc (v := a4 + nI 1) (lv' := [(0, .ref (Z.2.2.1 + a0)), (1, .int a1), (2, .long (a2 >>> ((nI 30).toInt64 &&& 63))), (4, .int (a4 + nI 1))]) E dX0_times_59 rfl rfl (Nat.le_of_ble_eq_true rfl) rfl ?_
  refine J_goto (tgt := 5) E dX0_times_62 (by decide) ?_
  exact k
theorem bX0_times_65 {Z : ZT} {X : XT} {μ : Mu} {a0 : Nat} {a4 : Int32} (E : Ent Z X mX0_times 0 0) (ha0 : SH a0 = .inl 0) {p : Mu → Prop} 
    (c : CtrS Z mX0_trim [.ref (Z.2.2.1 + a0), .int a4] μ (rV p)) (k : ∀ μ1, p μ1 → JS Z X 71 [] [] μ1) :
    JS Z X 65 [(0, .ref (Z.2.2.1 + a0)), (4, .int a4)] [] μ := by
  refine J_aload_n E dX0_times_65 rfl ?_
  refine J_iload E dX0_times_66 rfl ?_
  refine S_callV (As := [.int a4]) (rest := []) E dX0_times_68 c kX0_trim ⟨Nat.le_of_ble_eq_true rfl, Nat.le_of_ble_eq_true rfl⟩ rfl (Nat.le_of_ble_eq_true rfl) ha0 rfl rfl w2_184 w2_186 wp_0 (fun r_ μ1 hp_ => ?_)
  obtain ⟨rfl, hp_⟩ := hp_
  refine J.weak [] rfl ?_
  exact k μ1 hp_
theorem bX0_times_71 {Z : ZT} {X : XT} {μ : Mu} (E : Ent Z X mX0_times 0 0) {P : Option Value → Mu → Prop} (hB : BodS Z X P) 
    (k : P none μ) :
    JS Z X 71 [] [] μ := by
  exact S_vret E hB dX0_times_71 rfl k
theorem dX0_addTimes_0 : decode cX0_addTimes 0 = .ok (.lconst 0, 1) := by decide +kernel
theorem dX0_addTimes_1 : decode cX0_addTimes 1 = .ok (.lstore_n 3, 1) := by decide +kernel
theorem dX0_addTimes_2 : decode cX0_addTimes 2 = .ok (.aload_n 0, 1) := by decide +kernel
theorem dX0_addTimes_3 : decode cX0_addTimes 3 = .ok (.getfield 13, 3) := by decide +kernel
theorem dX0_addTimes_6 : decode cX0_addTimes 6 = .ok (.aload_n 1, 1) := by decide +kernel
theorem dX0_addTimes_7 : decode cX0_addTimes 7 = .ok (.getfield 13, 3) := by decide +kernel
theorem dX0_addTimes_10 : decode cX0_addTimes 10 = .ok (.invokestatic 22, 3) := by decide +kernel
theorem dX0_addTimes_13 : decode cX0_addTimes 13 = .ok (.istore 5, 2) := by decide +kernel
theorem dX0_addTimes_15 : decode cX0_addTimes 15 = .ok (.iconst 0, 1) := by decide +kernel
theorem dX0_addTimes_16 : decode cX0_addTimes 16 = .ok (.istore 6, 2) := by decide +kernel
theorem dX0_addTimes_18 : decode cX0_addTimes 18 = .ok (.iload 6, 2) := by decide +kernel
theorem dX0_addTimes_20 : decode cX0_addTimes 20 = .ok (.bipush 24, 2) := by decide +kernel
theorem dX0_addTimes_22 : decode cX0_addTimes 22 = .ok (.if_icmp .ge 63, 3) := by decide +kernel
theorem dX0_addTimes_25 : decode cX0_addTimes 25 = .ok (.iload 6, 2) := by decide +kernel
theorem dX0_addTimes_27 : decode cX0_addTimes 27 = .ok (.iload 5, 2) := by decide +kernel
theorem dX0_addTimes_29 : decode cX0_addTimes 29 = .ok (.if_icmp .lt 9, 3) := by decide +kernel
theorem dX0_addTimes_32 : decode cX0_addTimes 32 = .ok (.lload_n 3, 1) := by decide +kernel
theorem dX0_addTimes_33 : decode cX0_addTimes 33 = .ok (.lconst 0, 1) := by decide +kernel
theorem dX0_addTimes_34 : decode cX0_addTimes 34 = .ok (.lcmp, 1) := by decide +kernel
theorem dX0_addTimes_35 : decode cX0_addTimes 35 = .ok (.ifCond .le 50, 3) := by decide +kernel
theorem dX0_addTimes_38 : decode cX0_addTimes 38 = .ok (.lload_n 3, 1) := by decide +kernel
theorem dX0_addTimes_39 : decode cX0_addTimes 39 = .ok (.aload_n 0, 1) := by decide +kernel
theorem dX0_addTimes_40 : decode cX0_addTimes 40 = .ok (.getfield 9, 3) := by decide +kernel
theorem dX0_addTimes_43 : decode cX0_addTimes 43 = .ok (.iload 6, 2) := by decide +kernel
theorem dX0_addTimes_45 : decode cX0_addTimes 45 = .ok (.iaload, 1) := by decide +kernel
theorem dX0_addTimes_46 : decode cX0_addTimes 46 = .ok (.i2l, 1) := by decide +kernel
theorem dX0_addTimes_47 : decode cX0_addTimes 47 = .ok (.aload_n 1, 1) := by decide +kernel
theorem dX0_addTimes_48 : decode cX0_addTimes 48 = .ok (.getfield 9, 3) := by decide +kernel
theorem dX0_addTimes_51 : decode cX0_addTimes 51 = .ok (.iload 6, 2) := by decide +kernel
theorem dX0_addTimes_53 : decode cX0_addTimes 53 = .ok (.iaload, 1) := by decide +kernel
theorem dX0_addTimes_54 : decode cX0_addTimes 54 = .ok (.i2l, 1) := by decide +kernel
theorem dX0_addTimes_55 : decode cX0_addTimes 55 = .ok (.iload_n 2, 1) := by decide +kernel
theorem dX0_addTimes_56 : decode cX0_addTimes 56 = .ok (.i2l, 1) := by decide +kernel
theorem dX0_addTimes_57 : decode cX0_addTimes 57 = .ok (.lmul, 1) := by decide +kernel
theorem dX0_addTimes_58 : decode cX0_addTimes 58 = .ok (.ladd, 1) := by decide +kernel
theorem dX0_addTimes_59 : decode cX0_addTimes 59 = .ok (.ladd, 1) := by decide +kernel
theorem dX0_addTimes_60 : decode cX0_addTimes 60 = .ok (.lstore_n 3, 1) := by decide +kernel
theorem dX0_addTimes_61 : decode cX0_addTimes 61 = .ok (.aload_n 0, 1) := by decide +kernel
theorem dX0_addTimes_62 : decode cX0_addTimes 62 = .ok (.getfield 9, 3) := by decide +kernel
theorem dX0_addTimes_65 : decode cX0_addTimes 65 = .ok (.iload 6, 2) := by decide +kernel
theorem dX0_addTimes_67 : decode cX0_addTimes 67 = .ok (.lload_n 3, 1) := by decide +kernel
theorem dX0_addTimes_68 : decode cX0_addTimes 68 = .ok (.ldc2_w 34, 3) := by decide +kernel
theorem dX0_addTimes_71 : decode cX0_addTimes 71 = .ok (.land, 1) := by decide +kernel
theorem dX0_addTimes_72 : decode cX0_addTimes 72 = .ok (.l2i, 1) := by decide +kernel
theorem dX0_addTimes_73 : decode cX0_addTimes 73 = .ok (.iastore, 1) := by decide +kernel
theorem dX0_addTimes_74 : decode cX0_addTimes 74 = .ok (.lload_n 3, 1) := by decide +kernel
theorem dX0_addTimes_75 : decode cX0_addTimes 75 = .ok (.bipush 30, 2) := by decide +kernel
theorem dX0_addTimes_77 : decode cX0_addTimes 77 = .ok (.lshr, 1) := by decide +kernel
theorem dX0_addTimes_78 : decode cX0_addTimes 78 = .ok (.lstore_n 3, 1) := by decide +kernel
theorem dX0_addTimes_79 : decode cX0_addTimes 79 = .ok (.iinc 6 1, 3) := by decide +kernel
theorem dX0_addTimes_82 : decode cX0_addTimes 82 = .ok (.goto (-64), 3) := by decide +kernel
theorem dX0_addTimes_85 : decode cX0_addTimes 85 = .ok (.aload_n 0, 1) := by decide +kernel
theorem dX0_addTimes_86 : decode cX0_addTimes 86 = .ok (.iload 6, 2) := by decide +kernel
theorem dX0_addTimes_88 : decode cX0_addTimes 88 = .ok (.invokevirtual 18, 3) := by decide +kernel
theorem dX0_addTimes_91 : decode cX0_addTimes 91 = .ok (.return_, 1) := by decide +kernel
theorem bX0_addTimes_0 {Z : ZT} {X : XT} {μ : Mu} {a0 : Nat} {a1 : Nat} {a2 : Int32} (E : Ent Z X mX0_addTimes 0 0) (ha0 : SH a0 = .inl 0) (ha1 : SH a1 = .inl 0) 
    (k : JS Z X 18 [(0, .ref (Z.2.2.1 + a0)), (1, .ref (Z.2.2.1 + a1)), (2, .int a2), (3, .long (lN 0)), (5, .int (if (μ a0 1) < (μ a1 1) then (μ a1 1) else (μ a0 1))), (6, .int (nI 0))] [] μ) :
    JS Z X 0 [(0, .ref (Z.2.2.1 + a0)), (1, .ref (Z.2.2.1 + a1)), (2, .int a2)] [] μ := by
  refine J_lconst (v := lN 0) E dX0_addTimes_0 rfl ?_
  refine J_lstore_n (lv' := [(0, .ref (Z.2.2.1 + a0)), (1, .ref (Z.2.2.1 + a1)), (2, .int a2), (3, .long (lN 0))]) E dX0_addTimes_1 (Nat.le_of_ble_eq_true rfl) rfl ?_
  refine J_aload_n E dX0_addTimes_2 rfl ?_
  refine S_get (ci := 0) (q := 1) (v := .int (μ a0 1)) E dX0_addTimes_3 fs_X0_13 ha0 rfl ?_
  refine J_aload_n E dX0_addTimes_6 rfl ?_
  refine S_get (ci := 0) (q := 1) (v := .int (μ a1 1)) E dX0_addTimes_7 fs_X0_13 ha1 rfl ?_
  refine J_mmax E dX0_addTimes_10 w4_130 w4_131 w1_13 w4_132 (Nat.le_of_ble_eq_true rfl) (Nat.le_of_ble_eq_true rfl) (Nat.le_refl 0) (Nat.le_refl 0) ?_
  refine J_istore (lv' := [(0, .ref (Z.2.2.1 + a0)), (1, .ref (Z.2.2.1 + a1)), (2, .int a2), (3, .long (lN 0)), (5, .int (if (μ a0 1) < (μ a1 1) then (μ a1 1) else (μ a0 1)))]) E dX0_addTimes_13 (Nat.le_of_ble_eq_true rfl) rfl ?_
  refine J_iconst (v := nI 0) E dX0_addTimes_15 rfl ?_
  refine J_istore (lv' := [(0, .ref (Z.2.2.1 + a0)), (1, .ref (Z.2.2.1 + a1)), (2, .int a2), (3, .long (lN 0)), (5, .int (if (μ a0 1) < (μ a1 1) then (μ a1 1) else (μ a0 1))), (6, .int (nI 0))]) E dX0_addTimes_16 (Nat.le_of_ble_eq_true rfl) rfl ?_
  exact k
theorem bX0_addTimes_18 {Z : ZT} {X : XT} {μ : Mu} {a0 : Nat} {a1 : Nat} {a2 : Int32} {a3 : Int64} {a5 : Int32} {a6 : Int32} (E : Ent Z X mX0_addTimes 0 0) (ha0 : SH a0 = .inl 0) (ha1 : SH a1 = .inl 0) 
    (kt : (nI 24) ≤ a6 → JS Z X 85 [(0, .ref (Z.2.2.1 + a0)), (6, .int a6)] [] μ) (kf : ¬ ((nI 24) ≤ a6) → JS Z X 25 [(0, .ref (Z.2.2.1 + a0)), (1, .ref (Z.2.2.1 + a1)), (2, .int a2), (3, .long a3), (5, .int a5), (6, .int a6)] [] μ) :
    JS Z X 18 [(0, .ref (Z.2.2.1 + a0)), (1, .ref (Z.2.2.1 + a1)), (2, .int a2), (3, .long a3), (5, .int a5), (6, .int a6)] [] μ := by
  refine J_iload E dX0_addTimes_18 rfl ?_
  refine J_bipush (v := nI 24) E dX0_addTimes_20 rfl ?_
  refine J_icmp_ge (tgt := 85) E dX0_addTimes_22 (by decide) (fun c => ?_) (fun c => ?_)
  · refine J.weak [0, 5] rfl ?_
    exact kt c
  · exact kf c
theorem bX0_addTimes_25 {Z : ZT} {X : XT} {μ : Mu} {a0 : Nat} {a1 : Nat} {a2 : Int32} {a3 : Int64} {a5 : Int32} {a6 : Int32} (E : Ent Z X mX0_addTimes 0 0) (ha0 : SH a0 = .inl 0) (ha1 : SH a1 = .inl 0) 
    (kt : a6 < a5 → JS Z X 38 [(0, .ref (Z.2.2.1 + a0)), (1, .ref (Z.2.2.1 + a1)), (2, .int a2), (3, .long a3), (5, .int a5), (6, .int a6)] [] μ) (kf : ¬ (a6 < a5) → JS Z X 32 [(0, .ref (Z.2.2.1 + a0)), (1, .ref (Z.2.2.1 + a1)), (2, .int a2), (3, .long a3), (5, .int a5), (6, .int a6)] [] μ) :
    JS Z X 25 [(0, .ref (Z.2.2.1 + a0)), (1, .ref (Z.2.2.1 + a1)), (2, .int a2), (3, .long a3), (5, .int a5), (6, .int a6)] [] μ := by
  refine J_iload E dX0_addTimes_25 rfl ?_
  refine J_iload E dX0_addTimes_27 rfl ?_
  refine J_icmp_lt (tgt := 38) E dX0_addTimes_29 (by decide) (fun c => ?_) (fun c => ?_)
  · exact kt c
  · exact kf c
theorem bX0_addTimes_32 {Z : ZT} {X : XT} {μ : Mu} {a0 : Nat} {a1 : Nat} {a2 : Int32} {a3 : Int64} {a5 : Int32} {a6 : Int32} (E : Ent Z X mX0_addTimes 0 0) (ha0 : SH a0 = .inl 0) (ha1 : SH a1 = .inl 0) 
    (kt : (lg_cmp a3 (lN 0)) ≤ 0 → JS Z X 85 [(0, .ref (Z.2.2.1 + a0)), (6, .int a6)] [] μ) (kf : ¬ ((lg_cmp a3 (lN 0)) ≤ 0) → JS Z X 38 [(0, .ref (Z.2.2.1 + a0)), (1, .ref (Z.2.2.1 + a1)), (2, .int a2), (3, .long a3), (5, .int a5), (6, .int a6)] [] μ) :
    JS Z X 32 [(0, .ref (Z.2.2.1 + a0)), (1, .ref (Z.2.2.1 + a1)), (2, .int a2), (3, .long a3), (5, .int a5), (6, .int a6)] [] μ := by
  refine J_lload_n E dX0_addTimes_32 rfl ?_
  refine J_lconst (v := lN 0) E dX0_addTimes_33 rfl ?_
  refine J_lcmp E dX0_addTimes_34 ?_
  refine J_if_le (tgt := 85) E dX0_addTimes_35 (by decide) (fun c => ?_) (fun c => ?_)
  · refine J.weak [0, 5] rfl ?_
    exact kt c
  · exact kf c
theorem bX0_addTimes_38 {Z : ZT} {X : XT} {μ : Mu} {a0 : Nat} {a1 : Nat} {a2 : Int32} {a3 : Int64} {a5 : Int32} {a6 : Int32} (E : Ent Z X mX0_addTimes 0 0) (ha0 : SH a0 = .inl 0) (ha1 : SH a1 = .inl 0) (s1_ : vp_in a6 24) (s2_ : vp_in a6 24) (s3_ : vp_in a6 24)
    (k : JS Z X 74 [(0, .ref (Z.2.2.1 + a0)), (1, .ref (Z.2.2.1 + a1)), (2, .int a2), (3, .long (a3 + (((μ (a0 + 1) (ix a6)).toInt64) + (((μ (a1 + 1) (ix a6)).toInt64) * a2.toInt64)))), (5, .int a5), (6, .int a6)] [] (uR μ (a0 + 1) (upd (μ (a0 + 1)) (ix a6) (((a3 + (((μ (a0 + 1) (ix a6)).toInt64) + (((μ (a1 + 1) (ix a6)).toInt64) * a2.toInt64))) &&& (lN 1073741823)).toInt32)))) :
    JS Z X 38 [(0, .ref (Z.2.2.1 + a0)), (1, .ref (Z.2.2.1 + a1)), (2, .int a2), (3, .long a3), (5, .int a5), (6, .int a6)] [] μ := by
  refine J_lload_n E dX0_addTimes_38 rfl ?_
  refine J_aload_n E dX0_addTimes_39 rfl ?_
  refine S_get (ci := 0) (q := 0) (v := .ref (Z.2.2.1 + (a0 + 1))) E dX0_addTimes_40 fs_X0_9 ha0 rfl ?_
  refine J_iload E dX0_addTimes_43 rfl ?_
  refine S_iald E dX0_addTimes_45 (shr_X0_0 ha0) s1_ ?_
  refine J_i2l E dX0_addTimes_46 ?_
  refine J_aload_n E dX0_addTimes_47 rfl ?_
  refine S_get (ci := 0) (q := 0) (v := .ref (Z.2.2.1 + (a1 + 1))) E dX0_addTimes_48 fs_X0_9 ha1 rfl ?_
  refine J_iload E dX0_addTimes_51 rfl ?_
  refine S_iald E dX0_addTimes_53 (shr_X0_0 ha1) s2_ ?_
  refine J_i2l E dX0_addTimes_54 ?_
  refine J_iload_n E dX0_addTimes_55 rfl ?_
  refine J_i2l E dX0_addTimes_56 ?_
  refine J_lmul E dX0_addTimes_57 ?_
  refine J_ladd E dX0_addTimes_58 ?_
  refine J_ladd E dX0_addTimes_59 ?_
  refine J_lstore_n (lv' := [(0, .ref (Z.2.2.1 + a0)), (1, .ref (Z.2.2.1 + a1)), (2, .int a2), (3, .long (a3 + (((μ (a0 + 1) (ix a6)).toInt64) + (((μ (a1 + 1) (ix a6)).toInt64) * a2.toInt64)))), (5, .int a5), (6, .int a6)]) E dX0_addTimes_60 (Nat.le_of_ble_eq_true rfl) rfl ?_
  refine J_aload_n E dX0_addTimes_61 rfl ?_
  refine S_get (ci := 0) (q := 0) (v := .ref (Z.2.2.1 + (a0 + 1))) E dX0_addTimes_62 fs_X0_9 ha0 rfl ?_
  refine J_iload E dX0_addTimes_65 rfl ?_
  refine J_lload_n E dX0_addTimes_67 rfl ?_
  refine J_ldc2 (v := lN 1073741823) E dX0_addTimes_68 w4_150 ?_
  refine J_land E dX0_addTimes_71 ?_
  refine J_l2i E dX0_addTimes_72 ?_
  refine S_iast E dX0_addTimes_73 (shr_X0_0 ha0) s3_ ?_
  exact k
theorem bX0_addTimes_74 {Z : ZT} {X : XT} {μ : Mu} {a0 : Nat} {a1 : Nat} {a2 : Int32} {a3 : Int64} {a5 : Int32} {a6 : Int32} (E : Ent Z X mX0_addTimes 0 0) (ha0 : SH a0 = .inl 0) (ha1 : SH a1 = .inl 0) 
    (k : JS Z X 18 [(0, .ref (Z.2.2.1 + a0)), (1, .ref (Z.2.2.1 + a1)), (2, .int a2), (3, .long (a3 >>> ((nI 30).toInt64 &&& 63))), (5, .int a5), (6, .int (a6 + nI 1))] [] μ) :
    JS Z X 74 [(0, .ref (Z.2.2.1 + a0)), (1, .ref (Z.2.2.1 + a1)), (2, .int a2), (3, .long a3), (5, .int a5), (6, .int a6)] [] μ := by
  refine J_lload_n E dX0_addTimes_74 rfl ?_
  refine J_bipush (v := nI 30) E dX0_addTimes_75 rfl ?_
  refine J_lshr E dX0_addTimes_77 ?_
  refine J_lstore_n (lv' := [(0, .ref (Z.2.2.1 + a0)), (1, .ref (Z.2.2.1 + a1)), (2, .int a2), (3, .long (a3 >>> ((nI 30).toInt64 &&& 63))), (5, .int a5), (6, .int a6)]) E dX0_addTimes_78 (Nat.le_of_ble_eq_true rfl) rfl ?_
  refine J_iinc (v := a6 + nI 1) (lv' := [(0, .ref (Z.2.2.1 + a0)), (1, .ref (Z.2.2.1 + a1)), (2, .int a2), (3, .long (a3 >>> ((nI 30).toInt64 &&& 63))), (5, .int a5), (6, .int (a6 + nI 1))]) E dX0_addTimes_79 rfl rfl (Nat.le_of_ble_eq_true rfl) rfl ?_
  refine J_goto (tgt := 18) E dX0_addTimes_82 (by decide) ?_
  exact k
theorem bX0_addTimes_85 {Z : ZT} {X : XT} {μ : Mu} {a0 : Nat} {a6 : Int32} (E : Ent Z X mX0_addTimes 0 0) (ha0 : SH a0 = .inl 0) {p : Mu → Prop} 
    (c : CtrS Z mX0_trim [.ref (Z.2.2.1 + a0), .int a6] μ (rV p)) (k : ∀ μ1, p μ1 → JS Z X 91 [] [] μ1) :
    JS Z X 85 [(0, .ref (Z.2.2.1 + a0)), (6, .int a6)] [] μ := by
  refine J_aload_n E dX0_addTimes_85 rfl ?_
  refine J_iload E dX0_addTimes_86 rfl ?_
  refine S_callV (As := [.int a6]) (rest := []) E dX0_addTimes_88 c kX0_trim ⟨Nat.le_of_ble_eq_true rfl, Nat.le_of_ble_eq_true rfl⟩ rfl (Nat.le_of_ble_eq_true rfl) ha0 rfl rfl w2_184 w2_186 wp_0 (fun r_ μ1 hp_ => ?_)
  obtain ⟨rfl, hp_⟩ := hp_
  refine J.weak [] rfl ?_
  exact k μ1 hp_
theorem bX0_addTimes_91 {Z : ZT} {X : XT} {μ : Mu} (E : Ent Z X mX0_addTimes 0 0) {P : Option Value → Mu → Prop} (hB : BodS Z X P) 
    (k : P none μ) :
    JS Z X 91 [] [] μ := by
  exact S_vret E hB dX0_addTimes_91 rfl k
theorem dX0_addProduct_0 : decode cX0_addProduct 0 = .ok (.aload_n 0, 1) := by decide +kernel
theorem dX0_addProduct_1 : decode cX0_addProduct 1 = .ok (.getfield 13, 3) := by decide +kernel
theorem dX0_addProduct_4 : decode cX0_addProduct 4 = .ok (.istore_n 3, 1) := by decide +kernel
theorem dX0_addProduct_5 : decode cX0_addProduct 5 = .ok (.iconst 0, 1) := by decide +kernel
theorem dX0_addProduct_6 : decode cX0_addProduct 6 = .ok (.istore 4, 2) := by decide +kernel
theorem dX0_addProduct_8 : decode cX0_addProduct 8 = .ok (.iload 4, 2) := by decide +kernel
theorem dX0_addProduct_10 : decode cX0_addProduct 10 = .ok (.aload_n 1, 1) := by decide +kernel
theorem dX0_addProduct_11 : decode cX0_addProduct 11 = .ok (.getfield 13, 3) := by decide +kernel
theorem dX0_addProduct_14 : decode cX0_addProduct 14 = .ok (.if_icmp .ge 115, 3) := by decide +kernel
theorem dX0_addProduct_17 : decode cX0_addProduct 17 = .ok (.lconst 0, 1) := by decide +kernel
theorem dX0_addProduct_18 : decode cX0_addProduct 18 = .ok (.lstore 5, 2) := by decide +kernel
theorem dX0_addProduct_20 : decode cX0_addProduct 20 = .ok (.iconst 0, 1) := by decide +kernel
theorem dX0_addProduct_21 : decode cX0_addProduct 21 = .ok (.istore 7, 2) := by decide +kernel
theorem dX0_addProduct_23 : decode cX0_addProduct 23 = .ok (.iload 4, 2) := by decide +kernel
theorem dX0_addProduct_25 : decode cX0_addProduct 25 = .ok (.iload 7, 2) := by decide +kernel
theorem dX0_addProduct_27 : decode cX0_addProduct 27 = .ok (.iadd, 1) := by decide +kernel
theorem dX0_addProduct_28 : decode cX0_addProduct 28 = .ok (.bipush 24, 2) := by decide +kernel
theorem dX0_addProduct_30 : decode cX0_addProduct 30 = .ok (.if_icmp .ge 83, 3) := by decide +kernel
theorem dX0_addProduct_33 : decode cX0_addProduct 33 = .ok (.iload 7, 2) := by decide +kernel
theorem dX0_addProduct_35 : decode cX0_addProduct 35 = .ok (.aload_n 2, 1) := by decide +kernel
theorem dX0_addProduct_36 : decode cX0_addProduct 36 = .ok (.getfield 13, 3) := by decide +kernel
theorem dX0_addProduct_39 : decode cX0_addProduct 39 = .ok (.if_icmp .lt 10, 3) := by decide +kernel
theorem dX0_addProduct_42 : decode cX0_addProduct 42 = .ok (.lload 5, 2) := by decide +kernel
theorem dX0_addProduct_44 : decode cX0_addProduct 44 = .ok (.lconst 0, 1) := by decide +kernel
theorem dX0_addProduct_45 : decode cX0_addProduct 45 = .ok (.lcmp, 1) := by decide +kernel
theorem dX0_addProduct_46 : decode cX0_addProduct 46 = .ok (.ifCond .le 67, 3) := by decide +kernel
theorem dX0_addProduct_49 : decode cX0_addProduct 49 = .ok (.lload 5, 2) := by decide +kernel
theorem dX0_addProduct_51 : decode cX0_addProduct 51 = .ok (.aload_n 0, 1) := by decide +kernel
theorem dX0_addProduct_52 : decode cX0_addProduct 52 = .ok (.getfield 9, 3) := by decide +kernel
theorem dX0_addProduct_55 : decode cX0_addProduct 55 = .ok (.iload 4, 2) := by decide +kernel
theorem dX0_addProduct_57 : decode cX0_addProduct 57 = .ok (.iload 7, 2) := by decide +kernel
theorem dX0_addProduct_59 : decode cX0_addProduct 59 = .ok (.iadd, 1) := by decide +kernel
theorem dX0_addProduct_60 : decode cX0_addProduct 60 = .ok (.iaload, 1) := by decide +kernel
theorem dX0_addProduct_61 : decode cX0_addProduct 61 = .ok (.i2l, 1) := by decide +kernel
theorem dX0_addProduct_62 : decode cX0_addProduct 62 = .ok (.aload_n 1, 1) := by decide +kernel
theorem dX0_addProduct_63 : decode cX0_addProduct 63 = .ok (.getfield 9, 3) := by decide +kernel
theorem dX0_addProduct_66 : decode cX0_addProduct 66 = .ok (.iload 4, 2) := by decide +kernel
theorem dX0_addProduct_68 : decode cX0_addProduct 68 = .ok (.iaload, 1) := by decide +kernel
theorem dX0_addProduct_69 : decode cX0_addProduct 69 = .ok (.i2l, 1) := by decide +kernel
theorem dX0_addProduct_70 : decode cX0_addProduct 70 = .ok (.aload_n 2, 1) := by decide +kernel
theorem dX0_addProduct_71 : decode cX0_addProduct 71 = .ok (.getfield 9, 3) := by decide +kernel
theorem dX0_addProduct_74 : decode cX0_addProduct 74 = .ok (.iload 7, 2) := by decide +kernel
theorem dX0_addProduct_76 : decode cX0_addProduct 76 = .ok (.iaload, 1) := by decide +kernel
theorem dX0_addProduct_77 : decode cX0_addProduct 77 = .ok (.i2l, 1) := by decide +kernel
theorem dX0_addProduct_78 : decode cX0_addProduct 78 = .ok (.lmul, 1) := by decide +kernel
theorem dX0_addProduct_79 : decode cX0_addProduct 79 = .ok (.ladd, 1) := by decide +kernel
theorem dX0_addProduct_80 : decode cX0_addProduct 80 = .ok (.ladd, 1) := by decide +kernel
theorem dX0_addProduct_81 : decode cX0_addProduct 81 = .ok (.lstore 5, 2) := by decide +kernel
theorem dX0_addProduct_83 : decode cX0_addProduct 83 = .ok (.aload_n 0, 1) := by decide +kernel
theorem dX0_addProduct_84 : decode cX0_addProduct 84 = .ok (.getfield 9, 3) := by decide +kernel
theorem dX0_addProduct_87 : decode cX0_addProduct 87 = .ok (.iload 4, 2) := by decide +kernel
theorem dX0_addProduct_89 : decode cX0_addProduct 89 = .ok (.iload 7, 2) := by decide +kernel
theorem dX0_addProduct_91 : decode cX0_addProduct 91 = .ok (.iadd, 1) := by decide +kernel
theorem dX0_addProduct_92 : decode cX0_addProduct 92 = .ok (.lload 5, 2) := by decide +kernel
theorem dX0_addProduct_94 : decode cX0_addProduct 94 = .ok (.ldc2_w 34, 3) := by decide +kernel
theorem dX0_addProduct_97 : decode cX0_addProduct 97 = .ok (.land, 1) := by decide +kernel
theorem dX0_addProduct_98 : decode cX0_addProduct 98 = .ok (.l2i, 1) := by decide +kernel
theorem dX0_addProduct_99 : decode cX0_addProduct 99 = .ok (.iastore, 1) := by decide +kernel
theorem dX0_addProduct_100 : decode cX0_addProduct 100 = .ok (.lload 5, 2) := by decide +kernel
theorem dX0_addProduct_102 : decode cX0_addProduct 102 = .ok (.bipush 30, 2) := by decide +kernel
theorem dX0_addProduct_104 : decode cX0_addProduct 104 = .ok (.lshr, 1) := by decide +kernel
theorem dX0_addProduct_105 : decode cX0_addProduct 105 = .ok (.lstore 5, 2) := by decide +kernel
theorem dX0_addProduct_107 : decode cX0_addProduct 107 = .ok (.iinc 7 1, 3) := by decide +kernel
theorem dX0_addProduct_110 : decode cX0_addProduct 110 = .ok (.goto (-87), 3) := by decide +kernel
theorem dX0_addProduct_113 : decode cX0_addProduct 113 = .ok (.iload_n 3, 1) := by decide +kernel
theorem dX0_addProduct_114 : decode cX0_addProduct 114 = .ok (.iload 4, 2) := by decide +kernel
theorem dX0_addProduct_116 : decode cX0_addProduct 116 = .ok (.iload 7, 2) := by decide +kernel
theorem dX0_addProduct_118 : decode cX0_addProduct 118 = .ok (.iadd, 1) := by decide +kernel
theorem dX0_addProduct_119 : decode cX0_addProduct 119 = .ok (.invokestatic 22, 3) := by decide +kernel
theorem dX0_addProduct_122 : decode cX0_addProduct 122 = .ok (.istore_n 3, 1) := by decide +kernel
theorem dX0_addProduct_123 : decode cX0_addProduct 123 = .ok (.iinc 4 1, 3) := by decide +kernel
theorem dX0_addProduct_126 : decode cX0_addProduct 126 = .ok (.goto (-118), 3) := by decide +kernel
theorem dX0_addProduct_129 : decode cX0_addProduct 129 = .ok (.aload_n 0, 1) := by decide +kernel
theorem dX0_addProduct_130 : decode cX0_addProduct 130 = .ok (.iload_n 3, 1) := by decide +kernel
theorem dX0_addProduct_131 : decode cX0_addProduct 131 = .ok (.invokevirtual 18, 3) := by decide +kernel
theorem dX0_addProduct_134 : decode cX0_addProduct 134 = .ok (.return_, 1) := by decide +kernel
theorem bX0_addProduct_0 {Z : ZT} {X : XT} {μ : Mu} {a0 : Nat} {a1 : Nat} {a2 : Nat} (E : Ent Z X mX0_addProduct 0 0) (ha0 : SH a0 = .inl 0) (ha1 : SH a1 = .inl 0) (ha2 : SH a2 = .inl 0) 
    (k : JS Z X 8 [(0, .ref (Z.2.2.1 + a0)), (1, .ref (Z.2.2.1 + a1)), (2, .ref (Z.2.2.1 + a2)), (3, .int (μ a0 1)), (4, .int (nI 0))] [] μ) :
    JS Z X 0 [(0, .ref (Z.2.2.1 + a0)), (1, .ref (Z.2.2.1 + a1)), (2, .ref (Z.2.2.1 + a2))] [] μ := by
  refine J_aload_n E dX0_addProduct_0 rfl ?_
  refine S_get (ci := 0) (q := 1) (v := .int (μ a0 1)) E dX0_addProduct_1 fs_X0_13 ha0 rfl ?_
  refine J_istore_n (lv' := [(0, .ref (Z.2.2.1 + a0)), (1, .ref (Z.2.2.1 + a1)), (2, .ref (Z.2.2.1 + a2)), (3, .int (μ a0 1))]) E dX0_addProduct_4 (Nat.le_of_ble_eq_true rfl) rfl ?_
  refine J_iconst (v := nI 0) E dX0_addProduct_5 rfl ?_
  refine J_istore (lv' := [(0, .ref (Z.2.2.1 + a0)), (1, .ref (Z.2.2.1 + a1)), (2, .ref (Z.2.2.1 + a2)), (3, .int (μ a0 1)), (4, .int (nI 0))]) E dX0_addProduct_6 (Nat.le_of_ble_eq_true rfl) rfl ?_
  exact k
theorem bX0_addProduct_8 {Z : ZT} {X : XT} {μ : Mu} {a0 : Nat} {a1 : Nat} {a2 : Nat} {a3 : Int32} {a4 : Int32} (E : Ent Z X mX0_addProduct 0 0) (ha0 : SH a0 = .inl 0) (ha1 : SH a1 = .inl 0) (ha2 : SH a2 = .inl 0) 
    (kt : (μ a1 1) ≤ a4 → JS Z X 129 [(0, .ref (Z.2.2.1 + a0)), (3, .int a3)] [] μ) (kf : ¬ ((μ a1 1) ≤ a4) → JS Z X 17 [(0, .ref (Z.2.2.1 + a0)), (1, .ref (Z.2.2.1 + a1)), (2, .ref (Z.2.2.1 + a2)), (3, .int a3), (4, .int a4)] [] μ) :
    JS Z X 8 [(0, .ref (Z.2.2.1 + a0)), (1, .ref (Z.2.2.1 + a1)), (2, .ref (Z.2.2.1 + a2)), (3, .int a3), (4, .int a4)] [] μ := by
  refine J_iload E dX0_addProduct_8 rfl ?_
  refine J_aload_n E dX0_addProduct_10 rfl ?_
  refine S_get (ci := 0) (q := 1) (v := .int (μ a1 1)) E dX0_addProduct_11 fs_X0_13 ha1 rfl ?_
  refine J_icmp_ge (tgt := 129) E dX0_addProduct_14 (by decide) (fun c => ?_) (fun c => ?_)
  · refine J.weak [0, 3] rfl ?_
    exact kt c
  · exact kf c
theorem bX0_addProduct_17 {Z : ZT} {X : XT} {μ : Mu} {a0 : Nat} {a1 : Nat} {a2 : Nat} {a3 : Int32} {a4 : Int32} (E : Ent Z X mX0_addProduct 0 0) (ha0 : SH a0 = .inl 0) (ha1 : SH a1 = .inl 0) (ha2 : SH a2 = .inl 0) 
    (k : JS Z X 23 [(0, .ref (Z.2.2.1 + a0)), (1, .ref (Z.2.2.1 + a1)), (2, .ref (Z.2.2.1 + a2)), (3, .int a3), (4, .int a4), (5, .long (lN 0)), (7, .int (nI 0))] [] μ) :
    JS Z X 17 [(0, .ref (Z.2.2.1 + a0)), (1, .ref (Z.2.2.1 + a1)), (2, .ref (Z.2.2.1 + a2)), (3, .int a3), (4, .int a4)] [] μ := by
  refine J_lconst (v := lN 0) E dX0_addProduct_17 rfl ?_
  refine J_lstore (lv' := [(0, .ref (Z.2.2.1 + a0)), (1, .ref (Z.2.2.1 + a1)), (2, .ref (Z.2.2.1 + a2)), (3, .int a3), (4, .int a4), (5, .long (lN 0))]) E dX0_addProduct_18 (Nat.le_of_ble_eq_true rfl) rfl ?_
  refine J_iconst (v := nI 0) E dX0_addProduct_20 rfl ?_
  refine J_istore (lv' := [(0, .ref (Z.2.2.1 + a0)), (1, .ref (Z.2.2.1 + a1)), (2, .ref (Z.2.2.1 + a2)), (3, .int a3), (4, .int a4), (5, .long (lN 0)), (7, .int (nI 0))]) E dX0_addProduct_21 (Nat.le_of_ble_eq_true rfl) rfl ?_
  exact k
theorem bX0_addProduct_23 {Z : ZT} {X : XT} {μ : Mu} {a0 : Nat} {a1 : Nat} {a2 : Nat} {a3 : Int32} {a4 : Int32} {a5 : Int64} {a7 : Int32} (E : Ent Z X mX0_addProduct 0 0) (ha0 : SH a0 = .inl 0) (ha1 : SH a1 = .inl 0) (ha2 : SH a2 = .inl 0) 
    (kt : (nI 24) ≤ (a4 + a7) → JS Z X 113 [(0, .ref (Z.2.2.1 + a0)), (1, .ref (Z.2.2.1 + a1)), (2, .ref (Z.2.2.1 + a2)), (3, .int a3), (4, .int a4), (7, .int a7)] [] μ) (kf : ¬ ((nI 24) ≤ (a4 + a7)) → JS Z X 33 [(0, .ref (Z.2.2.1 + a0)), (1, .ref (Z.2.2.1 + a1)), (2, .ref (Z.2.2.1 + a2)), (3, .int a3), (4, .int a4), (5, .long a5), (7, .int a7)] [] μ) :
    JS Z X 23 [(0, .ref (Z.2.2.1 + a0)), (1, .ref (Z.2.2.1 + a1)), (2, .ref (Z.2.2.1 + a2)), (3, .int a3), (4, .int a4), (5, .long a5), (7, .int a7)] [] μ := by
  refine J_iload E dX0_addProduct_23 rfl ?_
  refine J_iload E dX0_addProduct_25 rfl ?_
  refine J_iadd E dX0_addProduct_27 ?_
  refine J_bipush (v := nI 24) E dX0_addProduct_28 rfl ?_
  refine J_icmp_ge (tgt := 113) E dX0_addProduct_30 (by decide) (fun c => ?_) (fun c => ?_)
  · refine J.weak [0, 1, 2, 3, 4, 6] rfl ?_
    exact kt c
  · exact kf c
theorem bX0_addProduct_33 {Z : ZT} {X : XT} {μ : Mu} {a0 : Nat} {a1 : Nat} {a2 : Nat} {a3 : Int32} {a4 : Int32} {a5 : Int64} {a7 : Int32} (E : Ent Z X mX0_addProduct 0 0) (ha0 : SH a0 = .inl 0) (ha1 : SH a1 = .inl 0) (ha2 : SH a2 = .inl 0) 
    (kt : a7 < (μ a2 1) → JS Z X 49 [(0, .ref (Z.2.2.1 + a0)), (1, .ref (Z.2.2.1 + a1)), (2, .ref (Z.2.2.1 + a2)), (3, .int a3), (4, .int a4), (5, .long a5), (7, .int a7)] [] μ) (kf : ¬ (a7 < (μ a2 1)) → JS Z X 42 [(0, .ref (Z.2.2.1 + a0)), (1, .ref (Z.2.2.1 + a1)), (2, .ref (Z.2.2.1 + a2)), (3, .int a3), (4, .int a4), (5, .long a5), (7, .int a7)] [] μ) :
    JS Z X 33 [(0, .ref (Z.2.2.1 + a0)), (1, .ref (Z.2.2.1 + a1)), (2, .ref (Z.2.2.1 + a2)), (3, .int a3), (4, .int a4), (5, .long a5), (7, .int a7)] [] μ := by
  refine J_iload E dX0_addProduct_33 rfl ?_
  refine J_aload_n E dX0_addProduct_35 rfl ?_
  refine S_get (ci := 0) (q := 1) (v := .int (μ a2 1)) E dX0_addProduct_36 fs_X0_13 ha2 rfl ?_
  refine J_icmp_lt (tgt := 49) E dX0_addProduct_39 (by decide) (fun c => ?_) (fun c => ?_)
  · exact kt c
  · exact kf c
theorem bX0_addProduct_42 {Z : ZT} {X : XT} {μ : Mu} {a0 : Nat} {a1 : Nat} {a2 : Nat} {a3 : Int32} {a4 : Int32} {a5 : Int64} {a7 : Int32} (E : Ent Z X mX0_addProduct 0 0) (ha0 : SH a0 = .inl 0) (ha1 : SH a1 = .inl 0) (ha2 : SH a2 = .inl 0) 
    (kt : (lg_cmp a5 (lN 0)) ≤ 0 → JS Z X 113 [(0, .ref (Z.2.2.1 + a0)), (1, .ref (Z.2.2.1 + a1)), (2, .ref (Z.2.2.1 + a2)), (3, .int a3), (4, .int a4), (7, .int a7)] [] μ) (kf : ¬ ((lg_cmp a5 (lN 0)) ≤ 0) → JS Z X 49 [(0, .ref (Z.2.2.1 + a0)), (1, .ref (Z.2.2.1 + a1)), (2, .ref (Z.2.2.1 + a2)), (3, .int a3), (4, .int a4), (5, .long a5), (7, .int a7)] [] μ) :
    JS Z X 42 [(0, .ref (Z.2.2.1 + a0)), (1, .ref (Z.2.2.1 + a1)), (2, .ref (Z.2.2.1 + a2)), (3, .int a3), (4, .int a4), (5, .long a5), (7, .int a7)] [] μ := by
  refine J_lload E dX0_addProduct_42 rfl ?_
  refine J_lconst (v := lN 0) E dX0_addProduct_44 rfl ?_
  refine J_lcmp E dX0_addProduct_45 ?_
  refine J_if_le (tgt := 113) E dX0_addProduct_46 (by decide) (fun c => ?_) (fun c => ?_)
  · refine J.weak [0, 1, 2, 3, 4, 6] rfl ?_
    exact kt c
  · exact kf c
theorem bX0_addProduct_49 {Z : ZT} {X : XT} {μ : Mu} {a0 : Nat} {a1 : Nat} {a2 : Nat} {a3 : Int32} {a4 : Int32} {a5 : Int64} {a7 : Int32} (E : Ent Z X mX0_addProduct 0 0) (ha0 : SH a0 = .inl 0) (ha1 : SH a1 = .inl 0) (ha2 : SH a2 = .inl 0) (s1_ : vp_in (a4 + a7) 24) (s2_ : vp_in a4 24) (s3_ : vp_in a7 24) (s4_ : vp_in (a4 + a7) 24)
    (k : JS Z X 100 [(0, .ref (Z.2.2.1 + a0)), (1, .ref (Z.2.2.1 + a1)), (2, .ref (Z.2.2.1 + a2)), (3, .int a3), (4, .int a4), (5, .long (a5 + (((μ (a0 + 1) (ix (a4 + a7))).toInt64) + (((μ (a1 + 1) (ix a4)).toInt64) * ((μ (a2 + 1) (ix a7)).toInt64))))), (7, .int a7)] [] (uR μ (a0 + 1) (upd (μ (a0 + 1)) (ix (a4 + a7)) (((a5 + (((μ (a0 + 1) (ix (a4 + a7))).toInt64) + (((μ (a1 + 1) (ix a4)).toInt64) * ((μ (a2 + 1) (ix a7)).toInt64)))) &&& (lN 1073741823)).toInt32)))) :
    JS Z X 49 [(0, .ref (Z.2.2.1 + a0)), (1, .ref (Z.2.2.1 + a1)), (2, .ref (Z.2.2.1 + a2)), (3, .int a3), (4, .int a4), (5, .long a5), (7, .int a7)] [] μ := by
  refine J_lload E dX0_addProduct_49 rfl ?_
  refine J_aload_n E dX0_addProduct_51 rfl ?_
  refine S_get (ci := 0) (q := 0) (v := .ref (Z.2.2.1 + (a0 + 1))) E dX0_addProduct_52 fs_X0_9 ha0 rfl ?_
  refine J_iload E dX0_addProduct_55 rfl ?_
  refine J_iload E dX0_addProduct_57 rfl ?_
  refine J_iadd E dX0_addProduct_59 ?_
  refine S_iald E dX0_addProduct_60 (shr_X0_0 ha0) s1_ ?_
  refine J_i2l E dX0_addProduct_61 ?_
  refine J_aload_n E dX0_addProduct_62 rfl ?_
  refine S_get (ci := 0) (q := 0) (v := .ref (Z.2.2.1 + (a1 + 1))) E dX0_addProduct_63 fs_X0_9 ha1 rfl ?_
  refine J_iload E dX0_addProduct_66 rfl ?_
  refine S_iald E dX0_addProduct_68 (shr_X0_0 ha1) s2_ ?_
  refine J_i2l E dX0_addProduct_69 ?_
  refine J_aload_n E dX0_addProduct_70 rfl ?_
  refine S_get (ci := 0) (q := 0) (v := .ref (Z.2.2.1 + (a2 + 1))) E dX0_addProduct_71 fs_X0_9 ha2 rfl ?_
  refine J_iload E dX0_addProduct_74 rfl ?_
  refine S_iald E dX0_addProduct_76 (shr_X0_0 ha2) s3_ ?_
  refine J_i2l E dX0_addProduct_77 ?_
  refine J_lmul E dX0_addProduct_78 ?_
  refine J_ladd E dX0_addProduct_79 ?_
  refine J_ladd E dX0_addProduct_80 ?_
  refine J_lstore (lv' := [(0, .ref (Z.2.2.1 + a0)), (1, .ref (Z.2.2.1 + a1)), (2, .ref (Z.2.2.1 + a2)), (3, .int a3), (4, .int a4), (5, .long (a5 + (((μ (a0 + 1) (ix (a4 + a7))).toInt64) + (((μ (a1 + 1) (ix a4)).toInt64) * ((μ (a2 + 1) (ix a7)).toInt64))))), (7, .int a7)]) E dX0_addProduct_81 (Nat.le_of_ble_eq_true rfl) rfl ?_
  refine J_aload_n E dX0_addProduct_83 rfl ?_
  refine S_get (ci := 0) (q := 0) (v := .ref (Z.2.2.1 + (a0 + 1))) E dX0_addProduct_84 fs_X0_9 ha0 rfl ?_
  refine J_iload E dX0_addProduct_87 rfl ?_
  refine J_iload E dX0_addProduct_89 rfl ?_
  refine J_iadd E dX0_addProduct_91 ?_
  refine J_lload E dX0_addProduct_92 rfl ?_
  refine J_ldc2 (v := lN 1073741823) E dX0_addProduct_94 w4_150 ?_
  refine J_land E dX0_addProduct_97 ?_
  refine J_l2i E dX0_addProduct_98 ?_
  refine S_iast E dX0_addProduct_99 (shr_X0_0 ha0) s4_ ?_
  exact k
theorem bX0_addProduct_100 {Z : ZT} {X : XT} {μ : Mu} {a0 : Nat} {a1 : Nat} {a2 : Nat} {a3 : Int32} {a4 : Int32} {a5 : Int64} {a7 : Int32} (E : Ent Z X mX0_addProduct 0 0) (ha0 : SH a0 = .inl 0) (ha1 : SH a1 = .inl 0) (ha2 : SH a2 = .inl 0) 
    (k : JS Z X 23 [(0, .ref (Z.2.2.1 + a0)), (1, .ref (Z.2.2.1 + a1)), (2, .ref (Z.2.2.1 + a2)), (3, .int a3), (4, .int a4), (5, .long (a5 >>> ((nI 30).toInt64 &&& 63))), (7, .int (a7 + nI 1))] [] μ) :
    JS Z X 100 [(0, .ref (Z.2.2.1 + a0)), (1, .ref (Z.2.2.1 + a1)), (2, .ref (Z.2.2.1 + a2)), (3, .int a3), (4, .int a4), (5, .long a5), (7, .int a7)] [] μ := by
  refine J_lload E dX0_addProduct_100 rfl ?_
  refine J_bipush (v := nI 30) E dX0_addProduct_102 rfl ?_
  refine J_lshr E dX0_addProduct_104 ?_
  refine J_lstore (lv' := [(0, .ref (Z.2.2.1 + a0)), (1, .ref (Z.2.2.1 + a1)), (2, .ref (Z.2.2.1 + a2)), (3, .int a3), (4, .int a4), (5, .long (a5 >>> ((nI 30).toInt64 &&& 63))), (7, .int a7)]) E dX0_addProduct_105 (Nat.le_of_ble_eq_true rfl) rfl ?_
  refine J_iinc (v := a7 + nI 1) (lv' := [(0, .ref (Z.2.2.1 + a0)), (1, .ref (Z.2.2.1 + a1)), (2, .ref (Z.2.2.1 + a2)), (3, .int a3), (4, .int a4), (5, .long (a5 >>> ((nI 30).toInt64 &&& 63))), (7, .int (a7 + nI 1))]) E dX0_addProduct_107 rfl rfl (Nat.le_of_ble_eq_true rfl) rfl ?_
  refine J_goto (tgt := 23) E dX0_addProduct_110 (by decide) ?_
  exact k
theorem bX0_addProduct_113 {Z : ZT} {X : XT} {μ : Mu} {a0 : Nat} {a1 : Nat} {a2 : Nat} {a3 : Int32} {a4 : Int32} {a7 : Int32} (E : Ent Z X mX0_addProduct 0 0) (ha0 : SH a0 = .inl 0) (ha1 : SH a1 = .inl 0) (ha2 : SH a2 = .inl 0) 
    (k : JS Z X 8 [(0, .ref (Z.2.2.1 + a0)), (1, .ref (Z.2.2.1 + a1)), (2, .ref (Z.2.2.1 + a2)), (3, .int (if a3 < (a4 + a7) then (a4 + a7) else a3)), (4, .int (a4 + nI 1))] [] μ) :
    JS Z X 113 [(0, .ref (Z.2.2.1 + a0)), (1, .ref (Z.2.2.1 + a1)), (2, .ref (Z.2.2.1 + a2)), (3, .int a3), (4, .int a4), (7, .int a7)] [] μ := by
  refine J_iload_n E dX0_addProduct_113 rfl ?_
  refine J_iload E dX0_addProduct_114 rfl ?_
  refine J_iload E dX0_addProduct_116 rfl ?_
  refine J_iadd E dX0_addProduct_118 ?_
  refine J_mmax E dX0_addProduct_119 w4_130 w4_131 w1_13 w4_132 (Nat.le_of_ble_eq_true rfl) (Nat.le_of_ble_eq_true rfl) (Nat.le_refl 0) (Nat.le_refl 0) ?_
  refine J_istore_n (lv' := [(0, .ref (Z.2.2.1 + a0)), (1, .ref (Z.2.2.1 + a1)), (2, .ref (Z.2.2.1 + a2)), (3, .int (if a3 < (a4 + a7) then (a4 + a7) else a3)), (4, .int a4), (7, .int a7)]) E dX0_addProduct_122 (Nat.le_of_ble_eq_true rfl) rfl ?_
  refine J_iinc (v := a4 + nI 1) (lv' := [(0, .ref (Z.2.2.1 + a0)), (1, .ref (Z.2.2.1 + a1)), (2, .ref (Z.2.2.1 + a2)), (3, .int (if a3 < (a4 + a7) then (a4 + a7) else a3)), (4, .int (a4 + nI 1)), (7, .int a7)]) E dX0_addProduct_123 rfl rfl (Nat.le_of_ble_eq_true rfl) rfl ?_
  refine J_goto (tgt := 8) E dX0_addProduct_126 (by decide) ?_
  refine J.weak [0, 1, 2, 3, 4] rfl ?_
  exact k
theorem bX0_addProduct_129 {Z : ZT} {X : XT} {μ : Mu} {a0 : Nat} {a3 : Int32} (E : Ent Z X mX0_addProduct 0 0) (ha0 : SH a0 = .inl 0) {p : Mu → Prop} 
    (c : CtrS Z mX0_trim [.ref (Z.2.2.1 + a0), .int a3] μ (rV p)) (k : ∀ μ1, p μ1 → JS Z X 134 [] [] μ1) :
    JS Z X 129 [(0, .ref (Z.2.2.1 + a0)), (3, .int a3)] [] μ := by
  refine J_aload_n E dX0_addProduct_129 rfl ?_
  refine J_iload_n E dX0_addProduct_130 rfl ?_
  refine S_callV (As := [.int a3]) (rest := []) E dX0_addProduct_131 c kX0_trim ⟨Nat.le_of_ble_eq_true rfl, Nat.le_of_ble_eq_true rfl⟩ rfl (Nat.le_of_ble_eq_true rfl) ha0 rfl rfl w2_184 w2_186 wp_0 (fun r_ μ1 hp_ => ?_)
  obtain ⟨rfl, hp_⟩ := hp_
  refine J.weak [] rfl ?_
  exact k μ1 hp_
theorem bX0_addProduct_134 {Z : ZT} {X : XT} {μ : Mu} (E : Ent Z X mX0_addProduct 0 0) {P : Option Value → Mu → Prop} (hB : BodS Z X P) 
    (k : P none μ) :
    JS Z X 134 [] [] μ := by
  exact S_vret E hB dX0_addProduct_134 rfl k
theorem dX0_setDifference_0 : decode cX0_setDifference 0 = .ok (.aload_n 1, 1) := by decide +kernel
theorem dX0_setDifference_1 : decode cX0_setDifference 1 = .ok (.aload_n 2, 1) := by decide +kernel
theorem dX0_setDifference_2 : decode cX0_setDifference 2 = .ok (.invokevirtual 36, 3) := by decide +kernel
theorem dX0_setDifference_5 : decode cX0_setDifference 5 = .ok (.ifCond .ge 7, 3) := by decide +kernel
theorem dX0_setDifference_8 : decode cX0_setDifference 8 = .ok (.iconst 1, 1) := by decide +kernel
theorem dX0_setDifference_9 : decode cX0_setDifference 9 = .ok (.goto 4, 3) := by decide +kernel
theorem dX0_setDifference_12 : decode cX0_setDifference 12 = .ok (.iconst 0, 1) := by decide +kernel
theorem dX0_setDifference_13 : decode cX0_setDifference 13 = .ok (.istore_n 3, 1) := by decide +kernel
theorem dX0_setDifference_14 : decode cX0_setDifference 14 = .ok (.iload_n 3, 1) := by decide +kernel
theorem dX0_setDifference_15 : decode cX0_setDifference 15 = .ok (.ifCond .eq 7, 3) := by decide +kernel
theorem dX0_setDifference_18 : decode cX0_setDifference 18 = .ok (.aload_n 2, 1) := by decide +kernel
theorem dX0_setDifference_19 : decode cX0_setDifference 19 = .ok (.goto 4, 3) := by decide +kernel
theorem dX0_setDifference_22 : decode cX0_setDifference 22 = .ok (.aload_n 1, 1) := by decide +kernel
theorem dX0_setDifference_23 : decode cX0_setDifference 23 = .ok (.astore 4, 2) := by decide +kernel
theorem dX0_setDifference_25 : decode cX0_setDifference 25 = .ok (.iload_n 3, 1) := by decide +kernel
theorem dX0_setDifference_26 : decode cX0_setDifference 26 = .ok (.ifCond .eq 7, 3) := by decide +kernel
theorem dX0_setDifference_29 : decode cX0_setDifference 29 = .ok (.aload_n 1, 1) := by decide +kernel
theorem dX0_setDifference_30 : decode cX0_setDifference 30 = .ok (.goto 4, 3) := by decide +kernel
theorem dX0_setDifference_33 : decode cX0_setDifference 33 = .ok (.aload_n 2, 1) := by decide +kernel
theorem dX0_setDifference_34 : decode cX0_setDifference 34 = .ok (.astore 5, 2) := by decide +kernel
theorem dX0_setDifference_36 : decode cX0_setDifference 36 = .ok (.aload_n 0, 1) := by decide +kernel
theorem dX0_setDifference_37 : decode cX0_setDifference 37 = .ok (.getfield 13, 3) := by decide +kernel
theorem dX0_setDifference_40 : decode cX0_setDifference 40 = .ok (.aload 4, 2) := by decide +kernel
theorem dX0_setDifference_42 : decode cX0_setDifference 42 = .ok (.getfield 13, 3) := by decide +kernel
theorem dX0_setDifference_45 : decode cX0_setDifference 45 = .ok (.invokestatic 22, 3) := by decide +kernel
theorem dX0_setDifference_48 : decode cX0_setDifference 48 = .ok (.istore 6, 2) := by decide +kernel
theorem dX0_setDifference_50 : decode cX0_setDifference 50 = .ok (.iconst 0, 1) := by decide +kernel
theorem dX0_setDifference_51 : decode cX0_setDifference 51 = .ok (.istore 7, 2) := by decide +kernel
theorem dX0_setDifference_53 : decode cX0_setDifference 53 = .ok (.iconst 0, 1) := by decide +kernel
theorem dX0_setDifference_54 : decode cX0_setDifference 54 = .ok (.istore 8, 2) := by decide +kernel
theorem dX0_setDifference_56 : decode cX0_setDifference 56 = .ok (.iload 8, 2) := by decide +kernel
theorem dX0_setDifference_58 : decode cX0_setDifference 58 = .ok (.iload 6, 2) := by decide +kernel
theorem dX0_setDifference_60 : decode cX0_setDifference 60 = .ok (.if_icmp .ge 55, 3) := by decide +kernel
theorem dX0_setDifference_63 : decode cX0_setDifference 63 = .ok (.aload 4, 2) := by decide +kernel
theorem dX0_setDifference_65 : decode cX0_setDifference 65 = .ok (.getfield 9, 3) := by decide +kernel
theorem dX0_setDifference_68 : decode cX0_setDifference 68 = .ok (.iload 8, 2) := by decide +kernel
theorem dX0_setDifference_70 : decode cX0_setDifference 70 = .ok (.iaload, 1) := by decide +kernel
theorem dX0_setDifference_71 : decode cX0_setDifference 71 = .ok (.aload 5, 2) := by decide +kernel
theorem dX0_setDifference_73 : decode cX0_setDifference 73 = .ok (.getfield 9, 3) := by decide +kernel
theorem dX0_setDifference_76 : decode cX0_setDifference 76 = .ok (.iload 8, 2) := by decide +kernel
theorem dX0_setDifference_78 : decode cX0_setDifference 78 = .ok (.iaload, 1) := by decide +kernel
theorem dX0_setDifference_79 : decode cX0_setDifference 79 = .ok (.isub, 1) := by decide +kernel
theorem dX0_setDifference_80 : decode cX0_setDifference 80 = .ok (.iload 7, 2) := by decide +kernel
theorem dX0_setDifference_82 : decode cX0_setDifference 82 = .ok (.isub, 1) := by decide +kernel
theorem dX0_setDifference_83 : decode cX0_setDifference 83 = .ok (.istore 9, 2) := by decide +kernel
theorem dX0_setDifference_85 : decode cX0_setDifference 85 = .ok (.iload 9, 2) := by decide +kernel
theorem dX0_setDifference_87 : decode cX0_setDifference 87 = .ok (.ifCond .ge 7, 3) := by decide +kernel
theorem dX0_setDifference_90 : decode cX0_setDifference 90 = .ok (.iconst 1, 1) := by decide +kernel
theorem dX0_setDifference_91 : decode cX0_setDifference 91 = .ok (.goto 4, 3) := by decide +kernel
theorem dX0_setDifference_94 : decode cX0_setDifference 94 = .ok (.iconst 0, 1) := by decide +kernel
theorem dX0_setDifference_95 : decode cX0_setDifference 95 = .ok (.istore 7, 2) := by decide +kernel
theorem dX0_setDifference_97 : decode cX0_setDifference 97 = .ok (.aload_n 0, 1) := by decide +kernel
theorem dX0_setDifference_98 : decode cX0_setDifference 98 = .ok (.getfield 9, 3) := by decide +kernel
theorem dX0_setDifference_101 : decode cX0_setDifference 101 = .ok (.iload 8, 2) := by decide +kernel
theorem dX0_setDifference_103 : decode cX0_setDifference 103 = .ok (.iload 9, 2) := by decide +kernel
theorem dX0_setDifference_105 : decode cX0_setDifference 105 = .ok (.ldc 17, 2) := by decide +kernel
theorem dX0_setDifference_107 : decode cX0_setDifference 107 = .ok (.iand, 1) := by decide +kernel
theorem dX0_setDifference_108 : decode cX0_setDifference 108 = .ok (.iastore, 1) := by decide +kernel
theorem dX0_setDifference_109 : decode cX0_setDifference 109 = .ok (.iinc 8 1, 3) := by decide +kernel
theorem dX0_setDifference_112 : decode cX0_setDifference 112 = .ok (.goto (-56), 3) := by decide +kernel
theorem dX0_setDifference_115 : decode cX0_setDifference 115 = .ok (.aload_n 0, 1) := by decide +kernel
theorem dX0_setDifference_116 : decode cX0_setDifference 116 = .ok (.iload 6, 2) := by decide +kernel
theorem dX0_setDifference_118 : decode cX0_setDifference 118 = .ok (.invokevirtual 18, 3) := by decide +kernel
theorem dX0_setDifference_121 : decode cX0_setDifference 121 = .ok (.return_, 1) := by decide +kernel
theorem bX0_setDifference_0 {Z : ZT} {X : XT} {μ : Mu} {a0 : Nat} {a1 : Nat} {a2 : Nat} (E : Ent Z X mX0_setDifference 0 0) (ha0 : SH a0 = .inl 0) (ha1 : SH a1 = .inl 0) (ha2 : SH a2 = .inl 0) {p : Int32 → Mu → Prop} 
    (c : CtrS Z mX0_compare [.ref (Z.2.2.1 + a1), .ref (Z.2.2.1 + a2)] μ (rI p)) (k : ∀ v μ1, p v μ1 → JS Z X 5 [(0, .ref (Z.2.2.1 + a0)), (1, .ref (Z.2.2.1 + a1)), (2, .ref (Z.2.2.1 + a2))] [.int v] μ1) :
    JS Z X 0 [(0, .ref (Z.2.2.1 + a0)), (1, .ref (Z.2.2.1 + a1)), (2, .ref (Z.2.2.1 + a2))] [] μ := by
  refine J_aload_n E dX0_setDifference_0 rfl ?_
  refine J_aload_n E dX0_setDifference_1 rfl ?_
  refine S_callV (As := [.ref (Z.2.2.1 + a2)]) (rest := []) E dX0_setDifference_2 c kX0_compare ⟨Nat.le_of_ble_eq_true rfl, Nat.le_of_ble_eq_true rfl⟩ rfl (Nat.le_of_ble_eq_true rfl) ha1 rfl rfl w4_237 w4_229 w4_230 (fun r_ μ1 hp_ => ?_)
  obtain ⟨v, rfl, hp_⟩ := hp_
  exact k v μ1 hp_
theorem bX0_setDifference_5 {Z : ZT} {X : XT} {μ : Mu} {a0 : Nat} {a1 : Nat} {a2 : Nat} {s0 : Int32} (E : Ent Z X mX0_setDifference 0 0) (ha0 : SH a0 = .inl 0) (ha1 : SH a1 = .inl 0) (ha2 : SH a2 = .inl 0) 
    (kt : 0 ≤ s0 → JS Z X 12 [(0, .ref (Z.2.2.1 + a0)), (1, .ref (Z.2.2.1 + a1)), (2, .ref (Z.2.2.1 + a2))] [] μ) (kf : ¬ (0 ≤ s0) → JS Z X 8 [(0, .ref (Z.2.2.1 + a0)), (1, .ref (Z.2.2.1 + a1)), (2, .ref (Z.2.2.1 + a2))] [] μ) :
    JS Z X 5 [(0, .ref (Z.2.2.1 + a0)), (1, .ref (Z.2.2.1 + a1)), (2, .ref (Z.2.2.1 + a2))] [.int s0] μ := by
  refine J_if_ge (tgt := 12) E dX0_setDifference_5 (by decide) (fun c => ?_) (fun c => ?_)
  · exact kt c
  · exact kf c
theorem bX0_setDifference_8 {Z : ZT} {X : XT} {μ : Mu} {a0 : Nat} {a1 : Nat} {a2 : Nat} (E : Ent Z X mX0_setDifference 0 0) (ha0 : SH a0 = .inl 0) (ha1 : SH a1 = .inl 0) (ha2 : SH a2 = .inl 0) 
    (k : JS Z X 13 [(0, .ref (Z.2.2.1 + a0)), (1, .ref (Z.2.2.1 + a1)), (2, .ref (Z.2.2.1 + a2))] [.int (nI 1)] μ) :
    JS Z X 8 [(0, .ref (Z.2.2.1 + a0)), (1, .ref (Z.2.2.1 + a1)), (2, .ref (Z.2.2.1 + a2))] [] μ := by
  refine J_iconst (v := nI 1) E dX0_setDifference_8 rfl ?_
  refine J_goto (tgt := 13) E dX0_setDifference_9 (by decide) ?_
  exact k
theorem bX0_setDifference_12 {Z : ZT} {X : XT} {μ : Mu} {a0 : Nat} {a1 : Nat} {a2 : Nat} (E : Ent Z X mX0_setDifference 0 0) (ha0 : SH a0 = .inl 0) (ha1 : SH a1 = .inl 0) (ha2 : SH a2 = .inl 0) 
    (k : JS Z X 13 [(0, .ref (Z.2.2.1 + a0)), (1, .ref (Z.2.2.1 + a1)), (2, .ref (Z.2.2.1 + a2))] [.int (nI 0)] μ) :
    JS Z X 12 [(0, .ref (Z.2.2.1 + a0)), (1, .ref (Z.2.2.1 + a1)), (2, .ref (Z.2.2.1 + a2))] [] μ := by
  refine J_iconst (v := nI 0) E dX0_setDifference_12 rfl ?_
  exact k
theorem bX0_setDifference_13 {Z : ZT} {X : XT} {μ : Mu} {a0 : Nat} {a1 : Nat} {a2 : Nat} {s0 : Int32} (E : Ent Z X mX0_setDifference 0 0) (ha0 : SH a0 = .inl 0) (ha1 : SH a1 = .inl 0) (ha2 : SH a2 = .inl 0) 
    (kt : s0 = 0 → JS Z X 22 [(0, .ref (Z.2.2.1 + a0)), (1, .ref (Z.2.2.1 + a1)), (2, .ref (Z.2.2.1 + a2)), (3, .int s0)] [] μ) (kf : ¬ (s0 = 0) → JS Z X 18 [(0, .ref (Z.2.2.1 + a0)), (1, .ref (Z.2.2.1 + a1)), (2, .ref (Z.2.2.1 + a2)), (3, .int s0)] [] μ) :
    JS Z X 13 [(0, .ref (Z.2.2.1 + a0)), (1, .ref (Z.2.2.1 + a1)), (2, .ref (Z.2.2.1 + a2))] [.int s0] μ := by
  refine J_istore_n (lv' := [(0, .ref (Z.2.2.1 + a0)), (1, .ref (Z.2.2.1 + a1)), (2, .ref (Z.2.2.1 + a2)), (3, .int s0)]) E dX0_setDifference_13 (Nat.le_of_ble_eq_true rfl) rfl ?_
  refine J_iload_n E dX0_setDifference_14 rfl ?_
  refine J_if_eq (tgt := 22) E dX0_setDifference_15 (by decide) (fun c => ?_) (fun c => ?_)
  · exact kt c
  · exact kf c
theorem bX0_setDifference_18 {Z : ZT} {X : XT} {μ : Mu} {a0 : Nat} {a1 : Nat} {a2 : Nat} {a3 : Int32} (E : Ent Z X mX0_setDifference 0 0) (ha0 : SH a0 = .inl 0) (ha1 : SH a1 = .inl 0) (ha2 : SH a2 = .inl 0) 
    (k : JS Z X 23 [(0, .ref (Z.2.2.1 + a0)), (1, .ref (Z.2.2.1 + a1)), (2, .ref (Z.2.2.1 + a2)), (3, .int a3)] [.ref (Z.2.2.1 + a2)] μ) :
    JS Z X 18 [(0, .ref (Z.2.2.1 + a0)), (1, .ref (Z.2.2.1 + a1)), (2, .ref (Z.2.2.1 + a2)), (3, .int a3)] [] μ := by
  refine J_aload_n E dX0_setDifference_18 rfl ?_
  refine J_goto (tgt := 23) E dX0_setDifference_19 (by decide) ?_
  exact k
theorem bX0_setDifference_22 {Z : ZT} {X : XT} {μ : Mu} {a0 : Nat} {a1 : Nat} {a2 : Nat} {a3 : Int32} (E : Ent Z X mX0_setDifference 0 0) (ha0 : SH a0 = .inl 0) (ha1 : SH a1 = .inl 0) (ha2 : SH a2 = .inl 0) 
    (k : JS Z X 23 [(0, .ref (Z.2.2.1 + a0)), (1, .ref (Z.2.2.1 + a1)), (2, .ref (Z.2.2.1 + a2)), (3, .int a3)] [.ref (Z.2.2.1 + a1)] μ) :
    JS Z X 22 [(0, .ref (Z.2.2.1 + a0)), (1, .ref (Z.2.2.1 + a1)), (2, .ref (Z.2.2.1 + a2)), (3, .int a3)] [] μ := by
  refine J_aload_n E dX0_setDifference_22 rfl ?_
  exact k
theorem bX0_setDifference_23 {Z : ZT} {X : XT} {μ : Mu} {a0 : Nat} {a1 : Nat} {a2 : Nat} {a3 : Int32} {s0 : Nat} (E : Ent Z X mX0_setDifference 0 0) (ha0 : SH a0 = .inl 0) (ha1 : SH a1 = .inl 0) (ha2 : SH a2 = .inl 0) (hs0 : SH s0 = .inl 0) 
    (kt : a3 = 0 → JS Z X 33 [(0, .ref (Z.2.2.1 + a0)), (2, .ref (Z.2.2.1 + a2)), (4, .ref (Z.2.2.1 + s0))] [] μ) (kf : ¬ (a3 = 0) → JS Z X 29 [(0, .ref (Z.2.2.1 + a0)), (1, .ref (Z.2.2.1 + a1)), (4, .ref (Z.2.2.1 + s0))] [] μ) :
    JS Z X 23 [(0, .ref (Z.2.2.1 + a0)), (1, .ref (Z.2.2.1 + a1)), (2, .ref (Z.2.2.1 + a2)), (3, .int a3)] [.ref (Z.2.2.1 + s0)] μ := by
  refine J_astore (lv' := [(0, .ref (Z.2.2.1 + a0)), (1, .ref (Z.2.2.1 + a1)), (2, .ref (Z.2.2.1 + a2)), (3, .int a3), (4, .ref (Z.2.2.1 + s0))]) E dX0_setDifference_23 (Nat.le_of_ble_eq_true rfl) rfl ?_
  refine J_iload_n E dX0_setDifference_25 rfl ?_
  refine J_if_eq (tgt := 33) E dX0_setDifference_26 (by decide) (fun c => ?_) (fun c => ?_)
  · refine J.weak [0, 2, 4] rfl ?_
    exact kt c
  · refine J.weak [0, 1, 4] rfl ?_
    exact kf c
theorem bX0_setDifference_29 {Z : ZT} {X : XT} {μ : Mu} {a0 : Nat} {a1 : Nat} {a4 : Nat} (E : Ent Z X mX0_setDifference 0 0) (ha0 : SH a0 = .inl 0) (ha1 : SH a1 = .inl 0) (ha4 : SH a4 = .inl 0) 
    (k : JS Z X 34 [(0, .ref (Z.2.2.1 + a0)), (4, .ref (Z.2.2.1 + a4))] [.ref (Z.2.2.1 + a1)] μ) :
    JS Z X 29 [(0, .ref (Z.2.2.1 + a0)), (1, .ref (Z.2.2.1 + a1)), (4, .ref (Z.2.2.1 + a4))] [] μ := by
  refine J_aload_n E dX0_setDifference_29 rfl ?_
  refine J_goto (tgt := 34) E dX0_setDifference_30 (by decide) ?_
  refine J.weak [0, 2] rfl ?_
  exact k
theorem bX0_setDifference_33 {Z : ZT} {X : XT} {μ : Mu} {a0 : Nat} {a2 : Nat} {a4 : Nat} (E : Ent Z X mX0_setDifference 0 0) (ha0 : SH a0 = .inl 0) (ha2 : SH a2 = .inl 0) (ha4 : SH a4 = .inl 0) 
    (k : JS Z X 34 [(0, .ref (Z.2.2.1 + a0)), (4, .ref (Z.2.2.1 + a4))] [.ref (Z.2.2.1 + a2)] μ) :
    JS Z X 33 [(0, .ref (Z.2.2.1 + a0)), (2, .ref (Z.2.2.1 + a2)), (4, .ref (Z.2.2.1 + a4))] [] μ := by
  refine J_aload_n E dX0_setDifference_33 rfl ?_
  refine J.weak [0, 2] rfl ?_
  exact k
theorem bX0_setDifference_34 {Z : ZT} {X : XT} {μ : Mu} {a0 : Nat} {a4 : Nat} {s0 : Nat} (E : Ent Z X mX0_setDifference 0 0) (ha0 : SH a0 = .inl 0) (ha4 : SH a4 = .inl 0) (hs0 : SH s0 = .inl 0) 
    (k : JS Z X 56 [(0, .ref (Z.2.2.1 + a0)), (4, .ref (Z.2.2.1 + a4)), (5, .ref (Z.2.2.1 + s0)), (6, .int (if (μ a0 1) < (μ a4 1) then (μ a4 1) else (μ a0 1))), (7, .int (nI 0)), (8, .int (nI 0))] [] μ) :
    JS Z X 34 [(0, .ref (Z.2.2.1 + a0)), (4, .ref (Z.2.2.1 + a4))] [.ref (Z.2.2.1 + s0)] μ := by
  refine J_astore (lv' := [(0, .ref (Z.2.2.1 + a0)), (4, .ref (Z.2.2.1 + a4)), (5, .ref (Z.2.2.1 + s0))]) E dX0_setDifference_34 (Nat.le_of_ble_eq_true rfl) rfl ?_
  refine J_aload_n E dX0_setDifference_36 rfl ?_
  refine S_get (ci := 0) (q := 1) (v := .int (μ a0 1)) E dX0_setDifference_37 fs_X0_13 ha0 rfl ?_
  refine J_aload E dX0_setDifference_40 rfl ?_
  refine S_get (ci := 0) (q := 1) (v := .int (μ a4 1)) E dX0_setDifference_42 fs_X0_13 ha4 rfl ?_
  refine J_mmax E dX0_setDifference_45 w4_130 w4_131 w1_13 w4_132 (Nat.le_of_ble_eq_true rfl) (Nat.le_of_ble_eq_true rfl) (Nat.le_refl 0) (Nat.le_refl 0) ?_
  refine J_istore (lv' := [(0, .ref (Z.2.2.1 + a0)), (4, .ref (Z.2.2.1 + a4)), (5, .ref (Z.2.2.1 + s0)), (6, .int (if (μ a0 1) < (μ a4 1) then (μ a4 1) else (μ a0 1)))]) E dX0_setDifference_48 (Nat.le_of_ble_eq_true rfl) rfl ?_
  refine J_iconst (v := nI 0) E dX0_setDifference_50 rfl ?_
  refine J_istore (lv' := [(0, .ref (Z.2.2.1 + a0)), (4, .ref (Z.2.2.1 + a4)), (5, .ref (Z.2.2.1 + s0)), (6, .int (if (μ a0 1) < (μ a4 1) then (μ a4 1) else (μ a0 1))), (7, .int (nI 0))]) E dX0_setDifference_51 (Nat.le_of_ble_eq_true rfl) rfl ?_
  refine J_iconst (v := nI 0) E dX0_setDifference_53 rfl ?_
  refine J_istore (lv' := [(0, .ref (Z.2.2.1 + a0)), (4, .ref (Z.2.2.1 + a4)), (5, .ref (Z.2.2.1 + s0)), (6, .int (if (μ a0 1) < (μ a4 1) then (μ a4 1) else (μ a0 1))), (7, .int (nI 0)), (8, .int (nI 0))]) E dX0_setDifference_54 (Nat.le_of_ble_eq_true rfl) rfl ?_
  exact k
theorem bX0_setDifference_56 {Z : ZT} {X : XT} {μ : Mu} {a0 : Nat} {a4 : Nat} {a5 : Nat} {a6 : Int32} {a7 : Int32} {a8 : Int32} (E : Ent Z X mX0_setDifference 0 0) (ha0 : SH a0 = .inl 0) (ha4 : SH a4 = .inl 0) (ha5 : SH a5 = .inl 0) 
    (kt : a6 ≤ a8 → JS Z X 115 [(0, .ref (Z.2.2.1 + a0)), (6, .int a6)] [] μ) (kf : ¬ (a6 ≤ a8) → JS Z X 63 [(0, .ref (Z.2.2.1 + a0)), (4, .ref (Z.2.2.1 + a4)), (5, .ref (Z.2.2.1 + a5)), (6, .int a6), (7, .int a7), (8, .int a8)] [] μ) :
    JS Z X 56 [(0, .ref (Z.2.2.1 + a0)), (4, .ref (Z.2.2.1 + a4)), (5, .ref (Z.2.2.1 + a5)), (6, .int a6), (7, .int a7), (8, .int a8)] [] μ := by
  refine J_iload E dX0_setDifference_56 rfl ?_
  refine J_iload E dX0_setDifference_58 rfl ?_
  refine J_icmp_ge (tgt := 115) E dX0_setDifference_60 (by decide) (fun c => ?_) (fun c => ?_)
  · refine J.weak [0, 3] rfl ?_
    exact kt c
  · exact kf c
theorem bX0_setDifference_63 {Z : ZT} {X : XT} {μ : Mu} {a0 : Nat} {a4 : Nat} {a5 : Nat} {a6 : Int32} {a7 : Int32} {a8 : Int32} (E : Ent Z X mX0_setDifference 0 0) (ha0 : SH a0 = .inl 0) (ha4 : SH a4 = .inl 0) (ha5 : SH a5 = .inl 0) (s1_ : vp_in a8 24) (s2_ : vp_in a8 24)
    (kt : 0 ≤ (((μ (a4 + 1) (ix a8)) - (μ (a5 + 1) (ix a8))) - a7) → JS Z X 94 [(0, .ref (Z.2.2.1 + a0)), (4, .ref (Z.2.2.1 + a4)), (5, .ref (Z.2.2.1 + a5)), (6, .int a6), (8, .int a8), (9, .int (((μ (a4 + 1) (ix a8)) - (μ (a5 + 1) (ix a8))) - a7))] [] μ) (kf : ¬ (0 ≤ (((μ (a4 + 1) (ix a8)) - (μ (a5 + 1) (ix a8))) - a7)) → JS Z X 90 [(0, .ref (Z.2.2.1 + a0)), (4, .ref (Z.2.2.1 + a4)), (5, .ref (Z.2.2.1 + a5)), (6, .int a6), (8, .int a8), (9, .int (((μ (a4 + 1) (ix a8)) - (μ (a5 + 1) (ix a8))) - a7))] [] μ) :
    JS Z X 63 [(0, .ref (Z.2.2.1 + a0)), (4, .ref (Z.2.2.1 + a4)), (5, .ref (Z.2.2.1 + a5)), (6, .int a6), (7, .int a7), (8, .int a8)] [] μ := by
  refine J_aload E dX0_setDifference_63 rfl ?_
  refine S_get (ci := 0) (q := 0) (v := .ref (Z.2.2.1 + (a4 + 1))) E dX0_setDifference_65 fs_X0_9 ha4 rfl ?_
  refine J_iload E dX0_setDifference_68 rfl ?_
  refine S_iald E dX0_setDifference_70 (shr_X0_0 ha4) s1_ ?_
  refine J_aload E dX0_setDifference_71 rfl ?_
  refine S_get (ci := 0) (q := 0) (v := .ref (Z.2.2.1 + (a5 + 1))) E dX0_setDifference_73 fs_X0_9 ha5 rfl ?_
  refine J_iload E dX0_setDifference_76 rfl ?_
  refine S_iald E dX0_setDifference_78 (shr_X0_0 ha5) s2_ ?_
  refine J_isub E dX0_setDifference_79 ?_
  refine J_iload E dX0_setDifference_80 rfl ?_
  refine J_isub E dX0_setDifference_82 ?_
  refine J_istore (lv' := [(0, .ref (Z.2.2.1 + a0)), (4, .ref (Z.2.2.1 + a4)), (5, .ref (Z.2.2.1 + a5)), (6, .int a6), (7, .int a7), (8, .int a8), (9, .int (((μ (a4 + 1) (ix a8)) - (μ (a5 + 1) (ix a8))) - a7))]) E dX0_setDifference_83 (Nat.le_of_ble_eq_true rfl) rfl ?_
  refine J_iload E dX0_setDifference_85 rfl ?_
  refine J_if_ge (tgt := 94) E dX0_setDifference_87 (by decide) (fun c => ?_) (fun c => ?_)
  · refine J.weak [0, 1, 2, 3, 5, 6] rfl ?_
    exact kt c
  · refine J.weak [0, 1, 2, 3, 5, 6] rfl ?_
    exact kf c
theorem bX0_setDifference_90 {Z : ZT} {X : XT} {μ : Mu} {a0 : Nat} {a4 : Nat} {a5 : Nat} {a6 : Int32} {a8 : Int32} {a9 : Int32} (E : Ent Z X mX0_setDifference 0 0) (ha0 : SH a0 = .inl 0) (ha4 : SH a4 = .inl 0) (ha5 : SH a5 = .inl 0) 
    (k : JS Z X 95 [(0, .ref (Z.2.2.1 + a0)), (4, .ref (Z.2.2.1 + a4)), (5, .ref (Z.2.2.1 + a5)), (6, .int a6), (8, .int a8), (9, .int a9)] [.int (nI 1)] μ) :
    JS Z X 90 [(0, .ref (Z.2.2.1 + a0)), (4, .ref (Z.2.2.1 + a4)), (5, .ref (Z.2.2.1 + a5)), (6, .int a6), (8, .int a8), (9, .int a9)] [] μ := by
  refine J_iconst (v := nI 1) E dX0_setDifference_90 rfl ?_
  refine J_goto (tgt := 95) E dX0_setDifference_91 (by decide) ?_
  exact k
theorem bX0_setDifference_94 {Z : ZT} {X : XT} {μ : Mu} {a0 : Nat} {a4 : Nat} {a5 : Nat} {a6 : Int32} {a8 : Int32} {a9 : Int32} (E : Ent Z X mX0_setDifference 0 0) (ha0 : SH a0 = .inl 0) (ha4 : SH a4 = .inl 0) (ha5 : SH a5 = .inl 0) 
    (k : JS Z X 95 [(0, .ref (Z.2.2.1 + a0)), (4, .ref (Z.2.2.1 + a4)), (5, .ref (Z.2.2.1 + a5)), (6, .int a6), (8, .int a8), (9, .int a9)] [.int (nI 0)] μ) :
    JS Z X 94 [(0, .ref (Z.2.2.1 + a0)), (4, .ref (Z.2.2.1 + a4)), (5, .ref (Z.2.2.1 + a5)), (6, .int a6), (8, .int a8), (9, .int a9)] [] μ := by
  refine J_iconst (v := nI 0) E dX0_setDifference_94 rfl ?_
  exact k
theorem bX0_setDifference_95 {Z : ZT} {X : XT} {μ : Mu} {a0 : Nat} {a4 : Nat} {a5 : Nat} {a6 : Int32} {a8 : Int32} {a9 : Int32} {s0 : Int32} (E : Ent Z X mX0_setDifference 0 0) (ha0 : SH a0 = .inl 0) (ha4 : SH a4 = .inl 0) (ha5 : SH a5 = .inl 0) (s1_ : vp_in a8 24)
    (k : JS Z X 109 [(0, .ref (Z.2.2.1 + a0)), (4, .ref (Z.2.2.1 + a4)), (5, .ref (Z.2.2.1 + a5)), (6, .int a6), (7, .int s0), (8, .int a8)] [] (uR μ (a0 + 1) (upd (μ (a0 + 1)) (ix a8) (a9 &&& (nI 1073741823))))) :
    JS Z X 95 [(0, .ref (Z.2.2.1 + a0)), (4, .ref (Z.2.2.1 + a4)), (5, .ref (Z.2.2.1 + a5)), (6, .int a6), (8, .int a8), (9, .int a9)] [.int s0] μ := by
  refine J_istore (lv' := [(0, .ref (Z.2.2.1 + a0)), (4, .ref (Z.2.2.1 + a4)), (5, .ref (Z.2.2.1 + a5)), (6, .int a6), (7, .int s0), (8, .int a8), (9, .int a9)]) E dX0_setDifference_95 (Nat.le_of_ble_eq_true rfl) rfl ?_
  refine J_aload_n E dX0_setDifference_97 rfl ?_
  refine S_get (ci := 0) (q := 0) (v := .ref (Z.2.2.1 + (a0 + 1))) E dX0_setDifference_98 fs_X0_9 ha0 rfl ?_
  refine J_iload E dX0_setDifference_101 rfl ?_
  refine J_iload E dX0_setDifference_103 rfl ?_
  refine J_ldc (v := nI 1073741823) E dX0_setDifference_105 w2_183 ?_
  refine J_iand E dX0_setDifference_107 ?_
  refine S_iast E dX0_setDifference_108 (shr_X0_0 ha0) s1_ ?_
  refine J.weak [0, 1, 2, 3, 4, 5] rfl ?_
  exact k
theorem bX0_setDifference_109 {Z : ZT} {X : XT} {μ : Mu} {a0 : Nat} {a4 : Nat} {a5 : Nat} {a6 : Int32} {a7 : Int32} {a8 : Int32} (E : Ent Z X mX0_setDifference 0 0) (ha0 : SH a0 = .inl 0) (ha4 : SH a4 = .inl 0) (ha5 : SH a5 = .inl 0) 
    (k : JS Z X 56 [(0, .ref (Z.2.2.1 + a0)), (4, .ref (Z.2.2.1 + a4)), (5, .ref (Z.2.2.1 + a5)), (6, .int a6), (7, .int a7), (8, .int (a8 + nI 1))] [] μ) :
    JS Z X 109 [(0, .ref (Z.2.2.1 + a0)), (4, .ref (Z.2.2.1 + a4)), (5, .ref (Z.2.2.1 + a5)), (6, .int a6), (7, .int a7), (8, .int a8)] [] μ := by
  refine J_iinc (v := a8 + nI 1) (lv' := [(0, .ref (Z.2.2.1 + a0)), (4, .ref (Z.2.2.1 + a4)), (5, .ref (Z.2.2.1 + a5)), (6, .int a6), (7, .int a7), (8, .int (a8 + nI 1))]) E dX0_setDifference_109 rfl rfl (Nat.le_of_ble_eq_true rfl) rfl ?_
  refine J_goto (tgt := 56) E dX0_setDifference_112 (by decide) ?_
  exact k
theorem bX0_setDifference_115 {Z : ZT} {X : XT} {μ : Mu} {a0 : Nat} {a6 : Int32} (E : Ent Z X mX0_setDifference 0 0) (ha0 : SH a0 = .inl 0) {p : Mu → Prop} 
    (c : CtrS Z mX0_trim [.ref (Z.2.2.1 + a0), .int a6] μ (rV p)) (k : ∀ μ1, p μ1 → JS Z X 121 [] [] μ1) :
    JS Z X 115 [(0, .ref (Z.2.2.1 + a0)), (6, .int a6)] [] μ := by
  refine J_aload_n E dX0_setDifference_115 rfl ?_
  refine J_iload E dX0_setDifference_116 rfl ?_
  refine S_callV (As := [.int a6]) (rest := []) E dX0_setDifference_118 c kX0_trim ⟨Nat.le_of_ble_eq_true rfl, Nat.le_of_ble_eq_true rfl⟩ rfl (Nat.le_of_ble_eq_true rfl) ha0 rfl rfl w2_184 w2_186 wp_0 (fun r_ μ1 hp_ => ?_)
  obtain ⟨rfl, hp_⟩ := hp_
  refine J.weak [] rfl ?_
  exact k μ1 hp_
theorem bX0_setDifference_121 {Z : ZT} {X : XT} {μ : Mu} (E : Ent Z X mX0_setDifference 0 0) {P : Option Value → Mu → Prop} (hB : BodS Z X P) 
    (k : P none μ) :
    JS Z X 121 [] [] μ := by
  exact S_vret E hB dX0_setDifference_121 rfl k
theorem dX0_compare_0 : decode cX0_compare 0 = .ok (.aload_n 0, 1) := by decide +kernel
theorem dX0_compare_1 : decode cX0_compare 1 = .ok (.getfield 13, 3) := by decide +kernel
theorem dX0_compare_4 : decode cX0_compare 4 = .ok (.aload_n 1, 1) := by decide +kernel
theorem dX0_compare_5 : decode cX0_compare 5 = .ok (.getfield 13, 3) := by decide +kernel
theorem dX0_compare_8 : decode cX0_compare 8 = .ok (.invokestatic 22, 3) := by decide +kernel
theorem dX0_compare_11 : decode cX0_compare 11 = .ok (.iconst 1, 1) := by decide +kernel
theorem dX0_compare_12 : decode cX0_compare 12 = .ok (.isub, 1) := by decide +kernel
theorem dX0_compare_13 : decode cX0_compare 13 = .ok (.istore_n 2, 1) := by decide +kernel
theorem dX0_compare_14 : decode cX0_compare 14 = .ok (.iload_n 2, 1) := by decide +kernel
theorem dX0_compare_15 : decode cX0_compare 15 = .ok (.ifCond .lt 45, 3) := by decide +kernel
theorem dX0_compare_18 : decode cX0_compare 18 = .ok (.aload_n 0, 1) := by decide +kernel
theorem dX0_compare_19 : decode cX0_compare 19 = .ok (.getfield 9, 3) := by decide +kernel
theorem dX0_compare_22 : decode cX0_compare 22 = .ok (.iload_n 2, 1) := by decide +kernel
theorem dX0_compare_23 : decode cX0_compare 23 = .ok (.iaload, 1) := by decide +kernel
theorem dX0_compare_24 : decode cX0_compare 24 = .ok (.aload_n 1, 1) := by decide +kernel
theorem dX0_compare_25 : decode cX0_compare 25 = .ok (.getfield 9, 3) := by decide +kernel
theorem dX0_compare_28 : decode cX0_compare 28 = .ok (.iload_n 2, 1) := by decide +kernel
theorem dX0_compare_29 : decode cX0_compare 29 = .ok (.iaload, 1) := by decide +kernel
theorem dX0_compare_30 : decode cX0_compare 30 = .ok (.if_icmp .eq 24, 3) := by decide +kernel
theorem dX0_compare_33 : decode cX0_compare 33 = .ok (.aload_n 0, 1) := by decide +kernel
theorem dX0_compare_34 : decode cX0_compare 34 = .ok (.getfield 9, 3) := by decide +kernel
theorem dX0_compare_37 : decode cX0_compare 37 = .ok (.iload_n 2, 1) := by decide +kernel
theorem dX0_compare_38 : decode cX0_compare 38 = .ok (.iaload, 1) := by decide +kernel
theorem dX0_compare_39 : decode cX0_compare 39 = .ok (.aload_n 1, 1) := by decide +kernel
theorem dX0_compare_40 : decode cX0_compare 40 = .ok (.getfield 9, 3) := by decide +kernel
theorem dX0_compare_43 : decode cX0_compare 43 = .ok (.iload_n 2, 1) := by decide +kernel
theorem dX0_compare_44 : decode cX0_compare 44 = .ok (.iaload, 1) := by decide +kernel
theorem dX0_compare_45 : decode cX0_compare 45 = .ok (.if_icmp .ge 7, 3) := by decide +kernel
theorem dX0_compare_48 : decode cX0_compare 48 = .ok (.iconst (-1), 1) := by decide +kernel
theorem dX0_compare_49 : decode cX0_compare 49 = .ok (.goto 4, 3) := by decide +kernel
theorem dX0_compare_52 : decode cX0_compare 52 = .ok (.iconst 1, 1) := by decide +kernel
theorem dX0_compare_53 : decode cX0_compare 53 = .ok (.ireturn, 1) := by decide +kernel
theorem dX0_compare_54 : decode cX0_compare 54 = .ok (.iinc 2 (-1), 3) := by decide +kernel
theorem dX0_compare_57 : decode cX0_compare 57 = .ok (.goto (-43), 3) := by decide +kernel
theorem dX0_compare_60 : decode cX0_compare 60 = .ok (.iconst 0, 1) := by decide +kernel
theorem dX0_compare_61 : decode cX0_compare 61 = .ok (.ireturn, 1) := by decide +kernel
theorem bX0_compare_0 {Z : ZT} {X : XT} {μ : Mu} {a0 : Nat} {a1 : Nat} (E : Ent Z X mX0_compare 0 0) (ha0 : SH a0 = .inl 0) (ha1 : SH a1 = .inl 0) 
    (k : JS Z X 14 [(0, .ref (Z.2.2.1 + a0)), (1, .ref (Z.2.2.1 + a1)), (2, .int ((if (μ a0 1) < (μ a1 1) then (μ a1 1) else (μ a0 1)) - (nI 1)))] [] μ) :
    JS Z X 0 [(0, .ref (Z.2.2.1 + a0)), (1, .ref (Z.2.2.1 + a1))] [] μ := by
  refine J_aload_n E dX0_compare_0 rfl ?_
  refine S_get (ci := 0) (q := 1) (v := .int (μ a0 1)) E dX0_compare_1 fs_X0_13 ha0 rfl ?_
  refine J_aload_n E dX0_compare_4 rfl ?_
  refine S_get (ci := 0) (q := 1) (v := .int (μ a1 1)) E dX0_compare_5 fs_X0_13 ha1 rfl ?_
  refine J_mmax E dX0_compare_8 w4_130 w4_131 w1_13 w4_132 (Nat.le_of_ble_eq_true rfl) (Nat.le_of_ble_eq_true rfl) (Nat.le_refl 0) (Nat.le_refl 0) ?_
  refine J_iconst (v := nI 1) E dX0_compare_11 rfl ?_
  refine J_isub E dX0_compare_12 ?_
  refine J_istore_n (lv' := [(0, .ref (Z.2.2.1 + a0)), (1, .ref (Z.2.2.1 + a1)), (2, .int ((if (μ a0 1) < (μ a1 1) then (μ a1 1) else (μ a0 1)) - (nI 1)))]) E dX0_compare_13 (Nat.le_of_ble_eq_true rfl) rfl ?_
  exact k
theorem bX0_compare_14 {Z : ZT} {X : XT} {μ : Mu} {a0 : Nat} {a1 : Nat} {a2 : Int32} (E : Ent Z X mX0_compare 0 0) (ha0 : SH a0 = .inl 0) (ha1 : SH a1 = .inl 0) 
    (kt : a2 < 0 → JS Z X 60 [] [] μ) (kf : ¬ (a2 < 0) → JS Z X 18 [(0, .ref (Z.2.2.1 + a0)), (1, .ref (Z.2.2.1 + a1)), (2, .int a2)] [] μ) :
    JS Z X 14 [(0, .ref (Z.2.2.1 + a0)), (1, .ref (Z.2.2.1 + a1)), (2, .int a2)] [] μ := by
  refine J_iload_n E dX0_compare_14 rfl ?_
  refine J_if_lt (tgt := 60) E dX0_compare_15 (by decide) (fun c => ?_) (fun c => ?_)
  · refine J.weak [] rfl ?_
    exact kt c
  · exact kf c
theorem bX0_compare_18 {Z : ZT} {X : XT} {μ : Mu} {a0 : Nat} {a1 : Nat} {a2 : Int32} (E : Ent Z X mX0_compare 0 0) (ha0 : SH a0 = .inl 0) (ha1 : SH a1 = .inl 0) (s1_ : vp_in a2 24) (s2_ : vp_in a2 24)
    (kt : (μ (a0 + 1) (ix a2)) = (μ (a1 + 1) (ix a2)) → JS Z X 54 [(0, .ref (Z.2.2.1 + a0)), (1, .ref (Z.2.2.1 + a1)), (2, .int a2)] [] μ) (kf : ¬ ((μ (a0 + 1) (ix a2)) = (μ (a1 + 1) (ix a2))) → JS Z X 33 [(0, .ref (Z.2.2.1 + a0)), (1, .ref (Z.2.2.1 + a1)), (2, .int a2)] [] μ) :
    JS Z X 18 [(0, .ref (Z.2.2.1 + a0)), (1, .ref (Z.2.2.1 + a1)), (2, .int a2)] [] μ := by
  refine J_aload_n E dX0_compare_18 rfl ?_
  refine S_get (ci := 0) (q := 0) (v := .ref (Z.2.2.1 + (a0 + 1))) E dX0_compare_19 fs_X0_9 ha0 rfl ?_
  refine J_iload_n E dX0_compare_22 rfl ?_
  refine S_iald E dX0_compare_23 (shr_X0_0 ha0) s1_ ?_
  refine J_aload_n E dX0_compare_24 rfl ?_
  refine S_get (ci := 0) (q := 0) (v := .ref (Z.2.2.1 + (a1 + 1))) E dX0_compare_25 fs_X0_9 ha1 rfl ?_
  refine J_iload_n E dX0_compare_28 rfl ?_
  refine S_iald E dX0_compare_29 (shr_X0_0 ha1) s2_ ?_
  refine J_icmp_eq (tgt := 54) E dX0_compare_30 (by decide) (fun c => ?_) (fun c => ?_)
  · exact kt c
  · exact kf c
theorem bX0_compare_33 {Z : ZT} {X : XT} {μ : Mu} {a0 : Nat} {a1 : Nat} {a2 : Int32} (E : Ent Z X mX0_compare 0 0) (ha0 : SH a0 = .inl 0) (ha1 : SH a1 = .inl 0) (s1_ : vp_in a2 24) (s2_ : vp_in a2 24)
    (kt : (μ (a1 + 1) (ix a2)) ≤ (μ (a0 + 1) (ix a2)) → JS Z X 52 [] [] μ) (kf : ¬ ((μ (a1 + 1) (ix a2)) ≤ (μ (a0 + 1) (ix a2))) → JS Z X 48 [] [] μ) :
    JS Z X 33 [(0, .ref (Z.2.2.1 + a0)), (1, .ref (Z.2.2.1 + a1)), (2, .int a2)] [] μ := by
  refine J_aload_n E dX0_compare_33 rfl ?_
  refine S_get (ci := 0) (q := 0) (v := .ref (Z.2.2.1 + (a0 + 1))) E dX0_compare_34 fs_X0_9 ha0 rfl ?_
  refine J_iload_n E dX0_compare_37 rfl ?_
  refine S_iald E dX0_compare_38 (shr_X0_0 ha0) s1_ ?_
  refine J_aload_n E dX0_compare_39 rfl ?_
  refine S_get (ci := 0) (q := 0) (v := .ref (Z.2.2.1 + (a1 + 1))) E dX0_compare_40 fs_X0_9 ha1 rfl ?_
  refine J_iload_n E dX0_compare_43 rfl ?_
  refine S_iald E dX0_compare_44 (shr_X0_0 ha1) s2_ ?_
  refine J_icmp_ge (tgt := 52) E dX0_compare_45 (by decide) (fun c => ?_) (fun c => ?_)
  · refine J.weak [] rfl ?_
    exact kt c
  · refine J.weak [] rfl ?_
    exact kf c
theorem bX0_compare_48 {Z : ZT} {X : XT} {μ : Mu} (E : Ent Z X mX0_compare 0 0)  
    (k : JS Z X 53 [] [.int (-1)] μ) :
    JS Z X 48 [] [] μ := by
  refine J_iconst (v := -1) E dX0_compare_48 rfl ?_
  refine J_goto (tgt := 53) E dX0_compare_49 (by decide) ?_
  exact k
theorem bX0_compare_52 {Z : ZT} {X : XT} {μ : Mu} (E : Ent Z X mX0_compare 0 0)  
    (k : JS Z X 53 [] [.int (nI 1)] μ) :
    JS Z X 52 [] [] μ := by
  refine J_iconst (v := nI 1) E dX0_compare_52 rfl ?_
  exact k
theorem bX0_compare_53 {Z : ZT} {X : XT} {μ : Mu} {s0 : Int32} (E : Ent Z X mX0_compare 0 0) {P : Option Value → Mu → Prop} (hB : BodS Z X P) 
    (k : P (some (.int s0)) μ) :
    JS Z X 53 [] [.int s0] μ := by
  exact S_iret E hB dX0_compare_53 rfl k
theorem bX0_compare_54 {Z : ZT} {X : XT} {μ : Mu} {a0 : Nat} {a1 : Nat} {a2 : Int32} (E : Ent Z X mX0_compare 0 0) (ha0 : SH a0 = .inl 0) (ha1 : SH a1 = .inl 0) 
    (k : JS Z X 14 [(0, .ref (Z.2.2.1 + a0)), (1, .ref (Z.2.2.1 + a1)), (2, .int (a2 + (-1)))] [] μ) :
    JS Z X 54 [(0, .ref (Z.2.2.1 + a0)), (1, .ref (Z.2.2.1 + a1)), (2, .int a2)] [] μ := by
  refine J_iinc (v := a2 + (-1)) (lv' := [(0, .ref (Z.2.2.1 + a0)), (1, .ref (Z.2.2.1 + a1)), (2, .int (a2 + (-1)))]) E dX0_compare_54 rfl rfl (Nat.le_of_ble_eq_true rfl) rfl ?_
  refine J_goto (tgt := 14) E dX0_compare_57 (by decide) ?_
  exact k
theorem bX0_compare_60 {Z : ZT} {X : XT} {μ : Mu} (E : Ent Z X mX0_compare 0 0) {P : Option Value → Mu → Prop} (hB : BodS Z X P) 
    (k : P (some (.int (nI 0))) μ) :
    JS Z X 60 [] [] μ := by
  refine J_iconst (v := nI 0) E dX0_compare_60 rfl ?_
  exact S_iret E hB dX0_compare_61 rfl k
theorem dX0_rest_0 : decode cX0_rest 0 = .ok (.lconst 0, 1) := by decide +kernel
theorem dX0_rest_1 : decode cX0_rest 1 = .ok (.lstore_n 2, 1) := by decide +kernel
theorem dX0_rest_2 : decode cX0_rest 2 = .ok (.aload_n 0, 1) := by decide +kernel
theorem dX0_rest_3 : decode cX0_rest 3 = .ok (.getfield 13, 3) := by decide +kernel
theorem dX0_rest_6 : decode cX0_rest 6 = .ok (.iconst 1, 1) := by decide +kernel
theorem dX0_rest_7 : decode cX0_rest 7 = .ok (.isub, 1) := by decide +kernel
theorem dX0_rest_8 : decode cX0_rest 8 = .ok (.istore 4, 2) := by decide +kernel
theorem dX0_rest_10 : decode cX0_rest 10 = .ok (.iload 4, 2) := by decide +kernel
theorem dX0_rest_12 : decode cX0_rest 12 = .ok (.ifCond .lt 30, 3) := by decide +kernel
theorem dX0_rest_15 : decode cX0_rest 15 = .ok (.iload_n 1, 1) := by decide +kernel
theorem dX0_rest_16 : decode cX0_rest 16 = .ok (.ifCond .le 26, 3) := by decide +kernel
theorem dX0_rest_19 : decode cX0_rest 19 = .ok (.lload_n 2, 1) := by decide +kernel
theorem dX0_rest_20 : decode cX0_rest 20 = .ok (.bipush 30, 2) := by decide +kernel
theorem dX0_rest_22 : decode cX0_rest 22 = .ok (.lshl, 1) := by decide +kernel
theorem dX0_rest_23 : decode cX0_rest 23 = .ok (.aload_n 0, 1) := by decide +kernel
theorem dX0_rest_24 : decode cX0_rest 24 = .ok (.getfield 9, 3) := by decide +kernel
theorem dX0_rest_27 : decode cX0_rest 27 = .ok (.iload 4, 2) := by decide +kernel
theorem dX0_rest_29 : decode cX0_rest 29 = .ok (.iaload, 1) := by decide +kernel
theorem dX0_rest_30 : decode cX0_rest 30 = .ok (.i2l, 1) := by decide +kernel
theorem dX0_rest_31 : decode cX0_rest 31 = .ok (.lor, 1) := by decide +kernel
theorem dX0_rest_32 : decode cX0_rest 32 = .ok (.iload_n 1, 1) := by decide +kernel
theorem dX0_rest_33 : decode cX0_rest 33 = .ok (.i2l, 1) := by decide +kernel
theorem dX0_rest_34 : decode cX0_rest 34 = .ok (.lrem, 1) := by decide +kernel
theorem dX0_rest_35 : decode cX0_rest 35 = .ok (.lstore_n 2, 1) := by decide +kernel
theorem dX0_rest_36 : decode cX0_rest 36 = .ok (.iinc 4 (-1), 3) := by decide +kernel
theorem dX0_rest_39 : decode cX0_rest 39 = .ok (.goto (-29), 3) := by decide +kernel
theorem dX0_rest_42 : decode cX0_rest 42 = .ok (.lload_n 2, 1) := by decide +kernel
theorem dX0_rest_43 : decode cX0_rest 43 = .ok (.l2i, 1) := by decide +kernel
theorem dX0_rest_44 : decode cX0_rest 44 = .ok (.ireturn, 1) := by decide +kernel
theorem bX0_rest_0 {Z : ZT} {X : XT} {μ : Mu} {a0 : Nat} {a1 : Int32} (E : Ent Z X mX0_rest 0 0) (ha0 : SH a0 = .inl 0) 
    (k : JS Z X 10 [(0, .ref (Z.2.2.1 + a0)), (1, .int a1), (2, .long (lN 0)), (4, .int ((μ a0 1) - (nI 1)))] [] μ) :
    JS Z X 0 [(0, .ref (Z.2.2.1 + a0)), (1, .int a1)] [] μ := by
  refine J_lconst (v := lN 0) E dX0_rest_0 rfl ?_
  refine J_lstore_n (lv' := [(0, .ref (Z.2.2.1 + a0)), (1, .int a1), (2, .long (lN 0))]) E dX0_rest_1 (Nat.le_of_ble_eq_true rfl) rfl ?_
  refine J_aload_n E dX0_rest_2 rfl ?_
  refine S_get (ci := 0) (q := 1) (v := .int (μ a0 1)) E dX0_rest_3 fs_X0_13 ha0 rfl ?_
  refine J_iconst (v := nI 1) E dX0_rest_6 rfl ?_
  refine J_isub E dX0_rest_7 ?_
  refine J_istore (lv' := [(0, .ref (Z.2.2.1 + a0)), (1, .int a1), (2, .long (lN 0)), (4, .int ((μ a0 1) - (nI 1)))]) E dX0_rest_8 (Nat.le_of_ble_eq_true rfl) rfl ?_
  exact k
theorem bX0_rest_10 {Z : ZT} {X : XT} {μ : Mu} {a0 : Nat} {a1 : Int32} {a2 : Int64} {a4 : Int32} (E : Ent Z X mX0_rest 0 0) (ha0 : SH a0 = .inl 0) 
    (kt : a4 < 0 → JS Z X 42 [(2, .long a2)] [] μ) (kf : ¬ (a4 < 0) → JS Z X 15 [(0, .ref (Z.2.2.1 + a0)), (1, .int a1), (2, .long a2), (4, .int a4)] [] μ) :
    JS Z X 10 [(0, .ref (Z.2.2.1 + a0)), (1, .int a1), (2, .long a2), (4, .int a4)] [] μ := by
  refine J_iload E dX0_rest_10 rfl ?_
  refine J_if_lt (tgt := 42) E dX0_rest_12 (by decide) (fun c => ?_) (fun c => ?_)
  · refine J.weak [2] rfl ?_
    exact kt c
  · exact kf c
theorem bX0_rest_15 {Z : ZT} {X : XT} {μ : Mu} {a0 : Nat} {a1 : Int32} {a2 : Int64} {a4 : Int32} (E : Ent Z X mX0_rest 0 0) (ha0 : SH a0 = .inl 0) 
    (kt : a1 ≤ 0 → JS Z X 42 [(2, .long a2)] [] μ) (kf : ¬ (a1 ≤ 0) → JS Z X 19 [(0, .ref (Z.2.2.1 + a0)), (1, .int a1), (2, .long a2), (4, .int a4)] [] μ) :
    JS Z X 15 [(0, .ref (Z.2.2.1 + a0)), (1, .int a1), (2, .long a2), (4, .int a4)] [] μ := by
  refine J_iload_n E dX0_rest_15 rfl ?_
  refine J_if_le (tgt := 42) E dX0_rest_16 (by decide) (fun c => ?_) (fun c => ?_)
  · refine J.weak [2] rfl ?_
    exact kt c
  · exact kf c
theorem bX0_rest_19 {Z : ZT} {X : XT} {μ : Mu} {a0 : Nat} {a1 : Int32} {a2 : Int64} {a4 : Int32} (E : Ent Z X mX0_rest 0 0) (ha0 : SH a0 = .inl 0) (s1_ : vp_in a4 24) (s2_ : ¬ a1.toInt64 = 0)
    (k : JS Z X 10 [(0, .ref (Z.2.2.1 + a0)), (1, .int a1), (2, .long (((a2 <<< ((nI 30).toInt64 &&& 63)) ||| ((μ (a0 + 1) (ix a4)).toInt64)) - ((a2 <<< ((nI 30).toInt64 &&& 63)) ||| ((μ (a0 + 1) (ix a4)).toInt64)) / a1.toInt64 * a1.toInt64)), (4, .int (a4 + (-1)))] [] μ) :
    JS Z X 19 [(0, .ref (Z.2.2.1 + a0)), (1, .int a1), (2, .long a2), (4, .int a4)] [] μ := by
  refine J_lload_n E dX0_rest_19 rfl ?_
  refine J_bipush (v := nI 30) E dX0_rest_20 rfl ?_
  refine J_lshl E dX0_rest_22 ?_
  refine J_aload_n E dX0_rest_23 rfl ?_
  refine S_get (ci := 0) (q := 0) (v := .ref (Z.2.2.1 + (a0 + 1))) E dX0_rest_24 fs_X0_9 ha0 rfl ?_
  refine J_iload E dX0_rest_27 rfl ?_
  refine S_iald E dX0_rest_29 (shr_X0_0 ha0) s1_ ?_
  refine J_i2l E dX0_rest_30 ?_
  refine J_lor E dX0_rest_31 ?_
  refine J_iload_n E dX0_rest_32 rfl ?_
  refine J_i2l E dX0_rest_33 ?_
  refine J_lrem E dX0_rest_34 s2_ ?_
  refine J_lstore_n (lv' := [(0, .ref (Z.2.2.1 + a0)), (1, .int a1), (2, .long (((a2 <<< ((nI 30).toInt64 &&& 63)) ||| ((μ (a0 + 1) (ix a4)).toInt64)) - ((a2 <<< ((nI 30).toInt64 &&& 63)) ||| ((μ (a0 + 1) (ix a4)).toInt64)) / a1.toInt64 * a1.toInt64)), (4, .int a4)]) E dX0_rest_35 (Nat.le_of_ble_eq_true rfl) rfl ?_
  refine J_iinc (v := a4 + (-1)) (lv' := [(0, .ref (Z.2.2.1 + a0)), (1, .int a1), (2, .long (((a2 <<< ((nI 30).toInt64 &&& 63)) ||| ((μ (a0 + 1) (ix a4)).toInt64)) - ((a2 <<< ((nI 30).toInt64 &&& 63)) ||| ((μ (a0 + 1) (ix a4)).toInt64)) / a1.toInt64 * a1.toInt64)), (4, .int (a4 + (-1)))]) E dX0_rest_36 rfl rfl (Nat.le_of_ble_eq_true rfl) rfl ?_
  refine J_goto (tgt := 10) E dX0_rest_39 (by decide) ?_
  exact k
theorem bX0_rest_42 {Z : ZT} {X : XT} {μ : Mu} {a2 : Int64} (E : Ent Z X mX0_rest 0 0) {P : Option Value → Mu → Prop} (hB : BodS Z X P) 
    (k : P (some (.int a2.toInt32)) μ) :
    JS Z X 42 [(2, .long a2)] [] μ := by
  refine J_lload_n E dX0_rest_42 rfl ?_
  refine J_l2i E dX0_rest_43 ?_
  exact S_iret E hB dX0_rest_44 rfl k
theorem dX0_divide_0 : decode cX0_divide 0 = .ok (.lconst 0, 1) := by decide +kernel
theorem dX0_divide_1 : decode cX0_divide 1 = .ok (.lstore_n 2, 1) := by decide +kernel
theorem dX0_divide_2 : decode cX0_divide 2 = .ok (.aload_n 0, 1) := by decide +kernel
theorem dX0_divide_3 : decode cX0_divide 3 = .ok (.getfield 13, 3) := by decide +kernel
theorem dX0_divide_6 : decode cX0_divide 6 = .ok (.iconst 1, 1) := by decide +kernel
theorem dX0_divide_7 : decode cX0_divide 7 = .ok (.isub, 1) := by decide +kernel
theorem dX0_divide_8 : decode cX0_divide 8 = .ok (.istore 4, 2) := by decide +kernel
theorem dX0_divide_10 : decode cX0_divide 10 = .ok (.iload 4, 2) := by decide +kernel
theorem dX0_divide_12 : decode cX0_divide 12 = .ok (.ifCond .lt 44, 3) := by decide +kernel
theorem dX0_divide_15 : decode cX0_divide 15 = .ok (.iload_n 1, 1) := by decide +kernel
theorem dX0_divide_16 : decode cX0_divide 16 = .ok (.ifCond .le 40, 3) := by decide +kernel
theorem dX0_divide_19 : decode cX0_divide 19 = .ok (.lload_n 2, 1) := by decide +kernel
theorem dX0_divide_20 : decode cX0_divide 20 = .ok (.bipush 30, 2) := by decide +kernel
theorem dX0_divide_22 : decode cX0_divide 22 = .ok (.lshl, 1) := by decide +kernel
theorem dX0_divide_23 : decode cX0_divide 23 = .ok (.aload_n 0, 1) := by decide +kernel
theorem dX0_divide_24 : decode cX0_divide 24 = .ok (.getfield 9, 3) := by decide +kernel
theorem dX0_divide_27 : decode cX0_divide 27 = .ok (.iload 4, 2) := by decide +kernel
theorem dX0_divide_29 : decode cX0_divide 29 = .ok (.iaload, 1) := by decide +kernel
theorem dX0_divide_30 : decode cX0_divide 30 = .ok (.i2l, 1) := by decide +kernel
theorem dX0_divide_31 : decode cX0_divide 31 = .ok (.lor, 1) := by decide +kernel
theorem dX0_divide_32 : decode cX0_divide 32 = .ok (.lstore_n 2, 1) := by decide +kernel
theorem dX0_divide_33 : decode cX0_divide 33 = .ok (.aload_n 0, 1) := by decide +kernel
theorem dX0_divide_34 : decode cX0_divide 34 = .ok (.getfield 9, 3) := by decide +kernel
theorem dX0_divide_37 : decode cX0_divide 37 = .ok (.iload 4, 2) := by decide +kernel
theorem dX0_divide_39 : decode cX0_divide 39 = .ok (.lload_n 2, 1) := by decide +kernel
theorem dX0_divide_40 : decode cX0_divide 40 = .ok (.iload_n 1, 1) := by decide +kernel
theorem dX0_divide_41 : decode cX0_divide 41 = .ok (.i2l, 1) := by decide +kernel
theorem dX0_divide_42 : decode cX0_divide 42 = .ok (.ldiv, 1) := by decide +kernel
theorem dX0_divide_43 : decode cX0_divide 43 = .ok (.l2i, 1) := by decide +kernel
theorem dX0_divide_44 : decode cX0_divide 44 = .ok (.iastore, 1) := by decide +kernel
theorem dX0_divide_45 : decode cX0_divide 45 = .ok (.lload_n 2, 1) := by decide +kernel
theorem dX0_divide_46 : decode cX0_divide 46 = .ok (.iload_n 1, 1) := by decide +kernel
theorem dX0_divide_47 : decode cX0_divide 47 = .ok (.i2l, 1) := by decide +kernel
theorem dX0_divide_48 : decode cX0_divide 48 = .ok (.lrem, 1) := by decide +kernel
theorem dX0_divide_49 : decode cX0_divide 49 = .ok (.lstore_n 2, 1) := by decide +kernel
theorem dX0_divide_50 : decode cX0_divide 50 = .ok (.iinc 4 (-1), 3) := by decide +kernel
theorem dX0_divide_53 : decode cX0_divide 53 = .ok (.goto (-43), 3) := by decide +kernel
theorem dX0_divide_56 : decode cX0_divide 56 = .ok (.aload_n 0, 1) := by decide +kernel
theorem dX0_divide_57 : decode cX0_divide 57 = .ok (.aload_n 0, 1) := by decide +kernel
theorem dX0_divide_58 : decode cX0_divide 58 = .ok (.getfield 13, 3) := by decide +kernel
theorem dX0_divide_61 : decode cX0_divide 61 = .ok (.invokevirtual 18, 3) := by decide +kernel
theorem dX0_divide_64 : decode cX0_divide 64 = .ok (.return_, 1) := by decide +kernel
theorem bX0_divide_0 {Z : ZT} {X : XT} {μ : Mu} {a0 : Nat} {a1 : Int32} (E : Ent Z X mX0_divide 0 0) (ha0 : SH a0 = .inl 0) 
    (k : JS Z X 10 [(0, .ref (Z.2.2.1 + a0)), (1, .int a1), (2, .long (lN 0)), (4, .int ((μ a0 1) - (nI 1)))] [] μ) :
    JS Z X 0 [(0, .ref (Z.2.2.1 + a0)), (1, .int a1)] [] μ := by
  refine J_lconst (v := lN 0) E dX0_divide_0 rfl ?_
  refine J_lstore_n (lv' := [(0, .ref (Z.2.2.1 + a0)), (1, .int a1), (2, .long (lN 0))]) E dX0_divide_1 (Nat.le_of_ble_eq_true rfl) rfl ?_
  refine J_aload_n E dX0_divide_2 rfl ?_
  refine S_get (ci := 0) (q := 1) (v := .int (μ a0 1)) E dX0_divide_3 fs_X0_13 ha0 rfl ?_
  refine J_iconst (v := nI 1) E dX0_divide_6 rfl ?_
  refine J_isub E dX0_divide_7 ?_
  refine J_istore (lv' := [(0, .ref (Z.2.2.1 + a0)), (1, .int a1), (2, .long (lN 0)), (4, .int ((μ a0 1) - (nI 1)))]) E dX0_divide_8 (Nat.le_of_ble_eq_true rfl) rfl ?_
  exact k
theorem bX0_divide_10 {Z : ZT} {X : XT} {μ : Mu} {a0 : Nat} {a1 : Int32} {a2 : Int64} {a4 : Int32} (E : Ent Z X mX0_divide 0 0) (ha0 : SH a0 = .inl 0) 
    (kt : a4 < 0 → JS Z X 56 [(0, .ref (Z.2.2.1 + a0))] [] μ) (kf : ¬ (a4 < 0) → JS Z X 15 [(0, .ref (Z.2.2.1 + a0)), (1, .int a1), (2, .long a2), (4, .int a4)] [] μ) :
    JS Z X 10 [(0, .ref (Z.2.2.1 + a0)), (1, .int a1), (2, .long a2), (4, .int a4)] [] μ := by
  refine J_iload E dX0_divide_10 rfl ?_
  refine J_if_lt (tgt := 56) E dX0_divide_12 (by decide) (fun c => ?_) (fun c => ?_)
  · refine J.weak [0] rfl ?_
    exact kt c
  · exact kf c
theorem bX0_divide_15 {Z : ZT} {X : XT} {μ : Mu} {a0 : Nat} {a1 : Int32} {a2 : Int64} {a4 : Int32} (E : Ent Z X mX0_divide 0 0) (ha0 : SH a0 = .inl 0) 
    (kt : a1 ≤ 0 → JS Z X 56 [(0, .ref (Z.2.2.1 + a0))] [] μ) (kf : ¬ (a1 ≤ 0) → JS Z X 19 [(0, .ref (Z.2.2.1 + a0)), (1, .int a1), (2, .long a2), (4, .int a4)] [] μ) :
    JS Z X 15 [(0, .ref (Z.2.2.1 + a0)), (1, .int a1), (2, .long a2), (4, .int a4)] [] μ := by
  refine J_iload_n E dX0_divide_15 rfl ?_
  refine J_if_le (tgt := 56) E dX0_divide_16 (by decide) (fun c => ?_) (fun c => ?_)
  · refine J.weak [0] rfl ?_
    exact kt c
  · exact kf c
theorem bX0_divide_19 {Z : ZT} {X : XT} {μ : Mu} {a0 : Nat} {a1 : Int32} {a2 : Int64} {a4 : Int32} (E : Ent Z X mX0_divide 0 0) (ha0 : SH a0 = .inl 0) (s1_ : vp_in a4 24) (s2_ : ¬ a1.toInt64 = 0) (s3_ : vp_in a4 24)
    (k : JS Z X 45 [(0, .ref (Z.2.2.1 + a0)), (1, .int a1), (2, .long ((a2 <<< ((nI 30).toInt64 &&& 63)) ||| ((μ (a0 + 1) (ix a4)).toInt64))), (4, .int a4)] [] (uR μ (a0 + 1) (upd (μ (a0 + 1)) (ix a4) ((((a2 <<< ((nI 30).toInt64 &&& 63)) ||| ((μ (a0 + 1) (ix a4)).toInt64)) / a1.toInt64).toInt32)))) :
    JS Z X 19 [(0, .ref (Z.2.2.1 + a0)), (1, .int a1), (2, .long a2), (4, .int a4)] [] μ := by
  refine J_lload_n E dX0_divide_19 rfl ?_
  refine J_bipush (v := nI 30) E dX0_divide_20 rfl ?_
  refine J_lshl E dX0_divide_22 ?_
  refine J_aload_n E dX0_divide_23 rfl ?_
  refine S_get (ci := 0) (q := 0) (v := .ref (Z.2.2.1 + (a0 + 1))) E dX0_divide_24 fs_X0_9 ha0 rfl ?_
  refine J_iload E dX0_divide_27 rfl ?_
  refine S_iald E dX0_divide_29 (shr_X0_0 ha0) s1_ ?_
  refine J_i2l E dX0_divide_30 ?_
  refine J_lor E dX0_divide_31 ?_
  refine J_lstore_n (lv' := [(0, .ref (Z.2.2.1 + a0)), (1, .int a1), (2, .long ((a2 <<< ((nI 30).toInt64 &&& 63)) ||| ((μ (a0 + 1) (ix a4)).toInt64))), (4, .int a4)]) E dX0_divide_32 (Nat.le_of_ble_eq_true rfl) rfl ?_
  refine J_aload_n E dX0_divide_33 rfl ?_
  refine S_get (ci := 0) (q := 0) (v := .ref (Z.2.2.1 + (a0 + 1))) E dX0_divide_34 fs_X0_9 ha0 rfl ?_
  refine J_iload E dX0_divide_37 rfl ?_
  refine J_lload_n E dX0_divide_39 rfl ?_
  refine J_iload_n E dX0_divide_40 rfl ?_
  refine J_i2l E dX0_divide_41 ?_
  refine J_ldiv E dX0_divide_42 s2_ ?_
  refine J_l2i E dX0_divide_43 ?_
  refine S_iast E dX0_divide_44 (shr_X0_0 ha0) s3_ ?_
  exact k
theorem bX0_divide_45 {Z : ZT} {X : XT} {μ : Mu} {a0 : Nat} {a1 : Int32} {a2 : Int64} {a4 : Int32} (E : Ent Z X mX0_divide 0 0) (ha0 : SH a0 = .inl 0) (s1_ : ¬ a1.toInt64 = 0)
    (k : JS Z X 10 [(0, .ref (Z.2.2.1 + a0)), (1, .int a1), (2, .long (a2 - a2 / a1.toInt64 * a1.toInt64)), (4, .int (a4 + (-1)))] [] μ) :
    JS Z X 45 [(0, .ref (Z.2.2.1 + a0)), (1, .int a1), (2, .long a2), (4, .int a4)] [] μ := by
  refine J_lload_n E dX0_divide_45 rfl ?_
  refine J_iload_n E dX0_divide_46 rfl ?_
  refine J_i2l E dX0_divide_47 ?_
  refine J_lrem E dX0_divide_48 s1_ ?_
  refine J_lstore_n (lv' := [(0, .ref (Z.2.2.1 + a0)), (1, .int a1), (2, .long (a2 - a2 / a1.toInt64 * a1.toInt64)), (4, .int a4)]) E dX0_divide_49 (Nat.le_of_ble_eq_true rfl) rfl ?_
  refine J_iinc (v := a4 + (-1)) (lv' := [(0, .ref (Z.2.2.1 + a0)), (1, .int a1), (2, .long (a2 - a2 / a1.toInt64 * a1.toInt64)), (4, .int (a4 + (-1)))]) E dX0_divide_50 rfl rfl (Nat.le_of_ble_eq_true rfl) rfl ?_
  refine J_goto (tgt := 10) E dX0_divide_53 (by decide) ?_
  exact k
theorem bX0_divide_56 {Z : ZT} {X : XT} {μ : Mu} {a0 : Nat} (E : Ent Z X mX0_divide 0 0) (ha0 : SH a0 = .inl 0) {p : Mu → Prop} 
    (c : CtrS Z mX0_trim [.ref (Z.2.2.1 + a0), .int (μ a0 1)] μ (rV p)) (k : ∀ μ1, p μ1 → JS Z X 64 [] [] μ1) :
    JS Z X 56 [(0, .ref (Z.2.2.1 + a0))] [] μ := by
  refine J_aload_n E dX0_divide_56 rfl ?_
  refine J_aload_n E dX0_divide_57 rfl ?_
  refine S_get (ci := 0) (q := 1) (v := .int (μ a0 1)) E dX0_divide_58 fs_X0_13 ha0 rfl ?_
  refine S_callV (As := [.int (μ a0 1)]) (rest := []) E dX0_divide_61 c kX0_trim ⟨Nat.le_of_ble_eq_true rfl, Nat.le_of_ble_eq_true rfl⟩ rfl (Nat.le_of_ble_eq_true rfl) ha0 rfl rfl w2_184 w2_186 wp_0 (fun r_ μ1 hp_ => ?_)
  obtain ⟨rfl, hp_⟩ := hp_
  refine J.weak [] rfl ?_
  exact k μ1 hp_
theorem bX0_divide_64 {Z : ZT} {X : XT} {μ : Mu} (E : Ent Z X mX0_divide 0 0) {P : Option Value → Mu → Prop} (hB : BodS Z X P) 
    (k : P none μ) :
    JS Z X 64 [] [] μ := by
  exact S_vret E hB dX0_divide_64 rfl k
theorem dX0_trim_0 : decode cX0_trim 0 = .ok (.aload_n 0, 1) := by decide +kernel
theorem dX0_trim_1 : decode cX0_trim 1 = .ok (.iload_n 1, 1) := by decide +kernel
theorem dX0_trim_2 : decode cX0_trim 2 = .ok (.bipush 24, 2) := by decide +kernel
theorem dX0_trim_4 : decode cX0_trim 4 = .ok (.invokestatic 40, 3) := by decide +kernel
theorem dX0_trim_7 : decode cX0_trim 7 = .ok (.putfield 13, 3) := by decide +kernel
theorem dX0_trim_10 : decode cX0_trim 10 = .ok (.aload_n 0, 1) := by decide +kernel
theorem dX0_trim_11 : decode cX0_trim 11 = .ok (.getfield 13, 3) := by decide +kernel
theorem dX0_trim_14 : decode cX0_trim 14 = .ok (.istore_n 2, 1) := by decide +kernel
theorem dX0_trim_15 : decode cX0_trim 15 = .ok (.iload_n 2, 1) := by decide +kernel
theorem dX0_trim_16 : decode cX0_trim 16 = .ok (.ifCond .le 27, 3) := by decide +kernel
theorem dX0_trim_19 : decode cX0_trim 19 = .ok (.aload_n 0, 1) := by decide +kernel
theorem dX0_trim_20 : decode cX0_trim 20 = .ok (.getfield 9, 3) := by decide +kernel
theorem dX0_trim_23 : decode cX0_trim 23 = .ok (.iload_n 2, 1) := by decide +kernel
theorem dX0_trim_24 : decode cX0_trim 24 = .ok (.iconst 1, 1) := by decide +kernel
theorem dX0_trim_25 : decode cX0_trim 25 = .ok (.isub, 1) := by decide +kernel
theorem dX0_trim_26 : decode cX0_trim 26 = .ok (.iaload, 1) := by decide +kernel
theorem dX0_trim_27 : decode cX0_trim 27 = .ok (.ifCond .ne 16, 3) := by decide +kernel
theorem dX0_trim_30 : decode cX0_trim 30 = .ok (.aload_n 0, 1) := by decide +kernel
theorem dX0_trim_31 : decode cX0_trim 31 = .ok (.iload_n 2, 1) := by decide +kernel
theorem dX0_trim_32 : decode cX0_trim 32 = .ok (.iconst 1, 1) := by decide +kernel
theorem dX0_trim_33 : decode cX0_trim 33 = .ok (.isub, 1) := by decide +kernel
theorem dX0_trim_34 : decode cX0_trim 34 = .ok (.putfield 13, 3) := by decide +kernel
theorem dX0_trim_37 : decode cX0_trim 37 = .ok (.iinc 2 (-1), 3) := by decide +kernel
theorem dX0_trim_40 : decode cX0_trim 40 = .ok (.goto (-25), 3) := by decide +kernel
theorem dX0_trim_43 : decode cX0_trim 43 = .ok (.return_, 1) := by decide +kernel
theorem bX0_trim_0 {Z : ZT} {X : XT} {μ : Mu} {a0 : Nat} {a1 : Int32} (E : Ent Z X mX0_trim 0 0) (ha0 : SH a0 = .inl 0) 
    (k : JS Z X 10 [(0, .ref (Z.2.2.1 + a0))] [] (uR μ a0 (upd (μ a0) 1 (if (nI 24) < a1 then (nI 24) else a1)))) :
    JS Z X 0 [(0, .ref (Z.2.2.1 + a0)), (1, .int a1)] [] μ := by
  refine J_aload_n E dX0_trim_0 rfl ?_
  refine J_iload_n E dX0_trim_1 rfl ?_
  refine J_bipush (v := nI 24) E dX0_trim_2 rfl ?_
  refine J_mmin E dX0_trim_4 w2_188 w2_189 w1_13 w2_190 (Nat.le_of_ble_eq_true rfl) (Nat.le_of_ble_eq_true rfl) (Nat.le_refl 0) (Nat.le_refl 0) ?_
  refine S_puti E dX0_trim_7 fs_X0_13 fp_X0_1 ha0 rfl ?_
  refine J.weak [0] rfl ?_
  exact k
theorem bX0_trim_10 {Z : ZT} {X : XT} {μ : Mu} {a0 : Nat} (E : Ent Z X mX0_trim 0 0) (ha0 : SH a0 = .inl 0) 
    (k : JS Z X 15 [(0, .ref (Z.2.2.1 + a0)), (2, .int (μ a0 1))] [] μ) :
    JS Z X 10 [(0, .ref (Z.2.2.1 + a0))] [] μ := by
  refine J_aload_n E dX0_trim_10 rfl ?_
  refine S_get (ci := 0) (q := 1) (v := .int (μ a0 1)) E dX0_trim_11 fs_X0_13 ha0 rfl ?_
  refine J_istore_n (lv' := [(0, .ref (Z.2.2.1 + a0)), (2, .int (μ a0 1))]) E dX0_trim_14 (Nat.le_of_ble_eq_true rfl) rfl ?_
  exact k
theorem bX0_trim_15 {Z : ZT} {X : XT} {μ : Mu} {a0 : Nat} {a2 : Int32} (E : Ent Z X mX0_trim 0 0) (ha0 : SH a0 = .inl 0) 
    (kt : a2 ≤ 0 → JS Z X 43 [] [] μ) (kf : ¬ (a2 ≤ 0) → JS Z X 19 [(0, .ref (Z.2.2.1 + a0)), (2, .int a2)] [] μ) :
    JS Z X 15 [(0, .ref (Z.2.2.1 + a0)), (2, .int a2)] [] μ := by
  refine J_iload_n E dX0_trim_15 rfl ?_
  refine J_if_le (tgt := 43) E dX0_trim_16 (by decide) (fun c => ?_) (fun c => ?_)
  · refine J.weak [] rfl ?_
    exact kt c
  · exact kf c
theorem bX0_trim_19 {Z : ZT} {X : XT} {μ : Mu} {a0 : Nat} {a2 : Int32} (E : Ent Z X mX0_trim 0 0) (ha0 : SH a0 = .inl 0) (s1_ : vp_in (a2 - (nI 1)) 24)
    (kt : ¬ (μ (a0 + 1) (ix (a2 - (nI 1)))) = 0 → JS Z X 43 [] [] μ) (kf : (μ (a0 + 1) (ix (a2 - (nI 1)))) = 0 → JS Z X 30 [(0, .ref (Z.2.2.1 + a0)), (2, .int a2)] [] μ) :
    JS Z X 19 [(0, .ref (Z.2.2.1 + a0)), (2, .int a2)] [] μ := by
  refine J_aload_n E dX0_trim_19 rfl ?_
  refine S_get (ci := 0) (q := 0) (v := .ref (Z.2.2.1 + (a0 + 1))) E dX0_trim_20 fs_X0_9 ha0 rfl ?_
  refine J_iload_n E dX0_trim_23 rfl ?_
  refine J_iconst (v := nI 1) E dX0_trim_24 rfl ?_
  refine J_isub E dX0_trim_25 ?_
  refine S_iald E dX0_trim_26 (shr_X0_0 ha0) s1_ ?_
  refine J_if_ne (tgt := 43) E dX0_trim_27 (by decide) (fun c => ?_) (fun c => ?_)
  · refine J.weak [] rfl ?_
    exact kt c
  · exact kf c
theorem bX0_trim_30 {Z : ZT} {X : XT} {μ : Mu} {a0 : Nat} {a2 : Int32} (E : Ent Z X mX0_trim 0 0) (ha0 : SH a0 = .inl 0) 
    (k : JS Z X 37 [(0, .ref (Z.2.2.1 + a0)), (2, .int a2)] [] (uR μ a0 (upd (μ a0) 1 (a2 - (nI 1))))) :
    JS Z X 30 [(0, .ref (Z.2.2.1 + a0)), (2, .int a2)] [] μ := by
  refine J_aload_n E dX0_trim_30 rfl ?_
  refine J_iload_n E dX0_trim_31 rfl ?_
  refine J_iconst (v := nI 1) E dX0_trim_32 rfl ?_
  refine J_isub E dX0_trim_33 ?_
  refine S_puti E dX0_trim_34 fs_X0_13 fp_X0_1 ha0 rfl ?_
  exact k
theorem bX0_trim_37 {Z : ZT} {X : XT} {μ : Mu} {a0 : Nat} {a2 : Int32} (E : Ent Z X mX0_trim 0 0) (ha0 : SH a0 = .inl 0) 
    (k : JS Z X 15 [(0, .ref (Z.2.2.1 + a0)), (2, .int (a2 + (-1)))] [] μ) :
    JS Z X 37 [(0, .ref (Z.2.2.1 + a0)), (2, .int a2)] [] μ := by
  refine J_iinc (v := a2 + (-1)) (lv' := [(0, .ref (Z.2.2.1 + a0)), (2, .int (a2 + (-1)))]) E dX0_trim_37 rfl rfl (Nat.le_of_ble_eq_true rfl) rfl ?_
  refine J_goto (tgt := 15) E dX0_trim_40 (by decide) ?_
  exact k
theorem bX0_trim_43 {Z : ZT} {X : XT} {μ : Mu} (E : Ent Z X mX0_trim 0 0) {P : Option Value → Mu → Prop} (hB : BodS Z X P) 
    (k : P none μ) :
    JS Z X 43 [] [] μ := by
  exact S_vret E hB dX0_trim_43 rfl k
theorem dX0_digestOnto_0 : decode cX0_digestOnto 0 = .ok (.lload_n 1, 1) := by decide +kernel
theorem dX0_digestOnto_1 : decode cX0_digestOnto 1 = .ok (.lstore_n 3, 1) := by decide +kernel
theorem dX0_digestOnto_2 : decode cX0_digestOnto 2 = .ok (.iconst 0, 1) := by decide +kernel
theorem dX0_digestOnto_3 : decode cX0_digestOnto 3 = .ok (.istore 5, 2) := by decide +kernel
theorem dX0_digestOnto_5 : decode cX0_digestOnto 5 = .ok (.iload 5, 2) := by decide +kernel
theorem dX0_digestOnto_7 : decode cX0_digestOnto 7 = .ok (.aload_n 0, 1) := by decide +kernel
theorem dX0_digestOnto_8 : decode cX0_digestOnto 8 = .ok (.getfield 13, 3) := by decide +kernel
theorem dX0_digestOnto_11 : decode cX0_digestOnto 11 = .ok (.if_icmp .ge 24, 3) := by decide +kernel
theorem dX0_digestOnto_14 : decode cX0_digestOnto 14 = .ok (.ldc2_w 43, 3) := by decide +kernel
theorem dX0_digestOnto_17 : decode cX0_digestOnto 17 = .ok (.lload_n 3, 1) := by decide +kernel
theorem dX0_digestOnto_18 : decode cX0_digestOnto 18 = .ok (.lmul, 1) := by decide +kernel
theorem dX0_digestOnto_19 : decode cX0_digestOnto 19 = .ok (.aload_n 0, 1) := by decide +kernel
theorem dX0_digestOnto_20 : decode cX0_digestOnto 20 = .ok (.getfield 9, 3) := by decide +kernel
theorem dX0_digestOnto_23 : decode cX0_digestOnto 23 = .ok (.iload 5, 2) := by decide +kernel
theorem dX0_digestOnto_25 : decode cX0_digestOnto 25 = .ok (.iaload, 1) := by decide +kernel
theorem dX0_digestOnto_26 : decode cX0_digestOnto 26 = .ok (.i2l, 1) := by decide +kernel
theorem dX0_digestOnto_27 : decode cX0_digestOnto 27 = .ok (.ladd, 1) := by decide +kernel
theorem dX0_digestOnto_28 : decode cX0_digestOnto 28 = .ok (.lstore_n 3, 1) := by decide +kernel
theorem dX0_digestOnto_29 : decode cX0_digestOnto 29 = .ok (.iinc 5 1, 3) := by decide +kernel
theorem dX0_digestOnto_32 : decode cX0_digestOnto 32 = .ok (.goto (-27), 3) := by decide +kernel
theorem dX0_digestOnto_35 : decode cX0_digestOnto 35 = .ok (.lload_n 3, 1) := by decide +kernel
theorem dX0_digestOnto_36 : decode cX0_digestOnto 36 = .ok (.lreturn, 1) := by decide +kernel
theorem bX0_digestOnto_0 {Z : ZT} {X : XT} {μ : Mu} {a0 : Nat} {a1 : Int64} (E : Ent Z X mX0_digestOnto 0 0) (ha0 : SH a0 = .inl 0) 
    (k : JS Z X 5 [(0, .ref (Z.2.2.1 + a0)), (3, .long a1), (5, .int (nI 0))] [] μ) :
    JS Z X 0 [(0, .ref (Z.2.2.1 + a0)), (1, .long a1)] [] μ := by
  refine J_lload_n E dX0_digestOnto_0 rfl ?_
  refine J_lstore_n (lv' := [(0, .ref (Z.2.2.1 + a0)), (1, .long a1), (3, .long a1)]) E dX0_digestOnto_1 (Nat.le_of_ble_eq_true rfl) rfl ?_
  refine J_iconst (v := nI 0) E dX0_digestOnto_2 rfl ?_
  refine J_istore (lv' := [(0, .ref (Z.2.2.1 + a0)), (1, .long a1), (3, .long a1), (5, .int (nI 0))]) E dX0_digestOnto_3 (Nat.le_of_ble_eq_true rfl) rfl ?_
  refine J.weak [0, 2, 3] rfl ?_
  exact k
theorem bX0_digestOnto_5 {Z : ZT} {X : XT} {μ : Mu} {a0 : Nat} {a3 : Int64} {a5 : Int32} (E : Ent Z X mX0_digestOnto 0 0) (ha0 : SH a0 = .inl 0) 
    (kt : (μ a0 1) ≤ a5 → JS Z X 35 [(3, .long a3)] [] μ) (kf : ¬ ((μ a0 1) ≤ a5) → JS Z X 14 [(0, .ref (Z.2.2.1 + a0)), (3, .long a3), (5, .int a5)] [] μ) :
    JS Z X 5 [(0, .ref (Z.2.2.1 + a0)), (3, .long a3), (5, .int a5)] [] μ := by
  refine J_iload E dX0_digestOnto_5 rfl ?_
  refine J_aload_n E dX0_digestOnto_7 rfl ?_
  refine S_get (ci := 0) (q := 1) (v := .int (μ a0 1)) E dX0_digestOnto_8 fs_X0_13 ha0 rfl ?_
  refine J_icmp_ge (tgt := 35) E dX0_digestOnto_11 (by decide) (fun c => ?_) (fun c => ?_)
  · refine J.weak [1] rfl ?_
    exact kt c
  · exact kf c
theorem bX0_digestOnto_14 {Z : ZT} {X : XT} {μ : Mu} {a0 : Nat} {a3 : Int64} {a5 : Int32} (E : Ent Z X mX0_digestOnto 0 0) (ha0 : SH a0 = .inl 0) (s1_ : vp_in a5 24)
    (k : JS Z X 5 [(0, .ref (Z.2.2.1 + a0)), (3, .long (((lN 31) * a3) + ((μ (a0 + 1) (ix a5)).toInt64))), (5, .int (a5 + nI 1))] [] μ) :
    JS Z X 14 [(0, .ref (Z.2.2.1 + a0)), (3, .long a3), (5, .int a5)] [] μ := by
  refine J_ldc2 (v := lN 31) E dX0_digestOnto_14 w5_191 ?_
  refine J_lload_n E dX0_digestOnto_17 rfl ?_
  refine J_lmul E dX0_digestOnto_18 ?_
  refine J_aload_n E dX0_digestOnto_19 rfl ?_
  refine S_get (ci := 0) (q := 0) (v := .ref (Z.2.2.1 + (a0 + 1))) E dX0_digestOnto_20 fs_X0_9 ha0 rfl ?_
  refine J_iload E dX0_digestOnto_23 rfl ?_
  refine S_iald E dX0_digestOnto_25 (shr_X0_0 ha0) s1_ ?_
  refine J_i2l E dX0_digestOnto_26 ?_
  refine J_ladd E dX0_digestOnto_27 ?_
  refine J_lstore_n (lv' := [(0, .ref (Z.2.2.1 + a0)), (3, .long (((lN 31) * a3) + ((μ (a0 + 1) (ix a5)).toInt64))), (5, .int a5)]) E dX0_digestOnto_28 (Nat.le_of_ble_eq_true rfl) rfl ?_
  refine J_iinc (v := a5 + nI 1) (lv' := [(0, .ref (Z.2.2.1 + a0)), (3, .long (((lN 31) * a3) + ((μ (a0 + 1) (ix a5)).toInt64))), (5, .int (a5 + nI 1))]) E dX0_digestOnto_29 rfl rfl (Nat.le_of_ble_eq_true rfl) rfl ?_
  refine J_goto (tgt := 5) E dX0_digestOnto_32 (by decide) ?_
  exact k
theorem bX0_digestOnto_35 {Z : ZT} {X : XT} {μ : Mu} {a3 : Int64} (E : Ent Z X mX0_digestOnto 0 0) {P : Option Value → Mu → Prop} (hB : BodS Z X P) 
    (k : P (some (.long a3)) μ) :
    JS Z X 35 [(3, .long a3)] [] μ := by
  refine J_lload_n E dX0_digestOnto_35 rfl ?_
  exact S_lret E hB dX0_digestOnto_36 rfl k
theorem dX1_init_0 : decode cX1_init 0 = .ok (.aload_n 0, 1) := by decide +kernel
theorem dX1_init_1 : decode cX1_init 1 = .ok (.invokespecial 3, 3) := by decide +kernel
theorem dX1_init_4 : decode cX1_init 4 = .ok (.aload_n 0, 1) := by decide +kernel
theorem dX1_init_5 : decode cX1_init 5 = .ok (.bipush 6, 2) := by decide +kernel
theorem dX1_init_7 : decode cX1_init 7 = .ok (.newarray .int, 2) := by decide +kernel
theorem dX1_init_9 : decode cX1_init 9 = .ok (.putfield 9, 3) := by decide +kernel
theorem dX1_init_12 : decode cX1_init 12 = .ok (.aload_n 0, 1) := by decide +kernel
theorem dX1_init_13 : decode cX1_init 13 = .ok (.new 15, 3) := by decide +kernel
theorem dX1_init_16 : decode cX1_init 16 = .ok (.dup, 1) := by decide +kernel
theorem dX1_init_17 : decode cX1_init 17 = .ok (.invokespecial 17, 3) := by decide +kernel
theorem dX1_init_20 : decode cX1_init 20 = .ok (.putfield 18, 3) := by decide +kernel
theorem dX1_init_23 : decode cX1_init 23 = .ok (.aload_n 0, 1) := by decide +kernel
theorem dX1_init_24 : decode cX1_init 24 = .ok (.new 15, 3) := by decide +kernel
theorem dX1_init_27 : decode cX1_init 27 = .ok (.dup, 1) := by decide +kernel
theorem dX1_init_28 : decode cX1_init 28 = .ok (.invokespecial 17, 3) := by decide +kernel
theorem dX1_init_31 : decode cX1_init 31 = .ok (.putfield 22, 3) := by decide +kernel
theorem dX1_init_34 : decode cX1_init 34 = .ok (.aload_n 0, 1) := by decide +kernel
theorem dX1_init_35 : decode cX1_init 35 = .ok (.new 15, 3) := by decide +kernel
theorem dX1_init_38 : decode cX1_init 38 = .ok (.dup, 1) := by decide +kernel
theorem dX1_init_39 : decode cX1_init 39 = .ok (.invokespecial 17, 3) := by decide +kernel
theorem dX1_init_42 : decode cX1_init 42 = .ok (.putfield 25, 3) := by decide +kernel
theorem dX1_init_45 : decode cX1_init 45 = .ok (.aload_n 0, 1) := by decide +kernel
theorem dX1_init_46 : decode cX1_init 46 = .ok (.bipush 6, 2) := by decide +kernel
theorem dX1_init_48 : decode cX1_init 48 = .ok (.newarray .int, 2) := by decide +kernel
theorem dX1_init_50 : decode cX1_init 50 = .ok (.putfield 28, 3) := by decide +kernel
theorem dX1_init_53 : decode cX1_init 53 = .ok (.aload_n 0, 1) := by decide +kernel
theorem dX1_init_54 : decode cX1_init 54 = .ok (.bipush 24, 2) := by decide +kernel
theorem dX1_init_56 : decode cX1_init 56 = .ok (.anewarray 15, 3) := by decide +kernel
theorem dX1_init_59 : decode cX1_init 59 = .ok (.putfield 31, 3) := by decide +kernel
theorem dX1_init_62 : decode cX1_init 62 = .ok (.aload_n 0, 1) := by decide +kernel
theorem dX1_init_63 : decode cX1_init 63 = .ok (.sipush 144, 3) := by decide +kernel
theorem dX1_init_66 : decode cX1_init 66 = .ok (.newarray .int, 2) := by decide +kernel
theorem dX1_init_68 : decode cX1_init 68 = .ok (.putfield 35, 3) := by decide +kernel
theorem dX1_init_71 : decode cX1_init 71 = .ok (.aload_n 0, 1) := by decide +kernel
theorem dX1_init_72 : decode cX1_init 72 = .ok (.bipush 7, 2) := by decide +kernel
theorem dX1_init_74 : decode cX1_init 74 = .ok (.anewarray 15, 3) := by decide +kernel
theorem dX1_init_77 : decode cX1_init 77 = .ok (.putfield 38, 3) := by decide +kernel
theorem dX1_init_80 : decode cX1_init 80 = .ok (.aload_n 0, 1) := by decide +kernel
theorem dX1_init_81 : decode cX1_init 81 = .ok (.bipush 42, 2) := by decide +kernel
theorem dX1_init_83 : decode cX1_init 83 = .ok (.anewarray 15, 3) := by decide +kernel
theorem dX1_init_86 : decode cX1_init 86 = .ok (.putfield 41, 3) := by decide +kernel
theorem dX1_init_89 : decode cX1_init 89 = .ok (.aload_n 0, 1) := by decide +kernel
theorem dX1_init_90 : decode cX1_init 90 = .ok (.new 15, 3) := by decide +kernel
theorem dX1_init_93 : decode cX1_init 93 = .ok (.dup, 1) := by decide +kernel
theorem dX1_init_94 : decode cX1_init 94 = .ok (.invokespecial 17, 3) := by decide +kernel
theorem dX1_init_97 : decode cX1_init 97 = .ok (.putfield 44, 3) := by decide +kernel
theorem dX1_init_100 : decode cX1_init 100 = .ok (.aload_n 0, 1) := by decide +kernel
theorem dX1_init_101 : decode cX1_init 101 = .ok (.aload_n 1, 1) := by decide +kernel
theorem dX1_init_102 : decode cX1_init 102 = .ok (.putfield 47, 3) := by decide +kernel
theorem dX1_init_105 : decode cX1_init 105 = .ok (.aload_n 0, 1) := by decide +kernel
theorem dX1_init_106 : decode cX1_init 106 = .ok (.aload_n 2, 1) := by decide +kernel
theorem dX1_init_107 : decode cX1_init 107 = .ok (.putfield 51, 3) := by decide +kernel
theorem dX1_init_110 : decode cX1_init 110 = .ok (.iconst 0, 1) := by decide +kernel
theorem dX1_init_111 : decode cX1_init 111 = .ok (.istore_n 3, 1) := by decide +kernel
theorem dX1_init_112 : decode cX1_init 112 = .ok (.iload_n 3, 1) := by decide +kernel
theorem dX1_init_113 : decode cX1_init 113 = .ok (.bipush 24, 2) := by decide +kernel
theorem dX1_init_115 : decode cX1_init 115 = .ok (.if_icmp .ge 22, 3) := by decide +kernel
theorem dX1_init_118 : decode cX1_init 118 = .ok (.aload_n 0, 1) := by decide +kernel
theorem dX1_init_119 : decode cX1_init 119 = .ok (.getfield 31, 3) := by decide +kernel
theorem dX1_init_122 : decode cX1_init 122 = .ok (.iload_n 3, 1) := by decide +kernel
theorem dX1_init_123 : decode cX1_init 123 = .ok (.new 15, 3) := by decide +kernel
theorem dX1_init_126 : decode cX1_init 126 = .ok (.dup, 1) := by decide +kernel
theorem dX1_init_127 : decode cX1_init 127 = .ok (.invokespecial 17, 3) := by decide +kernel
theorem dX1_init_130 : decode cX1_init 130 = .ok (.aastore, 1) := by decide +kernel
theorem dX1_init_131 : decode cX1_init 131 = .ok (.iinc 3 1, 3) := by decide +kernel
theorem dX1_init_134 : decode cX1_init 134 = .ok (.goto (-22), 3) := by decide +kernel
theorem dX1_init_137 : decode cX1_init 137 = .ok (.iconst 0, 1) := by decide +kernel
theorem dX1_init_138 : decode cX1_init 138 = .ok (.istore_n 3, 1) := by decide +kernel
theorem dX1_init_139 : decode cX1_init 139 = .ok (.iload_n 3, 1) := by decide +kernel
theorem dX1_init_140 : decode cX1_init 140 = .ok (.bipush 6, 2) := by decide +kernel
theorem dX1_init_142 : decode cX1_init 142 = .ok (.if_icmp .gt 22, 3) := by decide +kernel
theorem dX1_init_145 : decode cX1_init 145 = .ok (.aload_n 0, 1) := by decide +kernel
theorem dX1_init_146 : decode cX1_init 146 = .ok (.getfield 38, 3) := by decide +kernel
theorem dX1_init_149 : decode cX1_init 149 = .ok (.iload_n 3, 1) := by decide +kernel
theorem dX1_init_150 : decode cX1_init 150 = .ok (.new 15, 3) := by decide +kernel
theorem dX1_init_153 : decode cX1_init 153 = .ok (.dup, 1) := by decide +kernel
theorem dX1_init_154 : decode cX1_init 154 = .ok (.invokespecial 17, 3) := by decide +kernel
theorem dX1_init_157 : decode cX1_init 157 = .ok (.aastore, 1) := by decide +kernel
theorem dX1_init_158 : decode cX1_init 158 = .ok (.iinc 3 1, 3) := by decide +kernel
theorem dX1_init_161 : decode cX1_init 161 = .ok (.goto (-22), 3) := by decide +kernel
theorem dX1_init_164 : decode cX1_init 164 = .ok (.iconst 0, 1) := by decide +kernel
theorem dX1_init_165 : decode cX1_init 165 = .ok (.istore_n 3, 1) := by decide +kernel
theorem dX1_init_166 : decode cX1_init 166 = .ok (.iload_n 3, 1) := by decide +kernel
theorem dX1_init_167 : decode cX1_init 167 = .ok (.bipush 42, 2) := by decide +kernel
theorem dX1_init_169 : decode cX1_init 169 = .ok (.if_icmp .ge 22, 3) := by decide +kernel
theorem dX1_init_172 : decode cX1_init 172 = .ok (.aload_n 0, 1) := by decide +kernel
theorem dX1_init_173 : decode cX1_init 173 = .ok (.getfield 41, 3) := by decide +kernel
theorem dX1_init_176 : decode cX1_init 176 = .ok (.iload_n 3, 1) := by decide +kernel
theorem dX1_init_177 : decode cX1_init 177 = .ok (.new 15, 3) := by decide +kernel
theorem dX1_init_180 : decode cX1_init 180 = .ok (.dup, 1) := by decide +kernel
theorem dX1_init_181 : decode cX1_init 181 = .ok (.invokespecial 17, 3) := by decide +kernel
theorem dX1_init_184 : decode cX1_init 184 = .ok (.aastore, 1) := by decide +kernel
theorem dX1_init_185 : decode cX1_init 185 = .ok (.iinc 3 1, 3) := by decide +kernel
theorem dX1_init_188 : decode cX1_init 188 = .ok (.goto (-22), 3) := by decide +kernel
theorem dX1_init_191 : decode cX1_init 191 = .ok (.return_, 1) := by decide +kernel
theorem dX1_find_0 : decode cX1_find 0 = .ok (.aload_n 0, 1) := by decide +kernel
theorem dX1_find_1 : decode cX1_find 1 = .ok (.aload_n 1, 1) := by decide +kernel
theorem dX1_find_2 : decode cX1_find 2 = .ok (.invokevirtual 55, 3) := by decide +kernel
theorem dX1_find_5 : decode cX1_find 5 = .ok (.iconst 0, 1) := by decide +kernel
theorem dX1_find_6 : decode cX1_find 6 = .ok (.istore_n 2, 1) := by decide +kernel
theorem dX1_find_7 : decode cX1_find 7 = .ok (.iconst 0, 1) := by decide +kernel
theorem dX1_find_8 : decode cX1_find 8 = .ok (.istore_n 3, 1) := by decide +kernel
theorem dX1_find_9 : decode cX1_find 9 = .ok (.iload_n 3, 1) := by decide +kernel
theorem dX1_find_10 : decode cX1_find 10 = .ok (.sipush 4096, 3) := by decide +kernel
theorem dX1_find_13 : decode cX1_find 13 = .ok (.if_icmp .ge 64, 3) := by decide +kernel
theorem dX1_find_16 : decode cX1_find 16 = .ok (.iload_n 2, 1) := by decide +kernel
theorem dX1_find_17 : decode cX1_find 17 = .ok (.istore 4, 2) := by decide +kernel
theorem dX1_find_19 : decode cX1_find 19 = .ok (.iload 4, 2) := by decide +kernel
theorem dX1_find_21 : decode cX1_find 21 = .ok (.aload_n 1, 1) := by decide +kernel
theorem dX1_find_22 : decode cX1_find 22 = .ok (.getfield 59, 3) := by decide +kernel
theorem dX1_find_25 : decode cX1_find 25 = .ok (.if_icmp .ge 15, 3) := by decide +kernel
theorem dX1_find_28 : decode cX1_find 28 = .ok (.aload_n 0, 1) := by decide +kernel
theorem dX1_find_29 : decode cX1_find 29 = .ok (.iload 4, 2) := by decide +kernel
theorem dX1_find_31 : decode cX1_find 31 = .ok (.invokevirtual 65, 3) := by decide +kernel
theorem dX1_find_34 : decode cX1_find 34 = .ok (.iinc 4 1, 3) := by decide +kernel
theorem dX1_find_37 : decode cX1_find 37 = .ok (.goto (-18), 3) := by decide +kernel
theorem dX1_find_40 : decode cX1_find 40 = .ok (.aload_n 0, 1) := by decide +kernel
theorem dX1_find_41 : decode cX1_find 41 = .ok (.aload_n 1, 1) := by decide +kernel
theorem dX1_find_42 : decode cX1_find 42 = .ok (.iload_n 3, 1) := by decide +kernel
theorem dX1_find_43 : decode cX1_find 43 = .ok (.ifCond .ne 7, 3) := by decide +kernel
theorem dX1_find_46 : decode cX1_find 46 = .ok (.iconst 1, 1) := by decide +kernel
theorem dX1_find_47 : decode cX1_find 47 = .ok (.goto 4, 3) := by decide +kernel
theorem dX1_find_50 : decode cX1_find 50 = .ok (.iconst 0, 1) := by decide +kernel
theorem dX1_find_51 : decode cX1_find 51 = .ok (.invokevirtual 69, 3) := by decide +kernel
theorem dX1_find_54 : decode cX1_find 54 = .ok (.aload_n 0, 1) := by decide +kernel
theorem dX1_find_55 : decode cX1_find 55 = .ok (.aload_n 1, 1) := by decide +kernel
theorem dX1_find_56 : decode cX1_find 56 = .ok (.getfield 59, 3) := by decide +kernel
theorem dX1_find_59 : decode cX1_find 59 = .ok (.invokevirtual 73, 3) := by decide +kernel
theorem dX1_find_62 : decode cX1_find 62 = .ok (.istore_n 2, 1) := by decide +kernel
theorem dX1_find_63 : decode cX1_find 63 = .ok (.iload_n 2, 1) := by decide +kernel
theorem dX1_find_64 : decode cX1_find 64 = .ok (.iconst (-1), 1) := by decide +kernel
theorem dX1_find_65 : decode cX1_find 65 = .ok (.if_icmp .ne 6, 3) := by decide +kernel
theorem dX1_find_68 : decode cX1_find 68 = .ok (.goto 9, 3) := by decide +kernel
theorem dX1_find_71 : decode cX1_find 71 = .ok (.iinc 3 1, 3) := by decide +kernel
theorem dX1_find_74 : decode cX1_find 74 = .ok (.goto (-65), 3) := by decide +kernel
theorem dX1_find_77 : decode cX1_find 77 = .ok (.return_, 1) := by decide +kernel
theorem bX1_find_0 {Z : ZT} {X : XT} {μ : Mu} {a1 : Nat} (E : Ent Z X mX1_find 0 0) (ha1 : SH a1 = .inl 4) {p : Mu → Prop} 
    (c : CtrS Z mX1_prepare [.ref (Z.2.2.1 + 285), .ref (Z.2.2.1 + a1)] μ (rV p)) (k : ∀ μ1, p μ1 → JS Z X 5 [(0, .ref (Z.2.2.1 + 285)), (1, .ref (Z.2.2.1 + a1))] [] μ1) :
    JS Z X 0 [(0, .ref (Z.2.2.1 + 285)), (1, .ref (Z.2.2.1 + a1))] [] μ := by
  refine J_aload_n E dX1_find_0 rfl ?_
  refine J_aload_n E dX1_find_1 rfl ?_
  refine S_callV (As := [.ref (Z.2.2.1 + a1)]) (rest := []) E dX1_find_2 c kX1_prepare ⟨Nat.le_of_ble_eq_true rfl, Nat.le_of_ble_eq_true rfl⟩ rfl (Nat.le_of_ble_eq_true rfl) sh285 rfl rfl w5_36 w5_38 wp_23 (fun r_ μ1 hp_ => ?_)
  obtain ⟨rfl, hp_⟩ := hp_
  exact k μ1 hp_
theorem bX1_find_5 {Z : ZT} {X : XT} {μ : Mu} {a1 : Nat} (E : Ent Z X mX1_find 0 0) (ha1 : SH a1 = .inl 4) 
    (k : JS Z X 9 [(0, .ref (Z.2.2.1 + 285)), (1, .ref (Z.2.2.1 + a1)), (2, .int (nI 0)), (3, .int (nI 0))] [] μ) :
    JS Z X 5 [(0, .ref (Z.2.2.1 + 285)), (1, .ref (Z.2.2.1 + a1))] [] μ := by
  refine J_iconst (v := nI 0) E dX1_find_5 rfl ?_
  refine J_istore_n (lv' := [(0, .ref (Z.2.2.1 + 285)), (1, .ref (Z.2.2.1 + a1)), (2, .int (nI 0))]) E dX1_find_6 (Nat.le_of_ble_eq_true rfl) rfl ?_
  refine J_iconst (v := nI 0) E dX1_find_7 rfl ?_
  refine J_istore_n (lv' := [(0, .ref (Z.2.2.1 + 285)), (1, .ref (Z.2.2.1 + a1)), (2, .int (nI 0)), (3, .int (nI 0))]) E dX1_find_8 (Nat.le_of_ble_eq_true rfl) rfl ?_
  exact k
theorem bX1_find_9 {Z : ZT} {X : XT} {μ : Mu} {a1 : Nat} {a2 : Int32} {a3 : Int32} (E : Ent Z X mX1_find 0 0) (ha1 : SH a1 = .inl 4) 
    (kt : (nI 4096) ≤ a3 → JS Z X 77 [] [] μ) (kf : ¬ ((nI 4096) ≤ a3) → JS Z X 16 [(0, .ref (Z.2.2.1 + 285)), (1, .ref (Z.2.2.1 + a1)), (2, .int a2), (3, .int a3)] [] μ) :
    JS Z X 9 [(0, .ref (Z.2.2.1 + 285)), (1, .ref (Z.2.2.1 + a1)), (2, .int a2), (3, .int a3)] [] μ := by
  refine J_iload_n E dX1_find_9 rfl ?_
  refine J_sipush (v := nI 4096) E dX1_find_10 rfl ?_
  refine J_icmp_ge (tgt := 77) E dX1_find_13 (by decide) (fun c => ?_) (fun c => ?_)
  · refine J.weak [] rfl ?_
    exact kt c
  · exact kf c
theorem bX1_find_16 {Z : ZT} {X : XT} {μ : Mu} {a1 : Nat} {a2 : Int32} {a3 : Int32} (E : Ent Z X mX1_find 0 0) (ha1 : SH a1 = .inl 4) 
    (k : JS Z X 19 [(0, .ref (Z.2.2.1 + 285)), (1, .ref (Z.2.2.1 + a1)), (3, .int a3), (4, .int a2)] [] μ) :
    JS Z X 16 [(0, .ref (Z.2.2.1 + 285)), (1, .ref (Z.2.2.1 + a1)), (2, .int a2), (3, .int a3)] [] μ := by
  refine J_iload_n E dX1_find_16 rfl ?_
  refine J_istore (lv' := [(0, .ref (Z.2.2.1 + 285)), (1, .ref (Z.2.2.1 + a1)), (2, .int a2), (3, .int a3), (4, .int a2)]) E dX1_find_17 (Nat.le_of_ble_eq_true rfl) rfl ?_
  refine J.weak [0, 1, 3, 4] rfl ?_
  exact k
theorem bX1_find_19 {Z : ZT} {X : XT} {μ : Mu} {a1 : Nat} {a3 : Int32} {a4 : Int32} (E : Ent Z X mX1_find 0 0) (ha1 : SH a1 = .inl 4) 
    (kt : (μ a1 4) ≤ a4 → JS Z X 40 [(0, .ref (Z.2.2.1 + 285)), (1, .ref (Z.2.2.1 + a1)), (3, .int a3)] [] μ) (kf : ¬ ((μ a1 4) ≤ a4) → JS Z X 28 [(0, .ref (Z.2.2.1 + 285)), (1, .ref (Z.2.2.1 + a1)), (3, .int a3), (4, .int a4)] [] μ) :
    JS Z X 19 [(0, .ref (Z.2.2.1 + 285)), (1, .ref (Z.2.2.1 + a1)), (3, .int a3), (4, .int a4)] [] μ := by
  refine J_iload E dX1_find_19 rfl ?_
  refine J_aload_n E dX1_find_21 rfl ?_
  refine S_get (ci := 4) (q := 4) (v := .int (μ a1 4)) E dX1_find_22 fs_X1_59 ha1 rfl ?_
  refine J_icmp_ge (tgt := 40) E dX1_find_25 (by decide) (fun c => ?_) (fun c => ?_)
  · refine J.weak [0, 1, 2] rfl ?_
    exact kt c
  · exact kf c
theorem bX1_find_28 {Z : ZT} {X : XT} {μ : Mu} {a1 : Nat} {a3 : Int32} {a4 : Int32} (E : Ent Z X mX1_find 0 0) (ha1 : SH a1 = .inl 4) {p : Mu → Prop} 
    (c : CtrS Z mX1_addPlace [.ref (Z.2.2.1 + 285), .int a4] μ (rV p)) (k : ∀ μ1, p μ1 → JS Z X 34 [(0, .ref (Z.2.2.1 + 285)), (1, .ref (Z.2.2.1 + a1)), (3, .int a3), (4, .int a4)] [] μ1) :
    JS Z X 28 [(0, .ref (Z.2.2.1 + 285)), (1, .ref (Z.2.2.1 + a1)), (3, .int a3), (4, .int a4)] [] μ := by
  refine J_aload_n E dX1_find_28 rfl ?_
  refine J_iload E dX1_find_29 rfl ?_
  refine S_callV (As := [.int a4]) (rest := []) E dX1_find_31 c kX1_addPlace ⟨Nat.le_of_ble_eq_true rfl, Nat.le_of_ble_eq_true rfl⟩ rfl (Nat.le_of_ble_eq_true rfl) sh285 rfl rfl w5_44 w5_46 wp_24 (fun r_ μ1 hp_ => ?_)
  obtain ⟨rfl, hp_⟩ := hp_
  exact k μ1 hp_
theorem bX1_find_34 {Z : ZT} {X : XT} {μ : Mu} {a1 : Nat} {a3 : Int32} {a4 : Int32} (E : Ent Z X mX1_find 0 0) (ha1 : SH a1 = .inl 4) 
    (k : JS Z X 19 [(0, .ref (Z.2.2.1 + 285)), (1, .ref (Z.2.2.1 + a1)), (3, .int a3), (4, .int (a4 + nI 1))] [] μ) :
    JS Z X 34 [(0, .ref (Z.2.2.1 + 285)), (1, .ref (Z.2.2.1 + a1)), (3, .int a3), (4, .int a4)] [] μ := by
  refine J_iinc (v := a4 + nI 1) (lv' := [(0, .ref (Z.2.2.1 + 285)), (1, .ref (Z.2.2.1 + a1)), (3, .int a3), (4, .int (a4 + nI 1))]) E dX1_find_34 rfl rfl (Nat.le_of_ble_eq_true rfl) rfl ?_
  refine J_goto (tgt := 19) E dX1_find_37 (by decide) ?_
  exact k
theorem bX1_find_40 {Z : ZT} {X : XT} {μ : Mu} {a1 : Nat} {a3 : Int32} (E : Ent Z X mX1_find 0 0) (ha1 : SH a1 = .inl 4) 
    (kt : ¬ a3 = 0 → JS Z X 50 [(0, .ref (Z.2.2.1 + 285)), (1, .ref (Z.2.2.1 + a1)), (3, .int a3)] [.ref (Z.2.2.1 + a1), .ref (Z.2.2.1 + 285)] μ) (kf : a3 = 0 → JS Z X 46 [(0, .ref (Z.2.2.1 + 285)), (1, .ref (Z.2.2.1 + a1)), (3, .int a3)] [.ref (Z.2.2.1 + a1), .ref (Z.2.2.1 + 285)] μ) :
    JS Z X 40 [(0, .ref (Z.2.2.1 + 285)), (1, .ref (Z.2.2.1 + a1)), (3, .int a3)] [] μ := by
  refine J_aload_n E dX1_find_40 rfl ?_
  refine J_aload_n E dX1_find_41 rfl ?_
  refine J_iload_n E dX1_find_42 rfl ?_
  refine J_if_ne (tgt := 50) E dX1_find_43 (by decide) (fun c => ?_) (fun c => ?_)
  · exact kt c
  · exact kf c
theorem bX1_find_46 {Z : ZT} {X : XT} {μ : Mu} {a1 : Nat} {a3 : Int32} {s1 : Nat} (E : Ent Z X mX1_find 0 0) (ha1 : SH a1 = .inl 4) (hs1 : SH s1 = .inl 4) 
    (k : JS Z X 51 [(0, .ref (Z.2.2.1 + 285)), (1, .ref (Z.2.2.1 + a1)), (3, .int a3)] [.int (nI 1), .ref (Z.2.2.1 + s1), .ref (Z.2.2.1 + 285)] μ) :
    JS Z X 46 [(0, .ref (Z.2.2.1 + 285)), (1, .ref (Z.2.2.1 + a1)), (3, .int a3)] [.ref (Z.2.2.1 + s1), .ref (Z.2.2.1 + 285)] μ := by
  refine J_iconst (v := nI 1) E dX1_find_46 rfl ?_
  refine J_goto (tgt := 51) E dX1_find_47 (by decide) ?_
  exact k
theorem bX1_find_50 {Z : ZT} {X : XT} {μ : Mu} {a1 : Nat} {a3 : Int32} {s1 : Nat} (E : Ent Z X mX1_find 0 0) (ha1 : SH a1 = .inl 4) (hs1 : SH s1 = .inl 4) 
    (k : JS Z X 51 [(0, .ref (Z.2.2.1 + 285)), (1, .ref (Z.2.2.1 + a1)), (3, .int a3)] [.int (nI 0), .ref (Z.2.2.1 + s1), .ref (Z.2.2.1 + 285)] μ) :
    JS Z X 50 [(0, .ref (Z.2.2.1 + 285)), (1, .ref (Z.2.2.1 + a1)), (3, .int a3)] [.ref (Z.2.2.1 + s1), .ref (Z.2.2.1 + 285)] μ := by
  refine J_iconst (v := nI 0) E dX1_find_50 rfl ?_
  exact k
theorem bX1_find_51 {Z : ZT} {X : XT} {μ : Mu} {a1 : Nat} {a3 : Int32} {s1 : Nat} {s2 : Int32} (E : Ent Z X mX1_find 0 0) (ha1 : SH a1 = .inl 4) (hs1 : SH s1 = .inl 4) {p : Mu → Prop} 
    (c : CtrS Z mX1_judge [.ref (Z.2.2.1 + 285), .ref (Z.2.2.1 + s1), .int s2] μ (rV p)) (k : ∀ μ1, p μ1 → JS Z X 54 [(0, .ref (Z.2.2.1 + 285)), (1, .ref (Z.2.2.1 + a1)), (3, .int a3)] [] μ1) :
    JS Z X 51 [(0, .ref (Z.2.2.1 + 285)), (1, .ref (Z.2.2.1 + a1)), (3, .int a3)] [.int s2, .ref (Z.2.2.1 + s1), .ref (Z.2.2.1 + 285)] μ := by
  refine S_callV (As := [.ref (Z.2.2.1 + s1), .int s2]) (rest := []) E dX1_find_51 c kX1_judge ⟨Nat.le_of_ble_eq_true rfl, Nat.le_of_ble_eq_true rfl⟩ rfl (Nat.le_of_ble_eq_true rfl) sh285 rfl rfl w5_49 w5_51 wp_25 (fun r_ μ1 hp_ => ?_)
  obtain ⟨rfl, hp_⟩ := hp_
  exact k μ1 hp_
theorem bX1_find_54 {Z : ZT} {X : XT} {μ : Mu} {a1 : Nat} {a3 : Int32} (E : Ent Z X mX1_find 0 0) (ha1 : SH a1 = .inl 4) {p : Int32 → Mu → Prop} 
    (c : CtrS Z mX1_nextChoice [.ref (Z.2.2.1 + 285), .int (μ a1 4)] μ (rI p)) (k : ∀ v μ1, p v μ1 → JS Z X 62 [(0, .ref (Z.2.2.1 + 285)), (1, .ref (Z.2.2.1 + a1)), (3, .int a3)] [.int v] μ1) :
    JS Z X 54 [(0, .ref (Z.2.2.1 + 285)), (1, .ref (Z.2.2.1 + a1)), (3, .int a3)] [] μ := by
  refine J_aload_n E dX1_find_54 rfl ?_
  refine J_aload_n E dX1_find_55 rfl ?_
  refine S_get (ci := 4) (q := 4) (v := .int (μ a1 4)) E dX1_find_56 fs_X1_59 ha1 rfl ?_
  refine S_callV (As := [.int (μ a1 4)]) (rest := []) E dX1_find_59 c kX1_nextChoice ⟨Nat.le_of_ble_eq_true rfl, Nat.le_of_ble_eq_true rfl⟩ rfl (Nat.le_of_ble_eq_true rfl) sh285 rfl rfl w5_59 w5_61 wp_27 (fun r_ μ1 hp_ => ?_)
  obtain ⟨v, rfl, hp_⟩ := hp_
  exact k v μ1 hp_
theorem bX1_find_62 {Z : ZT} {X : XT} {μ : Mu} {a1 : Nat} {a3 : Int32} {s0 : Int32} (E : Ent Z X mX1_find 0 0) (ha1 : SH a1 = .inl 4) 
    (kt : ¬ s0 = (-1) → JS Z X 71 [(0, .ref (Z.2.2.1 + 285)), (1, .ref (Z.2.2.1 + a1)), (2, .int s0), (3, .int a3)] [] μ) (kf : s0 = (-1) → JS Z X 68 [] [] μ) :
    JS Z X 62 [(0, .ref (Z.2.2.1 + 285)), (1, .ref (Z.2.2.1 + a1)), (3, .int a3)] [.int s0] μ := by
  refine J_istore_n (lv' := [(0, .ref (Z.2.2.1 + 285)), (1, .ref (Z.2.2.1 + a1)), (2, .int s0), (3, .int a3)]) E dX1_find_62 (Nat.le_of_ble_eq_true rfl) rfl ?_
  refine J_iload_n E dX1_find_63 rfl ?_
  refine J_iconst (v := -1) E dX1_find_64 rfl ?_
  refine J_icmp_ne (tgt := 71) E dX1_find_65 (by decide) (fun c => ?_) (fun c => ?_)
  · exact kt c
  · refine J.weak [] rfl ?_
    exact kf c
theorem bX1_find_68 {Z : ZT} {X : XT} {μ : Mu} (E : Ent Z X mX1_find 0 0)  
    (k : JS Z X 77 [] [] μ) :
    JS Z X 68 [] [] μ := by
  refine J_goto (tgt := 77) E dX1_find_68 (by decide) ?_
  exact k
theorem bX1_find_71 {Z : ZT} {X : XT} {μ : Mu} {a1 : Nat} {a2 : Int32} {a3 : Int32} (E : Ent Z X mX1_find 0 0) (ha1 : SH a1 = .inl 4) 
    (k : JS Z X 9 [(0, .ref (Z.2.2.1 + 285)), (1, .ref (Z.2.2.1 + a1)), (2, .int a2), (3, .int (a3 + nI 1))] [] μ) :
    JS Z X 71 [(0, .ref (Z.2.2.1 + 285)), (1, .ref (Z.2.2.1 + a1)), (2, .int a2), (3, .int a3)] [] μ := by
  refine J_iinc (v := a3 + nI 1) (lv' := [(0, .ref (Z.2.2.1 + 285)), (1, .ref (Z.2.2.1 + a1)), (2, .int a2), (3, .int (a3 + nI 1))]) E dX1_find_71 rfl rfl (Nat.le_of_ble_eq_true rfl) rfl ?_
  refine J_goto (tgt := 9) E dX1_find_74 (by decide) ?_
  exact k
theorem bX1_find_77 {Z : ZT} {X : XT} {μ : Mu} (E : Ent Z X mX1_find 0 0) {P : Option Value → Mu → Prop} (hB : BodS Z X P) 
    (k : P none μ) :
    JS Z X 77 [] [] μ := by
  exact S_vret E hB dX1_find_77 rfl k
theorem dX1_prepare_0 : decode cX1_prepare 0 = .ok (.iconst 0, 1) := by decide +kernel
theorem dX1_prepare_1 : decode cX1_prepare 1 = .ok (.istore_n 2, 1) := by decide +kernel
theorem dX1_prepare_2 : decode cX1_prepare 2 = .ok (.iload_n 2, 1) := by decide +kernel
theorem dX1_prepare_3 : decode cX1_prepare 3 = .ok (.aload_n 1, 1) := by decide +kernel
theorem dX1_prepare_4 : decode cX1_prepare 4 = .ok (.getfield 59, 3) := by decide +kernel
theorem dX1_prepare_7 : decode cX1_prepare 7 = .ok (.if_icmp .ge 92, 3) := by decide +kernel
theorem dX1_prepare_10 : decode cX1_prepare 10 = .ok (.aload_n 0, 1) := by decide +kernel
theorem dX1_prepare_11 : decode cX1_prepare 11 = .ok (.getfield 28, 3) := by decide +kernel
theorem dX1_prepare_14 : decode cX1_prepare 14 = .ok (.iload_n 2, 1) := by decide +kernel
theorem dX1_prepare_15 : decode cX1_prepare 15 = .ok (.iconst 0, 1) := by decide +kernel
theorem dX1_prepare_16 : decode cX1_prepare 16 = .ok (.iastore, 1) := by decide +kernel
theorem dX1_prepare_17 : decode cX1_prepare 17 = .ok (.iconst 0, 1) := by decide +kernel
theorem dX1_prepare_18 : decode cX1_prepare 18 = .ok (.istore_n 3, 1) := by decide +kernel
theorem dX1_prepare_19 : decode cX1_prepare 19 = .ok (.iload_n 3, 1) := by decide +kernel
theorem dX1_prepare_20 : decode cX1_prepare 20 = .ok (.iconst 4, 1) := by decide +kernel
theorem dX1_prepare_21 : decode cX1_prepare 21 = .ok (.if_icmp .ge 72, 3) := by decide +kernel
theorem dX1_prepare_24 : decode cX1_prepare 24 = .ok (.iload_n 2, 1) := by decide +kernel
theorem dX1_prepare_25 : decode cX1_prepare 25 = .ok (.iconst 4, 1) := by decide +kernel
theorem dX1_prepare_26 : decode cX1_prepare 26 = .ok (.imul, 1) := by decide +kernel
theorem dX1_prepare_27 : decode cX1_prepare 27 = .ok (.iload_n 3, 1) := by decide +kernel
theorem dX1_prepare_28 : decode cX1_prepare 28 = .ok (.iadd, 1) := by decide +kernel
theorem dX1_prepare_29 : decode cX1_prepare 29 = .ok (.istore 4, 2) := by decide +kernel
theorem dX1_prepare_31 : decode cX1_prepare 31 = .ok (.aload_n 0, 1) := by decide +kernel
theorem dX1_prepare_32 : decode cX1_prepare 32 = .ok (.getfield 51, 3) := by decide +kernel
theorem dX1_prepare_35 : decode cX1_prepare 35 = .ok (.aload_n 0, 1) := by decide +kernel
theorem dX1_prepare_36 : decode cX1_prepare 36 = .ok (.getfield 31, 3) := by decide +kernel
theorem dX1_prepare_39 : decode cX1_prepare 39 = .ok (.iload 4, 2) := by decide +kernel
theorem dX1_prepare_41 : decode cX1_prepare 41 = .ok (.aaload, 1) := by decide +kernel
theorem dX1_prepare_42 : decode cX1_prepare 42 = .ok (.aload_n 1, 1) := by decide +kernel
theorem dX1_prepare_43 : decode cX1_prepare 43 = .ok (.iload_n 2, 1) := by decide +kernel
theorem dX1_prepare_44 : decode cX1_prepare 44 = .ok (.iload_n 3, 1) := by decide +kernel
theorem dX1_prepare_45 : decode cX1_prepare 45 = .ok (.invokevirtual 77, 3) := by decide +kernel
theorem dX1_prepare_48 : decode cX1_prepare 48 = .ok (.invokevirtual 81, 3) := by decide +kernel
theorem dX1_prepare_51 : decode cX1_prepare 51 = .ok (.iconst 0, 1) := by decide +kernel
theorem dX1_prepare_52 : decode cX1_prepare 52 = .ok (.istore 5, 2) := by decide +kernel
theorem dX1_prepare_54 : decode cX1_prepare 54 = .ok (.iload 5, 2) := by decide +kernel
theorem dX1_prepare_56 : decode cX1_prepare 56 = .ok (.bipush 6, 2) := by decide +kernel
theorem dX1_prepare_58 : decode cX1_prepare 58 = .ok (.if_icmp .ge 29, 3) := by decide +kernel
theorem dX1_prepare_61 : decode cX1_prepare 61 = .ok (.aload_n 0, 1) := by decide +kernel
theorem dX1_prepare_62 : decode cX1_prepare 62 = .ok (.getfield 35, 3) := by decide +kernel
theorem dX1_prepare_65 : decode cX1_prepare 65 = .ok (.iload 4, 2) := by decide +kernel
theorem dX1_prepare_67 : decode cX1_prepare 67 = .ok (.bipush 6, 2) := by decide +kernel
theorem dX1_prepare_69 : decode cX1_prepare 69 = .ok (.imul, 1) := by decide +kernel
theorem dX1_prepare_70 : decode cX1_prepare 70 = .ok (.iload 5, 2) := by decide +kernel
theorem dX1_prepare_72 : decode cX1_prepare 72 = .ok (.iadd, 1) := by decide +kernel
theorem dX1_prepare_73 : decode cX1_prepare 73 = .ok (.aload_n 1, 1) := by decide +kernel
theorem dX1_prepare_74 : decode cX1_prepare 74 = .ok (.getfield 87, 3) := by decide +kernel
theorem dX1_prepare_77 : decode cX1_prepare 77 = .ok (.iload 5, 2) := by decide +kernel
theorem dX1_prepare_79 : decode cX1_prepare 79 = .ok (.iaload, 1) := by decide +kernel
theorem dX1_prepare_80 : decode cX1_prepare 80 = .ok (.iastore, 1) := by decide +kernel
theorem dX1_prepare_81 : decode cX1_prepare 81 = .ok (.iinc 5 1, 3) := by decide +kernel
theorem dX1_prepare_84 : decode cX1_prepare 84 = .ok (.goto (-30), 3) := by decide +kernel
theorem dX1_prepare_87 : decode cX1_prepare 87 = .ok (.iinc 3 1, 3) := by decide +kernel
theorem dX1_prepare_90 : decode cX1_prepare 90 = .ok (.goto (-71), 3) := by decide +kernel
theorem dX1_prepare_93 : decode cX1_prepare 93 = .ok (.iinc 2 1, 3) := by decide +kernel
theorem dX1_prepare_96 : decode cX1_prepare 96 = .ok (.goto (-94), 3) := by decide +kernel
theorem dX1_prepare_99 : decode cX1_prepare 99 = .ok (.aload_n 0, 1) := by decide +kernel
theorem dX1_prepare_100 : decode cX1_prepare 100 = .ok (.getfield 38, 3) := by decide +kernel
theorem dX1_prepare_103 : decode cX1_prepare 103 = .ok (.iconst 0, 1) := by decide +kernel
theorem dX1_prepare_104 : decode cX1_prepare 104 = .ok (.aaload, 1) := by decide +kernel
theorem dX1_prepare_105 : decode cX1_prepare 105 = .ok (.iconst 0, 1) := by decide +kernel
theorem dX1_prepare_106 : decode cX1_prepare 106 = .ok (.invokevirtual 88, 3) := by decide +kernel
theorem dX1_prepare_109 : decode cX1_prepare 109 = .ok (.aload_n 0, 1) := by decide +kernel
theorem dX1_prepare_110 : decode cX1_prepare 110 = .ok (.getfield 38, 3) := by decide +kernel
theorem dX1_prepare_113 : decode cX1_prepare 113 = .ok (.iconst 0, 1) := by decide +kernel
theorem dX1_prepare_114 : decode cX1_prepare 114 = .ok (.aaload, 1) := by decide +kernel
theorem dX1_prepare_115 : decode cX1_prepare 115 = .ok (.aload_n 0, 1) := by decide +kernel
theorem dX1_prepare_116 : decode cX1_prepare 116 = .ok (.getfield 51, 3) := by decide +kernel
theorem dX1_prepare_119 : decode cX1_prepare 119 = .ok (.getfield 91, 3) := by decide +kernel
theorem dX1_prepare_122 : decode cX1_prepare 122 = .ok (.aload_n 1, 1) := by decide +kernel
theorem dX1_prepare_123 : decode cX1_prepare 123 = .ok (.getfield 94, 3) := by decide +kernel
theorem dX1_prepare_126 : decode cX1_prepare 126 = .ok (.invokevirtual 97, 3) := by decide +kernel
theorem dX1_prepare_129 : decode cX1_prepare 129 = .ok (.return_, 1) := by decide +kernel
theorem bX1_prepare_0 {Z : ZT} {X : XT} {μ : Mu} {a1 : Nat} (E : Ent Z X mX1_prepare 0 0) (ha1 : SH a1 = .inl 4) 
    (k : JS Z X 2 [(0, .ref (Z.2.2.1 + 285)), (1, .ref (Z.2.2.1 + a1)), (2, .int (nI 0))] [] μ) :
    JS Z X 0 [(0, .ref (Z.2.2.1 + 285)), (1, .ref (Z.2.2.1 + a1))] [] μ := by
  refine J_iconst (v := nI 0) E dX1_prepare_0 rfl ?_
  refine J_istore_n (lv' := [(0, .ref (Z.2.2.1 + 285)), (1, .ref (Z.2.2.1 + a1)), (2, .int (nI 0))]) E dX1_prepare_1 (Nat.le_of_ble_eq_true rfl) rfl ?_
  exact k
theorem bX1_prepare_2 {Z : ZT} {X : XT} {μ : Mu} {a1 : Nat} {a2 : Int32} (E : Ent Z X mX1_prepare 0 0) (ha1 : SH a1 = .inl 4) 
    (kt : (μ a1 4) ≤ a2 → JS Z X 99 [(0, .ref (Z.2.2.1 + 285)), (1, .ref (Z.2.2.1 + a1))] [] μ) (kf : ¬ ((μ a1 4) ≤ a2) → JS Z X 10 [(0, .ref (Z.2.2.1 + 285)), (1, .ref (Z.2.2.1 + a1)), (2, .int a2)] [] μ) :
    JS Z X 2 [(0, .ref (Z.2.2.1 + 285)), (1, .ref (Z.2.2.1 + a1)), (2, .int a2)] [] μ := by
  refine J_iload_n E dX1_prepare_2 rfl ?_
  refine J_aload_n E dX1_prepare_3 rfl ?_
  refine S_get (ci := 4) (q := 4) (v := .int (μ a1 4)) E dX1_prepare_4 fs_X1_59 ha1 rfl ?_
  refine J_icmp_ge (tgt := 99) E dX1_prepare_7 (by decide) (fun c => ?_) (fun c => ?_)
  · refine J.weak [0, 1] rfl ?_
    exact kt c
  · exact kf c
theorem bX1_prepare_10 {Z : ZT} {X : XT} {μ : Mu} {a1 : Nat} {a2 : Int32} (E : Ent Z X mX1_prepare 0 0) (ha1 : SH a1 = .inl 4) (s1_ : vp_in a2 6)
    (k : JS Z X 17 [(0, .ref (Z.2.2.1 + 285)), (1, .ref (Z.2.2.1 + a1)), (2, .int a2)] [] (uR μ 293 (upd (μ 293) (ix a2) (nI 0)))) :
    JS Z X 10 [(0, .ref (Z.2.2.1 + 285)), (1, .ref (Z.2.2.1 + a1)), (2, .int a2)] [] μ := by
  refine J_aload_n E dX1_prepare_10 rfl ?_
  refine S_get (ci := 1) (q := 6) (v := .ref (Z.2.2.1 + 293)) E dX1_prepare_11 fs_X1_28 sh285 rfl ?_
  refine J_iload_n E dX1_prepare_14 rfl ?_
  refine J_iconst (v := nI 0) E dX1_prepare_15 rfl ?_
  refine S_iast E dX1_prepare_16 sh293 s1_ ?_
  exact k
theorem bX1_prepare_17 {Z : ZT} {X : XT} {μ : Mu} {a1 : Nat} {a2 : Int32} (E : Ent Z X mX1_prepare 0 0) (ha1 : SH a1 = .inl 4) 
    (k : JS Z X 19 [(0, .ref (Z.2.2.1 + 285)), (1, .ref (Z.2.2.1 + a1)), (2, .int a2), (3, .int (nI 0))] [] μ) :
    JS Z X 17 [(0, .ref (Z.2.2.1 + 285)), (1, .ref (Z.2.2.1 + a1)), (2, .int a2)] [] μ := by
  refine J_iconst (v := nI 0) E dX1_prepare_17 rfl ?_
  refine J_istore_n (lv' := [(0, .ref (Z.2.2.1 + 285)), (1, .ref (Z.2.2.1 + a1)), (2, .int a2), (3, .int (nI 0))]) E dX1_prepare_18 (Nat.le_of_ble_eq_true rfl) rfl ?_
  exact k
theorem bX1_prepare_19 {Z : ZT} {X : XT} {μ : Mu} {a1 : Nat} {a2 : Int32} {a3 : Int32} (E : Ent Z X mX1_prepare 0 0) (ha1 : SH a1 = .inl 4) 
    (kt : (nI 4) ≤ a3 → JS Z X 93 [(0, .ref (Z.2.2.1 + 285)), (1, .ref (Z.2.2.1 + a1)), (2, .int a2)] [] μ) (kf : ¬ ((nI 4) ≤ a3) → JS Z X 24 [(0, .ref (Z.2.2.1 + 285)), (1, .ref (Z.2.2.1 + a1)), (2, .int a2), (3, .int a3)] [] μ) :
    JS Z X 19 [(0, .ref (Z.2.2.1 + 285)), (1, .ref (Z.2.2.1 + a1)), (2, .int a2), (3, .int a3)] [] μ := by
  refine J_iload_n E dX1_prepare_19 rfl ?_
  refine J_iconst (v := nI 4) E dX1_prepare_20 rfl ?_
  refine J_icmp_ge (tgt := 93) E dX1_prepare_21 (by decide) (fun c => ?_) (fun c => ?_)
  · refine J.weak [0, 1, 2] rfl ?_
    exact kt c
  · exact kf c
theorem bX1_prepare_24 {Z : ZT} {X : XT} {μ : Mu} {a1 : Nat} {a2 : Int32} {a3 : Int32} (E : Ent Z X mX1_prepare 0 0) (ha1 : SH a1 = .inl 4) {p : Int32 → Mu → Prop} (s1_ : vp_in ((a2 * (nI 4)) + a3) 24)
    (c : CtrS Z mX4_weigh [.ref (Z.2.2.1 + a1), .int a2, .int a3] μ (rI p)) (k : ∀ v μ1, p v μ1 → JS Z X 48 [(0, .ref (Z.2.2.1 + 285)), (1, .ref (Z.2.2.1 + a1)), (2, .int a2), (3, .int a3), (4, .int ((a2 * (nI 4)) + a3))] [.int v, .ref (Z.2.2.1 + (el 294 (ix ((a2 * (nI 4)) + a3)))), .ref (Z.2.2.1 + 92)] μ1) :
    JS Z X 24 [(0, .ref (Z.2.2.1 + 285)), (1, .ref (Z.2.2.1 + a1)), (2, .int a2), (3, .int a3)] [] μ := by
  refine J_iload_n E dX1_prepare_24 rfl ?_
  refine J_iconst (v := nI 4) E dX1_prepare_25 rfl ?_
  refine J_imul E dX1_prepare_26 ?_
  refine J_iload_n E dX1_prepare_27 rfl ?_
  refine J_iadd E dX1_prepare_28 ?_
  refine J_istore (lv' := [(0, .ref (Z.2.2.1 + 285)), (1, .ref (Z.2.2.1 + a1)), (2, .int a2), (3, .int a3), (4, .int ((a2 * (nI 4)) + a3))]) E dX1_prepare_29 (Nat.le_of_ble_eq_true rfl) rfl ?_
  refine J_aload_n E dX1_prepare_31 rfl ?_
  refine S_get (ci := 1) (q := 1) (v := .ref (Z.2.2.1 + 92)) E dX1_prepare_32 fs_X1_51 sh285 rfl ?_
  refine J_aload_n E dX1_prepare_35 rfl ?_
  refine S_get (ci := 1) (q := 7) (v := .ref (Z.2.2.1 + 294)) E dX1_prepare_36 fs_X1_31 sh285 rfl ?_
  refine J_iload E dX1_prepare_39 rfl ?_
  refine S_aald (t := 0) E dX1_prepare_41 sh294 rfl s1_ (by decide) ?_
  refine J_aload_n E dX1_prepare_42 rfl ?_
  refine J_iload_n E dX1_prepare_43 rfl ?_
  refine J_iload_n E dX1_prepare_44 rfl ?_
  refine S_callV (As := [.int a2, .int a3]) (rest := [.ref (Z.2.2.1 + (el 294 (ix ((a2 * (nI 4)) + a3)))), .ref (Z.2.2.1 + 92)]) E dX1_prepare_45 c kX4_weigh ⟨Nat.le_of_ble_eq_true rfl, Nat.le_of_ble_eq_true rfl⟩ rfl (Nat.le_of_ble_eq_true rfl) ha1 rfl rfl w5_40 w4_91 w4_92 (fun r_ μ1 hp_ => ?_)
  obtain ⟨v, rfl, hp_⟩ := hp_
  exact k v μ1 hp_
theorem bX1_prepare_48 {Z : ZT} {X : XT} {μ : Mu} {a1 : Nat} {a2 : Int32} {a3 : Int32} {a4 : Int32} {s1 : Nat} {s2 : Int32} (E : Ent Z X mX1_prepare 0 0) (ha1 : SH a1 = .inl 4) (hs1 : SH s1 = .inl 0) {p : Mu → Prop} 
    (c : CtrS Z mX5_ofRiddle [.ref (Z.2.2.1 + 92), .ref (Z.2.2.1 + s1), .int s2] μ (rV p)) (k : ∀ μ1, p μ1 → JS Z X 51 [(0, .ref (Z.2.2.1 + 285)), (1, .ref (Z.2.2.1 + a1)), (2, .int a2), (3, .int a3), (4, .int a4)] [] μ1) :
    JS Z X 48 [(0, .ref (Z.2.2.1 + 285)), (1, .ref (Z.2.2.1 + a1)), (2, .int a2), (3, .int a3), (4, .int a4)] [.int s2, .ref (Z.2.2.1 + s1), .ref (Z.2.2.1 + 92)] μ := by
  refine S_callV (As := [.ref (Z.2.2.1 + s1), .int s2]) (rest := []) E dX1_prepare_48 c kX5_ofRiddle ⟨Nat.le_of_ble_eq_true rfl, Nat.le_of_ble_eq_true rfl⟩ rfl (Nat.le_of_ble_eq_true rfl) sh92 rfl rfl w5_41 w4_175 w4_176 (fun r_ μ1 hp_ => ?_)
  obtain ⟨rfl, hp_⟩ := hp_
  exact k μ1 hp_
theorem bX1_prepare_51 {Z : ZT} {X : XT} {μ : Mu} {a1 : Nat} {a2 : Int32} {a3 : Int32} {a4 : Int32} (E : Ent Z X mX1_prepare 0 0) (ha1 : SH a1 = .inl 4) 
    (k : JS Z X 54 [(0, .ref (Z.2.2.1 + 285)), (1, .ref (Z.2.2.1 + a1)), (2, .int a2), (3, .int a3), (4, .int a4), (5, .int (nI 0))] [] μ) :
    JS Z X 51 [(0, .ref (Z.2.2.1 + 285)), (1, .ref (Z.2.2.1 + a1)), (2, .int a2), (3, .int a3), (4, .int a4)] [] μ := by
  refine J_iconst (v := nI 0) E dX1_prepare_51 rfl ?_
  refine J_istore (lv' := [(0, .ref (Z.2.2.1 + 285)), (1, .ref (Z.2.2.1 + a1)), (2, .int a2), (3, .int a3), (4, .int a4), (5, .int (nI 0))]) E dX1_prepare_52 (Nat.le_of_ble_eq_true rfl) rfl ?_
  exact k
theorem bX1_prepare_54 {Z : ZT} {X : XT} {μ : Mu} {a1 : Nat} {a2 : Int32} {a3 : Int32} {a4 : Int32} {a5 : Int32} (E : Ent Z X mX1_prepare 0 0) (ha1 : SH a1 = .inl 4) 
    (kt : (nI 6) ≤ a5 → JS Z X 87 [(0, .ref (Z.2.2.1 + 285)), (1, .ref (Z.2.2.1 + a1)), (2, .int a2), (3, .int a3)] [] μ) (kf : ¬ ((nI 6) ≤ a5) → JS Z X 61 [(0, .ref (Z.2.2.1 + 285)), (1, .ref (Z.2.2.1 + a1)), (2, .int a2), (3, .int a3), (4, .int a4), (5, .int a5)] [] μ) :
    JS Z X 54 [(0, .ref (Z.2.2.1 + 285)), (1, .ref (Z.2.2.1 + a1)), (2, .int a2), (3, .int a3), (4, .int a4), (5, .int a5)] [] μ := by
  refine J_iload E dX1_prepare_54 rfl ?_
  refine J_bipush (v := nI 6) E dX1_prepare_56 rfl ?_
  refine J_icmp_ge (tgt := 87) E dX1_prepare_58 (by decide) (fun c => ?_) (fun c => ?_)
  · refine J.weak [0, 1, 2, 3] rfl ?_
    exact kt c
  · exact kf c
theorem bX1_prepare_61 {Z : ZT} {X : XT} {μ : Mu} {a1 : Nat} {a2 : Int32} {a3 : Int32} {a4 : Int32} {a5 : Int32} (E : Ent Z X mX1_prepare 0 0) (ha1 : SH a1 = .inl 4) (s1_ : vp_in a5 6) (s2_ : vp_in ((a4 * (nI 6)) + a5) 144)
    (k : JS Z X 81 [(0, .ref (Z.2.2.1 + 285)), (1, .ref (Z.2.2.1 + a1)), (2, .int a2), (3, .int a3), (4, .int a4), (5, .int a5)] [] (uR μ 295 (upd (μ 295) (ix ((a4 * (nI 6)) + a5)) (μ (a1 + 4) (ix a5))))) :
    JS Z X 61 [(0, .ref (Z.2.2.1 + 285)), (1, .ref (Z.2.2.1 + a1)), (2, .int a2), (3, .int a3), (4, .int a4), (5, .int a5)] [] μ := by
  refine J_aload_n E dX1_prepare_61 rfl ?_
  refine S_get (ci := 1) (q := 8) (v := .ref (Z.2.2.1 + 295)) E dX1_prepare_62 fs_X1_35 sh285 rfl ?_
  refine J_iload E dX1_prepare_65 rfl ?_
  refine J_bipush (v := nI 6) E dX1_prepare_67 rfl ?_
  refine J_imul E dX1_prepare_69 ?_
  refine J_iload E dX1_prepare_70 rfl ?_
  refine J_iadd E dX1_prepare_72 ?_
  refine J_aload_n E dX1_prepare_73 rfl ?_
  refine S_get (ci := 4) (q := 8) (v := .ref (Z.2.2.1 + (a1 + 4))) E dX1_prepare_74 fs_X1_87 ha1 rfl ?_
  refine J_iload E dX1_prepare_77 rfl ?_
  refine S_iald E dX1_prepare_79 (shr_X4_8 ha1) s1_ ?_
  refine S_iast E dX1_prepare_80 sh295 s2_ ?_
  exact k
theorem bX1_prepare_81 {Z : ZT} {X : XT} {μ : Mu} {a1 : Nat} {a2 : Int32} {a3 : Int32} {a4 : Int32} {a5 : Int32} (E : Ent Z X mX1_prepare 0 0) (ha1 : SH a1 = .inl 4) 
    (k : JS Z X 54 [(0, .ref (Z.2.2.1 + 285)), (1, .ref (Z.2.2.1 + a1)), (2, .int a2), (3, .int a3), (4, .int a4), (5, .int (a5 + nI 1))] [] μ) :
    JS Z X 81 [(0, .ref (Z.2.2.1 + 285)), (1, .ref (Z.2.2.1 + a1)), (2, .int a2), (3, .int a3), (4, .int a4), (5, .int a5)] [] μ := by
  refine J_iinc (v := a5 + nI 1) (lv' := [(0, .ref (Z.2.2.1 + 285)), (1, .ref (Z.2.2.1 + a1)), (2, .int a2), (3, .int a3), (4, .int a4), (5, .int (a5 + nI 1))]) E dX1_prepare_81 rfl rfl (Nat.le_of_ble_eq_true rfl) rfl ?_
  refine J_goto (tgt := 54) E dX1_prepare_84 (by decide) ?_
  exact k
theorem bX1_prepare_87 {Z : ZT} {X : XT} {μ : Mu} {a1 : Nat} {a2 : Int32} {a3 : Int32} (E : Ent Z X mX1_prepare 0 0) (ha1 : SH a1 = .inl 4) 
    (k : JS Z X 19 [(0, .ref (Z.2.2.1 + 285)), (1, .ref (Z.2.2.1 + a1)), (2, .int a2), (3, .int (a3 + nI 1))] [] μ) :
    JS Z X 87 [(0, .ref (Z.2.2.1 + 285)), (1, .ref (Z.2.2.1 + a1)), (2, .int a2), (3, .int a3)] [] μ := by
  refine J_iinc (v := a3 + nI 1) (lv' := [(0, .ref (Z.2.2.1 + 285)), (1, .ref (Z.2.2.1 + a1)), (2, .int a2), (3, .int (a3 + nI 1))]) E dX1_prepare_87 rfl rfl (Nat.le_of_ble_eq_true rfl) rfl ?_
  refine J_goto (tgt := 19) E dX1_prepare_90 (by decide) ?_
  exact k
theorem bX1_prepare_93 {Z : ZT} {X : XT} {μ : Mu} {a1 : Nat} {a2 : Int32} (E : Ent Z X mX1_prepare 0 0) (ha1 : SH a1 = .inl 4) 
    (k : JS Z X 2 [(0, .ref (Z.2.2.1 + 285)), (1, .ref (Z.2.2.1 + a1)), (2, .int (a2 + nI 1))] [] μ) :
    JS Z X 93 [(0, .ref (Z.2.2.1 + 285)), (1, .ref (Z.2.2.1 + a1)), (2, .int a2)] [] μ := by
  refine J_iinc (v := a2 + nI 1) (lv' := [(0, .ref (Z.2.2.1 + 285)), (1, .ref (Z.2.2.1 + a1)), (2, .int (a2 + nI 1))]) E dX1_prepare_93 rfl rfl (Nat.le_of_ble_eq_true rfl) rfl ?_
  refine J_goto (tgt := 2) E dX1_prepare_96 (by decide) ?_
  exact k
theorem bX1_prepare_99 {Z : ZT} {X : XT} {μ : Mu} {a1 : Nat} (E : Ent Z X mX1_prepare 0 0) (ha1 : SH a1 = .inl 4) {p : Mu → Prop} (s1_ : vp_in (nI 0) 7)
    (c : CtrS Z mX0_set [.ref (Z.2.2.1 + (el 296 (ix (nI 0)))), .int (nI 0)] μ (rV p)) (k : ∀ μ1, p μ1 → JS Z X 109 [(0, .ref (Z.2.2.1 + 285)), (1, .ref (Z.2.2.1 + a1))] [] μ1) :
    JS Z X 99 [(0, .ref (Z.2.2.1 + 285)), (1, .ref (Z.2.2.1 + a1))] [] μ := by
  refine J_aload_n E dX1_prepare_99 rfl ?_
  refine S_get (ci := 1) (q := 9) (v := .ref (Z.2.2.1 + 296)) E dX1_prepare_100 fs_X1_38 sh285 rfl ?_
  refine J_iconst (v := nI 0) E dX1_prepare_103 rfl ?_
  refine S_aald (t := 0) E dX1_prepare_104 sh296 rfl s1_ (by decide) ?_
  refine J_iconst (v := nI 0) E dX1_prepare_105 rfl ?_
  refine S_callV (As := [.int (nI 0)]) (rest := []) E dX1_prepare_106 c kX0_set ⟨Nat.le_of_ble_eq_true rfl, Nat.le_of_ble_eq_true rfl⟩ rfl (Nat.le_of_ble_eq_true rfl) (she296 (vpl s1_)) rfl rfl w5_42 w2_180 w2_181 (fun r_ μ1 hp_ => ?_)
  obtain ⟨rfl, hp_⟩ := hp_
  exact k μ1 hp_
theorem bX1_prepare_109 {Z : ZT} {X : XT} {μ : Mu} {a1 : Nat} (E : Ent Z X mX1_prepare 0 0) (ha1 : SH a1 = .inl 4) {p : Mu → Prop} (s1_ : vp_in (nI 0) 7)
    (c : CtrS Z mX0_addTimes [.ref (Z.2.2.1 + (el 296 (ix (nI 0)))), .ref (Z.2.2.1 + 93), .int (μ a1 11)] μ (rV p)) (k : ∀ μ1, p μ1 → JS Z X 129 [] [] μ1) :
    JS Z X 109 [(0, .ref (Z.2.2.1 + 285)), (1, .ref (Z.2.2.1 + a1))] [] μ := by
  refine J_aload_n E dX1_prepare_109 rfl ?_
  refine S_get (ci := 1) (q := 9) (v := .ref (Z.2.2.1 + 296)) E dX1_prepare_110 fs_X1_38 sh285 rfl ?_
  refine J_iconst (v := nI 0) E dX1_prepare_113 rfl ?_
  refine S_aald (t := 0) E dX1_prepare_114 sh296 rfl s1_ (by decide) ?_
  refine J_aload_n E dX1_prepare_115 rfl ?_
  refine S_get (ci := 1) (q := 1) (v := .ref (Z.2.2.1 + 92)) E dX1_prepare_116 fs_X1_51 sh285 rfl ?_
  refine S_get (ci := 5) (q := 3) (v := .ref (Z.2.2.1 + 93)) E dX1_prepare_119 fs_X1_91 sh92 rfl ?_
  refine J_aload_n E dX1_prepare_122 rfl ?_
  refine S_get (ci := 4) (q := 11) (v := .int (μ a1 11)) E dX1_prepare_123 fs_X1_94 ha1 rfl ?_
  refine S_callV (As := [.ref (Z.2.2.1 + 93), .int (μ a1 11)]) (rest := []) E dX1_prepare_126 c kX0_addTimes ⟨Nat.le_of_ble_eq_true rfl, Nat.le_of_ble_eq_true rfl⟩ rfl (Nat.le_of_ble_eq_true rfl) (she296 (vpl s1_)) rfl rfl w5_43 w4_163 w4_164 (fun r_ μ1 hp_ => ?_)
  obtain ⟨rfl, hp_⟩ := hp_
  refine J.weak [] rfl ?_
  exact k μ1 hp_
theorem bX1_prepare_129 {Z : ZT} {X : XT} {μ : Mu} (E : Ent Z X mX1_prepare 0 0) {P : Option Value → Mu → Prop} (hB : BodS Z X P) 
    (k : P none μ) :
    JS Z X 129 [] [] μ := by
  exact S_vret E hB dX1_prepare_129 rfl k
theorem dX1_addPlace_0 : decode cX1_addPlace 0 = .ok (.iload_n 1, 1) := by decide +kernel
theorem dX1_addPlace_1 : decode cX1_addPlace 1 = .ok (.iconst 4, 1) := by decide +kernel
theorem dX1_addPlace_2 : decode cX1_addPlace 2 = .ok (.imul, 1) := by decide +kernel
theorem dX1_addPlace_3 : decode cX1_addPlace 3 = .ok (.aload_n 0, 1) := by decide +kernel
theorem dX1_addPlace_4 : decode cX1_addPlace 4 = .ok (.getfield 28, 3) := by decide +kernel
theorem dX1_addPlace_7 : decode cX1_addPlace 7 = .ok (.iload_n 1, 1) := by decide +kernel
theorem dX1_addPlace_8 : decode cX1_addPlace 8 = .ok (.iaload, 1) := by decide +kernel
theorem dX1_addPlace_9 : decode cX1_addPlace 9 = .ok (.iadd, 1) := by decide +kernel
theorem dX1_addPlace_10 : decode cX1_addPlace 10 = .ok (.istore_n 2, 1) := by decide +kernel
theorem dX1_addPlace_11 : decode cX1_addPlace 11 = .ok (.aload_n 0, 1) := by decide +kernel
theorem dX1_addPlace_12 : decode cX1_addPlace 12 = .ok (.getfield 38, 3) := by decide +kernel
theorem dX1_addPlace_15 : decode cX1_addPlace 15 = .ok (.iload_n 1, 1) := by decide +kernel
theorem dX1_addPlace_16 : decode cX1_addPlace 16 = .ok (.iconst 1, 1) := by decide +kernel
theorem dX1_addPlace_17 : decode cX1_addPlace 17 = .ok (.iadd, 1) := by decide +kernel
theorem dX1_addPlace_18 : decode cX1_addPlace 18 = .ok (.aaload, 1) := by decide +kernel
theorem dX1_addPlace_19 : decode cX1_addPlace 19 = .ok (.aload_n 0, 1) := by decide +kernel
theorem dX1_addPlace_20 : decode cX1_addPlace 20 = .ok (.getfield 38, 3) := by decide +kernel
theorem dX1_addPlace_23 : decode cX1_addPlace 23 = .ok (.iload_n 1, 1) := by decide +kernel
theorem dX1_addPlace_24 : decode cX1_addPlace 24 = .ok (.aaload, 1) := by decide +kernel
theorem dX1_addPlace_25 : decode cX1_addPlace 25 = .ok (.invokevirtual 100, 3) := by decide +kernel
theorem dX1_addPlace_28 : decode cX1_addPlace 28 = .ok (.aload_n 0, 1) := by decide +kernel
theorem dX1_addPlace_29 : decode cX1_addPlace 29 = .ok (.getfield 38, 3) := by decide +kernel
theorem dX1_addPlace_32 : decode cX1_addPlace 32 = .ok (.iload_n 1, 1) := by decide +kernel
theorem dX1_addPlace_33 : decode cX1_addPlace 33 = .ok (.iconst 1, 1) := by decide +kernel
theorem dX1_addPlace_34 : decode cX1_addPlace 34 = .ok (.iadd, 1) := by decide +kernel
theorem dX1_addPlace_35 : decode cX1_addPlace 35 = .ok (.aaload, 1) := by decide +kernel
theorem dX1_addPlace_36 : decode cX1_addPlace 36 = .ok (.aload_n 0, 1) := by decide +kernel
theorem dX1_addPlace_37 : decode cX1_addPlace 37 = .ok (.getfield 31, 3) := by decide +kernel
theorem dX1_addPlace_40 : decode cX1_addPlace 40 = .ok (.iload_n 2, 1) := by decide +kernel
theorem dX1_addPlace_41 : decode cX1_addPlace 41 = .ok (.aaload, 1) := by decide +kernel
theorem dX1_addPlace_42 : decode cX1_addPlace 42 = .ok (.iconst 1, 1) := by decide +kernel
theorem dX1_addPlace_43 : decode cX1_addPlace 43 = .ok (.invokevirtual 97, 3) := by decide +kernel
theorem dX1_addPlace_46 : decode cX1_addPlace 46 = .ok (.iconst 0, 1) := by decide +kernel
theorem dX1_addPlace_47 : decode cX1_addPlace 47 = .ok (.istore_n 3, 1) := by decide +kernel
theorem dX1_addPlace_48 : decode cX1_addPlace 48 = .ok (.iload_n 3, 1) := by decide +kernel
theorem dX1_addPlace_49 : decode cX1_addPlace 49 = .ok (.aload_n 0, 1) := by decide +kernel
theorem dX1_addPlace_50 : decode cX1_addPlace 50 = .ok (.getfield 47, 3) := by decide +kernel
theorem dX1_addPlace_53 : decode cX1_addPlace 53 = .ok (.getfield 104, 3) := by decide +kernel
theorem dX1_addPlace_56 : decode cX1_addPlace 56 = .ok (.if_icmp .ge 62, 3) := by decide +kernel
theorem dX1_addPlace_59 : decode cX1_addPlace 59 = .ok (.aload_n 0, 1) := by decide +kernel
theorem dX1_addPlace_60 : decode cX1_addPlace 60 = .ok (.getfield 41, 3) := by decide +kernel
theorem dX1_addPlace_63 : decode cX1_addPlace 63 = .ok (.iload_n 1, 1) := by decide +kernel
theorem dX1_addPlace_64 : decode cX1_addPlace 64 = .ok (.iconst 1, 1) := by decide +kernel
theorem dX1_addPlace_65 : decode cX1_addPlace 65 = .ok (.iadd, 1) := by decide +kernel
theorem dX1_addPlace_66 : decode cX1_addPlace 66 = .ok (.bipush 6, 2) := by decide +kernel
theorem dX1_addPlace_68 : decode cX1_addPlace 68 = .ok (.imul, 1) := by decide +kernel
theorem dX1_addPlace_69 : decode cX1_addPlace 69 = .ok (.iload_n 3, 1) := by decide +kernel
theorem dX1_addPlace_70 : decode cX1_addPlace 70 = .ok (.iadd, 1) := by decide +kernel
theorem dX1_addPlace_71 : decode cX1_addPlace 71 = .ok (.aaload, 1) := by decide +kernel
theorem dX1_addPlace_72 : decode cX1_addPlace 72 = .ok (.astore 4, 2) := by decide +kernel
theorem dX1_addPlace_74 : decode cX1_addPlace 74 = .ok (.aload 4, 2) := by decide +kernel
theorem dX1_addPlace_76 : decode cX1_addPlace 76 = .ok (.aload_n 0, 1) := by decide +kernel
theorem dX1_addPlace_77 : decode cX1_addPlace 77 = .ok (.getfield 41, 3) := by decide +kernel
theorem dX1_addPlace_80 : decode cX1_addPlace 80 = .ok (.iload_n 1, 1) := by decide +kernel
theorem dX1_addPlace_81 : decode cX1_addPlace 81 = .ok (.bipush 6, 2) := by decide +kernel
theorem dX1_addPlace_83 : decode cX1_addPlace 83 = .ok (.imul, 1) := by decide +kernel
theorem dX1_addPlace_84 : decode cX1_addPlace 84 = .ok (.iload_n 3, 1) := by decide +kernel
theorem dX1_addPlace_85 : decode cX1_addPlace 85 = .ok (.iadd, 1) := by decide +kernel
theorem dX1_addPlace_86 : decode cX1_addPlace 86 = .ok (.aaload, 1) := by decide +kernel
theorem dX1_addPlace_87 : decode cX1_addPlace 87 = .ok (.invokevirtual 100, 3) := by decide +kernel
theorem dX1_addPlace_90 : decode cX1_addPlace 90 = .ok (.aload 4, 2) := by decide +kernel
theorem dX1_addPlace_92 : decode cX1_addPlace 92 = .ok (.aload_n 0, 1) := by decide +kernel
theorem dX1_addPlace_93 : decode cX1_addPlace 93 = .ok (.getfield 31, 3) := by decide +kernel
theorem dX1_addPlace_96 : decode cX1_addPlace 96 = .ok (.iload_n 2, 1) := by decide +kernel
theorem dX1_addPlace_97 : decode cX1_addPlace 97 = .ok (.aaload, 1) := by decide +kernel
theorem dX1_addPlace_98 : decode cX1_addPlace 98 = .ok (.aload_n 0, 1) := by decide +kernel
theorem dX1_addPlace_99 : decode cX1_addPlace 99 = .ok (.getfield 35, 3) := by decide +kernel
theorem dX1_addPlace_102 : decode cX1_addPlace 102 = .ok (.iload_n 2, 1) := by decide +kernel
theorem dX1_addPlace_103 : decode cX1_addPlace 103 = .ok (.bipush 6, 2) := by decide +kernel
theorem dX1_addPlace_105 : decode cX1_addPlace 105 = .ok (.imul, 1) := by decide +kernel
theorem dX1_addPlace_106 : decode cX1_addPlace 106 = .ok (.iload_n 3, 1) := by decide +kernel
theorem dX1_addPlace_107 : decode cX1_addPlace 107 = .ok (.iadd, 1) := by decide +kernel
theorem dX1_addPlace_108 : decode cX1_addPlace 108 = .ok (.iaload, 1) := by decide +kernel
theorem dX1_addPlace_109 : decode cX1_addPlace 109 = .ok (.invokevirtual 97, 3) := by decide +kernel
theorem dX1_addPlace_112 : decode cX1_addPlace 112 = .ok (.iinc 3 1, 3) := by decide +kernel
theorem dX1_addPlace_115 : decode cX1_addPlace 115 = .ok (.goto (-67), 3) := by decide +kernel
theorem dX1_addPlace_118 : decode cX1_addPlace 118 = .ok (.return_, 1) := by decide +kernel
theorem bX1_addPlace_0 {Z : ZT} {X : XT} {μ : Mu} {a1 : Int32} (E : Ent Z X mX1_addPlace 0 0) {p : Mu → Prop} (s1_ : vp_in a1 6) (s2_ : vp_in (a1 + (nI 1)) 7) (s3_ : vp_in a1 7)
    (c : CtrS Z mX0_copy [.ref (Z.2.2.1 + (el 296 (ix (a1 + (nI 1))))), .ref (Z.2.2.1 + (el 296 (ix a1)))] μ (rV p)) (k : ∀ μ1, p μ1 → JS Z X 28 [(0, .ref (Z.2.2.1 + 285)), (1, .int a1), (2, .int ((a1 * (nI 4)) + (μ 293 (ix a1))))] [] μ1) :
    JS Z X 0 [(0, .ref (Z.2.2.1 + 285)), (1, .int a1)] [] μ := by
  refine J_iload_n E dX1_addPlace_0 rfl ?_
  refine J_iconst (v := nI 4) E dX1_addPlace_1 rfl ?_
  refine J_imul E dX1_addPlace_2 ?_
  refine J_aload_n E dX1_addPlace_3 rfl ?_
  refine S_get (ci := 1) (q := 6) (v := .ref (Z.2.2.1 + 293)) E dX1_addPlace_4 fs_X1_28 sh285 rfl ?_
  refine J_iload_n E dX1_addPlace_7 rfl ?_
  refine S_iald E dX1_addPlace_8 sh293 s1_ ?_
  refine J_iadd E dX1_addPlace_9 ?_
  refine J_istore_n (lv' := [(0, .ref (Z.2.2.1 + 285)), (1, .int a1), (2, .int ((a1 * (nI 4)) + (μ 293 (ix a1))))]) E dX1_addPlace_10 (Nat.le_of_ble_eq_true rfl) rfl ?_
  refine J_aload_n E dX1_addPlace_11 rfl ?_
  refine S_get (ci := 1) (q := 9) (v := .ref (Z.2.2.1 + 296)) E dX1_addPlace_12 fs_X1_38 sh285 rfl ?_
  refine J_iload_n E dX1_addPlace_15 rfl ?_
  refine J_iconst (v := nI 1) E dX1_addPlace_16 rfl ?_
  refine J_iadd E dX1_addPlace_17 ?_
  refine S_aald (t := 0) E dX1_addPlace_18 sh296 rfl s2_ (by decide) ?_
  refine J_aload_n E dX1_addPlace_19 rfl ?_
  refine S_get (ci := 1) (q := 9) (v := .ref (Z.2.2.1 + 296)) E dX1_addPlace_20 fs_X1_38 sh285 rfl ?_
  refine J_iload_n E dX1_addPlace_23 rfl ?_
  refine S_aald (t := 0) E dX1_addPlace_24 sh296 rfl s3_ (by decide) ?_
  refine S_callV (As := [.ref (Z.2.2.1 + (el 296 (ix a1)))]) (rest := []) E dX1_addPlace_25 c kX0_copy ⟨Nat.le_of_ble_eq_true rfl, Nat.le_of_ble_eq_true rfl⟩ rfl (Nat.le_of_ble_eq_true rfl) (she296 (vpl s2_)) rfl rfl w5_48 w4_127 w4_128 (fun r_ μ1 hp_ => ?_)
  obtain ⟨rfl, hp_⟩ := hp_
  exact k μ1 hp_
theorem bX1_addPlace_28 {Z : ZT} {X : XT} {μ : Mu} {a1 : Int32} {a2 : Int32} (E : Ent Z X mX1_addPlace 0 0) {p : Mu → Prop} (s1_ : vp_in (a1 + (nI 1)) 7) (s2_ : vp_in a2 24)
    (c : CtrS Z mX0_addTimes [.ref (Z.2.2.1 + (el 296 (ix (a1 + (nI 1))))), .ref (Z.2.2.1 + (el 294 (ix a2))), .int (nI 1)] μ (rV p)) (k : ∀ μ1, p μ1 → JS Z X 46 [(0, .ref (Z.2.2.1 + 285)), (1, .int a1), (2, .int a2)] [] μ1) :
    JS Z X 28 [(0, .ref (Z.2.2.1 + 285)), (1, .int a1), (2, .int a2)] [] μ := by
  refine J_aload_n E dX1_addPlace_28 rfl ?_
  refine S_get (ci := 1) (q := 9) (v := .ref (Z.2.2.1 + 296)) E dX1_addPlace_29 fs_X1_38 sh285 rfl ?_
  refine J_iload_n E dX1_addPlace_32 rfl ?_
  refine J_iconst (v := nI 1) E dX1_addPlace_33 rfl ?_
  refine J_iadd E dX1_addPlace_34 ?_
  refine S_aald (t := 0) E dX1_addPlace_35 sh296 rfl s1_ (by decide) ?_
  refine J_aload_n E dX1_addPlace_36 rfl ?_
  refine S_get (ci := 1) (q := 7) (v := .ref (Z.2.2.1 + 294)) E dX1_addPlace_37 fs_X1_31 sh285 rfl ?_
  refine J_iload_n E dX1_addPlace_40 rfl ?_
  refine S_aald (t := 0) E dX1_addPlace_41 sh294 rfl s2_ (by decide) ?_
  refine J_iconst (v := nI 1) E dX1_addPlace_42 rfl ?_
  refine S_callV (As := [.ref (Z.2.2.1 + (el 294 (ix a2))), .int (nI 1)]) (rest := []) E dX1_addPlace_43 c kX0_addTimes ⟨Nat.le_of_ble_eq_true rfl, Nat.le_of_ble_eq_true rfl⟩ rfl (Nat.le_of_ble_eq_true rfl) (she296 (vpl s1_)) rfl rfl w5_43 w4_163 w4_164 (fun r_ μ1 hp_ => ?_)
  obtain ⟨rfl, hp_⟩ := hp_
  exact k μ1 hp_
theorem bX1_addPlace_46 {Z : ZT} {X : XT} {μ : Mu} {a1 : Int32} {a2 : Int32} (E : Ent Z X mX1_addPlace 0 0)  
    (k : JS Z X 48 [(0, .ref (Z.2.2.1 + 285)), (1, .int a1), (2, .int a2), (3, .int (nI 0))] [] μ) :
    JS Z X 46 [(0, .ref (Z.2.2.1 + 285)), (1, .int a1), (2, .int a2)] [] μ := by
  refine J_iconst (v := nI 0) E dX1_addPlace_46 rfl ?_
  refine J_istore_n (lv' := [(0, .ref (Z.2.2.1 + 285)), (1, .int a1), (2, .int a2), (3, .int (nI 0))]) E dX1_addPlace_47 (Nat.le_of_ble_eq_true rfl) rfl ?_
  exact k
theorem bX1_addPlace_48 {Z : ZT} {X : XT} {μ : Mu} {a1 : Int32} {a2 : Int32} {a3 : Int32} (E : Ent Z X mX1_addPlace 0 0)  
    (kt : (μ 1 3) ≤ a3 → JS Z X 118 [] [] μ) (kf : ¬ ((μ 1 3) ≤ a3) → JS Z X 59 [(0, .ref (Z.2.2.1 + 285)), (1, .int a1), (2, .int a2), (3, .int a3)] [] μ) :
    JS Z X 48 [(0, .ref (Z.2.2.1 + 285)), (1, .int a1), (2, .int a2), (3, .int a3)] [] μ := by
  refine J_iload_n E dX1_addPlace_48 rfl ?_
  refine J_aload_n E dX1_addPlace_49 rfl ?_
  refine S_get (ci := 1) (q := 0) (v := .ref (Z.2.2.1 + 1)) E dX1_addPlace_50 fs_X1_47 sh285 rfl ?_
  refine S_get (ci := 3) (q := 3) (v := .int (μ 1 3)) E dX1_addPlace_53 fs_X1_104 sh1 rfl ?_
  refine J_icmp_ge (tgt := 118) E dX1_addPlace_56 (by decide) (fun c => ?_) (fun c => ?_)
  · refine J.weak [] rfl ?_
    exact kt c
  · exact kf c
theorem bX1_addPlace_59 {Z : ZT} {X : XT} {μ : Mu} {a1 : Int32} {a2 : Int32} {a3 : Int32} (E : Ent Z X mX1_addPlace 0 0) {p : Mu → Prop} (s1_ : vp_in (((a1 + (nI 1)) * (nI 6)) + a3) 42) (s2_ : vp_in ((a1 * (nI 6)) + a3) 42)
    (c : CtrS Z mX0_copy [.ref (Z.2.2.1 + (el 297 (ix (((a1 + (nI 1)) * (nI 6)) + a3)))), .ref (Z.2.2.1 + (el 297 (ix ((a1 * (nI 6)) + a3))))] μ (rV p)) (k : ∀ μ1, p μ1 → JS Z X 90 [(0, .ref (Z.2.2.1 + 285)), (1, .int a1), (2, .int a2), (3, .int a3), (4, .ref (Z.2.2.1 + (el 297 (ix (((a1 + (nI 1)) * (nI 6)) + a3)))))] [] μ1) :
    JS Z X 59 [(0, .ref (Z.2.2.1 + 285)), (1, .int a1), (2, .int a2), (3, .int a3)] [] μ := by
  refine J_aload_n E dX1_addPlace_59 rfl ?_
  refine S_get (ci := 1) (q := 10) (v := .ref (Z.2.2.1 + 297)) E dX1_addPlace_60 fs_X1_41 sh285 rfl ?_
  refine J_iload_n E dX1_addPlace_63 rfl ?_
  refine J_iconst (v := nI 1) E dX1_addPlace_64 rfl ?_
  refine J_iadd E dX1_addPlace_65 ?_
  refine J_bipush (v := nI 6) E dX1_addPlace_66 rfl ?_
  refine J_imul E dX1_addPlace_68 ?_
  refine J_iload_n E dX1_addPlace_69 rfl ?_
  refine J_iadd E dX1_addPlace_70 ?_
  refine S_aald (t := 0) E dX1_addPlace_71 sh297 rfl s1_ (by decide) ?_
  refine J_astore (lv' := [(0, .ref (Z.2.2.1 + 285)), (1, .int a1), (2, .int a2), (3, .int a3), (4, .ref (Z.2.2.1 + (el 297 (ix (((a1 + (nI 1)) * (nI 6)) + a3)))))]) E dX1_addPlace_72 (Nat.le_of_ble_eq_true rfl) rfl ?_
  refine J_aload E dX1_addPlace_74 rfl ?_
  refine J_aload_n E dX1_addPlace_76 rfl ?_
  refine S_get (ci := 1) (q := 10) (v := .ref (Z.2.2.1 + 297)) E dX1_addPlace_77 fs_X1_41 sh285 rfl ?_
  refine J_iload_n E dX1_addPlace_80 rfl ?_
  refine J_bipush (v := nI 6) E dX1_addPlace_81 rfl ?_
  refine J_imul E dX1_addPlace_83 ?_
  refine J_iload_n E dX1_addPlace_84 rfl ?_
  refine J_iadd E dX1_addPlace_85 ?_
  refine S_aald (t := 0) E dX1_addPlace_86 sh297 rfl s2_ (by decide) ?_
  refine S_callV (As := [.ref (Z.2.2.1 + (el 297 (ix ((a1 * (nI 6)) + a3))))]) (rest := []) E dX1_addPlace_87 c kX0_copy ⟨Nat.le_of_ble_eq_true rfl, Nat.le_of_ble_eq_true rfl⟩ rfl (Nat.le_of_ble_eq_true rfl) (she297 (vpl s1_)) rfl rfl w5_48 w4_127 w4_128 (fun r_ μ1 hp_ => ?_)
  obtain ⟨rfl, hp_⟩ := hp_
  exact k μ1 hp_
theorem bX1_addPlace_90 {Z : ZT} {X : XT} {μ : Mu} {a1 : Int32} {a2 : Int32} {a3 : Int32} {a4 : Nat} (E : Ent Z X mX1_addPlace 0 0) (ha4 : SH a4 = .inl 0) {p : Mu → Prop} (s1_ : vp_in a2 24) (s2_ : vp_in ((a2 * (nI 6)) + a3) 144)
    (c : CtrS Z mX0_addTimes [.ref (Z.2.2.1 + a4), .ref (Z.2.2.1 + (el 294 (ix a2))), .int (μ 295 (ix ((a2 * (nI 6)) + a3)))] μ (rV p)) (k : ∀ μ1, p μ1 → JS Z X 112 [(0, .ref (Z.2.2.1 + 285)), (1, .int a1), (2, .int a2), (3, .int a3)] [] μ1) :
    JS Z X 90 [(0, .ref (Z.2.2.1 + 285)), (1, .int a1), (2, .int a2), (3, .int a3), (4, .ref (Z.2.2.1 + a4))] [] μ := by
  refine J_aload E dX1_addPlace_90 rfl ?_
  refine J_aload_n E dX1_addPlace_92 rfl ?_
  refine S_get (ci := 1) (q := 7) (v := .ref (Z.2.2.1 + 294)) E dX1_addPlace_93 fs_X1_31 sh285 rfl ?_
  refine J_iload_n E dX1_addPlace_96 rfl ?_
  refine S_aald (t := 0) E dX1_addPlace_97 sh294 rfl s1_ (by decide) ?_
  refine J_aload_n E dX1_addPlace_98 rfl ?_
  refine S_get (ci := 1) (q := 8) (v := .ref (Z.2.2.1 + 295)) E dX1_addPlace_99 fs_X1_35 sh285 rfl ?_
  refine J_iload_n E dX1_addPlace_102 rfl ?_
  refine J_bipush (v := nI 6) E dX1_addPlace_103 rfl ?_
  refine J_imul E dX1_addPlace_105 ?_
  refine J_iload_n E dX1_addPlace_106 rfl ?_
  refine J_iadd E dX1_addPlace_107 ?_
  refine S_iald E dX1_addPlace_108 sh295 s2_ ?_
  refine S_callV (As := [.ref (Z.2.2.1 + (el 294 (ix a2))), .int (μ 295 (ix ((a2 * (nI 6)) + a3)))]) (rest := []) E dX1_addPlace_109 c kX0_addTimes ⟨Nat.le_of_ble_eq_true rfl, Nat.le_of_ble_eq_true rfl⟩ rfl (Nat.le_of_ble_eq_true rfl) ha4 rfl rfl w5_43 w4_163 w4_164 (fun r_ μ1 hp_ => ?_)
  obtain ⟨rfl, hp_⟩ := hp_
  refine J.weak [0, 1, 2, 3] rfl ?_
  exact k μ1 hp_
theorem bX1_addPlace_112 {Z : ZT} {X : XT} {μ : Mu} {a1 : Int32} {a2 : Int32} {a3 : Int32} (E : Ent Z X mX1_addPlace 0 0)  
    (k : JS Z X 48 [(0, .ref (Z.2.2.1 + 285)), (1, .int a1), (2, .int a2), (3, .int (a3 + nI 1))] [] μ) :
    JS Z X 112 [(0, .ref (Z.2.2.1 + 285)), (1, .int a1), (2, .int a2), (3, .int a3)] [] μ := by
  refine J_iinc (v := a3 + nI 1) (lv' := [(0, .ref (Z.2.2.1 + 285)), (1, .int a1), (2, .int a2), (3, .int (a3 + nI 1))]) E dX1_addPlace_112 rfl rfl (Nat.le_of_ble_eq_true rfl) rfl ?_
  refine J_goto (tgt := 48) E dX1_addPlace_115 (by decide) ?_
  exact k
theorem bX1_addPlace_118 {Z : ZT} {X : XT} {μ : Mu} (E : Ent Z X mX1_addPlace 0 0) {P : Option Value → Mu → Prop} (hB : BodS Z X P) 
    (k : P none μ) :
    JS Z X 118 [] [] μ := by
  exact S_vret E hB dX1_addPlace_118 rfl k
theorem dX1_judge_0 : decode cX1_judge 0 = .ok (.aload_n 0, 1) := by decide +kernel
theorem dX1_judge_1 : decode cX1_judge 1 = .ok (.aload_n 1, 1) := by decide +kernel
theorem dX1_judge_2 : decode cX1_judge 2 = .ok (.invokevirtual 109, 3) := by decide +kernel
theorem dX1_judge_5 : decode cX1_judge 5 = .ok (.astore_n 3, 1) := by decide +kernel
theorem dX1_judge_6 : decode cX1_judge 6 = .ok (.iload_n 2, 1) := by decide +kernel
theorem dX1_judge_7 : decode cX1_judge 7 = .ok (.ifCond .eq 7, 3) := by decide +kernel
theorem dX1_judge_10 : decode cX1_judge 10 = .ok (.iconst 1, 1) := by decide +kernel
theorem dX1_judge_11 : decode cX1_judge 11 = .ok (.goto 11, 3) := by decide +kernel
theorem dX1_judge_14 : decode cX1_judge 14 = .ok (.aload_n 3, 1) := by decide +kernel
theorem dX1_judge_15 : decode cX1_judge 15 = .ok (.aload_n 0, 1) := by decide +kernel
theorem dX1_judge_16 : decode cX1_judge 16 = .ok (.getfield 18, 3) := by decide +kernel
theorem dX1_judge_19 : decode cX1_judge 19 = .ok (.invokevirtual 113, 3) := by decide +kernel
theorem dX1_judge_22 : decode cX1_judge 22 = .ok (.istore 4, 2) := by decide +kernel
theorem dX1_judge_24 : decode cX1_judge 24 = .ok (.iload 4, 2) := by decide +kernel
theorem dX1_judge_26 : decode cX1_judge 26 = .ok (.ifCond .ge 4, 3) := by decide +kernel
theorem dX1_judge_29 : decode cX1_judge 29 = .ok (.return_, 1) := by decide +kernel
theorem dX1_judge_30 : decode cX1_judge 30 = .ok (.aload_n 0, 1) := by decide +kernel
theorem dX1_judge_31 : decode cX1_judge 31 = .ok (.getfield 25, 3) := by decide +kernel
theorem dX1_judge_34 : decode cX1_judge 34 = .ok (.aload_n 0, 1) := by decide +kernel
theorem dX1_judge_35 : decode cX1_judge 35 = .ok (.getfield 38, 3) := by decide +kernel
theorem dX1_judge_38 : decode cX1_judge 38 = .ok (.aload_n 1, 1) := by decide +kernel
theorem dX1_judge_39 : decode cX1_judge 39 = .ok (.getfield 59, 3) := by decide +kernel
theorem dX1_judge_42 : decode cX1_judge 42 = .ok (.aaload, 1) := by decide +kernel
theorem dX1_judge_43 : decode cX1_judge 43 = .ok (.aload_n 0, 1) := by decide +kernel
theorem dX1_judge_44 : decode cX1_judge 44 = .ok (.getfield 51, 3) := by decide +kernel
theorem dX1_judge_47 : decode cX1_judge 47 = .ok (.getfield 117, 3) := by decide +kernel
theorem dX1_judge_50 : decode cX1_judge 50 = .ok (.invokevirtual 120, 3) := by decide +kernel
theorem dX1_judge_53 : decode cX1_judge 53 = .ok (.iload 4, 2) := by decide +kernel
theorem dX1_judge_55 : decode cX1_judge 55 = .ok (.ifCond .gt 17, 3) := by decide +kernel
theorem dX1_judge_58 : decode cX1_judge 58 = .ok (.aload_n 0, 1) := by decide +kernel
theorem dX1_judge_59 : decode cX1_judge 59 = .ok (.getfield 25, 3) := by decide +kernel
theorem dX1_judge_62 : decode cX1_judge 62 = .ok (.aload_n 0, 1) := by decide +kernel
theorem dX1_judge_63 : decode cX1_judge 63 = .ok (.getfield 22, 3) := by decide +kernel
theorem dX1_judge_66 : decode cX1_judge 66 = .ok (.invokevirtual 113, 3) := by decide +kernel
theorem dX1_judge_69 : decode cX1_judge 69 = .ok (.ifCond .ge 54, 3) := by decide +kernel
theorem dX1_judge_72 : decode cX1_judge 72 = .ok (.aload_n 0, 1) := by decide +kernel
theorem dX1_judge_73 : decode cX1_judge 73 = .ok (.getfield 18, 3) := by decide +kernel
theorem dX1_judge_76 : decode cX1_judge 76 = .ok (.aload_n 3, 1) := by decide +kernel
theorem dX1_judge_77 : decode cX1_judge 77 = .ok (.invokevirtual 100, 3) := by decide +kernel
theorem dX1_judge_80 : decode cX1_judge 80 = .ok (.aload_n 0, 1) := by decide +kernel
theorem dX1_judge_81 : decode cX1_judge 81 = .ok (.getfield 22, 3) := by decide +kernel
theorem dX1_judge_84 : decode cX1_judge 84 = .ok (.aload_n 0, 1) := by decide +kernel
theorem dX1_judge_85 : decode cX1_judge 85 = .ok (.getfield 25, 3) := by decide +kernel
theorem dX1_judge_88 : decode cX1_judge 88 = .ok (.invokevirtual 100, 3) := by decide +kernel
theorem dX1_judge_91 : decode cX1_judge 91 = .ok (.iconst 0, 1) := by decide +kernel
theorem dX1_judge_92 : decode cX1_judge 92 = .ok (.istore 5, 2) := by decide +kernel
theorem dX1_judge_94 : decode cX1_judge 94 = .ok (.iload 5, 2) := by decide +kernel
theorem dX1_judge_96 : decode cX1_judge 96 = .ok (.aload_n 1, 1) := by decide +kernel
theorem dX1_judge_97 : decode cX1_judge 97 = .ok (.getfield 59, 3) := by decide +kernel
theorem dX1_judge_100 : decode cX1_judge 100 = .ok (.if_icmp .ge 23, 3) := by decide +kernel
theorem dX1_judge_103 : decode cX1_judge 103 = .ok (.aload_n 0, 1) := by decide +kernel
theorem dX1_judge_104 : decode cX1_judge 104 = .ok (.getfield 9, 3) := by decide +kernel
theorem dX1_judge_107 : decode cX1_judge 107 = .ok (.iload 5, 2) := by decide +kernel
theorem dX1_judge_109 : decode cX1_judge 109 = .ok (.aload_n 0, 1) := by decide +kernel
theorem dX1_judge_110 : decode cX1_judge 110 = .ok (.getfield 28, 3) := by decide +kernel
theorem dX1_judge_113 : decode cX1_judge 113 = .ok (.iload 5, 2) := by decide +kernel
theorem dX1_judge_115 : decode cX1_judge 115 = .ok (.iaload, 1) := by decide +kernel
theorem dX1_judge_116 : decode cX1_judge 116 = .ok (.iastore, 1) := by decide +kernel
theorem dX1_judge_117 : decode cX1_judge 117 = .ok (.iinc 5 1, 3) := by decide +kernel
theorem dX1_judge_120 : decode cX1_judge 120 = .ok (.goto (-26), 3) := by decide +kernel
theorem dX1_judge_123 : decode cX1_judge 123 = .ok (.return_, 1) := by decide +kernel
theorem bX1_judge_0 {Z : ZT} {X : XT} {μ : Mu} {a1 : Nat} {a2 : Int32} (E : Ent Z X mX1_judge 0 0) (ha1 : SH a1 = .inl 4) {p : Nat → Mu → Prop} 
    (c : CtrS Z mX1_leastGuessed [.ref (Z.2.2.1 + 285), .ref (Z.2.2.1 + a1)] μ (rR Z p)) (k : ∀ v μ1, p v μ1 → JS Z X 5 [(0, .ref (Z.2.2.1 + 285)), (1, .ref (Z.2.2.1 + a1)), (2, .int a2)] [.ref (Z.2.2.1 + v)] μ1) :
    JS Z X 0 [(0, .ref (Z.2.2.1 + 285)), (1, .ref (Z.2.2.1 + a1)), (2, .int a2)] [] μ := by
  refine J_aload_n E dX1_judge_0 rfl ?_
  refine J_aload_n E dX1_judge_1 rfl ?_
  refine S_callV (As := [.ref (Z.2.2.1 + a1)]) (rest := []) E dX1_judge_2 c kX1_leastGuessed ⟨Nat.le_of_ble_eq_true rfl, Nat.le_of_ble_eq_true rfl⟩ rfl (Nat.le_of_ble_eq_true rfl) sh285 rfl rfl w5_53 w5_55 wp_26 (fun r_ μ1 hp_ => ?_)
  obtain ⟨v, rfl, hp_⟩ := hp_
  exact k v μ1 hp_
theorem bX1_judge_5 {Z : ZT} {X : XT} {μ : Mu} {a1 : Nat} {a2 : Int32} {s0 : Nat} (E : Ent Z X mX1_judge 0 0) (ha1 : SH a1 = .inl 4) (hs0 : SH s0 = .inl 0) 
    (kt : a2 = 0 → JS Z X 14 [(0, .ref (Z.2.2.1 + 285)), (1, .ref (Z.2.2.1 + a1)), (3, .ref (Z.2.2.1 + s0))] [] μ) (kf : ¬ (a2 = 0) → JS Z X 10 [(0, .ref (Z.2.2.1 + 285)), (1, .ref (Z.2.2.1 + a1)), (3, .ref (Z.2.2.1 + s0))] [] μ) :
    JS Z X 5 [(0, .ref (Z.2.2.1 + 285)), (1, .ref (Z.2.2.1 + a1)), (2, .int a2)] [.ref (Z.2.2.1 + s0)] μ := by
  refine J_astore_n (lv' := [(0, .ref (Z.2.2.1 + 285)), (1, .ref (Z.2.2.1 + a1)), (2, .int a2), (3, .ref (Z.2.2.1 + s0))]) E dX1_judge_5 (Nat.le_of_ble_eq_true rfl) rfl ?_
  refine J_iload_n E dX1_judge_6 rfl ?_
  refine J_if_eq (tgt := 14) E dX1_judge_7 (by decide) (fun c => ?_) (fun c => ?_)
  · refine J.weak [0, 1, 3] rfl ?_
    exact kt c
  · refine J.weak [0, 1, 3] rfl ?_
    exact kf c
theorem bX1_judge_10 {Z : ZT} {X : XT} {μ : Mu} {a1 : Nat} {a3 : Nat} (E : Ent Z X mX1_judge 0 0) (ha1 : SH a1 = .inl 4) (ha3 : SH a3 = .inl 0) 
    (k : JS Z X 22 [(0, .ref (Z.2.2.1 + 285)), (1, .ref (Z.2.2.1 + a1)), (3, .ref (Z.2.2.1 + a3))] [.int (nI 1)] μ) :
    JS Z X 10 [(0, .ref (Z.2.2.1 + 285)), (1, .ref (Z.2.2.1 + a1)), (3, .ref (Z.2.2.1 + a3))] [] μ := by
  refine J_iconst (v := nI 1) E dX1_judge_10 rfl ?_
  refine J_goto (tgt := 22) E dX1_judge_11 (by decide) ?_
  exact k
theorem bX1_judge_14 {Z : ZT} {X : XT} {μ : Mu} {a1 : Nat} {a3 : Nat} (E : Ent Z X mX1_judge 0 0) (ha1 : SH a1 = .inl 4) (ha3 : SH a3 = .inl 0) {p : Int32 → Mu → Prop} 
    (c : CtrS Z mX0_compare [.ref (Z.2.2.1 + a3), .ref (Z.2.2.1 + 287)] μ (rI p)) (k : ∀ v μ1, p v μ1 → JS Z X 22 [(0, .ref (Z.2.2.1 + 285)), (1, .ref (Z.2.2.1 + a1)), (3, .ref (Z.2.2.1 + a3))] [.int v] μ1) :
    JS Z X 14 [(0, .ref (Z.2.2.1 + 285)), (1, .ref (Z.2.2.1 + a1)), (3, .ref (Z.2.2.1 + a3))] [] μ := by
  refine J_aload_n E dX1_judge_14 rfl ?_
  refine J_aload_n E dX1_judge_15 rfl ?_
  refine S_get (ci := 1) (q := 3) (v := .ref (Z.2.2.1 + 287)) E dX1_judge_16 fs_X1_18 sh285 rfl ?_
  refine S_callV (As := [.ref (Z.2.2.1 + 287)]) (rest := []) E dX1_judge_19 c kX0_compare ⟨Nat.le_of_ble_eq_true rfl, Nat.le_of_ble_eq_true rfl⟩ rfl (Nat.le_of_ble_eq_true rfl) ha3 rfl rfl w5_57 w4_229 w4_230 (fun r_ μ1 hp_ => ?_)
  obtain ⟨v, rfl, hp_⟩ := hp_
  exact k v μ1 hp_
theorem bX1_judge_22 {Z : ZT} {X : XT} {μ : Mu} {a1 : Nat} {a3 : Nat} {s0 : Int32} (E : Ent Z X mX1_judge 0 0) (ha1 : SH a1 = .inl 4) (ha3 : SH a3 = .inl 0) 
    (kt : 0 ≤ s0 → JS Z X 30 [(0, .ref (Z.2.2.1 + 285)), (1, .ref (Z.2.2.1 + a1)), (3, .ref (Z.2.2.1 + a3)), (4, .int s0)] [] μ) (kf : ¬ (0 ≤ s0) → JS Z X 29 [] [] μ) :
    JS Z X 22 [(0, .ref (Z.2.2.1 + 285)), (1, .ref (Z.2.2.1 + a1)), (3, .ref (Z.2.2.1 + a3))] [.int s0] μ := by
  refine J_istore (lv' := [(0, .ref (Z.2.2.1 + 285)), (1, .ref (Z.2.2.1 + a1)), (3, .ref (Z.2.2.1 + a3)), (4, .int s0)]) E dX1_judge_22 (Nat.le_of_ble_eq_true rfl) rfl ?_
  refine J_iload E dX1_judge_24 rfl ?_
  refine J_if_ge (tgt := 30) E dX1_judge_26 (by decide) (fun c => ?_) (fun c => ?_)
  · exact kt c
  · refine J.weak [] rfl ?_
    exact kf c
theorem bX1_judge_29 {Z : ZT} {X : XT} {μ : Mu} (E : Ent Z X mX1_judge 0 0) {P : Option Value → Mu → Prop} (hB : BodS Z X P) 
    (k : P none μ) :
    JS Z X 29 [] [] μ := by
  exact S_vret E hB dX1_judge_29 rfl k
theorem bX1_judge_30 {Z : ZT} {X : XT} {μ : Mu} {a1 : Nat} {a3 : Nat} {a4 : Int32} (E : Ent Z X mX1_judge 0 0) (ha1 : SH a1 = .inl 4) (ha3 : SH a3 = .inl 0) {p : Mu → Prop} (s1_ : vp_in (μ a1 4) 7)
    (c : CtrS Z mX0_setDifference [.ref (Z.2.2.1 + 291), .ref (Z.2.2.1 + (el 296 (ix (μ a1 4)))), .ref (Z.2.2.1 + 95)] μ (rV p)) (k : ∀ μ1, p μ1 → JS Z X 53 [(0, .ref (Z.2.2.1 + 285)), (1, .ref (Z.2.2.1 + a1)), (3, .ref (Z.2.2.1 + a3)), (4, .int a4)] [] μ1) :
    JS Z X 30 [(0, .ref (Z.2.2.1 + 285)), (1, .ref (Z.2.2.1 + a1)), (3, .ref (Z.2.2.1 + a3)), (4, .int a4)] [] μ := by
  refine J_aload_n E dX1_judge_30 rfl ?_
  refine S_get (ci := 1) (q := 5) (v := .ref (Z.2.2.1 + 291)) E dX1_judge_31 fs_X1_25 sh285 rfl ?_
  refine J_aload_n E dX1_judge_34 rfl ?_
  refine S_get (ci := 1) (q := 9) (v := .ref (Z.2.2.1 + 296)) E dX1_judge_35 fs_X1_38 sh285 rfl ?_
  refine J_aload_n E dX1_judge_38 rfl ?_
  refine S_get (ci := 4) (q := 4) (v := .int (μ a1 4)) E dX1_judge_39 fs_X1_59 ha1 rfl ?_
  refine S_aald (t := 0) E dX1_judge_42 sh296 rfl s1_ (by decide) ?_
  refine J_aload_n E dX1_judge_43 rfl ?_
  refine S_get (ci := 1) (q := 1) (v := .ref (Z.2.2.1 + 92)) E dX1_judge_44 fs_X1_51 sh285 rfl ?_
  refine S_get (ci := 5) (q := 4) (v := .ref (Z.2.2.1 + 95)) E dX1_judge_47 fs_X1_117 sh92 rfl ?_
  refine S_callV (As := [.ref (Z.2.2.1 + (el 296 (ix (μ a1 4)))), .ref (Z.2.2.1 + 95)]) (rest := []) E dX1_judge_50 c kX0_setDifference ⟨Nat.le_of_ble_eq_true rfl, Nat.le_of_ble_eq_true rfl⟩ rfl (Nat.le_of_ble_eq_true rfl) sh291 rfl rfl w5_58 w4_234 w4_235 (fun r_ μ1 hp_ => ?_)
  obtain ⟨rfl, hp_⟩ := hp_
  exact k μ1 hp_
theorem bX1_judge_53 {Z : ZT} {X : XT} {μ : Mu} {a1 : Nat} {a3 : Nat} {a4 : Int32} (E : Ent Z X mX1_judge 0 0) (ha1 : SH a1 = .inl 4) (ha3 : SH a3 = .inl 0) 
    (kt : 0 < a4 → JS Z X 72 [(0, .ref (Z.2.2.1 + 285)), (1, .ref (Z.2.2.1 + a1)), (3, .ref (Z.2.2.1 + a3))] [] μ) (kf : ¬ (0 < a4) → JS Z X 58 [(0, .ref (Z.2.2.1 + 285)), (1, .ref (Z.2.2.1 + a1)), (3, .ref (Z.2.2.1 + a3))] [] μ) :
    JS Z X 53 [(0, .ref (Z.2.2.1 + 285)), (1, .ref (Z.2.2.1 + a1)), (3, .ref (Z.2.2.1 + a3)), (4, .int a4)] [] μ := by
  refine J_iload E dX1_judge_53 rfl ?_
  refine J_if_gt (tgt := 72) E dX1_judge_55 (by decide) (fun c => ?_) (fun c => ?_)
  · refine J.weak [0, 1, 2] rfl ?_
    exact kt c
  · refine J.weak [0, 1, 2] rfl ?_
    exact kf c
theorem bX1_judge_58 {Z : ZT} {X : XT} {μ : Mu} {a1 : Nat} {a3 : Nat} (E : Ent Z X mX1_judge 0 0) (ha1 : SH a1 = .inl 4) (ha3 : SH a3 = .inl 0) {p : Int32 → Mu → Prop} 
    (c : CtrS Z mX0_compare [.ref (Z.2.2.1 + 291), .ref (Z.2.2.1 + 289)] μ (rI p)) (k : ∀ v μ1, p v μ1 → JS Z X 69 [(0, .ref (Z.2.2.1 + 285)), (1, .ref (Z.2.2.1 + a1)), (3, .ref (Z.2.2.1 + a3))] [.int v] μ1) :
    JS Z X 58 [(0, .ref (Z.2.2.1 + 285)), (1, .ref (Z.2.2.1 + a1)), (3, .ref (Z.2.2.1 + a3))] [] μ := by
  refine J_aload_n E dX1_judge_58 rfl ?_
  refine S_get (ci := 1) (q := 5) (v := .ref (Z.2.2.1 + 291)) E dX1_judge_59 fs_X1_25 sh285 rfl ?_
  refine J_aload_n E dX1_judge_62 rfl ?_
  refine S_get (ci := 1) (q := 4) (v := .ref (Z.2.2.1 + 289)) E dX1_judge_63 fs_X1_22 sh285 rfl ?_
  refine S_callV (As := [.ref (Z.2.2.1 + 289)]) (rest := []) E dX1_judge_66 c kX0_compare ⟨Nat.le_of_ble_eq_true rfl, Nat.le_of_ble_eq_true rfl⟩ rfl (Nat.le_of_ble_eq_true rfl) sh291 rfl rfl w5_57 w4_229 w4_230 (fun r_ μ1 hp_ => ?_)
  obtain ⟨v, rfl, hp_⟩ := hp_
  exact k v μ1 hp_
theorem bX1_judge_69 {Z : ZT} {X : XT} {μ : Mu} {a1 : Nat} {a3 : Nat} {s0 : Int32} (E : Ent Z X mX1_judge 0 0) (ha1 : SH a1 = .inl 4) (ha3 : SH a3 = .inl 0) 
    (kt : 0 ≤ s0 → JS Z X 123 [] [] μ) (kf : ¬ (0 ≤ s0) → JS Z X 72 [(0, .ref (Z.2.2.1 + 285)), (1, .ref (Z.2.2.1 + a1)), (3, .ref (Z.2.2.1 + a3))] [] μ) :
    JS Z X 69 [(0, .ref (Z.2.2.1 + 285)), (1, .ref (Z.2.2.1 + a1)), (3, .ref (Z.2.2.1 + a3))] [.int s0] μ := by
  refine J_if_ge (tgt := 123) E dX1_judge_69 (by decide) (fun c => ?_) (fun c => ?_)
  · refine J.weak [] rfl ?_
    exact kt c
  · exact kf c
theorem bX1_judge_72 {Z : ZT} {X : XT} {μ : Mu} {a1 : Nat} {a3 : Nat} (E : Ent Z X mX1_judge 0 0) (ha1 : SH a1 = .inl 4) (ha3 : SH a3 = .inl 0) {p : Mu → Prop} 
    (c : CtrS Z mX0_copy [.ref (Z.2.2.1 + 287), .ref (Z.2.2.1 + a3)] μ (rV p)) (k : ∀ μ1, p μ1 → JS Z X 80 [(0, .ref (Z.2.2.1 + 285)), (1, .ref (Z.2.2.1 + a1))] [] μ1) :
    JS Z X 72 [(0, .ref (Z.2.2.1 + 285)), (1, .ref (Z.2.2.1 + a1)), (3, .ref (Z.2.2.1 + a3))] [] μ := by
  refine J_aload_n E dX1_judge_72 rfl ?_
  refine S_get (ci := 1) (q := 3) (v := .ref (Z.2.2.1 + 287)) E dX1_judge_73 fs_X1_18 sh285 rfl ?_
  refine J_aload_n E dX1_judge_76 rfl ?_
  refine S_callV (As := [.ref (Z.2.2.1 + a3)]) (rest := []) E dX1_judge_77 c kX0_copy ⟨Nat.le_of_ble_eq_true rfl, Nat.le_of_ble_eq_true rfl⟩ rfl (Nat.le_of_ble_eq_true rfl) sh287 rfl rfl w5_48 w4_127 w4_128 (fun r_ μ1 hp_ => ?_)
  obtain ⟨rfl, hp_⟩ := hp_
  refine J.weak [0, 1] rfl ?_
  exact k μ1 hp_
theorem bX1_judge_80 {Z : ZT} {X : XT} {μ : Mu} {a1 : Nat} (E : Ent Z X mX1_judge 0 0) (ha1 : SH a1 = .inl 4) {p : Mu → Prop} 
    (c : CtrS Z mX0_copy [.ref (Z.2.2.1 + 289), .ref (Z.2.2.1 + 291)] μ (rV p)) (k : ∀ μ1, p μ1 → JS Z X 91 [(0, .ref (Z.2.2.1 + 285)), (1, .ref (Z.2.2.1 + a1))] [] μ1) :
    JS Z X 80 [(0, .ref (Z.2.2.1 + 285)), (1, .ref (Z.2.2.1 + a1))] [] μ := by
  refine J_aload_n E dX1_judge_80 rfl ?_
  refine S_get (ci := 1) (q := 4) (v := .ref (Z.2.2.1 + 289)) E dX1_judge_81 fs_X1_22 sh285 rfl ?_
  refine J_aload_n E dX1_judge_84 rfl ?_
  refine S_get (ci := 1) (q := 5) (v := .ref (Z.2.2.1 + 291)) E dX1_judge_85 fs_X1_25 sh285 rfl ?_
  refine S_callV (As := [.ref (Z.2.2.1 + 291)]) (rest := []) E dX1_judge_88 c kX0_copy ⟨Nat.le_of_ble_eq_true rfl, Nat.le_of_ble_eq_true rfl⟩ rfl (Nat.le_of_ble_eq_true rfl) sh289 rfl rfl w5_48 w4_127 w4_128 (fun r_ μ1 hp_ => ?_)
  obtain ⟨rfl, hp_⟩ := hp_
  exact k μ1 hp_
theorem bX1_judge_91 {Z : ZT} {X : XT} {μ : Mu} {a1 : Nat} (E : Ent Z X mX1_judge 0 0) (ha1 : SH a1 = .inl 4) 
    (k : JS Z X 94 [(0, .ref (Z.2.2.1 + 285)), (1, .ref (Z.2.2.1 + a1)), (5, .int (nI 0))] [] μ) :
    JS Z X 91 [(0, .ref (Z.2.2.1 + 285)), (1, .ref (Z.2.2.1 + a1))] [] μ := by
  refine J_iconst (v := nI 0) E dX1_judge_91 rfl ?_
  refine J_istore (lv' := [(0, .ref (Z.2.2.1 + 285)), (1, .ref (Z.2.2.1 + a1)), (5, .int (nI 0))]) E dX1_judge_92 (Nat.le_of_ble_eq_true rfl) rfl ?_
  exact k
theorem bX1_judge_94 {Z : ZT} {X : XT} {μ : Mu} {a1 : Nat} {a5 : Int32} (E : Ent Z X mX1_judge 0 0) (ha1 : SH a1 = .inl 4) 
    (kt : (μ a1 4) ≤ a5 → JS Z X 123 [] [] μ) (kf : ¬ ((μ a1 4) ≤ a5) → JS Z X 103 [(0, .ref (Z.2.2.1 + 285)), (1, .ref (Z.2.2.1 + a1)), (5, .int a5)] [] μ) :
    JS Z X 94 [(0, .ref (Z.2.2.1 + 285)), (1, .ref (Z.2.2.1 + a1)), (5, .int a5)] [] μ := by
  refine J_iload E dX1_judge_94 rfl ?_
  refine J_aload_n E dX1_judge_96 rfl ?_
  refine S_get (ci := 4) (q := 4) (v := .int (μ a1 4)) E dX1_judge_97 fs_X1_59 ha1 rfl ?_
  refine J_icmp_ge (tgt := 123) E dX1_judge_100 (by decide) (fun c => ?_) (fun c => ?_)
  · refine J.weak [] rfl ?_
    exact kt c
  · exact kf c
theorem bX1_judge_103 {Z : ZT} {X : XT} {μ : Mu} {a1 : Nat} {a5 : Int32} (E : Ent Z X mX1_judge 0 0) (ha1 : SH a1 = .inl 4) (s1_ : vp_in a5 6) (s2_ : vp_in a5 6)
    (k : JS Z X 117 [(0, .ref (Z.2.2.1 + 285)), (1, .ref (Z.2.2.1 + a1)), (5, .int a5)] [] (uR μ 286 (upd (μ 286) (ix a5) (μ 293 (ix a5))))) :
    JS Z X 103 [(0, .ref (Z.2.2.1 + 285)), (1, .ref (Z.2.2.1 + a1)), (5, .int a5)] [] μ := by
  refine J_aload_n E dX1_judge_103 rfl ?_
  refine S_get (ci := 1) (q := 2) (v := .ref (Z.2.2.1 + 286)) E dX1_judge_104 fs_X1_9 sh285 rfl ?_
  refine J_iload E dX1_judge_107 rfl ?_
  refine J_aload_n E dX1_judge_109 rfl ?_
  refine S_get (ci := 1) (q := 6) (v := .ref (Z.2.2.1 + 293)) E dX1_judge_110 fs_X1_28 sh285 rfl ?_
  refine J_iload E dX1_judge_113 rfl ?_
  refine S_iald E dX1_judge_115 sh293 s1_ ?_
  refine S_iast E dX1_judge_116 sh286 s2_ ?_
  exact k
theorem bX1_judge_117 {Z : ZT} {X : XT} {μ : Mu} {a1 : Nat} {a5 : Int32} (E : Ent Z X mX1_judge 0 0) (ha1 : SH a1 = .inl 4) 
    (k : JS Z X 94 [(0, .ref (Z.2.2.1 + 285)), (1, .ref (Z.2.2.1 + a1)), (5, .int (a5 + nI 1))] [] μ) :
    JS Z X 117 [(0, .ref (Z.2.2.1 + 285)), (1, .ref (Z.2.2.1 + a1)), (5, .int a5)] [] μ := by
  refine J_iinc (v := a5 + nI 1) (lv' := [(0, .ref (Z.2.2.1 + 285)), (1, .ref (Z.2.2.1 + a1)), (5, .int (a5 + nI 1))]) E dX1_judge_117 rfl rfl (Nat.le_of_ble_eq_true rfl) rfl ?_
  refine J_goto (tgt := 94) E dX1_judge_120 (by decide) ?_
  exact k
theorem bX1_judge_123 {Z : ZT} {X : XT} {μ : Mu} (E : Ent Z X mX1_judge 0 0) {P : Option Value → Mu → Prop} (hB : BodS Z X P) 
    (k : P none μ) :
    JS Z X 123 [] [] μ := by
  exact S_vret E hB dX1_judge_123 rfl k
theorem dX1_leastGuessed_0 : decode cX1_leastGuessed 0 = .ok (.iconst 0, 1) := by decide +kernel
theorem dX1_leastGuessed_1 : decode cX1_leastGuessed 1 = .ok (.istore_n 2, 1) := by decide +kernel
theorem dX1_leastGuessed_2 : decode cX1_leastGuessed 2 = .ok (.aload_n 0, 1) := by decide +kernel
theorem dX1_leastGuessed_3 : decode cX1_leastGuessed 3 = .ok (.getfield 44, 3) := by decide +kernel
theorem dX1_leastGuessed_6 : decode cX1_leastGuessed 6 = .ok (.astore_n 3, 1) := by decide +kernel
theorem dX1_leastGuessed_7 : decode cX1_leastGuessed 7 = .ok (.iconst 0, 1) := by decide +kernel
theorem dX1_leastGuessed_8 : decode cX1_leastGuessed 8 = .ok (.istore 4, 2) := by decide +kernel
theorem dX1_leastGuessed_10 : decode cX1_leastGuessed 10 = .ok (.iload 4, 2) := by decide +kernel
theorem dX1_leastGuessed_12 : decode cX1_leastGuessed 12 = .ok (.aload_n 0, 1) := by decide +kernel
theorem dX1_leastGuessed_13 : decode cX1_leastGuessed 13 = .ok (.getfield 47, 3) := by decide +kernel
theorem dX1_leastGuessed_16 : decode cX1_leastGuessed 16 = .ok (.getfield 104, 3) := by decide +kernel
theorem dX1_leastGuessed_19 : decode cX1_leastGuessed 19 = .ok (.if_icmp .ge 61, 3) := by decide +kernel
theorem dX1_leastGuessed_22 : decode cX1_leastGuessed 22 = .ok (.aload_n 0, 1) := by decide +kernel
theorem dX1_leastGuessed_23 : decode cX1_leastGuessed 23 = .ok (.getfield 41, 3) := by decide +kernel
theorem dX1_leastGuessed_26 : decode cX1_leastGuessed 26 = .ok (.aload_n 1, 1) := by decide +kernel
theorem dX1_leastGuessed_27 : decode cX1_leastGuessed 27 = .ok (.getfield 59, 3) := by decide +kernel
theorem dX1_leastGuessed_30 : decode cX1_leastGuessed 30 = .ok (.bipush 6, 2) := by decide +kernel
theorem dX1_leastGuessed_32 : decode cX1_leastGuessed 32 = .ok (.imul, 1) := by decide +kernel
theorem dX1_leastGuessed_33 : decode cX1_leastGuessed 33 = .ok (.iload 4, 2) := by decide +kernel
theorem dX1_leastGuessed_35 : decode cX1_leastGuessed 35 = .ok (.iadd, 1) := by decide +kernel
theorem dX1_leastGuessed_36 : decode cX1_leastGuessed 36 = .ok (.aaload, 1) := by decide +kernel
theorem dX1_leastGuessed_37 : decode cX1_leastGuessed 37 = .ok (.astore 5, 2) := by decide +kernel
theorem dX1_leastGuessed_39 : decode cX1_leastGuessed 39 = .ok (.aload_n 0, 1) := by decide +kernel
theorem dX1_leastGuessed_40 : decode cX1_leastGuessed 40 = .ok (.getfield 47, 3) := by decide +kernel
theorem dX1_leastGuessed_43 : decode cX1_leastGuessed 43 = .ok (.getfield 124, 3) := by decide +kernel
theorem dX1_leastGuessed_46 : decode cX1_leastGuessed 46 = .ok (.iload 4, 2) := by decide +kernel
theorem dX1_leastGuessed_48 : decode cX1_leastGuessed 48 = .ok (.iaload, 1) := by decide +kernel
theorem dX1_leastGuessed_49 : decode cX1_leastGuessed 49 = .ok (.aload_n 1, 1) := by decide +kernel
theorem dX1_leastGuessed_50 : decode cX1_leastGuessed 50 = .ok (.getfield 127, 3) := by decide +kernel
theorem dX1_leastGuessed_53 : decode cX1_leastGuessed 53 = .ok (.if_icmp .ne 21, 3) := by decide +kernel
theorem dX1_leastGuessed_56 : decode cX1_leastGuessed 56 = .ok (.iload_n 2, 1) := by decide +kernel
theorem dX1_leastGuessed_57 : decode cX1_leastGuessed 57 = .ok (.ifCond .eq 12, 3) := by decide +kernel
theorem dX1_leastGuessed_60 : decode cX1_leastGuessed 60 = .ok (.aload 5, 2) := by decide +kernel
theorem dX1_leastGuessed_62 : decode cX1_leastGuessed 62 = .ok (.aload_n 3, 1) := by decide +kernel
theorem dX1_leastGuessed_63 : decode cX1_leastGuessed 63 = .ok (.invokevirtual 113, 3) := by decide +kernel
theorem dX1_leastGuessed_66 : decode cX1_leastGuessed 66 = .ok (.ifCond .ge 8, 3) := by decide +kernel
theorem dX1_leastGuessed_69 : decode cX1_leastGuessed 69 = .ok (.aload 5, 2) := by decide +kernel
theorem dX1_leastGuessed_71 : decode cX1_leastGuessed 71 = .ok (.astore_n 3, 1) := by decide +kernel
theorem dX1_leastGuessed_72 : decode cX1_leastGuessed 72 = .ok (.iconst 1, 1) := by decide +kernel
theorem dX1_leastGuessed_73 : decode cX1_leastGuessed 73 = .ok (.istore_n 2, 1) := by decide +kernel
theorem dX1_leastGuessed_74 : decode cX1_leastGuessed 74 = .ok (.iinc 4 1, 3) := by decide +kernel
theorem dX1_leastGuessed_77 : decode cX1_leastGuessed 77 = .ok (.goto (-67), 3) := by decide +kernel
theorem dX1_leastGuessed_80 : decode cX1_leastGuessed 80 = .ok (.aload_n 3, 1) := by decide +kernel
theorem dX1_leastGuessed_81 : decode cX1_leastGuessed 81 = .ok (.areturn, 1) := by decide +kernel
theorem bX1_leastGuessed_0 {Z : ZT} {X : XT} {μ : Mu} {a1 : Nat} (E : Ent Z X mX1_leastGuessed 0 0) (ha1 : SH a1 = .inl 4) 
    (k : JS Z X 10 [(0, .ref (Z.2.2.1 + 285)), (1, .ref (Z.2.2.1 + a1)), (2, .int (nI 0)), (3, .ref (Z.2.2.1 + 298)), (4, .int (nI 0))] [] μ) :
    JS Z X 0 [(0, .ref (Z.2.2.1 + 285)), (1, .ref (Z.2.2.1 + a1))] [] μ := by
  refine J_iconst (v := nI 0) E dX1_leastGuessed_0 rfl ?_
  refine J_istore_n (lv' := [(0, .ref (Z.2.2.1 + 285)), (1, .ref (Z.2.2.1 + a1)), (2, .int (nI 0))]) E dX1_leastGuessed_1 (Nat.le_of_ble_eq_true rfl) rfl ?_
  refine J_aload_n E dX1_leastGuessed_2 rfl ?_
  refine S_get (ci := 1) (q := 11) (v := .ref (Z.2.2.1 + 298)) E dX1_leastGuessed_3 fs_X1_44 sh285 rfl ?_
  refine J_astore_n (lv' := [(0, .ref (Z.2.2.1 + 285)), (1, .ref (Z.2.2.1 + a1)), (2, .int (nI 0)), (3, .ref (Z.2.2.1 + 298))]) E dX1_leastGuessed_6 (Nat.le_of_ble_eq_true rfl) rfl ?_
  refine J_iconst (v := nI 0) E dX1_leastGuessed_7 rfl ?_
  refine J_istore (lv' := [(0, .ref (Z.2.2.1 + 285)), (1, .ref (Z.2.2.1 + a1)), (2, .int (nI 0)), (3, .ref (Z.2.2.1 + 298)), (4, .int (nI 0))]) E dX1_leastGuessed_8 (Nat.le_of_ble_eq_true rfl) rfl ?_
  exact k
theorem bX1_leastGuessed_10 {Z : ZT} {X : XT} {μ : Mu} {a1 : Nat} {a2 : Int32} {a3 : Nat} {a4 : Int32} (E : Ent Z X mX1_leastGuessed 0 0) (ha1 : SH a1 = .inl 4) (ha3 : SH a3 = .inl 0) 
    (kt : (μ 1 3) ≤ a4 → JS Z X 80 [(3, .ref (Z.2.2.1 + a3))] [] μ) (kf : ¬ ((μ 1 3) ≤ a4) → JS Z X 22 [(0, .ref (Z.2.2.1 + 285)), (1, .ref (Z.2.2.1 + a1)), (2, .int a2), (3, .ref (Z.2.2.1 + a3)), (4, .int a4)] [] μ) :
    JS Z X 10 [(0, .ref (Z.2.2.1 + 285)), (1, .ref (Z.2.2.1 + a1)), (2, .int a2), (3, .ref (Z.2.2.1 + a3)), (4, .int a4)] [] μ := by
  refine J_iload E dX1_leastGuessed_10 rfl ?_
  refine J_aload_n E dX1_leastGuessed_12 rfl ?_
  refine S_get (ci := 1) (q := 0) (v := .ref (Z.2.2.1 + 1)) E dX1_leastGuessed_13 fs_X1_47 sh285 rfl ?_
  refine S_get (ci := 3) (q := 3) (v := .int (μ 1 3)) E dX1_leastGuessed_16 fs_X1_104 sh1 rfl ?_
  refine J_icmp_ge (tgt := 80) E dX1_leastGuessed_19 (by decide) (fun c => ?_) (fun c => ?_)
  · refine J.weak [3] rfl ?_
    exact kt c
  · exact kf c
theorem bX1_leastGuessed_22 {Z : ZT} {X : XT} {μ : Mu} {a1 : Nat} {a2 : Int32} {a3 : Nat} {a4 : Int32} (E : Ent Z X mX1_leastGuessed 0 0) (ha1 : SH a1 = .inl 4) (ha3 : SH a3 = .inl 0) (s1_ : vp_in (((μ a1 4) * (nI 6)) + a4) 42) (s2_ : vp_in a4 6)
    (kt : ¬ (μ (1 + 6) (ix a4)) = (μ a1 3) → JS Z X 74 [(0, .ref (Z.2.2.1 + 285)), (1, .ref (Z.2.2.1 + a1)), (2, .int a2), (3, .ref (Z.2.2.1 + a3)), (4, .int a4)] [] μ) (kf : (μ (1 + 6) (ix a4)) = (μ a1 3) → JS Z X 56 [(0, .ref (Z.2.2.1 + 285)), (1, .ref (Z.2.2.1 + a1)), (2, .int a2), (3, .ref (Z.2.2.1 + a3)), (4, .int a4), (5, .ref (Z.2.2.1 + (el 297 (ix (((μ a1 4) * (nI 6)) + a4)))))] [] μ) :
    JS Z X 22 [(0, .ref (Z.2.2.1 + 285)), (1, .ref (Z.2.2.1 + a1)), (2, .int a2), (3, .ref (Z.2.2.1 + a3)), (4, .int a4)] [] μ := by
  refine J_aload_n E dX1_leastGuessed_22 rfl ?_
  refine S_get (ci := 1) (q := 10) (v := .ref (Z.2.2.1 + 297)) E dX1_leastGuessed_23 fs_X1_41 sh285 rfl ?_
  refine J_aload_n E dX1_leastGuessed_26 rfl ?_
  refine S_get (ci := 4) (q := 4) (v := .int (μ a1 4)) E dX1_leastGuessed_27 fs_X1_59 ha1 rfl ?_
  refine J_bipush (v := nI 6) E dX1_leastGuessed_30 rfl ?_
  refine J_imul E dX1_leastGuessed_32 ?_
  refine J_iload E dX1_leastGuessed_33 rfl ?_
  refine J_iadd E dX1_leastGuessed_35 ?_
  refine S_aald (t := 0) E dX1_leastGuessed_36 sh297 rfl s1_ (by decide) ?_
  refine J_astore (lv' := [(0, .ref (Z.2.2.1 + 285)), (1, .ref (Z.2.2.1 + a1)), (2, .int a2), (3, .ref (Z.2.2.1 + a3)), (4, .int a4), (5, .ref (Z.2.2.1 + (el 297 (ix (((μ a1 4) * (nI 6)) + a4)))))]) E dX1_leastGuessed_37 (Nat.le_of_ble_eq_true rfl) rfl ?_
  refine J_aload_n E dX1_leastGuessed_39 rfl ?_
  refine S_get (ci := 1) (q := 0) (v := .ref (Z.2.2.1 + 1)) E dX1_leastGuessed_40 fs_X1_47 sh285 rfl ?_
  refine S_get (ci := 3) (q := 7) (v := .ref (Z.2.2.1 + (1 + 6))) E dX1_leastGuessed_43 fs_X1_124 sh1 rfl ?_
  refine J_iload E dX1_leastGuessed_46 rfl ?_
  refine S_iald E dX1_leastGuessed_48 (shr_X3_7 sh1) s2_ ?_
  refine J_aload_n E dX1_leastGuessed_49 rfl ?_
  refine S_get (ci := 4) (q := 3) (v := .int (μ a1 3)) E dX1_leastGuessed_50 fs_X1_127 ha1 rfl ?_
  refine J_icmp_ne (tgt := 74) E dX1_leastGuessed_53 (by decide) (fun c => ?_) (fun c => ?_)
  · refine J.weak [0, 1, 2, 3, 4] rfl ?_
    exact kt c
  · exact kf c
theorem bX1_leastGuessed_56 {Z : ZT} {X : XT} {μ : Mu} {a1 : Nat} {a2 : Int32} {a3 : Nat} {a4 : Int32} {a5 : Nat} (E : Ent Z X mX1_leastGuessed 0 0) (ha1 : SH a1 = .inl 4) (ha3 : SH a3 = .inl 0) (ha5 : SH a5 = .inl 0) 
    (kt : a2 = 0 → JS Z X 69 [(0, .ref (Z.2.2.1 + 285)), (1, .ref (Z.2.2.1 + a1)), (4, .int a4), (5, .ref (Z.2.2.1 + a5))] [] μ) (kf : ¬ (a2 = 0) → JS Z X 60 [(0, .ref (Z.2.2.1 + 285)), (1, .ref (Z.2.2.1 + a1)), (2, .int a2), (3, .ref (Z.2.2.1 + a3)), (4, .int a4), (5, .ref (Z.2.2.1 + a5))] [] μ) :
    JS Z X 56 [(0, .ref (Z.2.2.1 + 285)), (1, .ref (Z.2.2.1 + a1)), (2, .int a2), (3, .ref (Z.2.2.1 + a3)), (4, .int a4), (5, .ref (Z.2.2.1 + a5))] [] μ := by
  refine J_iload_n E dX1_leastGuessed_56 rfl ?_
  refine J_if_eq (tgt := 69) E dX1_leastGuessed_57 (by decide) (fun c => ?_) (fun c => ?_)
  · refine J.weak [0, 1, 4, 5] rfl ?_
    exact kt c
  · exact kf c
theorem bX1_leastGuessed_60 {Z : ZT} {X : XT} {μ : Mu} {a1 : Nat} {a2 : Int32} {a3 : Nat} {a4 : Int32} {a5 : Nat} (E : Ent Z X mX1_leastGuessed 0 0) (ha1 : SH a1 = .inl 4) (ha3 : SH a3 = .inl 0) (ha5 : SH a5 = .inl 0) {p : Int32 → Mu → Prop} 
    (c : CtrS Z mX0_compare [.ref (Z.2.2.1 + a5), .ref (Z.2.2.1 + a3)] μ (rI p)) (k : ∀ v μ1, p v μ1 → JS Z X 66 [(0, .ref (Z.2.2.1 + 285)), (1, .ref (Z.2.2.1 + a1)), (2, .int a2), (3, .ref (Z.2.2.1 + a3)), (4, .int a4), (5, .ref (Z.2.2.1 + a5))] [.int v] μ1) :
    JS Z X 60 [(0, .ref (Z.2.2.1 + 285)), (1, .ref (Z.2.2.1 + a1)), (2, .int a2), (3, .ref (Z.2.2.1 + a3)), (4, .int a4), (5, .ref (Z.2.2.1 + a5))] [] μ := by
  refine J_aload E dX1_leastGuessed_60 rfl ?_
  refine J_aload_n E dX1_leastGuessed_62 rfl ?_
  refine S_callV (As := [.ref (Z.2.2.1 + a3)]) (rest := []) E dX1_leastGuessed_63 c kX0_compare ⟨Nat.le_of_ble_eq_true rfl, Nat.le_of_ble_eq_true rfl⟩ rfl (Nat.le_of_ble_eq_true rfl) ha5 rfl rfl w5_57 w4_229 w4_230 (fun r_ μ1 hp_ => ?_)
  obtain ⟨v, rfl, hp_⟩ := hp_
  exact k v μ1 hp_
theorem bX1_leastGuessed_66 {Z : ZT} {X : XT} {μ : Mu} {a1 : Nat} {a2 : Int32} {a3 : Nat} {a4 : Int32} {a5 : Nat} {s0 : Int32} (E : Ent Z X mX1_leastGuessed 0 0) (ha1 : SH a1 = .inl 4) (ha3 : SH a3 = .inl 0) (ha5 : SH a5 = .inl 0) 
    (kt : 0 ≤ s0 → JS Z X 74 [(0, .ref (Z.2.2.1 + 285)), (1, .ref (Z.2.2.1 + a1)), (2, .int a2), (3, .ref (Z.2.2.1 + a3)), (4, .int a4)] [] μ) (kf : ¬ (0 ≤ s0) → JS Z X 69 [(0, .ref (Z.2.2.1 + 285)), (1, .ref (Z.2.2.1 + a1)), (4, .int a4), (5, .ref (Z.2.2.1 + a5))] [] μ) :
    JS Z X 66 [(0, .ref (Z.2.2.1 + 285)), (1, .ref (Z.2.2.1 + a1)), (2, .int a2), (3, .ref (Z.2.2.1 + a3)), (4, .int a4), (5, .ref (Z.2.2.1 + a5))] [.int s0] μ := by
  refine J_if_ge (tgt := 74) E dX1_leastGuessed_66 (by decide) (fun c => ?_) (fun c => ?_)
  · refine J.weak [0, 1, 2, 3, 4] rfl ?_
    exact kt c
  · refine J.weak [0, 1, 4, 5] rfl ?_
    exact kf c
theorem bX1_leastGuessed_69 {Z : ZT} {X : XT} {μ : Mu} {a1 : Nat} {a4 : Int32} {a5 : Nat} (E : Ent Z X mX1_leastGuessed 0 0) (ha1 : SH a1 = .inl 4) (ha5 : SH a5 = .inl 0) 
    (k : JS Z X 74 [(0, .ref (Z.2.2.1 + 285)), (1, .ref (Z.2.2.1 + a1)), (2, .int (nI 1)), (3, .ref (Z.2.2.1 + a5)), (4, .int a4)] [] μ) :
    JS Z X 69 [(0, .ref (Z.2.2.1 + 285)), (1, .ref (Z.2.2.1 + a1)), (4, .int a4), (5, .ref (Z.2.2.1 + a5))] [] μ := by
  refine J_aload E dX1_leastGuessed_69 rfl ?_
  refine J_astore_n (lv' := [(0, .ref (Z.2.2.1 + 285)), (1, .ref (Z.2.2.1 + a1)), (3, .ref (Z.2.2.1 + a5)), (4, .int a4), (5, .ref (Z.2.2.1 + a5))]) E dX1_leastGuessed_71 (Nat.le_of_ble_eq_true rfl) rfl ?_
  refine J_iconst (v := nI 1) E dX1_leastGuessed_72 rfl ?_
  refine J_istore_n (lv' := [(0, .ref (Z.2.2.1 + 285)), (1, .ref (Z.2.2.1 + a1)), (2, .int (nI 1)), (3, .ref (Z.2.2.1 + a5)), (4, .int a4), (5, .ref (Z.2.2.1 + a5))]) E dX1_leastGuessed_73 (Nat.le_of_ble_eq_true rfl) rfl ?_
  refine J.weak [0, 1, 2, 3, 4] rfl ?_
  exact k
theorem bX1_leastGuessed_74 {Z : ZT} {X : XT} {μ : Mu} {a1 : Nat} {a2 : Int32} {a3 : Nat} {a4 : Int32} (E : Ent Z X mX1_leastGuessed 0 0) (ha1 : SH a1 = .inl 4) (ha3 : SH a3 = .inl 0) 
    (k : JS Z X 10 [(0, .ref (Z.2.2.1 + 285)), (1, .ref (Z.2.2.1 + a1)), (2, .int a2), (3, .ref (Z.2.2.1 + a3)), (4, .int (a4 + nI 1))] [] μ) :
    JS Z X 74 [(0, .ref (Z.2.2.1 + 285)), (1, .ref (Z.2.2.1 + a1)), (2, .int a2), (3, .ref (Z.2.2.1 + a3)), (4, .int a4)] [] μ := by
  refine J_iinc (v := a4 + nI 1) (lv' := [(0, .ref (Z.2.2.1 + 285)), (1, .ref (Z.2.2.1 + a1)), (2, .int a2), (3, .ref (Z.2.2.1 + a3)), (4, .int (a4 + nI 1))]) E dX1_leastGuessed_74 rfl rfl (Nat.le_of_ble_eq_true rfl) rfl ?_
  refine J_goto (tgt := 10) E dX1_leastGuessed_77 (by decide) ?_
  exact k
theorem bX1_leastGuessed_80 {Z : ZT} {X : XT} {μ : Mu} {a3 : Nat} (E : Ent Z X mX1_leastGuessed 0 0) {P : Option Value → Mu → Prop} (hB : BodS Z X P) (ha3 : SH a3 = .inl 0) 
    (k : P (some (.ref (Z.2.2.1 + a3))) μ) :
    JS Z X 80 [(3, .ref (Z.2.2.1 + a3))] [] μ := by
  refine J_aload_n E dX1_leastGuessed_80 rfl ?_
  exact S_aret E hB dX1_leastGuessed_81 rfl k
theorem dX1_nextChoice_0 : decode cX1_nextChoice 0 = .ok (.iload_n 1, 1) := by decide +kernel
theorem dX1_nextChoice_1 : decode cX1_nextChoice 1 = .ok (.iconst 1, 1) := by decide +kernel
theorem dX1_nextChoice_2 : decode cX1_nextChoice 2 = .ok (.isub, 1) := by decide +kernel
theorem dX1_nextChoice_3 : decode cX1_nextChoice 3 = .ok (.istore_n 2, 1) := by decide +kernel
theorem dX1_nextChoice_4 : decode cX1_nextChoice 4 = .ok (.iload_n 2, 1) := by decide +kernel
theorem dX1_nextChoice_5 : decode cX1_nextChoice 5 = .ok (.ifCond .lt 40, 3) := by decide +kernel
theorem dX1_nextChoice_8 : decode cX1_nextChoice 8 = .ok (.aload_n 0, 1) := by decide +kernel
theorem dX1_nextChoice_9 : decode cX1_nextChoice 9 = .ok (.getfield 28, 3) := by decide +kernel
theorem dX1_nextChoice_12 : decode cX1_nextChoice 12 = .ok (.iload_n 2, 1) := by decide +kernel
theorem dX1_nextChoice_13 : decode cX1_nextChoice 13 = .ok (.iaload, 1) := by decide +kernel
theorem dX1_nextChoice_14 : decode cX1_nextChoice 14 = .ok (.iconst 1, 1) := by decide +kernel
theorem dX1_nextChoice_15 : decode cX1_nextChoice 15 = .ok (.iadd, 1) := by decide +kernel
theorem dX1_nextChoice_16 : decode cX1_nextChoice 16 = .ok (.iconst 4, 1) := by decide +kernel
theorem dX1_nextChoice_17 : decode cX1_nextChoice 17 = .ok (.if_icmp .ge 15, 3) := by decide +kernel
theorem dX1_nextChoice_20 : decode cX1_nextChoice 20 = .ok (.aload_n 0, 1) := by decide +kernel
theorem dX1_nextChoice_21 : decode cX1_nextChoice 21 = .ok (.getfield 28, 3) := by decide +kernel
theorem dX1_nextChoice_24 : decode cX1_nextChoice 24 = .ok (.iload_n 2, 1) := by decide +kernel
theorem dX1_nextChoice_25 : decode cX1_nextChoice 25 = .ok (.dup2, 1) := by decide +kernel
theorem dX1_nextChoice_26 : decode cX1_nextChoice 26 = .ok (.iaload, 1) := by decide +kernel
theorem dX1_nextChoice_27 : decode cX1_nextChoice 27 = .ok (.iconst 1, 1) := by decide +kernel
theorem dX1_nextChoice_28 : decode cX1_nextChoice 28 = .ok (.iadd, 1) := by decide +kernel
theorem dX1_nextChoice_29 : decode cX1_nextChoice 29 = .ok (.iastore, 1) := by decide +kernel
theorem dX1_nextChoice_30 : decode cX1_nextChoice 30 = .ok (.iload_n 2, 1) := by decide +kernel
theorem dX1_nextChoice_31 : decode cX1_nextChoice 31 = .ok (.ireturn, 1) := by decide +kernel
theorem dX1_nextChoice_32 : decode cX1_nextChoice 32 = .ok (.aload_n 0, 1) := by decide +kernel
theorem dX1_nextChoice_33 : decode cX1_nextChoice 33 = .ok (.getfield 28, 3) := by decide +kernel
theorem dX1_nextChoice_36 : decode cX1_nextChoice 36 = .ok (.iload_n 2, 1) := by decide +kernel
theorem dX1_nextChoice_37 : decode cX1_nextChoice 37 = .ok (.iconst 0, 1) := by decide +kernel
theorem dX1_nextChoice_38 : decode cX1_nextChoice 38 = .ok (.iastore, 1) := by decide +kernel
theorem dX1_nextChoice_39 : decode cX1_nextChoice 39 = .ok (.iinc 2 (-1), 3) := by decide +kernel
theorem dX1_nextChoice_42 : decode cX1_nextChoice 42 = .ok (.goto (-38), 3) := by decide +kernel
theorem dX1_nextChoice_45 : decode cX1_nextChoice 45 = .ok (.iconst (-1), 1) := by decide +kernel
theorem dX1_nextChoice_46 : decode cX1_nextChoice 46 = .ok (.ireturn, 1) := by decide +kernel
theorem bX1_nextChoice_0 {Z : ZT} {X : XT} {μ : Mu} {a1 : Int32} (E : Ent Z X mX1_nextChoice 0 0)  
    (k : JS Z X 4 [(0, .ref (Z.2.2.1 + 285)), (2, .int (a1 - (nI 1)))] [] μ) :
    JS Z X 0 [(0, .ref (Z.2.2.1 + 285)), (1, .int a1)] [] μ := by
  refine J_iload_n E dX1_nextChoice_0 rfl ?_
  refine J_iconst (v := nI 1) E dX1_nextChoice_1 rfl ?_
  refine J_isub E dX1_nextChoice_2 ?_
  refine J_istore_n (lv' := [(0, .ref (Z.2.2.1 + 285)), (1, .int a1), (2, .int (a1 - (nI 1)))]) E dX1_nextChoice_3 (Nat.le_of_ble_eq_true rfl) rfl ?_
  refine J.weak [0, 2] rfl ?_
  exact k
theorem bX1_nextChoice_4 {Z : ZT} {X : XT} {μ : Mu} {a2 : Int32} (E : Ent Z X mX1_nextChoice 0 0)  
    (kt : a2 < 0 → JS Z X 45 [] [] μ) (kf : ¬ (a2 < 0) → JS Z X 8 [(0, .ref (Z.2.2.1 + 285)), (2, .int a2)] [] μ) :
    JS Z X 4 [(0, .ref (Z.2.2.1 + 285)), (2, .int a2)] [] μ := by
  refine J_iload_n E dX1_nextChoice_4 rfl ?_
  refine J_if_lt (tgt := 45) E dX1_nextChoice_5 (by decide) (fun c => ?_) (fun c => ?_)
  · refine J.weak [] rfl ?_
    exact kt c
  · exact kf c
theorem bX1_nextChoice_8 {Z : ZT} {X : XT} {μ : Mu} {a2 : Int32} (E : Ent Z X mX1_nextChoice 0 0)  (s1_ : vp_in a2 6)
    (kt : (nI 4) ≤ ((μ 293 (ix a2)) + (nI 1)) → JS Z X 32 [(0, .ref (Z.2.2.1 + 285)), (2, .int a2)] [] μ) (kf : ¬ ((nI 4) ≤ ((μ 293 (ix a2)) + (nI 1))) → JS Z X 20 [(0, .ref (Z.2.2.1 + 285)), (2, .int a2)] [] μ) :
    JS Z X 8 [(0, .ref (Z.2.2.1 + 285)), (2, .int a2)] [] μ := by
  refine J_aload_n E dX1_nextChoice_8 rfl ?_
  refine S_get (ci := 1) (q := 6) (v := .ref (Z.2.2.1 + 293)) E dX1_nextChoice_9 fs_X1_28 sh285 rfl ?_
  refine J_iload_n E dX1_nextChoice_12 rfl ?_
  refine S_iald E dX1_nextChoice_13 sh293 s1_ ?_
  refine J_iconst (v := nI 1) E dX1_nextChoice_14 rfl ?_
  refine J_iadd E dX1_nextChoice_15 ?_
  refine J_iconst (v := nI 4) E dX1_nextChoice_16 rfl ?_
  refine J_icmp_ge (tgt := 32) E dX1_nextChoice_17 (by decide) (fun c => ?_) (fun c => ?_)
  · exact kt c
  · exact kf c
theorem bX1_nextChoice_20 {Z : ZT} {X : XT} {μ : Mu} {a2 : Int32} (E : Ent Z X mX1_nextChoice 0 0)  (s1_ : vp_in a2 6) (s2_ : vp_in a2 6)
    (k : JS Z X 30 [(2, .int a2)] [] (uR μ 293 (upd (μ 293) (ix a2) ((μ 293 (ix a2)) + (nI 1))))) :
    JS Z X 20 [(0, .ref (Z.2.2.1 + 285)), (2, .int a2)] [] μ := by
  refine J_aload_n E dX1_nextChoice_20 rfl ?_
  refine S_get (ci := 1) (q := 6) (v := .ref (Z.2.2.1 + 293)) E dX1_nextChoice_21 fs_X1_28 sh285 rfl ?_
  refine J_iload_n E dX1_nextChoice_24 rfl ?_
  refine J_dup2_11 E dX1_nextChoice_25 rfl rfl ?_
  refine S_iald E dX1_nextChoice_26 sh293 s1_ ?_
  refine J_iconst (v := nI 1) E dX1_nextChoice_27 rfl ?_
  refine J_iadd E dX1_nextChoice_28 ?_
  refine S_iast E dX1_nextChoice_29 sh293 s2_ ?_
  refine J.weak [1] rfl ?_
  exact k
theorem bX1_nextChoice_30 {Z : ZT} {X : XT} {μ : Mu} {a2 : Int32} (E : Ent Z X mX1_nextChoice 0 0) {P : Option Value → Mu → Prop} (hB : BodS Z X P) 
    (k : P (some (.int a2)) μ) :
    JS Z X 30 [(2, .int a2)] [] μ := by
  refine J_iload_n E dX1_nextChoice_30 rfl ?_
  exact S_iret E hB dX1_nextChoice_31 rfl k
theorem bX1_nextChoice_32 {Z : ZT} {X : XT} {μ : Mu} {a2 : Int32} (E : Ent Z X mX1_nextChoice 0 0)  (s1_ : vp_in a2 6)
    (k : JS Z X 39 [(0, .ref (Z.2.2.1 + 285)), (2, .int a2)] [] (uR μ 293 (upd (μ 293) (ix a2) (nI 0)))) :
    JS Z X 32 [(0, .ref (Z.2.2.1 + 285)), (2, .int a2)] [] μ := by
  refine J_aload_n E dX1_nextChoice_32 rfl ?_
  refine S_get (ci := 1) (q := 6) (v := .ref (Z.2.2.1 + 293)) E dX1_nextChoice_33 fs_X1_28 sh285 rfl ?_
  refine J_iload_n E dX1_nextChoice_36 rfl ?_
  refine J_iconst (v := nI 0) E dX1_nextChoice_37 rfl ?_
  refine S_iast E dX1_nextChoice_38 sh293 s1_ ?_
  exact k
theorem bX1_nextChoice_39 {Z : ZT} {X : XT} {μ : Mu} {a2 : Int32} (E : Ent Z X mX1_nextChoice 0 0)  
    (k : JS Z X 4 [(0, .ref (Z.2.2.1 + 285)), (2, .int (a2 + (-1)))] [] μ) :
    JS Z X 39 [(0, .ref (Z.2.2.1 + 285)), (2, .int a2)] [] μ := by
  refine J_iinc (v := a2 + (-1)) (lv' := [(0, .ref (Z.2.2.1 + 285)), (2, .int (a2 + (-1)))]) E dX1_nextChoice_39 rfl rfl (Nat.le_of_ble_eq_true rfl) rfl ?_
  refine J_goto (tgt := 4) E dX1_nextChoice_42 (by decide) ?_
  exact k
theorem bX1_nextChoice_45 {Z : ZT} {X : XT} {μ : Mu} (E : Ent Z X mX1_nextChoice 0 0) {P : Option Value → Mu → Prop} (hB : BodS Z X P) 
    (k : P (some (.int (-1))) μ) :
    JS Z X 45 [] [] μ := by
  refine J_iconst (v := -1) E dX1_nextChoice_45 rfl ?_
  exact S_iret E hB dX1_nextChoice_46 rfl k
theorem dX2_init_0 : decode cX2_init 0 = .ok (.aload_n 0, 1) := by decide +kernel
theorem dX2_init_1 : decode cX2_init 1 = .ok (.invokespecial 1, 3) := by decide +kernel
theorem dX2_init_4 : decode cX2_init 4 = .ok (.aload_n 0, 1) := by decide +kernel
theorem dX2_init_5 : decode cX2_init 5 = .ok (.new 7, 3) := by decide +kernel
theorem dX2_init_8 : decode cX2_init 8 = .ok (.dup, 1) := by decide +kernel
theorem dX2_init_9 : decode cX2_init 9 = .ok (.invokespecial 9, 3) := by decide +kernel
theorem dX2_init_12 : decode cX2_init 12 = .ok (.putfield 10, 3) := by decide +kernel
theorem dX2_init_15 : decode cX2_init 15 = .ok (.aload_n 0, 1) := by decide +kernel
theorem dX2_init_16 : decode cX2_init 16 = .ok (.new 7, 3) := by decide +kernel
theorem dX2_init_19 : decode cX2_init 19 = .ok (.dup, 1) := by decide +kernel
theorem dX2_init_20 : decode cX2_init 20 = .ok (.invokespecial 9, 3) := by decide +kernel
theorem dX2_init_23 : decode cX2_init 23 = .ok (.putfield 16, 3) := by decide +kernel
theorem dX2_init_26 : decode cX2_init 26 = .ok (.aload_n 0, 1) := by decide +kernel
theorem dX2_init_27 : decode cX2_init 27 = .ok (.getfield 16, 3) := by decide +kernel
theorem dX2_init_30 : decode cX2_init 30 = .ok (.iconst 1, 1) := by decide +kernel
theorem dX2_init_31 : decode cX2_init 31 = .ok (.invokevirtual 19, 3) := by decide +kernel
theorem dX2_init_34 : decode cX2_init 34 = .ok (.return_, 1) := by decide +kernel
theorem dX2_set_0 : decode cX2_set 0 = .ok (.aload_n 0, 1) := by decide +kernel
theorem dX2_set_1 : decode cX2_set 1 = .ok (.getfield 10, 3) := by decide +kernel
theorem dX2_set_4 : decode cX2_set 4 = .ok (.aload_n 1, 1) := by decide +kernel
theorem dX2_set_5 : decode cX2_set 5 = .ok (.invokevirtual 23, 3) := by decide +kernel
theorem dX2_set_8 : decode cX2_set 8 = .ok (.aload_n 0, 1) := by decide +kernel
theorem dX2_set_9 : decode cX2_set 9 = .ok (.getfield 16, 3) := by decide +kernel
theorem dX2_set_12 : decode cX2_set 12 = .ok (.iconst 1, 1) := by decide +kernel
theorem dX2_set_13 : decode cX2_set 13 = .ok (.invokevirtual 19, 3) := by decide +kernel
theorem dX2_set_16 : decode cX2_set 16 = .ok (.aload_n 0, 1) := by decide +kernel
theorem dX2_set_17 : decode cX2_set 17 = .ok (.getfield 10, 3) := by decide +kernel
theorem dX2_set_20 : decode cX2_set 20 = .ok (.getfield 27, 3) := by decide +kernel
theorem dX2_set_23 : decode cX2_set 23 = .ok (.ifCond .le 15, 3) := by decide +kernel
theorem dX2_set_26 : decode cX2_set 26 = .ok (.aload_n 0, 1) := by decide +kernel
theorem dX2_set_27 : decode cX2_set 27 = .ok (.iconst 2, 1) := by decide +kernel
theorem dX2_set_28 : decode cX2_set 28 = .ok (.iload_n 2, 1) := by decide +kernel
theorem dX2_set_29 : decode cX2_set 29 = .ok (.invokevirtual 31, 3) := by decide +kernel
theorem dX2_set_32 : decode cX2_set 32 = .ok (.aload_n 0, 1) := by decide +kernel
theorem dX2_set_33 : decode cX2_set 33 = .ok (.iconst 5, 1) := by decide +kernel
theorem dX2_set_34 : decode cX2_set 34 = .ok (.iload_n 2, 1) := by decide +kernel
theorem dX2_set_35 : decode cX2_set 35 = .ok (.invokevirtual 31, 3) := by decide +kernel
theorem dX2_set_38 : decode cX2_set 38 = .ok (.return_, 1) := by decide +kernel
theorem bX2_set_0 {Z : ZT} {X : XT} {μ : Mu} {a1 : Nat} {a2 : Int32} (E : Ent Z X mX2_set 0 0) (ha1 : SH a1 = .inl 0) {p : Mu → Prop} 
    (c : CtrS Z mX0_copy [.ref (Z.2.2.1 + 447), .ref (Z.2.2.1 + a1)] μ (rV p)) (k : ∀ μ1, p μ1 → JS Z X 8 [(0, .ref (Z.2.2.1 + 446)), (2, .int a2)] [] μ1) :
    JS Z X 0 [(0, .ref (Z.2.2.1 + 446)), (1, .ref (Z.2.2.1 + a1)), (2, .int a2)] [] μ := by
  refine J_aload_n E dX2_set_0 rfl ?_
  refine S_get (ci := 2) (q := 0) (v := .ref (Z.2.2.1 + 447)) E dX2_set_1 fs_X2_10 sh446 rfl ?_
  refine J_aload_n E dX2_set_4 rfl ?_
  refine S_callV (As := [.ref (Z.2.2.1 + a1)]) (rest := []) E dX2_set_5 c kX0_copy ⟨Nat.le_of_ble_eq_true rfl, Nat.le_of_ble_eq_true rfl⟩ rfl (Nat.le_of_ble_eq_true rfl) sh447 rfl rfl w4_126 w4_127 w4_128 (fun r_ μ1 hp_ => ?_)
  obtain ⟨rfl, hp_⟩ := hp_
  refine J.weak [0, 2] rfl ?_
  exact k μ1 hp_
theorem bX2_set_8 {Z : ZT} {X : XT} {μ : Mu} {a2 : Int32} (E : Ent Z X mX2_set 0 0) {p : Mu → Prop} 
    (c : CtrS Z mX0_set [.ref (Z.2.2.1 + 449), .int (nI 1)] μ (rV p)) (k : ∀ μ1, p μ1 → JS Z X 16 [(0, .ref (Z.2.2.1 + 446)), (2, .int a2)] [] μ1) :
    JS Z X 8 [(0, .ref (Z.2.2.1 + 446)), (2, .int a2)] [] μ := by
  refine J_aload_n E dX2_set_8 rfl ?_
  refine S_get (ci := 2) (q := 1) (v := .ref (Z.2.2.1 + 449)) E dX2_set_9 fs_X2_16 sh446 rfl ?_
  refine J_iconst (v := nI 1) E dX2_set_12 rfl ?_
  refine S_callV (As := [.int (nI 1)]) (rest := []) E dX2_set_13 c kX0_set ⟨Nat.le_of_ble_eq_true rfl, Nat.le_of_ble_eq_true rfl⟩ rfl (Nat.le_of_ble_eq_true rfl) sh449 rfl rfl w2_179 w2_180 w2_181 (fun r_ μ1 hp_ => ?_)
  obtain ⟨rfl, hp_⟩ := hp_
  exact k μ1 hp_
theorem bX2_set_16 {Z : ZT} {X : XT} {μ : Mu} {a2 : Int32} (E : Ent Z X mX2_set 0 0)  
    (kt : (μ 447 1) ≤ 0 → JS Z X 38 [] [] μ) (kf : ¬ ((μ 447 1) ≤ 0) → JS Z X 26 [(0, .ref (Z.2.2.1 + 446)), (2, .int a2)] [] μ) :
    JS Z X 16 [(0, .ref (Z.2.2.1 + 446)), (2, .int a2)] [] μ := by
  refine J_aload_n E dX2_set_16 rfl ?_
  refine S_get (ci := 2) (q := 0) (v := .ref (Z.2.2.1 + 447)) E dX2_set_17 fs_X2_10 sh446 rfl ?_
  refine S_get (ci := 0) (q := 1) (v := .int (μ 447 1)) E dX2_set_20 fs_X2_27 sh447 rfl ?_
  refine J_if_le (tgt := 38) E dX2_set_23 (by decide) (fun c => ?_) (fun c => ?_)
  · refine J.weak [] rfl ?_
    exact kt c
  · exact kf c
theorem bX2_set_26 {Z : ZT} {X : XT} {μ : Mu} {a2 : Int32} (E : Ent Z X mX2_set 0 0) {p : Mu → Prop} 
    (c : CtrS Z mX2_reduce [.ref (Z.2.2.1 + 446), .int (nI 2), .int a2] μ (rV p)) (k : ∀ μ1, p μ1 → JS Z X 32 [(0, .ref (Z.2.2.1 + 446)), (2, .int a2)] [] μ1) :
    JS Z X 26 [(0, .ref (Z.2.2.1 + 446)), (2, .int a2)] [] μ := by
  refine J_aload_n E dX2_set_26 rfl ?_
  refine J_iconst (v := nI 2) E dX2_set_27 rfl ?_
  refine J_iload_n E dX2_set_28 rfl ?_
  refine S_callV (As := [.int (nI 2), .int a2]) (rest := []) E dX2_set_29 c kX2_reduce ⟨Nat.le_of_ble_eq_true rfl, Nat.le_of_ble_eq_true rfl⟩ rfl (Nat.le_of_ble_eq_true rfl) sh446 rfl rfl w4_134 w4_136 wp_18 (fun r_ μ1 hp_ => ?_)
  obtain ⟨rfl, hp_⟩ := hp_
  exact k μ1 hp_
theorem bX2_set_32 {Z : ZT} {X : XT} {μ : Mu} {a2 : Int32} (E : Ent Z X mX2_set 0 0) {p : Mu → Prop} 
    (c : CtrS Z mX2_reduce [.ref (Z.2.2.1 + 446), .int (nI 5), .int a2] μ (rV p)) (k : ∀ μ1, p μ1 → JS Z X 38 [] [] μ1) :
    JS Z X 32 [(0, .ref (Z.2.2.1 + 446)), (2, .int a2)] [] μ := by
  refine J_aload_n E dX2_set_32 rfl ?_
  refine J_iconst (v := nI 5) E dX2_set_33 rfl ?_
  refine J_iload_n E dX2_set_34 rfl ?_
  refine S_callV (As := [.int (nI 5), .int a2]) (rest := []) E dX2_set_35 c kX2_reduce ⟨Nat.le_of_ble_eq_true rfl, Nat.le_of_ble_eq_true rfl⟩ rfl (Nat.le_of_ble_eq_true rfl) sh446 rfl rfl w4_134 w4_136 wp_18 (fun r_ μ1 hp_ => ?_)
  obtain ⟨rfl, hp_⟩ := hp_
  refine J.weak [] rfl ?_
  exact k μ1 hp_
theorem bX2_set_38 {Z : ZT} {X : XT} {μ : Mu} (E : Ent Z X mX2_set 0 0) {P : Option Value → Mu → Prop} (hB : BodS Z X P) 
    (k : P none μ) :
    JS Z X 38 [] [] μ := by
  exact S_vret E hB dX2_set_38 rfl k
theorem dX2_reduce_0 : decode cX2_reduce 0 = .ok (.iconst 0, 1) := by decide +kernel
theorem dX2_reduce_1 : decode cX2_reduce 1 = .ok (.istore_n 3, 1) := by decide +kernel
theorem dX2_reduce_2 : decode cX2_reduce 2 = .ok (.iload_n 3, 1) := by decide +kernel
theorem dX2_reduce_3 : decode cX2_reduce 3 = .ok (.iload_n 2, 1) := by decide +kernel
theorem dX2_reduce_4 : decode cX2_reduce 4 = .ok (.if_icmp .ge 39, 3) := by decide +kernel
theorem dX2_reduce_7 : decode cX2_reduce 7 = .ok (.aload_n 0, 1) := by decide +kernel
theorem dX2_reduce_8 : decode cX2_reduce 8 = .ok (.getfield 10, 3) := by decide +kernel
theorem dX2_reduce_11 : decode cX2_reduce 11 = .ok (.iload_n 1, 1) := by decide +kernel
theorem dX2_reduce_12 : decode cX2_reduce 12 = .ok (.invokevirtual 35, 3) := by decide +kernel
theorem dX2_reduce_15 : decode cX2_reduce 15 = .ok (.ifCond .ne 14, 3) := by decide +kernel
theorem dX2_reduce_18 : decode cX2_reduce 18 = .ok (.aload_n 0, 1) := by decide +kernel
theorem dX2_reduce_19 : decode cX2_reduce 19 = .ok (.getfield 10, 3) := by decide +kernel
theorem dX2_reduce_22 : decode cX2_reduce 22 = .ok (.iload_n 1, 1) := by decide +kernel
theorem dX2_reduce_23 : decode cX2_reduce 23 = .ok (.invokevirtual 39, 3) := by decide +kernel
theorem dX2_reduce_26 : decode cX2_reduce 26 = .ok (.goto 11, 3) := by decide +kernel
theorem dX2_reduce_29 : decode cX2_reduce 29 = .ok (.aload_n 0, 1) := by decide +kernel
theorem dX2_reduce_30 : decode cX2_reduce 30 = .ok (.getfield 16, 3) := by decide +kernel
theorem dX2_reduce_33 : decode cX2_reduce 33 = .ok (.iload_n 1, 1) := by decide +kernel
theorem dX2_reduce_34 : decode cX2_reduce 34 = .ok (.invokevirtual 42, 3) := by decide +kernel
theorem dX2_reduce_37 : decode cX2_reduce 37 = .ok (.iinc 3 1, 3) := by decide +kernel
theorem dX2_reduce_40 : decode cX2_reduce 40 = .ok (.goto (-38), 3) := by decide +kernel
theorem dX2_reduce_43 : decode cX2_reduce 43 = .ok (.return_, 1) := by decide +kernel
theorem bX2_reduce_0 {Z : ZT} {X : XT} {μ : Mu} {a1 : Int32} {a2 : Int32} (E : Ent Z X mX2_reduce 0 0)  
    (k : JS Z X 2 [(0, .ref (Z.2.2.1 + 446)), (1, .int a1), (2, .int a2), (3, .int (nI 0))] [] μ) :
    JS Z X 0 [(0, .ref (Z.2.2.1 + 446)), (1, .int a1), (2, .int a2)] [] μ := by
  refine J_iconst (v := nI 0) E dX2_reduce_0 rfl ?_
  refine J_istore_n (lv' := [(0, .ref (Z.2.2.1 + 446)), (1, .int a1), (2, .int a2), (3, .int (nI 0))]) E dX2_reduce_1 (Nat.le_of_ble_eq_true rfl) rfl ?_
  exact k
theorem bX2_reduce_2 {Z : ZT} {X : XT} {μ : Mu} {a1 : Int32} {a2 : Int32} {a3 : Int32} (E : Ent Z X mX2_reduce 0 0)  
    (kt : a2 ≤ a3 → JS Z X 43 [] [] μ) (kf : ¬ (a2 ≤ a3) → JS Z X 7 [(0, .ref (Z.2.2.1 + 446)), (1, .int a1), (2, .int a2), (3, .int a3)] [] μ) :
    JS Z X 2 [(0, .ref (Z.2.2.1 + 446)), (1, .int a1), (2, .int a2), (3, .int a3)] [] μ := by
  refine J_iload_n E dX2_reduce_2 rfl ?_
  refine J_iload_n E dX2_reduce_3 rfl ?_
  refine J_icmp_ge (tgt := 43) E dX2_reduce_4 (by decide) (fun c => ?_) (fun c => ?_)
  · refine J.weak [] rfl ?_
    exact kt c
  · exact kf c
theorem bX2_reduce_7 {Z : ZT} {X : XT} {μ : Mu} {a1 : Int32} {a2 : Int32} {a3 : Int32} (E : Ent Z X mX2_reduce 0 0) {p : Int32 → Mu → Prop} 
    (c : CtrS Z mX0_rest [.ref (Z.2.2.1 + 447), .int a1] μ (rI p)) (k : ∀ v μ1, p v μ1 → JS Z X 15 [(0, .ref (Z.2.2.1 + 446)), (1, .int a1), (2, .int a2), (3, .int a3)] [.int v] μ1) :
    JS Z X 7 [(0, .ref (Z.2.2.1 + 446)), (1, .int a1), (2, .int a2), (3, .int a3)] [] μ := by
  refine J_aload_n E dX2_reduce_7 rfl ?_
  refine S_get (ci := 2) (q := 0) (v := .ref (Z.2.2.1 + 447)) E dX2_reduce_8 fs_X2_10 sh446 rfl ?_
  refine J_iload_n E dX2_reduce_11 rfl ?_
  refine S_callV (As := [.int a1]) (rest := []) E dX2_reduce_12 c kX0_rest ⟨Nat.le_of_ble_eq_true rfl, Nat.le_of_ble_eq_true rfl⟩ rfl (Nat.le_of_ble_eq_true rfl) sh447 rfl rfl w4_138 w4_139 w4_140 (fun r_ μ1 hp_ => ?_)
  obtain ⟨v, rfl, hp_⟩ := hp_
  exact k v μ1 hp_
theorem bX2_reduce_15 {Z : ZT} {X : XT} {μ : Mu} {a1 : Int32} {a2 : Int32} {a3 : Int32} {s0 : Int32} (E : Ent Z X mX2_reduce 0 0)  
    (kt : ¬ s0 = 0 → JS Z X 29 [(0, .ref (Z.2.2.1 + 446)), (1, .int a1), (2, .int a2), (3, .int a3)] [] μ) (kf : s0 = 0 → JS Z X 18 [(0, .ref (Z.2.2.1 + 446)), (1, .int a1), (2, .int a2), (3, .int a3)] [] μ) :
    JS Z X 15 [(0, .ref (Z.2.2.1 + 446)), (1, .int a1), (2, .int a2), (3, .int a3)] [.int s0] μ := by
  refine J_if_ne (tgt := 29) E dX2_reduce_15 (by decide) (fun c => ?_) (fun c => ?_)
  · exact kt c
  · exact kf c
theorem bX2_reduce_18 {Z : ZT} {X : XT} {μ : Mu} {a1 : Int32} {a2 : Int32} {a3 : Int32} (E : Ent Z X mX2_reduce 0 0) {p : Mu → Prop} 
    (c : CtrS Z mX0_divide [.ref (Z.2.2.1 + 447), .int a1] μ (rV p)) (k : ∀ μ1, p μ1 → JS Z X 26 [(0, .ref (Z.2.2.1 + 446)), (1, .int a1), (2, .int a2), (3, .int a3)] [] μ1) :
    JS Z X 18 [(0, .ref (Z.2.2.1 + 446)), (1, .int a1), (2, .int a2), (3, .int a3)] [] μ := by
  refine J_aload_n E dX2_reduce_18 rfl ?_
  refine S_get (ci := 2) (q := 0) (v := .ref (Z.2.2.1 + 447)) E dX2_reduce_19 fs_X2_10 sh446 rfl ?_
  refine J_iload_n E dX2_reduce_22 rfl ?_
  refine S_callV (As := [.int a1]) (rest := []) E dX2_reduce_23 c kX0_divide ⟨Nat.le_of_ble_eq_true rfl, Nat.le_of_ble_eq_true rfl⟩ rfl (Nat.le_of_ble_eq_true rfl) sh447 rfl rfl w4_142 w4_143 w4_144 (fun r_ μ1 hp_ => ?_)
  obtain ⟨rfl, hp_⟩ := hp_
  exact k μ1 hp_
theorem bX2_reduce_26 {Z : ZT} {X : XT} {μ : Mu} {a1 : Int32} {a2 : Int32} {a3 : Int32} (E : Ent Z X mX2_reduce 0 0)  
    (k : JS Z X 37 [(0, .ref (Z.2.2.1 + 446)), (1, .int a1), (2, .int a2), (3, .int a3)] [] μ) :
    JS Z X 26 [(0, .ref (Z.2.2.1 + 446)), (1, .int a1), (2, .int a2), (3, .int a3)] [] μ := by
  refine J_goto (tgt := 37) E dX2_reduce_26 (by decide) ?_
  exact k
theorem bX2_reduce_29 {Z : ZT} {X : XT} {μ : Mu} {a1 : Int32} {a2 : Int32} {a3 : Int32} (E : Ent Z X mX2_reduce 0 0) {p : Mu → Prop} 
    (c : CtrS Z mX0_times [.ref (Z.2.2.1 + 449), .int a1] μ (rV p)) (k : ∀ μ1, p μ1 → JS Z X 37 [(0, .ref (Z.2.2.1 + 446)), (1, .int a1), (2, .int a2), (3, .int a3)] [] μ1) :
    JS Z X 29 [(0, .ref (Z.2.2.1 + 446)), (1, .int a1), (2, .int a2), (3, .int a3)] [] μ := by
  refine J_aload_n E dX2_reduce_29 rfl ?_
  refine S_get (ci := 2) (q := 1) (v := .ref (Z.2.2.1 + 449)) E dX2_reduce_30 fs_X2_16 sh446 rfl ?_
  refine J_iload_n E dX2_reduce_33 rfl ?_
  refine S_callV (As := [.int a1]) (rest := []) E dX2_reduce_34 c kX0_times ⟨Nat.le_of_ble_eq_true rfl, Nat.le_of_ble_eq_true rfl⟩ rfl (Nat.le_of_ble_eq_true rfl) sh449 rfl rfl w4_146 w4_147 w4_148 (fun r_ μ1 hp_ => ?_)
  obtain ⟨rfl, hp_⟩ := hp_
  exact k μ1 hp_
theorem bX2_reduce_37 {Z : ZT} {X : XT} {μ : Mu} {a1 : Int32} {a2 : Int32} {a3 : Int32} (E : Ent Z X mX2_reduce 0 0)  
    (k : JS Z X 2 [(0, .ref (Z.2.2.1 + 446)), (1, .int a1), (2, .int a2), (3, .int (a3 + nI 1))] [] μ) :
    JS Z X 37 [(0, .ref (Z.2.2.1 + 446)), (1, .int a1), (2, .int a2), (3, .int a3)] [] μ := by
  refine J_iinc (v := a3 + nI 1) (lv' := [(0, .ref (Z.2.2.1 + 446)), (1, .int a1), (2, .int a2), (3, .int (a3 + nI 1))]) E dX2_reduce_37 rfl rfl (Nat.le_of_ble_eq_true rfl) rfl ?_
  refine J_goto (tgt := 2) E dX2_reduce_40 (by decide) ?_
  exact k
theorem bX2_reduce_43 {Z : ZT} {X : XT} {μ : Mu} (E : Ent Z X mX2_reduce 0 0) {P : Option Value → Mu → Prop} (hB : BodS Z X P) 
    (k : P none μ) :
    JS Z X 43 [] [] μ := by
  exact S_vret E hB dX2_reduce_43 rfl k
theorem dX2_setRatio_0 : decode cX2_setRatio 0 = .ok (.iconst 1, 1) := by decide +kernel
theorem dX2_setRatio_1 : decode cX2_setRatio 1 = .ok (.istore_n 3, 1) := by decide +kernel
theorem dX2_setRatio_2 : decode cX2_setRatio 2 = .ok (.iconst 2, 1) := by decide +kernel
theorem dX2_setRatio_3 : decode cX2_setRatio 3 = .ok (.istore 4, 2) := by decide +kernel
theorem dX2_setRatio_5 : decode cX2_setRatio 5 = .ok (.iload 4, 2) := by decide +kernel
theorem dX2_setRatio_7 : decode cX2_setRatio 7 = .ok (.iload_n 2, 1) := by decide +kernel
theorem dX2_setRatio_8 : decode cX2_setRatio 8 = .ok (.if_icmp .gt 26, 3) := by decide +kernel
theorem dX2_setRatio_11 : decode cX2_setRatio 11 = .ok (.iload_n 1, 1) := by decide +kernel
theorem dX2_setRatio_12 : decode cX2_setRatio 12 = .ok (.iload 4, 2) := by decide +kernel
theorem dX2_setRatio_14 : decode cX2_setRatio 14 = .ok (.irem, 1) := by decide +kernel
theorem dX2_setRatio_15 : decode cX2_setRatio 15 = .ok (.ifCond .ne 13, 3) := by decide +kernel
theorem dX2_setRatio_18 : decode cX2_setRatio 18 = .ok (.iload_n 2, 1) := by decide +kernel
theorem dX2_setRatio_19 : decode cX2_setRatio 19 = .ok (.iload 4, 2) := by decide +kernel
theorem dX2_setRatio_21 : decode cX2_setRatio 21 = .ok (.irem, 1) := by decide +kernel
theorem dX2_setRatio_22 : decode cX2_setRatio 22 = .ok (.ifCond .ne 6, 3) := by decide +kernel
theorem dX2_setRatio_25 : decode cX2_setRatio 25 = .ok (.iload 4, 2) := by decide +kernel
theorem dX2_setRatio_27 : decode cX2_setRatio 27 = .ok (.istore_n 3, 1) := by decide +kernel
theorem dX2_setRatio_28 : decode cX2_setRatio 28 = .ok (.iinc 4 1, 3) := by decide +kernel
theorem dX2_setRatio_31 : decode cX2_setRatio 31 = .ok (.goto (-26), 3) := by decide +kernel
theorem dX2_setRatio_34 : decode cX2_setRatio 34 = .ok (.aload_n 0, 1) := by decide +kernel
theorem dX2_setRatio_35 : decode cX2_setRatio 35 = .ok (.getfield 10, 3) := by decide +kernel
theorem dX2_setRatio_38 : decode cX2_setRatio 38 = .ok (.iload_n 1, 1) := by decide +kernel
theorem dX2_setRatio_39 : decode cX2_setRatio 39 = .ok (.iload_n 3, 1) := by decide +kernel
theorem dX2_setRatio_40 : decode cX2_setRatio 40 = .ok (.idiv, 1) := by decide +kernel
theorem dX2_setRatio_41 : decode cX2_setRatio 41 = .ok (.invokevirtual 19, 3) := by decide +kernel
theorem dX2_setRatio_44 : decode cX2_setRatio 44 = .ok (.aload_n 0, 1) := by decide +kernel
theorem dX2_setRatio_45 : decode cX2_setRatio 45 = .ok (.getfield 16, 3) := by decide +kernel
theorem dX2_setRatio_48 : decode cX2_setRatio 48 = .ok (.iload_n 2, 1) := by decide +kernel
theorem dX2_setRatio_49 : decode cX2_setRatio 49 = .ok (.iload_n 3, 1) := by decide +kernel
theorem dX2_setRatio_50 : decode cX2_setRatio 50 = .ok (.idiv, 1) := by decide +kernel
theorem dX2_setRatio_51 : decode cX2_setRatio 51 = .ok (.invokevirtual 19, 3) := by decide +kernel
theorem dX2_setRatio_54 : decode cX2_setRatio 54 = .ok (.return_, 1) := by decide +kernel
theorem bX2_setRatio_0 {Z : ZT} {X : XT} {μ : Mu} {a1 : Int32} {a2 : Int32} (E : Ent Z X mX2_setRatio 0 0)  
    (k : JS Z X 5 [(0, .ref (Z.2.2.1 + 446)), (1, .int a1), (2, .int a2), (3, .int (nI 1)), (4, .int (nI 2))] [] μ) :
    JS Z X 0 [(0, .ref (Z.2.2.1 + 446)), (1, .int a1), (2, .int a2)] [] μ := by
  refine J_iconst (v := nI 1) E dX2_setRatio_0 rfl ?_
  refine J_istore_n (lv' := [(0, .ref (Z.2.2.1 + 446)), (1, .int a1), (2, .int a2), (3, .int (nI 1))]) E dX2_setRatio_1 (Nat.le_of_ble_eq_true rfl) rfl ?_
  refine J_iconst (v := nI 2) E dX2_setRatio_2 rfl ?_
  refine J_istore (lv' := [(0, .ref (Z.2.2.1 + 446)), (1, .int a1), (2, .int a2), (3, .int (nI 1)), (4, .int (nI 2))]) E dX2_setRatio_3 (Nat.le_of_ble_eq_true rfl) rfl ?_
  exact k
theorem bX2_setRatio_5 {Z : ZT} {X : XT} {μ : Mu} {a1 : Int32} {a2 : Int32} {a3 : Int32} {a4 : Int32} (E : Ent Z X mX2_setRatio 0 0)  
    (kt : a2 < a4 → JS Z X 34 [(0, .ref (Z.2.2.1 + 446)), (1, .int a1), (2, .int a2), (3, .int a3)] [] μ) (kf : ¬ (a2 < a4) → JS Z X 11 [(0, .ref (Z.2.2.1 + 446)), (1, .int a1), (2, .int a2), (3, .int a3), (4, .int a4)] [] μ) :
    JS Z X 5 [(0, .ref (Z.2.2.1 + 446)), (1, .int a1), (2, .int a2), (3, .int a3), (4, .int a4)] [] μ := by
  refine J_iload E dX2_setRatio_5 rfl ?_
  refine J_iload_n E dX2_setRatio_7 rfl ?_
  refine J_icmp_gt (tgt := 34) E dX2_setRatio_8 (by decide) (fun c => ?_) (fun c => ?_)
  · refine J.weak [0, 1, 2, 3] rfl ?_
    exact kt c
  · exact kf c
theorem bX2_setRatio_11 {Z : ZT} {X : XT} {μ : Mu} {a1 : Int32} {a2 : Int32} {a3 : Int32} {a4 : Int32} (E : Ent Z X mX2_setRatio 0 0)  (s1_ : ¬ a4 = 0)
    (kt : ¬ (a1 - a1 / a4 * a4) = 0 → JS Z X 28 [(0, .ref (Z.2.2.1 + 446)), (1, .int a1), (2, .int a2), (3, .int a3), (4, .int a4)] [] μ) (kf : (a1 - a1 / a4 * a4) = 0 → JS Z X 18 [(0, .ref (Z.2.2.1 + 446)), (1, .int a1), (2, .int a2), (3, .int a3), (4, .int a4)] [] μ) :
    JS Z X 11 [(0, .ref (Z.2.2.1 + 446)), (1, .int a1), (2, .int a2), (3, .int a3), (4, .int a4)] [] μ := by
  refine J_iload_n E dX2_setRatio_11 rfl ?_
  refine J_iload E dX2_setRatio_12 rfl ?_
  refine J_irem E dX2_setRatio_14 s1_ ?_
  refine J_if_ne (tgt := 28) E dX2_setRatio_15 (by decide) (fun c => ?_) (fun c => ?_)
  · exact kt c
  · exact kf c
theorem bX2_setRatio_18 {Z : ZT} {X : XT} {μ : Mu} {a1 : Int32} {a2 : Int32} {a3 : Int32} {a4 : Int32} (E : Ent Z X mX2_setRatio 0 0)  (s1_ : ¬ a4 = 0)
    (kt : ¬ (a2 - a2 / a4 * a4) = 0 → JS Z X 28 [(0, .ref (Z.2.2.1 + 446)), (1, .int a1), (2, .int a2), (3, .int a3), (4, .int a4)] [] μ) (kf : (a2 - a2 / a4 * a4) = 0 → JS Z X 25 [(0, .ref (Z.2.2.1 + 446)), (1, .int a1), (2, .int a2), (4, .int a4)] [] μ) :
    JS Z X 18 [(0, .ref (Z.2.2.1 + 446)), (1, .int a1), (2, .int a2), (3, .int a3), (4, .int a4)] [] μ := by
  refine J_iload_n E dX2_setRatio_18 rfl ?_
  refine J_iload E dX2_setRatio_19 rfl ?_
  refine J_irem E dX2_setRatio_21 s1_ ?_
  refine J_if_ne (tgt := 28) E dX2_setRatio_22 (by decide) (fun c => ?_) (fun c => ?_)
  · exact kt c
  · refine J.weak [0, 1, 2, 4] rfl ?_
    exact kf c
theorem bX2_setRatio_25 {Z : ZT} {X : XT} {μ : Mu} {a1 : Int32} {a2 : Int32} {a4 : Int32} (E : Ent Z X mX2_setRatio 0 0)  
    (k : JS Z X 28 [(0, .ref (Z.2.2.1 + 446)), (1, .int a1), (2, .int a2), (3, .int a4), (4, .int a4)] [] μ) :
    JS Z X 25 [(0, .ref (Z.2.2.1 + 446)), (1, .int a1), (2, .int a2), (4, .int a4)] [] μ := by
  refine J_iload E dX2_setRatio_25 rfl ?_
  refine J_istore_n (lv' := [(0, .ref (Z.2.2.1 + 446)), (1, .int a1), (2, .int a2), (3, .int a4), (4, .int a4)]) E dX2_setRatio_27 (Nat.le_of_ble_eq_true rfl) rfl ?_
  exact k
theorem bX2_setRatio_28 {Z : ZT} {X : XT} {μ : Mu} {a1 : Int32} {a2 : Int32} {a3 : Int32} {a4 : Int32} (E : Ent Z X mX2_setRatio 0 0)  
    (k : JS Z X 5 [(0, .ref (Z.2.2.1 + 446)), (1, .int a1), (2, .int a2), (3, .int a3), (4, .int (a4 + nI 1))] [] μ) :
    JS Z X 28 [(0, .ref (Z.2.2.1 + 446)), (1, .int a1), (2, .int a2), (3, .int a3), (4, .int a4)] [] μ := by
  refine J_iinc (v := a4 + nI 1) (lv' := [(0, .ref (Z.2.2.1 + 446)), (1, .int a1), (2, .int a2), (3, .int a3), (4, .int (a4 + nI 1))]) E dX2_setRatio_28 rfl rfl (Nat.le_of_ble_eq_true rfl) rfl ?_
  refine J_goto (tgt := 5) E dX2_setRatio_31 (by decide) ?_
  exact k
theorem bX2_setRatio_34 {Z : ZT} {X : XT} {μ : Mu} {a1 : Int32} {a2 : Int32} {a3 : Int32} (E : Ent Z X mX2_setRatio 0 0) {p : Mu → Prop} (s1_ : ¬ a3 = 0)
    (c : CtrS Z mX0_set [.ref (Z.2.2.1 + 447), .int (a1 / a3)] μ (rV p)) (k : ∀ μ1, p μ1 → JS Z X 44 [(0, .ref (Z.2.2.1 + 446)), (2, .int a2), (3, .int a3)] [] μ1) :
    JS Z X 34 [(0, .ref (Z.2.2.1 + 446)), (1, .int a1), (2, .int a2), (3, .int a3)] [] μ := by
  refine J_aload_n E dX2_setRatio_34 rfl ?_
  refine S_get (ci := 2) (q := 0) (v := .ref (Z.2.2.1 + 447)) E dX2_setRatio_35 fs_X2_10 sh446 rfl ?_
  refine J_iload_n E dX2_setRatio_38 rfl ?_
  refine J_iload_n E dX2_setRatio_39 rfl ?_
  refine J_idiv E dX2_setRatio_40 s1_ ?_
  refine S_callV (As := [.int (a1 / a3)]) (rest := []) E dX2_setRatio_41 c kX0_set ⟨Nat.le_of_ble_eq_true rfl, Nat.le_of_ble_eq_true rfl⟩ rfl (Nat.le_of_ble_eq_true rfl) sh447 rfl rfl w2_179 w2_180 w2_181 (fun r_ μ1 hp_ => ?_)
  obtain ⟨rfl, hp_⟩ := hp_
  refine J.weak [0, 2, 3] rfl ?_
  exact k μ1 hp_
theorem bX2_setRatio_44 {Z : ZT} {X : XT} {μ : Mu} {a2 : Int32} {a3 : Int32} (E : Ent Z X mX2_setRatio 0 0) {p : Mu → Prop} (s1_ : ¬ a3 = 0)
    (c : CtrS Z mX0_set [.ref (Z.2.2.1 + 449), .int (a2 / a3)] μ (rV p)) (k : ∀ μ1, p μ1 → JS Z X 54 [] [] μ1) :
    JS Z X 44 [(0, .ref (Z.2.2.1 + 446)), (2, .int a2), (3, .int a3)] [] μ := by
  refine J_aload_n E dX2_setRatio_44 rfl ?_
  refine S_get (ci := 2) (q := 1) (v := .ref (Z.2.2.1 + 449)) E dX2_setRatio_45 fs_X2_16 sh446 rfl ?_
  refine J_iload_n E dX2_setRatio_48 rfl ?_
  refine J_iload_n E dX2_setRatio_49 rfl ?_
  refine J_idiv E dX2_setRatio_50 s1_ ?_
  refine S_callV (As := [.int (a2 / a3)]) (rest := []) E dX2_setRatio_51 c kX0_set ⟨Nat.le_of_ble_eq_true rfl, Nat.le_of_ble_eq_true rfl⟩ rfl (Nat.le_of_ble_eq_true rfl) sh449 rfl rfl w2_179 w2_180 w2_181 (fun r_ μ1 hp_ => ?_)
  obtain ⟨rfl, hp_⟩ := hp_
  refine J.weak [] rfl ?_
  exact k μ1 hp_
theorem bX2_setRatio_54 {Z : ZT} {X : XT} {μ : Mu} (E : Ent Z X mX2_setRatio 0 0) {P : Option Value → Mu → Prop} (hB : BodS Z X P) 
    (k : P none μ) :
    JS Z X 54 [] [] μ := by
  exact S_vret E hB dX2_setRatio_54 rfl k
theorem dX2_signOrSize_0 : decode cX2_signOrSize 0 = .ok (.iload_n 1, 1) := by decide +kernel
theorem dX2_signOrSize_1 : decode cX2_signOrSize 1 = .ok (.ifCond .ne 19, 3) := by decide +kernel
theorem dX2_signOrSize_4 : decode cX2_signOrSize 4 = .ok (.aload_n 0, 1) := by decide +kernel
theorem dX2_signOrSize_5 : decode cX2_signOrSize 5 = .ok (.getfield 10, 3) := by decide +kernel
theorem dX2_signOrSize_8 : decode cX2_signOrSize 8 = .ok (.getfield 27, 3) := by decide +kernel
theorem dX2_signOrSize_11 : decode cX2_signOrSize 11 = .ok (.ifCond .le 7, 3) := by decide +kernel
theorem dX2_signOrSize_14 : decode cX2_signOrSize 14 = .ok (.iconst 1, 1) := by decide +kernel
theorem dX2_signOrSize_15 : decode cX2_signOrSize 15 = .ok (.goto 4, 3) := by decide +kernel
theorem dX2_signOrSize_18 : decode cX2_signOrSize 18 = .ok (.iconst 0, 1) := by decide +kernel
theorem dX2_signOrSize_19 : decode cX2_signOrSize 19 = .ok (.ireturn, 1) := by decide +kernel
theorem dX2_signOrSize_20 : decode cX2_signOrSize 20 = .ok (.iload_n 1, 1) := by decide +kernel
theorem dX2_signOrSize_21 : decode cX2_signOrSize 21 = .ok (.iconst 1, 1) := by decide +kernel
theorem dX2_signOrSize_22 : decode cX2_signOrSize 22 = .ok (.if_icmp .ne 13, 3) := by decide +kernel
theorem dX2_signOrSize_25 : decode cX2_signOrSize 25 = .ok (.aload_n 0, 1) := by decide +kernel
theorem dX2_signOrSize_26 : decode cX2_signOrSize 26 = .ok (.getfield 10, 3) := by decide +kernel
theorem dX2_signOrSize_29 : decode cX2_signOrSize 29 = .ok (.getfield 27, 3) := by decide +kernel
theorem dX2_signOrSize_32 : decode cX2_signOrSize 32 = .ok (.goto 10, 3) := by decide +kernel
theorem dX2_signOrSize_35 : decode cX2_signOrSize 35 = .ok (.aload_n 0, 1) := by decide +kernel
theorem dX2_signOrSize_36 : decode cX2_signOrSize 36 = .ok (.getfield 16, 3) := by decide +kernel
theorem dX2_signOrSize_39 : decode cX2_signOrSize 39 = .ok (.getfield 27, 3) := by decide +kernel
theorem dX2_signOrSize_42 : decode cX2_signOrSize 42 = .ok (.ireturn, 1) := by decide +kernel
theorem bX2_signOrSize_0 {Z : ZT} {X : XT} {μ : Mu} {a1 : Int32} (E : Ent Z X mX2_signOrSize 0 0)  
    (kt : ¬ a1 = 0 → JS Z X 20 [(0, .ref (Z.2.2.1 + 446)), (1, .int a1)] [] μ) (kf : a1 = 0 → JS Z X 4 [(0, .ref (Z.2.2.1 + 446))] [] μ) :
    JS Z X 0 [(0, .ref (Z.2.2.1 + 446)), (1, .int a1)] [] μ := by
  refine J_iload_n E dX2_signOrSize_0 rfl ?_
  refine J_if_ne (tgt := 20) E dX2_signOrSize_1 (by decide) (fun c => ?_) (fun c => ?_)
  · exact kt c
  · refine J.weak [0] rfl ?_
    exact kf c
theorem bX2_signOrSize_4 {Z : ZT} {X : XT} {μ : Mu} (E : Ent Z X mX2_signOrSize 0 0)  
    (kt : (μ 447 1) ≤ 0 → JS Z X 18 [] [] μ) (kf : ¬ ((μ 447 1) ≤ 0) → JS Z X 14 [] [] μ) :
    JS Z X 4 [(0, .ref (Z.2.2.1 + 446))] [] μ := by
  refine J_aload_n E dX2_signOrSize_4 rfl ?_
  refine S_get (ci := 2) (q := 0) (v := .ref (Z.2.2.1 + 447)) E dX2_signOrSize_5 fs_X2_10 sh446 rfl ?_
  refine S_get (ci := 0) (q := 1) (v := .int (μ 447 1)) E dX2_signOrSize_8 fs_X2_27 sh447 rfl ?_
  refine J_if_le (tgt := 18) E dX2_signOrSize_11 (by decide) (fun c => ?_) (fun c => ?_)
  · refine J.weak [] rfl ?_
    exact kt c
  · refine J.weak [] rfl ?_
    exact kf c
theorem bX2_signOrSize_14 {Z : ZT} {X : XT} {μ : Mu} (E : Ent Z X mX2_signOrSize 0 0)  
    (k : JS Z X 19 [] [.int (nI 1)] μ) :
    JS Z X 14 [] [] μ := by
  refine J_iconst (v := nI 1) E dX2_signOrSize_14 rfl ?_
  refine J_goto (tgt := 19) E dX2_signOrSize_15 (by decide) ?_
  exact k
theorem bX2_signOrSize_18 {Z : ZT} {X : XT} {μ : Mu} (E : Ent Z X mX2_signOrSize 0 0)  
    (k : JS Z X 19 [] [.int (nI 0)] μ) :
    JS Z X 18 [] [] μ := by
  refine J_iconst (v := nI 0) E dX2_signOrSize_18 rfl ?_
  exact k
theorem bX2_signOrSize_19 {Z : ZT} {X : XT} {μ : Mu} {s0 : Int32} (E : Ent Z X mX2_signOrSize 0 0) {P : Option Value → Mu → Prop} (hB : BodS Z X P) 
    (k : P (some (.int s0)) μ) :
    JS Z X 19 [] [.int s0] μ := by
  exact S_iret E hB dX2_signOrSize_19 rfl k
theorem bX2_signOrSize_20 {Z : ZT} {X : XT} {μ : Mu} {a1 : Int32} (E : Ent Z X mX2_signOrSize 0 0)  
    (kt : ¬ a1 = (nI 1) → JS Z X 35 [(0, .ref (Z.2.2.1 + 446))] [] μ) (kf : a1 = (nI 1) → JS Z X 25 [(0, .ref (Z.2.2.1 + 446))] [] μ) :
    JS Z X 20 [(0, .ref (Z.2.2.1 + 446)), (1, .int a1)] [] μ := by
  refine J_iload_n E dX2_signOrSize_20 rfl ?_
  refine J_iconst (v := nI 1) E dX2_signOrSize_21 rfl ?_
  refine J_icmp_ne (tgt := 35) E dX2_signOrSize_22 (by decide) (fun c => ?_) (fun c => ?_)
  · refine J.weak [0] rfl ?_
    exact kt c
  · refine J.weak [0] rfl ?_
    exact kf c
theorem bX2_signOrSize_25 {Z : ZT} {X : XT} {μ : Mu} (E : Ent Z X mX2_signOrSize 0 0)  
    (k : JS Z X 42 [] [.int (μ 447 1)] μ) :
    JS Z X 25 [(0, .ref (Z.2.2.1 + 446))] [] μ := by
  refine J_aload_n E dX2_signOrSize_25 rfl ?_
  refine S_get (ci := 2) (q := 0) (v := .ref (Z.2.2.1 + 447)) E dX2_signOrSize_26 fs_X2_10 sh446 rfl ?_
  refine S_get (ci := 0) (q := 1) (v := .int (μ 447 1)) E dX2_signOrSize_29 fs_X2_27 sh447 rfl ?_
  refine J_goto (tgt := 42) E dX2_signOrSize_32 (by decide) ?_
  refine J.weak [] rfl ?_
  exact k
theorem bX2_signOrSize_35 {Z : ZT} {X : XT} {μ : Mu} (E : Ent Z X mX2_signOrSize 0 0)  
    (k : JS Z X 42 [] [.int (μ 449 1)] μ) :
    JS Z X 35 [(0, .ref (Z.2.2.1 + 446))] [] μ := by
  refine J_aload_n E dX2_signOrSize_35 rfl ?_
  refine S_get (ci := 2) (q := 1) (v := .ref (Z.2.2.1 + 449)) E dX2_signOrSize_36 fs_X2_16 sh446 rfl ?_
  refine S_get (ci := 0) (q := 1) (v := .int (μ 449 1)) E dX2_signOrSize_39 fs_X2_27 sh449 rfl ?_
  refine J.weak [] rfl ?_
  exact k
theorem bX2_signOrSize_42 {Z : ZT} {X : XT} {μ : Mu} {s0 : Int32} (E : Ent Z X mX2_signOrSize 0 0) {P : Option Value → Mu → Prop} (hB : BodS Z X P) 
    (k : P (some (.int s0)) μ) :
    JS Z X 42 [] [.int s0] μ := by
  exact S_iret E hB dX2_signOrSize_42 rfl k
theorem dX2_digestOnto_0 : decode cX2_digestOnto 0 = .ok (.lload_n 1, 1) := by decide +kernel
theorem dX2_digestOnto_1 : decode cX2_digestOnto 1 = .ok (.lstore_n 3, 1) := by decide +kernel
theorem dX2_digestOnto_2 : decode cX2_digestOnto 2 = .ok (.iconst 0, 1) := by decide +kernel
theorem dX2_digestOnto_3 : decode cX2_digestOnto 3 = .ok (.istore 5, 2) := by decide +kernel
theorem dX2_digestOnto_5 : decode cX2_digestOnto 5 = .ok (.iload 5, 2) := by decide +kernel
theorem dX2_digestOnto_7 : decode cX2_digestOnto 7 = .ok (.iconst 3, 1) := by decide +kernel
theorem dX2_digestOnto_8 : decode cX2_digestOnto 8 = .ok (.if_icmp .ge 23, 3) := by decide +kernel
theorem dX2_digestOnto_11 : decode cX2_digestOnto 11 = .ok (.ldc2_w 45, 3) := by decide +kernel
theorem dX2_digestOnto_14 : decode cX2_digestOnto 14 = .ok (.lload_n 3, 1) := by decide +kernel
theorem dX2_digestOnto_15 : decode cX2_digestOnto 15 = .ok (.lmul, 1) := by decide +kernel
theorem dX2_digestOnto_16 : decode cX2_digestOnto 16 = .ok (.aload_n 0, 1) := by decide +kernel
theorem dX2_digestOnto_17 : decode cX2_digestOnto 17 = .ok (.iload 5, 2) := by decide +kernel
theorem dX2_digestOnto_19 : decode cX2_digestOnto 19 = .ok (.invokevirtual 47, 3) := by decide +kernel
theorem dX2_digestOnto_22 : decode cX2_digestOnto 22 = .ok (.i2l, 1) := by decide +kernel
theorem dX2_digestOnto_23 : decode cX2_digestOnto 23 = .ok (.ladd, 1) := by decide +kernel
theorem dX2_digestOnto_24 : decode cX2_digestOnto 24 = .ok (.lstore_n 3, 1) := by decide +kernel
theorem dX2_digestOnto_25 : decode cX2_digestOnto 25 = .ok (.iinc 5 1, 3) := by decide +kernel
theorem dX2_digestOnto_28 : decode cX2_digestOnto 28 = .ok (.goto (-23), 3) := by decide +kernel
theorem dX2_digestOnto_31 : decode cX2_digestOnto 31 = .ok (.aload_n 0, 1) := by decide +kernel
theorem dX2_digestOnto_32 : decode cX2_digestOnto 32 = .ok (.getfield 16, 3) := by decide +kernel
theorem dX2_digestOnto_35 : decode cX2_digestOnto 35 = .ok (.aload_n 0, 1) := by decide +kernel
theorem dX2_digestOnto_36 : decode cX2_digestOnto 36 = .ok (.getfield 10, 3) := by decide +kernel
theorem dX2_digestOnto_39 : decode cX2_digestOnto 39 = .ok (.lload_n 3, 1) := by decide +kernel
theorem dX2_digestOnto_40 : decode cX2_digestOnto 40 = .ok (.invokevirtual 50, 3) := by decide +kernel
theorem dX2_digestOnto_43 : decode cX2_digestOnto 43 = .ok (.invokevirtual 50, 3) := by decide +kernel
theorem dX2_digestOnto_46 : decode cX2_digestOnto 46 = .ok (.lreturn, 1) := by decide +kernel
theorem bX2_digestOnto_0 {Z : ZT} {X : XT} {μ : Mu} {a1 : Int64} (E : Ent Z X mX2_digestOnto 0 0)  
    (k : JS Z X 5 [(0, .ref (Z.2.2.1 + 446)), (3, .long a1), (5, .int (nI 0))] [] μ) :
    JS Z X 0 [(0, .ref (Z.2.2.1 + 446)), (1, .long a1)] [] μ := by
  refine J_lload_n E dX2_digestOnto_0 rfl ?_
  refine J_lstore_n (lv' := [(0, .ref (Z.2.2.1 + 446)), (1, .long a1), (3, .long a1)]) E dX2_digestOnto_1 (Nat.le_of_ble_eq_true rfl) rfl ?_
  refine J_iconst (v := nI 0) E dX2_digestOnto_2 rfl ?_
  refine J_istore (lv' := [(0, .ref (Z.2.2.1 + 446)), (1, .long a1), (3, .long a1), (5, .int (nI 0))]) E dX2_digestOnto_3 (Nat.le_of_ble_eq_true rfl) rfl ?_
  refine J.weak [0, 2, 3] rfl ?_
  exact k
theorem bX2_digestOnto_5 {Z : ZT} {X : XT} {μ : Mu} {a3 : Int64} {a5 : Int32} (E : Ent Z X mX2_digestOnto 0 0)  
    (kt : (nI 3) ≤ a5 → JS Z X 31 [(0, .ref (Z.2.2.1 + 446)), (3, .long a3)] [] μ) (kf : ¬ ((nI 3) ≤ a5) → JS Z X 11 [(0, .ref (Z.2.2.1 + 446)), (3, .long a3), (5, .int a5)] [] μ) :
    JS Z X 5 [(0, .ref (Z.2.2.1 + 446)), (3, .long a3), (5, .int a5)] [] μ := by
  refine J_iload E dX2_digestOnto_5 rfl ?_
  refine J_iconst (v := nI 3) E dX2_digestOnto_7 rfl ?_
  refine J_icmp_ge (tgt := 31) E dX2_digestOnto_8 (by decide) (fun c => ?_) (fun c => ?_)
  · refine J.weak [0, 1] rfl ?_
    exact kt c
  · exact kf c
theorem bX2_digestOnto_11 {Z : ZT} {X : XT} {μ : Mu} {a3 : Int64} {a5 : Int32} (E : Ent Z X mX2_digestOnto 0 0) {p : Int32 → Mu → Prop} 
    (c : CtrS Z mX2_signOrSize [.ref (Z.2.2.1 + 446), .int a5] μ (rI p)) (k : ∀ v μ1, p v μ1 → JS Z X 22 [(0, .ref (Z.2.2.1 + 446)), (5, .int a5)] [.int v, .long ((lN 31) * a3)] μ1) :
    JS Z X 11 [(0, .ref (Z.2.2.1 + 446)), (3, .long a3), (5, .int a5)] [] μ := by
  refine J_ldc2 (v := lN 31) E dX2_digestOnto_11 w5_185 ?_
  refine J_lload_n E dX2_digestOnto_14 rfl ?_
  refine J_lmul E dX2_digestOnto_15 ?_
  refine J_aload_n E dX2_digestOnto_16 rfl ?_
  refine J_iload E dX2_digestOnto_17 rfl ?_
  refine S_callV (As := [.int a5]) (rest := [.long ((lN 31) * a3)]) E dX2_digestOnto_19 c kX2_signOrSize ⟨Nat.le_of_ble_eq_true rfl, Nat.le_of_ble_eq_true rfl⟩ rfl (Nat.le_of_ble_eq_true rfl) sh446 rfl rfl w5_186 w5_133 w5_134 (fun r_ μ1 hp_ => ?_)
  obtain ⟨v, rfl, hp_⟩ := hp_
  refine J.weak [0, 2] rfl ?_
  exact k v μ1 hp_
theorem bX2_digestOnto_22 {Z : ZT} {X : XT} {μ : Mu} {a5 : Int32} {s0 : Int64} {s1 : Int32} (E : Ent Z X mX2_digestOnto 0 0)  
    (k : JS Z X 5 [(0, .ref (Z.2.2.1 + 446)), (3, .long (s0 + s1.toInt64)), (5, .int (a5 + nI 1))] [] μ) :
    JS Z X 22 [(0, .ref (Z.2.2.1 + 446)), (5, .int a5)] [.int s1, .long s0] μ := by
  refine J_i2l E dX2_digestOnto_22 ?_
  refine J_ladd E dX2_digestOnto_23 ?_
  refine J_lstore_n (lv' := [(0, .ref (Z.2.2.1 + 446)), (3, .long (s0 + s1.toInt64)), (5, .int a5)]) E dX2_digestOnto_24 (Nat.le_of_ble_eq_true rfl) rfl ?_
  refine J_iinc (v := a5 + nI 1) (lv' := [(0, .ref (Z.2.2.1 + 446)), (3, .long (s0 + s1.toInt64)), (5, .int (a5 + nI 1))]) E dX2_digestOnto_25 rfl rfl (Nat.le_of_ble_eq_true rfl) rfl ?_
  refine J_goto (tgt := 5) E dX2_digestOnto_28 (by decide) ?_
  exact k
theorem bX2_digestOnto_31 {Z : ZT} {X : XT} {μ : Mu} {a3 : Int64} (E : Ent Z X mX2_digestOnto 0 0) {p : Int64 → Mu → Prop} 
    (c : CtrS Z mX0_digestOnto [.ref (Z.2.2.1 + 447), .long a3] μ (rJ p)) (k : ∀ v μ1, p v μ1 → JS Z X 43 [] [.long v, .ref (Z.2.2.1 + 449)] μ1) :
    JS Z X 31 [(0, .ref (Z.2.2.1 + 446)), (3, .long a3)] [] μ := by
  refine J_aload_n E dX2_digestOnto_31 rfl ?_
  refine S_get (ci := 2) (q := 1) (v := .ref (Z.2.2.1 + 449)) E dX2_digestOnto_32 fs_X2_16 sh446 rfl ?_
  refine J_aload_n E dX2_digestOnto_35 rfl ?_
  refine S_get (ci := 2) (q := 0) (v := .ref (Z.2.2.1 + 447)) E dX2_digestOnto_36 fs_X2_10 sh446 rfl ?_
  refine J_lload_n E dX2_digestOnto_39 rfl ?_
  refine S_callV (As := [.long a3]) (rest := [.ref (Z.2.2.1 + 449)]) E dX2_digestOnto_40 c kX0_digestOnto ⟨Nat.le_of_ble_eq_true rfl, Nat.le_of_ble_eq_true rfl⟩ rfl (Nat.le_of_ble_eq_true rfl) sh447 rfl rfl w5_187 w5_188 w5_189 (fun r_ μ1 hp_ => ?_)
  obtain ⟨v, rfl, hp_⟩ := hp_
  refine J.weak [] rfl ?_
  exact k v μ1 hp_
theorem bX2_digestOnto_43 {Z : ZT} {X : XT} {μ : Mu} {s0 : Nat} {s1 : Int64} (E : Ent Z X mX2_digestOnto 0 0) (hs0 : SH s0 = .inl 0) {p : Int64 → Mu → Prop} 
    (c : CtrS Z mX0_digestOnto [.ref (Z.2.2.1 + s0), .long s1] μ (rJ p)) (k : ∀ v μ1, p v μ1 → JS Z X 46 [] [.long v] μ1) :
    JS Z X 43 [] [.long s1, .ref (Z.2.2.1 + s0)] μ := by
  refine S_callV (As := [.long s1]) (rest := []) E dX2_digestOnto_43 c kX0_digestOnto ⟨Nat.le_of_ble_eq_true rfl, Nat.le_of_ble_eq_true rfl⟩ rfl (Nat.le_of_ble_eq_true rfl) hs0 rfl rfl w5_187 w5_188 w5_189 (fun r_ μ1 hp_ => ?_)
  obtain ⟨v, rfl, hp_⟩ := hp_
  exact k v μ1 hp_
theorem bX2_digestOnto_46 {Z : ZT} {X : XT} {μ : Mu} {s0 : Int64} (E : Ent Z X mX2_digestOnto 0 0) {P : Option Value → Mu → Prop} (hB : BodS Z X P) 
    (k : P (some (.long s0)) μ) :
    JS Z X 46 [] [.long s0] μ := by
  exact S_lret E hB dX2_digestOnto_46 rfl k
theorem dX3_init_0 : decode cX3_init 0 = .ok (.aload_n 0, 1) := by decide +kernel
theorem dX3_init_1 : decode cX3_init 1 = .ok (.invokespecial 3, 3) := by decide +kernel
theorem dX3_init_4 : decode cX3_init 4 = .ok (.aload_n 0, 1) := by decide +kernel
theorem dX3_init_5 : decode cX3_init 5 = .ok (.bipush 100, 2) := by decide +kernel
theorem dX3_init_7 : decode cX3_init 7 = .ok (.newarray .int, 2) := by decide +kernel
theorem dX3_init_9 : decode cX3_init 9 = .ok (.putfield 9, 3) := by decide +kernel
theorem dX3_init_12 : decode cX3_init 12 = .ok (.aload_n 0, 1) := by decide +kernel
theorem dX3_init_13 : decode cX3_init 13 = .ok (.bipush 10, 2) := by decide +kernel
theorem dX3_init_15 : decode cX3_init 15 = .ok (.newarray .int, 2) := by decide +kernel
theorem dX3_init_17 : decode cX3_init 17 = .ok (.putfield 15, 3) := by decide +kernel
theorem dX3_init_20 : decode cX3_init 20 = .ok (.aload_n 0, 1) := by decide +kernel
theorem dX3_init_21 : decode cX3_init 21 = .ok (.bipush 6, 2) := by decide +kernel
theorem dX3_init_23 : decode cX3_init 23 = .ok (.newarray .int, 2) := by decide +kernel
theorem dX3_init_25 : decode cX3_init 25 = .ok (.putfield 18, 3) := by decide +kernel
theorem dX3_init_28 : decode cX3_init 28 = .ok (.aload_n 0, 1) := by decide +kernel
theorem dX3_init_29 : decode cX3_init 29 = .ok (.bipush 24, 2) := by decide +kernel
theorem dX3_init_31 : decode cX3_init 31 = .ok (.newarray .int, 2) := by decide +kernel
theorem dX3_init_33 : decode cX3_init 33 = .ok (.putfield 21, 3) := by decide +kernel
theorem dX3_init_36 : decode cX3_init 36 = .ok (.aload_n 0, 1) := by decide +kernel
theorem dX3_init_37 : decode cX3_init 37 = .ok (.bipush 6, 2) := by decide +kernel
theorem dX3_init_39 : decode cX3_init 39 = .ok (.newarray .int, 2) := by decide +kernel
theorem dX3_init_41 : decode cX3_init 41 = .ok (.putfield 24, 3) := by decide +kernel
theorem dX3_init_44 : decode cX3_init 44 = .ok (.aload_n 0, 1) := by decide +kernel
theorem dX3_init_45 : decode cX3_init 45 = .ok (.bipush 6, 2) := by decide +kernel
theorem dX3_init_47 : decode cX3_init 47 = .ok (.newarray .int, 2) := by decide +kernel
theorem dX3_init_49 : decode cX3_init 49 = .ok (.putfield 27, 3) := by decide +kernel
theorem dX3_init_52 : decode cX3_init 52 = .ok (.aload_n 0, 1) := by decide +kernel
theorem dX3_init_53 : decode cX3_init 53 = .ok (.bipush 8, 2) := by decide +kernel
theorem dX3_init_55 : decode cX3_init 55 = .ok (.newarray .int, 2) := by decide +kernel
theorem dX3_init_57 : decode cX3_init 57 = .ok (.putfield 30, 3) := by decide +kernel
theorem dX3_init_60 : decode cX3_init 60 = .ok (.aload_n 0, 1) := by decide +kernel
theorem dX3_init_61 : decode cX3_init 61 = .ok (.bipush 8, 2) := by decide +kernel
theorem dX3_init_63 : decode cX3_init 63 = .ok (.newarray .int, 2) := by decide +kernel
theorem dX3_init_65 : decode cX3_init 65 = .ok (.putfield 33, 3) := by decide +kernel
theorem dX3_init_68 : decode cX3_init 68 = .ok (.aload_n 0, 1) := by decide +kernel
theorem dX3_init_69 : decode cX3_init 69 = .ok (.bipush 8, 2) := by decide +kernel
theorem dX3_init_71 : decode cX3_init 71 = .ok (.newarray .int, 2) := by decide +kernel
theorem dX3_init_73 : decode cX3_init 73 = .ok (.putfield 36, 3) := by decide +kernel
theorem dX3_init_76 : decode cX3_init 76 = .ok (.aload_n 0, 1) := by decide +kernel
theorem dX3_init_77 : decode cX3_init 77 = .ok (.bipush 8, 2) := by decide +kernel
theorem dX3_init_79 : decode cX3_init 79 = .ok (.newarray .int, 2) := by decide +kernel
theorem dX3_init_81 : decode cX3_init 81 = .ok (.putfield 39, 3) := by decide +kernel
theorem dX3_init_84 : decode cX3_init 84 = .ok (.aload_n 0, 1) := by decide +kernel
theorem dX3_init_85 : decode cX3_init 85 = .ok (.iconst 2, 1) := by decide +kernel
theorem dX3_init_86 : decode cX3_init 86 = .ok (.newarray .int, 2) := by decide +kernel
theorem dX3_init_88 : decode cX3_init 88 = .ok (.putfield 42, 3) := by decide +kernel
theorem dX3_init_91 : decode cX3_init 91 = .ok (.aload_n 0, 1) := by decide +kernel
theorem dX3_init_92 : decode cX3_init 92 = .ok (.bipush 12, 2) := by decide +kernel
theorem dX3_init_94 : decode cX3_init 94 = .ok (.newarray .int, 2) := by decide +kernel
theorem dX3_init_96 : decode cX3_init 96 = .ok (.putfield 45, 3) := by decide +kernel
theorem dX3_init_99 : decode cX3_init 99 = .ok (.return_, 1) := by decide +kernel
theorem dX3_empty_0 : decode cX3_empty 0 = .ok (.aload_n 0, 1) := by decide +kernel
theorem dX3_empty_1 : decode cX3_empty 1 = .ok (.iconst 0, 1) := by decide +kernel
theorem dX3_empty_2 : decode cX3_empty 2 = .ok (.putfield 48, 3) := by decide +kernel
theorem dX3_empty_5 : decode cX3_empty 5 = .ok (.aload_n 0, 1) := by decide +kernel
theorem dX3_empty_6 : decode cX3_empty 6 = .ok (.iconst 0, 1) := by decide +kernel
theorem dX3_empty_7 : decode cX3_empty 7 = .ok (.putfield 52, 3) := by decide +kernel
theorem dX3_empty_10 : decode cX3_empty 10 = .ok (.aload_n 0, 1) := by decide +kernel
theorem dX3_empty_11 : decode cX3_empty 11 = .ok (.iconst 0, 1) := by decide +kernel
theorem dX3_empty_12 : decode cX3_empty 12 = .ok (.putfield 55, 3) := by decide +kernel
theorem dX3_empty_15 : decode cX3_empty 15 = .ok (.aload_n 0, 1) := by decide +kernel
theorem dX3_empty_16 : decode cX3_empty 16 = .ok (.getfield 9, 3) := by decide +kernel
theorem dX3_empty_19 : decode cX3_empty 19 = .ok (.iconst 0, 1) := by decide +kernel
theorem dX3_empty_20 : decode cX3_empty 20 = .ok (.invokestatic 58, 3) := by decide +kernel
theorem dX3_empty_23 : decode cX3_empty 23 = .ok (.aload_n 0, 1) := by decide +kernel
theorem dX3_empty_24 : decode cX3_empty 24 = .ok (.getfield 15, 3) := by decide +kernel
theorem dX3_empty_27 : decode cX3_empty 27 = .ok (.iconst 0, 1) := by decide +kernel
theorem dX3_empty_28 : decode cX3_empty 28 = .ok (.invokestatic 58, 3) := by decide +kernel
theorem dX3_empty_31 : decode cX3_empty 31 = .ok (.aload_n 0, 1) := by decide +kernel
theorem dX3_empty_32 : decode cX3_empty 32 = .ok (.getfield 42, 3) := by decide +kernel
theorem dX3_empty_35 : decode cX3_empty 35 = .ok (.iconst 0, 1) := by decide +kernel
theorem dX3_empty_36 : decode cX3_empty 36 = .ok (.invokestatic 58, 3) := by decide +kernel
theorem dX3_empty_39 : decode cX3_empty 39 = .ok (.return_, 1) := by decide +kernel
theorem bX3_empty_0 {Z : ZT} {X : XT} {μ : Mu} {a0 : Nat} (E : Ent Z X mX3_empty 0 0) (ha0 : SH a0 = .inl 3) 
    (k : JS Z X 5 [(0, .ref (Z.2.2.1 + a0))] [] (uR μ a0 (upd (μ a0) 0 (nI 0)))) :
    JS Z X 0 [(0, .ref (Z.2.2.1 + a0))] [] μ := by
  refine J_aload_n E dX3_empty_0 rfl ?_
  refine J_iconst (v := nI 0) E dX3_empty_1 rfl ?_
  refine S_puti E dX3_empty_2 fs_X3_48 fp_X3_0 ha0 rfl ?_
  exact k
theorem bX3_empty_5 {Z : ZT} {X : XT} {μ : Mu} {a0 : Nat} (E : Ent Z X mX3_empty 0 0) (ha0 : SH a0 = .inl 3) 
    (k : JS Z X 10 [(0, .ref (Z.2.2.1 + a0))] [] (uR μ a0 (upd (μ a0) 3 (nI 0)))) :
    JS Z X 5 [(0, .ref (Z.2.2.1 + a0))] [] μ := by
  refine J_aload_n E dX3_empty_5 rfl ?_
  refine J_iconst (v := nI 0) E dX3_empty_6 rfl ?_
  refine S_puti E dX3_empty_7 fs_X3_52 fp_X3_3 ha0 rfl ?_
  exact k
theorem bX3_empty_10 {Z : ZT} {X : XT} {μ : Mu} {a0 : Nat} (E : Ent Z X mX3_empty 0 0) (ha0 : SH a0 = .inl 3) 
    (k : JS Z X 15 [(0, .ref (Z.2.2.1 + a0))] [] (uR μ a0 (upd (μ a0) 8 (nI 0)))) :
    JS Z X 10 [(0, .ref (Z.2.2.1 + a0))] [] μ := by
  refine J_aload_n E dX3_empty_10 rfl ?_
  refine J_iconst (v := nI 0) E dX3_empty_11 rfl ?_
  refine S_puti E dX3_empty_12 fs_X3_55 fp_X3_8 ha0 rfl ?_
  exact k
theorem bX3_empty_15 {Z : ZT} {X : XT} {μ : Mu} {a0 : Nat} (E : Ent Z X mX3_empty 0 0) (ha0 : SH a0 = .inl 3) {p : Mu → Prop} 
    (c : CtrS Z mJ7_fill_53178 [.ref (Z.2.2.1 + (a0 + 1)), .int (nI 0)] μ (rV p)) (k : ∀ μ1, p μ1 → JS Z X 23 [(0, .ref (Z.2.2.1 + a0))] [] μ1) :
    JS Z X 15 [(0, .ref (Z.2.2.1 + a0))] [] μ := by
  refine J_aload_n E dX3_empty_15 rfl ?_
  refine S_get (ci := 3) (q := 1) (v := .ref (Z.2.2.1 + (a0 + 1))) E dX3_empty_16 fs_X3_9 ha0 rfl ?_
  refine J_iconst (v := nI 0) E dX3_empty_19 rfl ?_
  refine S_callS (As := [.ref (Z.2.2.1 + (a0 + 1)), .int (nI 0)]) (rest := []) E dX3_empty_20 c kJ7_fill_53178 ⟨Nat.le_of_ble_eq_true rfl, Nat.le_of_ble_eq_true rfl⟩ rfl (Nat.le_of_ble_eq_true rfl) w4_9 w4_10 (fun r_ μ1 hp_ => ?_)
  obtain ⟨rfl, hp_⟩ := hp_
  exact k μ1 hp_
theorem bX3_empty_23 {Z : ZT} {X : XT} {μ : Mu} {a0 : Nat} (E : Ent Z X mX3_empty 0 0) (ha0 : SH a0 = .inl 3) {p : Mu → Prop} 
    (c : CtrS Z mJ7_fill_53178 [.ref (Z.2.2.1 + (a0 + 2)), .int (nI 0)] μ (rV p)) (k : ∀ μ1, p μ1 → JS Z X 31 [(0, .ref (Z.2.2.1 + a0))] [] μ1) :
    JS Z X 23 [(0, .ref (Z.2.2.1 + a0))] [] μ := by
  refine J_aload_n E dX3_empty_23 rfl ?_
  refine S_get (ci := 3) (q := 2) (v := .ref (Z.2.2.1 + (a0 + 2))) E dX3_empty_24 fs_X3_15 ha0 rfl ?_
  refine J_iconst (v := nI 0) E dX3_empty_27 rfl ?_
  refine S_callS (As := [.ref (Z.2.2.1 + (a0 + 2)), .int (nI 0)]) (rest := []) E dX3_empty_28 c kJ7_fill_53178 ⟨Nat.le_of_ble_eq_true rfl, Nat.le_of_ble_eq_true rfl⟩ rfl (Nat.le_of_ble_eq_true rfl) w4_9 w4_10 (fun r_ μ1 hp_ => ?_)
  obtain ⟨rfl, hp_⟩ := hp_
  exact k μ1 hp_
theorem bX3_empty_31 {Z : ZT} {X : XT} {μ : Mu} {a0 : Nat} (E : Ent Z X mX3_empty 0 0) (ha0 : SH a0 = .inl 3) {p : Mu → Prop} 
    (c : CtrS Z mJ7_fill_53178 [.ref (Z.2.2.1 + (a0 + 11)), .int (nI 0)] μ (rV p)) (k : ∀ μ1, p μ1 → JS Z X 39 [] [] μ1) :
    JS Z X 31 [(0, .ref (Z.2.2.1 + a0))] [] μ := by
  refine J_aload_n E dX3_empty_31 rfl ?_
  refine S_get (ci := 3) (q := 13) (v := .ref (Z.2.2.1 + (a0 + 11))) E dX3_empty_32 fs_X3_42 ha0 rfl ?_
  refine J_iconst (v := nI 0) E dX3_empty_35 rfl ?_
  refine S_callS (As := [.ref (Z.2.2.1 + (a0 + 11)), .int (nI 0)]) (rest := []) E dX3_empty_36 c kJ7_fill_53178 ⟨Nat.le_of_ble_eq_true rfl, Nat.le_of_ble_eq_true rfl⟩ rfl (Nat.le_of_ble_eq_true rfl) w4_9 w4_10 (fun r_ μ1 hp_ => ?_)
  obtain ⟨rfl, hp_⟩ := hp_
  refine J.weak [] rfl ?_
  exact k μ1 hp_
theorem bX3_empty_39 {Z : ZT} {X : XT} {μ : Mu} (E : Ent Z X mX3_empty 0 0) {P : Option Value → Mu → Prop} (hB : BodS Z X P) 
    (k : P none μ) :
    JS Z X 39 [] [] μ := by
  exact S_vret E hB dX3_empty_39 rfl k
theorem dX3_copy_0 : decode cX3_copy 0 = .ok (.aload_n 0, 1) := by decide +kernel
theorem dX3_copy_1 : decode cX3_copy 1 = .ok (.aload_n 1, 1) := by decide +kernel
theorem dX3_copy_2 : decode cX3_copy 2 = .ok (.getfield 48, 3) := by decide +kernel
theorem dX3_copy_5 : decode cX3_copy 5 = .ok (.putfield 48, 3) := by decide +kernel
theorem dX3_copy_8 : decode cX3_copy 8 = .ok (.aload_n 0, 1) := by decide +kernel
theorem dX3_copy_9 : decode cX3_copy 9 = .ok (.aload_n 1, 1) := by decide +kernel
theorem dX3_copy_10 : decode cX3_copy 10 = .ok (.getfield 52, 3) := by decide +kernel
theorem dX3_copy_13 : decode cX3_copy 13 = .ok (.putfield 52, 3) := by decide +kernel
theorem dX3_copy_16 : decode cX3_copy 16 = .ok (.aload_n 0, 1) := by decide +kernel
theorem dX3_copy_17 : decode cX3_copy 17 = .ok (.aload_n 1, 1) := by decide +kernel
theorem dX3_copy_18 : decode cX3_copy 18 = .ok (.getfield 55, 3) := by decide +kernel
theorem dX3_copy_21 : decode cX3_copy 21 = .ok (.putfield 55, 3) := by decide +kernel
theorem dX3_copy_24 : decode cX3_copy 24 = .ok (.aload_n 1, 1) := by decide +kernel
theorem dX3_copy_25 : decode cX3_copy 25 = .ok (.getfield 9, 3) := by decide +kernel
theorem dX3_copy_28 : decode cX3_copy 28 = .ok (.aload_n 0, 1) := by decide +kernel
theorem dX3_copy_29 : decode cX3_copy 29 = .ok (.getfield 9, 3) := by decide +kernel
theorem dX3_copy_32 : decode cX3_copy 32 = .ok (.invokestatic 64, 3) := by decide +kernel
theorem dX3_copy_35 : decode cX3_copy 35 = .ok (.aload_n 1, 1) := by decide +kernel
theorem dX3_copy_36 : decode cX3_copy 36 = .ok (.getfield 15, 3) := by decide +kernel
theorem dX3_copy_39 : decode cX3_copy 39 = .ok (.aload_n 0, 1) := by decide +kernel
theorem dX3_copy_40 : decode cX3_copy 40 = .ok (.getfield 15, 3) := by decide +kernel
theorem dX3_copy_43 : decode cX3_copy 43 = .ok (.invokestatic 64, 3) := by decide +kernel
theorem dX3_copy_46 : decode cX3_copy 46 = .ok (.aload_n 1, 1) := by decide +kernel
theorem dX3_copy_47 : decode cX3_copy 47 = .ok (.getfield 18, 3) := by decide +kernel
theorem dX3_copy_50 : decode cX3_copy 50 = .ok (.aload_n 0, 1) := by decide +kernel
theorem dX3_copy_51 : decode cX3_copy 51 = .ok (.getfield 18, 3) := by decide +kernel
theorem dX3_copy_54 : decode cX3_copy 54 = .ok (.invokestatic 64, 3) := by decide +kernel
theorem dX3_copy_57 : decode cX3_copy 57 = .ok (.aload_n 1, 1) := by decide +kernel
theorem dX3_copy_58 : decode cX3_copy 58 = .ok (.getfield 21, 3) := by decide +kernel
theorem dX3_copy_61 : decode cX3_copy 61 = .ok (.aload_n 0, 1) := by decide +kernel
theorem dX3_copy_62 : decode cX3_copy 62 = .ok (.getfield 21, 3) := by decide +kernel
theorem dX3_copy_65 : decode cX3_copy 65 = .ok (.invokestatic 64, 3) := by decide +kernel
theorem dX3_copy_68 : decode cX3_copy 68 = .ok (.aload_n 1, 1) := by decide +kernel
theorem dX3_copy_69 : decode cX3_copy 69 = .ok (.getfield 24, 3) := by decide +kernel
theorem dX3_copy_72 : decode cX3_copy 72 = .ok (.aload_n 0, 1) := by decide +kernel
theorem dX3_copy_73 : decode cX3_copy 73 = .ok (.getfield 24, 3) := by decide +kernel
theorem dX3_copy_76 : decode cX3_copy 76 = .ok (.invokestatic 64, 3) := by decide +kernel
theorem dX3_copy_79 : decode cX3_copy 79 = .ok (.aload_n 1, 1) := by decide +kernel
theorem dX3_copy_80 : decode cX3_copy 80 = .ok (.getfield 27, 3) := by decide +kernel
theorem dX3_copy_83 : decode cX3_copy 83 = .ok (.aload_n 0, 1) := by decide +kernel
theorem dX3_copy_84 : decode cX3_copy 84 = .ok (.getfield 27, 3) := by decide +kernel
theorem dX3_copy_87 : decode cX3_copy 87 = .ok (.invokestatic 64, 3) := by decide +kernel
theorem dX3_copy_90 : decode cX3_copy 90 = .ok (.aload_n 1, 1) := by decide +kernel
theorem dX3_copy_91 : decode cX3_copy 91 = .ok (.getfield 30, 3) := by decide +kernel
theorem dX3_copy_94 : decode cX3_copy 94 = .ok (.aload_n 0, 1) := by decide +kernel
theorem dX3_copy_95 : decode cX3_copy 95 = .ok (.getfield 30, 3) := by decide +kernel
theorem dX3_copy_98 : decode cX3_copy 98 = .ok (.invokestatic 64, 3) := by decide +kernel
theorem dX3_copy_101 : decode cX3_copy 101 = .ok (.aload_n 1, 1) := by decide +kernel
theorem dX3_copy_102 : decode cX3_copy 102 = .ok (.getfield 33, 3) := by decide +kernel
theorem dX3_copy_105 : decode cX3_copy 105 = .ok (.aload_n 0, 1) := by decide +kernel
theorem dX3_copy_106 : decode cX3_copy 106 = .ok (.getfield 33, 3) := by decide +kernel
theorem dX3_copy_109 : decode cX3_copy 109 = .ok (.invokestatic 64, 3) := by decide +kernel
theorem dX3_copy_112 : decode cX3_copy 112 = .ok (.aload_n 1, 1) := by decide +kernel
theorem dX3_copy_113 : decode cX3_copy 113 = .ok (.getfield 36, 3) := by decide +kernel
theorem dX3_copy_116 : decode cX3_copy 116 = .ok (.aload_n 0, 1) := by decide +kernel
theorem dX3_copy_117 : decode cX3_copy 117 = .ok (.getfield 36, 3) := by decide +kernel
theorem dX3_copy_120 : decode cX3_copy 120 = .ok (.invokestatic 64, 3) := by decide +kernel
theorem dX3_copy_123 : decode cX3_copy 123 = .ok (.aload_n 1, 1) := by decide +kernel
theorem dX3_copy_124 : decode cX3_copy 124 = .ok (.getfield 39, 3) := by decide +kernel
theorem dX3_copy_127 : decode cX3_copy 127 = .ok (.aload_n 0, 1) := by decide +kernel
theorem dX3_copy_128 : decode cX3_copy 128 = .ok (.getfield 39, 3) := by decide +kernel
theorem dX3_copy_131 : decode cX3_copy 131 = .ok (.invokestatic 64, 3) := by decide +kernel
theorem dX3_copy_134 : decode cX3_copy 134 = .ok (.aload_n 1, 1) := by decide +kernel
theorem dX3_copy_135 : decode cX3_copy 135 = .ok (.getfield 42, 3) := by decide +kernel
theorem dX3_copy_138 : decode cX3_copy 138 = .ok (.aload_n 0, 1) := by decide +kernel
theorem dX3_copy_139 : decode cX3_copy 139 = .ok (.getfield 42, 3) := by decide +kernel
theorem dX3_copy_142 : decode cX3_copy 142 = .ok (.invokestatic 64, 3) := by decide +kernel
theorem dX3_copy_145 : decode cX3_copy 145 = .ok (.aload_n 1, 1) := by decide +kernel
theorem dX3_copy_146 : decode cX3_copy 146 = .ok (.getfield 45, 3) := by decide +kernel
theorem dX3_copy_149 : decode cX3_copy 149 = .ok (.aload_n 0, 1) := by decide +kernel
theorem dX3_copy_150 : decode cX3_copy 150 = .ok (.getfield 45, 3) := by decide +kernel
theorem dX3_copy_153 : decode cX3_copy 153 = .ok (.invokestatic 64, 3) := by decide +kernel
theorem dX3_copy_156 : decode cX3_copy 156 = .ok (.return_, 1) := by decide +kernel
theorem bX3_copy_0 {Z : ZT} {X : XT} {μ : Mu} {a0 : Nat} {a1 : Nat} (E : Ent Z X mX3_copy 0 0) (ha0 : SH a0 = .inl 3) (ha1 : SH a1 = .inl 3) 
    (k : JS Z X 8 [(0, .ref (Z.2.2.1 + a0)), (1, .ref (Z.2.2.1 + a1))] [] (uR μ a0 (upd (μ a0) 0 (μ a1 0)))) :
    JS Z X 0 [(0, .ref (Z.2.2.1 + a0)), (1, .ref (Z.2.2.1 + a1))] [] μ := by
  refine J_aload_n E dX3_copy_0 rfl ?_
  refine J_aload_n E dX3_copy_1 rfl ?_
  refine S_get (ci := 3) (q := 0) (v := .int (μ a1 0)) E dX3_copy_2 fs_X3_48 ha1 rfl ?_
  refine S_puti E dX3_copy_5 fs_X3_48 fp_X3_0 ha0 rfl ?_
  exact k
theorem bX3_copy_8 {Z : ZT} {X : XT} {μ : Mu} {a0 : Nat} {a1 : Nat} (E : Ent Z X mX3_copy 0 0) (ha0 : SH a0 = .inl 3) (ha1 : SH a1 = .inl 3) 
    (k : JS Z X 16 [(0, .ref (Z.2.2.1 + a0)), (1, .ref (Z.2.2.1 + a1))] [] (uR μ a0 (upd (μ a0) 3 (μ a1 3)))) :
    JS Z X 8 [(0, .ref (Z.2.2.1 + a0)), (1, .ref (Z.2.2.1 + a1))] [] μ := by
  refine J_aload_n E dX3_copy_8 rfl ?_
  refine J_aload_n E dX3_copy_9 rfl ?_
  refine S_get (ci := 3) (q := 3) (v := .int (μ a1 3)) E dX3_copy_10 fs_X3_52 ha1 rfl ?_
  refine S_puti E dX3_copy_13 fs_X3_52 fp_X3_3 ha0 rfl ?_
  exact k
theorem bX3_copy_16 {Z : ZT} {X : XT} {μ : Mu} {a0 : Nat} {a1 : Nat} (E : Ent Z X mX3_copy 0 0) (ha0 : SH a0 = .inl 3) (ha1 : SH a1 = .inl 3) 
    (k : JS Z X 24 [(0, .ref (Z.2.2.1 + a0)), (1, .ref (Z.2.2.1 + a1))] [] (uR μ a0 (upd (μ a0) 8 (μ a1 8)))) :
    JS Z X 16 [(0, .ref (Z.2.2.1 + a0)), (1, .ref (Z.2.2.1 + a1))] [] μ := by
  refine J_aload_n E dX3_copy_16 rfl ?_
  refine J_aload_n E dX3_copy_17 rfl ?_
  refine S_get (ci := 3) (q := 8) (v := .int (μ a1 8)) E dX3_copy_18 fs_X3_55 ha1 rfl ?_
  refine S_puti E dX3_copy_21 fs_X3_55 fp_X3_8 ha0 rfl ?_
  exact k
theorem bX3_copy_24 {Z : ZT} {X : XT} {μ : Mu} {a0 : Nat} {a1 : Nat} (E : Ent Z X mX3_copy 0 0) (ha0 : SH a0 = .inl 3) (ha1 : SH a1 = .inl 3) {p : Mu → Prop} 
    (c : CtrS Z mX3_copyAll [.ref (Z.2.2.1 + (a1 + 1)), .ref (Z.2.2.1 + (a0 + 1))] μ (rV p)) (k : ∀ μ1, p μ1 → JS Z X 35 [(0, .ref (Z.2.2.1 + a0)), (1, .ref (Z.2.2.1 + a1))] [] μ1) :
    JS Z X 24 [(0, .ref (Z.2.2.1 + a0)), (1, .ref (Z.2.2.1 + a1))] [] μ := by
  refine J_aload_n E dX3_copy_24 rfl ?_
  refine S_get (ci := 3) (q := 1) (v := .ref (Z.2.2.1 + (a1 + 1))) E dX3_copy_25 fs_X3_9 ha1 rfl ?_
  refine J_aload_n E dX3_copy_28 rfl ?_
  refine S_get (ci := 3) (q := 1) (v := .ref (Z.2.2.1 + (a0 + 1))) E dX3_copy_29 fs_X3_9 ha0 rfl ?_
  refine S_callS (As := [.ref (Z.2.2.1 + (a1 + 1)), .ref (Z.2.2.1 + (a0 + 1))]) (rest := []) E dX3_copy_32 c kX3_copyAll ⟨Nat.le_of_ble_eq_true rfl, Nat.le_of_ble_eq_true rfl⟩ rfl (Nat.le_of_ble_eq_true rfl) w4_31 w4_32 (fun r_ μ1 hp_ => ?_)
  obtain ⟨rfl, hp_⟩ := hp_
  exact k μ1 hp_
theorem bX3_copy_35 {Z : ZT} {X : XT} {μ : Mu} {a0 : Nat} {a1 : Nat} (E : Ent Z X mX3_copy 0 0) (ha0 : SH a0 = .inl 3) (ha1 : SH a1 = .inl 3) {p : Mu → Prop} 
    (c : CtrS Z mX3_copyAll [.ref (Z.2.2.1 + (a1 + 2)), .ref (Z.2.2.1 + (a0 + 2))] μ (rV p)) (k : ∀ μ1, p μ1 → JS Z X 46 [(0, .ref (Z.2.2.1 + a0)), (1, .ref (Z.2.2.1 + a1))] [] μ1) :
    JS Z X 35 [(0, .ref (Z.2.2.1 + a0)), (1, .ref (Z.2.2.1 + a1))] [] μ := by
  refine J_aload_n E dX3_copy_35 rfl ?_
  refine S_get (ci := 3) (q := 2) (v := .ref (Z.2.2.1 + (a1 + 2))) E dX3_copy_36 fs_X3_15 ha1 rfl ?_
  refine J_aload_n E dX3_copy_39 rfl ?_
  refine S_get (ci := 3) (q := 2) (v := .ref (Z.2.2.1 + (a0 + 2))) E dX3_copy_40 fs_X3_15 ha0 rfl ?_
  refine S_callS (As := [.ref (Z.2.2.1 + (a1 + 2)), .ref (Z.2.2.1 + (a0 + 2))]) (rest := []) E dX3_copy_43 c kX3_copyAll ⟨Nat.le_of_ble_eq_true rfl, Nat.le_of_ble_eq_true rfl⟩ rfl (Nat.le_of_ble_eq_true rfl) w4_31 w4_32 (fun r_ μ1 hp_ => ?_)
  obtain ⟨rfl, hp_⟩ := hp_
  exact k μ1 hp_
theorem bX3_copy_46 {Z : ZT} {X : XT} {μ : Mu} {a0 : Nat} {a1 : Nat} (E : Ent Z X mX3_copy 0 0) (ha0 : SH a0 = .inl 3) (ha1 : SH a1 = .inl 3) {p : Mu → Prop} 
    (c : CtrS Z mX3_copyAll [.ref (Z.2.2.1 + (a1 + 3)), .ref (Z.2.2.1 + (a0 + 3))] μ (rV p)) (k : ∀ μ1, p μ1 → JS Z X 57 [(0, .ref (Z.2.2.1 + a0)), (1, .ref (Z.2.2.1 + a1))] [] μ1) :
    JS Z X 46 [(0, .ref (Z.2.2.1 + a0)), (1, .ref (Z.2.2.1 + a1))] [] μ := by
  refine J_aload_n E dX3_copy_46 rfl ?_
  refine S_get (ci := 3) (q := 4) (v := .ref (Z.2.2.1 + (a1 + 3))) E dX3_copy_47 fs_X3_18 ha1 rfl ?_
  refine J_aload_n E dX3_copy_50 rfl ?_
  refine S_get (ci := 3) (q := 4) (v := .ref (Z.2.2.1 + (a0 + 3))) E dX3_copy_51 fs_X3_18 ha0 rfl ?_
  refine S_callS (As := [.ref (Z.2.2.1 + (a1 + 3)), .ref (Z.2.2.1 + (a0 + 3))]) (rest := []) E dX3_copy_54 c kX3_copyAll ⟨Nat.le_of_ble_eq_true rfl, Nat.le_of_ble_eq_true rfl⟩ rfl (Nat.le_of_ble_eq_true rfl) w4_31 w4_32 (fun r_ μ1 hp_ => ?_)
  obtain ⟨rfl, hp_⟩ := hp_
  exact k μ1 hp_
theorem bX3_copy_57 {Z : ZT} {X : XT} {μ : Mu} {a0 : Nat} {a1 : Nat} (E : Ent Z X mX3_copy 0 0) (ha0 : SH a0 = .inl 3) (ha1 : SH a1 = .inl 3) {p : Mu → Prop} 
    (c : CtrS Z mX3_copyAll [.ref (Z.2.2.1 + (a1 + 4)), .ref (Z.2.2.1 + (a0 + 4))] μ (rV p)) (k : ∀ μ1, p μ1 → JS Z X 68 [(0, .ref (Z.2.2.1 + a0)), (1, .ref (Z.2.2.1 + a1))] [] μ1) :
    JS Z X 57 [(0, .ref (Z.2.2.1 + a0)), (1, .ref (Z.2.2.1 + a1))] [] μ := by
  refine J_aload_n E dX3_copy_57 rfl ?_
  refine S_get (ci := 3) (q := 5) (v := .ref (Z.2.2.1 + (a1 + 4))) E dX3_copy_58 fs_X3_21 ha1 rfl ?_
  refine J_aload_n E dX3_copy_61 rfl ?_
  refine S_get (ci := 3) (q := 5) (v := .ref (Z.2.2.1 + (a0 + 4))) E dX3_copy_62 fs_X3_21 ha0 rfl ?_
  refine S_callS (As := [.ref (Z.2.2.1 + (a1 + 4)), .ref (Z.2.2.1 + (a0 + 4))]) (rest := []) E dX3_copy_65 c kX3_copyAll ⟨Nat.le_of_ble_eq_true rfl, Nat.le_of_ble_eq_true rfl⟩ rfl (Nat.le_of_ble_eq_true rfl) w4_31 w4_32 (fun r_ μ1 hp_ => ?_)
  obtain ⟨rfl, hp_⟩ := hp_
  exact k μ1 hp_
theorem bX3_copy_68 {Z : ZT} {X : XT} {μ : Mu} {a0 : Nat} {a1 : Nat} (E : Ent Z X mX3_copy 0 0) (ha0 : SH a0 = .inl 3) (ha1 : SH a1 = .inl 3) {p : Mu → Prop} 
    (c : CtrS Z mX3_copyAll [.ref (Z.2.2.1 + (a1 + 5)), .ref (Z.2.2.1 + (a0 + 5))] μ (rV p)) (k : ∀ μ1, p μ1 → JS Z X 79 [(0, .ref (Z.2.2.1 + a0)), (1, .ref (Z.2.2.1 + a1))] [] μ1) :
    JS Z X 68 [(0, .ref (Z.2.2.1 + a0)), (1, .ref (Z.2.2.1 + a1))] [] μ := by
  refine J_aload_n E dX3_copy_68 rfl ?_
  refine S_get (ci := 3) (q := 6) (v := .ref (Z.2.2.1 + (a1 + 5))) E dX3_copy_69 fs_X3_24 ha1 rfl ?_
  refine J_aload_n E dX3_copy_72 rfl ?_
  refine S_get (ci := 3) (q := 6) (v := .ref (Z.2.2.1 + (a0 + 5))) E dX3_copy_73 fs_X3_24 ha0 rfl ?_
  refine S_callS (As := [.ref (Z.2.2.1 + (a1 + 5)), .ref (Z.2.2.1 + (a0 + 5))]) (rest := []) E dX3_copy_76 c kX3_copyAll ⟨Nat.le_of_ble_eq_true rfl, Nat.le_of_ble_eq_true rfl⟩ rfl (Nat.le_of_ble_eq_true rfl) w4_31 w4_32 (fun r_ μ1 hp_ => ?_)
  obtain ⟨rfl, hp_⟩ := hp_
  exact k μ1 hp_
theorem bX3_copy_79 {Z : ZT} {X : XT} {μ : Mu} {a0 : Nat} {a1 : Nat} (E : Ent Z X mX3_copy 0 0) (ha0 : SH a0 = .inl 3) (ha1 : SH a1 = .inl 3) {p : Mu → Prop} 
    (c : CtrS Z mX3_copyAll [.ref (Z.2.2.1 + (a1 + 6)), .ref (Z.2.2.1 + (a0 + 6))] μ (rV p)) (k : ∀ μ1, p μ1 → JS Z X 90 [(0, .ref (Z.2.2.1 + a0)), (1, .ref (Z.2.2.1 + a1))] [] μ1) :
    JS Z X 79 [(0, .ref (Z.2.2.1 + a0)), (1, .ref (Z.2.2.1 + a1))] [] μ := by
  refine J_aload_n E dX3_copy_79 rfl ?_
  refine S_get (ci := 3) (q := 7) (v := .ref (Z.2.2.1 + (a1 + 6))) E dX3_copy_80 fs_X3_27 ha1 rfl ?_
  refine J_aload_n E dX3_copy_83 rfl ?_
  refine S_get (ci := 3) (q := 7) (v := .ref (Z.2.2.1 + (a0 + 6))) E dX3_copy_84 fs_X3_27 ha0 rfl ?_
  refine S_callS (As := [.ref (Z.2.2.1 + (a1 + 6)), .ref (Z.2.2.1 + (a0 + 6))]) (rest := []) E dX3_copy_87 c kX3_copyAll ⟨Nat.le_of_ble_eq_true rfl, Nat.le_of_ble_eq_true rfl⟩ rfl (Nat.le_of_ble_eq_true rfl) w4_31 w4_32 (fun r_ μ1 hp_ => ?_)
  obtain ⟨rfl, hp_⟩ := hp_
  exact k μ1 hp_
theorem bX3_copy_90 {Z : ZT} {X : XT} {μ : Mu} {a0 : Nat} {a1 : Nat} (E : Ent Z X mX3_copy 0 0) (ha0 : SH a0 = .inl 3) (ha1 : SH a1 = .inl 3) {p : Mu → Prop} 
    (c : CtrS Z mX3_copyAll [.ref (Z.2.2.1 + (a1 + 7)), .ref (Z.2.2.1 + (a0 + 7))] μ (rV p)) (k : ∀ μ1, p μ1 → JS Z X 101 [(0, .ref (Z.2.2.1 + a0)), (1, .ref (Z.2.2.1 + a1))] [] μ1) :
    JS Z X 90 [(0, .ref (Z.2.2.1 + a0)), (1, .ref (Z.2.2.1 + a1))] [] μ := by
  refine J_aload_n E dX3_copy_90 rfl ?_
  refine S_get (ci := 3) (q := 9) (v := .ref (Z.2.2.1 + (a1 + 7))) E dX3_copy_91 fs_X3_30 ha1 rfl ?_
  refine J_aload_n E dX3_copy_94 rfl ?_
  refine S_get (ci := 3) (q := 9) (v := .ref (Z.2.2.1 + (a0 + 7))) E dX3_copy_95 fs_X3_30 ha0 rfl ?_
  refine S_callS (As := [.ref (Z.2.2.1 + (a1 + 7)), .ref (Z.2.2.1 + (a0 + 7))]) (rest := []) E dX3_copy_98 c kX3_copyAll ⟨Nat.le_of_ble_eq_true rfl, Nat.le_of_ble_eq_true rfl⟩ rfl (Nat.le_of_ble_eq_true rfl) w4_31 w4_32 (fun r_ μ1 hp_ => ?_)
  obtain ⟨rfl, hp_⟩ := hp_
  exact k μ1 hp_
theorem bX3_copy_101 {Z : ZT} {X : XT} {μ : Mu} {a0 : Nat} {a1 : Nat} (E : Ent Z X mX3_copy 0 0) (ha0 : SH a0 = .inl 3) (ha1 : SH a1 = .inl 3) {p : Mu → Prop} 
    (c : CtrS Z mX3_copyAll [.ref (Z.2.2.1 + (a1 + 8)), .ref (Z.2.2.1 + (a0 + 8))] μ (rV p)) (k : ∀ μ1, p μ1 → JS Z X 112 [(0, .ref (Z.2.2.1 + a0)), (1, .ref (Z.2.2.1 + a1))] [] μ1) :
    JS Z X 101 [(0, .ref (Z.2.2.1 + a0)), (1, .ref (Z.2.2.1 + a1))] [] μ := by
  refine J_aload_n E dX3_copy_101 rfl ?_
  refine S_get (ci := 3) (q := 10) (v := .ref (Z.2.2.1 + (a1 + 8))) E dX3_copy_102 fs_X3_33 ha1 rfl ?_
  refine J_aload_n E dX3_copy_105 rfl ?_
  refine S_get (ci := 3) (q := 10) (v := .ref (Z.2.2.1 + (a0 + 8))) E dX3_copy_106 fs_X3_33 ha0 rfl ?_
  refine S_callS (As := [.ref (Z.2.2.1 + (a1 + 8)), .ref (Z.2.2.1 + (a0 + 8))]) (rest := []) E dX3_copy_109 c kX3_copyAll ⟨Nat.le_of_ble_eq_true rfl, Nat.le_of_ble_eq_true rfl⟩ rfl (Nat.le_of_ble_eq_true rfl) w4_31 w4_32 (fun r_ μ1 hp_ => ?_)
  obtain ⟨rfl, hp_⟩ := hp_
  exact k μ1 hp_
theorem bX3_copy_112 {Z : ZT} {X : XT} {μ : Mu} {a0 : Nat} {a1 : Nat} (E : Ent Z X mX3_copy 0 0) (ha0 : SH a0 = .inl 3) (ha1 : SH a1 = .inl 3) {p : Mu → Prop} 
    (c : CtrS Z mX3_copyAll [.ref (Z.2.2.1 + (a1 + 9)), .ref (Z.2.2.1 + (a0 + 9))] μ (rV p)) (k : ∀ μ1, p μ1 → JS Z X 123 [(0, .ref (Z.2.2.1 + a0)), (1, .ref (Z.2.2.1 + a1))] [] μ1) :
    JS Z X 112 [(0, .ref (Z.2.2.1 + a0)), (1, .ref (Z.2.2.1 + a1))] [] μ := by
  refine J_aload_n E dX3_copy_112 rfl ?_
  refine S_get (ci := 3) (q := 11) (v := .ref (Z.2.2.1 + (a1 + 9))) E dX3_copy_113 fs_X3_36 ha1 rfl ?_
  refine J_aload_n E dX3_copy_116 rfl ?_
  refine S_get (ci := 3) (q := 11) (v := .ref (Z.2.2.1 + (a0 + 9))) E dX3_copy_117 fs_X3_36 ha0 rfl ?_
  refine S_callS (As := [.ref (Z.2.2.1 + (a1 + 9)), .ref (Z.2.2.1 + (a0 + 9))]) (rest := []) E dX3_copy_120 c kX3_copyAll ⟨Nat.le_of_ble_eq_true rfl, Nat.le_of_ble_eq_true rfl⟩ rfl (Nat.le_of_ble_eq_true rfl) w4_31 w4_32 (fun r_ μ1 hp_ => ?_)
  obtain ⟨rfl, hp_⟩ := hp_
  exact k μ1 hp_
theorem bX3_copy_123 {Z : ZT} {X : XT} {μ : Mu} {a0 : Nat} {a1 : Nat} (E : Ent Z X mX3_copy 0 0) (ha0 : SH a0 = .inl 3) (ha1 : SH a1 = .inl 3) {p : Mu → Prop} 
    (c : CtrS Z mX3_copyAll [.ref (Z.2.2.1 + (a1 + 10)), .ref (Z.2.2.1 + (a0 + 10))] μ (rV p)) (k : ∀ μ1, p μ1 → JS Z X 134 [(0, .ref (Z.2.2.1 + a0)), (1, .ref (Z.2.2.1 + a1))] [] μ1) :
    JS Z X 123 [(0, .ref (Z.2.2.1 + a0)), (1, .ref (Z.2.2.1 + a1))] [] μ := by
  refine J_aload_n E dX3_copy_123 rfl ?_
  refine S_get (ci := 3) (q := 12) (v := .ref (Z.2.2.1 + (a1 + 10))) E dX3_copy_124 fs_X3_39 ha1 rfl ?_
  refine J_aload_n E dX3_copy_127 rfl ?_
  refine S_get (ci := 3) (q := 12) (v := .ref (Z.2.2.1 + (a0 + 10))) E dX3_copy_128 fs_X3_39 ha0 rfl ?_
  refine S_callS (As := [.ref (Z.2.2.1 + (a1 + 10)), .ref (Z.2.2.1 + (a0 + 10))]) (rest := []) E dX3_copy_131 c kX3_copyAll ⟨Nat.le_of_ble_eq_true rfl, Nat.le_of_ble_eq_true rfl⟩ rfl (Nat.le_of_ble_eq_true rfl) w4_31 w4_32 (fun r_ μ1 hp_ => ?_)
  obtain ⟨rfl, hp_⟩ := hp_
  exact k μ1 hp_
theorem bX3_copy_134 {Z : ZT} {X : XT} {μ : Mu} {a0 : Nat} {a1 : Nat} (E : Ent Z X mX3_copy 0 0) (ha0 : SH a0 = .inl 3) (ha1 : SH a1 = .inl 3) {p : Mu → Prop} 
    (c : CtrS Z mX3_copyAll [.ref (Z.2.2.1 + (a1 + 11)), .ref (Z.2.2.1 + (a0 + 11))] μ (rV p)) (k : ∀ μ1, p μ1 → JS Z X 145 [(0, .ref (Z.2.2.1 + a0)), (1, .ref (Z.2.2.1 + a1))] [] μ1) :
    JS Z X 134 [(0, .ref (Z.2.2.1 + a0)), (1, .ref (Z.2.2.1 + a1))] [] μ := by
  refine J_aload_n E dX3_copy_134 rfl ?_
  refine S_get (ci := 3) (q := 13) (v := .ref (Z.2.2.1 + (a1 + 11))) E dX3_copy_135 fs_X3_42 ha1 rfl ?_
  refine J_aload_n E dX3_copy_138 rfl ?_
  refine S_get (ci := 3) (q := 13) (v := .ref (Z.2.2.1 + (a0 + 11))) E dX3_copy_139 fs_X3_42 ha0 rfl ?_
  refine S_callS (As := [.ref (Z.2.2.1 + (a1 + 11)), .ref (Z.2.2.1 + (a0 + 11))]) (rest := []) E dX3_copy_142 c kX3_copyAll ⟨Nat.le_of_ble_eq_true rfl, Nat.le_of_ble_eq_true rfl⟩ rfl (Nat.le_of_ble_eq_true rfl) w4_31 w4_32 (fun r_ μ1 hp_ => ?_)
  obtain ⟨rfl, hp_⟩ := hp_
  exact k μ1 hp_
theorem bX3_copy_145 {Z : ZT} {X : XT} {μ : Mu} {a0 : Nat} {a1 : Nat} (E : Ent Z X mX3_copy 0 0) (ha0 : SH a0 = .inl 3) (ha1 : SH a1 = .inl 3) {p : Mu → Prop} 
    (c : CtrS Z mX3_copyAll [.ref (Z.2.2.1 + (a1 + 12)), .ref (Z.2.2.1 + (a0 + 12))] μ (rV p)) (k : ∀ μ1, p μ1 → JS Z X 156 [] [] μ1) :
    JS Z X 145 [(0, .ref (Z.2.2.1 + a0)), (1, .ref (Z.2.2.1 + a1))] [] μ := by
  refine J_aload_n E dX3_copy_145 rfl ?_
  refine S_get (ci := 3) (q := 14) (v := .ref (Z.2.2.1 + (a1 + 12))) E dX3_copy_146 fs_X3_45 ha1 rfl ?_
  refine J_aload_n E dX3_copy_149 rfl ?_
  refine S_get (ci := 3) (q := 14) (v := .ref (Z.2.2.1 + (a0 + 12))) E dX3_copy_150 fs_X3_45 ha0 rfl ?_
  refine S_callS (As := [.ref (Z.2.2.1 + (a1 + 12)), .ref (Z.2.2.1 + (a0 + 12))]) (rest := []) E dX3_copy_153 c kX3_copyAll ⟨Nat.le_of_ble_eq_true rfl, Nat.le_of_ble_eq_true rfl⟩ rfl (Nat.le_of_ble_eq_true rfl) w4_31 w4_32 (fun r_ μ1 hp_ => ?_)
  obtain ⟨rfl, hp_⟩ := hp_
  refine J.weak [] rfl ?_
  exact k μ1 hp_
theorem bX3_copy_156 {Z : ZT} {X : XT} {μ : Mu} (E : Ent Z X mX3_copy 0 0) {P : Option Value → Mu → Prop} (hB : BodS Z X P) 
    (k : P none μ) :
    JS Z X 156 [] [] μ := by
  exact S_vret E hB dX3_copy_156 rfl k
theorem dX3_copyAll_0 : decode cX3_copyAll 0 = .ok (.aload_n 0, 1) := by decide +kernel
theorem dX3_copyAll_1 : decode cX3_copyAll 1 = .ok (.iconst 0, 1) := by decide +kernel
theorem dX3_copyAll_2 : decode cX3_copyAll 2 = .ok (.aload_n 1, 1) := by decide +kernel
theorem dX3_copyAll_3 : decode cX3_copyAll 3 = .ok (.iconst 0, 1) := by decide +kernel
theorem dX3_copyAll_4 : decode cX3_copyAll 4 = .ok (.aload_n 0, 1) := by decide +kernel
theorem dX3_copyAll_5 : decode cX3_copyAll 5 = .ok (.arraylength, 1) := by decide +kernel
theorem dX3_copyAll_6 : decode cX3_copyAll 6 = .ok (.aload_n 1, 1) := by decide +kernel
theorem dX3_copyAll_7 : decode cX3_copyAll 7 = .ok (.arraylength, 1) := by decide +kernel
theorem dX3_copyAll_8 : decode cX3_copyAll 8 = .ok (.invokestatic 68, 3) := by decide +kernel
theorem dX3_copyAll_11 : decode cX3_copyAll 11 = .ok (.invokestatic 74, 3) := by decide +kernel
theorem dX3_copyAll_14 : decode cX3_copyAll 14 = .ok (.return_, 1) := by decide +kernel
theorem bX3_copyAll_0 {Z : ZT} {X : XT} {μ : Mu} {a0 : Nat} {na0 : Nat} {a1 : Nat} {na1 : Nat} (E : Ent Z X mX3_copyAll 0 0) (ha0 : SH a0 = .inr (0, na0)) (ha1 : SH a1 = .inr (0, na1)) (s1_ : ¬ (if (nI na1) < (nI na0) then (nI na1) else (nI na0)) < 0) (s2_ : ix (nI 0) + ix (if (nI na1) < (nI na0) then (nI na1) else (nI na0)) ≤ na0) (s3_ : ix (nI 0) + ix (if (nI na1) < (nI na0) then (nI na1) else (nI na0)) ≤ na1)
    (k : JS Z X 14 [] [] (uR μ a1 (va_cpy (μ a0) (μ a1) (ix (nI 0)) (ix (nI 0)) (ix (if (nI na1) < (nI na0) then (nI na1) else (nI na0)))))) :
    JS Z X 0 [(0, .ref (Z.2.2.1 + a0)), (1, .ref (Z.2.2.1 + a1))] [] μ := by
  refine J_aload_n E dX3_copyAll_0 rfl ?_
  refine J_iconst (v := nI 0) E dX3_copyAll_1 rfl ?_
  refine J_aload_n E dX3_copyAll_2 rfl ?_
  refine J_iconst (v := nI 0) E dX3_copyAll_3 rfl ?_
  refine J_aload_n E dX3_copyAll_4 rfl ?_
  refine S_alen (v := nI na0) E dX3_copyAll_5 ha0 rfl ?_
  refine J_aload_n E dX3_copyAll_6 rfl ?_
  refine S_alen (v := nI na1) E dX3_copyAll_7 ha1 rfl ?_
  refine J_mmin E dX3_copyAll_8 w4_34 w2_189 w1_13 w2_190 (Nat.le_of_ble_eq_true rfl) (Nat.le_of_ble_eq_true rfl) (Nat.le_refl 0) (Nat.le_refl 0) ?_
  refine S_copyi E dX3_copyAll_11 w4_35 w4_37 w4_36 w1_20 ha0 ha1 (by decide) (by decide) s1_ s2_ s3_ (Nat.le_of_ble_eq_true rfl) (Nat.le_of_ble_eq_true rfl) ?_
  refine J.weak [] rfl ?_
  exact k
theorem bX3_copyAll_14 {Z : ZT} {X : XT} {μ : Mu} (E : Ent Z X mX3_copyAll 0 0) {P : Option Value → Mu → Prop} (hB : BodS Z X P) 
    (k : P none μ) :
    JS Z X 14 [] [] μ := by
  exact S_vret E hB dX3_copyAll_14 rfl k
theorem dX3_hasPlace_0 : decode cX3_hasPlace 0 = .ok (.iload_n 1, 1) := by decide +kernel
theorem dX3_hasPlace_1 : decode cX3_hasPlace 1 = .ok (.aload_n 0, 1) := by decide +kernel
theorem dX3_hasPlace_2 : decode cX3_hasPlace 2 = .ok (.getfield 48, 3) := by decide +kernel
theorem dX3_hasPlace_5 : decode cX3_hasPlace 5 = .ok (.invokestatic 80, 3) := by decide +kernel
theorem dX3_hasPlace_8 : decode cX3_hasPlace 8 = .ok (.ireturn, 1) := by decide +kernel
theorem bX3_hasPlace_0 {Z : ZT} {X : XT} {μ : Mu} {a0 : Nat} {a1 : Int32} (E : Ent Z X mX3_hasPlace 0 0) (ha0 : SH a0 = .inl 3) {p : Int32 → Mu → Prop} 
    (c : CtrS Z mX11_within [.int a1, .int (μ a0 0)] μ (rI p)) (k : ∀ v μ1, p v μ1 → JS Z X 8 [] [.int v] μ1) :
    JS Z X 0 [(0, .ref (Z.2.2.1 + a0)), (1, .int a1)] [] μ := by
  refine J_iload_n E dX3_hasPlace_0 rfl ?_
  refine J_aload_n E dX3_hasPlace_1 rfl ?_
  refine S_get (ci := 3) (q := 0) (v := .int (μ a0 0)) E dX3_hasPlace_2 fs_X3_48 ha0 rfl ?_
  refine S_callSN (As := [.int a1, .int (μ a0 0)]) (rest := []) E dX3_hasPlace_5 c kX11_within ⟨Nat.le_of_ble_eq_true rfl, Nat.le_of_ble_eq_true rfl⟩ rfl (Nat.le_of_ble_eq_true rfl) w3_45 w3_46 (fun r_ μ1 hp_ => ?_)
  obtain ⟨v, rfl, hp_⟩ := hp_
  refine J.weak [] rfl ?_
  exact k v μ1 hp_
theorem bX3_hasPlace_8 {Z : ZT} {X : XT} {μ : Mu} {s0 : Int32} (E : Ent Z X mX3_hasPlace 0 0) {P : Option Value → Mu → Prop} (hB : BodS Z X P) (s1_ : narrow .boolean (.int s0) = .int s0)
    (k : P (some (.int s0)) μ) :
    JS Z X 8 [] [.int s0] μ := by
  exact S_zret E hB dX3_hasPlace_8 rfl s1_ k
theorem dX3_areTwoPlaces_0 : decode cX3_areTwoPlaces 0 = .ok (.aload_n 0, 1) := by decide +kernel
theorem dX3_areTwoPlaces_1 : decode cX3_areTwoPlaces 1 = .ok (.iload_n 1, 1) := by decide +kernel
theorem dX3_areTwoPlaces_2 : decode cX3_areTwoPlaces 2 = .ok (.invokevirtual 84, 3) := by decide +kernel
theorem dX3_areTwoPlaces_5 : decode cX3_areTwoPlaces 5 = .ok (.ifCond .eq 20, 3) := by decide +kernel
theorem dX3_areTwoPlaces_8 : decode cX3_areTwoPlaces 8 = .ok (.aload_n 0, 1) := by decide +kernel
theorem dX3_areTwoPlaces_9 : decode cX3_areTwoPlaces 9 = .ok (.iload_n 2, 1) := by decide +kernel
theorem dX3_areTwoPlaces_10 : decode cX3_areTwoPlaces 10 = .ok (.invokevirtual 84, 3) := by decide +kernel
theorem dX3_areTwoPlaces_13 : decode cX3_areTwoPlaces 13 = .ok (.ifCond .eq 12, 3) := by decide +kernel
theorem dX3_areTwoPlaces_16 : decode cX3_areTwoPlaces 16 = .ok (.iload_n 1, 1) := by decide +kernel
theorem dX3_areTwoPlaces_17 : decode cX3_areTwoPlaces 17 = .ok (.iload_n 2, 1) := by decide +kernel
theorem dX3_areTwoPlaces_18 : decode cX3_areTwoPlaces 18 = .ok (.if_icmp .eq 7, 3) := by decide +kernel
theorem dX3_areTwoPlaces_21 : decode cX3_areTwoPlaces 21 = .ok (.iconst 1, 1) := by decide +kernel
theorem dX3_areTwoPlaces_22 : decode cX3_areTwoPlaces 22 = .ok (.goto 4, 3) := by decide +kernel
theorem dX3_areTwoPlaces_25 : decode cX3_areTwoPlaces 25 = .ok (.iconst 0, 1) := by decide +kernel
theorem dX3_areTwoPlaces_26 : decode cX3_areTwoPlaces 26 = .ok (.ireturn, 1) := by decide +kernel
theorem bX3_areTwoPlaces_0 {Z : ZT} {X : XT} {μ : Mu} {a0 : Nat} {a1 : Int32} {a2 : Int32} (E : Ent Z X mX3_areTwoPlaces 0 0) (ha0 : SH a0 = .inl 3) {p : Int32 → Mu → Prop} 
    (c : CtrS Z mX3_hasPlace [.ref (Z.2.2.1 + a0), .int a1] μ (rI p)) (k : ∀ v μ1, p v μ1 → JS Z X 5 [(0, .ref (Z.2.2.1 + a0)), (1, .int a1), (2, .int a2)] [.int v] μ1) :
    JS Z X 0 [(0, .ref (Z.2.2.1 + a0)), (1, .int a1), (2, .int a2)] [] μ := by
  refine J_aload_n E dX3_areTwoPlaces_0 rfl ?_
  refine J_iload_n E dX3_areTwoPlaces_1 rfl ?_
  refine S_callV (As := [.int a1]) (rest := []) E dX3_areTwoPlaces_2 c kX3_hasPlace ⟨Nat.le_of_ble_eq_true rfl, Nat.le_of_ble_eq_true rfl⟩ rfl (Nat.le_of_ble_eq_true rfl) ha0 rfl rfl w3_41 w3_42 w3_43 (fun r_ μ1 hp_ => ?_)
  obtain ⟨v, rfl, hp_⟩ := hp_
  exact k v μ1 hp_
theorem bX3_areTwoPlaces_5 {Z : ZT} {X : XT} {μ : Mu} {a0 : Nat} {a1 : Int32} {a2 : Int32} {s0 : Int32} (E : Ent Z X mX3_areTwoPlaces 0 0) (ha0 : SH a0 = .inl 3) 
    (kt : s0 = 0 → JS Z X 25 [] [] μ) (kf : ¬ (s0 = 0) → JS Z X 8 [(0, .ref (Z.2.2.1 + a0)), (1, .int a1), (2, .int a2)] [] μ) :
    JS Z X 5 [(0, .ref (Z.2.2.1 + a0)), (1, .int a1), (2, .int a2)] [.int s0] μ := by
  refine J_if_eq (tgt := 25) E dX3_areTwoPlaces_5 (by decide) (fun c => ?_) (fun c => ?_)
  · refine J.weak [] rfl ?_
    exact kt c
  · exact kf c
theorem bX3_areTwoPlaces_8 {Z : ZT} {X : XT} {μ : Mu} {a0 : Nat} {a1 : Int32} {a2 : Int32} (E : Ent Z X mX3_areTwoPlaces 0 0) (ha0 : SH a0 = .inl 3) {p : Int32 → Mu → Prop} 
    (c : CtrS Z mX3_hasPlace [.ref (Z.2.2.1 + a0), .int a2] μ (rI p)) (k : ∀ v μ1, p v μ1 → JS Z X 13 [(1, .int a1), (2, .int a2)] [.int v] μ1) :
    JS Z X 8 [(0, .ref (Z.2.2.1 + a0)), (1, .int a1), (2, .int a2)] [] μ := by
  refine J_aload_n E dX3_areTwoPlaces_8 rfl ?_
  refine J_iload_n E dX3_areTwoPlaces_9 rfl ?_
  refine S_callV (As := [.int a2]) (rest := []) E dX3_areTwoPlaces_10 c kX3_hasPlace ⟨Nat.le_of_ble_eq_true rfl, Nat.le_of_ble_eq_true rfl⟩ rfl (Nat.le_of_ble_eq_true rfl) ha0 rfl rfl w3_41 w3_42 w3_43 (fun r_ μ1 hp_ => ?_)
  obtain ⟨v, rfl, hp_⟩ := hp_
  refine J.weak [1, 2] rfl ?_
  exact k v μ1 hp_
theorem bX3_areTwoPlaces_13 {Z : ZT} {X : XT} {μ : Mu} {a1 : Int32} {a2 : Int32} {s0 : Int32} (E : Ent Z X mX3_areTwoPlaces 0 0)  
    (kt : s0 = 0 → JS Z X 25 [] [] μ) (kf : ¬ (s0 = 0) → JS Z X 16 [(1, .int a1), (2, .int a2)] [] μ) :
    JS Z X 13 [(1, .int a1), (2, .int a2)] [.int s0] μ := by
  refine J_if_eq (tgt := 25) E dX3_areTwoPlaces_13 (by decide) (fun c => ?_) (fun c => ?_)
  · refine J.weak [] rfl ?_
    exact kt c
  · exact kf c
theorem bX3_areTwoPlaces_16 {Z : ZT} {X : XT} {μ : Mu} {a1 : Int32} {a2 : Int32} (E : Ent Z X mX3_areTwoPlaces 0 0)  
    (kt : a1 = a2 → JS Z X 25 [] [] μ) (kf : ¬ (a1 = a2) → JS Z X 21 [] [] μ) :
    JS Z X 16 [(1, .int a1), (2, .int a2)] [] μ := by
  refine J_iload_n E dX3_areTwoPlaces_16 rfl ?_
  refine J_iload_n E dX3_areTwoPlaces_17 rfl ?_
  refine J_icmp_eq (tgt := 25) E dX3_areTwoPlaces_18 (by decide) (fun c => ?_) (fun c => ?_)
  · refine J.weak [] rfl ?_
    exact kt c
  · refine J.weak [] rfl ?_
    exact kf c
theorem bX3_areTwoPlaces_21 {Z : ZT} {X : XT} {μ : Mu} (E : Ent Z X mX3_areTwoPlaces 0 0)  
    (k : JS Z X 26 [] [.int (nI 1)] μ) :
    JS Z X 21 [] [] μ := by
  refine J_iconst (v := nI 1) E dX3_areTwoPlaces_21 rfl ?_
  refine J_goto (tgt := 26) E dX3_areTwoPlaces_22 (by decide) ?_
  exact k
theorem bX3_areTwoPlaces_25 {Z : ZT} {X : XT} {μ : Mu} (E : Ent Z X mX3_areTwoPlaces 0 0)  
    (k : JS Z X 26 [] [.int (nI 0)] μ) :
    JS Z X 25 [] [] μ := by
  refine J_iconst (v := nI 0) E dX3_areTwoPlaces_25 rfl ?_
  exact k
theorem bX3_areTwoPlaces_26 {Z : ZT} {X : XT} {μ : Mu} {s0 : Int32} (E : Ent Z X mX3_areTwoPlaces 0 0) {P : Option Value → Mu → Prop} (hB : BodS Z X P) (s1_ : narrow .boolean (.int s0) = .int s0)
    (k : P (some (.int s0)) μ) :
    JS Z X 26 [] [.int s0] μ := by
  exact S_zret E hB dX3_areTwoPlaces_26 rfl s1_ k
theorem dX3_isQuick_0 : decode cX3_isQuick 0 = .ok (.iload_n 0, 1) := by decide +kernel
theorem dX3_isQuick_1 : decode cX3_isQuick 1 = .ok (.bipush 10, 2) := by decide +kernel
theorem dX3_isQuick_3 : decode cX3_isQuick 3 = .ok (.invokestatic 80, 3) := by decide +kernel
theorem dX3_isQuick_6 : decode cX3_isQuick 6 = .ok (.ireturn, 1) := by decide +kernel
theorem bX3_isQuick_0 {Z : ZT} {X : XT} {μ : Mu} {a0 : Int32} (E : Ent Z X mX3_isQuick 0 0) {p : Int32 → Mu → Prop} 
    (c : CtrS Z mX11_within [.int a0, .int (nI 10)] μ (rI p)) (k : ∀ v μ1, p v μ1 → JS Z X 6 [] [.int v] μ1) :
    JS Z X 0 [(0, .int a0)] [] μ := by
  refine J_iload_n E dX3_isQuick_0 rfl ?_
  refine J_bipush (v := nI 10) E dX3_isQuick_1 rfl ?_
  refine S_callSN (As := [.int a0, .int (nI 10)]) (rest := []) E dX3_isQuick_3 c kX11_within ⟨Nat.le_of_ble_eq_true rfl, Nat.le_of_ble_eq_true rfl⟩ rfl (Nat.le_of_ble_eq_true rfl) w3_45 w3_46 (fun r_ μ1 hp_ => ?_)
  obtain ⟨v, rfl, hp_⟩ := hp_
  refine J.weak [] rfl ?_
  exact k v μ1 hp_
theorem bX3_isQuick_6 {Z : ZT} {X : XT} {μ : Mu} {s0 : Int32} (E : Ent Z X mX3_isQuick 0 0) {P : Option Value → Mu → Prop} (hB : BodS Z X P) (s1_ : narrow .boolean (.int s0) = .int s0)
    (k : P (some (.int s0)) μ) :
    JS Z X 6 [] [.int s0] μ := by
  exact S_zret E hB dX3_isQuick_6 rfl s1_ k
theorem dX3_addPlace_0 : decode cX3_addPlace 0 = .ok (.aload_n 0, 1) := by decide +kernel
theorem dX3_addPlace_1 : decode cX3_addPlace 1 = .ok (.getfield 48, 3) := by decide +kernel
theorem dX3_addPlace_4 : decode cX3_addPlace 4 = .ok (.bipush 10, 2) := by decide +kernel
theorem dX3_addPlace_6 : decode cX3_addPlace 6 = .ok (.if_icmp .lt 6, 3) := by decide +kernel
theorem dX3_addPlace_9 : decode cX3_addPlace 9 = .ok (.bipush (-4), 2) := by decide +kernel
theorem dX3_addPlace_11 : decode cX3_addPlace 11 = .ok (.ireturn, 1) := by decide +kernel
theorem dX3_addPlace_12 : decode cX3_addPlace 12 = .ok (.aload_n 0, 1) := by decide +kernel
theorem dX3_addPlace_13 : decode cX3_addPlace 13 = .ok (.dup, 1) := by decide +kernel
theorem dX3_addPlace_14 : decode cX3_addPlace 14 = .ok (.getfield 48, 3) := by decide +kernel
theorem dX3_addPlace_17 : decode cX3_addPlace 17 = .ok (.dup_x1, 1) := by decide +kernel
theorem dX3_addPlace_18 : decode cX3_addPlace 18 = .ok (.iconst 1, 1) := by decide +kernel
theorem dX3_addPlace_19 : decode cX3_addPlace 19 = .ok (.iadd, 1) := by decide +kernel
theorem dX3_addPlace_20 : decode cX3_addPlace 20 = .ok (.putfield 48, 3) := by decide +kernel
theorem dX3_addPlace_23 : decode cX3_addPlace 23 = .ok (.ireturn, 1) := by decide +kernel
theorem bX3_addPlace_0 {Z : ZT} {X : XT} {μ : Mu} {a0 : Nat} (E : Ent Z X mX3_addPlace 0 0) (ha0 : SH a0 = .inl 3) 
    (kt : (μ a0 0) < (nI 10) → JS Z X 12 [(0, .ref (Z.2.2.1 + a0))] [] μ) (kf : ¬ ((μ a0 0) < (nI 10)) → JS Z X 9 [] [] μ) :
    JS Z X 0 [(0, .ref (Z.2.2.1 + a0))] [] μ := by
  refine J_aload_n E dX3_addPlace_0 rfl ?_
  refine S_get (ci := 3) (q := 0) (v := .int (μ a0 0)) E dX3_addPlace_1 fs_X3_48 ha0 rfl ?_
  refine J_bipush (v := nI 10) E dX3_addPlace_4 rfl ?_
  refine J_icmp_lt (tgt := 12) E dX3_addPlace_6 (by decide) (fun c => ?_) (fun c => ?_)
  · exact kt c
  · refine J.weak [] rfl ?_
    exact kf c
theorem bX3_addPlace_9 {Z : ZT} {X : XT} {μ : Mu} (E : Ent Z X mX3_addPlace 0 0) {P : Option Value → Mu → Prop} (hB : BodS Z X P) 
    (k : P (some (.int (-4))) μ) :
    JS Z X 9 [] [] μ := by
  refine J_bipush (v := -4) E dX3_addPlace_9 rfl ?_
  exact S_iret E hB dX3_addPlace_11 rfl k
theorem bX3_addPlace_12 {Z : ZT} {X : XT} {μ : Mu} {a0 : Nat} (E : Ent Z X mX3_addPlace 0 0) (ha0 : SH a0 = .inl 3) 
    (k : JS Z X 23 [] [.int (μ a0 0)] (uR μ a0 (upd (μ a0) 0 ((μ a0 0) + (nI 1))))) :
    JS Z X 12 [(0, .ref (Z.2.2.1 + a0))] [] μ := by
  refine J_aload_n E dX3_addPlace_12 rfl ?_
  refine J_dup E dX3_addPlace_13 rfl ?_
  refine S_get (ci := 3) (q := 0) (v := .int (μ a0 0)) E dX3_addPlace_14 fs_X3_48 ha0 rfl ?_
  refine J_dup_x1 E dX3_addPlace_17 rfl rfl ?_
  refine J_iconst (v := nI 1) E dX3_addPlace_18 rfl ?_
  refine J_iadd E dX3_addPlace_19 ?_
  refine S_puti E dX3_addPlace_20 fs_X3_48 fp_X3_0 ha0 rfl ?_
  refine J.weak [] rfl ?_
  exact k
theorem bX3_addPlace_23 {Z : ZT} {X : XT} {μ : Mu} {s0 : Int32} (E : Ent Z X mX3_addPlace 0 0) {P : Option Value → Mu → Prop} (hB : BodS Z X P) 
    (k : P (some (.int s0)) μ) :
    JS Z X 23 [] [.int s0] μ := by
  exact S_iret E hB dX3_addPlace_23 rfl k
theorem dX3_setWay_0 : decode cX3_setWay 0 = .ok (.aload_n 0, 1) := by decide +kernel
theorem dX3_setWay_1 : decode cX3_setWay 1 = .ok (.iload_n 1, 1) := by decide +kernel
theorem dX3_setWay_2 : decode cX3_setWay 2 = .ok (.iload_n 2, 1) := by decide +kernel
theorem dX3_setWay_3 : decode cX3_setWay 3 = .ok (.invokevirtual 88, 3) := by decide +kernel
theorem dX3_setWay_6 : decode cX3_setWay 6 = .ok (.ifCond .eq 13, 3) := by decide +kernel
theorem dX3_setWay_9 : decode cX3_setWay 9 = .ok (.iload_n 3, 1) := by decide +kernel
theorem dX3_setWay_10 : decode cX3_setWay 10 = .ok (.ifCond .lt 9, 3) := by decide +kernel
theorem dX3_setWay_13 : decode cX3_setWay 13 = .ok (.iload_n 3, 1) := by decide +kernel
theorem dX3_setWay_14 : decode cX3_setWay 14 = .ok (.bipush 9, 2) := by decide +kernel
theorem dX3_setWay_16 : decode cX3_setWay 16 = .ok (.if_icmp .le 6, 3) := by decide +kernel
theorem dX3_setWay_19 : decode cX3_setWay 19 = .ok (.bipush (-2), 2) := by decide +kernel
theorem dX3_setWay_21 : decode cX3_setWay 21 = .ok (.ireturn, 1) := by decide +kernel
theorem dX3_setWay_22 : decode cX3_setWay 22 = .ok (.aload_n 0, 1) := by decide +kernel
theorem dX3_setWay_23 : decode cX3_setWay 23 = .ok (.getfield 9, 3) := by decide +kernel
theorem dX3_setWay_26 : decode cX3_setWay 26 = .ok (.iload_n 1, 1) := by decide +kernel
theorem dX3_setWay_27 : decode cX3_setWay 27 = .ok (.bipush 10, 2) := by decide +kernel
theorem dX3_setWay_29 : decode cX3_setWay 29 = .ok (.imul, 1) := by decide +kernel
theorem dX3_setWay_30 : decode cX3_setWay 30 = .ok (.iload_n 2, 1) := by decide +kernel
theorem dX3_setWay_31 : decode cX3_setWay 31 = .ok (.iadd, 1) := by decide +kernel
theorem dX3_setWay_32 : decode cX3_setWay 32 = .ok (.iaload, 1) := by decide +kernel
theorem dX3_setWay_33 : decode cX3_setWay 33 = .ok (.istore 4, 2) := by decide +kernel
theorem dX3_setWay_35 : decode cX3_setWay 35 = .ok (.aload_n 0, 1) := by decide +kernel
theorem dX3_setWay_36 : decode cX3_setWay 36 = .ok (.getfield 9, 3) := by decide +kernel
theorem dX3_setWay_39 : decode cX3_setWay 39 = .ok (.iload_n 1, 1) := by decide +kernel
theorem dX3_setWay_40 : decode cX3_setWay 40 = .ok (.bipush 10, 2) := by decide +kernel
theorem dX3_setWay_42 : decode cX3_setWay 42 = .ok (.imul, 1) := by decide +kernel
theorem dX3_setWay_43 : decode cX3_setWay 43 = .ok (.iload_n 2, 1) := by decide +kernel
theorem dX3_setWay_44 : decode cX3_setWay 44 = .ok (.iadd, 1) := by decide +kernel
theorem dX3_setWay_45 : decode cX3_setWay 45 = .ok (.iload_n 3, 1) := by decide +kernel
theorem dX3_setWay_46 : decode cX3_setWay 46 = .ok (.iastore, 1) := by decide +kernel
theorem dX3_setWay_47 : decode cX3_setWay 47 = .ok (.aload_n 0, 1) := by decide +kernel
theorem dX3_setWay_48 : decode cX3_setWay 48 = .ok (.getfield 9, 3) := by decide +kernel
theorem dX3_setWay_51 : decode cX3_setWay 51 = .ok (.iload_n 2, 1) := by decide +kernel
theorem dX3_setWay_52 : decode cX3_setWay 52 = .ok (.bipush 10, 2) := by decide +kernel
theorem dX3_setWay_54 : decode cX3_setWay 54 = .ok (.imul, 1) := by decide +kernel
theorem dX3_setWay_55 : decode cX3_setWay 55 = .ok (.iload_n 1, 1) := by decide +kernel
theorem dX3_setWay_56 : decode cX3_setWay 56 = .ok (.iadd, 1) := by decide +kernel
theorem dX3_setWay_57 : decode cX3_setWay 57 = .ok (.iload_n 3, 1) := by decide +kernel
theorem dX3_setWay_58 : decode cX3_setWay 58 = .ok (.iastore, 1) := by decide +kernel
theorem dX3_setWay_59 : decode cX3_setWay 59 = .ok (.iload 4, 2) := by decide +kernel
theorem dX3_setWay_61 : decode cX3_setWay 61 = .ok (.ireturn, 1) := by decide +kernel
theorem bX3_setWay_0 {Z : ZT} {X : XT} {μ : Mu} {a0 : Nat} {a1 : Int32} {a2 : Int32} {a3 : Int32} (E : Ent Z X mX3_setWay 0 0) (ha0 : SH a0 = .inl 3) {p : Int32 → Mu → Prop} 
    (c : CtrS Z mX3_areTwoPlaces [.ref (Z.2.2.1 + a0), .int a1, .int a2] μ (rI p)) (k : ∀ v μ1, p v μ1 → JS Z X 6 [(0, .ref (Z.2.2.1 + a0)), (1, .int a1), (2, .int a2), (3, .int a3)] [.int v] μ1) :
    JS Z X 0 [(0, .ref (Z.2.2.1 + a0)), (1, .int a1), (2, .int a2), (3, .int a3)] [] μ := by
  refine J_aload_n E dX3_setWay_0 rfl ?_
  refine J_iload_n E dX3_setWay_1 rfl ?_
  refine J_iload_n E dX3_setWay_2 rfl ?_
  refine S_callV (As := [.int a1, .int a2]) (rest := []) E dX3_setWay_3 c kX3_areTwoPlaces ⟨Nat.le_of_ble_eq_true rfl, Nat.le_of_ble_eq_true rfl⟩ rfl (Nat.le_of_ble_eq_true rfl) ha0 rfl rfl w3_37 w3_39 wp_2 (fun r_ μ1 hp_ => ?_)
  obtain ⟨v, rfl, hp_⟩ := hp_
  exact k v μ1 hp_
theorem bX3_setWay_6 {Z : ZT} {X : XT} {μ : Mu} {a0 : Nat} {a1 : Int32} {a2 : Int32} {a3 : Int32} {s0 : Int32} (E : Ent Z X mX3_setWay 0 0) (ha0 : SH a0 = .inl 3) 
    (kt : s0 = 0 → JS Z X 19 [] [] μ) (kf : ¬ (s0 = 0) → JS Z X 9 [(0, .ref (Z.2.2.1 + a0)), (1, .int a1), (2, .int a2), (3, .int a3)] [] μ) :
    JS Z X 6 [(0, .ref (Z.2.2.1 + a0)), (1, .int a1), (2, .int a2), (3, .int a3)] [.int s0] μ := by
  refine J_if_eq (tgt := 19) E dX3_setWay_6 (by decide) (fun c => ?_) (fun c => ?_)
  · refine J.weak [] rfl ?_
    exact kt c
  · exact kf c
theorem bX3_setWay_9 {Z : ZT} {X : XT} {μ : Mu} {a0 : Nat} {a1 : Int32} {a2 : Int32} {a3 : Int32} (E : Ent Z X mX3_setWay 0 0) (ha0 : SH a0 = .inl 3) 
    (kt : a3 < 0 → JS Z X 19 [] [] μ) (kf : ¬ (a3 < 0) → JS Z X 13 [(0, .ref (Z.2.2.1 + a0)), (1, .int a1), (2, .int a2), (3, .int a3)] [] μ) :
    JS Z X 9 [(0, .ref (Z.2.2.1 + a0)), (1, .int a1), (2, .int a2), (3, .int a3)] [] μ := by
  refine J_iload_n E dX3_setWay_9 rfl ?_
  refine J_if_lt (tgt := 19) E dX3_setWay_10 (by decide) (fun c => ?_) (fun c => ?_)
  · refine J.weak [] rfl ?_
    exact kt c
  · exact kf c
theorem bX3_setWay_13 {Z : ZT} {X : XT} {μ : Mu} {a0 : Nat} {a1 : Int32} {a2 : Int32} {a3 : Int32} (E : Ent Z X mX3_setWay 0 0) (ha0 : SH a0 = .inl 3) 
    (kt : a3 ≤ (nI 9) → JS Z X 22 [(0, .ref (Z.2.2.1 + a0)), (1, .int a1), (2, .int a2), (3, .int a3)] [] μ) (kf : ¬ (a3 ≤ (nI 9)) → JS Z X 19 [] [] μ) :
    JS Z X 13 [(0, .ref (Z.2.2.1 + a0)), (1, .int a1), (2, .int a2), (3, .int a3)] [] μ := by
  refine J_iload_n E dX3_setWay_13 rfl ?_
  refine J_bipush (v := nI 9) E dX3_setWay_14 rfl ?_
  refine J_icmp_le (tgt := 22) E dX3_setWay_16 (by decide) (fun c => ?_) (fun c => ?_)
  · exact kt c
  · refine J.weak [] rfl ?_
    exact kf c
theorem bX3_setWay_19 {Z : ZT} {X : XT} {μ : Mu} (E : Ent Z X mX3_setWay 0 0) {P : Option Value → Mu → Prop} (hB : BodS Z X P) 
    (k : P (some (.int (-2))) μ) :
    JS Z X 19 [] [] μ := by
  refine J_bipush (v := -2) E dX3_setWay_19 rfl ?_
  exact S_iret E hB dX3_setWay_21 rfl k
theorem bX3_setWay_22 {Z : ZT} {X : XT} {μ : Mu} {a0 : Nat} {a1 : Int32} {a2 : Int32} {a3 : Int32} (E : Ent Z X mX3_setWay 0 0) (ha0 : SH a0 = .inl 3) (s1_ : vp_in ((a1 * (nI 10)) + a2) 100) (s2_ : vp_in ((a1 * (nI 10)) + a2) 100)
    (k : JS Z X 47 [(0, .ref (Z.2.2.1 + a0)), (1, .int a1), (2, .int a2), (3, .int a3), (4, .int (μ (a0 + 1) (ix ((a1 * (nI 10)) + a2))))] [] (uR μ (a0 + 1) (upd (μ (a0 + 1)) (ix ((a1 * (nI 10)) + a2)) a3))) :
    JS Z X 22 [(0, .ref (Z.2.2.1 + a0)), (1, .int a1), (2, .int a2), (3, .int a3)] [] μ := by
  refine J_aload_n E dX3_setWay_22 rfl ?_
  refine S_get (ci := 3) (q := 1) (v := .ref (Z.2.2.1 + (a0 + 1))) E dX3_setWay_23 fs_X3_9 ha0 rfl ?_
  refine J_iload_n E dX3_setWay_26 rfl ?_
  refine J_bipush (v := nI 10) E dX3_setWay_27 rfl ?_
  refine J_imul E dX3_setWay_29 ?_
  refine J_iload_n E dX3_setWay_30 rfl ?_
  refine J_iadd E dX3_setWay_31 ?_
  refine S_iald E dX3_setWay_32 (shr_X3_1 ha0) s1_ ?_
  refine J_istore (lv' := [(0, .ref (Z.2.2.1 + a0)), (1, .int a1), (2, .int a2), (3, .int a3), (4, .int (μ (a0 + 1) (ix ((a1 * (nI 10)) + a2))))]) E dX3_setWay_33 (Nat.le_of_ble_eq_true rfl) rfl ?_
  refine J_aload_n E dX3_setWay_35 rfl ?_
  refine S_get (ci := 3) (q := 1) (v := .ref (Z.2.2.1 + (a0 + 1))) E dX3_setWay_36 fs_X3_9 ha0 rfl ?_
  refine J_iload_n E dX3_setWay_39 rfl ?_
  refine J_bipush (v := nI 10) E dX3_setWay_40 rfl ?_
  refine J_imul E dX3_setWay_42 ?_
  refine J_iload_n E dX3_setWay_43 rfl ?_
  refine J_iadd E dX3_setWay_44 ?_
  refine J_iload_n E dX3_setWay_45 rfl ?_
  refine S_iast E dX3_setWay_46 (shr_X3_1 ha0) s2_ ?_
  exact k
theorem bX3_setWay_47 {Z : ZT} {X : XT} {μ : Mu} {a0 : Nat} {a1 : Int32} {a2 : Int32} {a3 : Int32} {a4 : Int32} (E : Ent Z X mX3_setWay 0 0) (ha0 : SH a0 = .inl 3) (s1_ : vp_in ((a2 * (nI 10)) + a1) 100)
    (k : JS Z X 59 [(4, .int a4)] [] (uR μ (a0 + 1) (upd (μ (a0 + 1)) (ix ((a2 * (nI 10)) + a1)) a3))) :
    JS Z X 47 [(0, .ref (Z.2.2.1 + a0)), (1, .int a1), (2, .int a2), (3, .int a3), (4, .int a4)] [] μ := by
  refine J_aload_n E dX3_setWay_47 rfl ?_
  refine S_get (ci := 3) (q := 1) (v := .ref (Z.2.2.1 + (a0 + 1))) E dX3_setWay_48 fs_X3_9 ha0 rfl ?_
  refine J_iload_n E dX3_setWay_51 rfl ?_
  refine J_bipush (v := nI 10) E dX3_setWay_52 rfl ?_
  refine J_imul E dX3_setWay_54 ?_
  refine J_iload_n E dX3_setWay_55 rfl ?_
  refine J_iadd E dX3_setWay_56 ?_
  refine J_iload_n E dX3_setWay_57 rfl ?_
  refine S_iast E dX3_setWay_58 (shr_X3_1 ha0) s1_ ?_
  refine J.weak [4] rfl ?_
  exact k
theorem bX3_setWay_59 {Z : ZT} {X : XT} {μ : Mu} {a4 : Int32} (E : Ent Z X mX3_setWay 0 0) {P : Option Value → Mu → Prop} (hB : BodS Z X P) 
    (k : P (some (.int a4)) μ) :
    JS Z X 59 [(4, .int a4)] [] μ := by
  refine J_iload E dX3_setWay_59 rfl ?_
  exact S_iret E hB dX3_setWay_61 rfl k
theorem dX3_addSight_0 : decode cX3_addSight 0 = .ok (.aload_n 0, 1) := by decide +kernel
theorem dX3_addSight_1 : decode cX3_addSight 1 = .ok (.iload_n 1, 1) := by decide +kernel
theorem dX3_addSight_2 : decode cX3_addSight 2 = .ok (.iload_n 2, 1) := by decide +kernel
theorem dX3_addSight_3 : decode cX3_addSight 3 = .ok (.invokevirtual 88, 3) := by decide +kernel
theorem dX3_addSight_6 : decode cX3_addSight 6 = .ok (.ifCond .ne 6, 3) := by decide +kernel
theorem dX3_addSight_9 : decode cX3_addSight 9 = .ok (.bipush (-2), 2) := by decide +kernel
theorem dX3_addSight_11 : decode cX3_addSight 11 = .ok (.ireturn, 1) := by decide +kernel
theorem dX3_addSight_12 : decode cX3_addSight 12 = .ok (.aload_n 0, 1) := by decide +kernel
theorem dX3_addSight_13 : decode cX3_addSight 13 = .ok (.getfield 15, 3) := by decide +kernel
theorem dX3_addSight_16 : decode cX3_addSight 16 = .ok (.iload_n 1, 1) := by decide +kernel
theorem dX3_addSight_17 : decode cX3_addSight 17 = .ok (.iaload, 1) := by decide +kernel
theorem dX3_addSight_18 : decode cX3_addSight 18 = .ok (.iload_n 2, 1) := by decide +kernel
theorem dX3_addSight_19 : decode cX3_addSight 19 = .ok (.ishr, 1) := by decide +kernel
theorem dX3_addSight_20 : decode cX3_addSight 20 = .ok (.iconst 1, 1) := by decide +kernel
theorem dX3_addSight_21 : decode cX3_addSight 21 = .ok (.iand, 1) := by decide +kernel
theorem dX3_addSight_22 : decode cX3_addSight 22 = .ok (.iconst 1, 1) := by decide +kernel
theorem dX3_addSight_23 : decode cX3_addSight 23 = .ok (.if_icmp .ne 6, 3) := by decide +kernel
theorem dX3_addSight_26 : decode cX3_addSight 26 = .ok (.bipush (-3), 2) := by decide +kernel
theorem dX3_addSight_28 : decode cX3_addSight 28 = .ok (.ireturn, 1) := by decide +kernel
theorem dX3_addSight_29 : decode cX3_addSight 29 = .ok (.aload_n 0, 1) := by decide +kernel
theorem dX3_addSight_30 : decode cX3_addSight 30 = .ok (.getfield 15, 3) := by decide +kernel
theorem dX3_addSight_33 : decode cX3_addSight 33 = .ok (.iload_n 1, 1) := by decide +kernel
theorem dX3_addSight_34 : decode cX3_addSight 34 = .ok (.dup2, 1) := by decide +kernel
theorem dX3_addSight_35 : decode cX3_addSight 35 = .ok (.iaload, 1) := by decide +kernel
theorem dX3_addSight_36 : decode cX3_addSight 36 = .ok (.iconst 1, 1) := by decide +kernel
theorem dX3_addSight_37 : decode cX3_addSight 37 = .ok (.iload_n 2, 1) := by decide +kernel
theorem dX3_addSight_38 : decode cX3_addSight 38 = .ok (.ishl, 1) := by decide +kernel
theorem dX3_addSight_39 : decode cX3_addSight 39 = .ok (.ior, 1) := by decide +kernel
theorem dX3_addSight_40 : decode cX3_addSight 40 = .ok (.iastore, 1) := by decide +kernel
theorem dX3_addSight_41 : decode cX3_addSight 41 = .ok (.iconst 1, 1) := by decide +kernel
theorem dX3_addSight_42 : decode cX3_addSight 42 = .ok (.ireturn, 1) := by decide +kernel
theorem bX3_addSight_0 {Z : ZT} {X : XT} {μ : Mu} {a0 : Nat} {a1 : Int32} {a2 : Int32} (E : Ent Z X mX3_addSight 0 0) (ha0 : SH a0 = .inl 3) {p : Int32 → Mu → Prop} 
    (c : CtrS Z mX3_areTwoPlaces [.ref (Z.2.2.1 + a0), .int a1, .int a2] μ (rI p)) (k : ∀ v μ1, p v μ1 → JS Z X 6 [(0, .ref (Z.2.2.1 + a0)), (1, .int a1), (2, .int a2)] [.int v] μ1) :
    JS Z X 0 [(0, .ref (Z.2.2.1 + a0)), (1, .int a1), (2, .int a2)] [] μ := by
  refine J_aload_n E dX3_addSight_0 rfl ?_
  refine J_iload_n E dX3_addSight_1 rfl ?_
  refine J_iload_n E dX3_addSight_2 rfl ?_
  refine S_callV (As := [.int a1, .int a2]) (rest := []) E dX3_addSight_3 c kX3_areTwoPlaces ⟨Nat.le_of_ble_eq_true rfl, Nat.le_of_ble_eq_true rfl⟩ rfl (Nat.le_of_ble_eq_true rfl) ha0 rfl rfl w3_37 w3_39 wp_2 (fun r_ μ1 hp_ => ?_)
  obtain ⟨v, rfl, hp_⟩ := hp_
  exact k v μ1 hp_
theorem bX3_addSight_6 {Z : ZT} {X : XT} {μ : Mu} {a0 : Nat} {a1 : Int32} {a2 : Int32} {s0 : Int32} (E : Ent Z X mX3_addSight 0 0) (ha0 : SH a0 = .inl 3) 
    (kt : ¬ s0 = 0 → JS Z X 12 [(0, .ref (Z.2.2.1 + a0)), (1, .int a1), (2, .int a2)] [] μ) (kf : s0 = 0 → JS Z X 9 [] [] μ) :
    JS Z X 6 [(0, .ref (Z.2.2.1 + a0)), (1, .int a1), (2, .int a2)] [.int s0] μ := by
  refine J_if_ne (tgt := 12) E dX3_addSight_6 (by decide) (fun c => ?_) (fun c => ?_)
  · exact kt c
  · refine J.weak [] rfl ?_
    exact kf c
theorem bX3_addSight_9 {Z : ZT} {X : XT} {μ : Mu} (E : Ent Z X mX3_addSight 0 0) {P : Option Value → Mu → Prop} (hB : BodS Z X P) 
    (k : P (some (.int (-2))) μ) :
    JS Z X 9 [] [] μ := by
  refine J_bipush (v := -2) E dX3_addSight_9 rfl ?_
  exact S_iret E hB dX3_addSight_11 rfl k
theorem bX3_addSight_12 {Z : ZT} {X : XT} {μ : Mu} {a0 : Nat} {a1 : Int32} {a2 : Int32} (E : Ent Z X mX3_addSight 0 0) (ha0 : SH a0 = .inl 3) (s1_ : vp_in a1 10)
    (kt : ¬ (((μ (a0 + 2) (ix a1)) >>> (a2 &&& 31)) &&& (nI 1)) = (nI 1) → JS Z X 29 [(0, .ref (Z.2.2.1 + a0)), (1, .int a1), (2, .int a2)] [] μ) (kf : (((μ (a0 + 2) (ix a1)) >>> (a2 &&& 31)) &&& (nI 1)) = (nI 1) → JS Z X 26 [] [] μ) :
    JS Z X 12 [(0, .ref (Z.2.2.1 + a0)), (1, .int a1), (2, .int a2)] [] μ := by
  refine J_aload_n E dX3_addSight_12 rfl ?_
  refine S_get (ci := 3) (q := 2) (v := .ref (Z.2.2.1 + (a0 + 2))) E dX3_addSight_13 fs_X3_15 ha0 rfl ?_
  refine J_iload_n E dX3_addSight_16 rfl ?_
  refine S_iald E dX3_addSight_17 (shr_X3_2 ha0) s1_ ?_
  refine J_iload_n E dX3_addSight_18 rfl ?_
  refine J_ishr E dX3_addSight_19 ?_
  refine J_iconst (v := nI 1) E dX3_addSight_20 rfl ?_
  refine J_iand E dX3_addSight_21 ?_
  refine J_iconst (v := nI 1) E dX3_addSight_22 rfl ?_
  refine J_icmp_ne (tgt := 29) E dX3_addSight_23 (by decide) (fun c => ?_) (fun c => ?_)
  · exact kt c
  · refine J.weak [] rfl ?_
    exact kf c
theorem bX3_addSight_26 {Z : ZT} {X : XT} {μ : Mu} (E : Ent Z X mX3_addSight 0 0) {P : Option Value → Mu → Prop} (hB : BodS Z X P) 
    (k : P (some (.int (-3))) μ) :
    JS Z X 26 [] [] μ := by
  refine J_bipush (v := -3) E dX3_addSight_26 rfl ?_
  exact S_iret E hB dX3_addSight_28 rfl k
theorem bX3_addSight_29 {Z : ZT} {X : XT} {μ : Mu} {a0 : Nat} {a1 : Int32} {a2 : Int32} (E : Ent Z X mX3_addSight 0 0) (ha0 : SH a0 = .inl 3) (s1_ : vp_in a1 10) (s2_ : vp_in a1 10)
    (k : JS Z X 41 [] [] (uR μ (a0 + 2) (upd (μ (a0 + 2)) (ix a1) ((μ (a0 + 2) (ix a1)) ||| ((nI 1) <<< (a2 &&& 31)))))) :
    JS Z X 29 [(0, .ref (Z.2.2.1 + a0)), (1, .int a1), (2, .int a2)] [] μ := by
  refine J_aload_n E dX3_addSight_29 rfl ?_
  refine S_get (ci := 3) (q := 2) (v := .ref (Z.2.2.1 + (a0 + 2))) E dX3_addSight_30 fs_X3_15 ha0 rfl ?_
  refine J_iload_n E dX3_addSight_33 rfl ?_
  refine J_dup2_11 E dX3_addSight_34 rfl rfl ?_
  refine S_iald E dX3_addSight_35 (shr_X3_2 ha0) s1_ ?_
  refine J_iconst (v := nI 1) E dX3_addSight_36 rfl ?_
  refine J_iload_n E dX3_addSight_37 rfl ?_
  refine J_ishl E dX3_addSight_38 ?_
  refine J_ior E dX3_addSight_39 ?_
  refine S_iast E dX3_addSight_40 (shr_X3_2 ha0) s2_ ?_
  refine J.weak [] rfl ?_
  exact k
theorem bX3_addSight_41 {Z : ZT} {X : XT} {μ : Mu} (E : Ent Z X mX3_addSight 0 0) {P : Option Value → Mu → Prop} (hB : BodS Z X P) 
    (k : P (some (.int (nI 1))) μ) :
    JS Z X 41 [] [] μ := by
  refine J_iconst (v := nI 1) E dX3_addSight_41 rfl ?_
  exact S_iret E hB dX3_addSight_42 rfl k
theorem dX3_addChild_0 : decode cX3_addChild 0 = .ok (.iload_n 1, 1) := by decide +kernel
theorem dX3_addChild_1 : decode cX3_addChild 1 = .ok (.iconst 2, 1) := by decide +kernel
theorem dX3_addChild_2 : decode cX3_addChild 2 = .ok (.invokestatic 80, 3) := by decide +kernel
theorem dX3_addChild_5 : decode cX3_addChild 5 = .ok (.ifCond .eq 33, 3) := by decide +kernel
theorem dX3_addChild_8 : decode cX3_addChild 8 = .ok (.iload_n 2, 1) := by decide +kernel
theorem dX3_addChild_9 : decode cX3_addChild 9 = .ok (.invokestatic 91, 3) := by decide +kernel
theorem dX3_addChild_12 : decode cX3_addChild 12 = .ok (.ifCond .eq 26, 3) := by decide +kernel
theorem dX3_addChild_15 : decode cX3_addChild 15 = .ok (.iload_n 3, 1) := by decide +kernel
theorem dX3_addChild_16 : decode cX3_addChild 16 = .ok (.invokestatic 91, 3) := by decide +kernel
theorem dX3_addChild_19 : decode cX3_addChild 19 = .ok (.ifCond .eq 19, 3) := by decide +kernel
theorem dX3_addChild_22 : decode cX3_addChild 22 = .ok (.iload 4, 2) := by decide +kernel
theorem dX3_addChild_24 : decode cX3_addChild 24 = .ok (.invokestatic 91, 3) := by decide +kernel
theorem dX3_addChild_27 : decode cX3_addChild 27 = .ok (.ifCond .eq 11, 3) := by decide +kernel
theorem dX3_addChild_30 : decode cX3_addChild 30 = .ok (.iload 5, 2) := by decide +kernel
theorem dX3_addChild_32 : decode cX3_addChild 32 = .ok (.invokestatic 91, 3) := by decide +kernel
theorem dX3_addChild_35 : decode cX3_addChild 35 = .ok (.ifCond .ne 6, 3) := by decide +kernel
theorem dX3_addChild_38 : decode cX3_addChild 38 = .ok (.bipush (-2), 2) := by decide +kernel
theorem dX3_addChild_40 : decode cX3_addChild 40 = .ok (.ireturn, 1) := by decide +kernel
theorem dX3_addChild_41 : decode cX3_addChild 41 = .ok (.aload_n 0, 1) := by decide +kernel
theorem dX3_addChild_42 : decode cX3_addChild 42 = .ok (.getfield 52, 3) := by decide +kernel
theorem dX3_addChild_45 : decode cX3_addChild 45 = .ok (.bipush 6, 2) := by decide +kernel
theorem dX3_addChild_47 : decode cX3_addChild 47 = .ok (.if_icmp .lt 6, 3) := by decide +kernel
theorem dX3_addChild_50 : decode cX3_addChild 50 = .ok (.bipush (-4), 2) := by decide +kernel
theorem dX3_addChild_52 : decode cX3_addChild 52 = .ok (.ireturn, 1) := by decide +kernel
theorem dX3_addChild_53 : decode cX3_addChild 53 = .ok (.aload_n 0, 1) := by decide +kernel
theorem dX3_addChild_54 : decode cX3_addChild 54 = .ok (.getfield 52, 3) := by decide +kernel
theorem dX3_addChild_57 : decode cX3_addChild 57 = .ok (.iconst 4, 1) := by decide +kernel
theorem dX3_addChild_58 : decode cX3_addChild 58 = .ok (.imul, 1) := by decide +kernel
theorem dX3_addChild_59 : decode cX3_addChild 59 = .ok (.istore 6, 2) := by decide +kernel
theorem dX3_addChild_61 : decode cX3_addChild 61 = .ok (.aload_n 0, 1) := by decide +kernel
theorem dX3_addChild_62 : decode cX3_addChild 62 = .ok (.getfield 21, 3) := by decide +kernel
theorem dX3_addChild_65 : decode cX3_addChild 65 = .ok (.iload 6, 2) := by decide +kernel
theorem dX3_addChild_67 : decode cX3_addChild 67 = .ok (.iload_n 2, 1) := by decide +kernel
theorem dX3_addChild_68 : decode cX3_addChild 68 = .ok (.iastore, 1) := by decide +kernel
theorem dX3_addChild_69 : decode cX3_addChild 69 = .ok (.aload_n 0, 1) := by decide +kernel
theorem dX3_addChild_70 : decode cX3_addChild 70 = .ok (.getfield 21, 3) := by decide +kernel
theorem dX3_addChild_73 : decode cX3_addChild 73 = .ok (.iload 6, 2) := by decide +kernel
theorem dX3_addChild_75 : decode cX3_addChild 75 = .ok (.iconst 1, 1) := by decide +kernel
theorem dX3_addChild_76 : decode cX3_addChild 76 = .ok (.iadd, 1) := by decide +kernel
theorem dX3_addChild_77 : decode cX3_addChild 77 = .ok (.iload_n 3, 1) := by decide +kernel
theorem dX3_addChild_78 : decode cX3_addChild 78 = .ok (.iastore, 1) := by decide +kernel
theorem dX3_addChild_79 : decode cX3_addChild 79 = .ok (.aload_n 0, 1) := by decide +kernel
theorem dX3_addChild_80 : decode cX3_addChild 80 = .ok (.getfield 21, 3) := by decide +kernel
theorem dX3_addChild_83 : decode cX3_addChild 83 = .ok (.iload 6, 2) := by decide +kernel
theorem dX3_addChild_85 : decode cX3_addChild 85 = .ok (.iconst 2, 1) := by decide +kernel
theorem dX3_addChild_86 : decode cX3_addChild 86 = .ok (.iadd, 1) := by decide +kernel
theorem dX3_addChild_87 : decode cX3_addChild 87 = .ok (.iload 4, 2) := by decide +kernel
theorem dX3_addChild_89 : decode cX3_addChild 89 = .ok (.iastore, 1) := by decide +kernel
theorem dX3_addChild_90 : decode cX3_addChild 90 = .ok (.aload_n 0, 1) := by decide +kernel
theorem dX3_addChild_91 : decode cX3_addChild 91 = .ok (.getfield 21, 3) := by decide +kernel
theorem dX3_addChild_94 : decode cX3_addChild 94 = .ok (.iload 6, 2) := by decide +kernel
theorem dX3_addChild_96 : decode cX3_addChild 96 = .ok (.iconst 3, 1) := by decide +kernel
theorem dX3_addChild_97 : decode cX3_addChild 97 = .ok (.iadd, 1) := by decide +kernel
theorem dX3_addChild_98 : decode cX3_addChild 98 = .ok (.iload 5, 2) := by decide +kernel
theorem dX3_addChild_100 : decode cX3_addChild 100 = .ok (.iastore, 1) := by decide +kernel
theorem dX3_addChild_101 : decode cX3_addChild 101 = .ok (.aload_n 0, 1) := by decide +kernel
theorem dX3_addChild_102 : decode cX3_addChild 102 = .ok (.getfield 18, 3) := by decide +kernel
theorem dX3_addChild_105 : decode cX3_addChild 105 = .ok (.aload_n 0, 1) := by decide +kernel
theorem dX3_addChild_106 : decode cX3_addChild 106 = .ok (.getfield 52, 3) := by decide +kernel
theorem dX3_addChild_109 : decode cX3_addChild 109 = .ok (.iload_n 1, 1) := by decide +kernel
theorem dX3_addChild_110 : decode cX3_addChild 110 = .ok (.iastore, 1) := by decide +kernel
theorem dX3_addChild_111 : decode cX3_addChild 111 = .ok (.aload_n 0, 1) := by decide +kernel
theorem dX3_addChild_112 : decode cX3_addChild 112 = .ok (.getfield 24, 3) := by decide +kernel
theorem dX3_addChild_115 : decode cX3_addChild 115 = .ok (.aload_n 0, 1) := by decide +kernel
theorem dX3_addChild_116 : decode cX3_addChild 116 = .ok (.getfield 52, 3) := by decide +kernel
theorem dX3_addChild_119 : decode cX3_addChild 119 = .ok (.iconst 0, 1) := by decide +kernel
theorem dX3_addChild_120 : decode cX3_addChild 120 = .ok (.iastore, 1) := by decide +kernel
theorem dX3_addChild_121 : decode cX3_addChild 121 = .ok (.aload_n 0, 1) := by decide +kernel
theorem dX3_addChild_122 : decode cX3_addChild 122 = .ok (.getfield 27, 3) := by decide +kernel
theorem dX3_addChild_125 : decode cX3_addChild 125 = .ok (.aload_n 0, 1) := by decide +kernel
theorem dX3_addChild_126 : decode cX3_addChild 126 = .ok (.getfield 52, 3) := by decide +kernel
theorem dX3_addChild_129 : decode cX3_addChild 129 = .ok (.iconst (-1), 1) := by decide +kernel
theorem dX3_addChild_130 : decode cX3_addChild 130 = .ok (.iastore, 1) := by decide +kernel
theorem dX3_addChild_131 : decode cX3_addChild 131 = .ok (.aload_n 0, 1) := by decide +kernel
theorem dX3_addChild_132 : decode cX3_addChild 132 = .ok (.dup, 1) := by decide +kernel
theorem dX3_addChild_133 : decode cX3_addChild 133 = .ok (.getfield 52, 3) := by decide +kernel
theorem dX3_addChild_136 : decode cX3_addChild 136 = .ok (.dup_x1, 1) := by decide +kernel
theorem dX3_addChild_137 : decode cX3_addChild 137 = .ok (.iconst 1, 1) := by decide +kernel
theorem dX3_addChild_138 : decode cX3_addChild 138 = .ok (.iadd, 1) := by decide +kernel
theorem dX3_addChild_139 : decode cX3_addChild 139 = .ok (.putfield 52, 3) := by decide +kernel
theorem dX3_addChild_142 : decode cX3_addChild 142 = .ok (.ireturn, 1) := by decide +kernel
theorem bX3_addChild_0 {Z : ZT} {X : XT} {μ : Mu} {a0 : Nat} {a1 : Int32} {a2 : Int32} {a3 : Int32} {a4 : Int32} {a5 : Int32} (E : Ent Z X mX3_addChild 0 0) (ha0 : SH a0 = .inl 3) {p : Int32 → Mu → Prop} 
    (c : CtrS Z mX11_within [.int a1, .int (nI 2)] μ (rI p)) (k : ∀ v μ1, p v μ1 → JS Z X 5 [(0, .ref (Z.2.2.1 + a0)), (1, .int a1), (2, .int a2), (3, .int a3), (4, .int a4), (5, .int a5)] [.int v] μ1) :
    JS Z X 0 [(0, .ref (Z.2.2.1 + a0)), (1, .int a1), (2, .int a2), (3, .int a3), (4, .int a4), (5, .int a5)] [] μ := by
  refine J_iload_n E dX3_addChild_0 rfl ?_
  refine J_iconst (v := nI 2) E dX3_addChild_1 rfl ?_
  refine S_callSN (As := [.int a1, .int (nI 2)]) (rest := []) E dX3_addChild_2 c kX11_within ⟨Nat.le_of_ble_eq_true rfl, Nat.le_of_ble_eq_true rfl⟩ rfl (Nat.le_of_ble_eq_true rfl) w3_45 w3_46 (fun r_ μ1 hp_ => ?_)
  obtain ⟨v, rfl, hp_⟩ := hp_
  exact k v μ1 hp_
theorem bX3_addChild_5 {Z : ZT} {X : XT} {μ : Mu} {a0 : Nat} {a1 : Int32} {a2 : Int32} {a3 : Int32} {a4 : Int32} {a5 : Int32} {s0 : Int32} (E : Ent Z X mX3_addChild 0 0) (ha0 : SH a0 = .inl 3) 
    (kt : s0 = 0 → JS Z X 38 [] [] μ) (kf : ¬ (s0 = 0) → JS Z X 8 [(0, .ref (Z.2.2.1 + a0)), (1, .int a1), (2, .int a2), (3, .int a3), (4, .int a4), (5, .int a5)] [] μ) :
    JS Z X 5 [(0, .ref (Z.2.2.1 + a0)), (1, .int a1), (2, .int a2), (3, .int a3), (4, .int a4), (5, .int a5)] [.int s0] μ := by
  refine J_if_eq (tgt := 38) E dX3_addChild_5 (by decide) (fun c => ?_) (fun c => ?_)
  · refine J.weak [] rfl ?_
    exact kt c
  · exact kf c
theorem bX3_addChild_8 {Z : ZT} {X : XT} {μ : Mu} {a0 : Nat} {a1 : Int32} {a2 : Int32} {a3 : Int32} {a4 : Int32} {a5 : Int32} (E : Ent Z X mX3_addChild 0 0) (ha0 : SH a0 = .inl 3) {p : Int32 → Mu → Prop} 
    (c : CtrS Z mX3_isQuick [.int a2] μ (rI p)) (k : ∀ v μ1, p v μ1 → JS Z X 12 [(0, .ref (Z.2.2.1 + a0)), (1, .int a1), (2, .int a2), (3, .int a3), (4, .int a4), (5, .int a5)] [.int v] μ1) :
    JS Z X 8 [(0, .ref (Z.2.2.1 + a0)), (1, .int a1), (2, .int a2), (3, .int a3), (4, .int a4), (5, .int a5)] [] μ := by
  refine J_iload_n E dX3_addChild_8 rfl ?_
  refine S_callS (As := [.int a2]) (rest := []) E dX3_addChild_9 c kX3_isQuick ⟨Nat.le_of_ble_eq_true rfl, Nat.le_of_ble_eq_true rfl⟩ rfl (Nat.le_of_ble_eq_true rfl) w3_64 w3_65 (fun r_ μ1 hp_ => ?_)
  obtain ⟨v, rfl, hp_⟩ := hp_
  exact k v μ1 hp_
theorem bX3_addChild_12 {Z : ZT} {X : XT} {μ : Mu} {a0 : Nat} {a1 : Int32} {a2 : Int32} {a3 : Int32} {a4 : Int32} {a5 : Int32} {s0 : Int32} (E : Ent Z X mX3_addChild 0 0) (ha0 : SH a0 = .inl 3) 
    (kt : s0 = 0 → JS Z X 38 [] [] μ) (kf : ¬ (s0 = 0) → JS Z X 15 [(0, .ref (Z.2.2.1 + a0)), (1, .int a1), (2, .int a2), (3, .int a3), (4, .int a4), (5, .int a5)] [] μ) :
    JS Z X 12 [(0, .ref (Z.2.2.1 + a0)), (1, .int a1), (2, .int a2), (3, .int a3), (4, .int a4), (5, .int a5)] [.int s0] μ := by
  refine J_if_eq (tgt := 38) E dX3_addChild_12 (by decide) (fun c => ?_) (fun c => ?_)
  · refine J.weak [] rfl ?_
    exact kt c
  · exact kf c
theorem bX3_addChild_15 {Z : ZT} {X : XT} {μ : Mu} {a0 : Nat} {a1 : Int32} {a2 : Int32} {a3 : Int32} {a4 : Int32} {a5 : Int32} (E : Ent Z X mX3_addChild 0 0) (ha0 : SH a0 = .inl 3) {p : Int32 → Mu → Prop} 
    (c : CtrS Z mX3_isQuick [.int a3] μ (rI p)) (k : ∀ v μ1, p v μ1 → JS Z X 19 [(0, .ref (Z.2.2.1 + a0)), (1, .int a1), (2, .int a2), (3, .int a3), (4, .int a4), (5, .int a5)] [.int v] μ1) :
    JS Z X 15 [(0, .ref (Z.2.2.1 + a0)), (1, .int a1), (2, .int a2), (3, .int a3), (4, .int a4), (5, .int a5)] [] μ := by
  refine J_iload_n E dX3_addChild_15 rfl ?_
  refine S_callS (As := [.int a3]) (rest := []) E dX3_addChild_16 c kX3_isQuick ⟨Nat.le_of_ble_eq_true rfl, Nat.le_of_ble_eq_true rfl⟩ rfl (Nat.le_of_ble_eq_true rfl) w3_64 w3_65 (fun r_ μ1 hp_ => ?_)
  obtain ⟨v, rfl, hp_⟩ := hp_
  exact k v μ1 hp_
theorem bX3_addChild_19 {Z : ZT} {X : XT} {μ : Mu} {a0 : Nat} {a1 : Int32} {a2 : Int32} {a3 : Int32} {a4 : Int32} {a5 : Int32} {s0 : Int32} (E : Ent Z X mX3_addChild 0 0) (ha0 : SH a0 = .inl 3) 
    (kt : s0 = 0 → JS Z X 38 [] [] μ) (kf : ¬ (s0 = 0) → JS Z X 22 [(0, .ref (Z.2.2.1 + a0)), (1, .int a1), (2, .int a2), (3, .int a3), (4, .int a4), (5, .int a5)] [] μ) :
    JS Z X 19 [(0, .ref (Z.2.2.1 + a0)), (1, .int a1), (2, .int a2), (3, .int a3), (4, .int a4), (5, .int a5)] [.int s0] μ := by
  refine J_if_eq (tgt := 38) E dX3_addChild_19 (by decide) (fun c => ?_) (fun c => ?_)
  · refine J.weak [] rfl ?_
    exact kt c
  · exact kf c
theorem bX3_addChild_22 {Z : ZT} {X : XT} {μ : Mu} {a0 : Nat} {a1 : Int32} {a2 : Int32} {a3 : Int32} {a4 : Int32} {a5 : Int32} (E : Ent Z X mX3_addChild 0 0) (ha0 : SH a0 = .inl 3) {p : Int32 → Mu → Prop} 
    (c : CtrS Z mX3_isQuick [.int a4] μ (rI p)) (k : ∀ v μ1, p v μ1 → JS Z X 27 [(0, .ref (Z.2.2.1 + a0)), (1, .int a1), (2, .int a2), (3, .int a3), (4, .int a4), (5, .int a5)] [.int v] μ1) :
    JS Z X 22 [(0, .ref (Z.2.2.1 + a0)), (1, .int a1), (2, .int a2), (3, .int a3), (4, .int a4), (5, .int a5)] [] μ := by
  refine J_iload E dX3_addChild_22 rfl ?_
  refine S_callS (As := [.int a4]) (rest := []) E dX3_addChild_24 c kX3_isQuick ⟨Nat.le_of_ble_eq_true rfl, Nat.le_of_ble_eq_true rfl⟩ rfl (Nat.le_of_ble_eq_true rfl) w3_64 w3_65 (fun r_ μ1 hp_ => ?_)
  obtain ⟨v, rfl, hp_⟩ := hp_
  exact k v μ1 hp_
theorem bX3_addChild_27 {Z : ZT} {X : XT} {μ : Mu} {a0 : Nat} {a1 : Int32} {a2 : Int32} {a3 : Int32} {a4 : Int32} {a5 : Int32} {s0 : Int32} (E : Ent Z X mX3_addChild 0 0) (ha0 : SH a0 = .inl 3) 
    (kt : s0 = 0 → JS Z X 38 [] [] μ) (kf : ¬ (s0 = 0) → JS Z X 30 [(0, .ref (Z.2.2.1 + a0)), (1, .int a1), (2, .int a2), (3, .int a3), (4, .int a4), (5, .int a5)] [] μ) :
    JS Z X 27 [(0, .ref (Z.2.2.1 + a0)), (1, .int a1), (2, .int a2), (3, .int a3), (4, .int a4), (5, .int a5)] [.int s0] μ := by
  refine J_if_eq (tgt := 38) E dX3_addChild_27 (by decide) (fun c => ?_) (fun c => ?_)
  · refine J.weak [] rfl ?_
    exact kt c
  · exact kf c
theorem bX3_addChild_30 {Z : ZT} {X : XT} {μ : Mu} {a0 : Nat} {a1 : Int32} {a2 : Int32} {a3 : Int32} {a4 : Int32} {a5 : Int32} (E : Ent Z X mX3_addChild 0 0) (ha0 : SH a0 = .inl 3) {p : Int32 → Mu → Prop} 
    (c : CtrS Z mX3_isQuick [.int a5] μ (rI p)) (k : ∀ v μ1, p v μ1 → JS Z X 35 [(0, .ref (Z.2.2.1 + a0)), (1, .int a1), (2, .int a2), (3, .int a3), (4, .int a4), (5, .int a5)] [.int v] μ1) :
    JS Z X 30 [(0, .ref (Z.2.2.1 + a0)), (1, .int a1), (2, .int a2), (3, .int a3), (4, .int a4), (5, .int a5)] [] μ := by
  refine J_iload E dX3_addChild_30 rfl ?_
  refine S_callS (As := [.int a5]) (rest := []) E dX3_addChild_32 c kX3_isQuick ⟨Nat.le_of_ble_eq_true rfl, Nat.le_of_ble_eq_true rfl⟩ rfl (Nat.le_of_ble_eq_true rfl) w3_64 w3_65 (fun r_ μ1 hp_ => ?_)
  obtain ⟨v, rfl, hp_⟩ := hp_
  exact k v μ1 hp_
theorem bX3_addChild_35 {Z : ZT} {X : XT} {μ : Mu} {a0 : Nat} {a1 : Int32} {a2 : Int32} {a3 : Int32} {a4 : Int32} {a5 : Int32} {s0 : Int32} (E : Ent Z X mX3_addChild 0 0) (ha0 : SH a0 = .inl 3) 
    (kt : ¬ s0 = 0 → JS Z X 41 [(0, .ref (Z.2.2.1 + a0)), (1, .int a1), (2, .int a2), (3, .int a3), (4, .int a4), (5, .int a5)] [] μ) (kf : s0 = 0 → JS Z X 38 [] [] μ) :
    JS Z X 35 [(0, .ref (Z.2.2.1 + a0)), (1, .int a1), (2, .int a2), (3, .int a3), (4, .int a4), (5, .int a5)] [.int s0] μ := by
  refine J_if_ne (tgt := 41) E dX3_addChild_35 (by decide) (fun c => ?_) (fun c => ?_)
  · exact kt c
  · refine J.weak [] rfl ?_
    exact kf c
theorem bX3_addChild_38 {Z : ZT} {X : XT} {μ : Mu} (E : Ent Z X mX3_addChild 0 0) {P : Option Value → Mu → Prop} (hB : BodS Z X P) 
    (k : P (some (.int (-2))) μ) :
    JS Z X 38 [] [] μ := by
  refine J_bipush (v := -2) E dX3_addChild_38 rfl ?_
  exact S_iret E hB dX3_addChild_40 rfl k
theorem bX3_addChild_41 {Z : ZT} {X : XT} {μ : Mu} {a0 : Nat} {a1 : Int32} {a2 : Int32} {a3 : Int32} {a4 : Int32} {a5 : Int32} (E : Ent Z X mX3_addChild 0 0) (ha0 : SH a0 = .inl 3) 
    (kt : (μ a0 3) < (nI 6) → JS Z X 53 [(0, .ref (Z.2.2.1 + a0)), (1, .int a1), (2, .int a2), (3, .int a3), (4, .int a4), (5, .int a5)] [] μ) (kf : ¬ ((μ a0 3) < (nI 6)) → JS Z X 50 [] [] μ) :
    JS Z X 41 [(0, .ref (Z.2.2.1 + a0)), (1, .int a1), (2, .int a2), (3, .int a3), (4, .int a4), (5, .int a5)] [] μ := by
  refine J_aload_n E dX3_addChild_41 rfl ?_
  refine S_get (ci := 3) (q := 3) (v := .int (μ a0 3)) E dX3_addChild_42 fs_X3_52 ha0 rfl ?_
  refine J_bipush (v := nI 6) E dX3_addChild_45 rfl ?_
  refine J_icmp_lt (tgt := 53) E dX3_addChild_47 (by decide) (fun c => ?_) (fun c => ?_)
  · exact kt c
  · refine J.weak [] rfl ?_
    exact kf c
theorem bX3_addChild_50 {Z : ZT} {X : XT} {μ : Mu} (E : Ent Z X mX3_addChild 0 0) {P : Option Value → Mu → Prop} (hB : BodS Z X P) 
    (k : P (some (.int (-4))) μ) :
    JS Z X 50 [] [] μ := by
  refine J_bipush (v := -4) E dX3_addChild_50 rfl ?_
  exact S_iret E hB dX3_addChild_52 rfl k
theorem bX3_addChild_53 {Z : ZT} {X : XT} {μ : Mu} {a0 : Nat} {a1 : Int32} {a2 : Int32} {a3 : Int32} {a4 : Int32} {a5 : Int32} (E : Ent Z X mX3_addChild 0 0) (ha0 : SH a0 = .inl 3) (s1_ : vp_in ((μ a0 3) * (nI 4)) 24)
    (k : JS Z X 69 [(0, .ref (Z.2.2.1 + a0)), (1, .int a1), (3, .int a3), (4, .int a4), (5, .int a5), (6, .int ((μ a0 3) * (nI 4)))] [] (uR μ (a0 + 4) (upd (μ (a0 + 4)) (ix ((μ a0 3) * (nI 4))) a2))) :
    JS Z X 53 [(0, .ref (Z.2.2.1 + a0)), (1, .int a1), (2, .int a2), (3, .int a3), (4, .int a4), (5, .int a5)] [] μ := by
  refine J_aload_n E dX3_addChild_53 rfl ?_
  refine S_get (ci := 3) (q := 3) (v := .int (μ a0 3)) E dX3_addChild_54 fs_X3_52 ha0 rfl ?_
  refine J_iconst (v := nI 4) E dX3_addChild_57 rfl ?_
  refine J_imul E dX3_addChild_58 ?_
  refine J_istore (lv' := [(0, .ref (Z.2.2.1 + a0)), (1, .int a1), (2, .int a2), (3, .int a3), (4, .int a4), (5, .int a5), (6, .int ((μ a0 3) * (nI 4)))]) E dX3_addChild_59 (Nat.le_of_ble_eq_true rfl) rfl ?_
  refine J_aload_n E dX3_addChild_61 rfl ?_
  refine S_get (ci := 3) (q := 5) (v := .ref (Z.2.2.1 + (a0 + 4))) E dX3_addChild_62 fs_X3_21 ha0 rfl ?_
  refine J_iload E dX3_addChild_65 rfl ?_
  refine J_iload_n E dX3_addChild_67 rfl ?_
  refine S_iast E dX3_addChild_68 (shr_X3_5 ha0) s1_ ?_
  refine J.weak [0, 1, 3, 4, 5, 6] rfl ?_
  exact k
theorem bX3_addChild_69 {Z : ZT} {X : XT} {μ : Mu} {a0 : Nat} {a1 : Int32} {a3 : Int32} {a4 : Int32} {a5 : Int32} {a6 : Int32} (E : Ent Z X mX3_addChild 0 0) (ha0 : SH a0 = .inl 3) (s1_ : vp_in (a6 + (nI 1)) 24)
    (k : JS Z X 79 [(0, .ref (Z.2.2.1 + a0)), (1, .int a1), (4, .int a4), (5, .int a5), (6, .int a6)] [] (uR μ (a0 + 4) (upd (μ (a0 + 4)) (ix (a6 + (nI 1))) a3))) :
    JS Z X 69 [(0, .ref (Z.2.2.1 + a0)), (1, .int a1), (3, .int a3), (4, .int a4), (5, .int a5), (6, .int a6)] [] μ := by
  refine J_aload_n E dX3_addChild_69 rfl ?_
  refine S_get (ci := 3) (q := 5) (v := .ref (Z.2.2.1 + (a0 + 4))) E dX3_addChild_70 fs_X3_21 ha0 rfl ?_
  refine J_iload E dX3_addChild_73 rfl ?_
  refine J_iconst (v := nI 1) E dX3_addChild_75 rfl ?_
  refine J_iadd E dX3_addChild_76 ?_
  refine J_iload_n E dX3_addChild_77 rfl ?_
  refine S_iast E dX3_addChild_78 (shr_X3_5 ha0) s1_ ?_
  refine J.weak [0, 1, 3, 4, 5] rfl ?_
  exact k
theorem bX3_addChild_79 {Z : ZT} {X : XT} {μ : Mu} {a0 : Nat} {a1 : Int32} {a4 : Int32} {a5 : Int32} {a6 : Int32} (E : Ent Z X mX3_addChild 0 0) (ha0 : SH a0 = .inl 3) (s1_ : vp_in (a6 + (nI 2)) 24)
    (k : JS Z X 90 [(0, .ref (Z.2.2.1 + a0)), (1, .int a1), (5, .int a5), (6, .int a6)] [] (uR μ (a0 + 4) (upd (μ (a0 + 4)) (ix (a6 + (nI 2))) a4))) :
    JS Z X 79 [(0, .ref (Z.2.2.1 + a0)), (1, .int a1), (4, .int a4), (5, .int a5), (6, .int a6)] [] μ := by
  refine J_aload_n E dX3_addChild_79 rfl ?_
  refine S_get (ci := 3) (q := 5) (v := .ref (Z.2.2.1 + (a0 + 4))) E dX3_addChild_80 fs_X3_21 ha0 rfl ?_
  refine J_iload E dX3_addChild_83 rfl ?_
  refine J_iconst (v := nI 2) E dX3_addChild_85 rfl ?_
  refine J_iadd E dX3_addChild_86 ?_
  refine J_iload E dX3_addChild_87 rfl ?_
  refine S_iast E dX3_addChild_89 (shr_X3_5 ha0) s1_ ?_
  refine J.weak [0, 1, 3, 4] rfl ?_
  exact k
theorem bX3_addChild_90 {Z : ZT} {X : XT} {μ : Mu} {a0 : Nat} {a1 : Int32} {a5 : Int32} {a6 : Int32} (E : Ent Z X mX3_addChild 0 0) (ha0 : SH a0 = .inl 3) (s1_ : vp_in (a6 + (nI 3)) 24)
    (k : JS Z X 101 [(0, .ref (Z.2.2.1 + a0)), (1, .int a1)] [] (uR μ (a0 + 4) (upd (μ (a0 + 4)) (ix (a6 + (nI 3))) a5))) :
    JS Z X 90 [(0, .ref (Z.2.2.1 + a0)), (1, .int a1), (5, .int a5), (6, .int a6)] [] μ := by
  refine J_aload_n E dX3_addChild_90 rfl ?_
  refine S_get (ci := 3) (q := 5) (v := .ref (Z.2.2.1 + (a0 + 4))) E dX3_addChild_91 fs_X3_21 ha0 rfl ?_
  refine J_iload E dX3_addChild_94 rfl ?_
  refine J_iconst (v := nI 3) E dX3_addChild_96 rfl ?_
  refine J_iadd E dX3_addChild_97 ?_
  refine J_iload E dX3_addChild_98 rfl ?_
  refine S_iast E dX3_addChild_100 (shr_X3_5 ha0) s1_ ?_
  refine J.weak [0, 1] rfl ?_
  exact k
theorem bX3_addChild_101 {Z : ZT} {X : XT} {μ : Mu} {a0 : Nat} {a1 : Int32} (E : Ent Z X mX3_addChild 0 0) (ha0 : SH a0 = .inl 3) (s1_ : vp_in (μ a0 3) 6)
    (k : JS Z X 111 [(0, .ref (Z.2.2.1 + a0))] [] (uR μ (a0 + 3) (upd (μ (a0 + 3)) (ix (μ a0 3)) a1))) :
    JS Z X 101 [(0, .ref (Z.2.2.1 + a0)), (1, .int a1)] [] μ := by
  refine J_aload_n E dX3_addChild_101 rfl ?_
  refine S_get (ci := 3) (q := 4) (v := .ref (Z.2.2.1 + (a0 + 3))) E dX3_addChild_102 fs_X3_18 ha0 rfl ?_
  refine J_aload_n E dX3_addChild_105 rfl ?_
  refine S_get (ci := 3) (q := 3) (v := .int (μ a0 3)) E dX3_addChild_106 fs_X3_52 ha0 rfl ?_
  refine J_iload_n E dX3_addChild_109 rfl ?_
  refine S_iast E dX3_addChild_110 (shr_X3_4 ha0) s1_ ?_
  refine J.weak [0] rfl ?_
  exact k
theorem bX3_addChild_111 {Z : ZT} {X : XT} {μ : Mu} {a0 : Nat} (E : Ent Z X mX3_addChild 0 0) (ha0 : SH a0 = .inl 3) (s1_ : vp_in (μ a0 3) 6)
    (k : JS Z X 121 [(0, .ref (Z.2.2.1 + a0))] [] (uR μ (a0 + 5) (upd (μ (a0 + 5)) (ix (μ a0 3)) (nI 0)))) :
    JS Z X 111 [(0, .ref (Z.2.2.1 + a0))] [] μ := by
  refine J_aload_n E dX3_addChild_111 rfl ?_
  refine S_get (ci := 3) (q := 6) (v := .ref (Z.2.2.1 + (a0 + 5))) E dX3_addChild_112 fs_X3_24 ha0 rfl ?_
  refine J_aload_n E dX3_addChild_115 rfl ?_
  refine S_get (ci := 3) (q := 3) (v := .int (μ a0 3)) E dX3_addChild_116 fs_X3_52 ha0 rfl ?_
  refine J_iconst (v := nI 0) E dX3_addChild_119 rfl ?_
  refine S_iast E dX3_addChild_120 (shr_X3_6 ha0) s1_ ?_
  exact k
theorem bX3_addChild_121 {Z : ZT} {X : XT} {μ : Mu} {a0 : Nat} (E : Ent Z X mX3_addChild 0 0) (ha0 : SH a0 = .inl 3) (s1_ : vp_in (μ a0 3) 6)
    (k : JS Z X 131 [(0, .ref (Z.2.2.1 + a0))] [] (uR μ (a0 + 6) (upd (μ (a0 + 6)) (ix (μ a0 3)) (-1)))) :
    JS Z X 121 [(0, .ref (Z.2.2.1 + a0))] [] μ := by
  refine J_aload_n E dX3_addChild_121 rfl ?_
  refine S_get (ci := 3) (q := 7) (v := .ref (Z.2.2.1 + (a0 + 6))) E dX3_addChild_122 fs_X3_27 ha0 rfl ?_
  refine J_aload_n E dX3_addChild_125 rfl ?_
  refine S_get (ci := 3) (q := 3) (v := .int (μ a0 3)) E dX3_addChild_126 fs_X3_52 ha0 rfl ?_
  refine J_iconst (v := -1) E dX3_addChild_129 rfl ?_
  refine S_iast E dX3_addChild_130 (shr_X3_7 ha0) s1_ ?_
  exact k
theorem bX3_addChild_131 {Z : ZT} {X : XT} {μ : Mu} {a0 : Nat} (E : Ent Z X mX3_addChild 0 0) (ha0 : SH a0 = .inl 3) 
    (k : JS Z X 142 [] [.int (μ a0 3)] (uR μ a0 (upd (μ a0) 3 ((μ a0 3) + (nI 1))))) :
    JS Z X 131 [(0, .ref (Z.2.2.1 + a0))] [] μ := by
  refine J_aload_n E dX3_addChild_131 rfl ?_
  refine J_dup E dX3_addChild_132 rfl ?_
  refine S_get (ci := 3) (q := 3) (v := .int (μ a0 3)) E dX3_addChild_133 fs_X3_52 ha0 rfl ?_
  refine J_dup_x1 E dX3_addChild_136 rfl rfl ?_
  refine J_iconst (v := nI 1) E dX3_addChild_137 rfl ?_
  refine J_iadd E dX3_addChild_138 ?_
  refine S_puti E dX3_addChild_139 fs_X3_52 fp_X3_3 ha0 rfl ?_
  refine J.weak [] rfl ?_
  exact k
theorem bX3_addChild_142 {Z : ZT} {X : XT} {μ : Mu} {s0 : Int32} (E : Ent Z X mX3_addChild 0 0) {P : Option Value → Mu → Prop} (hB : BodS Z X P) 
    (k : P (some (.int s0)) μ) :
    JS Z X 142 [] [.int s0] μ := by
  exact S_iret E hB dX3_addChild_142 rfl k
theorem dX3_addBar_0 : decode cX3_addBar 0 = .ok (.iload_n 1, 1) := by decide +kernel
theorem dX3_addBar_1 : decode cX3_addBar 1 = .ok (.aload_n 0, 1) := by decide +kernel
theorem dX3_addBar_2 : decode cX3_addBar 2 = .ok (.getfield 52, 3) := by decide +kernel
theorem dX3_addBar_5 : decode cX3_addBar 5 = .ok (.invokestatic 80, 3) := by decide +kernel
theorem dX3_addBar_8 : decode cX3_addBar 8 = .ok (.ifCond .eq 11, 3) := by decide +kernel
theorem dX3_addBar_11 : decode cX3_addBar 11 = .ok (.aload_n 0, 1) := by decide +kernel
theorem dX3_addBar_12 : decode cX3_addBar 12 = .ok (.iload_n 2, 1) := by decide +kernel
theorem dX3_addBar_13 : decode cX3_addBar 13 = .ok (.invokevirtual 84, 3) := by decide +kernel
theorem dX3_addBar_16 : decode cX3_addBar 16 = .ok (.ifCond .ne 6, 3) := by decide +kernel
theorem dX3_addBar_19 : decode cX3_addBar 19 = .ok (.bipush (-2), 2) := by decide +kernel
theorem dX3_addBar_21 : decode cX3_addBar 21 = .ok (.ireturn, 1) := by decide +kernel
theorem dX3_addBar_22 : decode cX3_addBar 22 = .ok (.aload_n 0, 1) := by decide +kernel
theorem dX3_addBar_23 : decode cX3_addBar 23 = .ok (.getfield 24, 3) := by decide +kernel
theorem dX3_addBar_26 : decode cX3_addBar 26 = .ok (.iload_n 1, 1) := by decide +kernel
theorem dX3_addBar_27 : decode cX3_addBar 27 = .ok (.iaload, 1) := by decide +kernel
theorem dX3_addBar_28 : decode cX3_addBar 28 = .ok (.iload_n 2, 1) := by decide +kernel
theorem dX3_addBar_29 : decode cX3_addBar 29 = .ok (.ishr, 1) := by decide +kernel
theorem dX3_addBar_30 : decode cX3_addBar 30 = .ok (.iconst 1, 1) := by decide +kernel
theorem dX3_addBar_31 : decode cX3_addBar 31 = .ok (.iand, 1) := by decide +kernel
theorem dX3_addBar_32 : decode cX3_addBar 32 = .ok (.iconst 1, 1) := by decide +kernel
theorem dX3_addBar_33 : decode cX3_addBar 33 = .ok (.if_icmp .ne 6, 3) := by decide +kernel
theorem dX3_addBar_36 : decode cX3_addBar 36 = .ok (.bipush (-3), 2) := by decide +kernel
theorem dX3_addBar_38 : decode cX3_addBar 38 = .ok (.ireturn, 1) := by decide +kernel
theorem dX3_addBar_39 : decode cX3_addBar 39 = .ok (.aload_n 0, 1) := by decide +kernel
theorem dX3_addBar_40 : decode cX3_addBar 40 = .ok (.getfield 24, 3) := by decide +kernel
theorem dX3_addBar_43 : decode cX3_addBar 43 = .ok (.iload_n 1, 1) := by decide +kernel
theorem dX3_addBar_44 : decode cX3_addBar 44 = .ok (.dup2, 1) := by decide +kernel
theorem dX3_addBar_45 : decode cX3_addBar 45 = .ok (.iaload, 1) := by decide +kernel
theorem dX3_addBar_46 : decode cX3_addBar 46 = .ok (.iconst 1, 1) := by decide +kernel
theorem dX3_addBar_47 : decode cX3_addBar 47 = .ok (.iload_n 2, 1) := by decide +kernel
theorem dX3_addBar_48 : decode cX3_addBar 48 = .ok (.ishl, 1) := by decide +kernel
theorem dX3_addBar_49 : decode cX3_addBar 49 = .ok (.ior, 1) := by decide +kernel
theorem dX3_addBar_50 : decode cX3_addBar 50 = .ok (.iastore, 1) := by decide +kernel
theorem dX3_addBar_51 : decode cX3_addBar 51 = .ok (.iconst 1, 1) := by decide +kernel
theorem dX3_addBar_52 : decode cX3_addBar 52 = .ok (.ireturn, 1) := by decide +kernel
theorem bX3_addBar_0 {Z : ZT} {X : XT} {μ : Mu} {a0 : Nat} {a1 : Int32} {a2 : Int32} (E : Ent Z X mX3_addBar 0 0) (ha0 : SH a0 = .inl 3) {p : Int32 → Mu → Prop} 
    (c : CtrS Z mX11_within [.int a1, .int (μ a0 3)] μ (rI p)) (k : ∀ v μ1, p v μ1 → JS Z X 8 [(0, .ref (Z.2.2.1 + a0)), (1, .int a1), (2, .int a2)] [.int v] μ1) :
    JS Z X 0 [(0, .ref (Z.2.2.1 + a0)), (1, .int a1), (2, .int a2)] [] μ := by
  refine J_iload_n E dX3_addBar_0 rfl ?_
  refine J_aload_n E dX3_addBar_1 rfl ?_
  refine S_get (ci := 3) (q := 3) (v := .int (μ a0 3)) E dX3_addBar_2 fs_X3_52 ha0 rfl ?_
  refine S_callSN (As := [.int a1, .int (μ a0 3)]) (rest := []) E dX3_addBar_5 c kX11_within ⟨Nat.le_of_ble_eq_true rfl, Nat.le_of_ble_eq_true rfl⟩ rfl (Nat.le_of_ble_eq_true rfl) w3_45 w3_46 (fun r_ μ1 hp_ => ?_)
  obtain ⟨v, rfl, hp_⟩ := hp_
  exact k v μ1 hp_
theorem bX3_addBar_8 {Z : ZT} {X : XT} {μ : Mu} {a0 : Nat} {a1 : Int32} {a2 : Int32} {s0 : Int32} (E : Ent Z X mX3_addBar 0 0) (ha0 : SH a0 = .inl 3) 
    (kt : s0 = 0 → JS Z X 19 [] [] μ) (kf : ¬ (s0 = 0) → JS Z X 11 [(0, .ref (Z.2.2.1 + a0)), (1, .int a1), (2, .int a2)] [] μ) :
    JS Z X 8 [(0, .ref (Z.2.2.1 + a0)), (1, .int a1), (2, .int a2)] [.int s0] μ := by
  refine J_if_eq (tgt := 19) E dX3_addBar_8 (by decide) (fun c => ?_) (fun c => ?_)
  · refine J.weak [] rfl ?_
    exact kt c
  · exact kf c
theorem bX3_addBar_11 {Z : ZT} {X : XT} {μ : Mu} {a0 : Nat} {a1 : Int32} {a2 : Int32} (E : Ent Z X mX3_addBar 0 0) (ha0 : SH a0 = .inl 3) {p : Int32 → Mu → Prop} 
    (c : CtrS Z mX3_hasPlace [.ref (Z.2.2.1 + a0), .int a2] μ (rI p)) (k : ∀ v μ1, p v μ1 → JS Z X 16 [(0, .ref (Z.2.2.1 + a0)), (1, .int a1), (2, .int a2)] [.int v] μ1) :
    JS Z X 11 [(0, .ref (Z.2.2.1 + a0)), (1, .int a1), (2, .int a2)] [] μ := by
  refine J_aload_n E dX3_addBar_11 rfl ?_
  refine J_iload_n E dX3_addBar_12 rfl ?_
  refine S_callV (As := [.int a2]) (rest := []) E dX3_addBar_13 c kX3_hasPlace ⟨Nat.le_of_ble_eq_true rfl, Nat.le_of_ble_eq_true rfl⟩ rfl (Nat.le_of_ble_eq_true rfl) ha0 rfl rfl w3_41 w3_42 w3_43 (fun r_ μ1 hp_ => ?_)
  obtain ⟨v, rfl, hp_⟩ := hp_
  exact k v μ1 hp_
theorem bX3_addBar_16 {Z : ZT} {X : XT} {μ : Mu} {a0 : Nat} {a1 : Int32} {a2 : Int32} {s0 : Int32} (E : Ent Z X mX3_addBar 0 0) (ha0 : SH a0 = .inl 3) 
    (kt : ¬ s0 = 0 → JS Z X 22 [(0, .ref (Z.2.2.1 + a0)), (1, .int a1), (2, .int a2)] [] μ) (kf : s0 = 0 → JS Z X 19 [] [] μ) :
    JS Z X 16 [(0, .ref (Z.2.2.1 + a0)), (1, .int a1), (2, .int a2)] [.int s0] μ := by
  refine J_if_ne (tgt := 22) E dX3_addBar_16 (by decide) (fun c => ?_) (fun c => ?_)
  · exact kt c
  · refine J.weak [] rfl ?_
    exact kf c
theorem bX3_addBar_19 {Z : ZT} {X : XT} {μ : Mu} (E : Ent Z X mX3_addBar 0 0) {P : Option Value → Mu → Prop} (hB : BodS Z X P) 
    (k : P (some (.int (-2))) μ) :
    JS Z X 19 [] [] μ := by
  refine J_bipush (v := -2) E dX3_addBar_19 rfl ?_
  exact S_iret E hB dX3_addBar_21 rfl k
theorem bX3_addBar_22 {Z : ZT} {X : XT} {μ : Mu} {a0 : Nat} {a1 : Int32} {a2 : Int32} (E : Ent Z X mX3_addBar 0 0) (ha0 : SH a0 = .inl 3) (s1_ : vp_in a1 6)
    (kt : ¬ (((μ (a0 + 5) (ix a1)) >>> (a2 &&& 31)) &&& (nI 1)) = (nI 1) → JS Z X 39 [(0, .ref (Z.2.2.1 + a0)), (1, .int a1), (2, .int a2)] [] μ) (kf : (((μ (a0 + 5) (ix a1)) >>> (a2 &&& 31)) &&& (nI 1)) = (nI 1) → JS Z X 36 [] [] μ) :
    JS Z X 22 [(0, .ref (Z.2.2.1 + a0)), (1, .int a1), (2, .int a2)] [] μ := by
  refine J_aload_n E dX3_addBar_22 rfl ?_
  refine S_get (ci := 3) (q := 6) (v := .ref (Z.2.2.1 + (a0 + 5))) E dX3_addBar_23 fs_X3_24 ha0 rfl ?_
  refine J_iload_n E dX3_addBar_26 rfl ?_
  refine S_iald E dX3_addBar_27 (shr_X3_6 ha0) s1_ ?_
  refine J_iload_n E dX3_addBar_28 rfl ?_
  refine J_ishr E dX3_addBar_29 ?_
  refine J_iconst (v := nI 1) E dX3_addBar_30 rfl ?_
  refine J_iand E dX3_addBar_31 ?_
  refine J_iconst (v := nI 1) E dX3_addBar_32 rfl ?_
  refine J_icmp_ne (tgt := 39) E dX3_addBar_33 (by decide) (fun c => ?_) (fun c => ?_)
  · exact kt c
  · refine J.weak [] rfl ?_
    exact kf c
theorem bX3_addBar_36 {Z : ZT} {X : XT} {μ : Mu} (E : Ent Z X mX3_addBar 0 0) {P : Option Value → Mu → Prop} (hB : BodS Z X P) 
    (k : P (some (.int (-3))) μ) :
    JS Z X 36 [] [] μ := by
  refine J_bipush (v := -3) E dX3_addBar_36 rfl ?_
  exact S_iret E hB dX3_addBar_38 rfl k
theorem bX3_addBar_39 {Z : ZT} {X : XT} {μ : Mu} {a0 : Nat} {a1 : Int32} {a2 : Int32} (E : Ent Z X mX3_addBar 0 0) (ha0 : SH a0 = .inl 3) (s1_ : vp_in a1 6) (s2_ : vp_in a1 6)
    (k : JS Z X 51 [] [] (uR μ (a0 + 5) (upd (μ (a0 + 5)) (ix a1) ((μ (a0 + 5) (ix a1)) ||| ((nI 1) <<< (a2 &&& 31)))))) :
    JS Z X 39 [(0, .ref (Z.2.2.1 + a0)), (1, .int a1), (2, .int a2)] [] μ := by
  refine J_aload_n E dX3_addBar_39 rfl ?_
  refine S_get (ci := 3) (q := 6) (v := .ref (Z.2.2.1 + (a0 + 5))) E dX3_addBar_40 fs_X3_24 ha0 rfl ?_
  refine J_iload_n E dX3_addBar_43 rfl ?_
  refine J_dup2_11 E dX3_addBar_44 rfl rfl ?_
  refine S_iald E dX3_addBar_45 (shr_X3_6 ha0) s1_ ?_
  refine J_iconst (v := nI 1) E dX3_addBar_46 rfl ?_
  refine J_iload_n E dX3_addBar_47 rfl ?_
  refine J_ishl E dX3_addBar_48 ?_
  refine J_ior E dX3_addBar_49 ?_
  refine S_iast E dX3_addBar_50 (shr_X3_6 ha0) s2_ ?_
  refine J.weak [] rfl ?_
  exact k
theorem bX3_addBar_51 {Z : ZT} {X : XT} {μ : Mu} (E : Ent Z X mX3_addBar 0 0) {P : Option Value → Mu → Prop} (hB : BodS Z X P) 
    (k : P (some (.int (nI 1))) μ) :
    JS Z X 51 [] [] μ := by
  refine J_iconst (v := nI 1) E dX3_addBar_51 rfl ?_
  exact S_iret E hB dX3_addBar_52 rfl k
theorem dX3_setLot_0 : decode cX3_setLot 0 = .ok (.iload_n 1, 1) := by decide +kernel
theorem dX3_setLot_1 : decode cX3_setLot 1 = .ok (.aload_n 0, 1) := by decide +kernel
theorem dX3_setLot_2 : decode cX3_setLot 2 = .ok (.getfield 52, 3) := by decide +kernel
theorem dX3_setLot_5 : decode cX3_setLot 5 = .ok (.invokestatic 80, 3) := by decide +kernel
theorem dX3_setLot_8 : decode cX3_setLot 8 = .ok (.ifCond .eq 13, 3) := by decide +kernel
theorem dX3_setLot_11 : decode cX3_setLot 11 = .ok (.iload_n 2, 1) := by decide +kernel
theorem dX3_setLot_12 : decode cX3_setLot 12 = .ok (.iconst (-1), 1) := by decide +kernel
theorem dX3_setLot_13 : decode cX3_setLot 13 = .ok (.if_icmp .lt 8, 3) := by decide +kernel
theorem dX3_setLot_16 : decode cX3_setLot 16 = .ok (.iload_n 2, 1) := by decide +kernel
theorem dX3_setLot_17 : decode cX3_setLot 17 = .ok (.iconst 2, 1) := by decide +kernel
theorem dX3_setLot_18 : decode cX3_setLot 18 = .ok (.if_icmp .lt 6, 3) := by decide +kernel
theorem dX3_setLot_21 : decode cX3_setLot 21 = .ok (.bipush (-2), 2) := by decide +kernel
theorem dX3_setLot_23 : decode cX3_setLot 23 = .ok (.ireturn, 1) := by decide +kernel
theorem dX3_setLot_24 : decode cX3_setLot 24 = .ok (.aload_n 0, 1) := by decide +kernel
theorem dX3_setLot_25 : decode cX3_setLot 25 = .ok (.getfield 27, 3) := by decide +kernel
theorem dX3_setLot_28 : decode cX3_setLot 28 = .ok (.iload_n 1, 1) := by decide +kernel
theorem dX3_setLot_29 : decode cX3_setLot 29 = .ok (.iaload, 1) := by decide +kernel
theorem dX3_setLot_30 : decode cX3_setLot 30 = .ok (.istore_n 3, 1) := by decide +kernel
theorem dX3_setLot_31 : decode cX3_setLot 31 = .ok (.aload_n 0, 1) := by decide +kernel
theorem dX3_setLot_32 : decode cX3_setLot 32 = .ok (.getfield 27, 3) := by decide +kernel
theorem dX3_setLot_35 : decode cX3_setLot 35 = .ok (.iload_n 1, 1) := by decide +kernel
theorem dX3_setLot_36 : decode cX3_setLot 36 = .ok (.iload_n 2, 1) := by decide +kernel
theorem dX3_setLot_37 : decode cX3_setLot 37 = .ok (.iastore, 1) := by decide +kernel
theorem dX3_setLot_38 : decode cX3_setLot 38 = .ok (.iload_n 3, 1) := by decide +kernel
theorem dX3_setLot_39 : decode cX3_setLot 39 = .ok (.ireturn, 1) := by decide +kernel
theorem bX3_setLot_0 {Z : ZT} {X : XT} {μ : Mu} {a0 : Nat} {a1 : Int32} {a2 : Int32} (E : Ent Z X mX3_setLot 0 0) (ha0 : SH a0 = .inl 3) {p : Int32 → Mu → Prop} 
    (c : CtrS Z mX11_within [.int a1, .int (μ a0 3)] μ (rI p)) (k : ∀ v μ1, p v μ1 → JS Z X 8 [(0, .ref (Z.2.2.1 + a0)), (1, .int a1), (2, .int a2)] [.int v] μ1) :
    JS Z X 0 [(0, .ref (Z.2.2.1 + a0)), (1, .int a1), (2, .int a2)] [] μ := by
  refine J_iload_n E dX3_setLot_0 rfl ?_
  refine J_aload_n E dX3_setLot_1 rfl ?_
  refine S_get (ci := 3) (q := 3) (v := .int (μ a0 3)) E dX3_setLot_2 fs_X3_52 ha0 rfl ?_
  refine S_callSN (As := [.int a1, .int (μ a0 3)]) (rest := []) E dX3_setLot_5 c kX11_within ⟨Nat.le_of_ble_eq_true rfl, Nat.le_of_ble_eq_true rfl⟩ rfl (Nat.le_of_ble_eq_true rfl) w3_45 w3_46 (fun r_ μ1 hp_ => ?_)
  obtain ⟨v, rfl, hp_⟩ := hp_
  exact k v μ1 hp_
theorem bX3_setLot_8 {Z : ZT} {X : XT} {μ : Mu} {a0 : Nat} {a1 : Int32} {a2 : Int32} {s0 : Int32} (E : Ent Z X mX3_setLot 0 0) (ha0 : SH a0 = .inl 3) 
    (kt : s0 = 0 → JS Z X 21 [] [] μ) (kf : ¬ (s0 = 0) → JS Z X 11 [(0, .ref (Z.2.2.1 + a0)), (1, .int a1), (2, .int a2)] [] μ) :
    JS Z X 8 [(0, .ref (Z.2.2.1 + a0)), (1, .int a1), (2, .int a2)] [.int s0] μ := by
  refine J_if_eq (tgt := 21) E dX3_setLot_8 (by decide) (fun c => ?_) (fun c => ?_)
  · refine J.weak [] rfl ?_
    exact kt c
  · exact kf c
theorem bX3_setLot_11 {Z : ZT} {X : XT} {μ : Mu} {a0 : Nat} {a1 : Int32} {a2 : Int32} (E : Ent Z X mX3_setLot 0 0) (ha0 : SH a0 = .inl 3) 
    (kt : a2 < (-1) → JS Z X 21 [] [] μ) (kf : ¬ (a2 < (-1)) → JS Z X 16 [(0, .ref (Z.2.2.1 + a0)), (1, .int a1), (2, .int a2)] [] μ) :
    JS Z X 11 [(0, .ref (Z.2.2.1 + a0)), (1, .int a1), (2, .int a2)] [] μ := by
  refine J_iload_n E dX3_setLot_11 rfl ?_
  refine J_iconst (v := -1) E dX3_setLot_12 rfl ?_
  refine J_icmp_lt (tgt := 21) E dX3_setLot_13 (by decide) (fun c => ?_) (fun c => ?_)
  · refine J.weak [] rfl ?_
    exact kt c
  · exact kf c
theorem bX3_setLot_16 {Z : ZT} {X : XT} {μ : Mu} {a0 : Nat} {a1 : Int32} {a2 : Int32} (E : Ent Z X mX3_setLot 0 0) (ha0 : SH a0 = .inl 3) 
    (kt : a2 < (nI 2) → JS Z X 24 [(0, .ref (Z.2.2.1 + a0)), (1, .int a1), (2, .int a2)] [] μ) (kf : ¬ (a2 < (nI 2)) → JS Z X 21 [] [] μ) :
    JS Z X 16 [(0, .ref (Z.2.2.1 + a0)), (1, .int a1), (2, .int a2)] [] μ := by
  refine J_iload_n E dX3_setLot_16 rfl ?_
  refine J_iconst (v := nI 2) E dX3_setLot_17 rfl ?_
  refine J_icmp_lt (tgt := 24) E dX3_setLot_18 (by decide) (fun c => ?_) (fun c => ?_)
  · exact kt c
  · refine J.weak [] rfl ?_
    exact kf c
theorem bX3_setLot_21 {Z : ZT} {X : XT} {μ : Mu} (E : Ent Z X mX3_setLot 0 0) {P : Option Value → Mu → Prop} (hB : BodS Z X P) 
    (k : P (some (.int (-2))) μ) :
    JS Z X 21 [] [] μ := by
  refine J_bipush (v := -2) E dX3_setLot_21 rfl ?_
  exact S_iret E hB dX3_setLot_23 rfl k
theorem bX3_setLot_24 {Z : ZT} {X : XT} {μ : Mu} {a0 : Nat} {a1 : Int32} {a2 : Int32} (E : Ent Z X mX3_setLot 0 0) (ha0 : SH a0 = .inl 3) (s1_ : vp_in a1 6) (s2_ : vp_in a1 6)
    (k : JS Z X 38 [(3, .int (μ (a0 + 6) (ix a1)))] [] (uR μ (a0 + 6) (upd (μ (a0 + 6)) (ix a1) a2))) :
    JS Z X 24 [(0, .ref (Z.2.2.1 + a0)), (1, .int a1), (2, .int a2)] [] μ := by
  refine J_aload_n E dX3_setLot_24 rfl ?_
  refine S_get (ci := 3) (q := 7) (v := .ref (Z.2.2.1 + (a0 + 6))) E dX3_setLot_25 fs_X3_27 ha0 rfl ?_
  refine J_iload_n E dX3_setLot_28 rfl ?_
  refine S_iald E dX3_setLot_29 (shr_X3_7 ha0) s1_ ?_
  refine J_istore_n (lv' := [(0, .ref (Z.2.2.1 + a0)), (1, .int a1), (2, .int a2), (3, .int (μ (a0 + 6) (ix a1)))]) E dX3_setLot_30 (Nat.le_of_ble_eq_true rfl) rfl ?_
  refine J_aload_n E dX3_setLot_31 rfl ?_
  refine S_get (ci := 3) (q := 7) (v := .ref (Z.2.2.1 + (a0 + 6))) E dX3_setLot_32 fs_X3_27 ha0 rfl ?_
  refine J_iload_n E dX3_setLot_35 rfl ?_
  refine J_iload_n E dX3_setLot_36 rfl ?_
  refine S_iast E dX3_setLot_37 (shr_X3_7 ha0) s2_ ?_
  refine J.weak [3] rfl ?_
  exact k
theorem bX3_setLot_38 {Z : ZT} {X : XT} {μ : Mu} {a3 : Int32} (E : Ent Z X mX3_setLot 0 0) {P : Option Value → Mu → Prop} (hB : BodS Z X P) 
    (k : P (some (.int a3)) μ) :
    JS Z X 38 [(3, .int a3)] [] μ := by
  refine J_iload_n E dX3_setLot_38 rfl ?_
  exact S_iret E hB dX3_setLot_39 rfl k
theorem dX3_addSlip_0 : decode cX3_addSlip 0 = .ok (.aload_n 0, 1) := by decide +kernel
theorem dX3_addSlip_1 : decode cX3_addSlip 1 = .ok (.iload_n 1, 1) := by decide +kernel
theorem dX3_addSlip_2 : decode cX3_addSlip 2 = .ok (.invokevirtual 84, 3) := by decide +kernel
theorem dX3_addSlip_5 : decode cX3_addSlip 5 = .ok (.ifCond .eq 11, 3) := by decide +kernel
theorem dX3_addSlip_8 : decode cX3_addSlip 8 = .ok (.iload_n 2, 1) := by decide +kernel
theorem dX3_addSlip_9 : decode cX3_addSlip 9 = .ok (.iconst 4, 1) := by decide +kernel
theorem dX3_addSlip_10 : decode cX3_addSlip 10 = .ok (.invokestatic 80, 3) := by decide +kernel
theorem dX3_addSlip_13 : decode cX3_addSlip 13 = .ok (.ifCond .ne 6, 3) := by decide +kernel
theorem dX3_addSlip_16 : decode cX3_addSlip 16 = .ok (.bipush (-2), 2) := by decide +kernel
theorem dX3_addSlip_18 : decode cX3_addSlip 18 = .ok (.ireturn, 1) := by decide +kernel
theorem dX3_addSlip_19 : decode cX3_addSlip 19 = .ok (.aload_n 0, 1) := by decide +kernel
theorem dX3_addSlip_20 : decode cX3_addSlip 20 = .ok (.getfield 55, 3) := by decide +kernel
theorem dX3_addSlip_23 : decode cX3_addSlip 23 = .ok (.bipush 8, 2) := by decide +kernel
theorem dX3_addSlip_25 : decode cX3_addSlip 25 = .ok (.if_icmp .lt 6, 3) := by decide +kernel
theorem dX3_addSlip_28 : decode cX3_addSlip 28 = .ok (.bipush (-4), 2) := by decide +kernel
theorem dX3_addSlip_30 : decode cX3_addSlip 30 = .ok (.ireturn, 1) := by decide +kernel
theorem dX3_addSlip_31 : decode cX3_addSlip 31 = .ok (.aload_n 0, 1) := by decide +kernel
theorem dX3_addSlip_32 : decode cX3_addSlip 32 = .ok (.getfield 30, 3) := by decide +kernel
theorem dX3_addSlip_35 : decode cX3_addSlip 35 = .ok (.aload_n 0, 1) := by decide +kernel
theorem dX3_addSlip_36 : decode cX3_addSlip 36 = .ok (.getfield 55, 3) := by decide +kernel
theorem dX3_addSlip_39 : decode cX3_addSlip 39 = .ok (.iload_n 1, 1) := by decide +kernel
theorem dX3_addSlip_40 : decode cX3_addSlip 40 = .ok (.iastore, 1) := by decide +kernel
theorem dX3_addSlip_41 : decode cX3_addSlip 41 = .ok (.aload_n 0, 1) := by decide +kernel
theorem dX3_addSlip_42 : decode cX3_addSlip 42 = .ok (.getfield 33, 3) := by decide +kernel
theorem dX3_addSlip_45 : decode cX3_addSlip 45 = .ok (.aload_n 0, 1) := by decide +kernel
theorem dX3_addSlip_46 : decode cX3_addSlip 46 = .ok (.getfield 55, 3) := by decide +kernel
theorem dX3_addSlip_49 : decode cX3_addSlip 49 = .ok (.iload_n 2, 1) := by decide +kernel
theorem dX3_addSlip_50 : decode cX3_addSlip 50 = .ok (.iastore, 1) := by decide +kernel
theorem dX3_addSlip_51 : decode cX3_addSlip 51 = .ok (.aload_n 0, 1) := by decide +kernel
theorem dX3_addSlip_52 : decode cX3_addSlip 52 = .ok (.getfield 36, 3) := by decide +kernel
theorem dX3_addSlip_55 : decode cX3_addSlip 55 = .ok (.aload_n 0, 1) := by decide +kernel
theorem dX3_addSlip_56 : decode cX3_addSlip 56 = .ok (.getfield 55, 3) := by decide +kernel
theorem dX3_addSlip_59 : decode cX3_addSlip 59 = .ok (.iconst 0, 1) := by decide +kernel
theorem dX3_addSlip_60 : decode cX3_addSlip 60 = .ok (.iastore, 1) := by decide +kernel
theorem dX3_addSlip_61 : decode cX3_addSlip 61 = .ok (.aload_n 0, 1) := by decide +kernel
theorem dX3_addSlip_62 : decode cX3_addSlip 62 = .ok (.getfield 39, 3) := by decide +kernel
theorem dX3_addSlip_65 : decode cX3_addSlip 65 = .ok (.aload_n 0, 1) := by decide +kernel
theorem dX3_addSlip_66 : decode cX3_addSlip 66 = .ok (.getfield 55, 3) := by decide +kernel
theorem dX3_addSlip_69 : decode cX3_addSlip 69 = .ok (.iconst 0, 1) := by decide +kernel
theorem dX3_addSlip_70 : decode cX3_addSlip 70 = .ok (.iastore, 1) := by decide +kernel
theorem dX3_addSlip_71 : decode cX3_addSlip 71 = .ok (.aload_n 0, 1) := by decide +kernel
theorem dX3_addSlip_72 : decode cX3_addSlip 72 = .ok (.dup, 1) := by decide +kernel
theorem dX3_addSlip_73 : decode cX3_addSlip 73 = .ok (.getfield 55, 3) := by decide +kernel
theorem dX3_addSlip_76 : decode cX3_addSlip 76 = .ok (.dup_x1, 1) := by decide +kernel
theorem dX3_addSlip_77 : decode cX3_addSlip 77 = .ok (.iconst 1, 1) := by decide +kernel
theorem dX3_addSlip_78 : decode cX3_addSlip 78 = .ok (.iadd, 1) := by decide +kernel
theorem dX3_addSlip_79 : decode cX3_addSlip 79 = .ok (.putfield 55, 3) := by decide +kernel
theorem dX3_addSlip_82 : decode cX3_addSlip 82 = .ok (.ireturn, 1) := by decide +kernel
theorem bX3_addSlip_0 {Z : ZT} {X : XT} {μ : Mu} {a0 : Nat} {a1 : Int32} {a2 : Int32} (E : Ent Z X mX3_addSlip 0 0) (ha0 : SH a0 = .inl 3) {p : Int32 → Mu → Prop} 
    (c : CtrS Z mX3_hasPlace [.ref (Z.2.2.1 + a0), .int a1] μ (rI p)) (k : ∀ v μ1, p v μ1 → JS Z X 5 [(0, .ref (Z.2.2.1 + a0)), (1, .int a1), (2, .int a2)] [.int v] μ1) :
    JS Z X 0 [(0, .ref (Z.2.2.1 + a0)), (1, .int a1), (2, .int a2)] [] μ := by
  refine J_aload_n E dX3_addSlip_0 rfl ?_
  refine J_iload_n E dX3_addSlip_1 rfl ?_
  refine S_callV (As := [.int a1]) (rest := []) E dX3_addSlip_2 c kX3_hasPlace ⟨Nat.le_of_ble_eq_true rfl, Nat.le_of_ble_eq_true rfl⟩ rfl (Nat.le_of_ble_eq_true rfl) ha0 rfl rfl w3_41 w3_42 w3_43 (fun r_ μ1 hp_ => ?_)
  obtain ⟨v, rfl, hp_⟩ := hp_
  exact k v μ1 hp_
theorem bX3_addSlip_5 {Z : ZT} {X : XT} {μ : Mu} {a0 : Nat} {a1 : Int32} {a2 : Int32} {s0 : Int32} (E : Ent Z X mX3_addSlip 0 0) (ha0 : SH a0 = .inl 3) 
    (kt : s0 = 0 → JS Z X 16 [] [] μ) (kf : ¬ (s0 = 0) → JS Z X 8 [(0, .ref (Z.2.2.1 + a0)), (1, .int a1), (2, .int a2)] [] μ) :
    JS Z X 5 [(0, .ref (Z.2.2.1 + a0)), (1, .int a1), (2, .int a2)] [.int s0] μ := by
  refine J_if_eq (tgt := 16) E dX3_addSlip_5 (by decide) (fun c => ?_) (fun c => ?_)
  · refine J.weak [] rfl ?_
    exact kt c
  · exact kf c
theorem bX3_addSlip_8 {Z : ZT} {X : XT} {μ : Mu} {a0 : Nat} {a1 : Int32} {a2 : Int32} (E : Ent Z X mX3_addSlip 0 0) (ha0 : SH a0 = .inl 3) {p : Int32 → Mu → Prop} 
    (c : CtrS Z mX11_within [.int a2, .int (nI 4)] μ (rI p)) (k : ∀ v μ1, p v μ1 → JS Z X 13 [(0, .ref (Z.2.2.1 + a0)), (1, .int a1), (2, .int a2)] [.int v] μ1) :
    JS Z X 8 [(0, .ref (Z.2.2.1 + a0)), (1, .int a1), (2, .int a2)] [] μ := by
  refine J_iload_n E dX3_addSlip_8 rfl ?_
  refine J_iconst (v := nI 4) E dX3_addSlip_9 rfl ?_
  refine S_callSN (As := [.int a2, .int (nI 4)]) (rest := []) E dX3_addSlip_10 c kX11_within ⟨Nat.le_of_ble_eq_true rfl, Nat.le_of_ble_eq_true rfl⟩ rfl (Nat.le_of_ble_eq_true rfl) w3_45 w3_46 (fun r_ μ1 hp_ => ?_)
  obtain ⟨v, rfl, hp_⟩ := hp_
  exact k v μ1 hp_
theorem bX3_addSlip_13 {Z : ZT} {X : XT} {μ : Mu} {a0 : Nat} {a1 : Int32} {a2 : Int32} {s0 : Int32} (E : Ent Z X mX3_addSlip 0 0) (ha0 : SH a0 = .inl 3) 
    (kt : ¬ s0 = 0 → JS Z X 19 [(0, .ref (Z.2.2.1 + a0)), (1, .int a1), (2, .int a2)] [] μ) (kf : s0 = 0 → JS Z X 16 [] [] μ) :
    JS Z X 13 [(0, .ref (Z.2.2.1 + a0)), (1, .int a1), (2, .int a2)] [.int s0] μ := by
  refine J_if_ne (tgt := 19) E dX3_addSlip_13 (by decide) (fun c => ?_) (fun c => ?_)
  · exact kt c
  · refine J.weak [] rfl ?_
    exact kf c
theorem bX3_addSlip_16 {Z : ZT} {X : XT} {μ : Mu} (E : Ent Z X mX3_addSlip 0 0) {P : Option Value → Mu → Prop} (hB : BodS Z X P) 
    (k : P (some (.int (-2))) μ) :
    JS Z X 16 [] [] μ := by
  refine J_bipush (v := -2) E dX3_addSlip_16 rfl ?_
  exact S_iret E hB dX3_addSlip_18 rfl k
theorem bX3_addSlip_19 {Z : ZT} {X : XT} {μ : Mu} {a0 : Nat} {a1 : Int32} {a2 : Int32} (E : Ent Z X mX3_addSlip 0 0) (ha0 : SH a0 = .inl 3) 
    (kt : (μ a0 8) < (nI 8) → JS Z X 31 [(0, .ref (Z.2.2.1 + a0)), (1, .int a1), (2, .int a2)] [] μ) (kf : ¬ ((μ a0 8) < (nI 8)) → JS Z X 28 [] [] μ) :
    JS Z X 19 [(0, .ref (Z.2.2.1 + a0)), (1, .int a1), (2, .int a2)] [] μ := by
  refine J_aload_n E dX3_addSlip_19 rfl ?_
  refine S_get (ci := 3) (q := 8) (v := .int (μ a0 8)) E dX3_addSlip_20 fs_X3_55 ha0 rfl ?_
  refine J_bipush (v := nI 8) E dX3_addSlip_23 rfl ?_
  refine J_icmp_lt (tgt := 31) E dX3_addSlip_25 (by decide) (fun c => ?_) (fun c => ?_)
  · exact kt c
  · refine J.weak [] rfl ?_
    exact kf c
theorem bX3_addSlip_28 {Z : ZT} {X : XT} {μ : Mu} (E : Ent Z X mX3_addSlip 0 0) {P : Option Value → Mu → Prop} (hB : BodS Z X P) 
    (k : P (some (.int (-4))) μ) :
    JS Z X 28 [] [] μ := by
  refine J_bipush (v := -4) E dX3_addSlip_28 rfl ?_
  exact S_iret E hB dX3_addSlip_30 rfl k
theorem bX3_addSlip_31 {Z : ZT} {X : XT} {μ : Mu} {a0 : Nat} {a1 : Int32} {a2 : Int32} (E : Ent Z X mX3_addSlip 0 0) (ha0 : SH a0 = .inl 3) (s1_ : vp_in (μ a0 8) 8)
    (k : JS Z X 41 [(0, .ref (Z.2.2.1 + a0)), (2, .int a2)] [] (uR μ (a0 + 7) (upd (μ (a0 + 7)) (ix (μ a0 8)) a1))) :
    JS Z X 31 [(0, .ref (Z.2.2.1 + a0)), (1, .int a1), (2, .int a2)] [] μ := by
  refine J_aload_n E dX3_addSlip_31 rfl ?_
  refine S_get (ci := 3) (q := 9) (v := .ref (Z.2.2.1 + (a0 + 7))) E dX3_addSlip_32 fs_X3_30 ha0 rfl ?_
  refine J_aload_n E dX3_addSlip_35 rfl ?_
  refine S_get (ci := 3) (q := 8) (v := .int (μ a0 8)) E dX3_addSlip_36 fs_X3_55 ha0 rfl ?_
  refine J_iload_n E dX3_addSlip_39 rfl ?_
  refine S_iast E dX3_addSlip_40 (shr_X3_9 ha0) s1_ ?_
  refine J.weak [0, 2] rfl ?_
  exact k
theorem bX3_addSlip_41 {Z : ZT} {X : XT} {μ : Mu} {a0 : Nat} {a2 : Int32} (E : Ent Z X mX3_addSlip 0 0) (ha0 : SH a0 = .inl 3) (s1_ : vp_in (μ a0 8) 8)
    (k : JS Z X 51 [(0, .ref (Z.2.2.1 + a0))] [] (uR μ (a0 + 8) (upd (μ (a0 + 8)) (ix (μ a0 8)) a2))) :
    JS Z X 41 [(0, .ref (Z.2.2.1 + a0)), (2, .int a2)] [] μ := by
  refine J_aload_n E dX3_addSlip_41 rfl ?_
  refine S_get (ci := 3) (q := 10) (v := .ref (Z.2.2.1 + (a0 + 8))) E dX3_addSlip_42 fs_X3_33 ha0 rfl ?_
  refine J_aload_n E dX3_addSlip_45 rfl ?_
  refine S_get (ci := 3) (q := 8) (v := .int (μ a0 8)) E dX3_addSlip_46 fs_X3_55 ha0 rfl ?_
  refine J_iload_n E dX3_addSlip_49 rfl ?_
  refine S_iast E dX3_addSlip_50 (shr_X3_10 ha0) s1_ ?_
  refine J.weak [0] rfl ?_
  exact k
theorem bX3_addSlip_51 {Z : ZT} {X : XT} {μ : Mu} {a0 : Nat} (E : Ent Z X mX3_addSlip 0 0) (ha0 : SH a0 = .inl 3) (s1_ : vp_in (μ a0 8) 8)
    (k : JS Z X 61 [(0, .ref (Z.2.2.1 + a0))] [] (uR μ (a0 + 9) (upd (μ (a0 + 9)) (ix (μ a0 8)) (nI 0)))) :
    JS Z X 51 [(0, .ref (Z.2.2.1 + a0))] [] μ := by
  refine J_aload_n E dX3_addSlip_51 rfl ?_
  refine S_get (ci := 3) (q := 11) (v := .ref (Z.2.2.1 + (a0 + 9))) E dX3_addSlip_52 fs_X3_36 ha0 rfl ?_
  refine J_aload_n E dX3_addSlip_55 rfl ?_
  refine S_get (ci := 3) (q := 8) (v := .int (μ a0 8)) E dX3_addSlip_56 fs_X3_55 ha0 rfl ?_
  refine J_iconst (v := nI 0) E dX3_addSlip_59 rfl ?_
  refine S_iast E dX3_addSlip_60 (shr_X3_11 ha0) s1_ ?_
  exact k
theorem bX3_addSlip_61 {Z : ZT} {X : XT} {μ : Mu} {a0 : Nat} (E : Ent Z X mX3_addSlip 0 0) (ha0 : SH a0 = .inl 3) (s1_ : vp_in (μ a0 8) 8)
    (k : JS Z X 71 [(0, .ref (Z.2.2.1 + a0))] [] (uR μ (a0 + 10) (upd (μ (a0 + 10)) (ix (μ a0 8)) (nI 0)))) :
    JS Z X 61 [(0, .ref (Z.2.2.1 + a0))] [] μ := by
  refine J_aload_n E dX3_addSlip_61 rfl ?_
  refine S_get (ci := 3) (q := 12) (v := .ref (Z.2.2.1 + (a0 + 10))) E dX3_addSlip_62 fs_X3_39 ha0 rfl ?_
  refine J_aload_n E dX3_addSlip_65 rfl ?_
  refine S_get (ci := 3) (q := 8) (v := .int (μ a0 8)) E dX3_addSlip_66 fs_X3_55 ha0 rfl ?_
  refine J_iconst (v := nI 0) E dX3_addSlip_69 rfl ?_
  refine S_iast E dX3_addSlip_70 (shr_X3_12 ha0) s1_ ?_
  exact k
theorem bX3_addSlip_71 {Z : ZT} {X : XT} {μ : Mu} {a0 : Nat} (E : Ent Z X mX3_addSlip 0 0) (ha0 : SH a0 = .inl 3) 
    (k : JS Z X 82 [] [.int (μ a0 8)] (uR μ a0 (upd (μ a0) 8 ((μ a0 8) + (nI 1))))) :
    JS Z X 71 [(0, .ref (Z.2.2.1 + a0))] [] μ := by
  refine J_aload_n E dX3_addSlip_71 rfl ?_
  refine J_dup E dX3_addSlip_72 rfl ?_
  refine S_get (ci := 3) (q := 8) (v := .int (μ a0 8)) E dX3_addSlip_73 fs_X3_55 ha0 rfl ?_
  refine J_dup_x1 E dX3_addSlip_76 rfl rfl ?_
  refine J_iconst (v := nI 1) E dX3_addSlip_77 rfl ?_
  refine J_iadd E dX3_addSlip_78 ?_
  refine S_puti E dX3_addSlip_79 fs_X3_55 fp_X3_8 ha0 rfl ?_
  refine J.weak [] rfl ?_
  exact k
theorem bX3_addSlip_82 {Z : ZT} {X : XT} {μ : Mu} {s0 : Int32} (E : Ent Z X mX3_addSlip 0 0) {P : Option Value → Mu → Prop} (hB : BodS Z X P) 
    (k : P (some (.int s0)) μ) :
    JS Z X 82 [] [.int s0] μ := by
  exact S_iret E hB dX3_addSlip_82 rfl k
theorem dX3_setSpare_0 : decode cX3_setSpare 0 = .ok (.iload_n 1, 1) := by decide +kernel
theorem dX3_setSpare_1 : decode cX3_setSpare 1 = .ok (.aload_n 0, 1) := by decide +kernel
theorem dX3_setSpare_2 : decode cX3_setSpare 2 = .ok (.getfield 55, 3) := by decide +kernel
theorem dX3_setSpare_5 : decode cX3_setSpare 5 = .ok (.invokestatic 80, 3) := by decide +kernel
theorem dX3_setSpare_8 : decode cX3_setSpare 8 = .ok (.ifCond .ne 6, 3) := by decide +kernel
theorem dX3_setSpare_11 : decode cX3_setSpare 11 = .ok (.bipush (-2), 2) := by decide +kernel
theorem dX3_setSpare_13 : decode cX3_setSpare 13 = .ok (.ireturn, 1) := by decide +kernel
theorem dX3_setSpare_14 : decode cX3_setSpare 14 = .ok (.aload_n 0, 1) := by decide +kernel
theorem dX3_setSpare_15 : decode cX3_setSpare 15 = .ok (.getfield 36, 3) := by decide +kernel
theorem dX3_setSpare_18 : decode cX3_setSpare 18 = .ok (.iload_n 1, 1) := by decide +kernel
theorem dX3_setSpare_19 : decode cX3_setSpare 19 = .ok (.iaload, 1) := by decide +kernel
theorem dX3_setSpare_20 : decode cX3_setSpare 20 = .ok (.iconst 1, 1) := by decide +kernel
theorem dX3_setSpare_21 : decode cX3_setSpare 21 = .ok (.if_icmp .ne 6, 3) := by decide +kernel
theorem dX3_setSpare_24 : decode cX3_setSpare 24 = .ok (.bipush (-3), 2) := by decide +kernel
theorem dX3_setSpare_26 : decode cX3_setSpare 26 = .ok (.ireturn, 1) := by decide +kernel
theorem dX3_setSpare_27 : decode cX3_setSpare 27 = .ok (.aload_n 0, 1) := by decide +kernel
theorem dX3_setSpare_28 : decode cX3_setSpare 28 = .ok (.getfield 36, 3) := by decide +kernel
theorem dX3_setSpare_31 : decode cX3_setSpare 31 = .ok (.iload_n 1, 1) := by decide +kernel
theorem dX3_setSpare_32 : decode cX3_setSpare 32 = .ok (.iconst 1, 1) := by decide +kernel
theorem dX3_setSpare_33 : decode cX3_setSpare 33 = .ok (.iastore, 1) := by decide +kernel
theorem dX3_setSpare_34 : decode cX3_setSpare 34 = .ok (.iconst 1, 1) := by decide +kernel
theorem dX3_setSpare_35 : decode cX3_setSpare 35 = .ok (.ireturn, 1) := by decide +kernel
theorem bX3_setSpare_0 {Z : ZT} {X : XT} {μ : Mu} {a0 : Nat} {a1 : Int32} (E : Ent Z X mX3_setSpare 0 0) (ha0 : SH a0 = .inl 3) {p : Int32 → Mu → Prop} 
    (c : CtrS Z mX11_within [.int a1, .int (μ a0 8)] μ (rI p)) (k : ∀ v μ1, p v μ1 → JS Z X 8 [(0, .ref (Z.2.2.1 + a0)), (1, .int a1)] [.int v] μ1) :
    JS Z X 0 [(0, .ref (Z.2.2.1 + a0)), (1, .int a1)] [] μ := by
  refine J_iload_n E dX3_setSpare_0 rfl ?_
  refine J_aload_n E dX3_setSpare_1 rfl ?_
  refine S_get (ci := 3) (q := 8) (v := .int (μ a0 8)) E dX3_setSpare_2 fs_X3_55 ha0 rfl ?_
  refine S_callSN (As := [.int a1, .int (μ a0 8)]) (rest := []) E dX3_setSpare_5 c kX11_within ⟨Nat.le_of_ble_eq_true rfl, Nat.le_of_ble_eq_true rfl⟩ rfl (Nat.le_of_ble_eq_true rfl) w3_45 w3_46 (fun r_ μ1 hp_ => ?_)
  obtain ⟨v, rfl, hp_⟩ := hp_
  exact k v μ1 hp_
theorem bX3_setSpare_8 {Z : ZT} {X : XT} {μ : Mu} {a0 : Nat} {a1 : Int32} {s0 : Int32} (E : Ent Z X mX3_setSpare 0 0) (ha0 : SH a0 = .inl 3) 
    (kt : ¬ s0 = 0 → JS Z X 14 [(0, .ref (Z.2.2.1 + a0)), (1, .int a1)] [] μ) (kf : s0 = 0 → JS Z X 11 [] [] μ) :
    JS Z X 8 [(0, .ref (Z.2.2.1 + a0)), (1, .int a1)] [.int s0] μ := by
  refine J_if_ne (tgt := 14) E dX3_setSpare_8 (by decide) (fun c => ?_) (fun c => ?_)
  · exact kt c
  · refine J.weak [] rfl ?_
    exact kf c
theorem bX3_setSpare_11 {Z : ZT} {X : XT} {μ : Mu} (E : Ent Z X mX3_setSpare 0 0) {P : Option Value → Mu → Prop} (hB : BodS Z X P) 
    (k : P (some (.int (-2))) μ) :
    JS Z X 11 [] [] μ := by
  refine J_bipush (v := -2) E dX3_setSpare_11 rfl ?_
  exact S_iret E hB dX3_setSpare_13 rfl k
theorem bX3_setSpare_14 {Z : ZT} {X : XT} {μ : Mu} {a0 : Nat} {a1 : Int32} (E : Ent Z X mX3_setSpare 0 0) (ha0 : SH a0 = .inl 3) (s1_ : vp_in a1 8)
    (kt : ¬ (μ (a0 + 9) (ix a1)) = (nI 1) → JS Z X 27 [(0, .ref (Z.2.2.1 + a0)), (1, .int a1)] [] μ) (kf : (μ (a0 + 9) (ix a1)) = (nI 1) → JS Z X 24 [] [] μ) :
    JS Z X 14 [(0, .ref (Z.2.2.1 + a0)), (1, .int a1)] [] μ := by
  refine J_aload_n E dX3_setSpare_14 rfl ?_
  refine S_get (ci := 3) (q := 11) (v := .ref (Z.2.2.1 + (a0 + 9))) E dX3_setSpare_15 fs_X3_36 ha0 rfl ?_
  refine J_iload_n E dX3_setSpare_18 rfl ?_
  refine S_iald E dX3_setSpare_19 (shr_X3_11 ha0) s1_ ?_
  refine J_iconst (v := nI 1) E dX3_setSpare_20 rfl ?_
  refine J_icmp_ne (tgt := 27) E dX3_setSpare_21 (by decide) (fun c => ?_) (fun c => ?_)
  · exact kt c
  · refine J.weak [] rfl ?_
    exact kf c
theorem bX3_setSpare_24 {Z : ZT} {X : XT} {μ : Mu} (E : Ent Z X mX3_setSpare 0 0) {P : Option Value → Mu → Prop} (hB : BodS Z X P) 
    (k : P (some (.int (-3))) μ) :
    JS Z X 24 [] [] μ := by
  refine J_bipush (v := -3) E dX3_setSpare_24 rfl ?_
  exact S_iret E hB dX3_setSpare_26 rfl k
theorem bX3_setSpare_27 {Z : ZT} {X : XT} {μ : Mu} {a0 : Nat} {a1 : Int32} (E : Ent Z X mX3_setSpare 0 0) (ha0 : SH a0 = .inl 3) (s1_ : vp_in a1 8)
    (k : JS Z X 34 [] [] (uR μ (a0 + 9) (upd (μ (a0 + 9)) (ix a1) (nI 1)))) :
    JS Z X 27 [(0, .ref (Z.2.2.1 + a0)), (1, .int a1)] [] μ := by
  refine J_aload_n E dX3_setSpare_27 rfl ?_
  refine S_get (ci := 3) (q := 11) (v := .ref (Z.2.2.1 + (a0 + 9))) E dX3_setSpare_28 fs_X3_36 ha0 rfl ?_
  refine J_iload_n E dX3_setSpare_31 rfl ?_
  refine J_iconst (v := nI 1) E dX3_setSpare_32 rfl ?_
  refine S_iast E dX3_setSpare_33 (shr_X3_11 ha0) s1_ ?_
  refine J.weak [] rfl ?_
  exact k
theorem bX3_setSpare_34 {Z : ZT} {X : XT} {μ : Mu} (E : Ent Z X mX3_setSpare 0 0) {P : Option Value → Mu → Prop} (hB : BodS Z X P) 
    (k : P (some (.int (nI 1))) μ) :
    JS Z X 34 [] [] μ := by
  refine J_iconst (v := nI 1) E dX3_setSpare_34 rfl ?_
  exact S_iret E hB dX3_setSpare_35 rfl k
theorem dX3_addMistaken_0 : decode cX3_addMistaken 0 = .ok (.iload_n 1, 1) := by decide +kernel
theorem dX3_addMistaken_1 : decode cX3_addMistaken 1 = .ok (.aload_n 0, 1) := by decide +kernel
theorem dX3_addMistaken_2 : decode cX3_addMistaken 2 = .ok (.getfield 55, 3) := by decide +kernel
theorem dX3_addMistaken_5 : decode cX3_addMistaken 5 = .ok (.invokestatic 80, 3) := by decide +kernel
theorem dX3_addMistaken_8 : decode cX3_addMistaken 8 = .ok (.ifCond .eq 11, 3) := by decide +kernel
theorem dX3_addMistaken_11 : decode cX3_addMistaken 11 = .ok (.aload_n 0, 1) := by decide +kernel
theorem dX3_addMistaken_12 : decode cX3_addMistaken 12 = .ok (.iload_n 2, 1) := by decide +kernel
theorem dX3_addMistaken_13 : decode cX3_addMistaken 13 = .ok (.invokevirtual 84, 3) := by decide +kernel
theorem dX3_addMistaken_16 : decode cX3_addMistaken 16 = .ok (.ifCond .ne 6, 3) := by decide +kernel
theorem dX3_addMistaken_19 : decode cX3_addMistaken 19 = .ok (.bipush (-2), 2) := by decide +kernel
theorem dX3_addMistaken_21 : decode cX3_addMistaken 21 = .ok (.ireturn, 1) := by decide +kernel
theorem dX3_addMistaken_22 : decode cX3_addMistaken 22 = .ok (.aload_n 0, 1) := by decide +kernel
theorem dX3_addMistaken_23 : decode cX3_addMistaken 23 = .ok (.getfield 39, 3) := by decide +kernel
theorem dX3_addMistaken_26 : decode cX3_addMistaken 26 = .ok (.iload_n 1, 1) := by decide +kernel
theorem dX3_addMistaken_27 : decode cX3_addMistaken 27 = .ok (.iaload, 1) := by decide +kernel
theorem dX3_addMistaken_28 : decode cX3_addMistaken 28 = .ok (.iload_n 2, 1) := by decide +kernel
theorem dX3_addMistaken_29 : decode cX3_addMistaken 29 = .ok (.ishr, 1) := by decide +kernel
theorem dX3_addMistaken_30 : decode cX3_addMistaken 30 = .ok (.iconst 1, 1) := by decide +kernel
theorem dX3_addMistaken_31 : decode cX3_addMistaken 31 = .ok (.iand, 1) := by decide +kernel
theorem dX3_addMistaken_32 : decode cX3_addMistaken 32 = .ok (.iconst 1, 1) := by decide +kernel
theorem dX3_addMistaken_33 : decode cX3_addMistaken 33 = .ok (.if_icmp .ne 6, 3) := by decide +kernel
theorem dX3_addMistaken_36 : decode cX3_addMistaken 36 = .ok (.bipush (-3), 2) := by decide +kernel
theorem dX3_addMistaken_38 : decode cX3_addMistaken 38 = .ok (.ireturn, 1) := by decide +kernel
theorem dX3_addMistaken_39 : decode cX3_addMistaken 39 = .ok (.aload_n 0, 1) := by decide +kernel
theorem dX3_addMistaken_40 : decode cX3_addMistaken 40 = .ok (.getfield 39, 3) := by decide +kernel
theorem dX3_addMistaken_43 : decode cX3_addMistaken 43 = .ok (.iload_n 1, 1) := by decide +kernel
theorem dX3_addMistaken_44 : decode cX3_addMistaken 44 = .ok (.dup2, 1) := by decide +kernel
theorem dX3_addMistaken_45 : decode cX3_addMistaken 45 = .ok (.iaload, 1) := by decide +kernel
theorem dX3_addMistaken_46 : decode cX3_addMistaken 46 = .ok (.iconst 1, 1) := by decide +kernel
theorem dX3_addMistaken_47 : decode cX3_addMistaken 47 = .ok (.iload_n 2, 1) := by decide +kernel
theorem dX3_addMistaken_48 : decode cX3_addMistaken 48 = .ok (.ishl, 1) := by decide +kernel
theorem dX3_addMistaken_49 : decode cX3_addMistaken 49 = .ok (.ior, 1) := by decide +kernel
theorem dX3_addMistaken_50 : decode cX3_addMistaken 50 = .ok (.iastore, 1) := by decide +kernel
theorem dX3_addMistaken_51 : decode cX3_addMistaken 51 = .ok (.iconst 1, 1) := by decide +kernel
theorem dX3_addMistaken_52 : decode cX3_addMistaken 52 = .ok (.ireturn, 1) := by decide +kernel
theorem bX3_addMistaken_0 {Z : ZT} {X : XT} {μ : Mu} {a0 : Nat} {a1 : Int32} {a2 : Int32} (E : Ent Z X mX3_addMistaken 0 0) (ha0 : SH a0 = .inl 3) {p : Int32 → Mu → Prop} 
    (c : CtrS Z mX11_within [.int a1, .int (μ a0 8)] μ (rI p)) (k : ∀ v μ1, p v μ1 → JS Z X 8 [(0, .ref (Z.2.2.1 + a0)), (1, .int a1), (2, .int a2)] [.int v] μ1) :
    JS Z X 0 [(0, .ref (Z.2.2.1 + a0)), (1, .int a1), (2, .int a2)] [] μ := by
  refine J_iload_n E dX3_addMistaken_0 rfl ?_
  refine J_aload_n E dX3_addMistaken_1 rfl ?_
  refine S_get (ci := 3) (q := 8) (v := .int (μ a0 8)) E dX3_addMistaken_2 fs_X3_55 ha0 rfl ?_
  refine S_callSN (As := [.int a1, .int (μ a0 8)]) (rest := []) E dX3_addMistaken_5 c kX11_within ⟨Nat.le_of_ble_eq_true rfl, Nat.le_of_ble_eq_true rfl⟩ rfl (Nat.le_of_ble_eq_true rfl) w3_45 w3_46 (fun r_ μ1 hp_ => ?_)
  obtain ⟨v, rfl, hp_⟩ := hp_
  exact k v μ1 hp_
theorem bX3_addMistaken_8 {Z : ZT} {X : XT} {μ : Mu} {a0 : Nat} {a1 : Int32} {a2 : Int32} {s0 : Int32} (E : Ent Z X mX3_addMistaken 0 0) (ha0 : SH a0 = .inl 3) 
    (kt : s0 = 0 → JS Z X 19 [] [] μ) (kf : ¬ (s0 = 0) → JS Z X 11 [(0, .ref (Z.2.2.1 + a0)), (1, .int a1), (2, .int a2)] [] μ) :
    JS Z X 8 [(0, .ref (Z.2.2.1 + a0)), (1, .int a1), (2, .int a2)] [.int s0] μ := by
  refine J_if_eq (tgt := 19) E dX3_addMistaken_8 (by decide) (fun c => ?_) (fun c => ?_)
  · refine J.weak [] rfl ?_
    exact kt c
  · exact kf c
theorem bX3_addMistaken_11 {Z : ZT} {X : XT} {μ : Mu} {a0 : Nat} {a1 : Int32} {a2 : Int32} (E : Ent Z X mX3_addMistaken 0 0) (ha0 : SH a0 = .inl 3) {p : Int32 → Mu → Prop} 
    (c : CtrS Z mX3_hasPlace [.ref (Z.2.2.1 + a0), .int a2] μ (rI p)) (k : ∀ v μ1, p v μ1 → JS Z X 16 [(0, .ref (Z.2.2.1 + a0)), (1, .int a1), (2, .int a2)] [.int v] μ1) :
    JS Z X 11 [(0, .ref (Z.2.2.1 + a0)), (1, .int a1), (2, .int a2)] [] μ := by
  refine J_aload_n E dX3_addMistaken_11 rfl ?_
  refine J_iload_n E dX3_addMistaken_12 rfl ?_
  refine S_callV (As := [.int a2]) (rest := []) E dX3_addMistaken_13 c kX3_hasPlace ⟨Nat.le_of_ble_eq_true rfl, Nat.le_of_ble_eq_true rfl⟩ rfl (Nat.le_of_ble_eq_true rfl) ha0 rfl rfl w3_41 w3_42 w3_43 (fun r_ μ1 hp_ => ?_)
  obtain ⟨v, rfl, hp_⟩ := hp_
  exact k v μ1 hp_
theorem bX3_addMistaken_16 {Z : ZT} {X : XT} {μ : Mu} {a0 : Nat} {a1 : Int32} {a2 : Int32} {s0 : Int32} (E : Ent Z X mX3_addMistaken 0 0) (ha0 : SH a0 = .inl 3) 
    (kt : ¬ s0 = 0 → JS Z X 22 [(0, .ref (Z.2.2.1 + a0)), (1, .int a1), (2, .int a2)] [] μ) (kf : s0 = 0 → JS Z X 19 [] [] μ) :
    JS Z X 16 [(0, .ref (Z.2.2.1 + a0)), (1, .int a1), (2, .int a2)] [.int s0] μ := by
  refine J_if_ne (tgt := 22) E dX3_addMistaken_16 (by decide) (fun c => ?_) (fun c => ?_)
  · exact kt c
  · refine J.weak [] rfl ?_
    exact kf c
theorem bX3_addMistaken_19 {Z : ZT} {X : XT} {μ : Mu} (E : Ent Z X mX3_addMistaken 0 0) {P : Option Value → Mu → Prop} (hB : BodS Z X P) 
    (k : P (some (.int (-2))) μ) :
    JS Z X 19 [] [] μ := by
  refine J_bipush (v := -2) E dX3_addMistaken_19 rfl ?_
  exact S_iret E hB dX3_addMistaken_21 rfl k
theorem bX3_addMistaken_22 {Z : ZT} {X : XT} {μ : Mu} {a0 : Nat} {a1 : Int32} {a2 : Int32} (E : Ent Z X mX3_addMistaken 0 0) (ha0 : SH a0 = .inl 3) (s1_ : vp_in a1 8)
    (kt : ¬ (((μ (a0 + 10) (ix a1)) >>> (a2 &&& 31)) &&& (nI 1)) = (nI 1) → JS Z X 39 [(0, .ref (Z.2.2.1 + a0)), (1, .int a1), (2, .int a2)] [] μ) (kf : (((μ (a0 + 10) (ix a1)) >>> (a2 &&& 31)) &&& (nI 1)) = (nI 1) → JS Z X 36 [] [] μ) :
    JS Z X 22 [(0, .ref (Z.2.2.1 + a0)), (1, .int a1), (2, .int a2)] [] μ := by
  refine J_aload_n E dX3_addMistaken_22 rfl ?_
  refine S_get (ci := 3) (q := 12) (v := .ref (Z.2.2.1 + (a0 + 10))) E dX3_addMistaken_23 fs_X3_39 ha0 rfl ?_
  refine J_iload_n E dX3_addMistaken_26 rfl ?_
  refine S_iald E dX3_addMistaken_27 (shr_X3_12 ha0) s1_ ?_
  refine J_iload_n E dX3_addMistaken_28 rfl ?_
  refine J_ishr E dX3_addMistaken_29 ?_
  refine J_iconst (v := nI 1) E dX3_addMistaken_30 rfl ?_
  refine J_iand E dX3_addMistaken_31 ?_
  refine J_iconst (v := nI 1) E dX3_addMistaken_32 rfl ?_
  refine J_icmp_ne (tgt := 39) E dX3_addMistaken_33 (by decide) (fun c => ?_) (fun c => ?_)
  · exact kt c
  · refine J.weak [] rfl ?_
    exact kf c
theorem bX3_addMistaken_36 {Z : ZT} {X : XT} {μ : Mu} (E : Ent Z X mX3_addMistaken 0 0) {P : Option Value → Mu → Prop} (hB : BodS Z X P) 
    (k : P (some (.int (-3))) μ) :
    JS Z X 36 [] [] μ := by
  refine J_bipush (v := -3) E dX3_addMistaken_36 rfl ?_
  exact S_iret E hB dX3_addMistaken_38 rfl k
theorem bX3_addMistaken_39 {Z : ZT} {X : XT} {μ : Mu} {a0 : Nat} {a1 : Int32} {a2 : Int32} (E : Ent Z X mX3_addMistaken 0 0) (ha0 : SH a0 = .inl 3) (s1_ : vp_in a1 8) (s2_ : vp_in a1 8)
    (k : JS Z X 51 [] [] (uR μ (a0 + 10) (upd (μ (a0 + 10)) (ix a1) ((μ (a0 + 10) (ix a1)) ||| ((nI 1) <<< (a2 &&& 31)))))) :
    JS Z X 39 [(0, .ref (Z.2.2.1 + a0)), (1, .int a1), (2, .int a2)] [] μ := by
  refine J_aload_n E dX3_addMistaken_39 rfl ?_
  refine S_get (ci := 3) (q := 12) (v := .ref (Z.2.2.1 + (a0 + 10))) E dX3_addMistaken_40 fs_X3_39 ha0 rfl ?_
  refine J_iload_n E dX3_addMistaken_43 rfl ?_
  refine J_dup2_11 E dX3_addMistaken_44 rfl rfl ?_
  refine S_iald E dX3_addMistaken_45 (shr_X3_12 ha0) s1_ ?_
  refine J_iconst (v := nI 1) E dX3_addMistaken_46 rfl ?_
  refine J_iload_n E dX3_addMistaken_47 rfl ?_
  refine J_ishl E dX3_addMistaken_48 ?_
  refine J_ior E dX3_addMistaken_49 ?_
  refine S_iast E dX3_addMistaken_50 (shr_X3_12 ha0) s2_ ?_
  refine J.weak [] rfl ?_
  exact k
theorem bX3_addMistaken_51 {Z : ZT} {X : XT} {μ : Mu} (E : Ent Z X mX3_addMistaken 0 0) {P : Option Value → Mu → Prop} (hB : BodS Z X P) 
    (k : P (some (.int (nI 1))) μ) :
    JS Z X 51 [] [] μ := by
  refine J_iconst (v := nI 1) E dX3_addMistaken_51 rfl ?_
  exact S_iret E hB dX3_addMistaken_52 rfl k
theorem dX3_addToRow_0 : decode cX3_addToRow 0 = .ok (.iload_n 1, 1) := by decide +kernel
theorem dX3_addToRow_1 : decode cX3_addToRow 1 = .ok (.iconst 2, 1) := by decide +kernel
theorem dX3_addToRow_2 : decode cX3_addToRow 2 = .ok (.invokestatic 80, 3) := by decide +kernel
theorem dX3_addToRow_5 : decode cX3_addToRow 5 = .ok (.ifCond .eq 14, 3) := by decide +kernel
theorem dX3_addToRow_8 : decode cX3_addToRow 8 = .ok (.iload_n 2, 1) := by decide +kernel
theorem dX3_addToRow_9 : decode cX3_addToRow 9 = .ok (.aload_n 0, 1) := by decide +kernel
theorem dX3_addToRow_10 : decode cX3_addToRow 10 = .ok (.getfield 55, 3) := by decide +kernel
theorem dX3_addToRow_13 : decode cX3_addToRow 13 = .ok (.invokestatic 80, 3) := by decide +kernel
theorem dX3_addToRow_16 : decode cX3_addToRow 16 = .ok (.ifCond .ne 6, 3) := by decide +kernel
theorem dX3_addToRow_19 : decode cX3_addToRow 19 = .ok (.bipush (-2), 2) := by decide +kernel
theorem dX3_addToRow_21 : decode cX3_addToRow 21 = .ok (.ireturn, 1) := by decide +kernel
theorem dX3_addToRow_22 : decode cX3_addToRow 22 = .ok (.aload_n 0, 1) := by decide +kernel
theorem dX3_addToRow_23 : decode cX3_addToRow 23 = .ok (.getfield 42, 3) := by decide +kernel
theorem dX3_addToRow_26 : decode cX3_addToRow 26 = .ok (.iload_n 1, 1) := by decide +kernel
theorem dX3_addToRow_27 : decode cX3_addToRow 27 = .ok (.iaload, 1) := by decide +kernel
theorem dX3_addToRow_28 : decode cX3_addToRow 28 = .ok (.istore_n 3, 1) := by decide +kernel
theorem dX3_addToRow_29 : decode cX3_addToRow 29 = .ok (.iconst 0, 1) := by decide +kernel
theorem dX3_addToRow_30 : decode cX3_addToRow 30 = .ok (.istore 4, 2) := by decide +kernel
theorem dX3_addToRow_32 : decode cX3_addToRow 32 = .ok (.iload 4, 2) := by decide +kernel
theorem dX3_addToRow_34 : decode cX3_addToRow 34 = .ok (.iload_n 3, 1) := by decide +kernel
theorem dX3_addToRow_35 : decode cX3_addToRow 35 = .ok (.if_icmp .ge 28, 3) := by decide +kernel
theorem dX3_addToRow_38 : decode cX3_addToRow 38 = .ok (.aload_n 0, 1) := by decide +kernel
theorem dX3_addToRow_39 : decode cX3_addToRow 39 = .ok (.getfield 45, 3) := by decide +kernel
theorem dX3_addToRow_42 : decode cX3_addToRow 42 = .ok (.iload_n 1, 1) := by decide +kernel
theorem dX3_addToRow_43 : decode cX3_addToRow 43 = .ok (.bipush 6, 2) := by decide +kernel
theorem dX3_addToRow_45 : decode cX3_addToRow 45 = .ok (.imul, 1) := by decide +kernel
theorem dX3_addToRow_46 : decode cX3_addToRow 46 = .ok (.iload 4, 2) := by decide +kernel
theorem dX3_addToRow_48 : decode cX3_addToRow 48 = .ok (.iadd, 1) := by decide +kernel
theorem dX3_addToRow_49 : decode cX3_addToRow 49 = .ok (.iaload, 1) := by decide +kernel
theorem dX3_addToRow_50 : decode cX3_addToRow 50 = .ok (.iload_n 2, 1) := by decide +kernel
theorem dX3_addToRow_51 : decode cX3_addToRow 51 = .ok (.if_icmp .ne 6, 3) := by decide +kernel
theorem dX3_addToRow_54 : decode cX3_addToRow 54 = .ok (.bipush (-3), 2) := by decide +kernel
theorem dX3_addToRow_56 : decode cX3_addToRow 56 = .ok (.ireturn, 1) := by decide +kernel
theorem dX3_addToRow_57 : decode cX3_addToRow 57 = .ok (.iinc 4 1, 3) := by decide +kernel
theorem dX3_addToRow_60 : decode cX3_addToRow 60 = .ok (.goto (-28), 3) := by decide +kernel
theorem dX3_addToRow_63 : decode cX3_addToRow 63 = .ok (.iload_n 3, 1) := by decide +kernel
theorem dX3_addToRow_64 : decode cX3_addToRow 64 = .ok (.bipush 6, 2) := by decide +kernel
theorem dX3_addToRow_66 : decode cX3_addToRow 66 = .ok (.if_icmp .lt 6, 3) := by decide +kernel
theorem dX3_addToRow_69 : decode cX3_addToRow 69 = .ok (.bipush (-4), 2) := by decide +kernel
theorem dX3_addToRow_71 : decode cX3_addToRow 71 = .ok (.ireturn, 1) := by decide +kernel
theorem dX3_addToRow_72 : decode cX3_addToRow 72 = .ok (.aload_n 0, 1) := by decide +kernel
theorem dX3_addToRow_73 : decode cX3_addToRow 73 = .ok (.getfield 45, 3) := by decide +kernel
theorem dX3_addToRow_76 : decode cX3_addToRow 76 = .ok (.iload_n 1, 1) := by decide +kernel
theorem dX3_addToRow_77 : decode cX3_addToRow 77 = .ok (.bipush 6, 2) := by decide +kernel
theorem dX3_addToRow_79 : decode cX3_addToRow 79 = .ok (.imul, 1) := by decide +kernel
theorem dX3_addToRow_80 : decode cX3_addToRow 80 = .ok (.iload_n 3, 1) := by decide +kernel
theorem dX3_addToRow_81 : decode cX3_addToRow 81 = .ok (.iadd, 1) := by decide +kernel
theorem dX3_addToRow_82 : decode cX3_addToRow 82 = .ok (.iload_n 2, 1) := by decide +kernel
theorem dX3_addToRow_83 : decode cX3_addToRow 83 = .ok (.iastore, 1) := by decide +kernel
theorem dX3_addToRow_84 : decode cX3_addToRow 84 = .ok (.aload_n 0, 1) := by decide +kernel
theorem dX3_addToRow_85 : decode cX3_addToRow 85 = .ok (.getfield 42, 3) := by decide +kernel
theorem dX3_addToRow_88 : decode cX3_addToRow 88 = .ok (.iload_n 1, 1) := by decide +kernel
theorem dX3_addToRow_89 : decode cX3_addToRow 89 = .ok (.iload_n 3, 1) := by decide +kernel
theorem dX3_addToRow_90 : decode cX3_addToRow 90 = .ok (.iconst 1, 1) := by decide +kernel
theorem dX3_addToRow_91 : decode cX3_addToRow 91 = .ok (.iadd, 1) := by decide +kernel
theorem dX3_addToRow_92 : decode cX3_addToRow 92 = .ok (.iastore, 1) := by decide +kernel
theorem dX3_addToRow_93 : decode cX3_addToRow 93 = .ok (.iload_n 3, 1) := by decide +kernel
theorem dX3_addToRow_94 : decode cX3_addToRow 94 = .ok (.iconst 1, 1) := by decide +kernel
theorem dX3_addToRow_95 : decode cX3_addToRow 95 = .ok (.iadd, 1) := by decide +kernel
theorem dX3_addToRow_96 : decode cX3_addToRow 96 = .ok (.ireturn, 1) := by decide +kernel
theorem bX3_addToRow_0 {Z : ZT} {X : XT} {μ : Mu} {a0 : Nat} {a1 : Int32} {a2 : Int32} (E : Ent Z X mX3_addToRow 0 0) (ha0 : SH a0 = .inl 3) {p : Int32 → Mu → Prop} 
    (c : CtrS Z mX11_within [.int a1, .int (nI 2)] μ (rI p)) (k : ∀ v μ1, p v μ1 → JS Z X 5 [(0, .ref (Z.2.2.1 + a0)), (1, .int a1), (2, .int a2)] [.int v] μ1) :
    JS Z X 0 [(0, .ref (Z.2.2.1 + a0)), (1, .int a1), (2, .int a2)] [] μ := by
  refine J_iload_n E dX3_addToRow_0 rfl ?_
  refine J_iconst (v := nI 2) E dX3_addToRow_1 rfl ?_
  refine S_callSN (As := [.int a1, .int (nI 2)]) (rest := []) E dX3_addToRow_2 c kX11_within ⟨Nat.le_of_ble_eq_true rfl, Nat.le_of_ble_eq_true rfl⟩ rfl (Nat.le_of_ble_eq_true rfl) w3_45 w3_46 (fun r_ μ1 hp_ => ?_)
  obtain ⟨v, rfl, hp_⟩ := hp_
  exact k v μ1 hp_
theorem bX3_addToRow_5 {Z : ZT} {X : XT} {μ : Mu} {a0 : Nat} {a1 : Int32} {a2 : Int32} {s0 : Int32} (E : Ent Z X mX3_addToRow 0 0) (ha0 : SH a0 = .inl 3) 
    (kt : s0 = 0 → JS Z X 19 [] [] μ) (kf : ¬ (s0 = 0) → JS Z X 8 [(0, .ref (Z.2.2.1 + a0)), (1, .int a1), (2, .int a2)] [] μ) :
    JS Z X 5 [(0, .ref (Z.2.2.1 + a0)), (1, .int a1), (2, .int a2)] [.int s0] μ := by
  refine J_if_eq (tgt := 19) E dX3_addToRow_5 (by decide) (fun c => ?_) (fun c => ?_)
  · refine J.weak [] rfl ?_
    exact kt c
  · exact kf c
theorem bX3_addToRow_8 {Z : ZT} {X : XT} {μ : Mu} {a0 : Nat} {a1 : Int32} {a2 : Int32} (E : Ent Z X mX3_addToRow 0 0) (ha0 : SH a0 = .inl 3) {p : Int32 → Mu → Prop} 
    (c : CtrS Z mX11_within [.int a2, .int (μ a0 8)] μ (rI p)) (k : ∀ v μ1, p v μ1 → JS Z X 16 [(0, .ref (Z.2.2.1 + a0)), (1, .int a1), (2, .int a2)] [.int v] μ1) :
    JS Z X 8 [(0, .ref (Z.2.2.1 + a0)), (1, .int a1), (2, .int a2)] [] μ := by
  refine J_iload_n E dX3_addToRow_8 rfl ?_
  refine J_aload_n E dX3_addToRow_9 rfl ?_
  refine S_get (ci := 3) (q := 8) (v := .int (μ a0 8)) E dX3_addToRow_10 fs_X3_55 ha0 rfl ?_
  refine S_callSN (As := [.int a2, .int (μ a0 8)]) (rest := []) E dX3_addToRow_13 c kX11_within ⟨Nat.le_of_ble_eq_true rfl, Nat.le_of_ble_eq_true rfl⟩ rfl (Nat.le_of_ble_eq_true rfl) w3_45 w3_46 (fun r_ μ1 hp_ => ?_)
  obtain ⟨v, rfl, hp_⟩ := hp_
  exact k v μ1 hp_
theorem bX3_addToRow_16 {Z : ZT} {X : XT} {μ : Mu} {a0 : Nat} {a1 : Int32} {a2 : Int32} {s0 : Int32} (E : Ent Z X mX3_addToRow 0 0) (ha0 : SH a0 = .inl 3) 
    (kt : ¬ s0 = 0 → JS Z X 22 [(0, .ref (Z.2.2.1 + a0)), (1, .int a1), (2, .int a2)] [] μ) (kf : s0 = 0 → JS Z X 19 [] [] μ) :
    JS Z X 16 [(0, .ref (Z.2.2.1 + a0)), (1, .int a1), (2, .int a2)] [.int s0] μ := by
  refine J_if_ne (tgt := 22) E dX3_addToRow_16 (by decide) (fun c => ?_) (fun c => ?_)
  · exact kt c
  · refine J.weak [] rfl ?_
    exact kf c
theorem bX3_addToRow_19 {Z : ZT} {X : XT} {μ : Mu} (E : Ent Z X mX3_addToRow 0 0) {P : Option Value → Mu → Prop} (hB : BodS Z X P) 
    (k : P (some (.int (-2))) μ) :
    JS Z X 19 [] [] μ := by
  refine J_bipush (v := -2) E dX3_addToRow_19 rfl ?_
  exact S_iret E hB dX3_addToRow_21 rfl k
theorem bX3_addToRow_22 {Z : ZT} {X : XT} {μ : Mu} {a0 : Nat} {a1 : Int32} {a2 : Int32} (E : Ent Z X mX3_addToRow 0 0) (ha0 : SH a0 = .inl 3) (s1_ : vp_in a1 2)
    (k : JS Z X 32 [(0, .ref (Z.2.2.1 + a0)), (1, .int a1), (2, .int a2), (3, .int (μ (a0 + 11) (ix a1))), (4, .int (nI 0))] [] μ) :
    JS Z X 22 [(0, .ref (Z.2.2.1 + a0)), (1, .int a1), (2, .int a2)] [] μ := by
  refine J_aload_n E dX3_addToRow_22 rfl ?_
  refine S_get (ci := 3) (q := 13) (v := .ref (Z.2.2.1 + (a0 + 11))) E dX3_addToRow_23 fs_X3_42 ha0 rfl ?_
  refine J_iload_n E dX3_addToRow_26 rfl ?_
  refine S_iald E dX3_addToRow_27 (shr_X3_13 ha0) s1_ ?_
  refine J_istore_n (lv' := [(0, .ref (Z.2.2.1 + a0)), (1, .int a1), (2, .int a2), (3, .int (μ (a0 + 11) (ix a1)))]) E dX3_addToRow_28 (Nat.le_of_ble_eq_true rfl) rfl ?_
  refine J_iconst (v := nI 0) E dX3_addToRow_29 rfl ?_
  refine J_istore (lv' := [(0, .ref (Z.2.2.1 + a0)), (1, .int a1), (2, .int a2), (3, .int (μ (a0 + 11) (ix a1))), (4, .int (nI 0))]) E dX3_addToRow_30 (Nat.le_of_ble_eq_true rfl) rfl ?_
  exact k
theorem bX3_addToRow_32 {Z : ZT} {X : XT} {μ : Mu} {a0 : Nat} {a1 : Int32} {a2 : Int32} {a3 : Int32} {a4 : Int32} (E : Ent Z X mX3_addToRow 0 0) (ha0 : SH a0 = .inl 3) 
    (kt : a3 ≤ a4 → JS Z X 63 [(0, .ref (Z.2.2.1 + a0)), (1, .int a1), (2, .int a2), (3, .int a3)] [] μ) (kf : ¬ (a3 ≤ a4) → JS Z X 38 [(0, .ref (Z.2.2.1 + a0)), (1, .int a1), (2, .int a2), (3, .int a3), (4, .int a4)] [] μ) :
    JS Z X 32 [(0, .ref (Z.2.2.1 + a0)), (1, .int a1), (2, .int a2), (3, .int a3), (4, .int a4)] [] μ := by
  refine J_iload E dX3_addToRow_32 rfl ?_
  refine J_iload_n E dX3_addToRow_34 rfl ?_
  refine J_icmp_ge (tgt := 63) E dX3_addToRow_35 (by decide) (fun c => ?_) (fun c => ?_)
  · refine J.weak [0, 1, 2, 3] rfl ?_
    exact kt c
  · exact kf c
theorem bX3_addToRow_38 {Z : ZT} {X : XT} {μ : Mu} {a0 : Nat} {a1 : Int32} {a2 : Int32} {a3 : Int32} {a4 : Int32} (E : Ent Z X mX3_addToRow 0 0) (ha0 : SH a0 = .inl 3) (s1_ : vp_in ((a1 * (nI 6)) + a4) 12)
    (kt : ¬ (μ (a0 + 12) (ix ((a1 * (nI 6)) + a4))) = a2 → JS Z X 57 [(0, .ref (Z.2.2.1 + a0)), (1, .int a1), (2, .int a2), (3, .int a3), (4, .int a4)] [] μ) (kf : (μ (a0 + 12) (ix ((a1 * (nI 6)) + a4))) = a2 → JS Z X 54 [] [] μ) :
    JS Z X 38 [(0, .ref (Z.2.2.1 + a0)), (1, .int a1), (2, .int a2), (3, .int a3), (4, .int a4)] [] μ := by
  refine J_aload_n E dX3_addToRow_38 rfl ?_
  refine S_get (ci := 3) (q := 14) (v := .ref (Z.2.2.1 + (a0 + 12))) E dX3_addToRow_39 fs_X3_45 ha0 rfl ?_
  refine J_iload_n E dX3_addToRow_42 rfl ?_
  refine J_bipush (v := nI 6) E dX3_addToRow_43 rfl ?_
  refine J_imul E dX3_addToRow_45 ?_
  refine J_iload E dX3_addToRow_46 rfl ?_
  refine J_iadd E dX3_addToRow_48 ?_
  refine S_iald E dX3_addToRow_49 (shr_X3_14 ha0) s1_ ?_
  refine J_iload_n E dX3_addToRow_50 rfl ?_
  refine J_icmp_ne (tgt := 57) E dX3_addToRow_51 (by decide) (fun c => ?_) (fun c => ?_)
  · exact kt c
  · refine J.weak [] rfl ?_
    exact kf c
theorem bX3_addToRow_54 {Z : ZT} {X : XT} {μ : Mu} (E : Ent Z X mX3_addToRow 0 0) {P : Option Value → Mu → Prop} (hB : BodS Z X P) 
    (k : P (some (.int (-3))) μ) :
    JS Z X 54 [] [] μ := by
  refine J_bipush (v := -3) E dX3_addToRow_54 rfl ?_
  exact S_iret E hB dX3_addToRow_56 rfl k
theorem bX3_addToRow_57 {Z : ZT} {X : XT} {μ : Mu} {a0 : Nat} {a1 : Int32} {a2 : Int32} {a3 : Int32} {a4 : Int32} (E : Ent Z X mX3_addToRow 0 0) (ha0 : SH a0 = .inl 3) 
    (k : JS Z X 32 [(0, .ref (Z.2.2.1 + a0)), (1, .int a1), (2, .int a2), (3, .int a3), (4, .int (a4 + nI 1))] [] μ) :
    JS Z X 57 [(0, .ref (Z.2.2.1 + a0)), (1, .int a1), (2, .int a2), (3, .int a3), (4, .int a4)] [] μ := by
  refine J_iinc (v := a4 + nI 1) (lv' := [(0, .ref (Z.2.2.1 + a0)), (1, .int a1), (2, .int a2), (3, .int a3), (4, .int (a4 + nI 1))]) E dX3_addToRow_57 rfl rfl (Nat.le_of_ble_eq_true rfl) rfl ?_
  refine J_goto (tgt := 32) E dX3_addToRow_60 (by decide) ?_
  exact k
theorem bX3_addToRow_63 {Z : ZT} {X : XT} {μ : Mu} {a0 : Nat} {a1 : Int32} {a2 : Int32} {a3 : Int32} (E : Ent Z X mX3_addToRow 0 0) (ha0 : SH a0 = .inl 3) 
    (kt : a3 < (nI 6) → JS Z X 72 [(0, .ref (Z.2.2.1 + a0)), (1, .int a1), (2, .int a2), (3, .int a3)] [] μ) (kf : ¬ (a3 < (nI 6)) → JS Z X 69 [] [] μ) :
    JS Z X 63 [(0, .ref (Z.2.2.1 + a0)), (1, .int a1), (2, .int a2), (3, .int a3)] [] μ := by
  refine J_iload_n E dX3_addToRow_63 rfl ?_
  refine J_bipush (v := nI 6) E dX3_addToRow_64 rfl ?_
  refine J_icmp_lt (tgt := 72) E dX3_addToRow_66 (by decide) (fun c => ?_) (fun c => ?_)
  · exact kt c
  · refine J.weak [] rfl ?_
    exact kf c
theorem bX3_addToRow_69 {Z : ZT} {X : XT} {μ : Mu} (E : Ent Z X mX3_addToRow 0 0) {P : Option Value → Mu → Prop} (hB : BodS Z X P) 
    (k : P (some (.int (-4))) μ) :
    JS Z X 69 [] [] μ := by
  refine J_bipush (v := -4) E dX3_addToRow_69 rfl ?_
  exact S_iret E hB dX3_addToRow_71 rfl k
theorem bX3_addToRow_72 {Z : ZT} {X : XT} {μ : Mu} {a0 : Nat} {a1 : Int32} {a2 : Int32} {a3 : Int32} (E : Ent Z X mX3_addToRow 0 0) (ha0 : SH a0 = .inl 3) (s1_ : vp_in ((a1 * (nI 6)) + a3) 12)
    (k : JS Z X 84 [(0, .ref (Z.2.2.1 + a0)), (1, .int a1), (3, .int a3)] [] (uR μ (a0 + 12) (upd (μ (a0 + 12)) (ix ((a1 * (nI 6)) + a3)) a2))) :
    JS Z X 72 [(0, .ref (Z.2.2.1 + a0)), (1, .int a1), (2, .int a2), (3, .int a3)] [] μ := by
  refine J_aload_n E dX3_addToRow_72 rfl ?_
  refine S_get (ci := 3) (q := 14) (v := .ref (Z.2.2.1 + (a0 + 12))) E dX3_addToRow_73 fs_X3_45 ha0 rfl ?_
  refine J_iload_n E dX3_addToRow_76 rfl ?_
  refine J_bipush (v := nI 6) E dX3_addToRow_77 rfl ?_
  refine J_imul E dX3_addToRow_79 ?_
  refine J_iload_n E dX3_addToRow_80 rfl ?_
  refine J_iadd E dX3_addToRow_81 ?_
  refine J_iload_n E dX3_addToRow_82 rfl ?_
  refine S_iast E dX3_addToRow_83 (shr_X3_14 ha0) s1_ ?_
  refine J.weak [0, 1, 3] rfl ?_
  exact k
theorem bX3_addToRow_84 {Z : ZT} {X : XT} {μ : Mu} {a0 : Nat} {a1 : Int32} {a3 : Int32} (E : Ent Z X mX3_addToRow 0 0) (ha0 : SH a0 = .inl 3) (s1_ : vp_in a1 2)
    (k : JS Z X 93 [(3, .int a3)] [] (uR μ (a0 + 11) (upd (μ (a0 + 11)) (ix a1) (a3 + (nI 1))))) :
    JS Z X 84 [(0, .ref (Z.2.2.1 + a0)), (1, .int a1), (3, .int a3)] [] μ := by
  refine J_aload_n E dX3_addToRow_84 rfl ?_
  refine S_get (ci := 3) (q := 13) (v := .ref (Z.2.2.1 + (a0 + 11))) E dX3_addToRow_85 fs_X3_42 ha0 rfl ?_
  refine J_iload_n E dX3_addToRow_88 rfl ?_
  refine J_iload_n E dX3_addToRow_89 rfl ?_
  refine J_iconst (v := nI 1) E dX3_addToRow_90 rfl ?_
  refine J_iadd E dX3_addToRow_91 ?_
  refine S_iast E dX3_addToRow_92 (shr_X3_13 ha0) s1_ ?_
  refine J.weak [2] rfl ?_
  exact k
theorem bX3_addToRow_93 {Z : ZT} {X : XT} {μ : Mu} {a3 : Int32} (E : Ent Z X mX3_addToRow 0 0) {P : Option Value → Mu → Prop} (hB : BodS Z X P) 
    (k : P (some (.int (a3 + (nI 1)))) μ) :
    JS Z X 93 [(3, .int a3)] [] μ := by
  refine J_iload_n E dX3_addToRow_93 rfl ?_
  refine J_iconst (v := nI 1) E dX3_addToRow_94 rfl ?_
  refine J_iadd E dX3_addToRow_95 ?_
  exact S_iret E hB dX3_addToRow_96 rfl k
theorem dX3_emptyRow_0 : decode cX3_emptyRow 0 = .ok (.iload_n 1, 1) := by decide +kernel
theorem dX3_emptyRow_1 : decode cX3_emptyRow 1 = .ok (.iconst 2, 1) := by decide +kernel
theorem dX3_emptyRow_2 : decode cX3_emptyRow 2 = .ok (.invokestatic 80, 3) := by decide +kernel
theorem dX3_emptyRow_5 : decode cX3_emptyRow 5 = .ok (.ifCond .ne 6, 3) := by decide +kernel
theorem dX3_emptyRow_8 : decode cX3_emptyRow 8 = .ok (.bipush (-2), 2) := by decide +kernel
theorem dX3_emptyRow_10 : decode cX3_emptyRow 10 = .ok (.ireturn, 1) := by decide +kernel
theorem dX3_emptyRow_11 : decode cX3_emptyRow 11 = .ok (.aload_n 0, 1) := by decide +kernel
theorem dX3_emptyRow_12 : decode cX3_emptyRow 12 = .ok (.getfield 42, 3) := by decide +kernel
theorem dX3_emptyRow_15 : decode cX3_emptyRow 15 = .ok (.iload_n 1, 1) := by decide +kernel
theorem dX3_emptyRow_16 : decode cX3_emptyRow 16 = .ok (.iaload, 1) := by decide +kernel
theorem dX3_emptyRow_17 : decode cX3_emptyRow 17 = .ok (.istore_n 2, 1) := by decide +kernel
theorem dX3_emptyRow_18 : decode cX3_emptyRow 18 = .ok (.aload_n 0, 1) := by decide +kernel
theorem dX3_emptyRow_19 : decode cX3_emptyRow 19 = .ok (.getfield 42, 3) := by decide +kernel
theorem dX3_emptyRow_22 : decode cX3_emptyRow 22 = .ok (.iload_n 1, 1) := by decide +kernel
theorem dX3_emptyRow_23 : decode cX3_emptyRow 23 = .ok (.iconst 0, 1) := by decide +kernel
theorem dX3_emptyRow_24 : decode cX3_emptyRow 24 = .ok (.iastore, 1) := by decide +kernel
theorem dX3_emptyRow_25 : decode cX3_emptyRow 25 = .ok (.iload_n 2, 1) := by decide +kernel
theorem dX3_emptyRow_26 : decode cX3_emptyRow 26 = .ok (.ireturn, 1) := by decide +kernel
theorem bX3_emptyRow_0 {Z : ZT} {X : XT} {μ : Mu} {a0 : Nat} {a1 : Int32} (E : Ent Z X mX3_emptyRow 0 0) (ha0 : SH a0 = .inl 3) {p : Int32 → Mu → Prop} 
    (c : CtrS Z mX11_within [.int a1, .int (nI 2)] μ (rI p)) (k : ∀ v μ1, p v μ1 → JS Z X 5 [(0, .ref (Z.2.2.1 + a0)), (1, .int a1)] [.int v] μ1) :
    JS Z X 0 [(0, .ref (Z.2.2.1 + a0)), (1, .int a1)] [] μ := by
  refine J_iload_n E dX3_emptyRow_0 rfl ?_
  refine J_iconst (v := nI 2) E dX3_emptyRow_1 rfl ?_
  refine S_callSN (As := [.int a1, .int (nI 2)]) (rest := []) E dX3_emptyRow_2 c kX11_within ⟨Nat.le_of_ble_eq_true rfl, Nat.le_of_ble_eq_true rfl⟩ rfl (Nat.le_of_ble_eq_true rfl) w3_45 w3_46 (fun r_ μ1 hp_ => ?_)
  obtain ⟨v, rfl, hp_⟩ := hp_
  exact k v μ1 hp_
theorem bX3_emptyRow_5 {Z : ZT} {X : XT} {μ : Mu} {a0 : Nat} {a1 : Int32} {s0 : Int32} (E : Ent Z X mX3_emptyRow 0 0) (ha0 : SH a0 = .inl 3) 
    (kt : ¬ s0 = 0 → JS Z X 11 [(0, .ref (Z.2.2.1 + a0)), (1, .int a1)] [] μ) (kf : s0 = 0 → JS Z X 8 [] [] μ) :
    JS Z X 5 [(0, .ref (Z.2.2.1 + a0)), (1, .int a1)] [.int s0] μ := by
  refine J_if_ne (tgt := 11) E dX3_emptyRow_5 (by decide) (fun c => ?_) (fun c => ?_)
  · exact kt c
  · refine J.weak [] rfl ?_
    exact kf c
theorem bX3_emptyRow_8 {Z : ZT} {X : XT} {μ : Mu} (E : Ent Z X mX3_emptyRow 0 0) {P : Option Value → Mu → Prop} (hB : BodS Z X P) 
    (k : P (some (.int (-2))) μ) :
    JS Z X 8 [] [] μ := by
  refine J_bipush (v := -2) E dX3_emptyRow_8 rfl ?_
  exact S_iret E hB dX3_emptyRow_10 rfl k
theorem bX3_emptyRow_11 {Z : ZT} {X : XT} {μ : Mu} {a0 : Nat} {a1 : Int32} (E : Ent Z X mX3_emptyRow 0 0) (ha0 : SH a0 = .inl 3) (s1_ : vp_in a1 2) (s2_ : vp_in a1 2)
    (k : JS Z X 25 [(2, .int (μ (a0 + 11) (ix a1)))] [] (uR μ (a0 + 11) (upd (μ (a0 + 11)) (ix a1) (nI 0)))) :
    JS Z X 11 [(0, .ref (Z.2.2.1 + a0)), (1, .int a1)] [] μ := by
  refine J_aload_n E dX3_emptyRow_11 rfl ?_
  refine S_get (ci := 3) (q := 13) (v := .ref (Z.2.2.1 + (a0 + 11))) E dX3_emptyRow_12 fs_X3_42 ha0 rfl ?_
  refine J_iload_n E dX3_emptyRow_15 rfl ?_
  refine S_iald E dX3_emptyRow_16 (shr_X3_13 ha0) s1_ ?_
  refine J_istore_n (lv' := [(0, .ref (Z.2.2.1 + a0)), (1, .int a1), (2, .int (μ (a0 + 11) (ix a1)))]) E dX3_emptyRow_17 (Nat.le_of_ble_eq_true rfl) rfl ?_
  refine J_aload_n E dX3_emptyRow_18 rfl ?_
  refine S_get (ci := 3) (q := 13) (v := .ref (Z.2.2.1 + (a0 + 11))) E dX3_emptyRow_19 fs_X3_42 ha0 rfl ?_
  refine J_iload_n E dX3_emptyRow_22 rfl ?_
  refine J_iconst (v := nI 0) E dX3_emptyRow_23 rfl ?_
  refine S_iast E dX3_emptyRow_24 (shr_X3_13 ha0) s2_ ?_
  refine J.weak [2] rfl ?_
  exact k
theorem bX3_emptyRow_25 {Z : ZT} {X : XT} {μ : Mu} {a2 : Int32} (E : Ent Z X mX3_emptyRow 0 0) {P : Option Value → Mu → Prop} (hB : BodS Z X P) 
    (k : P (some (.int a2)) μ) :
    JS Z X 25 [(2, .int a2)] [] μ := by
  refine J_iload_n E dX3_emptyRow_25 rfl ?_
  exact S_iret E hB dX3_emptyRow_26 rfl k
theorem dX3_isSpareAt_0 : decode cX3_isSpareAt 0 = .ok (.iload_n 1, 1) := by decide +kernel
theorem dX3_isSpareAt_1 : decode cX3_isSpareAt 1 = .ok (.iconst 2, 1) := by decide +kernel
theorem dX3_isSpareAt_2 : decode cX3_isSpareAt 2 = .ok (.invokestatic 80, 3) := by decide +kernel
theorem dX3_isSpareAt_5 : decode cX3_isSpareAt 5 = .ok (.ifCond .eq 40, 3) := by decide +kernel
theorem dX3_isSpareAt_8 : decode cX3_isSpareAt 8 = .ok (.iload_n 2, 1) := by decide +kernel
theorem dX3_isSpareAt_9 : decode cX3_isSpareAt 9 = .ok (.aload_n 0, 1) := by decide +kernel
theorem dX3_isSpareAt_10 : decode cX3_isSpareAt 10 = .ok (.getfield 42, 3) := by decide +kernel
theorem dX3_isSpareAt_13 : decode cX3_isSpareAt 13 = .ok (.iload_n 1, 1) := by decide +kernel
theorem dX3_isSpareAt_14 : decode cX3_isSpareAt 14 = .ok (.iaload, 1) := by decide +kernel
theorem dX3_isSpareAt_15 : decode cX3_isSpareAt 15 = .ok (.invokestatic 80, 3) := by decide +kernel
theorem dX3_isSpareAt_18 : decode cX3_isSpareAt 18 = .ok (.ifCond .eq 27, 3) := by decide +kernel
theorem dX3_isSpareAt_21 : decode cX3_isSpareAt 21 = .ok (.aload_n 0, 1) := by decide +kernel
theorem dX3_isSpareAt_22 : decode cX3_isSpareAt 22 = .ok (.getfield 36, 3) := by decide +kernel
theorem dX3_isSpareAt_25 : decode cX3_isSpareAt 25 = .ok (.aload_n 0, 1) := by decide +kernel
theorem dX3_isSpareAt_26 : decode cX3_isSpareAt 26 = .ok (.getfield 45, 3) := by decide +kernel
theorem dX3_isSpareAt_29 : decode cX3_isSpareAt 29 = .ok (.iload_n 1, 1) := by decide +kernel
theorem dX3_isSpareAt_30 : decode cX3_isSpareAt 30 = .ok (.bipush 6, 2) := by decide +kernel
theorem dX3_isSpareAt_32 : decode cX3_isSpareAt 32 = .ok (.imul, 1) := by decide +kernel
theorem dX3_isSpareAt_33 : decode cX3_isSpareAt 33 = .ok (.iload_n 2, 1) := by decide +kernel
theorem dX3_isSpareAt_34 : decode cX3_isSpareAt 34 = .ok (.iadd, 1) := by decide +kernel
theorem dX3_isSpareAt_35 : decode cX3_isSpareAt 35 = .ok (.iaload, 1) := by decide +kernel
theorem dX3_isSpareAt_36 : decode cX3_isSpareAt 36 = .ok (.iaload, 1) := by decide +kernel
theorem dX3_isSpareAt_37 : decode cX3_isSpareAt 37 = .ok (.iconst 1, 1) := by decide +kernel
theorem dX3_isSpareAt_38 : decode cX3_isSpareAt 38 = .ok (.if_icmp .ne 7, 3) := by decide +kernel
theorem dX3_isSpareAt_41 : decode cX3_isSpareAt 41 = .ok (.iconst 1, 1) := by decide +kernel
theorem dX3_isSpareAt_42 : decode cX3_isSpareAt 42 = .ok (.goto 4, 3) := by decide +kernel
theorem dX3_isSpareAt_45 : decode cX3_isSpareAt 45 = .ok (.iconst 0, 1) := by decide +kernel
theorem dX3_isSpareAt_46 : decode cX3_isSpareAt 46 = .ok (.ireturn, 1) := by decide +kernel
theorem bX3_isSpareAt_0 {Z : ZT} {X : XT} {μ : Mu} {a0 : Nat} {a1 : Int32} {a2 : Int32} (E : Ent Z X mX3_isSpareAt 0 0) (ha0 : SH a0 = .inl 3) {p : Int32 → Mu → Prop} 
    (c : CtrS Z mX11_within [.int a1, .int (nI 2)] μ (rI p)) (k : ∀ v μ1, p v μ1 → JS Z X 5 [(0, .ref (Z.2.2.1 + a0)), (1, .int a1), (2, .int a2)] [.int v] μ1) :
    JS Z X 0 [(0, .ref (Z.2.2.1 + a0)), (1, .int a1), (2, .int a2)] [] μ := by
  refine J_iload_n E dX3_isSpareAt_0 rfl ?_
  refine J_iconst (v := nI 2) E dX3_isSpareAt_1 rfl ?_
  refine S_callSN (As := [.int a1, .int (nI 2)]) (rest := []) E dX3_isSpareAt_2 c kX11_within ⟨Nat.le_of_ble_eq_true rfl, Nat.le_of_ble_eq_true rfl⟩ rfl (Nat.le_of_ble_eq_true rfl) w3_45 w3_46 (fun r_ μ1 hp_ => ?_)
  obtain ⟨v, rfl, hp_⟩ := hp_
  exact k v μ1 hp_
theorem bX3_isSpareAt_5 {Z : ZT} {X : XT} {μ : Mu} {a0 : Nat} {a1 : Int32} {a2 : Int32} {s0 : Int32} (E : Ent Z X mX3_isSpareAt 0 0) (ha0 : SH a0 = .inl 3) 
    (kt : s0 = 0 → JS Z X 45 [] [] μ) (kf : ¬ (s0 = 0) → JS Z X 8 [(0, .ref (Z.2.2.1 + a0)), (1, .int a1), (2, .int a2)] [] μ) :
    JS Z X 5 [(0, .ref (Z.2.2.1 + a0)), (1, .int a1), (2, .int a2)] [.int s0] μ := by
  refine J_if_eq (tgt := 45) E dX3_isSpareAt_5 (by decide) (fun c => ?_) (fun c => ?_)
  · refine J.weak [] rfl ?_
    exact kt c
  · exact kf c
theorem bX3_isSpareAt_8 {Z : ZT} {X : XT} {μ : Mu} {a0 : Nat} {a1 : Int32} {a2 : Int32} (E : Ent Z X mX3_isSpareAt 0 0) (ha0 : SH a0 = .inl 3) {p : Int32 → Mu → Prop} (s1_ : vp_in a1 2)
    (c : CtrS Z mX11_within [.int a2, .int (μ (a0 + 11) (ix a1))] μ (rI p)) (k : ∀ v μ1, p v μ1 → JS Z X 18 [(0, .ref (Z.2.2.1 + a0)), (1, .int a1), (2, .int a2)] [.int v] μ1) :
    JS Z X 8 [(0, .ref (Z.2.2.1 + a0)), (1, .int a1), (2, .int a2)] [] μ := by
  refine J_iload_n E dX3_isSpareAt_8 rfl ?_
  refine J_aload_n E dX3_isSpareAt_9 rfl ?_
  refine S_get (ci := 3) (q := 13) (v := .ref (Z.2.2.1 + (a0 + 11))) E dX3_isSpareAt_10 fs_X3_42 ha0 rfl ?_
  refine J_iload_n E dX3_isSpareAt_13 rfl ?_
  refine S_iald E dX3_isSpareAt_14 (shr_X3_13 ha0) s1_ ?_
  refine S_callSN (As := [.int a2, .int (μ (a0 + 11) (ix a1))]) (rest := []) E dX3_isSpareAt_15 c kX11_within ⟨Nat.le_of_ble_eq_true rfl, Nat.le_of_ble_eq_true rfl⟩ rfl (Nat.le_of_ble_eq_true rfl) w3_45 w3_46 (fun r_ μ1 hp_ => ?_)
  obtain ⟨v, rfl, hp_⟩ := hp_
  exact k v μ1 hp_
theorem bX3_isSpareAt_18 {Z : ZT} {X : XT} {μ : Mu} {a0 : Nat} {a1 : Int32} {a2 : Int32} {s0 : Int32} (E : Ent Z X mX3_isSpareAt 0 0) (ha0 : SH a0 = .inl 3) 
    (kt : s0 = 0 → JS Z X 45 [] [] μ) (kf : ¬ (s0 = 0) → JS Z X 21 [(0, .ref (Z.2.2.1 + a0)), (1, .int a1), (2, .int a2)] [] μ) :
    JS Z X 18 [(0, .ref (Z.2.2.1 + a0)), (1, .int a1), (2, .int a2)] [.int s0] μ := by
  refine J_if_eq (tgt := 45) E dX3_isSpareAt_18 (by decide) (fun c => ?_) (fun c => ?_)
  · refine J.weak [] rfl ?_
    exact kt c
  · exact kf c
theorem bX3_isSpareAt_21 {Z : ZT} {X : XT} {μ : Mu} {a0 : Nat} {a1 : Int32} {a2 : Int32} (E : Ent Z X mX3_isSpareAt 0 0) (ha0 : SH a0 = .inl 3) (s1_ : vp_in ((a1 * (nI 6)) + a2) 12) (s2_ : vp_in (μ (a0 + 12) (ix ((a1 * (nI 6)) + a2))) 8)
    (kt : ¬ (μ (a0 + 9) (ix (μ (a0 + 12) (ix ((a1 * (nI 6)) + a2))))) = (nI 1) → JS Z X 45 [] [] μ) (kf : (μ (a0 + 9) (ix (μ (a0 + 12) (ix ((a1 * (nI 6)) + a2))))) = (nI 1) → JS Z X 41 [] [] μ) :
    JS Z X 21 [(0, .ref (Z.2.2.1 + a0)), (1, .int a1), (2, .int a2)] [] μ := by
  refine J_aload_n E dX3_isSpareAt_21 rfl ?_
  refine S_get (ci := 3) (q := 11) (v := .ref (Z.2.2.1 + (a0 + 9))) E dX3_isSpareAt_22 fs_X3_36 ha0 rfl ?_
  refine J_aload_n E dX3_isSpareAt_25 rfl ?_
  refine S_get (ci := 3) (q := 14) (v := .ref (Z.2.2.1 + (a0 + 12))) E dX3_isSpareAt_26 fs_X3_45 ha0 rfl ?_
  refine J_iload_n E dX3_isSpareAt_29 rfl ?_
  refine J_bipush (v := nI 6) E dX3_isSpareAt_30 rfl ?_
  refine J_imul E dX3_isSpareAt_32 ?_
  refine J_iload_n E dX3_isSpareAt_33 rfl ?_
  refine J_iadd E dX3_isSpareAt_34 ?_
  refine S_iald E dX3_isSpareAt_35 (shr_X3_14 ha0) s1_ ?_
  refine S_iald E dX3_isSpareAt_36 (shr_X3_11 ha0) s2_ ?_
  refine J_iconst (v := nI 1) E dX3_isSpareAt_37 rfl ?_
  refine J_icmp_ne (tgt := 45) E dX3_isSpareAt_38 (by decide) (fun c => ?_) (fun c => ?_)
  · refine J.weak [] rfl ?_
    exact kt c
  · refine J.weak [] rfl ?_
    exact kf c
theorem bX3_isSpareAt_41 {Z : ZT} {X : XT} {μ : Mu} (E : Ent Z X mX3_isSpareAt 0 0)  
    (k : JS Z X 46 [] [.int (nI 1)] μ) :
    JS Z X 41 [] [] μ := by
  refine J_iconst (v := nI 1) E dX3_isSpareAt_41 rfl ?_
  refine J_goto (tgt := 46) E dX3_isSpareAt_42 (by decide) ?_
  exact k
theorem bX3_isSpareAt_45 {Z : ZT} {X : XT} {μ : Mu} (E : Ent Z X mX3_isSpareAt 0 0)  
    (k : JS Z X 46 [] [.int (nI 0)] μ) :
    JS Z X 45 [] [] μ := by
  refine J_iconst (v := nI 0) E dX3_isSpareAt_45 rfl ?_
  exact k
theorem bX3_isSpareAt_46 {Z : ZT} {X : XT} {μ : Mu} {s0 : Int32} (E : Ent Z X mX3_isSpareAt 0 0) {P : Option Value → Mu → Prop} (hB : BodS Z X P) (s1_ : narrow .boolean (.int s0) = .int s0)
    (k : P (some (.int s0)) μ) :
    JS Z X 46 [] [.int s0] μ := by
  exact S_zret E hB dX3_isSpareAt_46 rfl s1_ k
theorem dX3_seenFromAny_0 : decode cX3_seenFromAny 0 = .ok (.iload_n 1, 1) := by decide +kernel
theorem dX3_seenFromAny_1 : decode cX3_seenFromAny 1 = .ok (.istore_n 2, 1) := by decide +kernel
theorem dX3_seenFromAny_2 : decode cX3_seenFromAny 2 = .ok (.iconst 0, 1) := by decide +kernel
theorem dX3_seenFromAny_3 : decode cX3_seenFromAny 3 = .ok (.istore_n 3, 1) := by decide +kernel
theorem dX3_seenFromAny_4 : decode cX3_seenFromAny 4 = .ok (.iload_n 3, 1) := by decide +kernel
theorem dX3_seenFromAny_5 : decode cX3_seenFromAny 5 = .ok (.aload_n 0, 1) := by decide +kernel
theorem dX3_seenFromAny_6 : decode cX3_seenFromAny 6 = .ok (.getfield 48, 3) := by decide +kernel
theorem dX3_seenFromAny_9 : decode cX3_seenFromAny 9 = .ok (.if_icmp .ge 27, 3) := by decide +kernel
theorem dX3_seenFromAny_12 : decode cX3_seenFromAny 12 = .ok (.iload_n 1, 1) := by decide +kernel
theorem dX3_seenFromAny_13 : decode cX3_seenFromAny 13 = .ok (.iload_n 3, 1) := by decide +kernel
theorem dX3_seenFromAny_14 : decode cX3_seenFromAny 14 = .ok (.ishr, 1) := by decide +kernel
theorem dX3_seenFromAny_15 : decode cX3_seenFromAny 15 = .ok (.iconst 1, 1) := by decide +kernel
theorem dX3_seenFromAny_16 : decode cX3_seenFromAny 16 = .ok (.iand, 1) := by decide +kernel
theorem dX3_seenFromAny_17 : decode cX3_seenFromAny 17 = .ok (.iconst 1, 1) := by decide +kernel
theorem dX3_seenFromAny_18 : decode cX3_seenFromAny 18 = .ok (.if_icmp .ne 12, 3) := by decide +kernel
theorem dX3_seenFromAny_21 : decode cX3_seenFromAny 21 = .ok (.iload_n 2, 1) := by decide +kernel
theorem dX3_seenFromAny_22 : decode cX3_seenFromAny 22 = .ok (.aload_n 0, 1) := by decide +kernel
theorem dX3_seenFromAny_23 : decode cX3_seenFromAny 23 = .ok (.getfield 15, 3) := by decide +kernel
theorem dX3_seenFromAny_26 : decode cX3_seenFromAny 26 = .ok (.iload_n 3, 1) := by decide +kernel
theorem dX3_seenFromAny_27 : decode cX3_seenFromAny 27 = .ok (.iaload, 1) := by decide +kernel
theorem dX3_seenFromAny_28 : decode cX3_seenFromAny 28 = .ok (.ior, 1) := by decide +kernel
theorem dX3_seenFromAny_29 : decode cX3_seenFromAny 29 = .ok (.istore_n 2, 1) := by decide +kernel
theorem dX3_seenFromAny_30 : decode cX3_seenFromAny 30 = .ok (.iinc 3 1, 3) := by decide +kernel
theorem dX3_seenFromAny_33 : decode cX3_seenFromAny 33 = .ok (.goto (-29), 3) := by decide +kernel
theorem dX3_seenFromAny_36 : decode cX3_seenFromAny 36 = .ok (.iload_n 2, 1) := by decide +kernel
theorem dX3_seenFromAny_37 : decode cX3_seenFromAny 37 = .ok (.ireturn, 1) := by decide +kernel
theorem bX3_seenFromAny_0 {Z : ZT} {X : XT} {μ : Mu} {a0 : Nat} {a1 : Int32} (E : Ent Z X mX3_seenFromAny 0 0) (ha0 : SH a0 = .inl 3) 
    (k : JS Z X 4 [(0, .ref (Z.2.2.1 + a0)), (1, .int a1), (2, .int a1), (3, .int (nI 0))] [] μ) :
    JS Z X 0 [(0, .ref (Z.2.2.1 + a0)), (1, .int a1)] [] μ := by
  refine J_iload_n E dX3_seenFromAny_0 rfl ?_
  refine J_istore_n (lv' := [(0, .ref (Z.2.2.1 + a0)), (1, .int a1), (2, .int a1)]) E dX3_seenFromAny_1 (Nat.le_of_ble_eq_true rfl) rfl ?_
  refine J_iconst (v := nI 0) E dX3_seenFromAny_2 rfl ?_
  refine J_istore_n (lv' := [(0, .ref (Z.2.2.1 + a0)), (1, .int a1), (2, .int a1), (3, .int (nI 0))]) E dX3_seenFromAny_3 (Nat.le_of_ble_eq_true rfl) rfl ?_
  exact k
theorem bX3_seenFromAny_4 {Z : ZT} {X : XT} {μ : Mu} {a0 : Nat} {a1 : Int32} {a2 : Int32} {a3 : Int32} (E : Ent Z X mX3_seenFromAny 0 0) (ha0 : SH a0 = .inl 3) 
    (kt : (μ a0 0) ≤ a3 → JS Z X 36 [(2, .int a2)] [] μ) (kf : ¬ ((μ a0 0) ≤ a3) → JS Z X 12 [(0, .ref (Z.2.2.1 + a0)), (1, .int a1), (2, .int a2), (3, .int a3)] [] μ) :
    JS Z X 4 [(0, .ref (Z.2.2.1 + a0)), (1, .int a1), (2, .int a2), (3, .int a3)] [] μ := by
  refine J_iload_n E dX3_seenFromAny_4 rfl ?_
  refine J_aload_n E dX3_seenFromAny_5 rfl ?_
  refine S_get (ci := 3) (q := 0) (v := .int (μ a0 0)) E dX3_seenFromAny_6 fs_X3_48 ha0 rfl ?_
  refine J_icmp_ge (tgt := 36) E dX3_seenFromAny_9 (by decide) (fun c => ?_) (fun c => ?_)
  · refine J.weak [2] rfl ?_
    exact kt c
  · exact kf c
theorem bX3_seenFromAny_12 {Z : ZT} {X : XT} {μ : Mu} {a0 : Nat} {a1 : Int32} {a2 : Int32} {a3 : Int32} (E : Ent Z X mX3_seenFromAny 0 0) (ha0 : SH a0 = .inl 3) 
    (kt : ¬ ((a1 >>> (a3 &&& 31)) &&& (nI 1)) = (nI 1) → JS Z X 30 [(0, .ref (Z.2.2.1 + a0)), (1, .int a1), (2, .int a2), (3, .int a3)] [] μ) (kf : ((a1 >>> (a3 &&& 31)) &&& (nI 1)) = (nI 1) → JS Z X 21 [(0, .ref (Z.2.2.1 + a0)), (1, .int a1), (2, .int a2), (3, .int a3)] [] μ) :
    JS Z X 12 [(0, .ref (Z.2.2.1 + a0)), (1, .int a1), (2, .int a2), (3, .int a3)] [] μ := by
  refine J_iload_n E dX3_seenFromAny_12 rfl ?_
  refine J_iload_n E dX3_seenFromAny_13 rfl ?_
  refine J_ishr E dX3_seenFromAny_14 ?_
  refine J_iconst (v := nI 1) E dX3_seenFromAny_15 rfl ?_
  refine J_iand E dX3_seenFromAny_16 ?_
  refine J_iconst (v := nI 1) E dX3_seenFromAny_17 rfl ?_
  refine J_icmp_ne (tgt := 30) E dX3_seenFromAny_18 (by decide) (fun c => ?_) (fun c => ?_)
  · exact kt c
  · exact kf c
theorem bX3_seenFromAny_21 {Z : ZT} {X : XT} {μ : Mu} {a0 : Nat} {a1 : Int32} {a2 : Int32} {a3 : Int32} (E : Ent Z X mX3_seenFromAny 0 0) (ha0 : SH a0 = .inl 3) (s1_ : vp_in a3 10)
    (k : JS Z X 30 [(0, .ref (Z.2.2.1 + a0)), (1, .int a1), (2, .int (a2 ||| (μ (a0 + 2) (ix a3)))), (3, .int a3)] [] μ) :
    JS Z X 21 [(0, .ref (Z.2.2.1 + a0)), (1, .int a1), (2, .int a2), (3, .int a3)] [] μ := by
  refine J_iload_n E dX3_seenFromAny_21 rfl ?_
  refine J_aload_n E dX3_seenFromAny_22 rfl ?_
  refine S_get (ci := 3) (q := 2) (v := .ref (Z.2.2.1 + (a0 + 2))) E dX3_seenFromAny_23 fs_X3_15 ha0 rfl ?_
  refine J_iload_n E dX3_seenFromAny_26 rfl ?_
  refine S_iald E dX3_seenFromAny_27 (shr_X3_2 ha0) s1_ ?_
  refine J_ior E dX3_seenFromAny_28 ?_
  refine J_istore_n (lv' := [(0, .ref (Z.2.2.1 + a0)), (1, .int a1), (2, .int (a2 ||| (μ (a0 + 2) (ix a3)))), (3, .int a3)]) E dX3_seenFromAny_29 (Nat.le_of_ble_eq_true rfl) rfl ?_
  exact k
theorem bX3_seenFromAny_30 {Z : ZT} {X : XT} {μ : Mu} {a0 : Nat} {a1 : Int32} {a2 : Int32} {a3 : Int32} (E : Ent Z X mX3_seenFromAny 0 0) (ha0 : SH a0 = .inl 3) 
    (k : JS Z X 4 [(0, .ref (Z.2.2.1 + a0)), (1, .int a1), (2, .int a2), (3, .int (a3 + nI 1))] [] μ) :
    JS Z X 30 [(0, .ref (Z.2.2.1 + a0)), (1, .int a1), (2, .int a2), (3, .int a3)] [] μ := by
  refine J_iinc (v := a3 + nI 1) (lv' := [(0, .ref (Z.2.2.1 + a0)), (1, .int a1), (2, .int a2), (3, .int (a3 + nI 1))]) E dX3_seenFromAny_30 rfl rfl (Nat.le_of_ble_eq_true rfl) rfl ?_
  refine J_goto (tgt := 4) E dX3_seenFromAny_33 (by decide) ?_
  exact k
theorem bX3_seenFromAny_36 {Z : ZT} {X : XT} {μ : Mu} {a2 : Int32} (E : Ent Z X mX3_seenFromAny 0 0) {P : Option Value → Mu → Prop} (hB : BodS Z X P) 
    (k : P (some (.int a2)) μ) :
    JS Z X 36 [(2, .int a2)] [] μ := by
  refine J_iload_n E dX3_seenFromAny_36 rfl ?_
  exact S_iret E hB dX3_seenFromAny_37 rfl k
theorem dX3_quickAt_0 : decode cX3_quickAt 0 = .ok (.iload_n 1, 1) := by decide +kernel
theorem dX3_quickAt_1 : decode cX3_quickAt 1 = .ok (.aload_n 0, 1) := by decide +kernel
theorem dX3_quickAt_2 : decode cX3_quickAt 2 = .ok (.getfield 52, 3) := by decide +kernel
theorem dX3_quickAt_5 : decode cX3_quickAt 5 = .ok (.invokestatic 80, 3) := by decide +kernel
theorem dX3_quickAt_8 : decode cX3_quickAt 8 = .ok (.ifCond .eq 21, 3) := by decide +kernel
theorem dX3_quickAt_11 : decode cX3_quickAt 11 = .ok (.iload_n 3, 1) := by decide +kernel
theorem dX3_quickAt_12 : decode cX3_quickAt 12 = .ok (.iconst 4, 1) := by decide +kernel
theorem dX3_quickAt_13 : decode cX3_quickAt 13 = .ok (.invokestatic 80, 3) := by decide +kernel
theorem dX3_quickAt_16 : decode cX3_quickAt 16 = .ok (.ifCond .eq 13, 3) := by decide +kernel
theorem dX3_quickAt_19 : decode cX3_quickAt 19 = .ok (.aload_n 0, 1) := by decide +kernel
theorem dX3_quickAt_20 : decode cX3_quickAt 20 = .ok (.getfield 27, 3) := by decide +kernel
theorem dX3_quickAt_23 : decode cX3_quickAt 23 = .ok (.iload_n 1, 1) := by decide +kernel
theorem dX3_quickAt_24 : decode cX3_quickAt 24 = .ok (.iaload, 1) := by decide +kernel
theorem dX3_quickAt_25 : decode cX3_quickAt 25 = .ok (.iload_n 2, 1) := by decide +kernel
theorem dX3_quickAt_26 : decode cX3_quickAt 26 = .ok (.if_icmp .eq 5, 3) := by decide +kernel
theorem dX3_quickAt_29 : decode cX3_quickAt 29 = .ok (.iconst 0, 1) := by decide +kernel
theorem dX3_quickAt_30 : decode cX3_quickAt 30 = .ok (.ireturn, 1) := by decide +kernel
theorem dX3_quickAt_31 : decode cX3_quickAt 31 = .ok (.aload_n 0, 1) := by decide +kernel
theorem dX3_quickAt_32 : decode cX3_quickAt 32 = .ok (.getfield 24, 3) := by decide +kernel
theorem dX3_quickAt_35 : decode cX3_quickAt 35 = .ok (.iload_n 1, 1) := by decide +kernel
theorem dX3_quickAt_36 : decode cX3_quickAt 36 = .ok (.iaload, 1) := by decide +kernel
theorem dX3_quickAt_37 : decode cX3_quickAt 37 = .ok (.iload 4, 2) := by decide +kernel
theorem dX3_quickAt_39 : decode cX3_quickAt 39 = .ok (.ishr, 1) := by decide +kernel
theorem dX3_quickAt_40 : decode cX3_quickAt 40 = .ok (.iconst 1, 1) := by decide +kernel
theorem dX3_quickAt_41 : decode cX3_quickAt 41 = .ok (.iand, 1) := by decide +kernel
theorem dX3_quickAt_42 : decode cX3_quickAt 42 = .ok (.iconst 1, 1) := by decide +kernel
theorem dX3_quickAt_43 : decode cX3_quickAt 43 = .ok (.if_icmp .ne 5, 3) := by decide +kernel
theorem dX3_quickAt_46 : decode cX3_quickAt 46 = .ok (.iconst 0, 1) := by decide +kernel
theorem dX3_quickAt_47 : decode cX3_quickAt 47 = .ok (.ireturn, 1) := by decide +kernel
theorem dX3_quickAt_48 : decode cX3_quickAt 48 = .ok (.iload_n 3, 1) := by decide +kernel
theorem dX3_quickAt_49 : decode cX3_quickAt 49 = .ok (.iconst 3, 1) := by decide +kernel
theorem dX3_quickAt_50 : decode cX3_quickAt 50 = .ok (.if_icmp .ne 7, 3) := by decide +kernel
theorem dX3_quickAt_53 : decode cX3_quickAt 53 = .ok (.iconst 0, 1) := by decide +kernel
theorem dX3_quickAt_54 : decode cX3_quickAt 54 = .ok (.goto 4, 3) := by decide +kernel
theorem dX3_quickAt_57 : decode cX3_quickAt 57 = .ok (.iconst 1, 1) := by decide +kernel
theorem dX3_quickAt_58 : decode cX3_quickAt 58 = .ok (.istore 5, 2) := by decide +kernel
theorem dX3_quickAt_60 : decode cX3_quickAt 60 = .ok (.iload_n 3, 1) := by decide +kernel
theorem dX3_quickAt_61 : decode cX3_quickAt 61 = .ok (.iconst 1, 1) := by decide +kernel
theorem dX3_quickAt_62 : decode cX3_quickAt 62 = .ok (.if_icmp .eq 16, 3) := by decide +kernel
theorem dX3_quickAt_65 : decode cX3_quickAt 65 = .ok (.aload_n 0, 1) := by decide +kernel
theorem dX3_quickAt_66 : decode cX3_quickAt 66 = .ok (.getfield 18, 3) := by decide +kernel
theorem dX3_quickAt_69 : decode cX3_quickAt 69 = .ok (.iload_n 1, 1) := by decide +kernel
theorem dX3_quickAt_70 : decode cX3_quickAt 70 = .ok (.iaload, 1) := by decide +kernel
theorem dX3_quickAt_71 : decode cX3_quickAt 71 = .ok (.iload 5, 2) := by decide +kernel
theorem dX3_quickAt_73 : decode cX3_quickAt 73 = .ok (.if_icmp .eq 5, 3) := by decide +kernel
theorem dX3_quickAt_76 : decode cX3_quickAt 76 = .ok (.iconst 0, 1) := by decide +kernel
theorem dX3_quickAt_77 : decode cX3_quickAt 77 = .ok (.ireturn, 1) := by decide +kernel
theorem dX3_quickAt_78 : decode cX3_quickAt 78 = .ok (.aload_n 0, 1) := by decide +kernel
theorem dX3_quickAt_79 : decode cX3_quickAt 79 = .ok (.getfield 21, 3) := by decide +kernel
theorem dX3_quickAt_82 : decode cX3_quickAt 82 = .ok (.iload_n 1, 1) := by decide +kernel
theorem dX3_quickAt_83 : decode cX3_quickAt 83 = .ok (.iconst 4, 1) := by decide +kernel
theorem dX3_quickAt_84 : decode cX3_quickAt 84 = .ok (.imul, 1) := by decide +kernel
theorem dX3_quickAt_85 : decode cX3_quickAt 85 = .ok (.iload_n 3, 1) := by decide +kernel
theorem dX3_quickAt_86 : decode cX3_quickAt 86 = .ok (.iadd, 1) := by decide +kernel
theorem dX3_quickAt_87 : decode cX3_quickAt 87 = .ok (.iaload, 1) := by decide +kernel
theorem dX3_quickAt_88 : decode cX3_quickAt 88 = .ok (.ireturn, 1) := by decide +kernel
theorem bX3_quickAt_0 {Z : ZT} {X : XT} {μ : Mu} {a0 : Nat} {a1 : Int32} {a2 : Int32} {a3 : Int32} {a4 : Int32} (E : Ent Z X mX3_quickAt 0 0) (ha0 : SH a0 = .inl 3) {p : Int32 → Mu → Prop} 
    (c : CtrS Z mX11_within [.int a1, .int (μ a0 3)] μ (rI p)) (k : ∀ v μ1, p v μ1 → JS Z X 8 [(0, .ref (Z.2.2.1 + a0)), (1, .int a1), (2, .int a2), (3, .int a3), (4, .int a4)] [.int v] μ1) :
    JS Z X 0 [(0, .ref (Z.2.2.1 + a0)), (1, .int a1), (2, .int a2), (3, .int a3), (4, .int a4)] [] μ := by
  refine J_iload_n E dX3_quickAt_0 rfl ?_
  refine J_aload_n E dX3_quickAt_1 rfl ?_
  refine S_get (ci := 3) (q := 3) (v := .int (μ a0 3)) E dX3_quickAt_2 fs_X3_52 ha0 rfl ?_
  refine S_callSN (As := [.int a1, .int (μ a0 3)]) (rest := []) E dX3_quickAt_5 c kX11_within ⟨Nat.le_of_ble_eq_true rfl, Nat.le_of_ble_eq_true rfl⟩ rfl (Nat.le_of_ble_eq_true rfl) w3_45 w3_46 (fun r_ μ1 hp_ => ?_)
  obtain ⟨v, rfl, hp_⟩ := hp_
  exact k v μ1 hp_
theorem bX3_quickAt_8 {Z : ZT} {X : XT} {μ : Mu} {a0 : Nat} {a1 : Int32} {a2 : Int32} {a3 : Int32} {a4 : Int32} {s0 : Int32} (E : Ent Z X mX3_quickAt 0 0) (ha0 : SH a0 = .inl 3) 
    (kt : s0 = 0 → JS Z X 29 [] [] μ) (kf : ¬ (s0 = 0) → JS Z X 11 [(0, .ref (Z.2.2.1 + a0)), (1, .int a1), (2, .int a2), (3, .int a3), (4, .int a4)] [] μ) :
    JS Z X 8 [(0, .ref (Z.2.2.1 + a0)), (1, .int a1), (2, .int a2), (3, .int a3), (4, .int a4)] [.int s0] μ := by
  refine J_if_eq (tgt := 29) E dX3_quickAt_8 (by decide) (fun c => ?_) (fun c => ?_)
  · refine J.weak [] rfl ?_
    exact kt c
  · exact kf c
theorem bX3_quickAt_11 {Z : ZT} {X : XT} {μ : Mu} {a0 : Nat} {a1 : Int32} {a2 : Int32} {a3 : Int32} {a4 : Int32} (E : Ent Z X mX3_quickAt 0 0) (ha0 : SH a0 = .inl 3) {p : Int32 → Mu → Prop} 
    (c : CtrS Z mX11_within [.int a3, .int (nI 4)] μ (rI p)) (k : ∀ v μ1, p v μ1 → JS Z X 16 [(0, .ref (Z.2.2.1 + a0)), (1, .int a1), (2, .int a2), (3, .int a3), (4, .int a4)] [.int v] μ1) :
    JS Z X 11 [(0, .ref (Z.2.2.1 + a0)), (1, .int a1), (2, .int a2), (3, .int a3), (4, .int a4)] [] μ := by
  refine J_iload_n E dX3_quickAt_11 rfl ?_
  refine J_iconst (v := nI 4) E dX3_quickAt_12 rfl ?_
  refine S_callSN (As := [.int a3, .int (nI 4)]) (rest := []) E dX3_quickAt_13 c kX11_within ⟨Nat.le_of_ble_eq_true rfl, Nat.le_of_ble_eq_true rfl⟩ rfl (Nat.le_of_ble_eq_true rfl) w3_45 w3_46 (fun r_ μ1 hp_ => ?_)
  obtain ⟨v, rfl, hp_⟩ := hp_
  exact k v μ1 hp_
theorem bX3_quickAt_16 {Z : ZT} {X : XT} {μ : Mu} {a0 : Nat} {a1 : Int32} {a2 : Int32} {a3 : Int32} {a4 : Int32} {s0 : Int32} (E : Ent Z X mX3_quickAt 0 0) (ha0 : SH a0 = .inl 3) 
    (kt : s0 = 0 → JS Z X 29 [] [] μ) (kf : ¬ (s0 = 0) → JS Z X 19 [(0, .ref (Z.2.2.1 + a0)), (1, .int a1), (2, .int a2), (3, .int a3), (4, .int a4)] [] μ) :
    JS Z X 16 [(0, .ref (Z.2.2.1 + a0)), (1, .int a1), (2, .int a2), (3, .int a3), (4, .int a4)] [.int s0] μ := by
  refine J_if_eq (tgt := 29) E dX3_quickAt_16 (by decide) (fun c => ?_) (fun c => ?_)
  · refine J.weak [] rfl ?_
    exact kt c
  · exact kf c
theorem bX3_quickAt_19 {Z : ZT} {X : XT} {μ : Mu} {a0 : Nat} {a1 : Int32} {a2 : Int32} {a3 : Int32} {a4 : Int32} (E : Ent Z X mX3_quickAt 0 0) (ha0 : SH a0 = .inl 3) (s1_ : vp_in a1 6)
    (kt : (μ (a0 + 6) (ix a1)) = a2 → JS Z X 31 [(0, .ref (Z.2.2.1 + a0)), (1, .int a1), (3, .int a3), (4, .int a4)] [] μ) (kf : ¬ ((μ (a0 + 6) (ix a1)) = a2) → JS Z X 29 [] [] μ) :
    JS Z X 19 [(0, .ref (Z.2.2.1 + a0)), (1, .int a1), (2, .int a2), (3, .int a3), (4, .int a4)] [] μ := by
  refine J_aload_n E dX3_quickAt_19 rfl ?_
  refine S_get (ci := 3) (q := 7) (v := .ref (Z.2.2.1 + (a0 + 6))) E dX3_quickAt_20 fs_X3_27 ha0 rfl ?_
  refine J_iload_n E dX3_quickAt_23 rfl ?_
  refine S_iald E dX3_quickAt_24 (shr_X3_7 ha0) s1_ ?_
  refine J_iload_n E dX3_quickAt_25 rfl ?_
  refine J_icmp_eq (tgt := 31) E dX3_quickAt_26 (by decide) (fun c => ?_) (fun c => ?_)
  · refine J.weak [0, 1, 3, 4] rfl ?_
    exact kt c
  · refine J.weak [] rfl ?_
    exact kf c
theorem bX3_quickAt_29 {Z : ZT} {X : XT} {μ : Mu} (E : Ent Z X mX3_quickAt 0 0) {P : Option Value → Mu → Prop} (hB : BodS Z X P) 
    (k : P (some (.int (nI 0))) μ) :
    JS Z X 29 [] [] μ := by
  refine J_iconst (v := nI 0) E dX3_quickAt_29 rfl ?_
  exact S_iret E hB dX3_quickAt_30 rfl k
theorem bX3_quickAt_31 {Z : ZT} {X : XT} {μ : Mu} {a0 : Nat} {a1 : Int32} {a3 : Int32} {a4 : Int32} (E : Ent Z X mX3_quickAt 0 0) (ha0 : SH a0 = .inl 3) (s1_ : vp_in a1 6)
    (kt : ¬ (((μ (a0 + 5) (ix a1)) >>> (a4 &&& 31)) &&& (nI 1)) = (nI 1) → JS Z X 48 [(0, .ref (Z.2.2.1 + a0)), (1, .int a1), (3, .int a3)] [] μ) (kf : (((μ (a0 + 5) (ix a1)) >>> (a4 &&& 31)) &&& (nI 1)) = (nI 1) → JS Z X 46 [] [] μ) :
    JS Z X 31 [(0, .ref (Z.2.2.1 + a0)), (1, .int a1), (3, .int a3), (4, .int a4)] [] μ := by
  refine J_aload_n E dX3_quickAt_31 rfl ?_
  refine S_get (ci := 3) (q := 6) (v := .ref (Z.2.2.1 + (a0 + 5))) E dX3_quickAt_32 fs_X3_24 ha0 rfl ?_
  refine J_iload_n E dX3_quickAt_35 rfl ?_
  refine S_iald E dX3_quickAt_36 (shr_X3_6 ha0) s1_ ?_
  refine J_iload E dX3_quickAt_37 rfl ?_
  refine J_ishr E dX3_quickAt_39 ?_
  refine J_iconst (v := nI 1) E dX3_quickAt_40 rfl ?_
  refine J_iand E dX3_quickAt_41 ?_
  refine J_iconst (v := nI 1) E dX3_quickAt_42 rfl ?_
  refine J_icmp_ne (tgt := 48) E dX3_quickAt_43 (by decide) (fun c => ?_) (fun c => ?_)
  · refine J.weak [0, 1, 2] rfl ?_
    exact kt c
  · refine J.weak [] rfl ?_
    exact kf c
theorem bX3_quickAt_46 {Z : ZT} {X : XT} {μ : Mu} (E : Ent Z X mX3_quickAt 0 0) {P : Option Value → Mu → Prop} (hB : BodS Z X P) 
    (k : P (some (.int (nI 0))) μ) :
    JS Z X 46 [] [] μ := by
  refine J_iconst (v := nI 0) E dX3_quickAt_46 rfl ?_
  exact S_iret E hB dX3_quickAt_47 rfl k
theorem bX3_quickAt_48 {Z : ZT} {X : XT} {μ : Mu} {a0 : Nat} {a1 : Int32} {a3 : Int32} (E : Ent Z X mX3_quickAt 0 0) (ha0 : SH a0 = .inl 3) 
    (kt : ¬ a3 = (nI 3) → JS Z X 57 [(0, .ref (Z.2.2.1 + a0)), (1, .int a1), (3, .int a3)] [] μ) (kf : a3 = (nI 3) → JS Z X 53 [(0, .ref (Z.2.2.1 + a0)), (1, .int a1), (3, .int a3)] [] μ) :
    JS Z X 48 [(0, .ref (Z.2.2.1 + a0)), (1, .int a1), (3, .int a3)] [] μ := by
  refine J_iload_n E dX3_quickAt_48 rfl ?_
  refine J_iconst (v := nI 3) E dX3_quickAt_49 rfl ?_
  refine J_icmp_ne (tgt := 57) E dX3_quickAt_50 (by decide) (fun c => ?_) (fun c => ?_)
  · exact kt c
  · exact kf c
theorem bX3_quickAt_53 {Z : ZT} {X : XT} {μ : Mu} {a0 : Nat} {a1 : Int32} {a3 : Int32} (E : Ent Z X mX3_quickAt 0 0) (ha0 : SH a0 = .inl 3) 
    (k : JS Z X 58 [(0, .ref (Z.2.2.1 + a0)), (1, .int a1), (3, .int a3)] [.int (nI 0)] μ) :
    JS Z X 53 [(0, .ref (Z.2.2.1 + a0)), (1, .int a1), (3, .int a3)] [] μ := by
  refine J_iconst (v := nI 0) E dX3_quickAt_53 rfl ?_
  refine J_goto (tgt := 58) E dX3_quickAt_54 (by decide) ?_
  exact k
theorem bX3_quickAt_57 {Z : ZT} {X : XT} {μ : Mu} {a0 : Nat} {a1 : Int32} {a3 : Int32} (E : Ent Z X mX3_quickAt 0 0) (ha0 : SH a0 = .inl 3) 
    (k : JS Z X 58 [(0, .ref (Z.2.2.1 + a0)), (1, .int a1), (3, .int a3)] [.int (nI 1)] μ) :
    JS Z X 57 [(0, .ref (Z.2.2.1 + a0)), (1, .int a1), (3, .int a3)] [] μ := by
  refine J_iconst (v := nI 1) E dX3_quickAt_57 rfl ?_
  exact k
theorem bX3_quickAt_58 {Z : ZT} {X : XT} {μ : Mu} {a0 : Nat} {a1 : Int32} {a3 : Int32} {s0 : Int32} (E : Ent Z X mX3_quickAt 0 0) (ha0 : SH a0 = .inl 3) 
    (kt : a3 = (nI 1) → JS Z X 78 [(0, .ref (Z.2.2.1 + a0)), (1, .int a1), (3, .int a3)] [] μ) (kf : ¬ (a3 = (nI 1)) → JS Z X 65 [(0, .ref (Z.2.2.1 + a0)), (1, .int a1), (3, .int a3), (5, .int s0)] [] μ) :
    JS Z X 58 [(0, .ref (Z.2.2.1 + a0)), (1, .int a1), (3, .int a3)] [.int s0] μ := by
  refine J_istore (lv' := [(0, .ref (Z.2.2.1 + a0)), (1, .int a1), (3, .int a3), (5, .int s0)]) E dX3_quickAt_58 (Nat.le_of_ble_eq_true rfl) rfl ?_
  refine J_iload_n E dX3_quickAt_60 rfl ?_
  refine J_iconst (v := nI 1) E dX3_quickAt_61 rfl ?_
  refine J_icmp_eq (tgt := 78) E dX3_quickAt_62 (by decide) (fun c => ?_) (fun c => ?_)
  · refine J.weak [0, 1, 2] rfl ?_
    exact kt c
  · exact kf c
theorem bX3_quickAt_65 {Z : ZT} {X : XT} {μ : Mu} {a0 : Nat} {a1 : Int32} {a3 : Int32} {a5 : Int32} (E : Ent Z X mX3_quickAt 0 0) (ha0 : SH a0 = .inl 3) (s1_ : vp_in a1 6)
    (kt : (μ (a0 + 3) (ix a1)) = a5 → JS Z X 78 [(0, .ref (Z.2.2.1 + a0)), (1, .int a1), (3, .int a3)] [] μ) (kf : ¬ ((μ (a0 + 3) (ix a1)) = a5) → JS Z X 76 [] [] μ) :
    JS Z X 65 [(0, .ref (Z.2.2.1 + a0)), (1, .int a1), (3, .int a3), (5, .int a5)] [] μ := by
  refine J_aload_n E dX3_quickAt_65 rfl ?_
  refine S_get (ci := 3) (q := 4) (v := .ref (Z.2.2.1 + (a0 + 3))) E dX3_quickAt_66 fs_X3_18 ha0 rfl ?_
  refine J_iload_n E dX3_quickAt_69 rfl ?_
  refine S_iald E dX3_quickAt_70 (shr_X3_4 ha0) s1_ ?_
  refine J_iload E dX3_quickAt_71 rfl ?_
  refine J_icmp_eq (tgt := 78) E dX3_quickAt_73 (by decide) (fun c => ?_) (fun c => ?_)
  · refine J.weak [0, 1, 2] rfl ?_
    exact kt c
  · refine J.weak [] rfl ?_
    exact kf c
theorem bX3_quickAt_76 {Z : ZT} {X : XT} {μ : Mu} (E : Ent Z X mX3_quickAt 0 0) {P : Option Value → Mu → Prop} (hB : BodS Z X P) 
    (k : P (some (.int (nI 0))) μ) :
    JS Z X 76 [] [] μ := by
  refine J_iconst (v := nI 0) E dX3_quickAt_76 rfl ?_
  exact S_iret E hB dX3_quickAt_77 rfl k
theorem bX3_quickAt_78 {Z : ZT} {X : XT} {μ : Mu} {a0 : Nat} {a1 : Int32} {a3 : Int32} (E : Ent Z X mX3_quickAt 0 0) {P : Option Value → Mu → Prop} (hB : BodS Z X P) (ha0 : SH a0 = .inl 3) (s1_ : vp_in ((a1 * (nI 4)) + a3) 24)
    (k : P (some (.int (μ (a0 + 4) (ix ((a1 * (nI 4)) + a3))))) μ) :
    JS Z X 78 [(0, .ref (Z.2.2.1 + a0)), (1, .int a1), (3, .int a3)] [] μ := by
  refine J_aload_n E dX3_quickAt_78 rfl ?_
  refine S_get (ci := 3) (q := 5) (v := .ref (Z.2.2.1 + (a0 + 4))) E dX3_quickAt_79 fs_X3_21 ha0 rfl ?_
  refine J_iload_n E dX3_quickAt_82 rfl ?_
  refine J_iconst (v := nI 4) E dX3_quickAt_83 rfl ?_
  refine J_imul E dX3_quickAt_84 ?_
  refine J_iload_n E dX3_quickAt_85 rfl ?_
  refine J_iadd E dX3_quickAt_86 ?_
  refine S_iald E dX3_quickAt_87 (shr_X3_5 ha0) s1_ ?_
  exact S_iret E hB dX3_quickAt_88 rfl k
theorem dX3_digestOnto_0 : decode cX3_digestOnto 0 = .ok (.lload_n 1, 1) := by decide +kernel
theorem dX3_digestOnto_1 : decode cX3_digestOnto 1 = .ok (.lstore_n 3, 1) := by decide +kernel
theorem dX3_digestOnto_2 : decode cX3_digestOnto 2 = .ok (.iconst 0, 1) := by decide +kernel
theorem dX3_digestOnto_3 : decode cX3_digestOnto 3 = .ok (.istore 5, 2) := by decide +kernel
theorem dX3_digestOnto_5 : decode cX3_digestOnto 5 = .ok (.iload 5, 2) := by decide +kernel
theorem dX3_digestOnto_7 : decode cX3_digestOnto 7 = .ok (.aload_n 0, 1) := by decide +kernel
theorem dX3_digestOnto_8 : decode cX3_digestOnto 8 = .ok (.getfield 48, 3) := by decide +kernel
theorem dX3_digestOnto_11 : decode cX3_digestOnto 11 = .ok (.if_icmp .ge 61, 3) := by decide +kernel
theorem dX3_digestOnto_14 : decode cX3_digestOnto 14 = .ok (.iconst 0, 1) := by decide +kernel
theorem dX3_digestOnto_15 : decode cX3_digestOnto 15 = .ok (.istore 6, 2) := by decide +kernel
theorem dX3_digestOnto_17 : decode cX3_digestOnto 17 = .ok (.iload 6, 2) := by decide +kernel
theorem dX3_digestOnto_19 : decode cX3_digestOnto 19 = .ok (.iload 5, 2) := by decide +kernel
theorem dX3_digestOnto_21 : decode cX3_digestOnto 21 = .ok (.if_icmp .ge 30, 3) := by decide +kernel
theorem dX3_digestOnto_24 : decode cX3_digestOnto 24 = .ok (.ldc2_w 94, 3) := by decide +kernel
theorem dX3_digestOnto_27 : decode cX3_digestOnto 27 = .ok (.lload_n 3, 1) := by decide +kernel
theorem dX3_digestOnto_28 : decode cX3_digestOnto 28 = .ok (.lmul, 1) := by decide +kernel
theorem dX3_digestOnto_29 : decode cX3_digestOnto 29 = .ok (.aload_n 0, 1) := by decide +kernel
theorem dX3_digestOnto_30 : decode cX3_digestOnto 30 = .ok (.getfield 9, 3) := by decide +kernel
theorem dX3_digestOnto_33 : decode cX3_digestOnto 33 = .ok (.iload 5, 2) := by decide +kernel
theorem dX3_digestOnto_35 : decode cX3_digestOnto 35 = .ok (.bipush 10, 2) := by decide +kernel
theorem dX3_digestOnto_37 : decode cX3_digestOnto 37 = .ok (.imul, 1) := by decide +kernel
theorem dX3_digestOnto_38 : decode cX3_digestOnto 38 = .ok (.iload 6, 2) := by decide +kernel
theorem dX3_digestOnto_40 : decode cX3_digestOnto 40 = .ok (.iadd, 1) := by decide +kernel
theorem dX3_digestOnto_41 : decode cX3_digestOnto 41 = .ok (.iaload, 1) := by decide +kernel
theorem dX3_digestOnto_42 : decode cX3_digestOnto 42 = .ok (.i2l, 1) := by decide +kernel
theorem dX3_digestOnto_43 : decode cX3_digestOnto 43 = .ok (.ladd, 1) := by decide +kernel
theorem dX3_digestOnto_44 : decode cX3_digestOnto 44 = .ok (.lstore_n 3, 1) := by decide +kernel
theorem dX3_digestOnto_45 : decode cX3_digestOnto 45 = .ok (.iinc 6 1, 3) := by decide +kernel
theorem dX3_digestOnto_48 : decode cX3_digestOnto 48 = .ok (.goto (-31), 3) := by decide +kernel
theorem dX3_digestOnto_51 : decode cX3_digestOnto 51 = .ok (.ldc2_w 94, 3) := by decide +kernel
theorem dX3_digestOnto_54 : decode cX3_digestOnto 54 = .ok (.lload_n 3, 1) := by decide +kernel
theorem dX3_digestOnto_55 : decode cX3_digestOnto 55 = .ok (.lmul, 1) := by decide +kernel
theorem dX3_digestOnto_56 : decode cX3_digestOnto 56 = .ok (.aload_n 0, 1) := by decide +kernel
theorem dX3_digestOnto_57 : decode cX3_digestOnto 57 = .ok (.getfield 15, 3) := by decide +kernel
theorem dX3_digestOnto_60 : decode cX3_digestOnto 60 = .ok (.iload 5, 2) := by decide +kernel
theorem dX3_digestOnto_62 : decode cX3_digestOnto 62 = .ok (.iaload, 1) := by decide +kernel
theorem dX3_digestOnto_63 : decode cX3_digestOnto 63 = .ok (.i2l, 1) := by decide +kernel
theorem dX3_digestOnto_64 : decode cX3_digestOnto 64 = .ok (.ladd, 1) := by decide +kernel
theorem dX3_digestOnto_65 : decode cX3_digestOnto 65 = .ok (.lstore_n 3, 1) := by decide +kernel
theorem dX3_digestOnto_66 : decode cX3_digestOnto 66 = .ok (.iinc 5 1, 3) := by decide +kernel
theorem dX3_digestOnto_69 : decode cX3_digestOnto 69 = .ok (.goto (-64), 3) := by decide +kernel
theorem dX3_digestOnto_72 : decode cX3_digestOnto 72 = .ok (.iconst 0, 1) := by decide +kernel
theorem dX3_digestOnto_73 : decode cX3_digestOnto 73 = .ok (.istore 5, 2) := by decide +kernel
theorem dX3_digestOnto_75 : decode cX3_digestOnto 75 = .ok (.iload 5, 2) := by decide +kernel
theorem dX3_digestOnto_77 : decode cX3_digestOnto 77 = .ok (.aload_n 0, 1) := by decide +kernel
theorem dX3_digestOnto_78 : decode cX3_digestOnto 78 = .ok (.getfield 52, 3) := by decide +kernel
theorem dX3_digestOnto_81 : decode cX3_digestOnto 81 = .ok (.if_icmp .ge 89, 3) := by decide +kernel
theorem dX3_digestOnto_84 : decode cX3_digestOnto 84 = .ok (.ldc2_w 94, 3) := by decide +kernel
theorem dX3_digestOnto_87 : decode cX3_digestOnto 87 = .ok (.lload_n 3, 1) := by decide +kernel
theorem dX3_digestOnto_88 : decode cX3_digestOnto 88 = .ok (.lmul, 1) := by decide +kernel
theorem dX3_digestOnto_89 : decode cX3_digestOnto 89 = .ok (.aload_n 0, 1) := by decide +kernel
theorem dX3_digestOnto_90 : decode cX3_digestOnto 90 = .ok (.getfield 18, 3) := by decide +kernel
theorem dX3_digestOnto_93 : decode cX3_digestOnto 93 = .ok (.iload 5, 2) := by decide +kernel
theorem dX3_digestOnto_95 : decode cX3_digestOnto 95 = .ok (.iaload, 1) := by decide +kernel
theorem dX3_digestOnto_96 : decode cX3_digestOnto 96 = .ok (.i2l, 1) := by decide +kernel
theorem dX3_digestOnto_97 : decode cX3_digestOnto 97 = .ok (.ladd, 1) := by decide +kernel
theorem dX3_digestOnto_98 : decode cX3_digestOnto 98 = .ok (.lstore_n 3, 1) := by decide +kernel
theorem dX3_digestOnto_99 : decode cX3_digestOnto 99 = .ok (.iconst 0, 1) := by decide +kernel
theorem dX3_digestOnto_100 : decode cX3_digestOnto 100 = .ok (.istore 6, 2) := by decide +kernel
theorem dX3_digestOnto_102 : decode cX3_digestOnto 102 = .ok (.iload 6, 2) := by decide +kernel
theorem dX3_digestOnto_104 : decode cX3_digestOnto 104 = .ok (.iconst 4, 1) := by decide +kernel
theorem dX3_digestOnto_105 : decode cX3_digestOnto 105 = .ok (.if_icmp .ge 29, 3) := by decide +kernel
theorem dX3_digestOnto_108 : decode cX3_digestOnto 108 = .ok (.ldc2_w 94, 3) := by decide +kernel
theorem dX3_digestOnto_111 : decode cX3_digestOnto 111 = .ok (.lload_n 3, 1) := by decide +kernel
theorem dX3_digestOnto_112 : decode cX3_digestOnto 112 = .ok (.lmul, 1) := by decide +kernel
theorem dX3_digestOnto_113 : decode cX3_digestOnto 113 = .ok (.aload_n 0, 1) := by decide +kernel
theorem dX3_digestOnto_114 : decode cX3_digestOnto 114 = .ok (.getfield 21, 3) := by decide +kernel
theorem dX3_digestOnto_117 : decode cX3_digestOnto 117 = .ok (.iload 5, 2) := by decide +kernel
theorem dX3_digestOnto_119 : decode cX3_digestOnto 119 = .ok (.iconst 4, 1) := by decide +kernel
theorem dX3_digestOnto_120 : decode cX3_digestOnto 120 = .ok (.imul, 1) := by decide +kernel
theorem dX3_digestOnto_121 : decode cX3_digestOnto 121 = .ok (.iload 6, 2) := by decide +kernel
theorem dX3_digestOnto_123 : decode cX3_digestOnto 123 = .ok (.iadd, 1) := by decide +kernel
theorem dX3_digestOnto_124 : decode cX3_digestOnto 124 = .ok (.iaload, 1) := by decide +kernel
theorem dX3_digestOnto_125 : decode cX3_digestOnto 125 = .ok (.i2l, 1) := by decide +kernel
theorem dX3_digestOnto_126 : decode cX3_digestOnto 126 = .ok (.ladd, 1) := by decide +kernel
theorem dX3_digestOnto_127 : decode cX3_digestOnto 127 = .ok (.lstore_n 3, 1) := by decide +kernel
theorem dX3_digestOnto_128 : decode cX3_digestOnto 128 = .ok (.iinc 6 1, 3) := by decide +kernel
theorem dX3_digestOnto_131 : decode cX3_digestOnto 131 = .ok (.goto (-29), 3) := by decide +kernel
theorem dX3_digestOnto_134 : decode cX3_digestOnto 134 = .ok (.ldc2_w 94, 3) := by decide +kernel
theorem dX3_digestOnto_137 : decode cX3_digestOnto 137 = .ok (.lload_n 3, 1) := by decide +kernel
theorem dX3_digestOnto_138 : decode cX3_digestOnto 138 = .ok (.lmul, 1) := by decide +kernel
theorem dX3_digestOnto_139 : decode cX3_digestOnto 139 = .ok (.aload_n 0, 1) := by decide +kernel
theorem dX3_digestOnto_140 : decode cX3_digestOnto 140 = .ok (.getfield 24, 3) := by decide +kernel
theorem dX3_digestOnto_143 : decode cX3_digestOnto 143 = .ok (.iload 5, 2) := by decide +kernel
theorem dX3_digestOnto_145 : decode cX3_digestOnto 145 = .ok (.iaload, 1) := by decide +kernel
theorem dX3_digestOnto_146 : decode cX3_digestOnto 146 = .ok (.i2l, 1) := by decide +kernel
theorem dX3_digestOnto_147 : decode cX3_digestOnto 147 = .ok (.ladd, 1) := by decide +kernel
theorem dX3_digestOnto_148 : decode cX3_digestOnto 148 = .ok (.lstore_n 3, 1) := by decide +kernel
theorem dX3_digestOnto_149 : decode cX3_digestOnto 149 = .ok (.ldc2_w 94, 3) := by decide +kernel
theorem dX3_digestOnto_152 : decode cX3_digestOnto 152 = .ok (.lload_n 3, 1) := by decide +kernel
theorem dX3_digestOnto_153 : decode cX3_digestOnto 153 = .ok (.lmul, 1) := by decide +kernel
theorem dX3_digestOnto_154 : decode cX3_digestOnto 154 = .ok (.aload_n 0, 1) := by decide +kernel
theorem dX3_digestOnto_155 : decode cX3_digestOnto 155 = .ok (.getfield 27, 3) := by decide +kernel
theorem dX3_digestOnto_158 : decode cX3_digestOnto 158 = .ok (.iload 5, 2) := by decide +kernel
theorem dX3_digestOnto_160 : decode cX3_digestOnto 160 = .ok (.iaload, 1) := by decide +kernel
theorem dX3_digestOnto_161 : decode cX3_digestOnto 161 = .ok (.i2l, 1) := by decide +kernel
theorem dX3_digestOnto_162 : decode cX3_digestOnto 162 = .ok (.ladd, 1) := by decide +kernel
theorem dX3_digestOnto_163 : decode cX3_digestOnto 163 = .ok (.lstore_n 3, 1) := by decide +kernel
theorem dX3_digestOnto_164 : decode cX3_digestOnto 164 = .ok (.iinc 5 1, 3) := by decide +kernel
theorem dX3_digestOnto_167 : decode cX3_digestOnto 167 = .ok (.goto (-92), 3) := by decide +kernel
theorem dX3_digestOnto_170 : decode cX3_digestOnto 170 = .ok (.iconst 0, 1) := by decide +kernel
theorem dX3_digestOnto_171 : decode cX3_digestOnto 171 = .ok (.istore 5, 2) := by decide +kernel
theorem dX3_digestOnto_173 : decode cX3_digestOnto 173 = .ok (.iload 5, 2) := by decide +kernel
theorem dX3_digestOnto_175 : decode cX3_digestOnto 175 = .ok (.aload_n 0, 1) := by decide +kernel
theorem dX3_digestOnto_176 : decode cX3_digestOnto 176 = .ok (.getfield 55, 3) := by decide +kernel
theorem dX3_digestOnto_179 : decode cX3_digestOnto 179 = .ok (.if_icmp .ge 69, 3) := by decide +kernel
theorem dX3_digestOnto_182 : decode cX3_digestOnto 182 = .ok (.ldc2_w 94, 3) := by decide +kernel
theorem dX3_digestOnto_185 : decode cX3_digestOnto 185 = .ok (.lload_n 3, 1) := by decide +kernel
theorem dX3_digestOnto_186 : decode cX3_digestOnto 186 = .ok (.lmul, 1) := by decide +kernel
theorem dX3_digestOnto_187 : decode cX3_digestOnto 187 = .ok (.aload_n 0, 1) := by decide +kernel
theorem dX3_digestOnto_188 : decode cX3_digestOnto 188 = .ok (.getfield 30, 3) := by decide +kernel
theorem dX3_digestOnto_191 : decode cX3_digestOnto 191 = .ok (.iload 5, 2) := by decide +kernel
theorem dX3_digestOnto_193 : decode cX3_digestOnto 193 = .ok (.iaload, 1) := by decide +kernel
theorem dX3_digestOnto_194 : decode cX3_digestOnto 194 = .ok (.i2l, 1) := by decide +kernel
theorem dX3_digestOnto_195 : decode cX3_digestOnto 195 = .ok (.ladd, 1) := by decide +kernel
theorem dX3_digestOnto_196 : decode cX3_digestOnto 196 = .ok (.lstore_n 3, 1) := by decide +kernel
theorem dX3_digestOnto_197 : decode cX3_digestOnto 197 = .ok (.ldc2_w 94, 3) := by decide +kernel
theorem dX3_digestOnto_200 : decode cX3_digestOnto 200 = .ok (.lload_n 3, 1) := by decide +kernel
theorem dX3_digestOnto_201 : decode cX3_digestOnto 201 = .ok (.lmul, 1) := by decide +kernel
theorem dX3_digestOnto_202 : decode cX3_digestOnto 202 = .ok (.aload_n 0, 1) := by decide +kernel
theorem dX3_digestOnto_203 : decode cX3_digestOnto 203 = .ok (.getfield 33, 3) := by decide +kernel
theorem dX3_digestOnto_206 : decode cX3_digestOnto 206 = .ok (.iload 5, 2) := by decide +kernel
theorem dX3_digestOnto_208 : decode cX3_digestOnto 208 = .ok (.iaload, 1) := by decide +kernel
theorem dX3_digestOnto_209 : decode cX3_digestOnto 209 = .ok (.i2l, 1) := by decide +kernel
theorem dX3_digestOnto_210 : decode cX3_digestOnto 210 = .ok (.ladd, 1) := by decide +kernel
theorem dX3_digestOnto_211 : decode cX3_digestOnto 211 = .ok (.lstore_n 3, 1) := by decide +kernel
theorem dX3_digestOnto_212 : decode cX3_digestOnto 212 = .ok (.ldc2_w 94, 3) := by decide +kernel
theorem dX3_digestOnto_215 : decode cX3_digestOnto 215 = .ok (.lload_n 3, 1) := by decide +kernel
theorem dX3_digestOnto_216 : decode cX3_digestOnto 216 = .ok (.lmul, 1) := by decide +kernel
theorem dX3_digestOnto_217 : decode cX3_digestOnto 217 = .ok (.aload_n 0, 1) := by decide +kernel
theorem dX3_digestOnto_218 : decode cX3_digestOnto 218 = .ok (.getfield 36, 3) := by decide +kernel
theorem dX3_digestOnto_221 : decode cX3_digestOnto 221 = .ok (.iload 5, 2) := by decide +kernel
theorem dX3_digestOnto_223 : decode cX3_digestOnto 223 = .ok (.iaload, 1) := by decide +kernel
theorem dX3_digestOnto_224 : decode cX3_digestOnto 224 = .ok (.i2l, 1) := by decide +kernel
theorem dX3_digestOnto_225 : decode cX3_digestOnto 225 = .ok (.ladd, 1) := by decide +kernel
theorem dX3_digestOnto_226 : decode cX3_digestOnto 226 = .ok (.lstore_n 3, 1) := by decide +kernel
theorem dX3_digestOnto_227 : decode cX3_digestOnto 227 = .ok (.ldc2_w 94, 3) := by decide +kernel
theorem dX3_digestOnto_230 : decode cX3_digestOnto 230 = .ok (.lload_n 3, 1) := by decide +kernel
theorem dX3_digestOnto_231 : decode cX3_digestOnto 231 = .ok (.lmul, 1) := by decide +kernel
theorem dX3_digestOnto_232 : decode cX3_digestOnto 232 = .ok (.aload_n 0, 1) := by decide +kernel
theorem dX3_digestOnto_233 : decode cX3_digestOnto 233 = .ok (.getfield 39, 3) := by decide +kernel
theorem dX3_digestOnto_236 : decode cX3_digestOnto 236 = .ok (.iload 5, 2) := by decide +kernel
theorem dX3_digestOnto_238 : decode cX3_digestOnto 238 = .ok (.iaload, 1) := by decide +kernel
theorem dX3_digestOnto_239 : decode cX3_digestOnto 239 = .ok (.i2l, 1) := by decide +kernel
theorem dX3_digestOnto_240 : decode cX3_digestOnto 240 = .ok (.ladd, 1) := by decide +kernel
theorem dX3_digestOnto_241 : decode cX3_digestOnto 241 = .ok (.lstore_n 3, 1) := by decide +kernel
theorem dX3_digestOnto_242 : decode cX3_digestOnto 242 = .ok (.iinc 5 1, 3) := by decide +kernel
theorem dX3_digestOnto_245 : decode cX3_digestOnto 245 = .ok (.goto (-72), 3) := by decide +kernel
theorem dX3_digestOnto_248 : decode cX3_digestOnto 248 = .ok (.iconst 0, 1) := by decide +kernel
theorem dX3_digestOnto_249 : decode cX3_digestOnto 249 = .ok (.istore 5, 2) := by decide +kernel
theorem dX3_digestOnto_251 : decode cX3_digestOnto 251 = .ok (.iload 5, 2) := by decide +kernel
theorem dX3_digestOnto_253 : decode cX3_digestOnto 253 = .ok (.iconst 2, 1) := by decide +kernel
theorem dX3_digestOnto_254 : decode cX3_digestOnto 254 = .ok (.if_icmp .ge 51, 3) := by decide +kernel
theorem dX3_digestOnto_257 : decode cX3_digestOnto 257 = .ok (.iconst 0, 1) := by decide +kernel
theorem dX3_digestOnto_258 : decode cX3_digestOnto 258 = .ok (.istore 6, 2) := by decide +kernel
theorem dX3_digestOnto_260 : decode cX3_digestOnto 260 = .ok (.iload 6, 2) := by decide +kernel
theorem dX3_digestOnto_262 : decode cX3_digestOnto 262 = .ok (.aload_n 0, 1) := by decide +kernel
theorem dX3_digestOnto_263 : decode cX3_digestOnto 263 = .ok (.getfield 42, 3) := by decide +kernel
theorem dX3_digestOnto_266 : decode cX3_digestOnto 266 = .ok (.iload 5, 2) := by decide +kernel
theorem dX3_digestOnto_268 : decode cX3_digestOnto 268 = .ok (.iaload, 1) := by decide +kernel
theorem dX3_digestOnto_269 : decode cX3_digestOnto 269 = .ok (.if_icmp .ge 30, 3) := by decide +kernel
theorem dX3_digestOnto_272 : decode cX3_digestOnto 272 = .ok (.ldc2_w 94, 3) := by decide +kernel
theorem dX3_digestOnto_275 : decode cX3_digestOnto 275 = .ok (.lload_n 3, 1) := by decide +kernel
theorem dX3_digestOnto_276 : decode cX3_digestOnto 276 = .ok (.lmul, 1) := by decide +kernel
theorem dX3_digestOnto_277 : decode cX3_digestOnto 277 = .ok (.aload_n 0, 1) := by decide +kernel
theorem dX3_digestOnto_278 : decode cX3_digestOnto 278 = .ok (.getfield 45, 3) := by decide +kernel
theorem dX3_digestOnto_281 : decode cX3_digestOnto 281 = .ok (.iload 5, 2) := by decide +kernel
theorem dX3_digestOnto_283 : decode cX3_digestOnto 283 = .ok (.bipush 6, 2) := by decide +kernel
theorem dX3_digestOnto_285 : decode cX3_digestOnto 285 = .ok (.imul, 1) := by decide +kernel
theorem dX3_digestOnto_286 : decode cX3_digestOnto 286 = .ok (.iload 6, 2) := by decide +kernel
theorem dX3_digestOnto_288 : decode cX3_digestOnto 288 = .ok (.iadd, 1) := by decide +kernel
theorem dX3_digestOnto_289 : decode cX3_digestOnto 289 = .ok (.iaload, 1) := by decide +kernel
theorem dX3_digestOnto_290 : decode cX3_digestOnto 290 = .ok (.i2l, 1) := by decide +kernel
theorem dX3_digestOnto_291 : decode cX3_digestOnto 291 = .ok (.ladd, 1) := by decide +kernel
theorem dX3_digestOnto_292 : decode cX3_digestOnto 292 = .ok (.lstore_n 3, 1) := by decide +kernel
theorem dX3_digestOnto_293 : decode cX3_digestOnto 293 = .ok (.iinc 6 1, 3) := by decide +kernel
theorem dX3_digestOnto_296 : decode cX3_digestOnto 296 = .ok (.goto (-36), 3) := by decide +kernel
theorem dX3_digestOnto_299 : decode cX3_digestOnto 299 = .ok (.iinc 5 1, 3) := by decide +kernel
theorem dX3_digestOnto_302 : decode cX3_digestOnto 302 = .ok (.goto (-51), 3) := by decide +kernel
theorem dX3_digestOnto_305 : decode cX3_digestOnto 305 = .ok (.lload_n 3, 1) := by decide +kernel
theorem dX3_digestOnto_306 : decode cX3_digestOnto 306 = .ok (.lreturn, 1) := by decide +kernel
theorem bX3_digestOnto_0 {Z : ZT} {X : XT} {μ : Mu} {a0 : Nat} {a1 : Int64} (E : Ent Z X mX3_digestOnto 0 0) (ha0 : SH a0 = .inl 3) 
    (k : JS Z X 5 [(0, .ref (Z.2.2.1 + a0)), (3, .long a1), (5, .int (nI 0))] [] μ) :
    JS Z X 0 [(0, .ref (Z.2.2.1 + a0)), (1, .long a1)] [] μ := by
  refine J_lload_n E dX3_digestOnto_0 rfl ?_
  refine J_lstore_n (lv' := [(0, .ref (Z.2.2.1 + a0)), (1, .long a1), (3, .long a1)]) E dX3_digestOnto_1 (Nat.le_of_ble_eq_true rfl) rfl ?_
  refine J_iconst (v := nI 0) E dX3_digestOnto_2 rfl ?_
  refine J_istore (lv' := [(0, .ref (Z.2.2.1 + a0)), (1, .long a1), (3, .long a1), (5, .int (nI 0))]) E dX3_digestOnto_3 (Nat.le_of_ble_eq_true rfl) rfl ?_
  refine J.weak [0, 2, 3] rfl ?_
  exact k
theorem bX3_digestOnto_5 {Z : ZT} {X : XT} {μ : Mu} {a0 : Nat} {a3 : Int64} {a5 : Int32} (E : Ent Z X mX3_digestOnto 0 0) (ha0 : SH a0 = .inl 3) 
    (kt : (μ a0 0) ≤ a5 → JS Z X 72 [(0, .ref (Z.2.2.1 + a0)), (3, .long a3)] [] μ) (kf : ¬ ((μ a0 0) ≤ a5) → JS Z X 14 [(0, .ref (Z.2.2.1 + a0)), (3, .long a3), (5, .int a5)] [] μ) :
    JS Z X 5 [(0, .ref (Z.2.2.1 + a0)), (3, .long a3), (5, .int a5)] [] μ := by
  refine J_iload E dX3_digestOnto_5 rfl ?_
  refine J_aload_n E dX3_digestOnto_7 rfl ?_
  refine S_get (ci := 3) (q := 0) (v := .int (μ a0 0)) E dX3_digestOnto_8 fs_X3_48 ha0 rfl ?_
  refine J_icmp_ge (tgt := 72) E dX3_digestOnto_11 (by decide) (fun c => ?_) (fun c => ?_)
  · refine J.weak [0, 1] rfl ?_
    exact kt c
  · exact kf c
theorem bX3_digestOnto_14 {Z : ZT} {X : XT} {μ : Mu} {a0 : Nat} {a3 : Int64} {a5 : Int32} (E : Ent Z X mX3_digestOnto 0 0) (ha0 : SH a0 = .inl 3) 
    (k : JS Z X 17 [(0, .ref (Z.2.2.1 + a0)), (3, .long a3), (5, .int a5), (6, .int (nI 0))] [] μ) :
    JS Z X 14 [(0, .ref (Z.2.2.1 + a0)), (3, .long a3), (5, .int a5)] [] μ := by
  refine J_iconst (v := nI 0) E dX3_digestOnto_14 rfl ?_
  refine J_istore (lv' := [(0, .ref (Z.2.2.1 + a0)), (3, .long a3), (5, .int a5), (6, .int (nI 0))]) E dX3_digestOnto_15 (Nat.le_of_ble_eq_true rfl) rfl ?_
  exact k
theorem bX3_digestOnto_17 {Z : ZT} {X : XT} {μ : Mu} {a0 : Nat} {a3 : Int64} {a5 : Int32} {a6 : Int32} (E : Ent Z X mX3_digestOnto 0 0) (ha0 : SH a0 = .inl 3) 
    (kt : a5 ≤ a6 → JS Z X 51 [(0, .ref (Z.2.2.1 + a0)), (3, .long a3), (5, .int a5)] [] μ) (kf : ¬ (a5 ≤ a6) → JS Z X 24 [(0, .ref (Z.2.2.1 + a0)), (3, .long a3), (5, .int a5), (6, .int a6)] [] μ) :
    JS Z X 17 [(0, .ref (Z.2.2.1 + a0)), (3, .long a3), (5, .int a5), (6, .int a6)] [] μ := by
  refine J_iload E dX3_digestOnto_17 rfl ?_
  refine J_iload E dX3_digestOnto_19 rfl ?_
  refine J_icmp_ge (tgt := 51) E dX3_digestOnto_21 (by decide) (fun c => ?_) (fun c => ?_)
  · refine J.weak [0, 1, 2] rfl ?_
    exact kt c
  · exact kf c
theorem bX3_digestOnto_24 {Z : ZT} {X : XT} {μ : Mu} {a0 : Nat} {a3 : Int64} {a5 : Int32} {a6 : Int32} (E : Ent Z X mX3_digestOnto 0 0) (ha0 : SH a0 = .inl 3) (s1_ : vp_in ((a5 * (nI 10)) + a6) 100)
    (k : JS Z X 17 [(0, .ref (Z.2.2.1 + a0)), (3, .long (((lN 31) * a3) + ((μ (a0 + 1) (ix ((a5 * (nI 10)) + a6))).toInt64))), (5, .int a5), (6, .int (a6 + nI 1))] [] μ) :
    JS Z X 24 [(0, .ref (Z.2.2.1 + a0)), (3, .long a3), (5, .int a5), (6, .int a6)] [] μ := by
  refine J_ldc2 (v := lN 31) E dX3_digestOnto_24 w5_175 ?_
  refine J_lload_n E dX3_digestOnto_27 rfl ?_
  refine J_lmul E dX3_digestOnto_28 ?_
  refine J_aload_n E dX3_digestOnto_29 rfl ?_
  refine S_get (ci := 3) (q := 1) (v := .ref (Z.2.2.1 + (a0 + 1))) E dX3_digestOnto_30 fs_X3_9 ha0 rfl ?_
  refine J_iload E dX3_digestOnto_33 rfl ?_
  refine J_bipush (v := nI 10) E dX3_digestOnto_35 rfl ?_
  refine J_imul E dX3_digestOnto_37 ?_
  refine J_iload E dX3_digestOnto_38 rfl ?_
  refine J_iadd E dX3_digestOnto_40 ?_
  refine S_iald E dX3_digestOnto_41 (shr_X3_1 ha0) s1_ ?_
  refine J_i2l E dX3_digestOnto_42 ?_
  refine J_ladd E dX3_digestOnto_43 ?_
  refine J_lstore_n (lv' := [(0, .ref (Z.2.2.1 + a0)), (3, .long (((lN 31) * a3) + ((μ (a0 + 1) (ix ((a5 * (nI 10)) + a6))).toInt64))), (5, .int a5), (6, .int a6)]) E dX3_digestOnto_44 (Nat.le_of_ble_eq_true rfl) rfl ?_
  refine J_iinc (v := a6 + nI 1) (lv' := [(0, .ref (Z.2.2.1 + a0)), (3, .long (((lN 31) * a3) + ((μ (a0 + 1) (ix ((a5 * (nI 10)) + a6))).toInt64))), (5, .int a5), (6, .int (a6 + nI 1))]) E dX3_digestOnto_45 rfl rfl (Nat.le_of_ble_eq_true rfl) rfl ?_
  refine J_goto (tgt := 17) E dX3_digestOnto_48 (by decide) ?_
  exact k
theorem bX3_digestOnto_51 {Z : ZT} {X : XT} {μ : Mu} {a0 : Nat} {a3 : Int64} {a5 : Int32} (E : Ent Z X mX3_digestOnto 0 0) (ha0 : SH a0 = .inl 3) (s1_ : vp_in a5 10)
    (k : JS Z X 5 [(0, .ref (Z.2.2.1 + a0)), (3, .long (((lN 31) * a3) + ((μ (a0 + 2) (ix a5)).toInt64))), (5, .int (a5 + nI 1))] [] μ) :
    JS Z X 51 [(0, .ref (Z.2.2.1 + a0)), (3, .long a3), (5, .int a5)] [] μ := by
  refine J_ldc2 (v := lN 31) E dX3_digestOnto_51 w5_175 ?_
  refine J_lload_n E dX3_digestOnto_54 rfl ?_
  refine J_lmul E dX3_digestOnto_55 ?_
  refine J_aload_n E dX3_digestOnto_56 rfl ?_
  refine S_get (ci := 3) (q := 2) (v := .ref (Z.2.2.1 + (a0 + 2))) E dX3_digestOnto_57 fs_X3_15 ha0 rfl ?_
  refine J_iload E dX3_digestOnto_60 rfl ?_
  refine S_iald E dX3_digestOnto_62 (shr_X3_2 ha0) s1_ ?_
  refine J_i2l E dX3_digestOnto_63 ?_
  refine J_ladd E dX3_digestOnto_64 ?_
  refine J_lstore_n (lv' := [(0, .ref (Z.2.2.1 + a0)), (3, .long (((lN 31) * a3) + ((μ (a0 + 2) (ix a5)).toInt64))), (5, .int a5)]) E dX3_digestOnto_65 (Nat.le_of_ble_eq_true rfl) rfl ?_
  refine J_iinc (v := a5 + nI 1) (lv' := [(0, .ref (Z.2.2.1 + a0)), (3, .long (((lN 31) * a3) + ((μ (a0 + 2) (ix a5)).toInt64))), (5, .int (a5 + nI 1))]) E dX3_digestOnto_66 rfl rfl (Nat.le_of_ble_eq_true rfl) rfl ?_
  refine J_goto (tgt := 5) E dX3_digestOnto_69 (by decide) ?_
  exact k
theorem bX3_digestOnto_72 {Z : ZT} {X : XT} {μ : Mu} {a0 : Nat} {a3 : Int64} (E : Ent Z X mX3_digestOnto 0 0) (ha0 : SH a0 = .inl 3) 
    (k : JS Z X 75 [(0, .ref (Z.2.2.1 + a0)), (3, .long a3), (5, .int (nI 0))] [] μ) :
    JS Z X 72 [(0, .ref (Z.2.2.1 + a0)), (3, .long a3)] [] μ := by
  refine J_iconst (v := nI 0) E dX3_digestOnto_72 rfl ?_
  refine J_istore (lv' := [(0, .ref (Z.2.2.1 + a0)), (3, .long a3), (5, .int (nI 0))]) E dX3_digestOnto_73 (Nat.le_of_ble_eq_true rfl) rfl ?_
  exact k
theorem bX3_digestOnto_75 {Z : ZT} {X : XT} {μ : Mu} {a0 : Nat} {a3 : Int64} {a5 : Int32} (E : Ent Z X mX3_digestOnto 0 0) (ha0 : SH a0 = .inl 3) 
    (kt : (μ a0 3) ≤ a5 → JS Z X 170 [(0, .ref (Z.2.2.1 + a0)), (3, .long a3)] [] μ) (kf : ¬ ((μ a0 3) ≤ a5) → JS Z X 84 [(0, .ref (Z.2.2.1 + a0)), (3, .long a3), (5, .int a5)] [] μ) :
    JS Z X 75 [(0, .ref (Z.2.2.1 + a0)), (3, .long a3), (5, .int a5)] [] μ := by
  refine J_iload E dX3_digestOnto_75 rfl ?_
  refine J_aload_n E dX3_digestOnto_77 rfl ?_
  refine S_get (ci := 3) (q := 3) (v := .int (μ a0 3)) E dX3_digestOnto_78 fs_X3_52 ha0 rfl ?_
  refine J_icmp_ge (tgt := 170) E dX3_digestOnto_81 (by decide) (fun c => ?_) (fun c => ?_)
  · refine J.weak [0, 1] rfl ?_
    exact kt c
  · exact kf c
theorem bX3_digestOnto_84 {Z : ZT} {X : XT} {μ : Mu} {a0 : Nat} {a3 : Int64} {a5 : Int32} (E : Ent Z X mX3_digestOnto 0 0) (ha0 : SH a0 = .inl 3) (s1_ : vp_in a5 6)
    (k : JS Z X 102 [(0, .ref (Z.2.2.1 + a0)), (3, .long (((lN 31) * a3) + ((μ (a0 + 3) (ix a5)).toInt64))), (5, .int a5), (6, .int (nI 0))] [] μ) :
    JS Z X 84 [(0, .ref (Z.2.2.1 + a0)), (3, .long a3), (5, .int a5)] [] μ := by
  refine J_ldc2 (v := lN 31) E dX3_digestOnto_84 w5_175 ?_
  refine J_lload_n E dX3_digestOnto_87 rfl ?_
  refine J_lmul E dX3_digestOnto_88 ?_
  refine J_aload_n E dX3_digestOnto_89 rfl ?_
  refine S_get (ci := 3) (q := 4) (v := .ref (Z.2.2.1 + (a0 + 3))) E dX3_digestOnto_90 fs_X3_18 ha0 rfl ?_
  refine J_iload E dX3_digestOnto_93 rfl ?_
  refine S_iald E dX3_digestOnto_95 (shr_X3_4 ha0) s1_ ?_
  refine J_i2l E dX3_digestOnto_96 ?_
  refine J_ladd E dX3_digestOnto_97 ?_
  refine J_lstore_n (lv' := [(0, .ref (Z.2.2.1 + a0)), (3, .long (((lN 31) * a3) + ((μ (a0 + 3) (ix a5)).toInt64))), (5, .int a5)]) E dX3_digestOnto_98 (Nat.le_of_ble_eq_true rfl) rfl ?_
  refine J_iconst (v := nI 0) E dX3_digestOnto_99 rfl ?_
  refine J_istore (lv' := [(0, .ref (Z.2.2.1 + a0)), (3, .long (((lN 31) * a3) + ((μ (a0 + 3) (ix a5)).toInt64))), (5, .int a5), (6, .int (nI 0))]) E dX3_digestOnto_100 (Nat.le_of_ble_eq_true rfl) rfl ?_
  exact k
theorem bX3_digestOnto_102 {Z : ZT} {X : XT} {μ : Mu} {a0 : Nat} {a3 : Int64} {a5 : Int32} {a6 : Int32} (E : Ent Z X mX3_digestOnto 0 0) (ha0 : SH a0 = .inl 3) 
    (kt : (nI 4) ≤ a6 → JS Z X 134 [(0, .ref (Z.2.2.1 + a0)), (3, .long a3), (5, .int a5)] [] μ) (kf : ¬ ((nI 4) ≤ a6) → JS Z X 108 [(0, .ref (Z.2.2.1 + a0)), (3, .long a3), (5, .int a5), (6, .int a6)] [] μ) :
    JS Z X 102 [(0, .ref (Z.2.2.1 + a0)), (3, .long a3), (5, .int a5), (6, .int a6)] [] μ := by
  refine J_iload E dX3_digestOnto_102 rfl ?_
  refine J_iconst (v := nI 4) E dX3_digestOnto_104 rfl ?_
  refine J_icmp_ge (tgt := 134) E dX3_digestOnto_105 (by decide) (fun c => ?_) (fun c => ?_)
  · refine J.weak [0, 1, 2] rfl ?_
    exact kt c
  · exact kf c
theorem bX3_digestOnto_108 {Z : ZT} {X : XT} {μ : Mu} {a0 : Nat} {a3 : Int64} {a5 : Int32} {a6 : Int32} (E : Ent Z X mX3_digestOnto 0 0) (ha0 : SH a0 = .inl 3) (s1_ : vp_in ((a5 * (nI 4)) + a6) 24)
    (k : JS Z X 102 [(0, .ref (Z.2.2.1 + a0)), (3, .long (((lN 31) * a3) + ((μ (a0 + 4) (ix ((a5 * (nI 4)) + a6))).toInt64))), (5, .int a5), (6, .int (a6 + nI 1))] [] μ) :
    JS Z X 108 [(0, .ref (Z.2.2.1 + a0)), (3, .long a3), (5, .int a5), (6, .int a6)] [] μ := by
  refine J_ldc2 (v := lN 31) E dX3_digestOnto_108 w5_175 ?_
  refine J_lload_n E dX3_digestOnto_111 rfl ?_
  refine J_lmul E dX3_digestOnto_112 ?_
  refine J_aload_n E dX3_digestOnto_113 rfl ?_
  refine S_get (ci := 3) (q := 5) (v := .ref (Z.2.2.1 + (a0 + 4))) E dX3_digestOnto_114 fs_X3_21 ha0 rfl ?_
  refine J_iload E dX3_digestOnto_117 rfl ?_
  refine J_iconst (v := nI 4) E dX3_digestOnto_119 rfl ?_
  refine J_imul E dX3_digestOnto_120 ?_
  refine J_iload E dX3_digestOnto_121 rfl ?_
  refine J_iadd E dX3_digestOnto_123 ?_
  refine S_iald E dX3_digestOnto_124 (shr_X3_5 ha0) s1_ ?_
  refine J_i2l E dX3_digestOnto_125 ?_
  refine J_ladd E dX3_digestOnto_126 ?_
  refine J_lstore_n (lv' := [(0, .ref (Z.2.2.1 + a0)), (3, .long (((lN 31) * a3) + ((μ (a0 + 4) (ix ((a5 * (nI 4)) + a6))).toInt64))), (5, .int a5), (6, .int a6)]) E dX3_digestOnto_127 (Nat.le_of_ble_eq_true rfl) rfl ?_
  refine J_iinc (v := a6 + nI 1) (lv' := [(0, .ref (Z.2.2.1 + a0)), (3, .long (((lN 31) * a3) + ((μ (a0 + 4) (ix ((a5 * (nI 4)) + a6))).toInt64))), (5, .int a5), (6, .int (a6 + nI 1))]) E dX3_digestOnto_128 rfl rfl (Nat.le_of_ble_eq_true rfl) rfl ?_
  refine J_goto (tgt := 102) E dX3_digestOnto_131 (by decide) ?_
  exact k
theorem bX3_digestOnto_134 {Z : ZT} {X : XT} {μ : Mu} {a0 : Nat} {a3 : Int64} {a5 : Int32} (E : Ent Z X mX3_digestOnto 0 0) (ha0 : SH a0 = .inl 3) (s1_ : vp_in a5 6) (s2_ : vp_in a5 6)
    (k : JS Z X 75 [(0, .ref (Z.2.2.1 + a0)), (3, .long (((lN 31) * (((lN 31) * a3) + ((μ (a0 + 5) (ix a5)).toInt64))) + ((μ (a0 + 6) (ix a5)).toInt64))), (5, .int (a5 + nI 1))] [] μ) :
    JS Z X 134 [(0, .ref (Z.2.2.1 + a0)), (3, .long a3), (5, .int a5)] [] μ := by
  refine J_ldc2 (v := lN 31) E dX3_digestOnto_134 w5_175 ?_
  refine J_lload_n E dX3_digestOnto_137 rfl ?_
  refine J_lmul E dX3_digestOnto_138 ?_
  refine J_aload_n E dX3_digestOnto_139 rfl ?_
  refine S_get (ci := 3) (q := 6) (v := .ref (Z.2.2.1 + (a0 + 5))) E dX3_digestOnto_140 fs_X3_24 ha0 rfl ?_
  refine J_iload E dX3_digestOnto_143 rfl ?_
  refine S_iald E dX3_digestOnto_145 (shr_X3_6 ha0) s1_ ?_
  refine J_i2l E dX3_digestOnto_146 ?_
  refine J_ladd E dX3_digestOnto_147 ?_
  refine J_lstore_n (lv' := [(0, .ref (Z.2.2.1 + a0)), (3, .long (((lN 31) * a3) + ((μ (a0 + 5) (ix a5)).toInt64))), (5, .int a5)]) E dX3_digestOnto_148 (Nat.le_of_ble_eq_true rfl) rfl ?_
  refine J_ldc2 (v := lN 31) E dX3_digestOnto_149 w5_175 ?_
  refine J_lload_n E dX3_digestOnto_152 rfl ?_
  refine J_lmul E dX3_digestOnto_153 ?_
  refine J_aload_n E dX3_digestOnto_154 rfl ?_
  refine S_get (ci := 3) (q := 7) (v := .ref (Z.2.2.1 + (a0 + 6))) E dX3_digestOnto_155 fs_X3_27 ha0 rfl ?_
  refine J_iload E dX3_digestOnto_158 rfl ?_
  refine S_iald E dX3_digestOnto_160 (shr_X3_7 ha0) s2_ ?_
  refine J_i2l E dX3_digestOnto_161 ?_
  refine J_ladd E dX3_digestOnto_162 ?_
  refine J_lstore_n (lv' := [(0, .ref (Z.2.2.1 + a0)), (3, .long (((lN 31) * (((lN 31) * a3) + ((μ (a0 + 5) (ix a5)).toInt64))) + ((μ (a0 + 6) (ix a5)).toInt64))), (5, .int a5)]) E dX3_digestOnto_163 (Nat.le_of_ble_eq_true rfl) rfl ?_
  refine J_iinc (v := a5 + nI 1) (lv' := [(0, .ref (Z.2.2.1 + a0)), (3, .long (((lN 31) * (((lN 31) * a3) + ((μ (a0 + 5) (ix a5)).toInt64))) + ((μ (a0 + 6) (ix a5)).toInt64))), (5, .int (a5 + nI 1))]) E dX3_digestOnto_164 rfl rfl (Nat.le_of_ble_eq_true rfl) rfl ?_
  refine J_goto (tgt := 75) E dX3_digestOnto_167 (by decide) ?_
  exact k
theorem bX3_digestOnto_170 {Z : ZT} {X : XT} {μ : Mu} {a0 : Nat} {a3 : Int64} (E : Ent Z X mX3_digestOnto 0 0) (ha0 : SH a0 = .inl 3) 
    (k : JS Z X 173 [(0, .ref (Z.2.2.1 + a0)), (3, .long a3), (5, .int (nI 0))] [] μ) :
    JS Z X 170 [(0, .ref (Z.2.2.1 + a0)), (3, .long a3)] [] μ := by
  refine J_iconst (v := nI 0) E dX3_digestOnto_170 rfl ?_
  refine J_istore (lv' := [(0, .ref (Z.2.2.1 + a0)), (3, .long a3), (5, .int (nI 0))]) E dX3_digestOnto_171 (Nat.le_of_ble_eq_true rfl) rfl ?_
  exact k
theorem bX3_digestOnto_173 {Z : ZT} {X : XT} {μ : Mu} {a0 : Nat} {a3 : Int64} {a5 : Int32} (E : Ent Z X mX3_digestOnto 0 0) (ha0 : SH a0 = .inl 3) 
    (kt : (μ a0 8) ≤ a5 → JS Z X 248 [(0, .ref (Z.2.2.1 + a0)), (3, .long a3)] [] μ) (kf : ¬ ((μ a0 8) ≤ a5) → JS Z X 182 [(0, .ref (Z.2.2.1 + a0)), (3, .long a3), (5, .int a5)] [] μ) :
    JS Z X 173 [(0, .ref (Z.2.2.1 + a0)), (3, .long a3), (5, .int a5)] [] μ := by
  refine J_iload E dX3_digestOnto_173 rfl ?_
  refine J_aload_n E dX3_digestOnto_175 rfl ?_
  refine S_get (ci := 3) (q := 8) (v := .int (μ a0 8)) E dX3_digestOnto_176 fs_X3_55 ha0 rfl ?_
  refine J_icmp_ge (tgt := 248) E dX3_digestOnto_179 (by decide) (fun c => ?_) (fun c => ?_)
  · refine J.weak [0, 1] rfl ?_
    exact kt c
  · exact kf c
theorem bX3_digestOnto_182 {Z : ZT} {X : XT} {μ : Mu} {a0 : Nat} {a3 : Int64} {a5 : Int32} (E : Ent Z X mX3_digestOnto 0 0) (ha0 : SH a0 = .inl 3) (s1_ : vp_in a5 8) (s2_ : vp_in a5 8) (s3_ : vp_in a5 8) (s4_ : vp_in a5 8)
    (k : JS Z X 173 [(0, .ref (Z.2.2.1 + a0)), (3, .long (((lN 31) * (((lN 31) * (((lN 31) * (((lN 31) * a3) + ((μ (a0 + 7) (ix a5)).toInt64))) + ((μ (a0 + 8) (ix a5)).toInt64))) + ((μ (a0 + 9) (ix a5)).toInt64))) + ((μ (a0 + 10) (ix a5)).toInt64))), (5, .int (a5 + nI 1))] [] μ) :
    JS Z X 182 [(0, .ref (Z.2.2.1 + a0)), (3, .long a3), (5, .int a5)] [] μ := by
  refine J_ldc2 (v := lN 31) E dX3_digestOnto_182 w5_175 ?_
  refine J_lload_n E dX3_digestOnto_185 rfl ?_
  refine J_lmul E dX3_digestOnto_186 ?_
  refine J_aload_n E dX3_digestOnto_187 rfl ?_
  refine S_get (ci := 3) (q := 9) (v := .ref (Z.2.2.1 + (a0 + 7))) E dX3_digestOnto_188 fs_X3_30 ha0 rfl ?_
  refine J_iload E dX3_digestOnto_191 rfl ?_
  refine S_iald E dX3_digestOnto_193 (shr_X3_9 ha0) s1_ ?_
  refine J_i2l E dX3_digestOnto_194 ?_
  refine J_ladd E dX3_digestOnto_195 ?_
  refine J_lstore_n (lv' := [(0, .ref (Z.2.2.1 + a0)), (3, .long (((lN 31) * a3) + ((μ (a0 + 7) (ix a5)).toInt64))), (5, .int a5)]) E dX3_digestOnto_196 (Nat.le_of_ble_eq_true rfl) rfl ?_
  refine J_ldc2 (v := lN 31) E dX3_digestOnto_197 w5_175 ?_
  refine J_lload_n E dX3_digestOnto_200 rfl ?_
  refine J_lmul E dX3_digestOnto_201 ?_
  refine J_aload_n E dX3_digestOnto_202 rfl ?_
  refine S_get (ci := 3) (q := 10) (v := .ref (Z.2.2.1 + (a0 + 8))) E dX3_digestOnto_203 fs_X3_33 ha0 rfl ?_
  refine J_iload E dX3_digestOnto_206 rfl ?_
  refine S_iald E dX3_digestOnto_208 (shr_X3_10 ha0) s2_ ?_
  refine J_i2l E dX3_digestOnto_209 ?_
  refine J_ladd E dX3_digestOnto_210 ?_
  refine J_lstore_n (lv' := [(0, .ref (Z.2.2.1 + a0)), (3, .long (((lN 31) * (((lN 31) * a3) + ((μ (a0 + 7) (ix a5)).toInt64))) + ((μ (a0 + 8) (ix a5)).toInt64))), (5, .int a5)]) E dX3_digestOnto_211 (Nat.le_of_ble_eq_true rfl) rfl ?_
  refine J_ldc2 (v := lN 31) E dX3_digestOnto_212 w5_175 ?_
  refine J_lload_n E dX3_digestOnto_215 rfl ?_
  refine J_lmul E dX3_digestOnto_216 ?_
  refine J_aload_n E dX3_digestOnto_217 rfl ?_
  refine S_get (ci := 3) (q := 11) (v := .ref (Z.2.2.1 + (a0 + 9))) E dX3_digestOnto_218 fs_X3_36 ha0 rfl ?_
  refine J_iload E dX3_digestOnto_221 rfl ?_
  refine S_iald E dX3_digestOnto_223 (shr_X3_11 ha0) s3_ ?_
  refine J_i2l E dX3_digestOnto_224 ?_
  refine J_ladd E dX3_digestOnto_225 ?_
  refine J_lstore_n (lv' := [(0, .ref (Z.2.2.1 + a0)), (3, .long (((lN 31) * (((lN 31) * (((lN 31) * a3) + ((μ (a0 + 7) (ix a5)).toInt64))) + ((μ (a0 + 8) (ix a5)).toInt64))) + ((μ (a0 + 9) (ix a5)).toInt64))), (5, .int a5)]) E dX3_digestOnto_226 (Nat.le_of_ble_eq_true rfl) rfl ?_
  refine J_ldc2 (v := lN 31) E dX3_digestOnto_227 w5_175 ?_
  refine J_lload_n E dX3_digestOnto_230 rfl ?_
  refine J_lmul E dX3_digestOnto_231 ?_
  refine J_aload_n E dX3_digestOnto_232 rfl ?_
  refine S_get (ci := 3) (q := 12) (v := .ref (Z.2.2.1 + (a0 + 10))) E dX3_digestOnto_233 fs_X3_39 ha0 rfl ?_
  refine J_iload E dX3_digestOnto_236 rfl ?_
  refine S_iald E dX3_digestOnto_238 (shr_X3_12 ha0) s4_ ?_
  refine J_i2l E dX3_digestOnto_239 ?_
  refine J_ladd E dX3_digestOnto_240 ?_
  refine J_lstore_n (lv' := [(0, .ref (Z.2.2.1 + a0)), (3, .long (((lN 31) * (((lN 31) * (((lN 31) * (((lN 31) * a3) + ((μ (a0 + 7) (ix a5)).toInt64))) + ((μ (a0 + 8) (ix a5)).toInt64))) + ((μ (a0 + 9) (ix a5)).toInt64))) + ((μ (a0 + 10) (ix a5)).toInt64))), (5, .int a5)]) E dX3_digestOnto_241 (Nat.le_of_ble_eq_true rfl) rfl ?_
  refine J_iinc (v := a5 + nI 1) (lv' := [(0, .ref (Z.2.2.1 + a0)), (3, .long (((lN 31) * (((lN 31) * (((lN 31) * (((lN 31) * a3) + ((μ (a0 + 7) (ix a5)).toInt64))) + ((μ (a0 + 8) (ix a5)).toInt64))) + ((μ (a0 + 9) (ix a5)).toInt64))) + ((μ (a0 + 10) (ix a5)).toInt64))), (5, .int (a5 + nI 1))]) E dX3_digestOnto_242 rfl rfl (Nat.le_of_ble_eq_true rfl) rfl ?_
  refine J_goto (tgt := 173) E dX3_digestOnto_245 (by decide) ?_
  exact k
theorem bX3_digestOnto_248 {Z : ZT} {X : XT} {μ : Mu} {a0 : Nat} {a3 : Int64} (E : Ent Z X mX3_digestOnto 0 0) (ha0 : SH a0 = .inl 3) 
    (k : JS Z X 251 [(0, .ref (Z.2.2.1 + a0)), (3, .long a3), (5, .int (nI 0))] [] μ) :
    JS Z X 248 [(0, .ref (Z.2.2.1 + a0)), (3, .long a3)] [] μ := by
  refine J_iconst (v := nI 0) E dX3_digestOnto_248 rfl ?_
  refine J_istore (lv' := [(0, .ref (Z.2.2.1 + a0)), (3, .long a3), (5, .int (nI 0))]) E dX3_digestOnto_249 (Nat.le_of_ble_eq_true rfl) rfl ?_
  exact k
theorem bX3_digestOnto_251 {Z : ZT} {X : XT} {μ : Mu} {a0 : Nat} {a3 : Int64} {a5 : Int32} (E : Ent Z X mX3_digestOnto 0 0) (ha0 : SH a0 = .inl 3) 
    (kt : (nI 2) ≤ a5 → JS Z X 305 [(3, .long a3)] [] μ) (kf : ¬ ((nI 2) ≤ a5) → JS Z X 257 [(0, .ref (Z.2.2.1 + a0)), (3, .long a3), (5, .int a5)] [] μ) :
    JS Z X 251 [(0, .ref (Z.2.2.1 + a0)), (3, .long a3), (5, .int a5)] [] μ := by
  refine J_iload E dX3_digestOnto_251 rfl ?_
  refine J_iconst (v := nI 2) E dX3_digestOnto_253 rfl ?_
  refine J_icmp_ge (tgt := 305) E dX3_digestOnto_254 (by decide) (fun c => ?_) (fun c => ?_)
  · refine J.weak [1] rfl ?_
    exact kt c
  · exact kf c
theorem bX3_digestOnto_257 {Z : ZT} {X : XT} {μ : Mu} {a0 : Nat} {a3 : Int64} {a5 : Int32} (E : Ent Z X mX3_digestOnto 0 0) (ha0 : SH a0 = .inl 3) 
    (k : JS Z X 260 [(0, .ref (Z.2.2.1 + a0)), (3, .long a3), (5, .int a5), (6, .int (nI 0))] [] μ) :
    JS Z X 257 [(0, .ref (Z.2.2.1 + a0)), (3, .long a3), (5, .int a5)] [] μ := by
  refine J_iconst (v := nI 0) E dX3_digestOnto_257 rfl ?_
  refine J_istore (lv' := [(0, .ref (Z.2.2.1 + a0)), (3, .long a3), (5, .int a5), (6, .int (nI 0))]) E dX3_digestOnto_258 (Nat.le_of_ble_eq_true rfl) rfl ?_
  exact k
theorem bX3_digestOnto_260 {Z : ZT} {X : XT} {μ : Mu} {a0 : Nat} {a3 : Int64} {a5 : Int32} {a6 : Int32} (E : Ent Z X mX3_digestOnto 0 0) (ha0 : SH a0 = .inl 3) (s1_ : vp_in a5 2)
    (kt : (μ (a0 + 11) (ix a5)) ≤ a6 → JS Z X 299 [(0, .ref (Z.2.2.1 + a0)), (3, .long a3), (5, .int a5)] [] μ) (kf : ¬ ((μ (a0 + 11) (ix a5)) ≤ a6) → JS Z X 272 [(0, .ref (Z.2.2.1 + a0)), (3, .long a3), (5, .int a5), (6, .int a6)] [] μ) :
    JS Z X 260 [(0, .ref (Z.2.2.1 + a0)), (3, .long a3), (5, .int a5), (6, .int a6)] [] μ := by
  refine J_iload E dX3_digestOnto_260 rfl ?_
  refine J_aload_n E dX3_digestOnto_262 rfl ?_
  refine S_get (ci := 3) (q := 13) (v := .ref (Z.2.2.1 + (a0 + 11))) E dX3_digestOnto_263 fs_X3_42 ha0 rfl ?_
  refine J_iload E dX3_digestOnto_266 rfl ?_
  refine S_iald E dX3_digestOnto_268 (shr_X3_13 ha0) s1_ ?_
  refine J_icmp_ge (tgt := 299) E dX3_digestOnto_269 (by decide) (fun c => ?_) (fun c => ?_)
  · refine J.weak [0, 1, 2] rfl ?_
    exact kt c
  · exact kf c
theorem bX3_digestOnto_272 {Z : ZT} {X : XT} {μ : Mu} {a0 : Nat} {a3 : Int64} {a5 : Int32} {a6 : Int32} (E : Ent Z X mX3_digestOnto 0 0) (ha0 : SH a0 = .inl 3) (s1_ : vp_in ((a5 * (nI 6)) + a6) 12)
    (k : JS Z X 260 [(0, .ref (Z.2.2.1 + a0)), (3, .long (((lN 31) * a3) + ((μ (a0 + 12) (ix ((a5 * (nI 6)) + a6))).toInt64))), (5, .int a5), (6, .int (a6 + nI 1))] [] μ) :
    JS Z X 272 [(0, .ref (Z.2.2.1 + a0)), (3, .long a3), (5, .int a5), (6, .int a6)] [] μ := by
  refine J_ldc2 (v := lN 31) E dX3_digestOnto_272 w5_175 ?_
  refine J_lload_n E dX3_digestOnto_275 rfl ?_
  refine J_lmul E dX3_digestOnto_276 ?_
  refine J_aload_n E dX3_digestOnto_277 rfl ?_
  refine S_get (ci := 3) (q := 14) (v := .ref (Z.2.2.1 + (a0 + 12))) E dX3_digestOnto_278 fs_X3_45 ha0 rfl ?_
  refine J_iload E dX3_digestOnto_281 rfl ?_
  refine J_bipush (v := nI 6) E dX3_digestOnto_283 rfl ?_
  refine J_imul E dX3_digestOnto_285 ?_
  refine J_iload E dX3_digestOnto_286 rfl ?_
  refine J_iadd E dX3_digestOnto_288 ?_
  refine S_iald E dX3_digestOnto_289 (shr_X3_14 ha0) s1_ ?_
  refine J_i2l E dX3_digestOnto_290 ?_
  refine J_ladd E dX3_digestOnto_291 ?_
  refine J_lstore_n (lv' := [(0, .ref (Z.2.2.1 + a0)), (3, .long (((lN 31) * a3) + ((μ (a0 + 12) (ix ((a5 * (nI 6)) + a6))).toInt64))), (5, .int a5), (6, .int a6)]) E dX3_digestOnto_292 (Nat.le_of_ble_eq_true rfl) rfl ?_
  refine J_iinc (v := a6 + nI 1) (lv' := [(0, .ref (Z.2.2.1 + a0)), (3, .long (((lN 31) * a3) + ((μ (a0 + 12) (ix ((a5 * (nI 6)) + a6))).toInt64))), (5, .int a5), (6, .int (a6 + nI 1))]) E dX3_digestOnto_293 rfl rfl (Nat.le_of_ble_eq_true rfl) rfl ?_
  refine J_goto (tgt := 260) E dX3_digestOnto_296 (by decide) ?_
  exact k
theorem bX3_digestOnto_299 {Z : ZT} {X : XT} {μ : Mu} {a0 : Nat} {a3 : Int64} {a5 : Int32} (E : Ent Z X mX3_digestOnto 0 0) (ha0 : SH a0 = .inl 3) 
    (k : JS Z X 251 [(0, .ref (Z.2.2.1 + a0)), (3, .long a3), (5, .int (a5 + nI 1))] [] μ) :
    JS Z X 299 [(0, .ref (Z.2.2.1 + a0)), (3, .long a3), (5, .int a5)] [] μ := by
  refine J_iinc (v := a5 + nI 1) (lv' := [(0, .ref (Z.2.2.1 + a0)), (3, .long a3), (5, .int (a5 + nI 1))]) E dX3_digestOnto_299 rfl rfl (Nat.le_of_ble_eq_true rfl) rfl ?_
  refine J_goto (tgt := 251) E dX3_digestOnto_302 (by decide) ?_
  exact k
theorem bX3_digestOnto_305 {Z : ZT} {X : XT} {μ : Mu} {a3 : Int64} (E : Ent Z X mX3_digestOnto 0 0) {P : Option Value → Mu → Prop} (hB : BodS Z X P) 
    (k : P (some (.long a3)) μ) :
    JS Z X 305 [(3, .long a3)] [] μ := by
  refine J_lload_n E dX3_digestOnto_305 rfl ?_
  exact S_lret E hB dX3_digestOnto_306 rfl k
