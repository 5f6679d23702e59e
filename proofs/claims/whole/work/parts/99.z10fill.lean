/-! FILL: rows of references, filled by new Bigs -/
section MAKE2
variable {Z : ZT} {X : XT} {mt : MT} {rc rs n k sl pc : Nat} {lv : List (Nat × Value)} {st : List Value} {μ : Mu} {M Mo : Mem}
/-- a new Big, its constructor done, into a row of references -/
theorem G_fill (E : Ent Z X mt rc rs) {i0 ix0 j o ci q N i : Nat} {lc : Nat} {fs : List Value} {f : Nat → Option Nat} {μ' : Mu} (hg : decode mt.2.1 pc = .ok (.aload_n 0, 1)) (hg1 : decode mt.2.1 (pc + 1) = .ok (.getfield i0, 3)) {lcf : Fin 4} (hg4 : decode mt.2.1 (pc + 4) = .ok (.iload_n lcf, 1)) (hg5 : decode mt.2.1 (pc + 5) = .ok (.new ix0, 3)) (hg8 : decode mt.2.1 (pc + 8) = .ok (.dup, 1)) (hg9 : decode mt.2.1 (pc + 9) = .ok (.invokespecial j, 3)) (hg12 : decode mt.2.1 (pc + 12) = .ok (.aastore, 1))
    (l0 : lk lv 0 = some (.ref (Z.2.2.1 + o))) (l1 : lk lv (lcf : Nat) = some (.int (nI i))) (fs0 : FS mt.1.cls i0 ci q) {a : Nat} (hq : fs[q]? = some (.ref (Z.2.2.1 + a)))
    (hlk : Cond.classLink mt.1.cls ix0 RX0 ∈ ALL) (hin : Cond.instantiable RX0 2 ∈ ALL) (hin2 : Cond.initialized RX0 ∈ ALL) (hdf : ∀ j, j < 2 → defaultValue (tyX0 j) = vp_V [.null, .int 0] j) (rm : okR mt mX0_init) {host : String} (hw : Cond.methodLink mt.1.cls j yX0_init ∈ ALL ∨ (mt.1.cls, j, yX0_init, host) ∈ NESTS) (hii : Cond.instanceMethod yX0_init ∈ ALL)
    (ho : o < n) (ha : a < n) (hao : a ≠ o) (hiN : i < N) (hN : N ≤ 100000) (hs0 : SH n = .inl 0) (hs1 : SH (n + 1) = .inr (0, 24)) (z0 : μ' n = fun _ => 0) (z1 : μ' (n + 1) = fun _ => 0) (hMo : ∀ y, n ≤ y → y < n + 2 → Mo y = WM Z μ' y) (hrc : k + 2 ≤ rc) (hrs : sl + 26 ≤ rs)
    (kk : J Z X (n + 2) (k + 2) (sl + 26) (pc + 13) lv [] (va_up (va_up Mo a (.inl (Z.2.2.2.1 3, N, .inr (.inr (.inr (.inr (va_up f i (some (Z.2.2.1 + n))))))))) o (.inr (ci, fs)))) :
    J Z X n k sl pc lv [] (va_up (va_up Mo a (.inl (Z.2.2.2.1 3, N, .inr (.inr (.inr (.inr f)))))) o (.inr (ci, fs))) := by
  refine J_aload_n E hg l0 ?_
  obtain ⟨C, T, NN, h1, h2, h3, h4, h5⟩ := fs0
  refine J_get E hg1 ho va_up_s h1 h2 q h3 h4 h5 hq ?_
  refine J_iload_n E hg4 l1 ?_
  refine J_new (ci := 0) (fs := [.null, .int 0]) E hg5 rfl uX0 tyX0 tyX0_ok hlk hin hin2 hdf (by omega) (by omega) ?_
  refine J_dup E hg8 rfl ?_
  have fin : ∀ (r : Option Value) (M' : Mem), PK Z μ' (va_up (va_up (va_up Mo a (.inl (Z.2.2.2.1 3, N, .inr (.inr (.inr (.inr f)))))) o (.inr (ci, fs))) n (.inr (0, [.null, .int 0]))) n (n + 1 + 1) r M' → J Z X (n + 1 + 1) (k + 1 + (n + 1 + 1 - (n + 1))) (sl + 2 + 24) (pc + 9 + 3) lv (r.toList ++ [.ref (Z.2.2.1 + n), .int (nI i), .ref (Z.2.2.1 + a)]) M' := fun r M' hp => by
    obtain ⟨rfl, p1, p2⟩ := hp
    rw [Nat.add_sub_cancel_left]
    have hMa : M' a = .inl (Z.2.2.2.1 3, N, .inr (.inr (.inr (.inr f)))) := by rw [p1 a ha, va_up_n (by omega), va_up_n hao, va_up_s]
    have hMn : M' n = .inr (0, fieldsOf Z 0 n (μ' n)) := by rw [p2 n (Nat.le_refl _) (by omega), WM_obj hs0]
    refine J_astq (r := (RX0, TX0, 2)) (t := 3) E hg12 (by omega) hMa rfl (by omega) hMn rfl (vin hiN (by omega)) ?_
    rw [ix_n (by omega)]
    refine J.mem (fun y hy => ?_) kk
    by_cases y1 : y = a
    · subst y1; rw [va_up_s, va_up_n hao, va_up_s]
    · rw [va_up_n y1]
      by_cases y2 : y = o
      · subst y2; rw [va_up_s, p1 y ho, va_up_n (by omega), va_up_s]
      · rw [va_up_n y2, va_up_n y1]
        rcases Nat.lt_or_ge y n with y3 | y3
        · rw [p1 y y3, va_up_n (by omega), va_up_n y2, va_up_n y1]
        · rw [p2 y y3 hy, hMo y y3 hy]
  have ctr := i_X0 (Z := Z) (μ := μ') (M := va_up (va_up (va_up Mo a (.inl (Z.2.2.2.1 3, N, .inr (.inr (.inr (.inr f)))))) o (.inr (ci, fs))) n (.inr (0, [.null, .int 0]))) hs0 va_up_s hs1 z1 (by rw [z0])
  rcases hw with hw | hw
  · exact J_callI (As := []) (rest := [.ref (Z.2.2.1 + n), .int (nI i), .ref (Z.2.2.1 + a)]) E hg9 ctr kX0_init rm rfl (by simp only [List.map_cons, List.map_nil, List.sum_cons, List.sum_nil, show ∀ x, (Value.ref x).category = 1 from fun _ => rfl, show ∀ x, (Value.int x).category = 1 from fun _ => rfl]; omega) (by omega) (by omega) (by omega) hw hii rfl rfl fin
  · exact J_callIN (As := []) (rest := [.ref (Z.2.2.1 + n), .int (nI i), .ref (Z.2.2.1 + a)]) E hg9 ctr kX0_init rm rfl (by simp only [List.map_cons, List.map_nil, List.sum_cons, List.sum_nil, show ∀ x, (Value.ref x).category = 1 from fun _ => rfl, show ∀ x, (Value.int x).category = 1 from fun _ => rfl]; omega) (by omega) (by omega) (by omega) hw hii rfl rfl fin
end MAKE2
