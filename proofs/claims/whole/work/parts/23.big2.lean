/-! BIG, more -/
theorem nI_pre (u : Nat) : nI u - nI 1 = nI u + (-1) := by rw [Int32.sub_eq_add_neg]; rfl
theorem nI_suc_m1 (k : Nat) : nI (k + 1) + (-1) = nI k := pk_m1 k
theorem nI_m1_lt0 {k : Nat} (h : k < 2147483648) : (nI k + (-1) < 0) = (k = 0) := by
  refine propext ⟨fun g => ?_, fun g => by subst g; decide⟩
  rcases Nat.eq_zero_or_pos k with e | e
  · exact e
  · obtain ⟨j, rfl⟩ : ∃ j, k = j + 1 := ⟨k - 1, by omega⟩
    rw [nI_suc_m1] at g
    exact absurd g (nI_pos (by omega))
theorem b63 {a b c : Nat} (ha : a < 1073741824) (hb : b < 1073741824) (hc : c < 2147483648) {d : Nat} (hd : d < 2147483648) : a + b * c + d < 2 ^ 63 := by
  have : b * c ≤ 1073741824 * 2147483648 := Nat.mul_le_mul (Nat.le_of_lt hb) (Nat.le_of_lt hc)
  omega
section BIG2
variable {Z : ZT} {μ : Mu} {o a : Nat}
theorem c_copy {v w : Nat} (h : BigV μ o v) (hw : BigV μ a w) : CtrS Z mX0_copy [rf Z o, rf Z a] μ (rV fun μ' => BigV μ' o w ∧ Fr [o, o + 1] μ μ') := by
  refine CtrS.intro (by decide +kernel) (Nat.le_of_ble_eq_true rfl) rfl fun X E hB => ?_
  have l1 := ln_le v 24
  have l2 := ln_le w 24
  have e : (if μ o 1 < μ a 1 then μ a 1 else μ o 1) = nI (max (ln v 24) (ln w 24)) := by rw [h.2.2.2, hw.2.2.2, imax (by omega) (by omega)]
  refine bX0_copy_0 E h.1 hw.1 (by rw [e]; exact nI_pos (by omega)) (by rw [e, show ix (nI 0) = 0 from rfl, ix_nI (by omega)]; omega) (by rw [e, show ix (nI 0) = 0 from rfl, ix_nI (by omega)]; omega) ?_
  refine bX0_copy_24 E h.1 hw.1 (bX0_copy_32 E hB ⟨rfl, ?_⟩)
  rw [e, show ix (nI 0) = 0 from rfl, ix_nI (by omega)]
  have e2 : ∀ r, uR μ (o + 1) r a 1 = nI (ln w 24) := fun r => by rw [uR_n (fun q => big_ne h.1 hw.1 q.symm)]; exact hw.2.2.2
  refine ⟨⟨h.1, hw.2.1, fun i hi => ?_, ?_⟩, (Fr.uR (by simp)).tr (Fr.uR (by simp))⟩
  · rw [uR_n (by omega), uR_s]
    by_cases g : i < max (ln v 24) (ln w 24)
    · rw [pk_cpy_in (Nat.zero_le _) (by omega), Nat.zero_add, Nat.sub_zero]; exact hw.2.2.1 i hi
    · rw [pk_cpy_out (Or.inr (by omega)), h.2.2.1 i hi, dg_zero' (ln_lt 24 h.2.1) (by omega), dg_zero' (ln_lt 24 hw.2.1) (by omega)]
  · rw [uR_s, pk_us, e2]
theorem c_times {v m : Nat} (h : BigV μ o v) (hm : m < 2147483648) (hv : v * m < 1073741824 ^ 24) : CtrS Z mX0_times [rf Z o, .int (nI m)] μ (rV fun μ' => BigV μ' o (v * m) ∧ Fr [o, o + 1] μ μ') := by
  refine CtrS.intro (by decide +kernel) (Nat.le_of_ble_eq_true rfl) rfl fun X E hB => ?_
  have ho := h.1
  have l1 := ln_le v 24
  have fin : ∀ i μ1 , i ≤ 24 → Fr [o + 1] μ μ1 → (∀ j, j < i → μ1 (o + 1) j = nI (dg (v * m) j)) → (∀ j, i ≤ j → j < 24 → μ1 (o + 1) j = nI (dg v j)) → v < 1073741824 ^ i → cy 0 v m i = 0 → JS Z X 65 [(0, rf Z o), (4, .int (nI i))] [] μ1 := by
    intro i μ1 hi hF h1 h2 hvi hc
    refine bX0_times_65 E ho (c_trim ho (t := i) (by omega)) fun μ2 e => bX0_times_71 E hB ⟨rfl, ?_⟩
    have hz : v * m < 1073741824 ^ i := by simpa using cy_end (DBp i) hvi hc
    obtain ⟨b1, b2⟩ := big_trim (v := v * m) ho hv (fun j hj => by
      rcases Nat.lt_or_ge j i with g | g
      · exact h1 j g
      · rw [h2 j g hj, dg_zero' hvi g, dg_zero' hz g]) (by rw [Nat.min_eq_left hi]; exact hz) e
    exact ⟨b1, (hF.mo (by simp)).tr (b2.mo (by simp))⟩
  have loop : ∀ k i μ1, i + k = 24 → Fr [o + 1] μ μ1 → (∀ j, j < i → μ1 (o + 1) j = nI (dg (v * m) j)) → (∀ j, i ≤ j → j < 24 → μ1 (o + 1) j = nI (dg v j)) →
      JS Z X 5 [(0, rf Z o), (1, .int (nI m)), (2, .long (lN (cy 0 v m i))), (4, .int (nI i))] [] μ1 := by
    intro k
    induction k with
    | zero =>
      intro i μ1 hi hF h1 h2
      have : i = 24 := by omega
      subst this
      exact bX0_times_5 E ho (fun _ => fin 24 μ1 (by omega) hF h1 h2 h.2.1 (cy_full (by simpa using hv))) (fun c => absurd (by rw [nI_leE (by omega) (by omega)]; omega) c)
    | succ k ih =>
      intro i μ1 hi hF h1 h2
      have hcy := cy_le (x := 0) (y := v) (m := m) (k := i)
      have step : JS Z X 27 [(0, rf Z o), (1, .int (nI m)), (2, .long (lN (cy 0 v m i))), (4, .int (nI i))] [] μ1 := by
        refine bX0_times_27 E ho (vin (by omega) (by omega)) (vin (by omega) (by omega)) ?_
        rw [ix_nI (by omega), h2 i (Nat.le_refl _) (by omega), nI_l dgb, nI_l hm, lN_mul, lN_add]
        have hb := b63 (a := 0) (by decide) (dg_lt (v := v) (k := i)) hm (show cy 0 v m i < 2147483648 by omega)
        have hd := cy_dig 0 v m i
        have hn := cy_next 0 v m i
        simp only [dg_0v, Nat.zero_add] at hd hn hb
        rw [show cy 0 v m i + dg v i * m = dg v i * m + cy 0 v m i by omega, lN_and30 hb, hd, lN_i]
        refine bX0_times_54 E ho ?_
        rw [lN_shr30 hb, hn, nI_add]
        refine ih (i + 1) _ (by omega) (hF.tr (Fr.uR (by simp))) (fun j hj => ?_) (fun j hj hj2 => ?_)
        · rw [uR_s]
          rcases Nat.lt_or_ge j i with g | g
          · rw [pk_un (by omega)]; exact h1 j g
          · have : j = i := by omega
            subst this; rw [pk_us]
        · rw [uR_s, pk_un (by omega)]; exact h2 j (by omega) hj2
      refine bX0_times_5 E ho (fun c => absurd c (by rw [nI_leE (by omega) (by omega)]; omega)) (fun _ => ?_)
      refine bX0_times_12 E ho (fun _ => step) (fun c => ?_)
      rw [hF _ (by simp), h.2.2.2, nI_ltE (by omega) (by omega)] at c
      have hvi : v < 1073741824 ^ i := Nat.lt_of_lt_of_le (ln_lt 24 h.2.1) (DB_mono (by omega))
      refine bX0_times_21 E ho (fun c2 => ?_) (fun _ => step)
      rw [lg_cmp_le0 (by omega)] at c2
      exact fin i μ1 (by omega) hF h1 h2 hvi c2
  refine bX0_times_0 E ho ?_
  have := loop 24 0 μ rfl Fr.rf (fun j hj => absurd hj (Nat.not_lt_zero j)) (fun j _ hj => h.2.2.1 j hj)
  rw [cy_0] at this
  exact this
theorem c_addTimes {x y m : Nat} (h : BigV μ o x) (hy : BigV μ a y) (hne : o ≠ a) (hm : m < 2147483647) (hv : x + y * m < 1073741824 ^ 24) : CtrS Z mX0_addTimes [rf Z o, rf Z a, .int (nI m)] μ (rV fun μ' => BigV μ' o (x + y * m) ∧ Fr [o, o + 1] μ μ') := by
  refine CtrS.intro (by decide +kernel) (Nat.le_of_ble_eq_true rfl) rfl fun X E hB => ?_
  have ho := h.1
  have ha := hy.1
  have l1 := ln_le x 24
  have l2 := ln_le y 24
  have na : a + 1 ∉ [o + 1] := by simp; omega
  have fin : ∀ i μ1 , i ≤ 24 → Fr [o + 1] μ μ1 → (∀ j, j < i → μ1 (o + 1) j = nI (dg (x + y * m) j)) → (∀ j, i ≤ j → j < 24 → μ1 (o + 1) j = nI (dg x j)) → x < 1073741824 ^ i → y < 1073741824 ^ i → cy x y m i = 0 → JS Z X 85 [(0, rf Z o), (6, .int (nI i))] [] μ1 := by
    intro i μ1 hi hF h1 h2 hxi hyi hc
    refine bX0_addTimes_85 E ho (c_trim ho (t := i) (by omega)) fun μ2 e => bX0_addTimes_91 E hB ⟨rfl, ?_⟩
    have hz : x + y * m < 1073741824 ^ i := cy_end hxi hyi hc
    obtain ⟨b1, b2⟩ := big_trim (v := x + y * m) ho hv (fun j hj => by
      rcases Nat.lt_or_ge j i with g | g
      · exact h1 j g
      · rw [h2 j g hj, dg_zero' hxi g, dg_zero' hz g]) (by rw [Nat.min_eq_left hi]; exact hz) e
    exact ⟨b1, (hF.mo (by simp)).tr (b2.mo (by simp))⟩
  have loop : ∀ k i μ1, i + k = 24 → Fr [o + 1] μ μ1 → (∀ j, j < i → μ1 (o + 1) j = nI (dg (x + y * m) j)) → (∀ j, i ≤ j → j < 24 → μ1 (o + 1) j = nI (dg x j)) →
      JS Z X 18 [(0, rf Z o), (1, rf Z a), (2, .int (nI m)), (3, .long (lN (cy x y m i))), (5, .int (nI (max (ln x 24) (ln y 24)))), (6, .int (nI i))] [] μ1 := by
    intro k
    induction k with
    | zero =>
      intro i μ1 hi hF h1 h2
      have : i = 24 := by omega
      subst this
      exact bX0_addTimes_18 E ho ha (fun _ => fin 24 μ1 (by omega) hF h1 h2 h.2.1 hy.2.1 (cy_full hv)) (fun c => absurd (by rw [nI_leE (by omega) (by omega)]; omega) c)
    | succ k ih =>
      intro i μ1 hi hF h1 h2
      have hcy := cy_le (x := x) (y := y) (m := m) (k := i)
      have step : JS Z X 38 [(0, rf Z o), (1, rf Z a), (2, .int (nI m)), (3, .long (lN (cy x y m i))), (5, .int (nI (max (ln x 24) (ln y 24)))), (6, .int (nI i))] [] μ1 := by
        refine bX0_addTimes_38 E ho ha (vin (by omega) (by omega)) (vin (by omega) (by omega)) (vin (by omega) (by omega)) ?_
        rw [ix_nI (by omega), h2 i (Nat.le_refl _) (by omega), hF _ na, hy.2.2.1 i (by omega), nI_l dgb, nI_l dgb, nI_l (show m < 2147483648 by omega), lN_mul, lN_add, lN_add]
        have hb := b63 (dg_lt (v := x) (k := i)) (dg_lt (v := y) (k := i)) (show m < 2147483648 by omega) (show cy x y m i < 2147483648 by omega)
        rw [show cy x y m i + (dg x i + dg y i * m) = dg x i + dg y i * m + cy x y m i by omega, lN_and30 hb, cy_dig, lN_i]
        refine bX0_addTimes_74 E ho ha ?_
        rw [lN_shr30 hb, cy_next, nI_add]
        refine ih (i + 1) _ (by omega) (hF.tr (Fr.uR (by simp))) (fun j hj => ?_) (fun j hj hj2 => ?_)
        · rw [uR_s]
          rcases Nat.lt_or_ge j i with g | g
          · rw [pk_un (by omega)]; exact h1 j g
          · have : j = i := by omega
            subst this; rw [pk_us]
        · rw [uR_s, pk_un (by omega)]; exact h2 j (by omega) hj2
      refine bX0_addTimes_18 E ho ha (fun c => absurd c (by rw [nI_leE (by omega) (by omega)]; omega)) (fun _ => ?_)
      refine bX0_addTimes_25 E ho ha (fun _ => step) (fun c => ?_)
      rw [nI_ltE (by omega) (by omega)] at c
      have hxi : x < 1073741824 ^ i := Nat.lt_of_lt_of_le (ln_lt 24 h.2.1) (DB_mono (by omega))
      have hyi : y < 1073741824 ^ i := Nat.lt_of_lt_of_le (ln_lt 24 hy.2.1) (DB_mono (by omega))
      refine bX0_addTimes_32 E ho ha (fun c2 => ?_) (fun _ => step)
      rw [lg_cmp_le0 (by omega)] at c2
      exact fin i μ1 (by omega) hF h1 h2 hxi hyi c2
  refine bX0_addTimes_0 E ho ha ?_
  have := loop 24 0 μ rfl Fr.rf (fun j hj => absurd hj (Nat.not_lt_zero j)) (fun j _ hj => h.2.2.1 j hj)
  rw [cy_0] at this
  rw [h.2.2.2, hy.2.2.2, imax (by omega) (by omega)]
  exact this
end BIG2
