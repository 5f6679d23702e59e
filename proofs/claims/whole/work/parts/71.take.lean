/-! HUNTS: the class takes a row -/
def HT (μ : Mu) (o : Nat) (D : DD) (l : Nat) : Prop := μ o 3 = nI l ∧ μ o 4 = nI (D 11 l) ∧ ∀ i, i < D 11 l → μ (o + 1) i = nI (D 12 (6 * l + i))
section TAKE
variable {Z : ZT} {μ : Mu} {D : DD}
theorem c_take {o l : Nat} (ho : SH o = .inl 4) (hd : 14 ≤ o) (H : HC μ 1 D) (W : WF D) (hl : l < 2) : CtrS Z mX4_take [rf Z o, .int (nI l)] μ (rV fun μ' => HT μ' o D l ∧ Fr [o, o + 1] μ μ') := by
  refine CtrS.intro (by decide +kernel) (Nat.le_of_ble_eq_true rfl) rfl fun X E hB => ?_
  have w := (W.2.2.2.2.2.2.2 l hl).1
  have h9 := H.2.2.2.2.2.2.2.2 l hl
  have loop : ∀ k i μ1, i + k = D 11 l → μ1 o 3 = nI l → μ1 o 4 = nI (D 11 l) → (∀ j, j < i → μ1 (o + 1) j = nI (D 12 (6 * l + j))) → Fr [o, o + 1] μ μ1 → JS Z X 32 [(0, rf Z o), (1, .int (nI l)), (2, .int (nI i))] [] μ1 := by
    intro k
    induction k with
    | zero =>
      intro i μ1 hi h3 h4 h hF
      have : i = D 11 l := hi
      subst this
      exact bX4_take_32 E ho (fun _ => bX4_take_66 E hB ⟨rfl, ⟨h3, h4, h⟩, hF⟩) (fun c => absurd (by rw [h4, nI_leE (by omega) (by omega)]; omega) c)
    | succ k ih =>
      intro i μ1 hi h3 h4 h hF
      have e : nI l * nI 6 + nI i = nI (6 * l + i) := by rw [nI_mul, nI_add, Nat.mul_comm]
      refine bX4_take_32 E ho (fun c => absurd c (by rw [h4, nI_leE (by omega) (by omega)]; omega)) (fun _ => ?_)
      refine bX4_take_40 E ho (by rw [e]; exact vin (by omega) (by omega)) (vin (by omega) (by omega)) (bX4_take_60 E ho ?_)
      rw [e, ix_nI (by omega), ix_nI (show 6 * l + i < 2147483648 by omega), hF (1 + 12) (by simp; omega), show μ (1 + 12) (6 * l + i) = _ from h9.2 i (by omega), nI_add]
      refine ih (i + 1) _ (by omega) (by rw [uR_n (by omega)]; exact h3) (by rw [uR_n (by omega)]; exact h4) (fun j hj => ?_) (hF.tr (Fr.uR (by simp)))
      rw [uR_s]
      exact upd_at (fun e => by rw [e]) (fun e => h j (by omega))
  refine bX4_take_0 E ho (bX4_take_5 E ho (c_within (n := 2) (by decide)) fun v μ1 g => ?_)
  obtain ⟨rfl, rfl⟩ := g
  refine bX4_take_11 E ho ho (fun c => absurd c (by rw [bz]; exact not_not_intro (inN_nI hl (by decide)))) (fun _ => ?_)
  refine bX4_take_14 E ho ho (vin (by omega) (by omega)) (bX4_take_27 E ho ho (bX4_take_30 E ho ?_))
  rw [ix_nI (by omega), uR_n (show 1 + 11 ≠ o by omega), show μ (1 + 11) l = _ from h9.1]
  refine loop (D 11 l) 0 _ (by omega) ?_ ?_ (fun j hj => absurd hj (Nat.not_lt_zero j)) ((Fr.uR (by simp)).tr (Fr.uR (by simp)))
  · rw [uR_s, uR_s, pk_un (by decide), pk_us]
  · rw [uR_s, pk_us]
end TAKE
