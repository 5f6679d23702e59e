/-! BIG: the class Big's contracts -/
abbrev rf (Z : ZT) (o : Nat) : Value := .ref (Z.2.2.1 + o)
def BigV (μ : Mu) (o v : Nat) : Prop := SH o = .inl 0 ∧ v < 1073741824 ^ 24 ∧ (∀ i, i < 24 → μ (o + 1) i = nI (dg v i)) ∧ μ o 1 = nI (ln v 24)
theorem BigV.congr {μ μ' : Mu} {o v : Nat} (h : BigV μ o v) (h0 : μ' o = μ o) (h1 : μ' (o + 1) = μ (o + 1)) : BigV μ' o v :=
  ⟨h.1, h.2.1, fun i hi => by rw [h1]; exact h.2.2.1 i hi, by rw [h0]; exact h.2.2.2⟩
theorem BigV.fr {μ μ' : Mu} {o v : Nat} {S : List Nat} (h : BigV μ o v) (hF : Fr S μ μ') (h0 : o ∉ S) (h1 : o + 1 ∉ S) : BigV μ' o v := h.congr (hF _ h0) (hF _ h1)
theorem big_ne {o o' : Nat} (h : SH o = .inl 0) (h' : SH o' = .inl 0) : o + 1 ≠ o' := fun e => by
  have := shr_X0_0 h
  rw [e, h'] at this
  cases this
theorem BigV.uniq {μ : Mu} {o v w : Nat} (h : BigV μ o v) (h' : BigV μ o w) : v = w := by
  refine dg_ext h.2.1 h'.2.1 fun k hk => ?_
  have := (h.2.2.1 k hk).symm.trans (h'.2.2.1 k hk)
  exact nI_inj (Nat.lt_trans dg_lt (by decide)) (Nat.lt_trans dg_lt (by decide)) this
theorem dgb {v k : Nat} : dg v k < 2147483648 := Nat.lt_trans dg_lt (by decide)
section BIG
variable {Z : ZT} {μ : Mu} {o t : Nat}
theorem imin {a b : Nat} (ha : a < 2147483648) (hb : b < 2147483648) : (if nI a < nI b then nI a else nI b) = nI (min b a) := by
  simp only [nI_ltE ha hb]
  split
  · rw [Nat.min_eq_right (by omega)]
  · rw [Nat.min_eq_left (by omega)]
theorem imax {a b : Nat} (ha : a < 2147483648) (hb : b < 2147483648) : (if nI a < nI b then nI b else nI a) = nI (max a b) := by
  simp only [nI_ltE ha hb]
  split
  · rw [Nat.max_eq_right (by omega)]
  · rw [Nat.max_eq_left (by omega)]
theorem c_trim (ho : SH o = .inl 0) (ht : t < 100) : CtrS Z mX0_trim [rf Z o, .int (nI t)] μ (rV fun μ' => μ' = uR μ o (upd (μ o) 1 (nI (lnF (μ (o + 1)) (min t 24))))) := by
  refine CtrS.intro (by decide +kernel) (Nat.le_of_ble_eq_true rfl) rfl fun X E hB => ?_
  have loop : ∀ i, i ≤ 24 → lnF (μ (o + 1)) i = lnF (μ (o + 1)) (min t 24) → JS Z X 15 [(0, rf Z o), (2, .int (nI i))] [] (uR μ o (upd (μ o) 1 (nI i))) := by
    intro i
    induction i with
    | zero =>
      intro _ h
      refine bX0_trim_15 E ho (fun _ => bX0_trim_43 E hB ⟨rfl, by rw [← h]; rfl⟩) (fun c => absurd (by decide) c)
    | succ i ih =>
      intro hi h
      refine bX0_trim_15 E ho (fun c => absurd c (nI_nle (by omega) (by omega))) (fun _ => ?_)
      have e : nI (i + 1) - nI 1 = nI i := nI_sub (by omega)
      have e1 : uR μ o (upd (μ o) 1 (nI (i + 1))) (o + 1) = μ (o + 1) := uR_n (by omega)
      refine bX0_trim_19 E ho (by rw [e]; exact vin (by omega) (by omega)) ?_ ?_
      · rw [e, e1, ix_nI (by omega)]
        intro c
        refine bX0_trim_43 E hB ⟨rfl, ?_⟩
        rw [← h, lnF, if_neg c]
      · rw [e, e1, ix_nI (by omega)]
        intro c
        refine bX0_trim_30 E ho (bX0_trim_37 E ho ?_)
        rw [e, uR_uR, uR_s, upd_upd, nI_m1 (by omega)]
        exact ih (by omega) (by rw [← h, lnF, if_pos c])
  refine bX0_trim_0 E ho ?_
  rw [imin (by omega) (by omega)]
  refine bX0_trim_10 E ho ?_
  rw [uR_s, pk_us]
  exact loop (min t 24) (Nat.min_le_right _ _) rfl
/-- behind a row of digits the trim makes the number whole -/
theorem big_trim {μ' : Mu} {v : Nat} (ho : SH o = .inl 0) (hv : v < 1073741824 ^ 24) (hd : ∀ i, i < 24 → μ (o + 1) i = nI (dg v i)) (hz : v < 1073741824 ^ (min t 24)) (h : μ' = uR μ o (upd (μ o) 1 (nI (lnF (μ (o + 1)) (min t 24))))) : BigV μ' o v ∧ Fr [o] μ μ' := by
  subst h
  refine ⟨⟨ho, hv, fun i hi => by rw [uR_n (by omega)]; exact hd i hi, ?_⟩, Fr.uR (by simp)⟩
  rw [uR_s, pk_us, lnF_ln (v := v) _ (fun i hi => hd i (by omega)), ln_top 24 (Nat.min_le_right _ _) hz]
theorem c_set {v0 v : Nat} (hb : BigV μ o v0) (hv : v < 1073741824) : CtrS Z mX0_set [rf Z o, .int (nI v)] μ (rV fun μ' => BigV μ' o v ∧ Fr [o, o + 1] μ μ') := by
  refine CtrS.intro (by decide +kernel) (Nat.le_of_ble_eq_true rfl) rfl fun X E hB => ?_
  have ho := hb.1
  have hl := ln_le v0 24
  have hmask : nI v &&& nI 1073741823 = nI v := by
    rw [pk_andN (by omega) 30 rfl, Nat.mod_eq_of_lt hv]
  have loop : ∀ k i μ1, i + k = ln v0 24 → μ1 o = μ o → Fr [o + 1] μ μ1 → (∀ j, j < i → μ1 (o + 1) j = nI 0) → (∀ j, i ≤ j → μ1 (o + 1) j = μ (o + 1) j) → JS Z X 2 [(0, rf Z o), (1, .int (nI v)), (2, .int (nI i))] [] μ1 := by
    intro k
    induction k with
    | zero =>
      intro i μ1 hi h0 hF hl1 hl2
      refine bX0_set_2 E ho (fun _ => ?_) (fun c => absurd (by rw [h0, hb.2.2.2, nI_leE (by omega) (by omega)]; omega) c)
      refine bX0_set_23 E ho (vin (by omega) (by omega)) ?_
      rw [hmask, show ix (nI 0) = 0 from rfl]
      refine bX0_set_33 E ho (c_trim ho (t := 1) (by omega)) fun μ2 h2 => bX0_set_38 E hB ⟨rfl, ?_⟩
      have hd : ∀ j, j < 24 → uR μ1 (o + 1) (upd (μ1 (o + 1)) 0 (nI v)) (o + 1) j = nI (dg v j) := fun j hj => by
        rw [uR_s]
        rcases Nat.eq_zero_or_pos j with e | e
        · subst e; rw [pk_us, dg_small hv]
        · rw [pk_un (by omega), dg_zero' (k := 1) (by simpa using hv) e]
          rcases Nat.lt_or_ge j i with g | g
          · exact hl1 j g
          · rw [hl2 j g, hb.2.2.1 j hj, dg_zero' (ln_lt 24 hb.2.1) (by omega)]
      obtain ⟨b1, b2⟩ := big_trim (t := 1) (v := v) ho (Nat.lt_of_lt_of_le hv (by decide)) hd (by simpa using hv) h2
      exact ⟨b1, Fr.tr (μ1 := μ1) (hF.mo (by simp)) (Fr.tr (μ1 := uR μ1 (o + 1) (upd (μ1 (o + 1)) 0 (nI v))) (Fr.uR (by simp)) (b2.mo (by simp)))⟩
    | succ k ih =>
      intro i μ1 hi h0 hF hl1 hl2
      refine bX0_set_2 E ho (fun c => absurd c (by rw [h0, hb.2.2.2, nI_leE (by omega) (by omega)]; omega)) (fun _ => ?_)
      refine bX0_set_10 E ho (vin (by omega) (by omega)) ?_
      refine bX0_set_17 E ho ?_
      rw [ix_nI (by omega), nI_add]
      refine ih (i + 1) _ (by omega) (by rw [uR_n (by omega)]; exact h0) (hF.tr (Fr.uR (by simp))) (fun j hj => ?_) (fun j hj => ?_)
      · rw [uR_s]
        rcases Nat.lt_or_ge j i with g | g
        · rw [pk_un (by omega)]; exact hl1 j g
        · have : j = i := by omega
          subst this; rw [pk_us]
      · rw [uR_s, pk_un (by omega)]; exact hl2 j (by omega)
  refine bX0_set_0 E ho ?_
  exact loop (ln v0 24) 0 μ (by omega) rfl Fr.rf (fun j hj => absurd hj (Nat.not_lt_zero j)) (fun _ _ => rfl)
end BIG
