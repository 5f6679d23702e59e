/-! REP: what the class' world and the model's stand for: D (house, numbers, reports), images, THE TEXT, STATUS, THE FRACTION -/
theorem HC.congrD {μ : Mu} {h : Nat} {D D' : DD} (H : HC μ h D) (e : ∀ k, k ≤ 12 → D' k = D k) : HC μ h D' := by
  unfold HC
  rw [e 0 (by omega), e 1 (by omega), e 2 (by omega), e 3 (by omega), e 4 (by omega), e 5 (by omega), e 6 (by omega), e 7 (by omega), e 8 (by omega), e 9 (by omega), e 10 (by omega), e 11 (by omega), e 12 (by omega)]
  exact H
theorem HM.congrD {a : Nat → Int32} {b : Nat} {D D' : DD} (H : HM a b D) (e : ∀ k, k ≤ 12 → D' k = D k) : HM a b D' := by
  unfold HM
  rw [e 0 (by omega), e 1 (by omega), e 2 (by omega), e 3 (by omega), e 4 (by omega), e 5 (by omega), e 6 (by omega), e 7 (by omega), e 8 (by omega), e 9 (by omega), e 10 (by omega), e 11 (by omega), e 12 (by omega)]
  exact H
theorem WF.congrD {D D' : DD} (H : WF D) (e : ∀ k, k ≤ 12 → D' k = D k) : WF D' := by
  unfold WF
  rw [e 0 (by omega), e 1 (by omega), e 2 (by omega), e 3 (by omega), e 4 (by omega), e 5 (by omega), e 6 (by omega), e 7 (by omega), e 8 (by omega), e 9 (by omega), e 10 (by omega), e 11 (by omega), e 12 (by omega)]
  exact H
theorem NC.congrD {μ : Mu} {o : Nat} {D D' : DD} (H : NC μ o D) (e : ∀ k, 13 ≤ k → k ≤ 16 → D' k = D k) : NC μ o D' := by
  unfold NC
  rw [e 13 (by omega) (by omega), e 14 (by omega) (by omega), e 15 (by omega) (by omega), e 16 (by omega) (by omega)]
  exact H
theorem NM.congrD {a : Nat → Int32} {b : Nat} {D D' : DD} (H : NM a b D) (e : ∀ k, 13 ≤ k → k ≤ 16 → D' k = D k) : NM a b D' := by
  unfold NM
  rw [e 13 (by omega) (by omega), e 14 (by omega) (by omega), e 15 (by omega) (by omega), e 16 (by omega) (by omega)]
  exact H
theorem WN.congrD {D D' : DD} (H : WN D) (e : ∀ k, 13 ≤ k → k ≤ 16 → D' k = D k) : WN D' := by
  unfold WN
  rw [e 13 (by omega) (by omega), e 14 (by omega) (by omega), e 15 (by omega) (by omega), e 16 (by omega) (by omega)]
  exact H
theorem HM.fr {a a' : Nat → Int32} {b : Nat} {D : DD} (H : HM a b D) (W : WF D) (e : ∀ i, b ≤ i → i < b + 201 → a' i = a i) : HM a' b D := by
  have hn := W.1
  have hC := W.2.1
  have hS := W.2.2.1
  obtain ⟨h1, h2, h3, h4, h5, h6, h7, h8⟩ := H
  refine ⟨by rw [e _ (by omega) (by omega)]; exact h1, by rw [e _ (by omega) (by omega)]; exact h2, by rw [e _ (by omega) (by omega)]; exact h3, fun p q hp hq => by rw [e _ (by omega) (by omega)]; exact h4 p q hp hq, fun p hp => by rw [e _ (by omega) (by omega)]; exact h5 p hp, fun c hc => ?_, fun s hs => ?_, fun l hl => ?_⟩
  · have := h6 c hc
    exact ⟨by rw [e _ (by omega) (by omega)]; exact this.1, fun k hk => by rw [e _ (by omega) (by omega)]; exact this.2.1 k hk, by rw [e _ (by omega) (by omega)]; exact this.2.2.1, by rw [e _ (by omega) (by omega)]; exact this.2.2.2⟩
  · have := h7 s hs
    exact ⟨by rw [e _ (by omega) (by omega)]; exact this.1, by rw [e _ (by omega) (by omega)]; exact this.2.1, by rw [e _ (by omega) (by omega)]; exact this.2.2.1, by rw [e _ (by omega) (by omega)]; exact this.2.2.2⟩
  · have := (W.2.2.2.2.2.2.2 l hl).1
    exact ⟨by rw [e _ (by omega) (by omega)]; exact (h8 l hl).1, fun i hi => by rw [e _ (by omega) (by omega)]; exact (h8 l hl).2 i hi⟩
theorem NM.fr {a a' : Nat → Int32} {b : Nat} {D : DD} (H : NM a b D) (W : D 14 0 ≤ 20) (e : ∀ i, b + 201 ≤ i → i < b + 247 → a' i = a i) : NM a' b D := by
  obtain ⟨h1, h2, h3⟩ := H
  exact ⟨by rw [e _ (by omega) (by omega)]; exact h1, fun k hk => by rw [e _ (by omega) (by omega)]; exact h2 k hk, fun i hi => ⟨by rw [e _ (by omega) (by omega)]; exact (h3 i hi).1, by rw [e _ (by omega) (by omega)]; exact (h3 i hi).2⟩⟩
/-- what a state is: houses well made, THE TEXT's bytes -/
abbrev TX : Type := Nat × (Nat → Nat)
def OkS (D : DD) (im : Nat → Option DD) (tx : TX) : Prop := (WF D ∧ WN D) ∧ (∀ i E, i < 2 → im i = some E → WF E ∧ WN E) ∧ tx.1 ≤ 300 ∧ ∀ i, i < tx.1 → tx.2 i < 256
/-- the class' scratch: all Bigs are numbers; the two rows of the spread; numbers that stay 0 -/
def SC (μ : Mu) : Prop := (∀ o, SH o = .inl 0 → ∃ v, BigV μ o v) ∧ ((μ 105 2 = nI 106 ∧ μ 105 3 = nI 107) ∨ (μ 105 2 = nI 107 ∧ μ 105 3 = nI 106)) ∧ BigV μ 298 0 ∧ ∀ c, c < 6 → BigV μ (el 297 c) 0
theorem big_ge {o : Nat} (h : SH o = .inl 0) : 93 ≤ o := SH_all (P := fun o => SH o = .inl 0 → 93 ≤ o) (by decide +kernel) h h
theorem SC.fr {μ μ' : Mu} (h : SC μ) (e : ∀ a, 93 ≤ a → a < 455 → μ' a = μ a) : SC μ' := by
  have hb : ∀ o v, BigV μ o v → BigV μ' o v := fun o v hv => by
    have h1 := big_ge hv.1
    have h2 : o < 454 := SH_all (P := fun o => SH o = .inl 0 → o < 454) (by decide +kernel) hv.1 hv.1
    exact hv.congr (e _ h1 (by omega)) (e _ (by omega) (by omega))
  refine ⟨fun o ho => ?_, ?_, hb _ _ h.2.2.1, fun c hc => hb _ _ (h.2.2.2 c hc)⟩
  · obtain ⟨v, hv⟩ := h.1 o ho
    exact ⟨v, hb o v hv⟩
  · rw [e _ (by decide) (by decide)]; exact h.2.1
def RepC (μ : Mu) (D : DD) (im : Nat → Option DD) (tx : TX) (s : Nat → Int32) (f : Nat × Nat) : Prop :=
  HC μ 1 D ∧ NC μ 27 D ∧ ST (μ 72) s ∧ (μ 31 1 = nI tx.1 ∧ ∀ i, i < tx.1 → μ 32 i = nI (tx.2 i)) ∧ FrV μ f.1 f.2 ∧
  (∀ i, i < 2 → μ 71 i = (if (im i).isSome = true then nI 1 else nI 0) ∧ ∀ E, im i = some E → HC μ (el 35 i) E ∧ NC μ (el 36 i) E) ∧ SC μ
def RepM (μ : Mu) (D : DD) (im : Nat → Option DD) (tx : TX) (s : Nat → Int32) (f : Nat × Nat) : Prop :=
  HM (μ 456) 0 D ∧ NM (μ 456) 0 D ∧ ST (μ 458) s ∧ (μ 455 4 = nI tx.1 ∧ ∀ i, i < tx.1 → μ 459 i &&& nI 255 = nI (tx.2 i)) ∧ FrM μ f.1 f.2 ∧
  (∀ i, i < 2 → μ 457 i = (if (im i).isSome = true then nI 1 else nI 0) ∧ ∀ E, im i = some E → HM (μ 456) (247 * (1 + i)) E ∧ NM (μ 456) (247 * (1 + i)) E)
/-- the other side stays -/
def FrX (μ μ' : Mu) : Prop := ∀ a, 455 ≤ a → μ' a = μ a
def FrY (μ μ' : Mu) : Prop := ∀ a, a < 455 → μ' a = μ a
theorem RepC.other {μ μ' : Mu} {D : DD} {im : Nat → Option DD} {tx : TX} {s : Nat → Int32} {f : Nat × Nat} (R : RepC μ D im tx s f) (F : FrY μ μ') : RepC μ' D im tx s f := by
  obtain ⟨r1, r2, r3, r4, r5, r6, r7⟩ := R
  refine ⟨r1.fr fun k hk => F _ (by omega), r2.fr fun k hk => F _ (by omega), by rw [F _ (by decide)]; exact r3, by rw [F _ (by decide), F _ (by decide)]; exact r4, ⟨r5.1.congr (F _ (by decide)) (F _ (by decide)), r5.2.congr (F _ (by decide)) (F _ (by decide))⟩, fun i hi => ?_, r7.fr fun a h1 h2 => F _ (by omega)⟩
  rw [F _ (by decide)]
  refine ⟨(r6 i hi).1, fun E hE => ?_⟩
  have := (r6 i hi).2 E hE
  have e1 : el 35 i = 37 + 17 * i := rfl
  have e2 : el 36 i = 50 + 17 * i := rfl
  exact ⟨this.1.fr fun k hk => F _ (by rw [e1]; omega), this.2.fr fun k hk => F _ (by rw [e2]; omega)⟩
theorem RepM.other {μ μ' : Mu} {D : DD} {im : Nat → Option DD} {tx : TX} {s : Nat → Int32} {f : Nat × Nat} (R : RepM μ D im tx s f) (F : FrX μ μ') : RepM μ' D im tx s f := by
  obtain ⟨r1, r2, r3, r4, r5, r6⟩ := R
  refine ⟨by rw [F _ (by decide)]; exact r1, by rw [F _ (by decide)]; exact r2, by rw [F _ (by decide)]; exact r3, by rw [F _ (by decide), F _ (by decide)]; exact r4, ⟨⟨r5.1.1, fun k hk => by rw [F _ (by decide)]; exact r5.1.2 k hk⟩, ⟨r5.2.1.1, fun k hk => by rw [F _ (by decide)]; exact r5.2.1.2 k hk⟩, by rw [F _ (by decide)]; exact r5.2.2⟩, fun i hi => ?_⟩
  rw [F _ (by decide), F _ (by decide)]
  exact r6 i hi
/-- the class, where only rows below the scratch have changed -/
theorem RepC.step {μ μ' : Mu} {D D' : DD} {im : Nat → Option DD} {tx : TX} {s s' : Nat → Int32} {f : Nat × Nat} {S : List Nat} (R : RepC μ D im tx s f) (hF : Fr S μ μ') (hS : ∀ a ∈ S, a < 31 ∨ a = 72)
    (h1 : HC μ' 1 D') (h2 : NC μ' 27 D') (h3 : ST (μ' 72) s') : RepC μ' D' im tx s' f := by
  obtain ⟨r1, r2, r3, r4, r5, r6, r7⟩ := R
  have e : ∀ a, 31 ≤ a → a ≠ 72 → μ' a = μ a := fun a h1 h2 => hF a fun h => by rcases hS a h with g | g <;> omega
  refine ⟨h1, h2, h3, by rw [e _ (by decide) (by decide), e _ (by decide) (by decide)]; exact r4, ⟨r5.1.congr (e _ (by decide) (by decide)) (e _ (by decide) (by decide)), r5.2.congr (e _ (by decide) (by decide)) (e _ (by decide) (by decide))⟩, fun i hi => ?_, r7.fr fun a h1 h2 => e a (by omega) (by omega)⟩
  rw [e _ (by decide) (by decide)]
  refine ⟨(r6 i hi).1, fun E hE => ?_⟩
  have := (r6 i hi).2 E hE
  have e1 : el 35 i = 37 + 17 * i := rfl
  have e2 : el 36 i = 50 + 17 * i := rfl
  exact ⟨this.1.fr fun k hk => e _ (by rw [e1]; omega) (by rw [e1]; omega), this.2.fr fun k hk => e _ (by rw [e2]; omega) (by rw [e2]; omega)⟩
theorem RepM.step {μ μ' : Mu} {D D' : DD} {im : Nat → Option DD} {tx : TX} {s s' : Nat → Int32} {f : Nat × Nat} (R : RepM μ D im tx s f) (O : ∀ i E, i < 2 → im i = some E → WF E ∧ WN E) (hF : ∀ a, a ≠ 456 → a ≠ 458 → μ' a = μ a) (hA : ∀ i, 247 ≤ i → i < 741 → μ' 456 i = μ 456 i)
    (h1 : HM (μ' 456) 0 D') (h2 : NM (μ' 456) 0 D') (h3 : ST (μ' 458) s') : RepM μ' D' im tx s' f := by
  obtain ⟨r1, r2, r3, r4, r5, r6⟩ := R
  refine ⟨h1, h2, h3, by rw [hF _ (by decide) (by decide), hF _ (by decide) (by decide)]; exact r4, ⟨⟨r5.1.1, fun k hk => by rw [hF _ (by decide) (by decide)]; exact r5.1.2 k hk⟩, ⟨r5.2.1.1, fun k hk => by rw [hF _ (by decide) (by decide)]; exact r5.2.1.2 k hk⟩, by rw [hF _ (by decide) (by decide)]; exact r5.2.2⟩, fun i hi => ?_⟩
  rw [hF _ (by decide) (by decide)]
  refine ⟨(r6 i hi).1, fun E hE => ?_⟩
  have := (r6 i hi).2 E hE
  have o := O i E hi hE
  exact ⟨this.1.fr o.1 fun j g1 g2 => hA j (by omega) (by omega), this.2.fr o.2.2.1 fun j g1 g2 => hA j (by omega) (by omega)⟩
