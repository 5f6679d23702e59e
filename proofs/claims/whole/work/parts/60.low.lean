/-! what a fraction in lowest terms is; the scratch of both sides -/
def lowF (v t : Nat) : Nat × Nat := (v / Nat.gcd v (10 ^ t), 10 ^ t / Nat.gcd v (10 ^ t))
theorem lowF_low (v t : Nat) : Low (lowF v t).1 (lowF v t).2 v t := by
  have hp : 0 < 10 ^ t := Nat.pow_pos (by decide)
  have hg : 0 < Nat.gcd v (10 ^ t) := Nat.gcd_pos_of_pos_right _ hp
  refine ⟨?_, Nat.coprime_div_gcd_div_gcd hg, Nat.div_pos (Nat.le_of_dvd hp (Nat.gcd_dvd_right _ _)) hg⟩
  show v / Nat.gcd v (10 ^ t) * 10 ^ t = v * (10 ^ t / Nat.gcd v (10 ^ t))
  rw [Nat.div_mul_right_comm (Nat.gcd_dvd_left _ _), Nat.mul_div_assoc _ (Nat.gcd_dvd_right _ _)]
theorem low_eq {N D v t : Nat} (h : Low N D v t) : (N, D) = lowF v t := by
  have := Low.uniq (s := 0) h (by rw [Nat.pow_zero, Nat.mul_one, Nat.add_zero]; exact lowF_low v t)
  exact Prod.ext this.1 this.2
theorem lowF_up (v t s : Nat) : lowF (v * 10 ^ s) (t + s) = lowF v t := by
  have := Low.uniq (lowF_low v t) (lowF_low (v * 10 ^ s) (t + s))
  exact (Prod.ext this.1 this.2).symm
/-- the model's scratch alone may have changed -/
def FrQ (μ μ' : Mu) : Prop := (∀ a, a < 460 → a ≠ 455 → μ' a = μ a) ∧ μ' 455 4 = μ 455 4 ∧ μ' 455 19 = μ 455 19 ∧ ∀ i, i < 54 → μ' 465 i = μ 465 i
theorem FrQ.rf {μ : Mu} : FrQ μ μ := ⟨fun _ _ _ => rfl, rfl, rfl, fun _ _ => rfl⟩
theorem FrQ.tr {μ μ1 μ2 : Mu} (h1 : FrQ μ μ1) (h2 : FrQ μ1 μ2) : FrQ μ μ2 := ⟨fun a ha hb => (h2.1 a ha hb).trans (h1.1 a ha hb), h2.2.1.trans h1.2.1, h2.2.2.1.trans h1.2.2.1, fun i hi => (h2.2.2.2 i hi).trans (h1.2.2.2 i hi)⟩
theorem FrQ.y {μ μ' : Mu} (h : FrQ μ μ') : FrY μ μ' := fun a ha => h.1 a (by omega) (by omega)
theorem FrQ.at {μ : Mu} {k : Nat} {x : Int32} (h4 : k ≠ 4) (h19 : k ≠ 19) : FrQ μ (uR μ 455 (upd (μ 455) k x)) := ⟨fun a _ ha => uR_n ha, by rw [uR_s, pk_un (Ne.symm h4)], by rw [uR_s, pk_un (Ne.symm h19)], fun i _ => by rw [uR_n (by decide)]⟩
theorem FrQ.row {μ : Mu} {o : Nat} {g : Nat → Int32} (h : 460 ≤ o) (hb : o ≠ 465) : FrQ μ (uR μ o g) := ⟨fun a ha _ => uR_n (by omega), by rw [uR_n (by omega)], by rw [uR_n (by omega)], fun i _ => by rw [uR_n (by omega)]⟩
theorem FrQ.ofG {μ μ' : Mu} {S : List Nat} (h : FrG S μ μ') (hS : ∀ r ∈ S, 2 ≤ r) : FrQ μ μ' := ⟨fun a ha _ => h.1 a (by omega), by rw [h.1 _ (by decide)], by rw [h.1 _ (by decide)], fun i hi => h.2 i fun r hr => by have := hS r hr; omega⟩
theorem FrQ.rep {μ μ' : Mu} {D : DD} {im : Nat → Option DD} {tx : TX} {s : Nat → Int32} {f : Nat × Nat} (h : FrQ μ μ') (R : RepM μ D im tx s f) : RepM μ' D im tx s f := by
  obtain ⟨r1, r2, r3, r4, r5, r6⟩ := R
  have e := h.1
  refine ⟨by rw [e _ (by decide) (by decide)]; exact r1, by rw [e _ (by decide) (by decide)]; exact r2, by rw [e _ (by decide) (by decide)]; exact r3, by rw [e 459 (by decide) (by decide), h.2.1]; exact r4, ⟨⟨r5.1.1, fun k hk => by rw [h.2.2.2 _ (by omega)]; exact r5.1.2 k hk⟩, ⟨r5.2.1.1, fun k hk => by rw [h.2.2.2 _ (by omega)]; exact r5.2.1.2 k hk⟩, by rw [h.2.2.1]; exact r5.2.2⟩, fun i hi => ?_⟩
  rw [e 457 (by decide) (by decide), e 456 (by decide) (by decide)]
  exact r6 i hi
/-- the class' scratch alone may have changed -/
def FrP (μ μ' : Mu) : Prop := ∀ a, a < 73 ∨ (446 ≤ a ∧ a < 451) ∨ 455 ≤ a → μ' a = μ a
theorem FrP.rf {μ : Mu} : FrP μ μ := fun _ _ => rfl
theorem FrP.tr {μ μ1 μ2 : Mu} (h1 : FrP μ μ1) (h2 : FrP μ1 μ2) : FrP μ μ2 := fun a ha => (h2 a ha).trans (h1 a ha)
theorem FrP.x {μ μ' : Mu} (h : FrP μ μ') : FrX μ μ' := fun a ha => h a (by omega)
theorem FrP.up {μ : Mu} {o : Nat} {g : Nat → Int32} (h : 73 ≤ o) (h2 : o < 446 ∨ (451 ≤ o ∧ o < 455)) : FrP μ (uR μ o g) := fun a ha => uR_n (by omega)
theorem FrP.ofFr {μ μ' : Mu} {S : List Nat} (h : Fr S μ μ') (hS : ∀ o ∈ S, 73 ≤ o ∧ (o < 446 ∨ (451 ≤ o ∧ o < 455))) : FrP μ μ' := fun a ha => h a fun g => by have := hS a g; omega
theorem FrP.rep {μ μ' : Mu} {D : DD} {im : Nat → Option DD} {tx : TX} {s : Nat → Int32} {f : Nat × Nat} (h : FrP μ μ') (R : RepC μ D im tx s f) (q : SC μ') : RepC μ' D im tx s f := by
  obtain ⟨r1, r2, r3, r4, r5, r6, r7⟩ := R
  refine ⟨r1.fr fun k hk => h _ (by omega), r2.fr fun k hk => h _ (by omega), by rw [h _ (by omega)]; exact r3, by rw [h _ (by omega), h _ (by omega)]; exact r4, ⟨r5.1.congr (h _ (by omega)) (h _ (by omega)), r5.2.congr (h _ (by omega)) (h _ (by omega))⟩, fun i hi => ?_, q⟩
  rw [h _ (by omega)]
  refine ⟨(r6 i hi).1, fun E hE => ?_⟩
  have := (r6 i hi).2 E hE
  have e1 : el 35 i = 37 + 17 * i := rfl
  have e2 : el 36 i = 50 + 17 * i := rfl
  exact ⟨this.1.fr fun k hk => h _ (by rw [e1]; omega), this.2.fr fun k hk => h _ (by rw [e2]; omega)⟩
/-- one Big is changed, and keeps being one -/
theorem SC.big {μ μ' : Mu} {o v : Nat} (q : SC μ) (hF : Fr [o, o + 1] μ μ') (h : BigV μ' o v) (h1 : o ≠ 105) (h0 : o ≠ 298) (h2 : ∀ c, c < 6 → o ≠ el 297 c) : SC μ' := by
  obtain ⟨q1, q2, q3, q4⟩ := q
  have n : ∀ o', SH o' = .inl 0 → o' ≠ o → o' ∉ [o, o + 1] ∧ o' + 1 ∉ [o, o + 1] := fun o' ho' hne => by
    have := big_ne h.1 ho'
    have := big_ne ho' h.1
    simp; omega
  have hs : o + 1 ≠ 105 := fun e => by
    have := shr_X0_0 h.1
    rw [e] at this
    exact absurd this (by decide)
  refine ⟨fun o' ho' => ?_, ?_, ?_, fun c hc => ?_⟩
  · by_cases e : o' = o
    · subst e; exact ⟨v, h⟩
    · obtain ⟨v', hv'⟩ := q1 o' ho'
      exact ⟨v', hv'.fr hF (n o' ho' e).1 (n o' ho' e).2⟩
  · rw [hF 105 (by simp; omega)]; exact q2
  · exact q3.fr hF (n _ q3.1 (Ne.symm h0)).1 (n _ q3.1 (Ne.symm h0)).2
  · exact (q4 c hc).fr hF (n _ (q4 c hc).1 (Ne.symm (h2 c hc))).1 (n _ (q4 c hc).1 (Ne.symm (h2 c hc))).2
theorem SC.nob {μ μ' : Mu} {o : Nat} (q : SC μ) (hF : Fr [o] μ μ') (h : SH o ≠ .inl 0) (h' : ∀ p, SH p = .inl 0 → p + 1 ≠ o) (h1 : o ≠ 105) : SC μ' := by
  obtain ⟨q1, q2, q3, q4⟩ := q
  have n : ∀ o' v, BigV μ o' v → BigV μ' o' v := fun o' v hv => hv.fr hF (by simp; intro e; subst e; exact h hv.1) (by simp; exact h' o' hv.1)
  refine ⟨fun o' ho' => ?_, by rw [hF 105 (by simp; omega)]; exact q2, n _ _ q3, fun c hc => n _ _ (q4 c hc)⟩
  obtain ⟨v, hv⟩ := q1 o' ho'
  exact ⟨v, n o' v hv⟩
