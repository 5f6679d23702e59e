/-! FRACTION -/
/-- a fraction in lowest terms that is v by ten to the t -/
def Low (N D v t : Nat) : Prop := N * 10 ^ t = v * D ∧ Nat.Coprime N D ∧ 0 < D
theorem Low.uniq {N D N' D' v t s : Nat} (h : Low N D v t) (h' : Low N' D' (v * 10 ^ s) (t + s)) : N = N' ∧ D = D' := by
  obtain ⟨h1, h2, h3⟩ := h
  obtain ⟨g1, g2, g3⟩ := h'
  have e : N * D' = N' * D := by
    have p1 : 0 < 10 ^ t := Nat.pow_pos (by decide)
    have p2 : 0 < 10 ^ s := Nat.pow_pos (by decide)
    refine Nat.eq_of_mul_eq_mul_right (Nat.mul_pos p1 p2) ?_
    have g1' : N' * (10 ^ t * 10 ^ s) = v * 10 ^ s * D' := by rw [← Nat.pow_add]; exact g1
    calc N * D' * (10 ^ t * 10 ^ s) = (N * 10 ^ t) * (D' * 10 ^ s) := by ac_rfl
      _ = (v * D) * (D' * 10 ^ s) := by rw [h1]
      _ = (v * 10 ^ s * D') * D := by ac_rfl
      _ = N' * (10 ^ t * 10 ^ s) * D := by rw [← g1']
      _ = N' * D * (10 ^ t * 10 ^ s) := by ac_rfl
  have d1 : D ∣ D' := (h2.symm).dvd_of_dvd_mul_left (by rw [e]; exact Nat.dvd_mul_left _ _)
  have d2 : D' ∣ D := (g2.symm).dvd_of_dvd_mul_left (by rw [← e]; exact Nat.dvd_mul_left _ _)
  have hD : D = D' := Nat.dvd_antisymm d1 d2
  subst hD
  exact ⟨Nat.eq_of_mul_eq_mul_right h3 e, rfl⟩
/-- taking a prime out so often at most -/
def Out (p t a b a' b' : Nat) : Prop := ∃ n, n ≤ t ∧ a = a' * p ^ n ∧ (n = t ∨ ¬ p ∣ a') ∧ b' = b * p ^ (t - n)
theorem cop {p a : Nat} (h0 : 0 < p) (hp : ∀ g, g ≤ p → g ∣ p → g = 1 ∨ g = p) (h : ¬ p ∣ a) : Nat.Coprime a p := by
  have h1 := Nat.gcd_dvd_right a p
  rcases hp _ (Nat.le_of_dvd h0 h1) h1 with e | e
  · exact e
  · exact absurd (e ▸ Nat.gcd_dvd_left a p) h
theorem low_of {v t a a' b b' : Nat} (h2 : Out 2 t v 1 a b) (h5 : Out 5 t a b a' b') : Low a' b' v t := by
  obtain ⟨n, n1, n2, n3, n4⟩ := h2
  obtain ⟨m, m1, m2, m3, m4⟩ := h5
  subst n2; subst m2; subst n4; subst m4
  refine ⟨?_, ?_, ?_⟩
  · obtain ⟨i, rfl⟩ := Nat.exists_eq_add_of_le n1
    rw [Nat.add_sub_cancel_left]
    obtain ⟨j, hj⟩ := Nat.exists_eq_add_of_le m1
    rw [show n + i - m = j by omega, Nat.one_mul]
    rw [show (10 : Nat) ^ (n + i) = 2 ^ (n + i) * 5 ^ (m + j) by rw [← hj, ← Nat.mul_pow], Nat.pow_add, Nat.pow_add]
    ac_rfl
  · refine Nat.Coprime.mul_right ?_ ?_
    · rcases n3 with e | e
      · subst e; simp
      · rw [Nat.one_mul]
        refine Nat.Coprime.pow_right _ (cop (p := 2) (by decide) (by decide) fun g => e (Nat.dvd_trans g (Nat.dvd_mul_right _ _)))
    · rcases m3 with e | e
      · subst e; simp
      · exact Nat.Coprime.pow_right _ (cop (p := 5) (by decide) (by decide) e)
  · exact Nat.mul_pos (Nat.mul_pos (by decide) (Nat.pow_pos (by decide))) (Nat.pow_pos (by decide))
section FRAC
variable {Z : ZT} {μ : Mu}
/-- THE FRACTION of the class is N by D -/
def FrV (μ : Mu) (N D : Nat) : Prop := BigV μ 447 N ∧ BigV μ 449 D
abbrev FRS : List Nat := [447, 448, 449, 450]
theorem c_reduce {a b p t : Nat} (h : FrV μ a b) (hp : 1 < p) (hp2 : p < 1000) (ht : t < 1000) (hb : b * p ^ t < 1073741824 ^ 24) : CtrS Z mX2_reduce [rf Z 446, .int (nI p), .int (nI t)] μ (rV fun μ' => ∃ a' b', FrV μ' a' b' ∧ Out p t a b a' b' ∧ Fr FRS μ μ') := by
  refine CtrS.intro (by decide +kernel) (Nat.le_of_ble_eq_true rfl) rfl fun X E hB => ?_
  have loop : ∀ k i μ1 a1 b1, i + k = t → FrV μ1 a1 b1 → Out p i a b a1 b1 → Fr FRS μ μ1 → JS Z X 2 [(0, rf Z 446), (1, .int (nI p)), (2, .int (nI t)), (3, .int (nI i))] [] μ1 := by
    intro k
    induction k with
    | zero =>
      intro i μ1 a1 b1 hi hf ho hF
      have : i = t := by omega
      subst this
      exact bX2_reduce_2 E (fun _ => bX2_reduce_43 E hB ⟨rfl, a1, b1, hf, ho, hF⟩) (fun c => absurd (by rw [nI_leE (by omega) (by omega)]; omega) c)
    | succ k ih =>
      intro i μ1 a1 b1 hi hf ho hF
      refine bX2_reduce_2 E (fun c => absurd c (by rw [nI_leE (by omega) (by omega)]; omega)) (fun _ => ?_)
      refine bX2_reduce_7 E (c_rest hf.1 (by omega) (by omega)) fun v μ2 hv => ?_
      obtain ⟨rfl, rfl⟩ := hv
      obtain ⟨n, n1, n2, n3, n4⟩ := ho
      have hml : a1 % p < p := Nat.mod_lt _ (by omega)
      have step : ∀ μ3 a2 b2, FrV μ3 a2 b2 → Out p (i + 1) a b a2 b2 → Fr FRS μ μ3 → JS Z X 37 [(0, rf Z 446), (1, .int (nI p)), (2, .int (nI t)), (3, .int (nI i))] [] μ3 := fun μ3 a2 b2 g1 g2 g3 => by
        refine bX2_reduce_37 E ?_
        rw [nI_add]
        exact ih (i + 1) μ3 a2 b2 (by omega) g1 g2 g3
      refine bX2_reduce_15 E (fun c => ?_) (fun c => ?_)
      · rw [nI_eq0 (by omega)] at c
        have hnd : ¬ p ∣ a1 := fun g => c (Nat.mod_eq_zero_of_dvd g)
        have hb1 : b1 * p ≤ b * p ^ t := by
          rw [n4]
          have : p ^ (i - n) * p ≤ p ^ t := by rw [← Nat.pow_succ]; exact Nat.pow_le_pow_right (by omega) (by omega)
          rw [Nat.mul_assoc]; exact Nat.mul_le_mul_left _ this
        refine bX2_reduce_29 E (c_times hf.2 (by omega) (Nat.lt_of_le_of_lt hb1 hb)) fun μ3 h3 => step μ3 a1 (b1 * p) ⟨hf.1.fr h3.2 (by decide) (by decide), h3.1⟩ ⟨n, by omega, n2, Or.inr hnd, ?_⟩ (hF.tr (h3.2.mo (by decide)))
        rw [n4, show i + 1 - n = (i - n) + 1 by omega, Nat.pow_succ, Nat.mul_assoc]
      · rw [nI_eq0 (by omega)] at c
        have hd : p ∣ a1 := Nat.dvd_of_mod_eq_zero c
        have hni : n = i := by
          rcases n3 with e | e
          · exact e
          · exact absurd hd e
        subst hni
        refine bX2_reduce_18 E (c_divide hf.1 (by omega) (by omega)) fun μ3 h3 => bX2_reduce_26 E (step μ3 (a1 / p) b1 ⟨h3.1, hf.2.fr h3.2 (by decide) (by decide)⟩ ⟨n + 1, Nat.le_refl _, ?_, Or.inl rfl, ?_⟩ (hF.tr (h3.2.mo (by decide))))
        · rw [n2, Nat.pow_succ, Nat.mul_comm (p ^ n) p, ← Nat.mul_assoc, Nat.div_mul_cancel hd]
        · rw [n4, Nat.sub_self, Nat.sub_self]
  exact bX2_reduce_0 E (loop t 0 μ a b (by omega) h ⟨0, Nat.le_refl _, by simp, Or.inl rfl, by simp⟩ Fr.rf)
theorem c_fset {o v t N0 D0 : Nat} (h : FrV μ N0 D0) (hv : BigV μ o v) (ho : o ∉ FRS) (ht : t < 217) (hb : 10 ^ t < 1073741824 ^ 24) : CtrS Z mX2_set [rf Z 446, rf Z o, .int (nI t)] μ (rV fun μ' => ∃ N D, FrV μ' N D ∧ Low N D v t ∧ Fr FRS μ μ') := by
  refine CtrS.intro (by decide +kernel) (Nat.le_of_ble_eq_true rfl) rfl fun X E hB => ?_
  refine bX2_set_0 E hv.1 (c_copy h.1 hv) fun μ1 h1 => ?_
  have hd1 := h.2.fr h1.2 (by decide) (by decide)
  refine bX2_set_8 E (c_set hd1 (v := 1) (by decide)) fun μ2 h2 => ?_
  have hn2 := h1.1.fr h2.2 (by decide) (by decide)
  have hF2 : Fr FRS μ μ2 := (h1.2.mo (by decide)).tr (h2.2.mo (by decide))
  have hl := ln_le v 24
  have p2 : ∀ n, n ≤ t → (2 : Nat) ^ n ≤ 2 ^ t := fun n hn => Nat.pow_le_pow_right (by decide) hn
  have p10 : (10 : Nat) ^ t = 2 ^ t * 5 ^ t := by rw [← Nat.mul_pow]
  refine bX2_set_16 E (fun c => ?_) (fun c => ?_)
  · rw [hn2.2.2.2, nI_le0 (by omega)] at c
    have : v = 0 := by
      rcases Nat.eq_zero_or_pos v with e | e
      · exact e
      · have := (ln_pos hv.2.1).mpr e; omega
    subst this
    exact bX2_set_38 E hB ⟨rfl, 0, 1, ⟨hn2, h2.1⟩, ⟨by simp, by decide, by decide⟩, hF2⟩
  · refine bX2_set_26 E (c_reduce ⟨hn2, h2.1⟩ (p := 2) (by decide) (by decide) (by omega) (by rw [Nat.one_mul]; refine Nat.lt_of_le_of_lt ?_ hb; exact Nat.pow_le_pow_left (by decide) t)) fun μ3 h3 => ?_
    obtain ⟨a, b, hf, ho2, hF3⟩ := h3
    have hb2 : b * 5 ^ t < 1073741824 ^ 24 := by
      obtain ⟨n, n1, n2, n3, n4⟩ := ho2
      refine Nat.lt_of_le_of_lt ?_ hb
      rw [p10, n4, Nat.one_mul]
      exact Nat.mul_le_mul_right _ (p2 _ (Nat.sub_le _ _))
    refine bX2_set_32 E (c_reduce hf (p := 5) (by decide) (by decide) (by omega) hb2) fun μ4 h4 => ?_
    obtain ⟨a', b', hf', ho5, hF4⟩ := h4
    exact bX2_set_38 E hB ⟨rfl, a', b', hf', low_of ho2 ho5, (hF2.tr hF3).tr hF4⟩
end FRAC
