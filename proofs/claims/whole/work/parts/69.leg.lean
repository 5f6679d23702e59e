/-! WALKS: the legs that the class keeps -/
def legR (D : DD) (s a b : Nat) : Option (Nat × Nat) := goR D b a (D 10 s ||| 2 ^ b)
/-- what is kept is right, or isn't known yet -/
def KL (μ : Mu) (D : DD) : Prop := ∀ s a b, s < D 0 2 → a < D 0 0 → b < D 0 0 → μ 76 (100 * s + 10 * a + b) = -2 ∨ LK μ (100 * s + 10 * a + b) (legR D s a b)
theorem LK.congr {μ μ' : Mu} {key : Nat} {R : Option (Nat × Nat)} (h : LK μ key R) (e : μ' 76 key = μ 76 key ∧ μ' 77 key = μ 77 key) : LK μ' key R := by
  unfold LK at h ⊢
  rw [e.1, e.2]; exact h
theorem go_le {D : DD} {to : Nat} : ∀ k p left r, go D to k p left = some r → r.1 ≤ 10000 * k
  | 0, _, _, r, h => nomatch h
  | k + 1, p, left, r, h => by
    rw [go] at h
    have ok := nr_ok (D := D) (p := p) (left := left) (D 0 0)
    cases hq : nr D p left (D 0 0) with
    | zero => rw [hq] at h; exact nomatch h
    | succ q =>
      rw [hq] at h ok
      have ok := (ok (Nat.succ_ne_zero q)).2
      rw [Nat.add_sub_cancel] at ok
      dsimp only at h
      by_cases c : q = to
      · rw [if_pos c] at h
        obtain rfl := Option.some.inj h
        dsimp only
        omega
      · rw [if_neg c] at h
        cases hg : go D to k q (clr left q) with
        | none => rw [hg] at h; exact nomatch h
        | some r2 =>
          rw [hg] at h
          have := go_le k q (clr left q) r2 hg
          obtain rfl := Option.some.inj h
          dsimp only
          omega
theorem legR_le {D : DD} {s a b : Nat} {r : Nat × Nat} (h : legR D s a b = some r) : r.1 ≤ 100000 := by
  unfold legR goR at h
  cases hg : go D b 10 a (D 10 s ||| 2 ^ b) with
  | none => rw [hg] at h; exact nomatch h
  | some r2 =>
    rw [hg] at h
    have := go_le 10 a _ r2 hg
    obtain rfl := Option.some.inj h
    dsimp only
    omega
section LEG
variable {Z : ZT} {μ : Mu} {D : DD}
theorem key_eq {s a b : Nat} : (nI s * nI 10 + nI a) * nI 10 + nI b = nI (100 * s + 10 * a + b) := by
  rw [nI_mul, nI_add, nI_mul, nI_add]; congr 1; omega
theorem c_knownLeg {s a b : Nat} (H : HC μ 1 D) (W : WF D) (M : MC μ D) (K : KL μ D) (hs : s < D 0 2) (ha : a < D 0 0) (hb : b < D 0 0) : CtrS Z mX10_knownLeg [rf Z 73, .int (nI s), .int (nI a), .int (nI b)] μ (rI fun v μ' => v = nI (100 * s + 10 * a + b) ∧ LK μ' (100 * s + 10 * a + b) (legR D s a b) ∧ KL μ' D ∧ Fr [76, 77] μ μ') := by
  refine CtrS.intro (by decide +kernel) (Nat.le_of_ble_eq_true rfl) rfl fun X E hB => ?_
  have hn := W.1
  have hS := W.2.2.1
  have h8 : μ 1 8 = nI (D 0 2) := H.2.2.2.1
  refine bX10_knownLeg_0 E (by rw [h8]; exact c_within (by omega)) fun v μ1 g => ?_
  obtain ⟨rfl, rfl⟩ := g
  refine bX10_knownLeg_11 E (fun c => absurd c (by rw [bz]; exact not_not_intro (inN_nI hs (by omega)))) (fun _ => ?_)
  refine bX10_knownLeg_14 E (c_hasPlace H W) fun v μ1 g => ?_
  obtain ⟨rfl, rfl⟩ := g
  refine bX10_knownLeg_22 E (fun c => absurd c (by rw [bz]; exact not_not_intro (inN_nI ha (by omega)))) (fun _ => ?_)
  refine bX10_knownLeg_25 E (c_hasPlace H W) fun v μ1 g => ?_
  obtain ⟨rfl, rfl⟩ := g
  refine bX10_knownLeg_33 E (fun _ => ?_) (fun c => absurd (inN_nI hb (by omega)) (by rw [bz] at c; exact c))
  refine bX10_knownLeg_38 E (by rw [key_eq]; exact vin (by omega) (by omega)) (fun c => ?_) (fun c => ?_)
  · rw [key_eq, ix_nI (by omega)] at c
    rw [key_eq]
    refine bX10_knownLeg_84 E hB ⟨_, rfl, rfl, ?_, K, Fr.rf⟩
    rcases K s a b hs ha hb with h | h
    · exact absurd h c
    · exact h
  · rw [key_eq]
    have h10 := (H.2.2.2.2.2.2.2.1 s hs).2.2.2
    have l10 := lt10 (W.2.2.2.2.2.2.1 s hs).2.2.2 hn
    have t2 := two_lt (show b < 10 by omega)
    refine bX10_knownLeg_63 E (vin (by omega) (by omega)) (by rw [ix_nI (show s < 2147483648 by omega), h10, bit_one (by omega), nI_or (by omega) (by omega)]; exact c_goAlong H W M (by omega) ha hb (or_lt10 l10 t2)) fun μ2 g => ?_
    obtain ⟨g1, g2⟩ := g
    refine bX10_knownLeg_84 E hB ⟨_, rfl, rfl, g1, fun s' a' b' hs' ha' hb' => ?_, fun x hx => g2.1 x (by simp at hx; omega) (by simp at hx; omega)⟩
    by_cases e : 100 * s' + 10 * a' + b' = 100 * s + 10 * a + b
    · obtain rfl : b' = b := by omega
      obtain rfl : a' = a := by omega
      obtain rfl : s' = s := by omega
      exact Or.inr g1
    · have q := g2.2 _ e
      rw [q.1]
      rcases K s' a' b' hs' ha' hb' with h | h
      · exact Or.inl h
      · exact Or.inr (h.congr q)
/-- minutes of a leg; -1 where it can't be walked -/
def lgV (R : Option (Nat × Nat)) : Int32 := match R with
  | none => -1
  | some r => nI r.1
theorem c_leg {s a b : Nat} (H : HC μ 1 D) (W : WF D) (M : MC μ D) (K : KL μ D) (hs : s < D 0 2) (ha : a < D 0 0) (hb : b < D 0 0) : CtrS Z mX10_leg [rf Z 73, .int (nI s), .int (nI a), .int (nI b)] μ (rI fun v μ' => v = lgV (legR D s a b) ∧ LK μ' (100 * s + 10 * a + b) (legR D s a b) ∧ KL μ' D ∧ Fr [76, 77] μ μ') := by
  refine CtrS.intro (by decide +kernel) (Nat.le_of_ble_eq_true rfl) rfl fun X E hB => ?_
  have hn := W.1
  have hS := W.2.2.1
  refine bX10_leg_0 E (c_knownLeg H W M K hs ha hb) fun v μ1 g => ?_
  obtain ⟨rfl, g1, g2, g3⟩ := g
  have nm : ¬ nI (100 * s + 10 * a + b) = -1 := fun e => absurd (show nI (100 * s + 10 * a + b) < 0 by rw [e]; decide) (Int32.not_lt.mpr (nI_pos' (by omega)))
  refine bX10_leg_7 E (fun _ => ?_) (fun c => absurd c nm)
  refine bX10_leg_19 E (vin (by omega) (by omega)) (bX10_leg_26 E hB ⟨_, rfl, ?_, g1, g2, g3⟩)
  rw [ix_nI (by omega)]
  unfold LK at g1
  unfold lgV
  cases hR : legR D s a b with
  | none => rw [hR] at g1; exact g1
  | some r => rw [hR] at g1; exact g1.1
theorem c_passed {s a b : Nat} {r : Nat × Nat} (H : HC μ 1 D) (W : WF D) (M : MC μ D) (K : KL μ D) (hs : s < D 0 2) (ha : a < D 0 0) (hb : b < D 0 0) (hr : legR D s a b = some r) : CtrS Z mX10_passed [rf Z 73, .int (nI s), .int (nI a), .int (nI b)] μ (rI fun v μ' => v = nI r.2 ∧ KL μ' D ∧ Fr [76, 77] μ μ') := by
  refine CtrS.intro (by decide +kernel) (Nat.le_of_ble_eq_true rfl) rfl fun X E hB => ?_
  have hn := W.1
  have hS := W.2.2.1
  refine bX10_passed_0 E (c_knownLeg H W M K hs ha hb) fun v μ1 g => ?_
  obtain ⟨rfl, g1, g2, g3⟩ := g
  have nm : ¬ nI (100 * s + 10 * a + b) = -1 := fun e => absurd (show nI (100 * s + 10 * a + b) < 0 by rw [e]; decide) (Int32.not_lt.mpr (nI_pos' (by omega)))
  refine bX10_passed_7 E (fun _ => ?_) (fun c => absurd c nm)
  refine bX10_passed_19 E (vin (by omega) (by omega)) (bX10_passed_26 E hB ⟨_, rfl, ?_, g2, g3⟩)
  rw [ix_nI (by omega)]
  unfold LK at g1
  rw [hr] at g1
  exact g1.2
end LEG
