/-! WALKS: what the least minutes are (no machine here) -/
theorem fw_sym {D : DD} (W : WF D) : ∀ k a b, k ≤ 10 → a < 10 → b < 10 → fw D k a b = fw D k b a
  | 0, a, b, _, ha, hb => by
    have w := (W.2.2.2.1 a b ha hb).2.1
    unfold fw
    rw [w]
    by_cases e : a = b
    · rw [if_pos e, if_pos e.symm]
    · rw [if_neg e, if_neg (Ne.symm e)]
  | k + 1, a, b, hk, ha, hb => by
    rw [fw, fw, fw_sym W k a k (by omega) ha (by omega), fw_sym W k k b (by omega) (by omega) hb, fw_sym W k a b (by omega) ha hb, Nat.add_comm]
theorem fw_tri {D : DD} : ∀ k a b m, m < k → fw D k a b ≤ fw D k a m + fw D k m b
  | 0, _, _, _, h => absurd h (Nat.not_lt_zero _)
  | k + 1, a, b, m, h => by
    by_cases e : m = k
    · subst e
      rw [fw_col, fw_row, fw]
      exact Nat.min_le_left _ _
    · have hm : m < k := by omega
      have t1 := fw_tri (D := D) k a b m hm
      have t2 := fw_tri (D := D) k k b m hm
      have t3 := fw_tri (D := D) k a k m hm
      simp only [fw]
      omega
theorem fw_dec {D : DD} {a b : Nat} : ∀ j k, fw D (k + j) a b ≤ fw D k a b
  | 0, _ => Nat.le_refl _
  | j + 1, k => Nat.le_trans (Nat.min_le_right _ _) (fw_dec j k)
theorem mn_dec {D : DD} {k a b : Nat} (h : k ≤ D 0 0) : mn D a b ≤ fw D k a b := by
  obtain ⟨j, hj⟩ := Nat.exists_eq_add_of_le h
  rw [mn, hj]
  exact fw_dec j k
theorem mn_sym {D : DD} (W : WF D) {a b : Nat} (ha : a < 10) (hb : b < 10) : mn D a b = mn D b a := fw_sym W _ a b W.1 ha hb
theorem mn_tri {D : DD} {a b m : Nat} (hm : m < D 0 0) : mn D a b ≤ mn D a m + mn D m b := fw_tri _ a b m hm
theorem mn_d {D : DD} {a : Nat} : mn D a a = 0 := fw_d _ a
theorem mn_way {D : DD} {a b : Nat} (h : 0 < D 1 (10 * a + b)) : mn D a b ≤ D 1 (10 * a + b) := by
  refine Nat.le_trans (mn_dec (k := 0) (Nat.zero_le _)) ?_
  unfold fw
  split
  · omega
  · first | exact Nat.le_refl _ | (rw [if_pos h]; exact Nat.le_refl _)
theorem way_lt {D : DD} (W : WF D) {a p : Nat} (ha : a < 10) (hp : p < 10) (h : 0 < D 1 (10 * a + p)) : a < D 0 0 ∧ p < D 0 0 ∧ a ≠ p := by
  have w := W.2.2.2.1 a p ha hp
  have w' := W.2.2.2.1 p a hp ha
  refine ⟨?_, ?_, ?_⟩
  · refine Nat.lt_of_not_le fun g => ?_
    have := w.2.2 (Or.inl g); omega
  · refine Nat.lt_of_not_le fun g => ?_
    have := w'.2.2 (Or.inl g)
    rw [w.2.1] at h; omega
  · intro e
    have := w.2.2 (Or.inr e); omega
theorem fw_step {D : DD} (W : WF D) : ∀ k a b, k ≤ D 0 0 → a < D 0 0 → b < D 0 0 → a ≠ b → fw D k a b < 100000 → ∃ p, p < D 0 0 ∧ 0 < D 1 (10 * a + p) ∧ D 1 (10 * a + p) + mn D p b ≤ fw D k a b
  | 0, a, b, _, ha, hb, hab, h => by
    have hn := W.1
    unfold fw at h ⊢
    rw [if_neg hab] at h ⊢
    by_cases g : 0 < D 1 (10 * a + b)
    · rw [if_pos g] at h ⊢
      exact ⟨b, hb, g, by rw [mn_d]; exact Nat.le_refl _⟩
    · rw [if_neg g] at h; omega
  | k + 1, a, b, hk, ha, hb, hab, h => by
    have hn := W.1
    rw [fw] at h ⊢
    by_cases g : fw D k a b ≤ fw D k a k + fw D k k b
    · rw [Nat.min_eq_right g] at h ⊢
      exact fw_step W k a b (by omega) ha hb hab h
    · rw [Nat.min_eq_left (by omega)] at h ⊢
      by_cases e : a = k
      · subst e
        rw [fw_d] at g; omega
      · obtain ⟨p, p1, p2, p3⟩ := fw_step W k a k (by omega) ha (by omega) e (by omega)
        refine ⟨p, p1, p2, ?_⟩
        have t := mn_tri (D := D) (a := p) (b := b) (m := k) (by omega)
        have d := mn_dec (D := D) (k := k) (a := k) (b := b) (by omega)
        omega
/-- what can be walked: a way first, then the rest -/
theorem mn_step {D : DD} (W : WF D) {a b : Nat} (ha : a < D 0 0) (hb : b < D 0 0) (hab : a ≠ b) (h : mn D a b < 10000) : ∃ p, p < D 0 0 ∧ 0 < D 1 (10 * a + p) ∧ D 1 (10 * a + p) + mn D p b = mn D a b := by
  obtain ⟨p, p1, p2, p3⟩ := fw_step W (D 0 0) a b (Nat.le_refl _) ha hb hab (by show mn D a b < _; omega)
  refine ⟨p, p1, p2, Nat.le_antisymm p3 ?_⟩
  have := mn_tri (D := D) (a := a) (b := b) p1
  have := mn_way p2
  omega
theorem mn_trans {D : DD} (W : WF D) {a b m : Nat} (ha : a < 10) (hb : b < 10) (hm : m < D 0 0) (h1 : mn D a m < 10000) (h2 : mn D m b < 10000) : mn D a b < 10000 := by
  have := mn_tri (D := D) (a := a) (b := b) hm
  have := mn_gap W ha hb
  omega
theorem sg_spec {c : Nat → Bool} {b : Nat} : ∀ k i, (∃ p, i ≤ p ∧ p < i + k ∧ c p = true) → c (sg c b i k) = true ∧ i ≤ sg c b i k ∧ sg c b i k < i + k ∧ ∀ q, i ≤ q → q < sg c b i k → c q = false
  | 0, i, ⟨p, h1, h2, _⟩ => by omega
  | k + 1, i, ⟨p, h1, h2, h3⟩ => by
    unfold sg
    by_cases e : c i = true
    · rw [if_pos e]
      exact ⟨e, Nat.le_refl _, by omega, fun q g1 g2 => by omega⟩
    · rw [if_neg e]
      have hp : i ≠ p := fun g => e (g ▸ h3)
      obtain ⟨g1, g2, g3, g4⟩ := sg_spec (b := b) k (i + 1) ⟨p, by omega, by omega, h3⟩
      refine ⟨g1, by omega, by omega, fun q q1 q2 => ?_⟩
      by_cases w : q = i
      · subst w; simpa using e
      · exact g4 q (by omega) q2
theorem cm_fin {D : DD} {a b : Nat} (h : mn D a b < 10000) : cm D a b = mn D a b := Nat.min_eq_left (by omega)
/-- the step of a path that can be walked -/
theorem st_spec {D : DD} (W : WF D) {a b : Nat} (ha : a < D 0 0) (hb : b < D 0 0) (hab : a ≠ b) (h : mn D a b < 10000) : st D a b < D 0 0 ∧ 0 < D 1 (10 * a + st D a b) ∧ D 1 (10 * a + st D a b) + mn D (st D a b) b = mn D a b ∧ ∀ q, q < st D a b → ¬ (0 < D 1 (10 * a + q) ∧ D 1 (10 * a + q) + mn D q b = mn D a b) := by
  obtain ⟨p, p1, p2, p3⟩ := mn_step W ha hb hab h
  have e : ∀ q, cnd D a b q = true ↔ 0 < D 1 (10 * a + q) ∧ D 1 (10 * a + q) + mn D q b = mn D a b := fun q => by
    rw [cnd, cm_fin h, Bool.and_eq_true, decide_eq_true_eq, decide_eq_true_eq]
    constructor
    · intro ⟨q1, q2⟩
      refine ⟨q1, ?_⟩
      unfold cm at q2
      omega
    · intro ⟨q1, q2⟩
      refine ⟨q1, ?_⟩
      rw [cm_fin (by omega)]; exact q2
  obtain ⟨g1, g2, g3, g4⟩ := sg_spec (c := cnd D a b) (b := b) (D 0 0) 0 ⟨p, Nat.zero_le _, by omega, (e p).mpr ⟨p2, p3⟩⟩
  have g1' := (e _).mp g1
  refine ⟨by unfold st; omega, g1'.1, g1'.2, fun q hq c => ?_⟩
  have := g4 q (Nat.zero_le _) hq
  rw [(e q).mpr c] at this
  exact absurd this (by decide)
/-- how many places are nearer -/
def rk (g : Nat → Nat) (x : Nat) : Nat → Nat
  | 0 => 0
  | n + 1 => rk g x n + if g n < x then 1 else 0
theorem rk_le (g : Nat → Nat) (x : Nat) : ∀ n, rk g x n ≤ n
  | 0 => Nat.le_refl 0
  | n + 1 => by have := rk_le g x n; unfold rk; split <;> omega
theorem rk_mono {g : Nat → Nat} {x y : Nat} (h : x ≤ y) : ∀ n, rk g x n ≤ rk g y n
  | 0 => Nat.le_refl 0
  | n + 1 => by
    have := rk_mono (g := g) h n
    unfold rk
    by_cases e : g n < x
    · rw [if_pos e, if_pos (by omega)]; omega
    · rw [if_neg e]; split <;> omega
theorem rk_lt {g : Nat → Nat} {p y : Nat} (h : g p < y) : ∀ n, p < n → rk g (g p) n < rk g y n
  | 0, hp => absurd hp (Nat.not_lt_zero _)
  | n + 1, hp => by
    unfold rk
    by_cases e : p = n
    · subst e
      have := rk_mono (g := g) (x := g p) (y := y) (by omega) p
      rw [if_neg (by omega), if_pos h]; omega
    · have := rk_lt h n (by omega)
      by_cases q : g n < g p
      · rw [if_pos q, if_pos (by omega)]; omega
      · rw [if_neg q]; split <;> omega
theorem rk_self {g : Nat → Nat} {p : Nat} : ∀ n, p < n → rk g (g p) n < n
  | 0, hp => absurd hp (Nat.not_lt_zero _)
  | n + 1, hp => by
    unfold rk
    by_cases e : p = n
    · subst e
      have := rk_le g (g p) p
      rw [if_neg (by omega)]; omega
    · have := rk_self (g := g) n (show p < n by omega)
      split <;> omega
/-- the places of a path, with steps enough -/
def pth (D : DD) (b : Nat) : Nat → Nat → List Nat
  | 0, a => [a]
  | k + 1, a => if a = b then [a] else a :: pth D b k (st D a b)
def rank (D : DD) (a b : Nat) : Nat := rk (fun q => mn D q b) (mn D a b) (D 0 0)
theorem rank_st {D : DD} (W : WF D) {a b : Nat} (ha : a < D 0 0) (hb : b < D 0 0) (hab : a ≠ b) (h : mn D a b < 10000) : rank D (st D a b) b < rank D a b := by
  obtain ⟨g1, g2, g3, -⟩ := st_spec W ha hb hab h
  exact rk_lt (g := fun q => mn D q b) (p := st D a b) (show mn D (st D a b) b < mn D a b by omega) _ g1
theorem rank_lt {D : DD} {a b : Nat} (ha : a < D 0 0) : rank D a b < D 0 0 := rk_self (g := fun q => mn D q b) _ ha
/-- more steps change nothing -/
theorem pth_more {D : DD} (W : WF D) {b : Nat} (hb : b < D 0 0) : ∀ k j a, a < D 0 0 → mn D a b < 10000 → rank D a b ≤ k → pth D b (k + j) a = pth D b k a
  | 0, 0, _, _, _, _ => rfl
  | 0, j + 1, a, ha, h, hr => by
    by_cases e : a = b
    · show pth D b (0 + (j + 1)) a = [a]
      rw [show 0 + (j + 1) = j + 1 by omega]
      exact if_pos e
    · have := rank_st W ha hb e h; omega
  | k + 1, j, a, ha, h, hr => by
    rw [show k + 1 + j = (k + j) + 1 by omega, pth, pth]
    by_cases e : a = b
    · rw [if_pos e, if_pos e]
    · obtain ⟨g1, g2, g3, -⟩ := st_spec W ha hb e h
      have := rank_st W ha hb e h
      rw [if_neg e, if_neg e, pth_more W hb k j _ g1 (by omega) (by omega)]
