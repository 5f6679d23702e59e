/-! WALKS: the nearest, the whole search -/
/-- the nearest place left, plus one; 0: none -/
def nr (D : DD) (p left : Nat) : Nat → Nat
  | 0 => 0
  | q + 1 => if left.testBit q = true ∧ mn D p q < 10000 ∧ (nr D p left q = 0 ∨ mn D p q < mn D p (nr D p left q - 1)) then q + 1 else nr D p left q
theorem nr_le {D : DD} {p left : Nat} : ∀ n, nr D p left n ≤ n
  | 0 => Nat.le_refl 0
  | n + 1 => by
    have := nr_le (D := D) (p := p) (left := left) n
    unfold nr; split <;> omega
theorem nr_ok {D : DD} {p left : Nat} : ∀ n, nr D p left n ≠ 0 → left.testBit (nr D p left n - 1) = true ∧ mn D p (nr D p left n - 1) < 10000
  | 0, h => absurd rfl h
  | n + 1, h => by
    unfold nr at h ⊢
    split at h
    · rename_i c
      rw [if_pos c]; exact ⟨c.1, c.2.1⟩
    · rename_i c
      rw [if_neg c]; exact nr_ok n h
theorem nr_some {D : DD} {p left q : Nat} (h1 : left.testBit q = true) (h2 : mn D p q < 10000) : ∀ n, q < n → nr D p left n ≠ 0
  | 0, h => absurd h (Nat.not_lt_zero _)
  | n + 1, h => by
    unfold nr
    split
    · omega
    · rename_i c
      by_cases e : q = n
      · subst e
        intro z
        exact c ⟨h1, h2, Or.inl z⟩
      · exact nr_some h1 h2 n (by omega)
/-- a set without one place -/
def clr (left q : Nat) : Nat := left ^^^ 2 ^ q
theorem clr_tb {left q i : Nat} (h : left.testBit q = true) : (clr left q).testBit i = (left.testBit i && !decide (q = i)) := by
  rw [clr, Nat.testBit_xor, Nat.testBit_two_pow]
  by_cases e : q = i
  · subst e; simp [h]
  · simp [e]
theorem clr_or {left q : Nat} (h : left.testBit q = true) : clr left q ||| 2 ^ q = left := by
  apply Nat.eq_of_testBit_eq
  intro i
  rw [Nat.testBit_or, clr_tb h, Nat.testBit_two_pow]
  by_cases e : q = i
  · subst e; simp [h]
  · simp [e]
theorem clr_lt {left q : Nat} (hl : left < 1024) (hq : q < 10) : clr left q < 1024 := Nat.xor_lt_two_pow (n := 10) hl (two_lt hq)
theorem clr_m {left q : Nat} (hl : left < 1024) (hq : q < 10) (h : left.testBit q = true) : nI left &&& ((nI 1 <<< (nI q &&& 31)) ^^^ (-1)) = nI (clr left q) := by
  have := unbit (x := clr left q) (p := q) (clr_lt hl hq) hq (by rw [clr_tb h]; simp)
  rw [clr_or h] at this
  exact this
/-- the search: minutes and places passed; none: the goal isn't reached -/
def go (D : DD) (to : Nat) : Nat → Nat → Nat → Option (Nat × List Nat)
  | 0, _, _ => none
  | k + 1, p, left => match nr D p left (D 0 0) with
    | 0 => none
    | q + 1 => if q = to then some (mn D p q, pth D q 10 p) else match go D to k q (clr left q) with
      | none => none
      | some r => some (mn D p q + r.1, pth D q 10 p ++ r.2)
section NEAR
variable {Z : ZT} {μ : Mu} {D : DD}
theorem c_nearest {p left : Nat} (H : HC μ 1 D) (W : WF D) (M : MC μ D) (hp : p < D 0 0) (hl : left < 1024) : CtrS Z mX10_nearest [rf Z 73, .int (nI p), .int (nI left)] μ (rI fun v μ' => v = lotI (nr D p left (D 0 0)) ∧ μ' = μ) := by
  refine CtrS.intro (by decide +kernel) (Nat.le_of_ble_eq_true rfl) rfl fun X E hB => ?_
  have hn := W.1
  have loop : ∀ k i, i + k = D 0 0 → JS Z X 10 [(0, rf Z 73), (1, .int (nI p)), (2, .int (nI left)), (3, .int (lotI (nr D p left i))), (4, .int (nI (if nr D p left i = 0 then 10000 else mn D p (nr D p left i - 1)))), (5, .int (nI i))] [] μ := by
    intro k
    induction k with
    | zero =>
      intro i hi
      have : i = D 0 0 := hi
      subst this
      exact bX10_nearest_10 E (fun _ => bX10_nearest_72 E hB ⟨_, rfl, rfl, rfl⟩) (fun c => absurd (by rw [H.2.1, nI_leE (by omega) (by omega)]; omega) c)
    | succ k ih =>
      intro i hi
      have q := ih (i + 1) (by omega)
      have m := M.1 p i hp (by omega)
      have lm := cm_le (D := D) (a := p) (b := i)
      have gap := mn_gap W (a := p) (b := i) (by omega) (by omega)
      have nl := nr_le (D := D) (p := p) (left := left) i
      have lv : (if nr D p left i = 0 then 10000 else mn D p (nr D p left i - 1)) ≤ 10000 := by
        split
        · exact Nat.le_refl _
        · rename_i z
          have := (nr_ok i z).2; omega
      have no : ¬ (left.testBit i = true ∧ mn D p i < 10000 ∧ (nr D p left i = 0 ∨ mn D p i < mn D p (nr D p left i - 1))) → JS Z X 66 [(0, rf Z 73), (1, .int (nI p)), (2, .int (nI left)), (3, .int (lotI (nr D p left i))), (4, .int (nI (if nr D p left i = 0 then 10000 else mn D p (nr D p left i - 1)))), (5, .int (nI i))] [] μ := fun n => by
        refine bX10_nearest_66 E ?_
        rw [nI_add]
        rw [show nr D p left (i + 1) = nr D p left i from if_neg n] at q
        exact q
      refine bX10_nearest_10 E (fun c => absurd c (by rw [H.2.1, nI_leE (by omega) (by omega)]; omega)) (fun _ => ?_)
      refine bX10_nearest_22 E (fun c => ?_) (fun c => ?_)
      · rw [bitc (by omega) (by omega)] at c
        exact no fun g => c g.1
      · rw [bitc (by omega) (by omega)] at c
        refine bX10_nearest_32 E (by rw [ab10]; exact vin (by omega) (by omega)) (fun d => ?_) (fun d => ?_)
        · rw [ab10, ix_nI (by omega), m, nI_leE (by omega) (by omega)] at d
          refine no fun g => ?_
          rw [cm_fin g.2.1] at d
          rcases g.2.2 with z | z
          · rw [if_pos z] at d; omega
          · by_cases z0 : nr D p left i = 0
            · rw [if_pos z0] at d; omega
            · rw [if_neg z0] at d; omega
        · rw [ab10, ix_nI (by omega), m, nI_leE (by omega) (by omega)] at d
          have f : mn D p i < 10000 := by unfold cm at d; omega
          have yes : left.testBit i = true ∧ mn D p i < 10000 ∧ (nr D p left i = 0 ∨ mn D p i < mn D p (nr D p left i - 1)) := by
            refine ⟨c, f, ?_⟩
            by_cases z0 : nr D p left i = 0
            · exact Or.inl z0
            · rw [if_neg z0, cm_fin f] at d
              exact Or.inr (by omega)
          rw [show nr D p left (i + 1) = i + 1 from if_pos yes, if_neg (by omega), lotI, nI_suc_m1, Nat.add_sub_cancel] at q
          refine bX10_nearest_49 E (by rw [ab10]; exact vin (by omega) (by omega)) (bX10_nearest_66 E ?_)
          rw [ab10, ix_nI (by omega), m, cm_fin f, nI_add]
          exact q
  have z := loop (D 0 0) 0 (by omega)
  rw [show nr D p left 0 = 0 from rfl, if_pos rfl, show lotI 0 = -1 by decide] at z
  exact bX10_nearest_0 E z
end NEAR
