/-! HUNTS: a hunt laid out -/
/-- an order of slips; where and how its riddles are -/
def ro (D : DD) (l i : Nat) : Nat := D 12 (6 * l + i)
def hAt (D : DD) (q : Nat → Nat) : Nat → Nat
  | 0 => D 13 3
  | i + 1 => D 7 (q (i + 1))
def hNx (D : DD) (q : Nat → Nat) (n i : Nat) : Nat := if i + 1 < n then D 7 (q (i + 1)) else D 13 4
def hMs (D : DD) (l : Nat) (q : Nat → Nat) (i : Nat) : Nat := miss D (l + 1) (D 8 (q i)) (hAt D q i) 6
def hLs (D : DD) (l : Nat) (q : Nat → Nat) (i : Nat) : Nat := if hMs D l q i < 1000000 then 1 else D 13 0
def hLg (D : DD) (q : Nat → Nat) (n i : Nat) : Option (Nat × Nat) := legR D (q i) (hAt D q i) (hNx D q n i)
def hW1 (R : Option (Nat × Nat)) : Nat := match R with
  | none => 0
  | some r => r.1
def hWk (D : DD) (q : Nat → Nat) (n : Nat) : Nat → Nat
  | 0 => 0
  | i + 1 => hWk D q n i + hW1 (hLg D q n i)
def hLe (D : DD) (l : Nat) (q : Nat → Nat) : Nat → Nat
  | 0 => 0
  | i + 1 => hLe D l q i + hLs D l q i
def lgOk (D : DD) (q : Nat → Nat) (n : Nat) : Nat → Bool
  | 0 => true
  | i + 1 => lgOk D q n i && (hLg D q n i).isSome
def hOk (D : DD) (q : Nat → Nat) (n : Nat) : Bool := decide (D 13 3 < D 0 0) && decide (D 13 4 < D 0 0) && decide (0 < n) && lgOk D q n n
/-- slips of an order -/
def QO (D : DD) (q : Nat → Nat) (n : Nat) : Prop := n ≤ 6 ∧ ∀ i, i < n → q i < D 0 2
theorem QO.row {D : DD} (W : WF D) {l : Nat} (hl : l < 2) : QO D (ro D l) (D 11 l) := ⟨(W.2.2.2.2.2.2.2 l hl).1, fun i hi => ((W.2.2.2.2.2.2.2 l hl).2 i hi).1⟩
def HQ (μ : Mu) (o l : Nat) (q : Nat → Nat) (n : Nat) : Prop := μ o 3 = nI l ∧ μ o 4 = nI n ∧ ∀ i, i < n → μ (o + 1) i = nI (q i)
/-- the first k of n laid -/
def HLd (μ : Mu) (o : Nat) (D : DD) (l : Nat) (q : Nat → Nat) (n k : Nat) : Prop := μ o 11 = nI (hWk D q n k) ∧ μ o 12 = nI (hLe D l q k) ∧ ∀ i, i < k → μ (o + 2) i = nI (hAt D q i) ∧ μ (o + 3) i = nI (hMs D l q i) ∧ μ (o + 5) i = nI (hWk D q n i + hLe D l q i) ∧ μ (o + 6) i = nI (hWk D q n i + (i + 1) * D 13 0)
theorem hWk_le {D : DD} {q : Nat → Nat} {n : Nat} : ∀ i, hWk D q n i ≤ 100000 * i
  | 0 => Nat.le_refl 0
  | i + 1 => by
    have h := hWk_le (D := D) (q := q) (n := n) i
    unfold hWk hW1
    cases e : hLg D q n i with
    | none => dsimp only; omega
    | some r => have := legR_le e; dsimp only; omega
theorem hLe_le {D : DD} (WW : WN D) {l : Nat} {q : Nat → Nat} : ∀ i, hLe D l q i ≤ 6 * i
  | 0 => Nat.le_refl 0
  | i + 1 => by
    have h := hLe_le WW (l := l) (q := q) i
    have := WW.1.2.1
    unfold hLe hLs
    split <;> omega
theorem lgOk_le {D : DD} {q : Nat → Nat} {n : Nat} : ∀ k i, lgOk D q n (i + k) = true → lgOk D q n i = true
  | 0, i, h => h
  | k + 1, i, h => lgOk_le k i (by rw [← Nat.add_assoc, lgOk, Bool.and_eq_true] at h; exact h.1)
theorem lgOk_at {D : DD} {q : Nat → Nat} {n k i : Nat} (h : lgOk D q n k = true) (hi : i < k) : ∃ r, hLg D q n i = some r := by
  have h2 := lgOk_le (k - (i + 1)) (i + 1) (by rw [show i + 1 + (k - (i + 1)) = k by omega]; exact h)
  rw [lgOk, Bool.and_eq_true] at h2
  exact Option.isSome_iff_exists.mp h2.2
theorem hAt_lt {D : DD} (W : WF D) {q : Nat → Nat} {n i : Nat} (Q : QO D q n) (h3 : D 13 3 < D 0 0) (hi : i < n) : hAt D q i < D 0 0 := by
  cases i with
  | zero => exact h3
  | succ i => exact (W.2.2.2.2.2.2.1 _ (Q.2 _ hi)).1
theorem hNx_lt {D : DD} (W : WF D) {q : Nat → Nat} {n i : Nat} (Q : QO D q n) (h4 : D 13 4 < D 0 0) : hNx D q n i < D 0 0 := by
  unfold hNx
  split
  · rename_i h; exact (W.2.2.2.2.2.2.1 _ (Q.2 _ h)).1
  · exact h4
theorem hNx_at {D : DD} {q : Nat → Nat} {n i : Nat} (h : i + 1 < n) : hNx D q n i = hAt D q (i + 1) := if_pos h
section LAY1
variable {Z : ZT} {μ : Mu} {D : DD}
abbrev layS (o : Nat) : List Nat := [o, o + 2, o + 3, o + 4, o + 5, o + 6]
theorem c_layRiddle {o l i here wk ls : Nat} (ho : SH o = .inl 4) (hd : 31 ≤ o) (H : HC μ 1 D) (N : NC μ 27 D) (W : WF D) (WW : WN D) (hl : l < 2) {q : Nat → Nat} {n : Nat} (T : HQ μ o l q n) (Q : QO D q n) (hi : i < n) (hh : here < 10) (e11 : μ o 11 = nI wk) (e12 : μ o 12 = nI ls) : CtrS Z mX4_layRiddle [rf Z o, .int (nI i), .int (nI here)] μ (rV fun μ' => μ' (o + 2) = upd (μ (o + 2)) i (nI here) ∧ μ' (o + 3) = upd (μ (o + 3)) i (nI (miss D (l + 1) (D 8 (q i)) here 6)) ∧ μ' (o + 5) = upd (μ (o + 5)) i (nI (wk + ls)) ∧ μ' (o + 6) = upd (μ (o + 6)) i (nI (wk + (i + 1) * D 13 0)) ∧ μ' o = upd (μ o) 12 (nI (ls + if miss D (l + 1) (D 8 (q i)) here 6 < 1000000 then 1 else D 13 0)) ∧ Fr (layS o) μ μ') := by
  refine CtrS.intro (by decide +kernel) (Nat.le_of_ble_eq_true rfl) rfl fun X E hB => ?_
  have hl6 := Q.1
  have lt := Q.2 i hi
  have hS := W.2.2.1
  have hn := W.1
  have hk := (W.2.2.2.2.2.2.1 _ lt).2.1
  have iv : vp_in (nI i) 6 := vin (by omega) (by omega)
  have hp := N.2.2.1 0 (by omega)
  have wh := WW.1.2.1
  have es := T.2.2 i hi
  refine bX4_layRiddle_0 E ho (vin (by omega) (by omega)) iv ?_
  rw [ix_nI (show 0 < 2147483648 by omega), ix_nI (show i < 2147483648 by omega), show μ (27 + 1) 0 = _ from hp]
  have H1 : HC (uR μ (o + 2) (upd (μ (o + 2)) i (nI here))) 1 D := H.fr fun k hk => uR_n (by omega)
  refine bX4_layRiddle_17 E ho iv (by rw [ix_nI (by omega), uR_n (by omega), es]; exact vin (by omega) (by omega)) (by rw [ix_nI (show i < 2147483648 by omega), uR_n (show o + 1 ≠ o + 2 by omega), es, ix_nI (by omega), uR_n (show 1 + 8 ≠ o + 2 by omega), show μ (1 + 8) (q i) = _ from (H.2.2.2.2.2.2.2.1 _ lt).2.1]; exact c_weigh ho (by omega) H1 W (by omega) hl (by omega) hh (by rw [uR_n (by omega)]; exact T.1) (by rw [uR_s, pk_us])) fun v μ2 g => ?_
  obtain ⟨rfl, g1, g2⟩ := g
  have e2 : ∀ a, a ≠ o + 4 → a ≠ o + 2 → μ2 a = μ a := fun a h1 h2 => by rw [g2 a (by simpa using h1), uR_n h2]
  have e22 : μ2 (o + 2) = upd (μ (o + 2)) i (nI here) := by rw [g2 _ (by simp), uR_s]
  have ml := miss_le (D := D) (l := l + 1) (k := D 8 (q i)) (p := here) 6
  refine bX4_layRiddle_41 E ho (shr_X4_7 ho) iv (bX4_layRiddle_42 E ho iv (bX4_layRiddle_57 E ho iv ?_))
  rw [ix_nI (show i < 2147483648 by omega)]
  have f0 : μ2 o = μ o := e2 o (by omega) (by omega)
  simp (disch := omega) only [uR_n]
  rw [f0, e11, e12, nI_add, nI_add, nI_mul, nI_add, e2 (o + 3) (by omega) (by omega), e2 (o + 5) (by omega) (by omega), e2 (o + 6) (by omega) (by omega)]
  generalize hm : miss D (l + 1) (D 8 (q i)) here 6 = m at ml
  have hm' : miss D (l + 1) (D 8 (q i)) here 6 = m := hm
  rw [hm'] at hB
  generalize h3 : uR (uR (uR μ2 (o + 3) (upd (μ (o + 3)) i (nI m))) (o + 5) (upd (μ (o + 5)) i (nI (wk + ls)))) (o + 6) (upd (μ (o + 6)) i (nI (wk + (i + 1) * D 13 0))) = μ3
  have k2 : μ3 (o + 2) = upd (μ (o + 2)) i (nI here) := by
    rw [← h3, uR_n (by omega), uR_n (by omega), uR_n (by omega)]; exact e22
  have k3 : μ3 (o + 3) = upd (μ (o + 3)) i (nI m) := by rw [← h3, uR_n (by omega), uR_n (by omega), uR_s]
  have k5 : μ3 (o + 5) = upd (μ (o + 5)) i (nI (wk + ls)) := by rw [← h3, uR_n (by omega), uR_s]
  have k6 : μ3 (o + 6) = upd (μ (o + 6)) i (nI (wk + (i + 1) * D 13 0)) := by rw [← h3, uR_s]
  have k0 : μ3 o = μ o := by rw [← h3, uR_n (by omega), uR_n (by omega), uR_n (by omega)]; exact f0
  have kF : Fr (layS o) μ μ3 := fun a ha => by
    have ha : a ≠ o ∧ a ≠ o + 2 ∧ a ≠ o + 3 ∧ a ≠ o + 4 ∧ a ≠ o + 5 ∧ a ≠ o + 6 := by simpa using ha
    rw [← h3, uR_n (by omega), uR_n (by omega), uR_n (by omega)]; exact e2 a (by omega) (by omega)
  have fin : ∀ y, y = (if m < 1000000 then 1 else D 13 0) → JS Z X 94 [] [.int (nI y), .int (nI ls), rf Z o] μ3 := fun y hy => by
    refine bX4_layRiddle_94 E ho (bX4_layRiddle_98 E hB ⟨rfl, ?_⟩)
    rw [nI_add, hy, k0]
    exact ⟨by rw [uR_n (by omega)]; exact k2, by rw [uR_n (by omega)]; exact k3, by rw [uR_n (by omega)]; exact k5, by rw [uR_n (by omega)]; exact k6, uR_s, kF.tr (Fr.uR (by simp))⟩
  have km : μ3 (o + 3) i = nI m := by rw [k3, pk_us]
  have k12 : μ3 o 12 = nI ls := by rw [k0]; exact e12
  refine bX4_layRiddle_73 E ho iv (fun c => ?_) (fun c => ?_)
  · rw [ix_nI (by omega), km, nI_leE (by omega) (by omega)] at c
    rw [k12]
    exact bX4_layRiddle_93 E ho (fin _ (by rw [if_neg (by omega)]))
  · rw [ix_nI (by omega), km, nI_leE (by omega) (by omega)] at c
    rw [k12]
    exact bX4_layRiddle_89 E ho (fin 1 (by rw [if_pos (by omega)]))
end LAY1
