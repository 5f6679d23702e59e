/-! WF: every call keeps a state well made -/
theorem inRow_no {D : DD} {l s : Nat} : ∀ {n : Nat}, inRow D l s n = false → ∀ i, i < n → D 12 (6 * l + i) ≠ s
  | 0, _, i, hi => absurd hi (Nat.not_lt_zero i)
  | n + 1, h, i, hi => by
    rw [inRow, Bool.or_eq_false_iff] at h
    rcases Nat.lt_or_ge i n with g | g
    · exact inRow_no h.1 i g
    · have : i = n := by omega
      subst this
      exact of_decide_eq_false h.2
theorem p2m {x n : Nat} (h : x < 2 ^ n) : x < 2 ^ (n + 1) := Nat.lt_of_lt_of_le h (Nat.pow_le_pow_right (by decide) (Nat.le_succ n))
section WFS
variable {D : DD}
theorem WF_oPlace (W : WF D) : WF (oPlace D).2 := by
  unfold oPlace
  split
  · exact W
  · obtain ⟨w1, w2, w3, w4, w5, w6, w7, w8⟩ := W
    dsimp only
    refine ⟨?_, ?_, ?_, fun p q hp hq => ?_, fun p hp => ?_, fun c hc => ?_, fun s hs => ?_, ?_⟩
    · simp [up]; omega
    · simpa [up] using w2
    · simpa [up] using w3
    · have := w4 p q hp hq
      refine ⟨by simpa [up] using this.1, by simpa [up] using this.2.1, fun g => ?_⟩
      have g : D 0 0 + 1 ≤ p ∨ p = q := by simpa [up] using g
      have := this.2.2 (by omega)
      simpa [up] using this
    · have := w5 p hp
      refine ⟨by simpa [up] using p2m this.1, by simpa [up] using this.2.1, fun g => ?_⟩
      have g : D 0 0 + 1 ≤ p := by simpa [up] using g
      have := this.2.2 (by omega)
      simpa [up] using this
    · have := w6 c (by simpa [up] using hc)
      exact ⟨by simpa [up] using this.1, by simpa [up] using this.2.1, by simpa [up] using p2m this.2.2.1, by simpa [up] using this.2.2.2⟩
    · have := w7 s (by simpa [up] using hs)
      exact ⟨by simpa [up] using Nat.lt_succ_of_lt this.1, by simpa [up] using this.2.1, by simpa [up] using this.2.2.1, by simpa [up] using p2m this.2.2.2⟩
    · simpa [up] using w8
theorem WF_oWay {a b n : Int32} (W : WF D) : WF (oWay D a b n).2 := by
  unfold oWay
  split
  · rename_i h
    obtain ⟨c1, c2, c3, c4⟩ := h
    obtain ⟨w1, w2, w3, w4, w5, w6, w7, w8⟩ := W
    obtain ⟨ha, ea⟩ := inN_of c1 (by omega)
    obtain ⟨hb, eb⟩ := inN_of c2 (by omega)
    obtain ⟨hw, -⟩ := inN_of c4 (by decide)
    have hne : ix a ≠ ix b := fun e => c3 (by rw [ea, eb, e])
    have val : ∀ p q, p < 10 → q < 10 → up (up D 1 (10 * ix a + ix b) (ix n)) 1 (10 * ix b + ix a) (ix n) 1 (10 * p + q) = if (p = ix b ∧ q = ix a) ∨ (p = ix a ∧ q = ix b) then ix n else D 1 (10 * p + q) := fun p q hp hq => by
      by_cases g1 : p = ix b ∧ q = ix a
      · rw [if_pos (Or.inl g1), g1.1, g1.2, up_s]
      · rw [up_i (by omega)]
        by_cases g2 : p = ix a ∧ q = ix b
        · rw [if_pos (Or.inr g2), g2.1, g2.2, up_s]
        · rw [up_i (by omega), if_neg (by omega)]
    dsimp only
    refine ⟨?_, ?_, ?_, fun p q hp hq => ?_, ?_, ?_, ?_, ?_⟩
    · simpa [up] using w1
    · simpa [up] using w2
    · simpa [up] using w3
    · rw [val p q hp hq, val q p hq hp, show up (up D 1 (10 * ix a + ix b) (ix n)) 1 (10 * ix b + ix a) (ix n) 0 0 = D 0 0 by simp [up]]
      have := w4 p q hp hq
      refine ⟨by split; omega; exact this.1, ?_, fun g => ?_⟩
      · by_cases g : (p = ix b ∧ q = ix a) ∨ (p = ix a ∧ q = ix b)
        · rw [if_pos g, if_pos (by omega)]
        · rw [if_neg g, if_neg (by omega)]; exact this.2.1
      · rw [if_neg (by omega)]; exact this.2.2 g
    · simpa [up] using w5
    · simpa [up] using w6
    · simpa [up] using w7
    · simpa [up] using w8
  · exact W
theorem WF_oSees {a b : Int32} (W : WF D) : WF (oSees D a b).2 := by
  unfold oSees
  split
  · rename_i h
    obtain ⟨c1, c2, c3⟩ := h
    split
    · exact W
    · obtain ⟨w1, w2, w3, w4, w5, w6, w7, w8⟩ := W
      obtain ⟨ha, ea⟩ := inN_of c1 (by omega)
      obtain ⟨hb, eb⟩ := inN_of c2 (by omega)
      have hne : ix b ≠ ix a := fun e => c3 (by rw [ea, eb, e])
      dsimp only
      refine ⟨?_, ?_, ?_, ?_, fun p hp => ?_, ?_, ?_, ?_⟩
      · simpa [up] using w1
      · simpa [up] using w2
      · simpa [up] using w3
      · simpa [up] using w4
      · have := w5 p hp
        rw [show up D 2 (ix a) (D 2 (ix a) ||| 2 ^ ix b) 0 0 = D 0 0 by simp [up]]
        by_cases e : p = ix a
        · subst e
          rw [up_s]
          refine ⟨bit_or_lt this.1 hb, by rw [bit_or_tb, this.2.1, decide_eq_false hne]; rfl, fun g => by omega⟩
        · rw [up_i e]; exact this
      · simpa [up] using w6
      · simpa [up] using w7
      · simpa [up] using w8
  · exact W
theorem WF_oChild {r q0 q1 q2 q3 : Int32} (W : WF D) : WF (oChild D r q0 q1 q2 q3).2 := by
  unfold oChild
  split
  · rename_i h
    obtain ⟨c1, c2, c3, c4, c5⟩ := h
    split
    · exact W
    · obtain ⟨w1, w2, w3, w4, w5, w6, w7, w8⟩ := W
      have r1 := (inN_of c1 (by decide)).1
      have r2 := (inN_of c2 (by decide)).1
      have r3 := (inN_of c3 (by decide)).1
      have r4 := (inN_of c4 (by decide)).1
      have r5 := (inN_of c5 (by decide)).1
      dsimp only
      refine ⟨?_, ?_, ?_, ?_, ?_, fun c hc => ?_, ?_, ?_⟩
      · simpa [up] using w1
      · simp [up]; omega
      · simpa [up] using w3
      · simpa [up] using w4
      · simpa [up] using w5
      · have hc : c < D 0 1 + 1 := by simpa [up] using hc
        by_cases e : c = D 0 1
        · subst e
          refine ⟨by simp [up]; omega, fun k hk => ?_, ?_, by simp [up]⟩
          · rcases (show k = 0 ∨ k = 1 ∨ k = 2 ∨ k = 3 by omega) with rfl | rfl | rfl | rfl <;> simp [up] <;> omega
          · simp [up]; exact Nat.pow_pos (by decide)
        · have := w6 c (by omega)
          refine ⟨by simpa [up, e] using this.1, fun k hk => ?_, by simpa [up, e] using this.2.2.1, by simpa [up, e] using this.2.2.2⟩
          have n1 : 4 * c + k ≠ 4 * D 0 1 := by omega
          have n2 : 4 * c + k ≠ 4 * D 0 1 + 1 := by omega
          have n3 : 4 * c + k ≠ 4 * D 0 1 + 2 := by omega
          have n4 : 4 * c + k ≠ 4 * D 0 1 + 3 := by omega
          simpa [up, n1, n2, n3, n4] using this.2.1 k hk
      · simpa [up] using w7
      · simpa [up] using w8
  · exact W
theorem WF_oBar {c p : Int32} (W : WF D) : WF (oBar D c p).2 := by
  unfold oBar
  split
  · rename_i h
    split
    · exact W
    · obtain ⟨w1, w2, w3, w4, w5, w6, w7, w8⟩ := W
      obtain ⟨ha, -⟩ := inN_of h.1 (by omega)
      obtain ⟨hb, -⟩ := inN_of h.2 (by omega)
      dsimp only
      refine ⟨?_, ?_, ?_, ?_, ?_, fun q hq => ?_, ?_, ?_⟩
      · simpa [up] using w1
      · simpa [up] using w2
      · simpa [up] using w3
      · simpa [up] using w4
      · simpa [up] using w5
      · have := w6 q (by simpa [up] using hq)
        refine ⟨by simpa [up] using this.1, by simpa [up] using this.2.1, ?_, by simpa [up] using this.2.2.2⟩
        rw [show up D 5 (ix c) (D 5 (ix c) ||| 2 ^ ix p) 0 0 = D 0 0 by simp [up]]
        by_cases e : q = ix c
        · subst e; rw [up_s]; exact bit_or_lt this.2.2.1 hb
        · rw [up_i e]; exact this.2.2.1
      · simpa [up] using w7
      · simpa [up] using w8
  · exact W
theorem WF_oJoin {c l : Int32} (W : WF D) : WF (oJoin D c l).2 := by
  unfold oJoin
  split
  · rename_i h
    obtain ⟨w1, w2, w3, w4, w5, w6, w7, w8⟩ := W
    obtain ⟨hl, -⟩ := inN_of h.2 (by decide)
    dsimp only
    refine ⟨?_, ?_, ?_, ?_, ?_, fun q hq => ?_, ?_, ?_⟩
    · simpa [up] using w1
    · simpa [up] using w2
    · simpa [up] using w3
    · simpa [up] using w4
    · simpa [up] using w5
    · have := w6 q (by simpa [up] using hq)
      refine ⟨by simpa [up] using this.1, by simpa [up] using this.2.1, by simpa [up] using this.2.2.1, ?_⟩
      by_cases e : q = ix c
      · subst e; rw [up_s]; omega
      · rw [up_i e]; exact this.2.2.2
    · simpa [up] using w7
    · simpa [up] using w8
  · exact W
theorem WF_oSlip {p k : Int32} (W : WF D) : WF (oSlip D p k).2 := by
  unfold oSlip
  split
  · rename_i h
    split
    · exact W
    · obtain ⟨w1, w2, w3, w4, w5, w6, w7, w8⟩ := W
      obtain ⟨hp, -⟩ := inN_of h.1 (by omega)
      obtain ⟨hk, -⟩ := inN_of h.2 (by decide)
      dsimp only
      refine ⟨?_, ?_, ?_, ?_, ?_, ?_, fun s hs => ?_, fun l hl => ?_⟩
      · simpa [up] using w1
      · simpa [up] using w2
      · simp [up]; omega
      · simpa [up] using w4
      · simpa [up] using w5
      · simpa [up] using w6
      · have hs : s < D 0 2 + 1 := by simpa [up] using hs
        by_cases e : s = D 0 2
        · subst e
          refine ⟨by simp [up]; exact hp, by simp [up]; omega, by simp [up], by simp [up]; exact Nat.pow_pos (by decide)⟩
        · have := w7 s (by omega)
          exact ⟨by simpa [up, e] using this.1, by simpa [up, e] using this.2.1, by simpa [up, e] using this.2.2.1, by simpa [up, e] using this.2.2.2⟩
      · have := w8 l hl
        refine ⟨by simpa [up] using this.1, fun i hi => ?_⟩
        have := this.2 i (by simpa [up] using hi)
        refine ⟨by simpa [up] using Nat.lt_succ_of_lt this.1, by simpa [up] using this.2⟩
  · exact W
theorem WF_oSpare {s : Int32} (W : WF D) : WF (oSpare D s).2 := by
  unfold oSpare
  split
  · split
    · exact W
    · obtain ⟨w1, w2, w3, w4, w5, w6, w7, w8⟩ := W
      dsimp only
      refine ⟨?_, ?_, ?_, ?_, ?_, ?_, fun q hq => ?_, ?_⟩
      · simpa [up] using w1
      · simpa [up] using w2
      · simpa [up] using w3
      · simpa [up] using w4
      · simpa [up] using w5
      · simpa [up] using w6
      · have := w7 q (by simpa [up] using hq)
        refine ⟨by simpa [up] using this.1, by simpa [up] using this.2.1, ?_, by simpa [up] using this.2.2.2⟩
        by_cases e : q = ix s
        · subst e; rw [up_s]; exact Nat.le_refl 1
        · rw [up_i e]; exact this.2.2.1
      · simpa [up] using w8
  · exact W
theorem WF_oMeans {s p : Int32} (W : WF D) : WF (oMeans D s p).2 := by
  unfold oMeans
  split
  · rename_i h
    split
    · exact W
    · obtain ⟨w1, w2, w3, w4, w5, w6, w7, w8⟩ := W
      obtain ⟨hb, -⟩ := inN_of h.2 (by omega)
      dsimp only
      refine ⟨?_, ?_, ?_, ?_, ?_, ?_, fun q hq => ?_, ?_⟩
      · simpa [up] using w1
      · simpa [up] using w2
      · simpa [up] using w3
      · simpa [up] using w4
      · simpa [up] using w5
      · simpa [up] using w6
      · have := w7 q (by simpa [up] using hq)
        refine ⟨by simpa [up] using this.1, by simpa [up] using this.2.1, by simpa [up] using this.2.2.1, ?_⟩
        rw [show up D 10 (ix s) (D 10 (ix s) ||| 2 ^ ix p) 0 0 = D 0 0 by simp [up]]
        by_cases e : q = ix s
        · subst e; rw [up_s]; exact bit_or_lt this.2.2.2 hb
        · rw [up_i e]; exact this.2.2.2
      · simpa [up] using w8
  · exact W
theorem WF_oRow {l s : Int32} (W : WF D) : WF (oRow D l s).2 := by
  unfold oRow
  split
  · rename_i h
    split
    · exact W
    · rename_i hr
      split
      · exact W
      · obtain ⟨w1, w2, w3, w4, w5, w6, w7, w8⟩ := W
        obtain ⟨ha, -⟩ := inN_of h.1 (by decide)
        obtain ⟨hb, -⟩ := inN_of h.2 (by omega)
        have hno := inRow_no (by simpa using hr)
        dsimp only
        refine ⟨?_, ?_, ?_, ?_, ?_, ?_, ?_, fun q hq => ?_⟩
        · simpa [up] using w1
        · simpa [up] using w2
        · simpa [up] using w3
        · simpa [up] using w4
        · simpa [up] using w5
        · simpa [up] using w6
        · simpa [up] using w7
        · have := w8 q hq
          have l6 := (w8 (ix l) ha).1
          have e12 : ∀ j, up (up D 12 (6 * ix l + D 11 (ix l)) (ix s)) 11 (ix l) (D 11 (ix l) + 1) 12 j = up D 12 (6 * ix l + D 11 (ix l)) (ix s) 12 j := fun j => up_k (by decide)
          have e02 : up (up D 12 (6 * ix l + D 11 (ix l)) (ix s)) 11 (ix l) (D 11 (ix l) + 1) 0 2 = D 0 2 := by simp [up]
          by_cases e : q = ix l
          · subst e
            rw [up_s]
            refine ⟨by omega, fun i hi => ?_⟩
            simp only [e12, e02]
            rcases Nat.lt_or_ge i (D 11 (ix l)) with g | g
            · rw [up_i (by omega)]
              refine ⟨(this.2 i g).1, fun j hj => ?_⟩
              rw [up_i (by omega)]
              exact (this.2 i g).2 j hj
            · have : i = D 11 (ix l) := by omega
              subst this
              rw [up_s]
              refine ⟨hb, fun j hj => ?_⟩
              rw [up_i (by omega)]
              exact hno j hj
          · rw [up_i e, up_k (by decide)]
            refine ⟨this.1, fun i hi => ?_⟩
            simp only [e12, e02]
            rw [up_i (by omega)]
            refine ⟨(this.2 i hi).1, fun j hj => ?_⟩
            rw [up_i (by omega)]
            exact (this.2 i hi).2 j hj
  · exact W
theorem WF_oUnrow {l : Int32} (W : WF D) : WF (oUnrow D l).2 := by
  unfold oUnrow
  split
  · obtain ⟨w1, w2, w3, w4, w5, w6, w7, w8⟩ := W
    dsimp only
    refine ⟨?_, ?_, ?_, ?_, ?_, ?_, ?_, fun q hq => ?_⟩
    · simpa [up] using w1
    · simpa [up] using w2
    · simpa [up] using w3
    · simpa [up] using w4
    · simpa [up] using w5
    · simpa [up] using w6
    · simpa [up] using w7
    · have := w8 q hq
      by_cases e : q = ix l
      · subst e; rw [up_s]; exact ⟨by omega, fun i hi => absurd hi (Nat.not_lt_zero i)⟩
      · rw [up_i e]
        refine ⟨this.1, fun i hi => ?_⟩
        simpa [up] using this.2 i hi
  · exact W
theorem hi0 : ∀ w, w < 5 → (w = 0 → hiN w = 6) ∧ (w = 1 → hiN w = 200) ∧ (w = 2 → hiN w = 10) ∧ (w = 3 → hiN w = 9) ∧ (w = 4 → hiN w = 9) := by decide
theorem WN_oPut {w v : Int32} (W : WN D) : WN (oPut D w v).2 := by
  unfold oPut
  split
  · rename_i h
    obtain ⟨ha, -⟩ := inN_of h.1 (by decide)
    have hh := hi_le ha
    have hl := lo_le ha
    obtain ⟨v1, v2, -⟩ := Int32.of_le h.2.1 h.2.2 (by omega) (by omega)
    have hi := hi0 _ ha
    have hlo : ix w = 0 → loN (ix w) = 1 := fun e => by rw [e]; rfl
    obtain ⟨⟨a1, a2, a3, a4, a5, a6⟩, b, c⟩ := W
    dsimp only
    refine ⟨?_, by simpa [up] using b, by simpa [up] using c⟩
    have key : ∀ k, up D 13 (ix w) (ix v) 13 k = if k = ix w then ix v else D 13 k := fun k => by
      by_cases e : k = ix w
      · rw [if_pos e, e, up_s]
      · rw [if_neg e, up_i e]
    rw [key, key, key, key, key]
    refine ⟨?_, ?_, ?_, ?_, ?_, ?_⟩ <;> split <;> omega
  · exact W
theorem WN_oReport {k m : Int32} (W : WN D) : WN (oReport D k m).2 := by
  unfold oReport
  split
  · rename_i h
    split
    · exact W
    · obtain ⟨ha, -⟩ := inN_of h.1 (by decide)
      obtain ⟨v1, v2, -⟩ := Int32.of_le h.2.1 h.2.2 (by decide) (by decide)
      obtain ⟨a, b, c⟩ := W
      dsimp only
      refine ⟨by simpa [up] using a, by simp [up]; omega, fun i hi => ?_⟩
      have hi : i < D 14 0 + 1 := by simpa [up] using hi
      by_cases e : i = D 14 0
      · subst e; simp [up]; omega
      · simpa [up, e] using c i (by omega)
  · exact W
/-- what a call on the house leaves of the rest -/
theorem up_ne {k i v k' : Nat} (h : k' ≠ k) : up D k i v k' = D k' := funext fun _ => up_k h
end WFS
