/-! ORDER: the reference's -/
section YORDER
variable {Z : ZT} {μ : Mu} {D : DD} {im : Nat → Option DD} {tx : TX} {s : Nat → Int32} {f : Nat × Nat}
theorem FrQ.ofFr {S : List Nat} {μ' : Mu} (h : Fr S μ μ') (hS : ∀ a ∈ S, 460 ≤ a ∧ a ≠ 465) : FrQ μ μ' := ⟨fun a ha _ => h a fun g => by have := hS a g; omega, by rw [h 455 fun g => by have := hS _ g; omega], by rw [h 455 fun g => by have := hS _ g; omega], fun i _ => by rw [h 465 fun g => by have := hS _ g; omega]⟩
theorem m_offTo {r o v : Nat} (N : NM (μ 456) 0 D) (WW : WN D) (hv : RegV μ o v) (hr : r < 281) (ho : o < 281) (ro' : r ≠ o) (r3 : r ≠ 3) (o3 : o ≠ 3) : CtrS Z mX12_offTo [mrf Z, .int (nI r), .int (nI o)] μ (rV fun μ' => RegV μ' r (adf v (D 13 1 * 1000000 ^ 5)) ∧ FrG [r, 3] μ μ') := by
  refine CtrS.intro (by decide +kernel) (Nat.le_of_ble_eq_true rfl) rfl fun X E hB => ?_
  have hg := WW.1.2.2.1
  have bG : D 13 1 * 1000000 ^ 5 < 1073741824 ^ 27 := Nat.lt_of_le_of_lt (Nat.mul_le_mul_right _ hg) (by decide)
  refine bX12_offTo_0 E (vin (by omega) (by omega)) (by rw [ix_nI (by omega), show μ 456 202 = nI (D 13 1) from N.2.1 1 (by omega)]; exact m_set hr (by omega)) fun μ1 g => ?_
  refine bX12_offTo_13 E (m_millions g.1 hr (by decide) bG) fun μ2 k => ?_
  have F2 : FrG [r, 3] μ μ2 := (g.2.mo (by simp)).tr (k.2.mo (by simp))
  have v2 := (hv.fr g.2 (by simp; omega)).fr k.2 (by simp; omega)
  refine bX12_offTo_19 E (m_compare k.1 v2 hr ho) fun w μ3 j => ?_
  obtain ⟨rfl, rfl⟩ := j
  refine bX12_offTo_25 E (fun c => ?_) (fun c => ?_)
  · rw [cmpV_lt] at c
    refine bX12_offTo_37 E (m_copy v2 ho (by decide)) fun μ4 z => ?_
    have k4 := k.1.fr z.2 (by simpa using r3)
    refine bX12_offTo_43 E (m_less z.1 k4 (by decide) hr (Ne.symm r3) (Nat.le_of_lt c)) fun μ5 y => ?_
    refine bX12_offTo_49 E (m_copy y.1 (by decide) hr) fun μ6 x => ?_
    refine bX12_offTo_55 E hB ⟨rfl, ?_, ((F2.tr (z.2.mo (by simp))).tr (y.2.mo (by simp))).tr (x.2.mo (by simp))⟩
    rw [adf_le (Nat.le_of_lt c)]
    exact x.1
  · rw [cmpV_lt] at c
    refine bX12_offTo_28 E (m_less k.1 v2 hr ho ro' (by omega)) fun μ4 z => bX12_offTo_34 E (bX12_offTo_55 E hB ⟨rfl, ?_, F2.tr (z.2.mo (by simp))⟩)
    rw [adf_co, adf_le (by omega)]
    exact z.1
theorem fo_st {β : Type} {step : β → (Nat → Nat) → β} {n : Nat} (h : ∀ st q, step st q = st) : ∀ k q st, fo step n k q st = st
  | 0, _, _ => rfl
  | k + 1, q, st => by
    unfold fo
    cases nxt q n with
    | none => exact h st q
    | some q' => dsimp only; rw [fo_st h k, h]
theorem gN_s (WW : WN D) : D 13 1 * 1000000 ^ 5 = gN D * 1000000 ^ (6 - D 13 0) := by
  unfold gN
  rw [Nat.mul_right_comm, mil_h WW, Nat.mul_comm]
def OY (μ : Mu) (n S : Nat) (st : OT) : Prop := st.1 = true → RegV μ 8 (st.2.1 * S) ∧ RegV μ 9 (st.2.2.1 * S) ∧ ∀ i, i < n → μ 466 i = nI (st.2.2.2 i)
theorem OY.g {n S : Nat} {st : OT} {L : List Nat} {μ' : Mu} (h : OY μ n S st) (F : FrG L μ μ') (h8 : 8 ∉ L) (h9 : 9 ∉ L) : OY μ' n S st := fun c => ⟨(h c).1.fr F h8, (h c).2.1.fr F h9, fun i hi => by rw [F.1 _ (by decide)]; exact (h c).2.2 i hi⟩
theorem OY.c {n S : Nat} {st : OT} {μ' : Mu} (h : OY μ n S st) (e5 : μ' 465 = μ 465) (e6 : μ' 466 = μ 466) : OY μ' n S st := fun c => ⟨⟨(h c).1.1, fun k hk => by rw [e5]; exact (h c).1.2 k hk⟩, ⟨(h c).2.1.1, fun k hk => by rw [e5]; exact (h c).2.1.2 k hk⟩, fun i hi => by rw [e6]; exact (h c).2.2 i hi⟩
theorem y_order {a i : Int32} (R : RepM μ D im tx s f) (O : OkS D im tx) : CtrS Z mX12_order [mrf Z, .int a, .int i] μ (rI fun v μ' => v = (oOrder D s f a i).1 ∧ RepM μ' D im tx (oOrder D s f a i).2.1 (oOrder D s f a i).2.2 ∧ FrY μ μ') := by
  refine CtrS.intro (by decide +kernel) (Nat.le_of_ble_eq_true rfl) rfl fun X E hB => ?_
  have no : ¬ (inN a 2 ∧ inN i 6) → JS Z X 16 [(0, mrf Z)] [] μ := fun c => by
    have e : oOrder D s f a i = _ := if_neg c
    rw [e] at hB
    exact bX12_order_16 E (y_ref R O) fun v μ2 h => bX12_order_22 E hB ⟨_, rfl, h⟩
  refine bX12_order_0 E m_isLot fun v μ1 g => ?_
  obtain ⟨rfl, rfl⟩ := g
  refine bX12_order_4 E (fun c => ?_) (fun c => ?_)
  · rw [bz] at c
    exact no fun g => c g.1
  rw [bz] at c
  have c := Decidable.not_not.mp c
  refine bX12_order_7 E m_in fun v μ2 g => ?_
  obtain ⟨rfl, rfl⟩ := g
  have le1 : (nI 0 ≤ i ∧ i ≤ nI 5) ↔ inN i 6 := by
    refine and_congr_right fun h0 => ?_
    have h0 : ¬ i < 0 := by rw [Int32.not_lt]; exact h0
    obtain ⟨j, hj, rfl⟩ := nI_of h0
    rw [nI_leE hj (by omega), nI_ltE hj (by omega)]; omega
  refine bX12_order_13 E (fun d => ?_) (fun d => ?_)
  rotate_left
  · rw [bz] at d
    exact no fun g => d (le1.mpr g.2)
  rw [bz] at d
  have d := le1.mp (Decidable.not_not.mp d)
  have e : oOrder D s f a i = _ := if_pos ⟨c, d⟩
  rw [e] at hB
  obtain ⟨ha, ea⟩ := inN_of c (by decide)
  obtain ⟨hi, ei⟩ := inN_of d (by omega)
  have W := O.1.1
  have WW := O.1.2
  have w6 := (W.2.2.2.2.2.2.2 _ ha).1
  have se := sorted_ends W ha
  clear no d c e le1
  generalize ix a = l at ha ea hB w6 se
  generalize ix i = k at hi ei hB
  subst ea ei
  refine bX12_order_23 E (m_findWalks R.1 W) fun μ3 g => ?_
  obtain ⟨M3, F3⟩ := g
  have q3 : FrQ μ2 μ3 := FrQ.ofFr F3 (by decide)
  refine bX12_order_27 E (m_takeRow (q3.rep R).1 W ha) fun μ4 g => ?_
  obtain ⟨T4, F4⟩ := g
  have T4 : RowQ μ4 (ro D l) (D 11 l) := T4
  have q4 : FrQ μ2 μ4 := q3.tr F4.q
  refine bX12_order_32 E (m_sortOrder T4 (QO.row W ha) W) fun μ5 g => ?_
  obtain ⟨T5, F5⟩ := g
  have q5 : FrQ μ2 μ5 := q4.tr (FrQ.ofFr F5 (by decide))
  have R5 := q5.rep R
  have M5 : FM μ5 D := M3.fr (by rw [F5 _ (by decide), F4.1 _ (by decide) (by decide)])
  refine bX12_order_36 E (m_isSet R5.1 R5.2.1 W WW) fun v μ6 g => ?_
  obtain ⟨rfl, rfl⟩ := g
  -- the end
  have fin : ∀ μ7, FrQ μ2 μ7 → μ7 455 13 = nI (D 11 l) → OY μ7 (D 11 l) (1000000 ^ (6 - D 13 0)) (oFo D l) → JS Z X 126 [(0, mrf Z), (2, .int (nI k)), (3, .int (bI (oFo D l).1))] [] μ7 := fun μ7 q7 e13 oy => by
    have R7 := q7.rep R
    refine bX12_order_126 E (fun c => ?_) (fun c => ?_)
    rotate_left
    · rw [bI0] at c
      rw [if_neg (by rw [c]; decide)] at hB
      exact bX12_order_130 E (y_ref R7 O) fun v μ8 h => bX12_order_136 E hB ⟨_, rfl, h.1, h.2.1, q7.y.tr h.2.2⟩
    rw [bI0] at c
    have c1 : (oFo D l).1 = true := by cases h : (oFo D l).1 with | false => exact absurd h c | true => rfl
    rw [if_pos c1] at hB
    refine bX12_order_137 E (y_tell R7 (oy c1).2.1 (by decide) (by decide) (by decide)) fun μ8 h8 => ?_
    rw [low_h WW] at h8
    have e8 : μ8 455 13 = nI (D 11 l) := by rw [h8.2.2.1 _ (by decide)]; exact e13
    refine bX12_order_145 E (fun d => ?_) (fun d => ?_)
    · rw [e8, nI_leE (by omega) (by omega)] at d
      rw [if_neg (by omega)] at hB
      exact bX12_order_162 E (bX12_order_164 E hB ⟨_, rfl, rfl, h8.1, q7.y.tr h8.2.y⟩)
    · rw [e8, nI_leE (by omega) (by omega)] at d
      rw [if_pos (by omega)] at hB
      refine bX12_order_153 E (vin (by omega) (by omega)) (bX12_order_164 E hB ⟨_, rfl, ?_, h8.1, q7.y.tr h8.2.y⟩)
      rw [ix_nI (by omega), h8.2.1 _ (by decide) (by decide)]
      exact (oy c1).2.2 k (by omega)
  -- none can be walked at all
  have none' : ¬ ((D 13 3 < D 0 0 ∧ D 13 4 < D 0 0) ∧ 0 < D 11 l) → ∀ x, JS Z X 56 [(0, mrf Z), (1, .int x), (2, .int (nI k)), (3, .int (nI 0))] [] μ6 := fun c x => by
    have e : oFo D l = (false, 0, 0, fun _ => 0) := fo_st (fun st q => by
      unfold oSt
      rw [if_neg]
      intro g
      have := hOk_3 g.1
      exact c ⟨⟨this.1, this.2.1⟩, this.2.2.1⟩) _ _ _
    have z := fin μ6 q5 T5.1 (by rw [e]; exact fun h => absurd h (by decide))
    rw [e] at z
    exact bX12_order_56 E (bX12_order_57 E (bX12_order_59 E (fun _ => z) (fun c => absurd rfl c)))
  refine bX12_order_42 E (fun c => ?_) (fun c => ?_)
  · rw [bz] at c
    exact none' (fun g => c g.1) _
  rw [bz] at c
  have c := Decidable.not_not.mp c
  refine bX12_order_45 E (fun d => ?_) (fun d => ?_)
  · rw [T5.1, nI_le0 (by omega)] at d
    exact none' (fun g => by omega) _
  rw [T5.1, nI_le0 (by omega)] at d
  refine bX12_order_52 E (bX12_order_57 E ?_)
  generalize hq0 : sF (ro D l) (D 11 l) = q0 at *
  have Q0 : QO D q0 (D 11 l) := hq0 ▸ (QO.row W ha).srt _ (Nat.le_refl _)
  have hfin : fo (oSt D l (D 11 l)) (D 11 l) 720 q0 (false, 0, 0, fun _ => 0) = oFo D l := by rw [← hq0]; rfl
  generalize hnn : D 11 l = n at *
  generalize hoo : oFo D l = oo at *
  have Sp : 0 < 1000000 ^ (6 - D 13 0) := Nat.pow_pos (by decide)
  have lrn : ∀ q, lenN D l q n * 1000000 ^ (6 - D 13 0) < 1073741824 ^ 27 := fun q => Nat.lt_of_le_of_lt (Nat.mul_le_mul (lenN_le (l := l) (q := q) WW w6) (Nat.pow_le_pow_right (by decide) (show 6 - D 13 0 ≤ 6 by omega))) (by decide)
  have loop : ∀ k' q st μ7, ends n k' q = true → fo (oSt D l n) n k' q st = oo → RowQ μ7 q n → QO D q n → FM μ7 D → FrQ μ2 μ7 → OY μ7 n (1000000 ^ (6 - D 13 0)) st → JS Z X 59 [(0, mrf Z), (1, .int (nI l)), (2, .int (nI k)), (3, .int (bI st.1)), (4, .int (nI 1))] [] μ7 := by
    intro k'
    induction k' with
    | zero => intro q st μ7 he; exact absurd he (by unfold ends; decide)
    | succ k' ih =>
      intro q st μ7 he hf hT hQ hM hq hO
      have R7 := hq.rep R
      refine bX12_order_59 E (fun c => absurd c (by decide)) (fun _ => ?_)
      refine bX12_order_64 E (m_findHunt R7.1 R7.2.1 W WW hQ hT hM) fun v μ8 g => ?_
      obtain ⟨rfl, g1, g2⟩ := g
      have q8 := hq.tr g2.q
      have R8 := q8.rep R
      have T8 := g2.row hT
      have M8 : FM μ8 D := hM.fr (g2.1 _ (by decide) (by decide) (by decide))
      have O8 : OY μ8 n (1000000 ^ (6 - D 13 0)) st := hO.c (g2.1 _ (by decide) (by decide) (by decide)) (g2.1 _ (by decide) (by decide) (by decide))
      have r117 : ∀ μ9 st', oSt D l n st q = st' → RowQ μ9 q n → FM μ9 D → FrQ μ2 μ9 → OY μ9 n (1000000 ^ (6 - D 13 0)) st' → JS Z X 117 [(0, mrf Z), (1, .int (nI l)), (2, .int (nI k)), (3, .int (bI st'.1))] [] μ9 := fun μ9 st' hst h1 h2 h3 h4 => by
        refine bX12_order_117 E (m_nextOrder h1 hQ W (by omega)) fun v μ10 j => ?_
        obtain ⟨rfl, j1, j2⟩ := j
        have q10 := h3.tr (FrQ.ofFr j2 (by decide))
        have O10 : OY μ10 n (1000000 ^ (6 - D 13 0)) st' := h4.c (j2 _ (by decide)) (j2 _ (by decide))
        refine bX12_order_121 E ?_
        unfold fo at hf
        unfold ends at he
        cases hnx : nxt q n with
        | none =>
          rw [hnx] at hf
          have hf : oSt D l n st q = oo := hf
          have z := fin μ10 q10 (by rw [j2 _ (by decide)]; exact h1.1) (by rw [← hf, hst]; exact O10)
          rw [← hf, hst] at z
          exact bX12_order_59 E (fun _ => z) (fun c => absurd rfl c)
        | some q' =>
          rw [hnx] at hf he
          exact ih q' st' μ10 he (by rw [← hst]; exact hf) (j1 q' hnx) (hQ.next hnx) (h2.fr (j2 _ (by decide))) q10 O10
      refine bX12_order_68 E (fun c => ?_) (fun c => ?_)
      · rw [bz] at c
        exact r117 μ8 st (by unfold oSt; rw [if_neg fun g => c g.1]) T8 M8 q8 O8
      rw [bz] at c
      have c := Decidable.not_not.mp c
      have Y := g1 c
      refine bX12_order_71 E (m_lengthTo (r := 4) R8.1 R8.2.1 W WW ha hQ (hOk_3 c).1 T8 Y (by decide) (by decide) (by decide)) fun μ9 h => ?_
      have q9 := q8.tr (FrQ.ofG h.2 (by decide))
      have R9 := q9.rep R
      refine bX12_order_77 E (m_offTo (r := 5) R9.2.1 WW h.1 (by decide) (by decide) (by decide) (by decide) (by decide)) fun μ10 j => ?_
      rw [gN_s WW, adf_mul] at j
      have F10 : FrG [2, 3, 4, 5] μ8 μ10 := (h.2.mo (by simp)).tr (j.2.mo (by simp))
      have q10 := q8.tr (FrQ.ofG F10 (by decide))
      have T10 : RowQ μ10 q n := ⟨by rw [F10.1 _ (by decide)]; exact T8.1, fun x hx => by rw [F10.1 _ (by decide)]; exact T8.2 x hx⟩
      have M10 : FM μ10 D := M8.fr (F10.1 _ (by decide))
      have O10 := O8.g F10 (by decide) (by decide)
      have r4 := h.1.fr j.2 (by decide)
      have r97 : ∀ μ11, μ11 = μ10 → (st.1 = false ∨ adf (lenN D l q n) (gN D) < st.2.1) → JS Z X 97 [(0, mrf Z), (1, .int (nI l)), (2, .int (nI k))] [] μ11 := fun μ11 e y => by
        subst e
        refine bX12_order_97 E (m_copy j.1 (by decide) (by decide)) fun μ12 z => ?_
        refine bX12_order_104 E (m_copy (r4.fr z.2 (by decide)) (by decide) (by decide)) fun μ13 w => ?_
        have F13 : FrG [8, 9] μ11 μ13 := (z.2.mo (by simp)).tr (w.2.mo (by simp))
        have T13 : RowQ μ13 q n := ⟨by rw [F13.1 _ (by decide)]; exact T10.1, fun x hx => by rw [F13.1 _ (by decide)]; exact T10.2 x hx⟩
        have q13 := q10.tr (FrQ.ofG F13 (by decide))
        refine bX12_order_111 E (m_keepOrder T13 w6) fun μ14 b => bX12_order_115 E ?_
        have st' : oSt D l n st q = (true, adf (lenN D l q n) (gN D), lenN D l q n, q) := by unfold oSt; rw [if_pos ⟨c, y⟩]
        refine r117 μ14 _ st' ⟨by rw [b.2 _ (by decide)]; exact T13.1, fun x hx => by rw [b.2 _ (by decide)]; exact T13.2 x hx⟩ ((M10.fr (F13.1 _ (by decide))).fr (b.2 _ (by decide))) (q13.tr (FrQ.ofFr b.2 (by decide))) (fun _ => ⟨?_, ?_, b.1⟩)
        · have := z.1.fr w.2 (by decide)
          exact ⟨this.1, fun x hx => by rw [b.2 _ (by decide)]; exact this.2 x hx⟩
        · exact ⟨w.1.1, fun x hx => by rw [b.2 _ (by decide)]; exact w.1.2 x hx⟩
      refine bX12_order_83 E (fun y => ?_) (fun y => ?_)
      · rw [bI0] at y
        exact r97 μ10 rfl (Or.inl y)
      rw [bI0] at y
      have y1 : st.1 = true := by cases h : st.1 with | false => exact absurd h y | true => rfl
      refine bX12_order_87 E (m_compare j.1 (O10 y1).1 (by decide) (by decide)) fun v μ11 z => ?_
      obtain ⟨rfl, e11⟩ := z
      rw [cmp_mul Sp]
      refine bX12_order_94 E (fun w => ?_) (fun w => ?_)
      · rw [cmp_ge] at w
        subst e11
        exact r117 _ st (by unfold oSt; rw [if_neg fun g => Or.elim g.2 y (fun g => by omega)]) T10 M10 q10 O10
      · rw [cmp_ge] at w
        exact r97 μ11 e11 (Or.inr (by omega))
  exact loop 720 q0 _ μ6 se hfin T5 Q0 M5 q5 (fun c => absurd c (by decide))
end YORDER
