/-! APART: the reference's -/
section YAPART
variable {Z : ZT} {μ : Mu} {D : DD} {im : Nat → Option DD} {tx : TX} {s : Nat → Int32} {f : Nat × Nat}
def leI (st : AT) : Int32 := if st.1 = true then nI st.2.1 else nI 100000
def OB (μ : Mu) (n : Nat) (st : AT) : Prop := st.1 = true → ∀ i, i < n → μ 466 i = nI (st.2.2 i)
theorem y_apart {a : Int32} (R : RepM μ D im tx s f) (O : OkS D im tx) : CtrS Z mX12_apart [mrf Z, .int a] μ (rI fun v μ' => v = (oApart D s a).1 ∧ RepM μ' D im tx (oApart D s a).2 f ∧ FrY μ μ') := by
  refine CtrS.intro (by decide +kernel) (Nat.le_of_ble_eq_true rfl) rfl fun X E hB => ?_
  have W := O.1.1
  have WW := O.1.2
  have w6 := (W.2.2.2.2.2.2.2 1 (by decide)).1
  have Q0 := QO.row W (l := 0) (by decide)
  refine bX12_apart_0 E m_in fun v μ1 g => ?_
  obtain ⟨rfl, rfl⟩ := g
  refine bX12_apart_6 E (fun c => ?_) (fun c => ?_)
  rotate_left
  · rw [bz] at c
    have e : oApart D s a = _ := if_neg (fun g => c (m1_in.mpr g))
    rw [e] at hB
    exact bX12_apart_9 E (y_ref R O) fun v μ2 h => bX12_apart_15 E hB ⟨_, rfl, rfl, h.2.1, h.2.2⟩
  rw [bz] at c
  have hc := m1_in.mp (Decidable.not_not.mp c)
  have e : oApart D s a = _ := if_pos hc
  rw [e] at hB
  clear c e
  have no : ∀ μ2, ¬ (hOk D (ro D 0) (D 11 0) = true ∧ hOk D (ro D 1) (D 11 1) = true) → RepM μ2 D im tx s f → FrY μ1 μ2 → JS Z X 42 [(0, mrf Z), (1, .int a), (2, .int (nI 100000))] [] μ2 := fun μ2 c R2 F2 => by
    rw [if_neg c] at hB
    refine bX12_apart_42 E (bX12_apart_43 E (fun _ => ?_) (fun c => absurd rfl c))
    refine bX12_apart_105 E (fun c => absurd rfl c) (fun _ => ?_)
    exact bX12_apart_111 E (y_ref R2 O) fun v μ3 h => bX12_apart_117 E hB ⟨_, rfl, rfl, h.2.1, F2.tr h.2.2⟩
  refine bX12_apart_19 E (m_isHunt (l := 1) R O (by decide)) fun v μ2 g => ?_
  obtain ⟨rfl, g1, g2, g3, R2, gF, gA⟩ := g
  refine bX12_apart_27 E (fun c => ?_) (fun c => ?_)
  · rw [bz] at c
    exact no μ2 (fun g => c g.2) R2 gF.y
  rw [bz] at c
  have c := Decidable.not_not.mp c
  refine bX12_apart_30 E (m_isHunt (l := 0) R2 O (by decide)) fun v μ3 k => ?_
  obtain ⟨rfl, k1, k2, k3, R3, kF, kA⟩ := k
  refine bX12_apart_35 E (fun d => ?_) (fun d => ?_)
  · rw [bz] at d
    exact no μ3 (fun g => d g.1) R3 (gF.tr kF).y
  rw [bz] at d
  have d := Decidable.not_not.mp d
  rw [if_pos ⟨d, c⟩] at hB
  have o3 := (hOk_3 d).1
  have n0 := (hOk_3 c).2.2.1
  have t := aFo_t W c
  have se := sorted_ends W (l := 1) (by decide)
  have hfin : fo (aSt D) (D 11 1) 720 (sF (ro D 1) (D 11 1)) (false, 0, fun _ => 0) = aFo D := rfl
  -- the end
  have fin : ∀ μ7, FrQ μ1 μ7 → μ7 455 13 = nI (D 11 1) → OB μ7 (D 11 1) (aFo D) → (aFo D).2.1 ≤ 36 → JS Z X 105 [(0, mrf Z), (1, .int a), (2, .int (leI (aFo D)))] [] μ7 := fun μ7 q7 e13 ob f36 => by
    have R7 := q7.rep R
    rw [leI, if_pos t]
    refine bX12_apart_105 E (fun _ => ?_) (fun c => absurd c (by rw [nI_eqE (by omega) (by omega)]; omega))
    refine bX12_apart_121 E (fun z => ?_) (fun z => ?_)
    rotate_left
    · rw [if_pos z] at hB
      exact bX12_apart_126 E (bX12_apart_149 E hB ⟨_, rfl, rfl, R7, q7.y⟩)
    rw [if_neg z] at hB
    have ia : inN a 6 := Or.elim hc (fun h => absurd h z) id
    obtain ⟨hi, ei⟩ := inN_of ia (by decide)
    generalize ix a = k at hi ei hB
    subst ei
    refine bX12_apart_130 E (fun y => ?_) (fun y => ?_)
    · rw [e13, nI_leE (by omega) (by omega)] at y
      rw [if_neg (by omega)] at hB
      exact bX12_apart_147 E (bX12_apart_149 E hB ⟨_, rfl, rfl, R7, q7.y⟩)
    · rw [e13, nI_leE (by omega) (by omega)] at y
      rw [if_pos (by omega)] at hB
      refine bX12_apart_138 E (vin (by omega) (by omega)) (bX12_apart_149 E hB ⟨_, rfl, ?_, R7, q7.y⟩)
      rw [ix_nI (by omega)]
      exact ob t k (by omega)
  refine bX12_apart_38 E (bX12_apart_43 E (fun c => absurd c (by decide)) (fun _ => ?_))
  refine bX12_apart_48 E (m_findTimes R3.1 R3.2.1 W WW (by decide) Q0 o3 k2 (k1 d)) fun μ4 h => ?_
  obtain ⟨T0, F4⟩ := h
  have q4 : FrQ μ1 μ4 := (gF.tr kF).tr F4.q
  have R4 := q4.rep R
  have M4 : FM μ4 D := k3.fr (F4.1 _ (by decide))
  refine bX12_apart_53 E (m_takeRow (l := 1) R4.1 W (by decide)) fun μ5 h => ?_
  obtain ⟨T5, F5⟩ := h
  have T5 : RowQ μ5 (ro D 1) (D 11 1) := T5
  have q5 : FrQ μ1 μ5 := q4.tr F5.q
  refine bX12_apart_58 E (m_sortOrder T5 (QO.row W (by decide)) W) fun μ6 h => ?_
  obtain ⟨T6, F6⟩ := h
  have q6 : FrQ μ1 μ6 := q5.tr (FrQ.ofFr F6 (by decide))
  have M6 : FM μ6 D := (M4.fr (F5.1 _ (by decide) (by decide))).fr (F6 _ (by decide))
  have T06 : TMs μ6 D 0 (ro D 0) (D 11 0) := T0.congr fun a ha => by rw [F6 a (by simp; omega), F5.1 a (by omega) (by omega)]
  generalize hq0 : sF (ro D 1) (D 11 1) = q0 at *
  have Q1 : QO D q0 (D 11 1) := hq0 ▸ (QO.row W (by decide)).srt _ (Nat.le_refl _)
  generalize hoo : aFo D = oo at *
  generalize hnn : D 11 1 = n at *
  have loop : ∀ k' q st μ7, ends n k' q = true → fo (aSt D) n k' q st = oo → RowQ μ7 q n → QO D q n → FM μ7 D → FrQ μ1 μ7 → TMs μ7 D 0 (ro D 0) (D 11 0) → OB μ7 n st → st.2.1 ≤ 36 → JS Z X 62 [(0, mrf Z), (1, .int a), (2, .int (leI st)), (3, .int (nI 1))] [] μ7 := by
    intro k'
    induction k' with
    | zero => intro q st μ7 he; exact absurd he (by unfold ends; decide)
    | succ k' ih =>
      intro q st μ7 he hf hT hQ hM hq hT0 hO h36
      have R7 := hq.rep R
      refine bX12_apart_62 E (fun c => absurd c (by decide)) (fun _ => ?_)
      refine bX12_apart_66 E (m_findHunt R7.1 R7.2.1 W WW hQ hT hM) fun v μ8 g => ?_
      obtain ⟨rfl, gY, g2⟩ := g
      have q8 := hq.tr g2.q
      have R8 := q8.rep R
      have T8 := g2.row hT
      have M8 : FM μ8 D := hM.fr (g2.1 _ (by decide) (by decide) (by decide))
      have T08 : TMs μ8 D 0 (ro D 0) (D 11 0) := hT0.congr fun a ha => g2.1 a (by omega) (by omega) (by omega)
      have O8 : OB μ8 n st := fun c i hi => by rw [g2.1 _ (by decide) (by decide) (by decide)]; exact hO c i hi
      have r97 : ∀ μ9 st', aSt D st q = st' → RowQ μ9 q n → FM μ9 D → FrQ μ1 μ9 → TMs μ9 D 0 (ro D 0) (D 11 0) → OB μ9 n st' → st'.2.1 ≤ 36 → JS Z X 97 [(0, mrf Z), (1, .int a), (2, .int (leI st'))] [] μ9 := fun μ9 st' hst h1 h2 h3 h5 h4 h36' => by
        refine bX12_apart_97 E (m_nextOrder h1 hQ W (by omega)) fun v μ10 j => ?_
        obtain ⟨rfl, j1, j2⟩ := j
        have q10 := h3.tr (FrQ.ofFr j2 (by decide))
        have O10 : OB μ10 n st' := fun c i hi => by rw [j2 _ (by decide)]; exact h4 c i hi
        refine bX12_apart_101 E ?_
        unfold fo at hf
        unfold ends at he
        cases hnx : nxt q n with
        | none =>
          rw [hnx] at hf
          have hf : aSt D st q = oo := hf
          have z := fin μ10 q10 (by rw [j2 _ (by decide)]; exact h1.1) (by rw [← hf, hst]; exact O10) (by rw [← hf, hst]; exact h36')
          rw [← hf, hst] at z
          exact bX12_apart_62 E (fun _ => z) (fun c => absurd rfl c)
        | some q' =>
          rw [hnx] at hf he
          exact ih q' st' μ10 he (by rw [← hst]; exact hf) (j1 q' hnx) (hQ.next hnx) (h2.fr (j2 _ (by decide))) q10 (h5.congr fun a ha => j2 a (by simp; omega)) O10 h36'
      refine bX12_apart_70 E (fun c => ?_) (fun c => ?_)
      · rw [bz] at c
        exact r97 μ8 st (by unfold aSt; rw [hnn, if_neg fun g => c g.1]) T8 M8 q8 T08 O8 h36
      rw [bz] at c
      have c := Decidable.not_not.mp c
      have Y := gY c
      refine bX12_apart_73 E (m_findTimes (l := 1) R8.1 R8.2.1 W WW (by decide) hQ o3 T8 Y) fun μ9 h => ?_
      obtain ⟨T9, F9⟩ := h
      have q9 := q8.tr F9.q
      have T09 := T08.fr F9 (by decide) Q0.1
      have T9r : RowQ μ9 q n := ⟨by rw [F9.1 _ (by decide)]; exact T8.1, fun x hx => by rw [F9.1 _ (by decide)]; exact T8.2 x hx⟩
      have M9 : FM μ9 D := M8.fr (F9.1 _ (by decide))
      have O9 : OB μ9 n st := fun c i hi => by rw [F9.1 _ (by decide)]; exact O8 c i hi
      refine bX12_apart_78 E (m_meetings W WW Q0 hQ o3 T09 T9) fun v μ10 h => ?_
      obtain ⟨rfl, e10⟩ := h
      rw [e10]
      have ae : mt D (0, ro D 0, D 11 0) (1, q, n) (D 11 0) = aM D q := by
        unfold aM
        rw [hnn]; rfl
      have al := aM_le W (q := q)
      rw [ae]
      have cond : (leI st ≤ nI (aM D q)) = ¬ (st.1 = false ∨ aM D q < st.2.1) := by
        unfold leI
        cases h : st.1 with
        | false =>
          rw [if_neg (by decide), nI_leE (by omega) (by omega)]
          exact propext ⟨fun g => by omega, fun g => absurd (Or.inl rfl) g⟩
        | true =>
          rw [if_pos rfl, nI_leE (by omega) (by omega)]
          exact propext ⟨fun g k => by rcases k with k | k; exact absurd k (by decide); omega, fun g => by
            rcases Nat.lt_or_ge (aM D q) st.2.1 with k | k
            · exact absurd (Or.inr k) g
            · exact k⟩
      refine bX12_apart_82 E (fun y => ?_) (fun y => ?_)
      · rw [cond] at y
        exact r97 μ9 st (by unfold aSt; rw [hnn, if_neg fun g => y g.2]) T9r M9 q9 T09 O9 h36
      · rw [cond] at y
        have y := Decidable.not_not.mp y
        refine bX12_apart_90 E (m_keepOrder T9r w6) fun μ11 b => ?_
        have st' : aSt D st q = (true, aM D q, q) := by unfold aSt; rw [hnn, if_pos ⟨c, y⟩]
        exact r97 μ11 _ st' ⟨by rw [b.2 _ (by decide)]; exact T9r.1, fun x hx => by rw [b.2 _ (by decide)]; exact T9r.2 x hx⟩ (M9.fr (b.2 _ (by decide))) (q9.tr (FrQ.ofFr b.2 (by decide))) (T09.congr fun a ha => b.2 a (by
          show a ∉ [466]
          simp; omega)) (fun _ => b.1) al
  exact loop 720 q0 _ μ6 se hfin T6 Q1 M6 q6 T06 (fun c => absurd c (by decide)) (Nat.zero_le _)
end YAPART
