/-! MODEL: places, children, slips, rows, at base b -/
section MODEL2
variable {Z : ZT} {μ : Mu} {b : Nat} {D : DD}
theorem m_addPlace (H : HM (μ 456) b D) (W : WF D) (hb : b < 742) : CtrS Z mX12_addPlace [mrf Z, .int (nI b)] μ (mP Z μ b (oPlace D)) := by
  refine CtrS.intro (by decide +kernel) (Nat.le_of_ble_eq_true rfl) rfl fun X E hB => ?_
  have hn := W.1
  have hC := W.2.1
  have hS := W.2.2.1
  have H0 := H
  obtain ⟨h1, h2, h3, h4, h5, h6, h7, h8⟩ := H
  refine bX12_addPlace_0 E (vin (by omega) (by omega)) ?_ ?_
  · rw [ix_nI (by omega), h1, nI_eqE (by omega) (by omega)]
    intro c
    refine bX12_addPlace_14 E (vin (by omega) (by omega)) ?_
    rw [ix_nI (by omega), h1]
    -- the rows of the ways of the new place are empty up to i
    have loop : ∀ k i μ1, i + k = 10 → FrA b μ μ1 → (∀ j, (j < b + 1 ∨ b + 101 ≤ j) → μ1 456 j = μ 456 j) → (∀ p q, p < D 0 0 → q < D 0 0 → μ1 456 (b + 1 + 10 * p + q) = μ 456 (b + 1 + 10 * p + q)) →
        (∀ q, q < i → μ1 456 (b + 1 + 10 * D 0 0 + q) = nI 0 ∧ μ1 456 (b + 1 + 10 * q + D 0 0) = nI 0) → JS Z X 23 [(0, mrf Z), (1, .int (nI b)), (2, .int (nI (D 0 0))), (3, .int (nI i))] [] μ1 := by
      intro k
      induction k with
      | zero =>
        intro i μ1 hi hF g1 g2 g3
        have : i = 10 := by omega
        subst this
        refine bX12_addPlace_23 E (fun _ => ?_) (fun c => absurd (by decide) c)
        have e1 : nI b + nI 101 + nI (D 0 0) = nI (b + 101 + D 0 0) := by rw [nI_add, nI_add]
        refine bX12_addPlace_67 E (by rw [e1]; exact vin (by omega) (by omega)) ?_
        rw [e1, ix_nI (by omega), bit_one (by omega)]
        refine bX12_addPlace_81 E (vin (by omega) (by omega)) (vin (by omega) (by omega)) ?_
        rw [ix_nI (by omega), uR_s, uR_uR]
        refine bX12_addPlace_91 E hB (mP_ok (by rw [oPlace, if_neg c]) rfl ?_ ?_)
        · rw [uR_s, pk_un (by omega), g1 b (by omega), h1, nI_add]
          refine ⟨?_, ?_, ?_, fun p q hp hq => ?_, fun p hp => ?_, ?_, ?_, ?_⟩
          · rw [pk_us, up_s]
          · simp (disch := omega) only [pk_un]; rw [g1 _ (by omega)]; simpa [up] using h2
          · simp (disch := omega) only [pk_un]; rw [g1 _ (by omega)]; simpa [up] using h3
          · have hp : p < D 0 0 + 1 := by simpa [up] using hp
            have hq : q < D 0 0 + 1 := by simpa [up] using hq
            rw [up_k (by decide)]
            simp (disch := omega) only [pk_un]
            have hw := W.2.2.2.1 p q (by omega) (by omega)
            by_cases e1 : p = D 0 0
            · rw [hw.2.2 (Or.inl (by omega)), e1]; exact (g3 q (by omega)).1
            · by_cases e2 : q = D 0 0
              · rw [hw.2.1, (W.2.2.2.1 q p (by omega) (by omega)).2.2 (Or.inl (by omega)), e2]; exact (g3 p (by omega)).2
              · rw [g2 p q (by omega) (by omega)]; exact h4 p q (by omega) (by omega)
          · have hp : p < D 0 0 + 1 := by simpa [up] using hp
            rw [up_k (by decide), pk_un (by omega)]
            by_cases e1 : p = D 0 0
            · rw [e1, pk_us, (W.2.2.2.2.1 (D 0 0) (by omega)).2.2 (Nat.le_refl _), Nat.zero_or]
            · rw [pk_un (by omega), g1 _ (by omega)]; exact h5 p (by omega)
          · intro c hc; have hc : c < D 0 1 := by simpa [up] using hc
            have := h6 c hc
            refine ⟨?_, fun k hk => ?_, ?_, ?_⟩ <;> simp (disch := omega) only [pk_un] <;> rw [g1 _ (by omega)]
            · simpa [up] using this.1
            · simpa [up] using this.2.1 k hk
            · simpa [up] using this.2.2.1
            · simpa [up] using this.2.2.2
          · intro s hs; have hs : s < D 0 2 := by simpa [up] using hs
            have := h7 s hs
            refine ⟨?_, ?_, ?_, ?_⟩ <;> simp (disch := omega) only [pk_un] <;> rw [g1 _ (by omega)]
            · simpa [up] using this.1
            · simpa [up] using this.2.1
            · simpa [up] using this.2.2.1
            · simpa [up] using this.2.2.2
          · intro l hl; have := h8 l hl
            refine ⟨?_, fun i hi => ?_⟩
            · simp (disch := omega) only [pk_un]; rw [g1 _ (by omega)]; simpa [up] using this.1
            · have hi : i < D 11 l := by simpa [up] using hi
              have := (W.2.2.2.2.2.2.2 l hl).1
              simp (disch := omega) only [pk_un]; rw [g1 _ (by omega)]; simpa [up] using (h8 l hl).2 i hi
        · refine hF.tr ⟨fun a ha => uR_n ha, fun i hi => ?_⟩
          rw [uR_s]
          simp (disch := omega) only [pk_un]
      | succ k ih =>
        intro i μ1 hi hF g1 g2 g3
        have e1 := ad3 b 1 10 (D 0 0) i
        have e2 := ad3 b 1 10 i (D 0 0)
        refine bX12_addPlace_23 E (fun c => absurd c (by rw [nI_leE (by omega) (by omega)]; omega)) (fun _ => ?_)
        refine bX12_addPlace_29 E (by rw [e1]; exact vin (by omega) (by omega)) ?_
        refine bX12_addPlace_45 E (by rw [e2]; exact vin (by omega) (by omega)) (bX12_addPlace_61 E ?_)
        rw [e1, e2, ix_nI (show b + 1 + 10 * D 0 0 + i < 2147483648 by omega), ix_nI (show b + 1 + 10 * i + D 0 0 < 2147483648 by omega), nI_add]
        refine ih (i + 1) _ (by omega) ((hF.tr (FrA.up (by omega) (by omega))).tr (FrA.up (by omega) (by omega))) (fun j hj => ?_) (fun p q hp hq => ?_) (fun q hq => ⟨?_, ?_⟩)
        · rw [uR_s, pk_un (by omega), uR_s, pk_un (by omega)]; exact g1 j hj
        · rw [uR_s, pk_un (by omega), uR_s, pk_un (by omega)]; exact g2 p q hp hq
        · rw [uR_s]
          refine upd_at (fun _ => rfl) (fun _ => ?_)
          rw [uR_s]
          exact upd_at (fun _ => rfl) (fun _ => (g3 q (by omega)).1)
        · rw [uR_s]
          refine upd_at (fun _ => rfl) (fun _ => ?_)
          rw [uR_s]
          exact upd_at (fun _ => rfl) (fun _ => (g3 q (by omega)).2)
    exact loop 10 0 μ rfl FrA.rf (fun _ _ => rfl) (fun _ _ _ _ => rfl) (fun q hq => absurd hq (Nat.not_lt_zero q))
  · rw [ix_nI (by omega), h1, nI_eqE (by omega) (by omega)]
    intro c
    exact bX12_addPlace_11 E hB (mP_no H0 (by rw [oPlace, if_pos c]))
theorem m_setBar {c p : Int32} (H : HM (μ 456) b D) (W : WF D) (hb : b < 742) : CtrS Z mX12_setBar [mrf Z, .int (nI b), .int c, .int p] μ (mP Z μ b (oBar D c p)) := by
  refine CtrS.intro (by decide +kernel) (Nat.le_of_ble_eq_true rfl) rfl fun X E hB => ?_
  have hn := W.1
  have hC := W.2.1
  have hS := W.2.2.1
  have no : ¬ (inN c (D 0 1) ∧ inN p (D 0 0)) → mP Z μ b (oBar D c p) (some (.int (-2))) μ := fun g => mP_no H (by rw [oBar, if_neg g])
  refine bX12_setBar_0 E (m_isChild H W hb) fun r μ1 g => ?_
  obtain ⟨rfl, rfl⟩ := g
  refine bX12_setBar_6 E (fun c => bX12_setBar_33 E (bX12_setBar_35 E hB (no fun g => by rw [bz] at c; exact c g.1))) (fun c1 => ?_)
  rw [bz] at c1
  have c1 := Decidable.not_not.mp c1
  refine bX12_setBar_9 E (m_isPlace H W (by omega)) fun r μ1 g => ?_
  obtain ⟨rfl, rfl⟩ := g
  refine bX12_setBar_15 E (fun c => bX12_setBar_33 E (bX12_setBar_35 E hB (no fun g => by rw [bz] at c; exact c g.2))) (fun c2 => ?_)
  rw [bz] at c2
  have c2 := Decidable.not_not.mp c2
  obtain ⟨ha, ea⟩ := inN_of c1 (by omega)
  obtain ⟨hq, eq⟩ := inN_of c2 (by omega)
  have lt := lt10 (W.2.2.2.2.2.1 (ix c) ha).2.2.1 hn
  have H0 := H
  obtain ⟨h1, h2, h3, h4, h5, h6, h7, h8⟩ := H
  have e1 : nI b + nI 142 + c = nI (b + 142 + ix c) := by rw [← nI_add, ← nI_add, ← ea]
  refine bX12_setBar_18 E (by rw [e1, eq]; exact m_mark (by omega) (h6 _ ha).2.2.1 lt (by omega)) fun r μ2 g => ?_
  by_cases c4 : (D 5 (ix c)).testBit (ix p) = true
  · rw [if_pos c4] at g
    obtain ⟨rfl, rfl⟩ := g
    exact bX12_setBar_30 E (bX12_setBar_35 E hB (mP_no H0 (by rw [oBar, if_pos ⟨c1, c2⟩, if_pos c4])))
  · rw [if_neg c4] at g
    obtain ⟨rfl, rfl⟩ := g
    refine bX12_setBar_30 E (bX12_setBar_35 E hB (mP_ok (by rw [oBar, if_pos ⟨c1, c2⟩, if_neg c4]) rfl ?_ (FrA.up (by omega) (by omega))))
    rw [uR_s]
    refine ⟨?_, ?_, ?_, ?_, ?_, fun c' hc' => ?_, ?_, ?_⟩
    · simp (disch := omega) only [pk_un]; simpa [up] using h1
    · simp (disch := omega) only [pk_un]; simpa [up] using h2
    · simp (disch := omega) only [pk_un]; simpa [up] using h3
    · intro p q hp hq; have hp : p < D 0 0 := by simpa [up] using hp
      have hq : q < D 0 0 := by simpa [up] using hq
      simp (disch := omega) only [pk_un]; simpa [up] using h4 p q hp hq
    · intro p hp; have hp : p < D 0 0 := by simpa [up] using hp
      simp (disch := omega) only [pk_un]; simpa [up] using h5 p hp
    · have hc' : c' < D 0 1 := by simpa [up] using hc'
      have := h6 c' hc'
      refine ⟨?_, fun k hk => ?_, ?_, ?_⟩
      · simp (disch := omega) only [pk_un]; simpa [up] using this.1
      · simp (disch := omega) only [pk_un]; simpa [up] using this.2.1 k hk
      · refine upd_at (fun e => ?_) (fun e => ?_)
        · rw [show c' = ix c by omega, up_s]
        · rw [up_i (by omega)]; exact this.2.2.1
      · simp (disch := omega) only [pk_un]; simpa [up] using this.2.2.2
    · intro s hs; have hs : s < D 0 2 := by simpa [up] using hs
      have := h7 s hs
      refine ⟨?_, ?_, ?_, ?_⟩ <;> simp (disch := omega) only [pk_un]
      · simpa [up] using this.1
      · simpa [up] using this.2.1
      · simpa [up] using this.2.2.1
      · simpa [up] using this.2.2.2
    · intro l hl; have := h8 l hl
      refine ⟨?_, fun i hi => ?_⟩
      · simp (disch := omega) only [pk_un]; simpa [up] using this.1
      · have hi : i < D 11 l := by simpa [up] using hi
        have := (W.2.2.2.2.2.2.2 l hl).1
        simp (disch := omega) only [pk_un]; simpa [up] using (h8 l hl).2 i hi
theorem m_setMeans {s p : Int32} (H : HM (μ 456) b D) (W : WF D) (hb : b < 742) : CtrS Z mX12_setMeans [mrf Z, .int (nI b), .int s, .int p] μ (mP Z μ b (oMeans D s p)) := by
  refine CtrS.intro (by decide +kernel) (Nat.le_of_ble_eq_true rfl) rfl fun X E hB => ?_
  have hn := W.1
  have hC := W.2.1
  have hS := W.2.2.1
  have no : ¬ (inN s (D 0 2) ∧ inN p (D 0 0)) → mP Z μ b (oMeans D s p) (some (.int (-2))) μ := fun g => mP_no H (by rw [oMeans, if_neg g])
  refine bX12_setMeans_0 E (m_isSlip H W hb) fun r μ1 g => ?_
  obtain ⟨rfl, rfl⟩ := g
  refine bX12_setMeans_6 E (fun c => bX12_setMeans_33 E (bX12_setMeans_35 E hB (no fun g => by rw [bz] at c; exact c g.1))) (fun c1 => ?_)
  rw [bz] at c1
  have c1 := Decidable.not_not.mp c1
  refine bX12_setMeans_9 E (m_isPlace H W (by omega)) fun r μ1 g => ?_
  obtain ⟨rfl, rfl⟩ := g
  refine bX12_setMeans_15 E (fun c => bX12_setMeans_33 E (bX12_setMeans_35 E hB (no fun g => by rw [bz] at c; exact c g.2))) (fun c2 => ?_)
  rw [bz] at c2
  have c2 := Decidable.not_not.mp c2
  obtain ⟨ha, ea⟩ := inN_of c1 (by omega)
  obtain ⟨hq, eq⟩ := inN_of c2 (by omega)
  have lt := lt10 (W.2.2.2.2.2.2.1 (ix s) ha).2.2.2 hn
  have H0 := H
  obtain ⟨h1, h2, h3, h4, h5, h6, h7, h8⟩ := H
  have e1 : nI b + nI 179 + s = nI (b + 179 + ix s) := by rw [← nI_add, ← nI_add, ← ea]
  refine bX12_setMeans_18 E (by rw [e1, eq]; exact m_mark (by omega) (h7 _ ha).2.2.2 lt (by omega)) fun r μ2 g => ?_
  by_cases c4 : (D 10 (ix s)).testBit (ix p) = true
  · rw [if_pos c4] at g
    obtain ⟨rfl, rfl⟩ := g
    exact bX12_setMeans_30 E (bX12_setMeans_35 E hB (mP_no H0 (by rw [oMeans, if_pos ⟨c1, c2⟩, if_pos c4])))
  · rw [if_neg c4] at g
    obtain ⟨rfl, rfl⟩ := g
    refine bX12_setMeans_30 E (bX12_setMeans_35 E hB (mP_ok (by rw [oMeans, if_pos ⟨c1, c2⟩, if_neg c4]) rfl ?_ (FrA.up (by omega) (by omega))))
    rw [uR_s]
    refine ⟨?_, ?_, ?_, ?_, ?_, ?_, fun s' hs' => ?_, ?_⟩
    · simp (disch := omega) only [pk_un]; simpa [up] using h1
    · simp (disch := omega) only [pk_un]; simpa [up] using h2
    · simp (disch := omega) only [pk_un]; simpa [up] using h3
    · intro p q hp hq; have hp : p < D 0 0 := by simpa [up] using hp
      have hq : q < D 0 0 := by simpa [up] using hq
      simp (disch := omega) only [pk_un]; simpa [up] using h4 p q hp hq
    · intro p hp; have hp : p < D 0 0 := by simpa [up] using hp
      simp (disch := omega) only [pk_un]; simpa [up] using h5 p hp
    · intro c hc; have hc : c < D 0 1 := by simpa [up] using hc
      have := h6 c hc
      refine ⟨?_, fun k hk => ?_, ?_, ?_⟩ <;> simp (disch := omega) only [pk_un]
      · simpa [up] using this.1
      · simpa [up] using this.2.1 k hk
      · simpa [up] using this.2.2.1
      · simpa [up] using this.2.2.2
    · have hs' : s' < D 0 2 := by simpa [up] using hs'
      have := h7 s' hs'
      refine ⟨?_, ?_, ?_, ?_⟩
      · simp (disch := omega) only [pk_un]; simpa [up] using this.1
      · simp (disch := omega) only [pk_un]; simpa [up] using this.2.1
      · simp (disch := omega) only [pk_un]; simpa [up] using this.2.2.1
      · refine upd_at (fun e => ?_) (fun e => ?_)
        · rw [show s' = ix s by omega, up_s]
        · rw [up_i (by omega)]; exact this.2.2.2
    · intro l hl; have := h8 l hl
      refine ⟨?_, fun i hi => ?_⟩
      · simp (disch := omega) only [pk_un]; simpa [up] using this.1
      · have hi : i < D 11 l := by simpa [up] using hi
        have := (W.2.2.2.2.2.2.2 l hl).1
        simp (disch := omega) only [pk_un]; simpa [up] using (h8 l hl).2 i hi
theorem m_addSlip {p k : Int32} (H : HM (μ 456) b D) (W : WF D) (hb : b < 742) : CtrS Z mX12_addSlip [mrf Z, .int (nI b), .int p, .int k] μ (mP Z μ b (oSlip D p k)) := by
  refine CtrS.intro (by decide +kernel) (Nat.le_of_ble_eq_true rfl) rfl fun X E hB => ?_
  have hn := W.1
  have hC := W.2.1
  have hS := W.2.2.1
  have no : ¬ (inN p (D 0 0) ∧ inN k 4) → JS Z X 18 [] [] μ := fun g => bX12_addSlip_18 E hB (mP_no H (by rw [oSlip, if_neg g]))
  refine bX12_addSlip_0 E (m_isPlace H W (by omega)) fun r μ1 g => ?_
  obtain ⟨rfl, rfl⟩ := g
  refine bX12_addSlip_6 E (fun c => no fun g => by rw [bz] at c; exact c g.1) (fun c1 => ?_)
  rw [bz] at c1
  have c1 := Decidable.not_not.mp c1
  refine bX12_addSlip_9 E m_in fun r μ1 g => ?_
  simp only [in_3] at g
  obtain ⟨rfl, rfl⟩ := g
  refine bX12_addSlip_15 E (fun c2 => ?_) (fun c => no fun g => by rw [bz] at c; exact c g.2)
  rw [bz] at c2
  have c2 := Decidable.not_not.mp c2
  have ea := (inN_of c1 (by omega)).2
  have eb := (inN_of c2 (by omega)).2
  have H0 := H
  obtain ⟨h1, h2, h3, h4, h5, h6, h7, h8⟩ := H
  have e0 : ∀ j n : Nat, nI b + nI j + nI n = nI (b + j + n) := fun j n => by rw [nI_add, nI_add]
  have e00 : ∀ j : Nat, nI b + nI j = nI (b + j) := fun j => nI_add b j
  refine bX12_addSlip_21 E (by rw [e00]; exact vin (by omega) (by omega)) ?_ ?_
  · rw [e00, ix_nI (by omega), h3, nI_eqE (by omega) (by omega)]
    intro c3
    refine bX12_addSlip_39 E (by rw [e00]; exact vin (by omega) (by omega)) (by rw [e00 154, ix_nI (by omega), h3, e0]; exact vin (by omega) (by omega)) ?_
    rw [e00 154, ix_nI (by omega), h3, e0, ix_nI (by omega)]
    refine bX12_addSlip_65 E (by rw [e0]; exact vin (by omega) (by omega)) ?_
    refine bX12_addSlip_79 E (by rw [e0]; exact vin (by omega) (by omega)) ?_
    refine bX12_addSlip_93 E (by rw [e0]; exact vin (by omega) (by omega)) ?_
    refine bX12_addSlip_107 E (by rw [e00]; exact vin (by omega) (by omega)) (by rw [e00]; exact vin (by omega) (by omega)) ?_
    rw [e0, e0, e0, e00]
    simp (disch := omega) only [ix_nI, uR_s, uR_uR]
    refine bX12_addSlip_121 E hB (mP_ok (by rw [oSlip, if_pos ⟨c1, c2⟩, if_neg c3]) rfl ?_ ?_)
    · rw [uR_s]
      simp (disch := omega) only [pk_un]
      rw [h3, nI_add]
      refine ⟨?_, ?_, ?_, ?_, ?_, ?_, fun s hs => ?_, ?_⟩
      · simp (disch := omega) only [pk_un]; simpa [up] using h1
      · simp (disch := omega) only [pk_un]; simpa [up] using h2
      · rw [pk_us]; simp [up]
      · intro p q hp hq; have hp : p < D 0 0 := by simpa [up] using hp
        have hq : q < D 0 0 := by simpa [up] using hq
        simp (disch := omega) only [pk_un]; simpa [up] using h4 p q hp hq
      · intro p hp; have hp : p < D 0 0 := by simpa [up] using hp
        simp (disch := omega) only [pk_un]; simpa [up] using h5 p hp
      · intro c hc; have hc : c < D 0 1 := by simpa [up] using hc
        have := h6 c hc
        refine ⟨?_, fun k hk => ?_, ?_, ?_⟩ <;> simp (disch := omega) only [pk_un]
        · simpa [up] using this.1
        · simpa [up] using this.2.1 k hk
        · simpa [up] using this.2.2.1
        · simpa [up] using this.2.2.2
      · have hs : s < D 0 2 + 1 := by simpa [up] using hs
        by_cases e : s = D 0 2
        · subst e
          refine ⟨?_, ?_, ?_, ?_⟩ <;> simp (disch := omega) only [pk_un, pk_us]
          · exact ea.trans (by simp [up])
          · exact eb.trans (by simp [up])
          · simp [up]
          · simp [up]
        · have := h7 s (by omega)
          refine ⟨?_, ?_, ?_, ?_⟩ <;> simp (disch := omega) only [pk_un]
          · simpa [up, e] using this.1
          · simpa [up, e] using this.2.1
          · simpa [up, e] using this.2.2.1
          · simpa [up, e] using this.2.2.2
      · intro l hl; have := h8 l hl
        refine ⟨?_, fun i hi => ?_⟩
        · simp (disch := omega) only [pk_un]; simpa [up] using this.1
        · have hi : i < D 11 l := by simpa [up] using hi
          have := (W.2.2.2.2.2.2.2 l hl).1
          simp (disch := omega) only [pk_un]; simpa [up] using (h8 l hl).2 i hi
    · refine ⟨fun a ha => uR_n ha, fun i hi => ?_⟩
      rw [uR_s]
      simp (disch := omega) only [pk_un]
  · rw [e00, ix_nI (by omega), h3, nI_eqE (by omega) (by omega)]
    intro c3
    exact bX12_addSlip_36 E hB (mP_no H0 (by rw [oSlip, if_pos ⟨c1, c2⟩, if_pos c3]))
end MODEL2
