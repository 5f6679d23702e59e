/-! PUBLIC calls: child, join, spare, unrow, put, report, status, count -/
section PUB2
variable {Z : ZT} {μ : Mu} {D : DD} {im : Nat → Option DD} {tx : TX} {s : Nat → Int32} {f : Nat × Nat}
theorem x_child {r q0 q1 q2 q3 : Int32} (R : RepC μ D im tx s f) (O : OkS D im tx) : CtrS Z mX11_child [xrf Z, .int r, .int q0, .int q1, .int q2, .int q3] μ (xP Z μ im tx s f (oChild D (if r = 0 then nI 0 else nI 1) q0 q1 q2 q3)) := by
  refine CtrS.intro (by decide +kernel) (Nat.le_of_ble_eq_true rfl) rfl fun X E hB => ?_
  refine bX11_child_0 E (fun c => ?_) (fun c => ?_)
  · rw [if_pos (show r = 0 from c)] at hB
    refine bX11_child_13 E R.1.1 (bX11_child_14 E R.1.1 (c_addChild R.1 O.1.1) fun v μ1 g => ?_)
    obtain ⟨rfl, g1, g2⟩ := g
    refine bX11_child_23 E (c_counted (s := s) (by rw [g2 _ (by decide)]; exact R.2.2.1)) fun v μ2 h => ?_
    obtain ⟨rfl, h1, h2⟩ := h
    exact bX11_child_26 E hB ⟨_, rfl, rfl, xstep R g1 g2 h1 h2 oChild_D⟩
  · rw [if_neg (show ¬ r = 0 from c)] at hB
    refine bX11_child_9 E R.1.1 (bX11_child_14 E R.1.1 (c_addChild R.1 O.1.1) fun v μ1 g => ?_)
    obtain ⟨rfl, g1, g2⟩ := g
    refine bX11_child_23 E (c_counted (s := s) (by rw [g2 _ (by decide)]; exact R.2.2.1)) fun v μ2 h => ?_
    obtain ⟨rfl, h1, h2⟩ := h
    exact bX11_child_26 E hB ⟨_, rfl, rfl, xstep R g1 g2 h1 h2 oChild_D⟩
theorem y_child {r q0 q1 q2 q3 : Int32} (R : RepM μ D im tx s f) (O : OkS D im tx) : CtrS Z mX12_child [mrf Z, .int r, .int q0, .int q1, .int q2, .int q3] μ (yP Z μ im tx s f (oChild D (if r = 0 then nI 0 else nI 1) q0 q1 q2 q3)) := by
  refine CtrS.intro (by decide +kernel) (Nat.le_of_ble_eq_true rfl) rfl fun X E hB => ?_
  refine bX12_child_0 E (fun c => ?_) (fun c => ?_)
  · rw [if_pos (show r = 0 from c)] at hB
    refine bX12_child_11 E (bX12_child_12 E (m_addChild R.1 O.1.1 (by decide)) fun v μ1 g => ?_)
    obtain ⟨rfl, g1, g2⟩ := g
    refine bX12_child_21 E (m_refuse (s := s) (by rw [g2.1 _ (by decide)]; exact R.2.2.1)) fun v μ2 h => ?_
    obtain ⟨rfl, h1, h2⟩ := h
    exact bX12_child_24 E hB ⟨_, rfl, rfl, mstep R O g1 g2 h1 h2 oChild_D⟩
  · rw [if_neg (show ¬ r = 0 from c)] at hB
    refine bX12_child_7 E (bX12_child_12 E (m_addChild R.1 O.1.1 (by decide)) fun v μ1 g => ?_)
    obtain ⟨rfl, g1, g2⟩ := g
    refine bX12_child_21 E (m_refuse (s := s) (by rw [g2.1 _ (by decide)]; exact R.2.2.1)) fun v μ2 h => ?_
    obtain ⟨rfl, h1, h2⟩ := h
    exact bX12_child_24 E hB ⟨_, rfl, rfl, mstep R O g1 g2 h1 h2 oChild_D⟩
/-- what join answers -/
abbrev jA (v : Int32) : Int32 := if v = -2 then -10 else v
theorem lotI_ne {k : Nat} (h : k ≤ 2) : lotI k ≠ -2 := by
  rcases (show k = 0 ∨ k = 1 ∨ k = 2 by omega) with rfl | rfl | rfl <;> decide
theorem x_join {a b : Int32} (R : RepC μ D im tx s f) (O : OkS D im tx) : CtrS Z mX11_join [xrf Z, .int a, .int b] μ (rI fun v μ' => v = jA (oJoin D a b).1 ∧ RepC μ' (oJoin D a b).2 im tx (cnt s (oJoin D a b).1) f ∧ FrX μ μ') := by
  refine CtrS.intro (by decide +kernel) (Nat.le_of_ble_eq_true rfl) rfl fun X E hB => ?_
  refine bX11_join_0 E (c_setLot R.1 O.1.1) fun v μ1 g => ?_
  obtain ⟨rfl, g1, g2⟩ := g
  refine bX11_join_10 E (c_counted (s := s) (by rw [g2 _ (by decide)]; exact R.2.2.1)) fun v μ2 h => ?_
  obtain ⟨rfl, h1, h2⟩ := h
  refine bX11_join_13 E (fun c => ?_) (fun c => ?_)
  · exact bX11_join_25 E (bX11_join_26 E hB ⟨_, rfl, by rw [jA, if_neg c], xstep R g1 g2 h1 h2 oJoin_D⟩)
  · exact bX11_join_20 E (bX11_join_26 E hB ⟨_, rfl, by rw [jA, if_pos c], xstep R g1 g2 h1 h2 oJoin_D⟩)
theorem ystay {s' : Nat → Int32} {μ2 : Mu} (R : RepM μ D im tx s f) (O : OkS D im tx) (h1 : ST (μ2 458) s') (h2 : Fr [458] μ μ2) : RepM μ2 D im tx s' f ∧ FrY μ μ2 :=
  mstep R O R.1 (FrA.rf (b := 0)) h1 h2 fun _ _ => rfl
theorem ygo {μ1 : Mu} {D' : DD} (R : RepM μ D im tx s f) (O : OkS D im tx) (g1 : HM (μ1 456) 0 D') (g2 : FrA 0 μ μ1) (hD : ∀ k, 13 ≤ k → D' k = D k) : RepM μ1 D' im tx s f ∧ FrY μ μ1 :=
  mstep R O g1 g2 (by rw [g2.1 _ (by decide)]; exact R.2.2.1) Fr.rf hD
theorem in_lot {l : Int32} : ((-1 : Int32) ≤ l ∧ l ≤ 1) = inN (l + 1) 3 := by
  rw [eq_iff_iff]
  constructor
  · intro ⟨h1, h2⟩
    rw [Int32.le_iff_toInt_le] at h1 h2
    have e1 : (-1 : Int32).toInt = -1 := by decide
    have e2 : (1 : Int32).toInt = 1 := by decide
    rw [e1] at h1; rw [e2] at h2
    rcases (show l.toInt = -1 ∨ l.toInt = 0 ∨ l.toInt = 1 by omega) with e | e | e
    · have : l = -1 := Int32.toInt_inj.mp e
      subst this; decide
    · have : l = 0 := Int32.toInt_inj.mp e
      subst this; decide
    · have : l = 1 := Int32.toInt_inj.mp e
      subst this; decide
  · intro h
    obtain ⟨g1, g2⟩ := inN_of h (by decide)
    have : l = nI (ix (l + 1)) - 1 := by rw [← g2]; simp
    rcases (show ix (l + 1) = 0 ∨ ix (l + 1) = 1 ∨ ix (l + 1) = 2 by omega) with e | e | e <;> (rw [e] at this; subst this; decide)
theorem y_join {a b : Int32} (R : RepM μ D im tx s f) (O : OkS D im tx) : CtrS Z mX12_join [mrf Z, .int a, .int b] μ (rI fun v μ' => v = jA (oJoin D a b).1 ∧ RepM μ' (oJoin D a b).2 im tx (cnt s (oJoin D a b).1) f ∧ FrY μ μ') := by
  refine CtrS.intro (by decide +kernel) (Nat.le_of_ble_eq_true rfl) rfl fun X E hB => ?_
  have no : ¬ (inN a (D 0 1) ∧ inN (b + 1) 3) → JS Z X 18 [(0, mrf Z)] [] μ := fun g => bX12_join_18 E (m_refuse (s := s) R.2.2.1) fun v μ2 h => by
    obtain ⟨rfl, h1, h2⟩ := h
    have e : oJoin D a b = (-2, D) := if_neg g
    rw [e] at hB
    exact bX12_join_24 E hB ⟨_, rfl, rfl, ystay R O h1 h2⟩
  have hC := O.1.1.2.1
  refine bX12_join_0 E (m_isChild R.1 O.1.1 (by decide)) fun v μ1 g => ?_
  obtain ⟨rfl, rfl⟩ := g
  refine bX12_join_6 E (fun c => no fun g => by rw [bz] at c; exact c g.1) (fun c1 => ?_)
  rw [bz] at c1
  have c1 := Decidable.not_not.mp c1
  refine bX12_join_9 E m_in fun v μ1 g => ?_
  simp only [show ((-1 : Int32) ≤ b ∧ b ≤ nI 1) = inN (b + 1) 3 from in_lot] at g
  obtain ⟨rfl, rfl⟩ := g
  refine bX12_join_15 E (fun c2 => ?_) (fun c => no fun g => by rw [bz] at c; exact c g.2)
  rw [bz] at c2
  have c2 := Decidable.not_not.mp c2
  obtain ⟨ha, ea⟩ := inN_of c1 (by omega)
  obtain ⟨hb, eb⟩ := inN_of c2 (by omega)
  have e1 : nI 148 + a = nI (148 + ix a) := by rw [← nI_add, ← ea]
  obtain ⟨h1, h2, h3, h4, h5, h6, h7, h8⟩ := R.1
  have hv := (h6 _ ha).2.2.2
  have e2 : 0 + 148 + ix a = 148 + ix a := by omega
  rw [e2] at hv
  refine bX12_join_28 E (by rw [e1]; exact vin (by omega) (by omega)) (by rw [e1]; exact vin (by omega) (by omega)) (bX12_join_50 E hB ?_)
  rw [e1, ix_nI (by omega), hv]
  have w6 := (O.1.1.2.2.2.2.2.1 _ ha).2.2.2
  rw [oJoin, if_pos ⟨c1, c2⟩]
  dsimp only
  refine ⟨_, rfl, by rw [jA, if_neg (lotI_ne w6)], ?_⟩
  rw [cnt_lot w6]
  refine ygo R O ?_ (FrA.up (by omega) (by omega)) (fun k hk => ?_)
  · rw [uR_s]
    refine ⟨?_, ?_, ?_, ?_, ?_, fun c hc => ?_, ?_, ?_⟩
    · rw [pk_un (by omega)]; simpa [up] using h1
    · rw [pk_un (by omega)]; simpa [up] using h2
    · rw [pk_un (by omega)]; simpa [up] using h3
    · intro p q hp hq
      have hn := O.1.1.1
      have hp : p < D 0 0 := by simpa [up] using hp
      have hq : q < D 0 0 := by simpa [up] using hq
      rw [pk_un (by omega)]; simpa [up] using h4 p q hp hq
    · intro p hp
      have hn := O.1.1.1
      have hp : p < D 0 0 := by simpa [up] using hp
      rw [pk_un (by omega)]; simpa [up] using h5 p hp
    · have hc : c < D 0 1 := by simpa [up] using hc
      have := h6 c hc
      refine ⟨?_, fun k hk => ?_, ?_, ?_⟩
      · rw [pk_un (by omega)]; simpa [up] using this.1
      · rw [pk_un (by omega)]; simpa [up] using this.2.1 k hk
      · rw [pk_un (by omega)]; simpa [up] using this.2.2.1
      · refine upd_at (fun e => ?_) (fun e => ?_)
        · rw [show c = ix a by omega, up_s, lotI, ← eb, Int32.add_assoc, show (1 : Int32) + -1 = 0 by decide, Int32.add_zero]
        · rw [up_i (by omega)]; exact this.2.2.2
    · intro s' hs'
      have hs' : s' < D 0 2 := by simpa [up] using hs'
      have hS := O.1.1.2.2.1
      have := h7 s' hs'
      refine ⟨?_, ?_, ?_, ?_⟩ <;> rw [pk_un (by omega)]
      · simpa [up] using this.1
      · simpa [up] using this.2.1
      · simpa [up] using this.2.2.1
      · simpa [up] using this.2.2.2
    · intro l hl
      have := h8 l hl
      refine ⟨?_, fun i hi => ?_⟩ <;> rw [pk_un (by omega)]
      · simpa [up] using this.1
      · have hi : i < D 11 l := by simpa [up] using hi
        simpa [up] using this.2 i hi
  · simp (disch := omega) only [up_ne]
theorem y_spare {a : Int32} (R : RepM μ D im tx s f) (O : OkS D im tx) : CtrS Z mX12_spare [mrf Z, .int a] μ (yP Z μ im tx s f (oSpare D a)) := by
  refine CtrS.intro (by decide +kernel) (Nat.le_of_ble_eq_true rfl) rfl fun X E hB => ?_
  have hS := O.1.1.2.2.1
  refine bX12_spare_0 E (m_isSlip R.1 O.1.1 (by decide)) fun v μ1 g => ?_
  obtain ⟨rfl, rfl⟩ := g
  refine bX12_spare_7 E (fun c => ?_) (fun c1 => ?_)
  · have e : oSpare D a = (-2, D) := if_neg fun g => by rw [bz] at c; exact c g
    rw [e] at hB
    refine bX12_spare_23 E (bX12_spare_25 E (m_refuse (s := s) R.2.2.1) fun v μ2 h => ?_)
    obtain ⟨rfl, h1, h2⟩ := h
    exact bX12_spare_28 E hB ⟨_, rfl, rfl, ystay R O h1 h2⟩
  · rw [bz] at c1
    have c1 := Decidable.not_not.mp c1
    obtain ⟨ha, ea⟩ := inN_of c1 (by omega)
    have e1 : nI 171 + a = nI (171 + ix a) := by rw [← nI_add, ← ea]
    obtain ⟨h1, h2, h3, h4, h5, h6, h7, h8⟩ := R.1
    have hv := (h7 _ ha).2.2.1
    have w9 := (O.1.1.2.2.2.2.2.2.1 _ ha).2.2.1
    have e2 : 0 + 171 + ix a = 171 + ix a := by omega
    rw [e2] at hv
    have e3 : (D 9 (ix a)).testBit 0 = true ↔ D 9 (ix a) = 1 := by
      rcases (show D 9 (ix a) = 0 ∨ D 9 (ix a) = 1 by omega) with e | e <;> rw [e] <;> decide
    refine bX12_spare_10 E (by rw [e1]; exact m_mark (p := 0) (by omega) hv (by omega) (by decide)) fun v μ1 g => ?_
    by_cases c2 : D 9 (ix a) = 1
    · rw [if_pos (e3.mpr c2)] at g
      obtain ⟨rfl, rfl⟩ := g
      have e : oSpare D a = (-3, D) := by rw [oSpare, if_pos c1, if_pos c2]
      rw [e] at hB
      refine bX12_spare_20 E (bX12_spare_25 E (m_refuse (s := s) R.2.2.1) fun v μ2 h => ?_)
      obtain ⟨rfl, h1, h2⟩ := h
      exact bX12_spare_28 E hB ⟨_, rfl, rfl, ystay R O h1 h2⟩
    · rw [if_neg (mt e3.mp c2)] at g
      obtain ⟨rfl, rfl⟩ := g
      have e : oSpare D a = (nI 1, up D 9 (ix a) 1) := by rw [oSpare, if_pos c1, if_neg c2]
      rw [e] at hB
      refine bX12_spare_20 E (bX12_spare_25 E (m_refuse (s := s) (by rw [uR_n (by decide)]; exact R.2.2.1)) fun v μ2 h => ?_)
      obtain ⟨rfl, k1, k2⟩ := h
      refine bX12_spare_28 E hB ⟨_, rfl, rfl, mstep R O ?_ (FrA.up (by omega) (by omega)) k1 k2 (fun k hk => by simp (disch := omega) only [up_ne])⟩
      rw [show D 9 (ix a) = 0 by omega, uR_s]
      show HM _ 0 (up D 9 (ix a) 1)
      have W := O.1.1
      have hn := W.1
      have hC := W.2.1
      refine ⟨?_, ?_, ?_, ?_, ?_, ?_, fun s' hs' => ?_, ?_⟩
      · simp (disch := omega) only [pk_un]; simpa [up] using h1
      · simp (disch := omega) only [pk_un]; simpa [up] using h2
      · simp (disch := omega) only [pk_un]; simpa [up] using h3
      · intro p q hp hq; have hp : p < D 0 0 := by simpa [up] using hp
        have hq : q < D 0 0 := by simpa [up] using hq
        simp (disch := omega) only [pk_un]; simpa [up] using h4 p q hp hq
      · intro p hp; have hp : p < D 0 0 := by simpa [up] using hp
        simp (disch := omega) only [pk_un]; simpa [up] using h5 p hp
      · intro c hc; have hc : c < D 0 1 := by simpa [up] using hc
        have := h6 c hc
        refine ⟨?_, fun k hk => ?_, ?_, ?_⟩ <;> simp (disch := omega) only [pk_un]
        · simpa [up] using this.1
        · simpa [up] using this.2.1 k hk
        · simpa [up] using this.2.2.1
        · simpa [up] using this.2.2.2
      · have hs' : s' < D 0 2 := by simpa [up] using hs'
        have := h7 s' hs'
        refine ⟨?_, ?_, ?_, ?_⟩
        · simp (disch := omega) only [pk_un]; simpa [up] using this.1
        · simp (disch := omega) only [pk_un]; simpa [up] using this.2.1
        · refine upd_at (fun e => ?_) (fun e => ?_)
          · rw [show s' = ix a by omega, up_s]; rfl
          · rw [up_i (by omega)]; exact this.2.2.1
        · simp (disch := omega) only [pk_un]; simpa [up] using this.2.2.2
      · intro l hl; have := h8 l hl
        refine ⟨?_, fun i hi => ?_⟩
        · simp (disch := omega) only [pk_un]; simpa [up] using this.1
        · have hi : i < D 11 l := by simpa [up] using hi
          have := (W.2.2.2.2.2.2.2 l hl).1
          simp (disch := omega) only [pk_un]; simpa [up] using (h8 l hl).2 i hi
theorem y_unrow {a : Int32} (R : RepM μ D im tx s f) (O : OkS D im tx) : CtrS Z mX12_unrow [mrf Z, .int a] μ (yP Z μ im tx s f (oUnrow D a)) := by
  refine CtrS.intro (by decide +kernel) (Nat.le_of_ble_eq_true rfl) rfl fun X E hB => ?_
  have W := O.1.1
  have hn := W.1
  have hC := W.2.1
  have hS := W.2.2.1
  refine bX12_unrow_0 E m_isLot fun v μ1 g => ?_
  obtain ⟨rfl, rfl⟩ := g
  refine bX12_unrow_4 E (fun c1 => ?_) (fun c => ?_)
  · rw [bz] at c1
    have c1 := Decidable.not_not.mp c1
    obtain ⟨ha, ea⟩ := inN_of c1 (by omega)
    have e1 : nI 187 + a = nI (187 + ix a) := by rw [← nI_add, ← ea]
    obtain ⟨h1, h2, h3, h4, h5, h6, h7, h8⟩ := R.1
    have hv := (h8 _ ha).1
    have e2 : 0 + 187 + ix a = 187 + ix a := by omega
    rw [e2] at hv
    have w11 := (W.2.2.2.2.2.2.2 _ ha).1
    refine bX12_unrow_14 E (by rw [e1]; exact vin (by omega) (by omega)) (by rw [e1]; exact vin (by omega) (by omega)) (bX12_unrow_36 E hB ?_)
    rw [e1, ix_nI (by omega), hv, oUnrow, if_pos c1]
    refine ⟨_, rfl, rfl, ?_⟩
    rw [cnt_nI (by omega)]
    dsimp only
    refine ygo R O ?_ (FrA.up (by omega) (by omega)) (fun k hk => by simp (disch := omega) only [up_ne])
    rw [uR_s]
    refine ⟨?_, ?_, ?_, ?_, ?_, ?_, ?_, fun l hl => ?_⟩
    · simp (disch := omega) only [pk_un]; simpa [up] using h1
    · simp (disch := omega) only [pk_un]; simpa [up] using h2
    · simp (disch := omega) only [pk_un]; simpa [up] using h3
    · intro p q hp hq; have hp : p < D 0 0 := by simpa [up] using hp
      have hq : q < D 0 0 := by simpa [up] using hq
      simp (disch := omega) only [pk_un]; simpa [up] using h4 p q hp hq
    · intro p hp; have hp : p < D 0 0 := by simpa [up] using hp
      simp (disch := omega) only [pk_un]; simpa [up] using h5 p hp
    · intro c hc; have hc : c < D 0 1 := by simpa [up] using hc
      have := h6 c hc
      refine ⟨?_, fun k hk => ?_, ?_, ?_⟩ <;> simp (disch := omega) only [pk_un]
      · simpa [up] using this.1
      · simpa [up] using this.2.1 k hk
      · simpa [up] using this.2.2.1
      · simpa [up] using this.2.2.2
    · intro s hs; have hs : s < D 0 2 := by simpa [up] using hs
      have := h7 s hs
      refine ⟨?_, ?_, ?_, ?_⟩ <;> simp (disch := omega) only [pk_un]
      · simpa [up] using this.1
      · simpa [up] using this.2.1
      · simpa [up] using this.2.2.1
      · simpa [up] using this.2.2.2
    have := h8 l hl
    refine ⟨?_, fun i hi => ?_⟩
    · refine upd_at (fun e => ?_) (fun e => ?_)
      · rw [show l = ix a by omega, up_s]
      · rw [up_i (by omega)]; exact this.1
    · by_cases e : l = ix a
      · subst e
        rw [up_s] at hi; omega
      · rw [up_i e] at hi
        have := (W.2.2.2.2.2.2.2 l hl).1
        simp (disch := omega) only [pk_un]; simpa [up] using (h8 l hl).2 i hi
  · have e : oUnrow D a = (-2, D) := if_neg fun g => by rw [bz] at c; exact c g
    rw [e] at hB
    refine bX12_unrow_7 E (m_refuse (s := s) R.2.2.1) fun v μ2 h => ?_
    obtain ⟨rfl, h1, h2⟩ := h
    exact bX12_unrow_13 E hB ⟨_, rfl, rfl, ystay R O h1 h2⟩
theorem ynote {a1 : Nat → Int32} {D' : DD} (R : RepM μ D im tx s f) (O : OkS D im tx) (hA : ∀ i, i < 201 ∨ 247 ≤ i → a1 i = μ 456 i) (h2 : NM a1 0 D') (hD : ∀ k, k ≤ 12 → D' k = D k) : RepM (uR μ 456 a1) D' im tx s f ∧ FrY μ (uR μ 456 a1) := by
  have e : ∀ a, a ≠ 456 → uR μ 456 a1 a = μ a := fun a h => uR_n h
  refine ⟨R.step O.2.1 (fun a ha hb => e a ha) (fun i hi hj => by rw [uR_s]; exact hA i (by omega)) ?_ (by rw [uR_s]; exact h2) (by rw [e _ (by decide)]; exact R.2.2.1), fun a ha => e a (by omega)⟩
  rw [uR_s]
  exact (R.1.fr O.1.1 fun i h1 h2 => hA i (by omega)).congrD hD
theorem y_report {a b : Int32} (R : RepM μ D im tx s f) (O : OkS D im tx) : CtrS Z mX12_report [mrf Z, .int a, .int b] μ (yP Z μ im tx s f (oReport D a b)) := by
  refine CtrS.intro (by decide +kernel) (Nat.le_of_ble_eq_true rfl) rfl fun X E hB => ?_
  have no : ¬ (inN a 4 ∧ nI 1 ≤ b ∧ b ≤ nI 99) → JS Z X 19 [(0, mrf Z)] [] μ := fun g => bX12_report_19 E (m_refuse (s := s) R.2.2.1) fun v μ2 h => by
    obtain ⟨rfl, h1, h2⟩ := h
    have e : oReport D a b = (-2, D) := if_neg g
    rw [e] at hB
    exact bX12_report_25 E hB ⟨_, rfl, rfl, ystay R O h1 h2⟩
  obtain ⟨h1, h2, h3⟩ := R.2.1
  have hN := O.1.2.2.1
  have e206 : μ 456 (ix (nI 206)) = nI (D 14 0) := h1
  refine bX12_report_0 E m_in fun v μ1 g => ?_
  simp only [in_3] at g
  obtain ⟨rfl, rfl⟩ := g
  refine bX12_report_6 E (fun c => no fun g => by rw [bz] at c; exact c g.1) (fun c1 => ?_)
  rw [bz] at c1
  have c1 := Decidable.not_not.mp c1
  refine bX12_report_9 E m_in fun v μ1 g => ?_
  obtain ⟨rfl, rfl⟩ := g
  refine bX12_report_16 E (fun c2 => ?_) (fun c => no fun g => by rw [bz] at c; exact c g.2)
  rw [bz] at c2
  have c2 := Decidable.not_not.mp c2
  obtain ⟨ha, ea⟩ := inN_of c1 (by omega)
  obtain ⟨l1, l2, eb⟩ := Int32.of_le c2.1 c2.2 (by omega) (by omega)
  refine bX12_report_26 E (vin (by omega) (by omega)) ?_ ?_
  · rw [e206, nI_eqE (by omega) (by omega)]
    intro c3
    have e : oReport D a b = (nI (D 14 0 + 1), up (up (up D 15 (D 14 0) (ix a)) 16 (D 14 0) (ix b)) 14 0 (D 14 0 + 1)) := by rw [oReport, if_pos ⟨c1, c2⟩, if_neg c3]
    rw [e] at hB
    refine bX12_report_48 E (by rw [nI_add]; exact vin (by omega) (by omega)) ?_
    refine bX12_report_59 E (by rw [nI_add]; exact vin (by omega) (by omega)) ?_
    refine bX12_report_70 E (vin (by omega) (by omega)) (vin (by omega) (by omega)) ?_
    rw [nI_add, nI_add, ix_nI (show 207 + D 14 0 < 2147483648 by omega), ix_nI (show 227 + D 14 0 < 2147483648 by omega), ix_nI (show 206 < 2147483648 by omega)]
    simp only [uR_s, uR_uR]
    simp (disch := omega) only [pk_un]
    rw [ix_nI (show 206 < 2147483648 by omega)] at e206
    refine bX12_report_82 E hB ?_
    refine ⟨_, rfl, by rw [nI_add], ?_⟩
    dsimp only
    rw [cnt_nI (by omega)]
    rw [e206, nI_add]
    refine ynote R O (fun i hi => by simp (disch := omega) only [pk_un]) ⟨?_, fun k hk => ?_, fun i hi => ?_⟩ (fun k hk => by simp (disch := omega) only [up_ne])
    · rw [pk_us]; simp [up]
    · simp (disch := omega) only [pk_un]; simpa [up] using h2 k hk
    · have hi : i < D 14 0 + 1 := by simpa [up] using hi
      by_cases e : i = D 14 0
      · subst e
        rw [show 0 + 207 + D 14 0 = 207 + D 14 0 by omega, show 0 + 227 + D 14 0 = 227 + D 14 0 by omega]
        simp (disch := omega) only [pk_un, pk_us]
        exact ⟨ea.trans (by simp [up]), eb.trans (by simp [up])⟩
      · have := h3 i (by omega)
        simp (disch := omega) only [pk_un]
        exact ⟨by simpa [up, e] using this.1, by simpa [up, e] using this.2⟩
  · rw [e206, nI_eqE (by omega) (by omega)]
    intro c3
    have e : oReport D a b = (-4, D) := by rw [oReport, if_pos ⟨c1, c2⟩, if_pos c3]
    rw [e] at hB
    refine bX12_report_41 E (m_refuse (s := s) R.2.2.1) fun v μ2 h => ?_
    obtain ⟨rfl, k1, k2⟩ := h
    exact bX12_report_47 E hB ⟨_, rfl, rfl, ystay R O k1 k2⟩
theorem y_put {a b : Int32} (R : RepM μ D im tx s f) (O : OkS D im tx) : CtrS Z mX12_put [mrf Z, .int a, .int b] μ (yP Z μ im tx s f (oPut D a b)) := by
  refine CtrS.intro (by decide +kernel) (Nat.le_of_ble_eq_true rfl) rfl fun X E hB => ?_
  have no : ¬ (inN a 5 ∧ nI (loN (ix a)) ≤ b ∧ b ≤ nI (hiN (ix a))) → JS Z X 63 [(0, mrf Z)] [] μ := fun g => bX12_put_63 E (m_refuse (s := s) R.2.2.1) fun v μ2 h => by
    obtain ⟨rfl, h1, h2⟩ := h
    have e : oPut D a b = (-2, D) := if_neg g
    rw [e] at hB
    exact bX12_put_69 E hB ⟨_, rfl, rfl, ystay R O h1 h2⟩
  obtain ⟨h1, h2, h3⟩ := R.2.1
  have go : ∀ lo hi : Int32, (inN a 5 → lo = nI (loN (ix a)) ∧ hi = nI (hiN (ix a))) → JS Z X 42 [(0, mrf Z), (1, .int a), (2, .int b), (3, .int lo)] [.int hi] μ := fun lo hi hl => by
    refine bX12_put_42 E m_in fun v μ1 g => ?_
    simp only [in_4] at g
    obtain ⟨rfl, rfl⟩ := g
    refine bX12_put_50 E (fun c => no fun g => by rw [bz] at c; exact c g.1) (fun c1 => ?_)
    rw [bz] at c1
    have c1 := Decidable.not_not.mp c1
    obtain ⟨rfl, rfl⟩ := hl c1
    refine bX12_put_53 E m_in fun v μ1 g => ?_
    obtain ⟨rfl, rfl⟩ := g
    refine bX12_put_60 E (fun c2 => ?_) (fun c => no fun g => by rw [bz] at c; exact c g.2)
    rw [bz] at c2
    have c2 := Decidable.not_not.mp c2
    obtain ⟨ha, ea⟩ := inN_of c1 (by omega)
    have q1 := hi_le ha
    have q2 := lo_le ha
    obtain ⟨l1, l2, eb⟩ := Int32.of_le c2.1 c2.2 (by omega) (by omega)
    have e1 : nI 201 + a = nI (201 + ix a) := by rw [← nI_add, ← ea]
    refine bX12_put_70 E (by rw [e1]; exact vin (by omega) (by omega)) (by rw [e1]; exact vin (by omega) (by omega)) (bX12_put_93 E hB ?_)
    have hv := h2 _ ha
    rw [show 0 + 201 + ix a = 201 + ix a by omega] at hv
    rw [e1, ix_nI (by omega), hv, oPut, if_pos ⟨c1, c2⟩]
    have w : D 13 (ix a) ≤ 200 := by
      have := O.1.2.1
      rcases (show ix a = 0 ∨ ix a = 1 ∨ ix a = 2 ∨ ix a = 3 ∨ ix a = 4 by omega) with e | e | e | e | e <;> rw [e] <;> omega
    refine ⟨_, rfl, rfl, ?_⟩
    rw [cnt_nI (by omega)]
    dsimp only
    refine ynote R O (fun i hi => by simp (disch := omega) only [pk_un]) ⟨?_, fun k hk => ?_, fun i hi => ?_⟩ (fun k hk => by simp (disch := omega) only [up_ne])
    · simp (disch := omega) only [pk_un]; simpa [up] using h1
    · refine upd_at (fun e => ?_) (fun e => ?_)
      · rw [show k = ix a by omega, up_s]; exact eb
      · rw [up_i (by omega)]; exact h2 k hk
    · have hi : i < D 14 0 := by simpa [up] using hi
      have hN := O.1.2.2.1
      have := h3 i hi
      simp (disch := omega) only [pk_un]
      exact ⟨by simpa [up] using this.1, by simpa [up] using this.2⟩
  have z0 : ix (0 : Int32) = 0 := rfl
  refine bX12_put_0 E (fun c => bX12_put_8 E (bX12_put_9 E (fun c => ?_) fun c' => absurd c' c)) (fun c => bX12_put_4 E (bX12_put_9 E (fun c' => absurd c c') fun c => bX12_put_14 E (go _ _ fun _ => ?_)))
  · have c0 : a ≠ nI 0 := c
    refine bX12_put_19 E (fun d => ?_) (fun d => bX12_put_24 E (go _ _ fun _ => ?_))
    · refine bX12_put_30 E (fun e => bX12_put_40 E (go _ _ fun g => ?_)) (fun e => bX12_put_35 E (go _ _ fun _ => ?_))
      · obtain ⟨g1, g2⟩ := inN_of g (by decide)
        rcases (show ix a = 0 ∨ ix a = 1 ∨ ix a = 2 ∨ ix a = 3 ∨ ix a = 4 by omega) with h | h | h | h | h <;> rw [h] at g2
        · exact absurd g2 c0
        · exact absurd g2 d
        · exact absurd g2 e
        · rw [h]; exact ⟨rfl, rfl⟩
        · rw [h]; exact ⟨rfl, rfl⟩
      · rw [show ix a = 2 by rw [e]; rfl]; exact ⟨rfl, rfl⟩
    · rw [show ix a = 1 by rw [d]; rfl]; exact ⟨rfl, rfl⟩
  · rw [show ix a = 0 by rw [c]; rfl]; exact ⟨rfl, rfl⟩
/-! status -/
def oStatus (s : Nat → Int32) (a : Int32) : Int32 × (Nat → Int32) := if inN a 3 then (s (ix a), s) else (-1, cnt s (-2))
theorem x_status {a : Int32} (R : RepC μ D im tx s f) : CtrS Z mX11_status [xrf Z, .int a] μ (rI fun v μ' => v = (oStatus s a).1 ∧ RepC μ' D im tx (oStatus s a).2 f ∧ FrX μ μ') := by
  refine CtrS.intro (by decide +kernel) (Nat.le_of_ble_eq_true rfl) rfl fun X E hB => ?_
  refine bX11_status_0 E (c_within (n := 3) (by decide)) fun v μ1 g => ?_
  obtain ⟨rfl, rfl⟩ := g
  refine bX11_status_5 E (fun c1 => ?_) (fun c => ?_)
  · rw [bz] at c1
    have c1 := Decidable.not_not.mp c1
    obtain ⟨ha, ea⟩ := inN_of c1 (by omega)
    have e : oStatus s a = (s (ix a), s) := if_pos c1
    rw [e] at hB
    exact bX11_status_17 E hB (by rw [ea]; exact vin (by omega) (by omega)) ⟨_, rfl, R.2.2.1 _ ha, R, fun _ _ => rfl⟩
  · have e : oStatus s a = (-1, cnt s (-2)) := if_neg fun g => by rw [bz] at c; exact c g
    rw [e] at hB
    refine bX11_status_8 E (c_counted (s := s) R.2.2.1) fun v μ2 h => ?_
    obtain ⟨rfl, h1, h2⟩ := h
    exact bX11_status_14 E hB ⟨_, rfl, rfl, xstep (μ1 := _) R R.1 Fr.rf h1 h2 fun _ _ => rfl⟩
theorem y_status {a : Int32} (R : RepM μ D im tx s f) (O : OkS D im tx) : CtrS Z mX12_status [mrf Z, .int a] μ (rI fun v μ' => v = (oStatus s a).1 ∧ RepM μ' D im tx (oStatus s a).2 f ∧ FrY μ μ') := by
  refine CtrS.intro (by decide +kernel) (Nat.le_of_ble_eq_true rfl) rfl fun X E hB => ?_
  refine bX12_status_0 E m_in fun v μ1 g => ?_
  simp only [show (nI 0 ≤ a ∧ a ≤ nI 2) = inN a 3 from in_N (n := 3) (by decide)] at g
  obtain ⟨rfl, rfl⟩ := g
  refine bX12_status_6 E (fun c1 => ?_) (fun c => ?_)
  · rw [bz] at c1
    have c1 := Decidable.not_not.mp c1
    obtain ⟨ha, ea⟩ := inN_of c1 (by omega)
    have e : oStatus s a = (s (ix a), s) := if_pos c1
    rw [e] at hB
    exact bX12_status_18 E hB (by rw [ea]; exact vin (by omega) (by omega)) ⟨_, rfl, R.2.2.1 _ ha, R, fun _ _ => rfl⟩
  · have e : oStatus s a = (-1, cnt s (-2)) := if_neg fun g => by rw [bz] at c; exact c g
    rw [e] at hB
    refine bX12_status_9 E (m_refuse (s := s) R.2.2.1) fun v μ2 h => ?_
    obtain ⟨rfl, h1, h2⟩ := h
    exact bX12_status_15 E hB ⟨_, rfl, rfl, ystay R O h1 h2⟩
end PUB2
