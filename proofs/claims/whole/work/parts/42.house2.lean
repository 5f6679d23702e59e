/-! HOUSE, more -/
theorem bitc {x p : Nat} (hx : x < 2147483648) (hp : p < 31) : ((nI x >>> (nI p &&& 31)) &&& nI 1 = nI 1) = (x.testBit p = true) := by
  rw [bit_get hx (by omega), nI_eqE (by omega) (by decide)]
  exact propext tb_iff
theorem lt10 {x n : Nat} (h : x < 2 ^ n) (hn : n ≤ 10) : x < 1024 := Nat.lt_of_lt_of_le h (Nat.pow_le_pow_right (n := 2) (by decide) hn)
theorem p10 {p : Nat} (hp : p < 10) : 2 ^ p < 1024 := Nat.pow_lt_pow_right (n := 10) (by decide) hp
theorem bit_put {x p : Nat} (hx : x < 1024) (hp : p < 10) : nI x ||| (nI 1 <<< (nI p &&& 31)) = nI (x ||| 2 ^ p) := by
  have := p10 hp
  rw [bit_one (by omega), nI_or (by omega) (by omega)]
section HOUSE2
variable {Z : ZT} {μ : Mu} {h : Nat} {D : DD}
theorem c_addSight {a b : Int32} (H : HC μ h D) (W : WF D) : CtrS Z mX3_addSight [rf Z h, .int a, .int b] μ (cP Z μ h (oSees D a b)) := by
  refine CtrS.intro (by decide +kernel) (Nat.le_of_ble_eq_true rfl) rfl fun X E hB => ?_
  have hn := W.1
  refine bX3_addSight_0 E H.1 (c_areTwoPlaces H W) fun r μ1 g => ?_
  obtain ⟨rfl, rfl⟩ := g
  refine bX3_addSight_6 E H.1 (fun c => ?_) (fun c => ?_)
  · rw [bz] at c
    have c := Decidable.not_not.mp c
    obtain ⟨ha, ea⟩ := inN_of c.1 (by omega)
    obtain ⟨hb, eb⟩ := inN_of c.2.1 (by omega)
    have H0 := H
    obtain ⟨h1, h2, h3, h4, h5, h6, h7, h8, h9⟩ := H
    have er := h6 (ix a) (by omega)
    have lt := lt10 (W.2.2.2.2.1 (ix a) (by omega)).1 hn
    have hin : vp_in a 10 := by rw [ea]; exact vin (by omega) (by omega)
    have eb' : ∀ x : Nat, x < 1024 → ((nI x >>> (b &&& 31)) &&& nI 1 = nI 1) = (x.testBit (ix b) = true) := fun x hx => by
      have := bitc (x := x) (p := ix b) (by omega) (by omega)
      rw [← eb] at this; exact this
    refine bX3_addSight_12 E h1 hin ?_ ?_
    · rw [er, eb' _ lt]
      intro c2
      refine bX3_addSight_29 E h1 hin hin (bX3_addSight_41 E hB (cP_ok (by rw [oSees, if_pos c, if_neg c2]) rfl ?_ (Fr.uR (by simp))))
      refine ⟨h1, ?_, ?_, ?_, ?_, fun q hq => ?_, ?_, ?_, ?_⟩
      · rw [uR_n (by omega)]; simpa [up] using h2
      · rw [uR_n (by omega)]; simpa [up] using h3
      · rw [uR_n (by omega)]; simpa [up] using h4
      · rw [uR_n (by omega)]; simpa [up] using h5
      · rw [uR_s, er]
        have := bit_put lt (show ix b < 10 by omega)
        rw [← eb] at this
        rw [this]
        exact upd_up (h6 q hq)
      · simp only [up, uR_n (show h + 3 ≠ h + 2 by omega), uR_n (show h + 4 ≠ h + 2 by omega), uR_n (show h + 5 ≠ h + 2 by omega), uR_n (show h + 6 ≠ h + 2 by omega)]; simpa using h7
      · simp only [up, uR_n (show h + 7 ≠ h + 2 by omega), uR_n (show h + 8 ≠ h + 2 by omega), uR_n (show h + 9 ≠ h + 2 by omega), uR_n (show h + 10 ≠ h + 2 by omega)]; simpa using h8
      · simp only [up, uR_n (show h + 11 ≠ h + 2 by omega), uR_n (show h + 12 ≠ h + 2 by omega)]; simpa using h9
    · rw [er, eb' _ lt]
      intro c2
      exact bX3_addSight_26 E hB (cP_no H0 (by rw [oSees, if_pos c, if_pos c2]))
  · rw [bz] at c
    exact bX3_addSight_9 E hB (cP_no H (by rw [oSees, if_neg c]))
theorem c_addBar {a b : Int32} (H : HC μ h D) (W : WF D) : CtrS Z mX3_addBar [rf Z h, .int a, .int b] μ (cP Z μ h (oBar D a b)) := by
  refine CtrS.intro (by decide +kernel) (Nat.le_of_ble_eq_true rfl) rfl fun X E hB => ?_
  have hn := W.1
  have hc := W.2.1
  have no : ¬ (inN a (D 0 1) ∧ inN b (D 0 0)) → JS Z X 19 [] [] μ := fun g => bX3_addBar_19 E hB (cP_no H (by rw [oBar, if_neg g]))
  refine bX3_addBar_0 E H.1 (by rw [H.2.2.1]; exact c_within (by omega)) fun r μ1 g => ?_
  obtain ⟨rfl, rfl⟩ := g
  refine bX3_addBar_8 E H.1 (fun c => no fun g => by rw [bz] at c; exact c g.1) (fun c => ?_)
  rw [bz] at c
  have c := Decidable.not_not.mp c
  refine bX3_addBar_11 E H.1 (c_hasPlace H W) fun r μ1 g => ?_
  obtain ⟨rfl, rfl⟩ := g
  refine bX3_addBar_16 E H.1 (fun c2 => ?_) (fun c2 => no fun g => by rw [bz] at c2; exact c2 g.2)
  rw [bz] at c2
  have c2 := Decidable.not_not.mp c2
  obtain ⟨ha, ea⟩ := inN_of c (by omega)
  obtain ⟨hb, eb⟩ := inN_of c2 (by omega)
  have H0 := H
  obtain ⟨h1, h2, h3, h4, h5, h6, h7, h8, h9⟩ := H
  have er := (h7 (ix a) ha).2.2.1
  have lt := lt10 (W.2.2.2.2.2.1 (ix a) ha).2.2.1 hn
  have hin : vp_in a 6 := by rw [ea]; exact vin (by omega) (by omega)
  have eb' : ∀ x : Nat, x < 1024 → ((nI x >>> (b &&& 31)) &&& nI 1 = nI 1) = (x.testBit (ix b) = true) := fun x hx => by
    have := bitc (x := x) (p := ix b) (by omega) (by omega)
    rw [← eb] at this; exact this
  refine bX3_addBar_22 E h1 hin ?_ ?_
  · rw [er, eb' _ lt]
    intro c3
    refine bX3_addBar_39 E h1 hin hin (bX3_addBar_51 E hB (cP_ok (by rw [oBar, if_pos ⟨c, c2⟩, if_neg c3]) rfl ?_ (Fr.uR (by simp))))
    refine ⟨h1, ?_, ?_, ?_, ?_, ?_, fun q hq => ?_, ?_, ?_⟩
    · rw [uR_n (by omega)]; simpa [up] using h2
    · rw [uR_n (by omega)]; simpa [up] using h3
    · rw [uR_n (by omega)]; simpa [up] using h4
    · rw [uR_n (by omega)]; simpa [up] using h5
    · rw [uR_n (by omega)]; simpa [up] using h6
    · simp (disch := omega) only [uR_s, uR_n]
      have hq' : q < D 0 1 := by simpa [up] using hq
      have := h7 q hq'
      refine ⟨by simpa [up] using this.1, by simpa [up] using this.2.1, ?_, by simpa [up] using this.2.2.2⟩
      rw [er]
      have e2 := bit_put lt (show ix b < 10 by omega)
      rw [← eb] at e2
      rw [e2]
      exact upd_up this.2.2.1
    · simp only [up, uR_n (show h + 7 ≠ h + 5 by omega), uR_n (show h + 8 ≠ h + 5 by omega), uR_n (show h + 9 ≠ h + 5 by omega), uR_n (show h + 10 ≠ h + 5 by omega)]; simpa using h8
    · simp only [up, uR_n (show h + 11 ≠ h + 5 by omega), uR_n (show h + 12 ≠ h + 5 by omega)]; simpa using h9
  · rw [er, eb' _ lt]
    intro c3
    exact bX3_addBar_36 E hB (cP_no H0 (by rw [oBar, if_pos ⟨c, c2⟩, if_pos c3]))
theorem c_addMistaken {a b : Int32} (H : HC μ h D) (W : WF D) : CtrS Z mX3_addMistaken [rf Z h, .int a, .int b] μ (cP Z μ h (oMeans D a b)) := by
  refine CtrS.intro (by decide +kernel) (Nat.le_of_ble_eq_true rfl) rfl fun X E hB => ?_
  have hn := W.1
  have hc := W.2.2.1
  have no : ¬ (inN a (D 0 2) ∧ inN b (D 0 0)) → JS Z X 19 [] [] μ := fun g => bX3_addMistaken_19 E hB (cP_no H (by rw [oMeans, if_neg g]))
  refine bX3_addMistaken_0 E H.1 (by rw [H.2.2.2.1]; exact c_within (by omega)) fun r μ1 g => ?_
  obtain ⟨rfl, rfl⟩ := g
  refine bX3_addMistaken_8 E H.1 (fun c => no fun g => by rw [bz] at c; exact c g.1) (fun c => ?_)
  rw [bz] at c
  have c := Decidable.not_not.mp c
  refine bX3_addMistaken_11 E H.1 (c_hasPlace H W) fun r μ1 g => ?_
  obtain ⟨rfl, rfl⟩ := g
  refine bX3_addMistaken_16 E H.1 (fun c2 => ?_) (fun c2 => no fun g => by rw [bz] at c2; exact c2 g.2)
  rw [bz] at c2
  have c2 := Decidable.not_not.mp c2
  obtain ⟨ha, ea⟩ := inN_of c (by omega)
  obtain ⟨hb, eb⟩ := inN_of c2 (by omega)
  have H0 := H
  obtain ⟨h1, h2, h3, h4, h5, h6, h7, h8, h9⟩ := H
  have er := (h8 (ix a) ha).2.2.2
  have lt := lt10 (W.2.2.2.2.2.2.1 (ix a) ha).2.2.2 hn
  have hin : vp_in a 8 := by rw [ea]; exact vin (by omega) (by omega)
  have eb' : ∀ x : Nat, x < 1024 → ((nI x >>> (b &&& 31)) &&& nI 1 = nI 1) = (x.testBit (ix b) = true) := fun x hx => by
    have := bitc (x := x) (p := ix b) (by omega) (by omega)
    rw [← eb] at this; exact this
  refine bX3_addMistaken_22 E h1 hin ?_ ?_
  · rw [er, eb' _ lt]
    intro c3
    refine bX3_addMistaken_39 E h1 hin hin (bX3_addMistaken_51 E hB (cP_ok (by rw [oMeans, if_pos ⟨c, c2⟩, if_neg c3]) rfl ?_ (Fr.uR (by simp))))
    refine ⟨h1, ?_, ?_, ?_, ?_, ?_, ?_, fun q hq => ?_, ?_⟩
    · rw [uR_n (by omega)]; simpa [up] using h2
    · rw [uR_n (by omega)]; simpa [up] using h3
    · rw [uR_n (by omega)]; simpa [up] using h4
    · rw [uR_n (by omega)]; simpa [up] using h5
    · rw [uR_n (by omega)]; simpa [up] using h6
    · simp only [up, uR_n (show h + 3 ≠ h + 10 by omega), uR_n (show h + 4 ≠ h + 10 by omega), uR_n (show h + 5 ≠ h + 10 by omega), uR_n (show h + 6 ≠ h + 10 by omega)]; simpa using h7
    · simp (disch := omega) only [uR_s, uR_n]
      have hq' : q < D 0 2 := by simpa [up] using hq
      have := h8 q hq'
      refine ⟨by simpa [up] using this.1, by simpa [up] using this.2.1, by simpa [up] using this.2.2.1, ?_⟩
      rw [er]
      have e2 := bit_put lt (show ix b < 10 by omega)
      rw [← eb] at e2
      rw [e2]
      exact upd_up this.2.2.2
    · simp only [up, uR_n (show h + 11 ≠ h + 10 by omega), uR_n (show h + 12 ≠ h + 10 by omega)]; simpa using h9
  · rw [er, eb' _ lt]
    intro c3
    exact bX3_addMistaken_36 E hB (cP_no H0 (by rw [oMeans, if_pos ⟨c, c2⟩, if_pos c3]))
theorem c_setSpare {a : Int32} (H : HC μ h D) (W : WF D) : CtrS Z mX3_setSpare [rf Z h, .int a] μ (cP Z μ h (oSpare D a)) := by
  refine CtrS.intro (by decide +kernel) (Nat.le_of_ble_eq_true rfl) rfl fun X E hB => ?_
  have hc := W.2.2.1
  refine bX3_setSpare_0 E H.1 (by rw [H.2.2.2.1]; exact c_within (by omega)) fun r μ1 g => ?_
  obtain ⟨rfl, rfl⟩ := g
  refine bX3_setSpare_8 E H.1 (fun c => ?_) (fun c => bX3_setSpare_11 E hB (cP_no H (by rw [bz] at c; rw [oSpare, if_neg c])))
  rw [bz] at c
  have c := Decidable.not_not.mp c
  obtain ⟨ha, ea⟩ := inN_of c (by omega)
  have H0 := H
  obtain ⟨h1, h2, h3, h4, h5, h6, h7, h8, h9⟩ := H
  have er := (h8 (ix a) ha).2.2.1
  have lt := (W.2.2.2.2.2.2.1 (ix a) ha).2.2.1
  have hin : vp_in a 8 := by rw [ea]; exact vin (by omega) (by omega)
  refine bX3_setSpare_14 E h1 hin ?_ ?_
  · rw [er, nI_eqE (by omega) (by omega)]
    intro c3
    refine bX3_setSpare_27 E h1 hin (bX3_setSpare_34 E hB (cP_ok (by rw [oSpare, if_pos c, if_neg c3]) rfl ?_ (Fr.uR (by simp))))
    refine ⟨h1, ?_, ?_, ?_, ?_, ?_, ?_, fun q hq => ?_, ?_⟩
    · rw [uR_n (by omega)]; simpa [up] using h2
    · rw [uR_n (by omega)]; simpa [up] using h3
    · rw [uR_n (by omega)]; simpa [up] using h4
    · rw [uR_n (by omega)]; simpa [up] using h5
    · rw [uR_n (by omega)]; simpa [up] using h6
    · simp only [up, uR_n (show h + 3 ≠ h + 9 by omega), uR_n (show h + 4 ≠ h + 9 by omega), uR_n (show h + 5 ≠ h + 9 by omega), uR_n (show h + 6 ≠ h + 9 by omega)]; simpa using h7
    · simp (disch := omega) only [uR_s, uR_n]
      have hq' : q < D 0 2 := by simpa [up] using hq
      have := h8 q hq'
      exact ⟨by simpa [up] using this.1, by simpa [up] using this.2.1, upd_up this.2.2.1, by simpa [up] using this.2.2.2⟩
    · simp only [up, uR_n (show h + 11 ≠ h + 9 by omega), uR_n (show h + 12 ≠ h + 9 by omega)]; simpa using h9
  · rw [er, nI_eqE (by omega) (by omega)]
    intro c3
    exact bX3_setSpare_24 E hB (cP_no H0 (by rw [oSpare, if_pos c, if_pos c3]))
theorem lot_arg {l : Int32} : inN (l + 1) 3 ↔ ¬ l < -1 ∧ l < nI 2 := by
  have h1 : ∀ j : Nat, j < 3 → lotI j + 1 = nI j := by decide
  refine ⟨fun g => ?_, fun g => ?_⟩
  · obtain ⟨a, b⟩ := inN_of g (by decide)
    generalize ix (l + 1) = j at *
    have : l = lotI j := by rw [lotI, ← b, Int32.add_assoc]; simp
    subst this
    rcases (show j = 0 ∨ j = 1 ∨ j = 2 by omega) with rfl | rfl | rfl <;> decide
  · obtain ⟨a, b⟩ := g
    have ha : -1 ≤ l := Int32.not_lt.mp a
    rw [Int32.le_iff_toInt_le] at ha
    rw [Int32.lt_iff_toInt_lt] at b
    have e1 : (-1 : Int32).toInt = -1 := rfl
    have e2 : (nI 2).toInt = 2 := rfl
    rw [e1] at ha
    rw [e2] at b
    have : l.toInt = -1 ∨ l.toInt = 0 ∨ l.toInt = 1 := by omega
    rcases this with e | e | e
    · have : l = -1 := Int32.toInt_inj.mp e
      subst this; decide
    · have : l = 0 := Int32.toInt_inj.mp e
      subst this; decide
    · have : l = 1 := Int32.toInt_inj.mp e
      subst this; decide
theorem lot_val {l : Int32} (h : inN (l + 1) 3) : l = lotI (ix (l + 1)) := by
  obtain ⟨a, b⟩ := inN_of h (by decide)
  rw [lotI, ← b, Int32.add_assoc]; simp
theorem c_setLot {a l : Int32} (H : HC μ h D) (W : WF D) : CtrS Z mX3_setLot [rf Z h, .int a, .int l] μ (cP Z μ h (oJoin D a l)) := by
  refine CtrS.intro (by decide +kernel) (Nat.le_of_ble_eq_true rfl) rfl fun X E hB => ?_
  have hc := W.2.1
  have no : ¬ (inN a (D 0 1) ∧ inN (l + 1) 3) → JS Z X 21 [] [] μ := fun g => bX3_setLot_21 E hB (cP_no H (by rw [oJoin, if_neg g]))
  refine bX3_setLot_0 E H.1 (by rw [H.2.2.1]; exact c_within (by omega)) fun r μ1 g => ?_
  obtain ⟨rfl, rfl⟩ := g
  refine bX3_setLot_8 E H.1 (fun c => no fun g => by rw [bz] at c; exact c g.1) (fun c => ?_)
  rw [bz] at c
  have c := Decidable.not_not.mp c
  refine bX3_setLot_11 E H.1 (fun c2 => no fun g => (lot_arg.mp g.2).1 c2) (fun c2 => ?_)
  refine bX3_setLot_16 E H.1 (fun c3 => ?_) (fun c3 => no fun g => c3 (lot_arg.mp g.2).2)
  have gl := lot_arg.mpr ⟨c2, c3⟩
  obtain ⟨ha, ea⟩ := inN_of c (by omega)
  have hin : vp_in a 6 := by rw [ea]; exact vin (by omega) (by omega)
  obtain ⟨h1, h2, h3, h4, h5, h6, h7, h8, h9⟩ := H
  refine bX3_setLot_24 E h1 hin hin (bX3_setLot_38 E hB (cP_ok (by rw [oJoin, if_pos ⟨c, gl⟩]) (h7 (ix a) ha).2.2.2 ?_ (Fr.uR (by simp))))
  refine ⟨h1, ?_, ?_, ?_, ?_, ?_, fun q hq => ?_, ?_, ?_⟩
  · rw [uR_n (by omega)]; simpa [up] using h2
  · rw [uR_n (by omega)]; simpa [up] using h3
  · rw [uR_n (by omega)]; simpa [up] using h4
  · rw [uR_n (by omega)]; simpa [up] using h5
  · rw [uR_n (by omega)]; simpa [up] using h6
  · simp (disch := omega) only [uR_s, uR_n]
    have hq' : q < D 0 1 := by simpa [up] using hq
    have := h7 q hq'
    refine ⟨by simpa [up] using this.1, by simpa [up] using this.2.1, by simpa [up] using this.2.2.1, ?_⟩
    exact upd_at (fun e => by subst e; rw [up_s]; exact lot_val gl) (fun e => by rw [up_i e]; exact this.2.2.2)
  · simp only [up, uR_n (show h + 7 ≠ h + 6 by omega), uR_n (show h + 8 ≠ h + 6 by omega), uR_n (show h + 9 ≠ h + 6 by omega), uR_n (show h + 10 ≠ h + 6 by omega)]; simpa using h8
  · simp only [up, uR_n (show h + 11 ≠ h + 6 by omega), uR_n (show h + 12 ≠ h + 6 by omega)]; simpa using h9
theorem c_emptyRow {l : Int32} (H : HC μ h D) (W : WF D) : CtrS Z mX3_emptyRow [rf Z h, .int l] μ (cP Z μ h (oUnrow D l)) := by
  refine CtrS.intro (by decide +kernel) (Nat.le_of_ble_eq_true rfl) rfl fun X E hB => ?_
  refine bX3_emptyRow_0 E H.1 (c_within (by decide)) fun r μ1 g => ?_
  obtain ⟨rfl, rfl⟩ := g
  refine bX3_emptyRow_5 E H.1 (fun c => ?_) (fun c => bX3_emptyRow_8 E hB (cP_no H (by rw [bz] at c; rw [oUnrow, if_neg c])))
  rw [bz] at c
  have c := Decidable.not_not.mp c
  obtain ⟨ha, ea⟩ := inN_of c (by decide)
  have hin : vp_in l 2 := by rw [ea]; exact vin (by omega) (by omega)
  obtain ⟨h1, h2, h3, h4, h5, h6, h7, h8, h9⟩ := H
  refine bX3_emptyRow_11 E h1 hin hin (bX3_emptyRow_25 E hB (cP_ok (by rw [oUnrow, if_pos c]) (h9 (ix l) ha).1 ?_ (Fr.uR (by simp))))
  refine ⟨h1, ?_, ?_, ?_, ?_, ?_, ?_, ?_, fun q hq => ?_⟩
  · rw [uR_n (by omega)]; simpa [up] using h2
  · rw [uR_n (by omega)]; simpa [up] using h3
  · rw [uR_n (by omega)]; simpa [up] using h4
  · rw [uR_n (by omega)]; simpa [up] using h5
  · rw [uR_n (by omega)]; simpa [up] using h6
  · simp only [up, uR_n (show h + 3 ≠ h + 11 by omega), uR_n (show h + 4 ≠ h + 11 by omega), uR_n (show h + 5 ≠ h + 11 by omega), uR_n (show h + 6 ≠ h + 11 by omega)]; simpa using h7
  · simp only [up, uR_n (show h + 7 ≠ h + 11 by omega), uR_n (show h + 8 ≠ h + 11 by omega), uR_n (show h + 9 ≠ h + 11 by omega), uR_n (show h + 10 ≠ h + 11 by omega)]; simpa using h8
  · simp (disch := omega) only [uR_s, uR_n]
    refine ⟨upd_up (h9 q hq).1, fun i hi => ?_⟩
    rw [up_k (by decide)]
    by_cases e : q = ix l
    · subst e; rw [up_s] at hi; omega
    · rw [up_i e] at hi; exact (h9 q hq).2 i hi
theorem c_addSlip {a b : Int32} (H : HC μ h D) (W : WF D) : CtrS Z mX3_addSlip [rf Z h, .int a, .int b] μ (cP Z μ h (oSlip D a b)) := by
  refine CtrS.intro (by decide +kernel) (Nat.le_of_ble_eq_true rfl) rfl fun X E hB => ?_
  have hn := W.1
  have hc := W.2.2.1
  have no : ¬ (inN a (D 0 0) ∧ inN b 4) → JS Z X 16 [] [] μ := fun g => bX3_addSlip_16 E hB (cP_no H (by rw [oSlip, if_neg g]))
  refine bX3_addSlip_0 E H.1 (c_hasPlace H W) fun r μ1 g => ?_
  obtain ⟨rfl, rfl⟩ := g
  refine bX3_addSlip_5 E H.1 (fun c => no fun g => by rw [bz] at c; exact c g.1) (fun c => ?_)
  rw [bz] at c
  have c := Decidable.not_not.mp c
  refine bX3_addSlip_8 E H.1 (c_within (by decide)) fun r μ1 g => ?_
  obtain ⟨rfl, rfl⟩ := g
  refine bX3_addSlip_13 E H.1 (fun c2 => ?_) (fun c2 => no fun g => by rw [bz] at c2; exact c2 g.2)
  rw [bz] at c2
  have c2 := Decidable.not_not.mp c2
  obtain ⟨ha, ea⟩ := inN_of c (by omega)
  obtain ⟨hb, eb⟩ := inN_of c2 (by omega)
  have H0 := H
  obtain ⟨h1, h2, h3, h4, h5, h6, h7, h8, h9⟩ := H
  refine bX3_addSlip_19 E h1 (fun c3 => ?_) (fun c3 => ?_)
  · rw [h4, nI_ltE (by omega) (by omega)] at c3
    refine bX3_addSlip_31 E h1 (by rw [h4]; exact vin (by omega) (by omega)) ?_
    refine bX3_addSlip_41 E h1 (by rw [uR_n (by omega), h4]; exact vin (by omega) (by omega)) ?_
    refine bX3_addSlip_51 E h1 (by simp (disch := omega) only [uR_n]; rw [h4]; exact vin (by omega) (by omega)) ?_
    refine bX3_addSlip_61 E h1 (by simp (disch := omega) only [uR_n]; rw [h4]; exact vin (by omega) (by omega)) ?_
    refine bX3_addSlip_71 E h1 ?_
    simp (disch := omega) only [uR_s, uR_n]
    rw [h4, ix_nI (by omega), nI_add]
    refine bX3_addSlip_82 E hB (cP_ok (by rw [oSlip, if_pos ⟨c, c2⟩, if_neg (by omega)]) rfl ?_ ?_)
    · refine ⟨h1, ?_, ?_, ?_, ?_, ?_, ?_, fun q hq => ?_, ?_⟩
      · simp (disch := omega) only [uR_s, uR_n]; rw [pk_un (by decide)]; simpa [up] using h2
      · simp (disch := omega) only [uR_s, uR_n]; rw [pk_un (by decide)]; simpa [up] using h3
      · simp (disch := omega) only [uR_s, uR_n]; rw [pk_us]; simp [up]
      · simp (disch := omega) only [uR_s, uR_n]; simpa [up] using h5
      · simp (disch := omega) only [uR_s, uR_n]; simpa [up] using h6
      · simp (disch := omega) only [uR_s, uR_n]; simpa [up] using h7
      · simp (disch := omega) only [uR_s, uR_n]
        have hq' : q < D 0 2 + 1 := by simpa [up] using hq
        by_cases e : q = D 0 2
        · subst e; rw [pk_us, pk_us, pk_us, pk_us]
          refine ⟨ea.trans (by simp [up]), eb.trans (by simp [up]), by simp [up], by simp [up]⟩
        · rw [pk_un e, pk_un e, pk_un e, pk_un e]
          have := h8 q (by omega)
          exact ⟨by simpa [up, e] using this.1, by simpa [up, e] using this.2.1, by simpa [up, e] using this.2.2.1, by simpa [up, e] using this.2.2.2⟩
      · simp (disch := omega) only [uR_s, uR_n]; simpa [up] using h9
    · exact ((((Fr.uR (by simp)).tr (Fr.uR (by simp))).tr (Fr.uR (by simp))).tr (Fr.uR (by simp))).tr (Fr.uR (by simp))
  · rw [h4, nI_ltE (by omega) (by omega)] at c3
    exact bX3_addSlip_28 E hB (cP_no H0 (by rw [oSlip, if_pos ⟨c, c2⟩, if_pos (by omega)]))
end HOUSE2
