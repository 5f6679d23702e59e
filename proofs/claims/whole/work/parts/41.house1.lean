/-! HOUSE: the class' calls that build it -/
section HOUSE
variable {Z : ZT} {μ : Mu} {h : Nat} {D : DD}
theorem c_within {v : Int32} {n : Nat} (hn : n < 2147483648) : CtrS Z mX11_within [.int v, .int (nI n)] μ (rI fun r μ' => r = (if inN v n then nI 1 else nI 0) ∧ μ' = μ) := by
  refine CtrS.intro (by decide +kernel) (Nat.le_of_ble_eq_true rfl) rfl fun X E hB => ?_
  have no : ¬ inN v n → JS Z X 13 [] [] μ := fun g => bX11_within_13 E (bX11_within_14 E hB rfl ⟨_, rfl, by rw [if_neg g], rfl⟩)
  refine bX11_within_0 E (fun c => no fun g => absurd c (Int32.not_lt.mpr g.1)) (fun c => ?_)
  refine bX11_within_4 E (fun c2 => no fun g => absurd g.2 (Int32.not_lt.mpr c2)) (fun c2 => ?_)
  exact bX11_within_9 E (bX11_within_14 E hB rfl ⟨_, rfl, by rw [if_pos ⟨Int32.not_lt.mp c, Int32.not_le.mp c2⟩], rfl⟩)
theorem bz {p : Prop} [Decidable p] : ((if p then nI 1 else nI 0) = 0) = ¬ p := by
  by_cases g : p
  · simp only [if_pos g, g, not_true, eq_iff_iff, iff_false]; decide
  · simp only [if_neg g, g, not_false_iff, eq_iff_iff, iff_true]; rfl
theorem z01i {p : Prop} [Decidable p] : narrow .boolean (.int (if p then nI 1 else nI 0)) = .int (if p then nI 1 else nI 0) := z01 (by split; exact Or.inr rfl; exact Or.inl rfl)
theorem c_hasPlace {v : Int32} (H : HC μ h D) (W : WF D) : CtrS Z mX3_hasPlace [rf Z h, .int v] μ (rI fun r μ' => r = (if inN v (D 0 0) then nI 1 else nI 0) ∧ μ' = μ) := by
  refine CtrS.intro (by decide +kernel) (Nat.le_of_ble_eq_true rfl) rfl fun X E hB => ?_
  refine bX3_hasPlace_0 E H.1 (by rw [H.2.1]; exact c_within (by have := W.1; omega)) fun r μ1 g => ?_
  obtain ⟨rfl, rfl⟩ := g
  exact bX3_hasPlace_8 E hB z01i ⟨_, rfl, rfl, rfl⟩
theorem c_areTwoPlaces {a b : Int32} (H : HC μ h D) (W : WF D) : CtrS Z mX3_areTwoPlaces [rf Z h, .int a, .int b] μ (rI fun r μ' => r = (if inN a (D 0 0) ∧ inN b (D 0 0) ∧ a ≠ b then nI 1 else nI 0) ∧ μ' = μ) := by
  refine CtrS.intro (by decide +kernel) (Nat.le_of_ble_eq_true rfl) rfl fun X E hB => ?_
  have no : ¬ (inN a (D 0 0) ∧ inN b (D 0 0) ∧ a ≠ b) → JS Z X 25 [] [] μ := fun g => bX3_areTwoPlaces_25 E (bX3_areTwoPlaces_26 E hB rfl ⟨_, rfl, by rw [if_neg g], rfl⟩)
  refine bX3_areTwoPlaces_0 E H.1 (c_hasPlace H W) fun r μ1 g => ?_
  obtain ⟨rfl, rfl⟩ := g
  refine bX3_areTwoPlaces_5 E H.1 (fun c => no fun g => by rw [bz] at c; exact c g.1) (fun c => ?_)
  rw [bz] at c
  refine bX3_areTwoPlaces_8 E H.1 (c_hasPlace H W) fun r μ1 g => ?_
  obtain ⟨rfl, rfl⟩ := g
  refine bX3_areTwoPlaces_13 E (fun c2 => no fun g => by rw [bz] at c2; exact c2 g.2.1) (fun c2 => ?_)
  rw [bz] at c2
  refine bX3_areTwoPlaces_16 E (fun c3 => no fun g => g.2.2 c3) (fun c3 => ?_)
  exact bX3_areTwoPlaces_21 E (bX3_areTwoPlaces_26 E hB rfl ⟨_, rfl, by rw [if_pos ⟨Decidable.not_not.mp c, Decidable.not_not.mp c2, c3⟩], rfl⟩)
theorem c_isQuick {v : Int32} : CtrS Z mX3_isQuick [.int v] μ (rI fun r μ' => r = (if inN v 10 then nI 1 else nI 0) ∧ μ' = μ) := by
  refine CtrS.intro (by decide +kernel) (Nat.le_of_ble_eq_true rfl) rfl fun X E hB => ?_
  refine bX3_isQuick_0 E (c_within (by decide)) fun r μ1 g => ?_
  obtain ⟨rfl, rfl⟩ := g
  exact bX3_isQuick_6 E hB z01i ⟨_, rfl, rfl, rfl⟩
/-- the rows of a house -/
abbrev hR (h : Nat) : List Nat := [h, h + 1, h + 2, h + 3, h + 4, h + 5, h + 6, h + 7, h + 8, h + 9, h + 10, h + 11, h + 12]
abbrev cP (Z : ZT) (μ : Mu) (h : Nat) (R : Int32 × DD) : Option Value → Mu → Prop := rI fun v μ' => v = R.1 ∧ HC μ' h R.2 ∧ Fr (hR h) μ μ'
theorem cP_no {R : Int32 × DD} {v : Int32} (H : HC μ h D) (e : R = (v, D)) : cP Z μ h R (some (.int v)) μ := by
  subst e; exact ⟨_, rfl, rfl, H, Fr.rf⟩
theorem cP_ok {R : Int32 × DD} {v v' : Int32} {D' : DD} {μ' : Mu} (e : R = (v', D')) (hv : v = v') (hH : HC μ' h D') (hF : Fr (hR h) μ μ') : cP Z μ h R (some (.int v)) μ' := by
  subst e; exact ⟨_, rfl, hv, hH, hF⟩
theorem c_addPlace (H : HC μ h D) (W : WF D) : CtrS Z mX3_addPlace [rf Z h] μ (cP Z μ h (oPlace D)) := by
  refine CtrS.intro (by decide +kernel) (Nat.le_of_ble_eq_true rfl) rfl fun X E hB => ?_
  have hn := W.1
  refine bX3_addPlace_0 E H.1 (fun c => ?_) (fun c => ?_)
  · rw [H.2.1, nI_ltE (by omega) (by omega)] at c
    have H0 := H
    obtain ⟨h1, h2, h3, h4, h5, h6, h7, h8, h9⟩ := H
    refine bX3_addPlace_12 E h1 (bX3_addPlace_23 E hB (cP_ok (by rw [oPlace, if_neg (by omega)]) h2 ⟨h1, ?_, ?_, ?_, ?_, ?_, ?_, ?_, ?_⟩ (Fr.uR (by simp))))
    · rw [uR_s, pk_us, h2, nI_add, up_s]
    · rw [uR_s, pk_un (by decide)]; simpa [up] using h3
    · rw [uR_s, pk_un (by decide)]; simpa [up] using h4
    · rw [uR_n (by omega)]; simpa [up] using h5
    · rw [uR_n (by omega)]; simpa [up] using h6
    · simp only [up, uR_n (show h + 3 ≠ h by omega), uR_n (show h + 4 ≠ h by omega), uR_n (show h + 5 ≠ h by omega), uR_n (show h + 6 ≠ h by omega)]; simpa using h7
    · simp only [up, uR_n (show h + 7 ≠ h by omega), uR_n (show h + 8 ≠ h by omega), uR_n (show h + 9 ≠ h by omega), uR_n (show h + 10 ≠ h by omega)]; simpa using h8
    · simp only [up, uR_n (show h + 11 ≠ h by omega), uR_n (show h + 12 ≠ h by omega)]; simpa using h9
  · rw [H.2.1, nI_ltE (by omega) (by omega)] at c
    exact bX3_addPlace_9 E hB (cP_no H (by rw [oPlace, if_pos (by omega)]))
theorem rw10 (a b : Nat) : nI a * nI 10 + nI b = nI (10 * a + b) := by rw [nI_mul, nI_add, Nat.mul_comm]
theorem c_setWay {a b n : Int32} (H : HC μ h D) (W : WF D) : CtrS Z mX3_setWay [rf Z h, .int a, .int b, .int n] μ (cP Z μ h (oWay D a b n)) := by
  refine CtrS.intro (by decide +kernel) (Nat.le_of_ble_eq_true rfl) rfl fun X E hB => ?_
  have hn := W.1
  have no : ¬ (inN a (D 0 0) ∧ inN b (D 0 0) ∧ a ≠ b ∧ inN n 10) → JS Z X 19 [] [] μ := fun g => bX3_setWay_19 E hB (cP_no H (by rw [oWay, if_neg g]))
  refine bX3_setWay_0 E H.1 (c_areTwoPlaces H W) fun r μ1 g => ?_
  obtain ⟨rfl, rfl⟩ := g
  refine bX3_setWay_6 E H.1 (fun c => no fun g => by rw [bz] at c; exact c ⟨g.1, g.2.1, g.2.2.1⟩) (fun c => ?_)
  rw [bz] at c
  have c := Decidable.not_not.mp c
  refine bX3_setWay_9 E H.1 (fun c2 => no fun g => absurd c2 (Int32.not_lt.mpr g.2.2.2.1)) (fun c2 => ?_)
  refine bX3_setWay_13 E H.1 (fun c3 => ?_) (fun c3 => no fun g => ?_)
  · have gn : inN n 10 := ⟨Int32.not_lt.mp c2, by
      obtain ⟨j, hj, rfl⟩ := nI_of2 (n := 9) (M := nI 9) rfl c2 c3
      exact (nI_ltI (by omega) (by omega)).mpr (by omega)⟩
    have e := (show oWay D a b n = _ by rw [oWay, if_pos ⟨c.1, c.2.1, c.2.2, gn⟩])
    obtain ⟨ha, ea⟩ := inN_of c.1 (by omega)
    obtain ⟨hb, eb⟩ := inN_of c.2.1 (by omega)
    obtain ⟨hw, ew⟩ := inN_of gn (by omega)
    have e1 := rw10 (ix a) (ix b)
    have e2 := rw10 (ix b) (ix a)
    rw [← ea, ← eb] at e1 e2
    obtain ⟨h1, h2, h3, h4, h5, h6, h7, h8, h9⟩ := H
    refine bX3_setWay_22 E h1 (by rw [e1]; exact vin (by omega) (by omega)) (by rw [e1]; exact vin (by omega) (by omega)) ?_
    rw [e1, ix_nI (by omega)]
    refine bX3_setWay_47 E h1 (by rw [e2]; exact vin (by omega) (by omega)) (bX3_setWay_59 E hB (cP_ok e (h5 _ (by omega)) ?_ ?_))
    · rw [e2, ix_nI (by omega), uR_uR, uR_s, ew]
      refine ⟨h1, ?_, ?_, ?_, fun q hq => ?_, ?_, ?_, ?_, ?_⟩
      · rw [uR_n (by omega)]; simpa [up] using h2
      · rw [uR_n (by omega)]; simpa [up] using h3
      · rw [uR_n (by omega)]; simpa [up] using h4
      · rw [uR_s, ix_nI (by omega)]; exact upd_up (upd_up (h5 q hq))
      · rw [uR_n (by omega)]; simpa [up] using h6
      · simp only [up, uR_n (show h + 3 ≠ h + 1 by omega), uR_n (show h + 4 ≠ h + 1 by omega), uR_n (show h + 5 ≠ h + 1 by omega), uR_n (show h + 6 ≠ h + 1 by omega)]; simpa using h7
      · simp only [up, uR_n (show h + 7 ≠ h + 1 by omega), uR_n (show h + 8 ≠ h + 1 by omega), uR_n (show h + 9 ≠ h + 1 by omega), uR_n (show h + 10 ≠ h + 1 by omega)]; simpa using h8
      · simp only [up, uR_n (show h + 11 ≠ h + 1 by omega), uR_n (show h + 12 ≠ h + 1 by omega)]; simpa using h9
    · rw [uR_uR]; exact Fr.uR (by simp)
  · obtain ⟨hw, ew⟩ := inN_of g.2.2.2 (by omega)
    rw [ew, nI_leE (by omega) (by omega)] at c3
    omega
end HOUSE
