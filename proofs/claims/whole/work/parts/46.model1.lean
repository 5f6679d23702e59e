/-! MODEL: its calls that build a house, at base b of its row -/
theorem in_N {v : Int32} {n : Nat} (hn : n < 2147483648) : (nI 0 ≤ v ∧ v ≤ nI n - nI 1) = inN v n := by
  refine propext ⟨fun g => ⟨g.1, ?_⟩, fun g => ⟨g.1, ?_⟩⟩
  · rcases Nat.eq_zero_or_pos n with e | e
    · subst e
      have h1 : v ≤ -1 := g.2
      have h2 := Int32.le_trans g.1 h1
      exact absurd h2 (by decide)
    · have h := g.2
      rw [nI_sub (show 1 ≤ n by omega)] at h
      exact Int32.lt_of_le_of_lt h ((nI_ltI (by omega) hn).mpr (by omega))
  · obtain ⟨h1, h2⟩ := inN_of g hn
    rw [h2, nI_sub (show 1 ≤ n by omega)]
    exact (nI_leI (by omega) (by omega)).mpr (by omega)
theorem in_9 {v : Int32} : (nI 0 ≤ v ∧ v ≤ nI 9) = inN v 10 := in_N (n := 10) (by decide)
theorem in_3 {v : Int32} : (nI 0 ≤ v ∧ v ≤ nI 3) = inN v 4 := in_N (n := 4) (by decide)
theorem in_1 {v : Int32} : (nI 0 ≤ v ∧ v ≤ nI 1) = inN v 2 := in_N (n := 2) (by decide)
theorem in_4 {v : Int32} : (nI 0 ≤ v ∧ v ≤ nI 4) = inN v 5 := in_N (n := 5) (by decide)
/-- the house at b alone may have changed -/
def FrA (b : Nat) (μ μ' : Mu) : Prop := (∀ a, a ≠ 456 → μ' a = μ a) ∧ ∀ i, i < b ∨ b + 201 ≤ i → μ' 456 i = μ 456 i
theorem FrA.rf {b : Nat} {μ : Mu} : FrA b μ μ := ⟨fun _ _ => rfl, fun _ _ => rfl⟩
theorem FrA.tr {b : Nat} {μ μ1 μ2 : Mu} (h1 : FrA b μ μ1) (h2 : FrA b μ1 μ2) : FrA b μ μ2 := ⟨fun a ha => (h2.1 a ha).trans (h1.1 a ha), fun i hi => (h2.2 i hi).trans (h1.2 i hi)⟩
theorem FrA.up {b j : Nat} {x : Int32} {μ : Mu} (h1 : b ≤ j) (h2 : j < b + 201) : FrA b μ (uR μ 456 (upd (μ 456) j x)) :=
  ⟨fun a ha => uR_n ha, fun i hi => by rw [uR_s, pk_un (by omega)]⟩
abbrev mP (Z : ZT) (μ : Mu) (b : Nat) (R : Int32 × DD) : Option Value → Mu → Prop := rI fun v μ' => v = R.1 ∧ HM (μ' 456) b R.2 ∧ FrA b μ μ'
section MODEL1
variable {Z : ZT} {μ : Mu} {b : Nat} {D : DD}
theorem mP_no {R : Int32 × DD} {v : Int32} (H : HM (μ 456) b D) (e : R = (v, D)) : mP Z μ b R (some (.int v)) μ := by
  subst e; exact ⟨_, rfl, rfl, H, FrA.rf⟩
theorem mP_ok {R : Int32 × DD} {v v' : Int32} {D' : DD} {μ' : Mu} (e : R = (v', D')) (hv : v = v') (hH : HM (μ' 456) b D') (hF : FrA b μ μ') : mP Z μ b R (some (.int v)) μ' := by
  subst e; exact ⟨_, rfl, hv, hH, hF⟩
theorem m_in {v lo hi : Int32} : CtrS Z mX12_in [.int v, .int lo, .int hi] μ (rI fun r μ' => r = (if lo ≤ v ∧ v ≤ hi then nI 1 else nI 0) ∧ μ' = μ) := by
  refine CtrS.intro (by decide +kernel) (Nat.le_of_ble_eq_true rfl) rfl fun X E hB => ?_
  have no : ¬ (lo ≤ v ∧ v ≤ hi) → JS Z X 14 [] [] μ := fun g => bX12_in_14 E (bX12_in_15 E hB rfl ⟨_, rfl, by rw [if_neg g], rfl⟩)
  refine bX12_in_0 E (fun c => no fun g => absurd c (Int32.not_lt.mpr g.1)) (fun c => ?_)
  refine bX12_in_5 E (fun c2 => no fun g => absurd c2 (Int32.not_lt.mpr g.2)) (fun c2 => ?_)
  exact bX12_in_10 E (bX12_in_15 E hB rfl ⟨_, rfl, by rw [if_pos ⟨Int32.not_lt.mp c, Int32.not_lt.mp c2⟩], rfl⟩)
theorem m_isPlace {p : Int32} (H : HM (μ 456) b D) (W : WF D) (hb : b < 900) : CtrS Z mX12_isPlace [mrf Z, .int (nI b), .int p] μ (rI fun r μ' => r = (if inN p (D 0 0) then nI 1 else nI 0) ∧ μ' = μ) := by
  refine CtrS.intro (by decide +kernel) (Nat.le_of_ble_eq_true rfl) rfl fun X E hB => ?_
  have := W.1
  refine bX12_isPlace_0 E (vin (by omega) (by omega)) m_in fun r μ1 g => ?_
  rw [ix_nI (by omega), H.1] at g
  simp only [in_N (show D 0 0 < 2147483648 by omega)] at g
  obtain ⟨rfl, rfl⟩ := g
  exact bX12_isPlace_13 E hB z01i ⟨_, rfl, rfl, rfl⟩
theorem m_isChild {p : Int32} (H : HM (μ 456) b D) (W : WF D) (hb : b < 742) : CtrS Z mX12_isChild [mrf Z, .int (nI b), .int p] μ (rI fun r μ' => r = (if inN p (D 0 1) then nI 1 else nI 0) ∧ μ' = μ) := by
  refine CtrS.intro (by decide +kernel) (Nat.le_of_ble_eq_true rfl) rfl fun X E hB => ?_
  have := W.2.1
  refine bX12_isChild_0 E (by rw [nI_add]; exact vin (by omega) (by omega)) m_in fun r μ1 g => ?_
  rw [nI_add, ix_nI (by omega), H.2.1] at g
  simp only [in_N (show D 0 1 < 2147483648 by omega)] at g
  obtain ⟨rfl, rfl⟩ := g
  exact bX12_isChild_16 E hB z01i ⟨_, rfl, rfl, rfl⟩
theorem m_isSlip {p : Int32} (H : HM (μ 456) b D) (W : WF D) (hb : b < 742) : CtrS Z mX12_isSlip [mrf Z, .int (nI b), .int p] μ (rI fun r μ' => r = (if inN p (D 0 2) then nI 1 else nI 0) ∧ μ' = μ) := by
  refine CtrS.intro (by decide +kernel) (Nat.le_of_ble_eq_true rfl) rfl fun X E hB => ?_
  have := W.2.2.1
  refine bX12_isSlip_0 E (by rw [nI_add]; exact vin (by omega) (by omega)) m_in fun r μ1 g => ?_
  rw [nI_add, ix_nI (by omega), H.2.2.1] at g
  simp only [in_N (show D 0 2 < 2147483648 by omega)] at g
  obtain ⟨rfl, rfl⟩ := g
  exact bX12_isSlip_17 E hB z01i ⟨_, rfl, rfl, rfl⟩
theorem m_isLot {l : Int32} : CtrS Z mX12_isLot [.int l] μ (rI fun r μ' => r = (if inN l 2 then nI 1 else nI 0) ∧ μ' = μ) := by
  refine CtrS.intro (by decide +kernel) (Nat.le_of_ble_eq_true rfl) rfl fun X E hB => ?_
  refine bX12_isLot_0 E m_in fun r μ1 g => ?_
  simp only [in_1] at g
  obtain ⟨rfl, rfl⟩ := g
  exact bX12_isLot_6 E hB z01i ⟨_, rfl, rfl, rfl⟩
theorem m_mark {i x p : Nat} (hi : i < 988) (hx : μ 456 i = nI x) (hl : x < 1024) (hp : p < 10) : CtrS Z mX12_mark [mrf Z, .int (nI i), .int (nI p)] μ (rI fun r μ' => if x.testBit p = true then r = -3 ∧ μ' = μ else r = nI 1 ∧ μ' = uR μ 456 (upd (μ 456) i (nI (x ||| 2 ^ p)))) := by
  refine CtrS.intro (by decide +kernel) (Nat.le_of_ble_eq_true rfl) rfl fun X E hB => ?_
  refine bX12_mark_0 E (vin hi (by omega)) ?_ ?_
  · rw [ix_nI (by omega), hx, bitc (by omega) (by omega)]
    intro c
    refine bX12_mark_17 E (vin hi (by omega)) (vin hi (by omega)) (bX12_mark_29 E hB ⟨_, rfl, ?_⟩)
    dsimp only
    rw [if_neg c, ix_nI (by omega), hx, bit_put hl hp]
    exact ⟨rfl, rfl⟩
  · rw [ix_nI (by omega), hx, bitc (by omega) (by omega)]
    intro c
    refine bX12_mark_14 E hB ⟨_, rfl, ?_⟩
    dsimp only
    rw [if_pos c]
    exact ⟨rfl, rfl⟩
theorem ad3 (a b c d e : Nat) : nI a + nI b + nI c * nI d + nI e = nI (a + b + c * d + e) := by rw [nI_mul, nI_add, nI_add, nI_add]
theorem m_setWay {p q n : Int32} (H : HM (μ 456) b D) (W : WF D) (hb : b < 742) : CtrS Z mX12_setWay [mrf Z, .int (nI b), .int p, .int q, .int n] μ (mP Z μ b (oWay D p q n)) := by
  refine CtrS.intro (by decide +kernel) (Nat.le_of_ble_eq_true rfl) rfl fun X E hB => ?_
  have hn := W.1
  have hC := W.2.1
  have hS := W.2.2.1
  have no : ¬ (inN p (D 0 0) ∧ inN q (D 0 0) ∧ p ≠ q ∧ inN n 10) → JS Z X 34 [] [] μ := fun g => bX12_setWay_34 E hB (mP_no H (by rw [oWay, if_neg g]))
  refine bX12_setWay_0 E (m_isPlace H W (by omega)) fun r μ1 g => ?_
  obtain ⟨rfl, rfl⟩ := g
  refine bX12_setWay_6 E (fun c => no fun g => by rw [bz] at c; exact c g.1) (fun c1 => ?_)
  rw [bz] at c1
  have c1 := Decidable.not_not.mp c1
  refine bX12_setWay_9 E (m_isPlace H W (by omega)) fun r μ1 g => ?_
  obtain ⟨rfl, rfl⟩ := g
  refine bX12_setWay_15 E (fun c => no fun g => by rw [bz] at c; exact c g.2.1) (fun c2 => ?_)
  rw [bz] at c2
  have c2 := Decidable.not_not.mp c2
  refine bX12_setWay_18 E (fun c => no fun g => g.2.2.1 c) (fun c3 => ?_)
  refine bX12_setWay_23 E m_in fun r μ1 g => ?_
  simp only [in_9] at g
  obtain ⟨rfl, rfl⟩ := g
  refine bX12_setWay_31 E (fun c4 => ?_) (fun c => no fun g => by rw [bz] at c; exact c g.2.2.2)
  rw [bz] at c4
  have c4 := Decidable.not_not.mp c4
  have e := (show oWay D p q n = _ by rw [oWay, if_pos ⟨c1, c2, c3, c4⟩])
  obtain ⟨ha, ea⟩ := inN_of c1 (by omega)
  obtain ⟨hq, eq⟩ := inN_of c2 (by omega)
  obtain ⟨hw, ew⟩ := inN_of c4 (by omega)
  have e1 := ad3 b 1 10 (ix p) (ix q)
  have e2 := ad3 b 1 10 (ix q) (ix p)
  rw [← ea, ← eq] at e1 e2
  obtain ⟨h1, h2, h3, h4, h5, h6, h7, h8⟩ := H
  refine bX12_setWay_37 E (by rw [e1]; exact vin (by omega) (by omega)) (by rw [e1]; exact vin (by omega) (by omega)) ?_
  rw [e1, ix_nI (by omega)]
  refine bX12_setWay_71 E (by rw [e2]; exact vin (by omega) (by omega)) (bX12_setWay_88 E hB (mP_ok e (h4 _ _ ha hq) ?_ ?_))
  · rw [e2, ix_nI (by omega), uR_uR, uR_s, uR_s]
    refine ⟨?_, ?_, ?_, fun p' q' hp' hq' => ?_, ?_, ?_, ?_, ?_⟩
    · simp (disch := omega) only [pk_un]; simpa [up] using h1
    · simp (disch := omega) only [pk_un]; simpa [up] using h2
    · simp (disch := omega) only [pk_un]; simpa [up] using h3
    · have hp' : p' < D 0 0 := by simpa [up] using hp'
      have hq' : q' < D 0 0 := by simpa [up] using hq'
      refine upd_at (fun e => ?_) (fun e => ?_)
      · rw [show 10 * p' + q' = 10 * ix q + ix p by omega, up_s]; exact ew
      · rw [up_i (by omega)]
        refine upd_at (fun e => ?_) (fun e => ?_)
        · rw [show 10 * p' + q' = 10 * ix p + ix q by omega, up_s]; exact ew
        · rw [up_i (by omega)]; exact h4 p' q' hp' hq'
    · intro p hp; have hp : p < D 0 0 := by simpa [up] using hp
      simp (disch := omega) only [pk_un]; simpa [up] using h5 p hp
    · intro c hc; have hc : c < D 0 1 := by simpa [up] using hc
      have := h6 c hc
      refine ⟨?_, fun k hk => ?_, ?_, ?_⟩ <;> simp (disch := omega) only [pk_un]
      · simpa [up] using this.1
      · simpa [up] using this.2.1 k hk
      · simpa [up] using this.2.2.1
      · simpa [up] using this.2.2.2
    · intro s hs; have hs : s < D 0 2 := by simpa [up] using hs
      have := h7 s hs
      refine ⟨?_, ?_, ?_, ?_⟩ <;> simp (disch := omega) only [pk_un]
      · simpa [up] using this.1
      · simpa [up] using this.2.1
      · simpa [up] using this.2.2.1
      · simpa [up] using this.2.2.2
    · intro l hl; have := h8 l hl
      refine ⟨?_, fun i hi => ?_⟩
      · simp (disch := omega) only [pk_un]; simpa [up] using this.1
      · have hi : i < D 11 l := by simpa [up] using hi
        have := (W.2.2.2.2.2.2.2 l hl).1
        simp (disch := omega) only [pk_un]; simpa [up] using (h8 l hl).2 i hi
  · rw [e2, ix_nI (by omega)]
    exact (FrA.up (by omega) (by omega)).tr (FrA.up (by omega) (by omega))
theorem m_setSeen {p q : Int32} (H : HM (μ 456) b D) (W : WF D) (hb : b < 742) : CtrS Z mX12_setSeen [mrf Z, .int (nI b), .int p, .int q] μ (mP Z μ b (oSees D p q)) := by
  refine CtrS.intro (by decide +kernel) (Nat.le_of_ble_eq_true rfl) rfl fun X E hB => ?_
  have hn := W.1
  have hC := W.2.1
  have hS := W.2.2.1
  have no : ¬ (inN p (D 0 0) ∧ inN q (D 0 0) ∧ p ≠ q) → JS Z X 37 [(0, mrf Z)] [] μ → JS Z X 37 [(0, mrf Z)] [] μ := fun _ h => h
  have no : ¬ (inN p (D 0 0) ∧ inN q (D 0 0) ∧ p ≠ q) → mP Z μ b (oSees D p q) (some (.int (-2))) μ := fun g => mP_no H (by rw [oSees, if_neg g])
  refine bX12_setSeen_0 E (m_isPlace H W (by omega)) fun r μ1 g => ?_
  obtain ⟨rfl, rfl⟩ := g
  refine bX12_setSeen_6 E (fun c => bX12_setSeen_37 E (bX12_setSeen_39 E hB (no fun g => by rw [bz] at c; exact c g.1))) (fun c1 => ?_)
  rw [bz] at c1
  have c1 := Decidable.not_not.mp c1
  refine bX12_setSeen_9 E (m_isPlace H W (by omega)) fun r μ1 g => ?_
  obtain ⟨rfl, rfl⟩ := g
  refine bX12_setSeen_15 E (fun c => bX12_setSeen_37 E (bX12_setSeen_39 E hB (no fun g => by rw [bz] at c; exact c g.2.1))) (fun c2 => ?_)
  rw [bz] at c2
  have c2 := Decidable.not_not.mp c2
  refine bX12_setSeen_18 E (fun c => bX12_setSeen_37 E (bX12_setSeen_39 E hB (no fun g => g.2.2 c))) (fun c3 => ?_)
  obtain ⟨ha, ea⟩ := inN_of c1 (by omega)
  obtain ⟨hq, eq⟩ := inN_of c2 (by omega)
  have hne : ix p ≠ ix q := fun e => c3 (by rw [ea, eq, e])
  have lt := lt10 (W.2.2.2.2.1 (ix p) (by omega)).1 hn
  have lt2 : D 2 (ix p) ||| 2 ^ ix p < 1024 := bit_or_lt (n := 10) lt (by omega)
  have H0 := H
  obtain ⟨h1, h2, h3, h4, h5, h6, h7, h8⟩ := H
  have e1 : nI b + nI 101 + p = nI (b + 101 + ix p) := by rw [← nI_add, ← nI_add, ← ea]
  have eb2 : (D 2 (ix p) ||| 2 ^ ix p).testBit (ix q) = (D 2 (ix p)).testBit (ix q) := by
    rw [bit_or_tb, decide_eq_false hne, Bool.or_false]
  refine bX12_setSeen_23 E (by rw [e1, eq]; exact m_mark (by omega) (h5 _ ha) lt2 (by omega)) fun r μ2 g => ?_
  rw [eb2] at g
  by_cases c4 : (D 2 (ix p)).testBit (ix q) = true
  · rw [if_pos c4] at g
    obtain ⟨rfl, rfl⟩ := g
    exact bX12_setSeen_34 E (bX12_setSeen_39 E hB (mP_no H0 (by rw [oSees, if_pos ⟨c1, c2, c3⟩, if_pos c4])))
  · rw [if_neg c4] at g
    obtain ⟨rfl, rfl⟩ := g
    refine bX12_setSeen_34 E (bX12_setSeen_39 E hB (mP_ok (by rw [oSees, if_pos ⟨c1, c2, c3⟩, if_neg c4]) rfl ?_ (FrA.up (by omega) (by omega))))
    rw [uR_s]
    refine ⟨?_, ?_, ?_, ?_, fun p' hp' => ?_, ?_, ?_, ?_⟩
    · simp (disch := omega) only [pk_un]; simpa [up] using h1
    · simp (disch := omega) only [pk_un]; simpa [up] using h2
    · simp (disch := omega) only [pk_un]; simpa [up] using h3
    · intro p q hp hq; have hp : p < D 0 0 := by simpa [up] using hp
      have hq : q < D 0 0 := by simpa [up] using hq
      simp (disch := omega) only [pk_un]; simpa [up] using h4 p q hp hq
    · have hp' : p' < D 0 0 := by simpa [up] using hp'
      refine upd_at (fun e => ?_) (fun e => ?_)
      · have : p' = ix p := by omega
        subst this
        rw [up_s, Nat.or_assoc, Nat.or_assoc, Nat.or_comm (2 ^ ix q)]
      · rw [up_i (by omega)]; exact h5 p' hp'
    · intro c hc; have hc : c < D 0 1 := by simpa [up] using hc
      have := h6 c hc
      refine ⟨?_, fun k hk => ?_, ?_, ?_⟩ <;> simp (disch := omega) only [pk_un]
      · simpa [up] using this.1
      · simpa [up] using this.2.1 k hk
      · simpa [up] using this.2.2.1
      · simpa [up] using this.2.2.2
    · intro s hs; have hs : s < D 0 2 := by simpa [up] using hs
      have := h7 s hs
      refine ⟨?_, ?_, ?_, ?_⟩ <;> simp (disch := omega) only [pk_un]
      · simpa [up] using this.1
      · simpa [up] using this.2.1
      · simpa [up] using this.2.2.1
      · simpa [up] using this.2.2.2
    · intro l hl; have := h8 l hl
      refine ⟨?_, fun i hi => ?_⟩
      · simp (disch := omega) only [pk_un]; simpa [up] using this.1
      · have hi : i < D 11 l := by simpa [up] using hi
        have := (W.2.2.2.2.2.2.2 l hl).1
        simp (disch := omega) only [pk_un]; simpa [up] using (h8 l hl).2 i hi
end MODEL1
