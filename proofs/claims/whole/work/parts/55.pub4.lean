/-! bytes: as the class takes them out of a word, as the model does -/
def bt (w : Int64) (k : Nat) : Nat := w.toBitVec.toNat / 2 ^ (8 * k) % 256
theorem bt_lt {w : Int64} {k : Nat} : bt w k < 256 := Nat.mod_lt _ (by decide)
theorem sh8a {k : Nat} (h : k < 8) : (((nI 8 * nI k).toInt64 &&& 63).toBitVec.smod 64).toNat = 8 * k := (show ∀ k, k < 8 → (((nI 8 * nI k).toInt64 &&& 63).toBitVec.smod 64).toNat = 8 * k by decide) k h
theorem sh8b {k : Nat} (h : k < 8) : (((nI 8 * nI k).toInt64.toUInt64 &&& Int64.toUInt64 63).toBitVec % 64).toNat = 8 * k := (show ∀ k, k < 8 → (((nI 8 * nI k).toInt64.toUInt64 &&& Int64.toUInt64 63).toBitVec % 64).toNat = 8 * k by decide) k h
theorem tb255 {i : Nat} : (255 : Nat).testBit i = decide (i < 8) := by
  rw [show (255 : Nat) = 2 ^ 8 - 1 from rfl, Nat.testBit_two_pow_sub_one]
theorem bt_tb {w : Int64} {k i : Nat} : (bt w k).testBit i = (decide (i < 8) && w.toBitVec.toNat.testBit (8 * k + i)) := by
  rw [bt, show (256 : Nat) = 2 ^ 8 from rfl, Nat.testBit_mod_two_pow, Nat.testBit_div_two_pow, Nat.add_comm i]
theorem byte_m {w : Int64} {k : Nat} (h : k < 8) : (w >>> ((nI 8 * nI k).toInt64 &&& 63)) &&& lN 255 = lN (bt w k) := by
  apply Int64.toBitVec_inj.mp
  rw [Int64.toBitVec_and, Int64.toBitVec_shiftRight, BitVec.sshiftRight_eq', sh8a h]
  apply BitVec.eq_of_getLsbD_eq
  intro i hi
  rw [BitVec.getLsbD_and, BitVec.getLsbD_sshiftRight]
  rw [show (lN 255).toBitVec = BitVec.ofNat 64 255 from rfl, show (lN (bt w k)).toBitVec = BitVec.ofNat 64 (bt w k) from rfl]
  rw [BitVec.getLsbD_ofNat, BitVec.getLsbD_ofNat, tb255, bt_tb]
  by_cases e : i < 8
  · rw [if_pos (by omega)]; simp [e, hi, show ¬ 64 ≤ i by omega, BitVec.getLsbD]
  · simp [e]
theorem byte_c {w : Int64} {k : Nat} (h : k < 8) : ((w.toUInt64 >>> ((nI 8 * nI k).toInt64.toUInt64 &&& Int64.toUInt64 63)).toInt64) &&& lN 255 = lN (bt w k) := by
  apply Int64.toBitVec_inj.mp
  rw [Int64.toBitVec_and]
  show (w.toUInt64 >>> ((nI 8 * nI k).toInt64.toUInt64 &&& Int64.toUInt64 63)).toBitVec &&& _ = _
  rw [UInt64.toBitVec_shiftRight, BitVec.ushiftRight_eq', sh8b h]
  apply BitVec.eq_of_getLsbD_eq
  intro i hi
  rw [BitVec.getLsbD_and, BitVec.getLsbD_ushiftRight]
  rw [show (lN 255).toBitVec = BitVec.ofNat 64 255 from rfl, show (lN (bt w k)).toBitVec = BitVec.ofNat 64 (bt w k) from rfl]
  rw [BitVec.getLsbD_ofNat, BitVec.getLsbD_ofNat, tb255, bt_tb]
  by_cases e : i < 8
  · simp [e, hi, BitVec.getLsbD]
  · simp [e]
theorem byte_255 {n : Nat} (h : n < 256) : vp_nar .byte ((nI n).toInt8.toInt32) &&& nI 255 = nI n := by
  rw [vp_nar_byte]
  exact (show ∀ n, n < 256 → (nI n).toInt8.toInt32.toInt8.toInt32 &&& nI 255 = nI n by decide +kernel) n h
section PUB4
variable {Z : ZT} {μ : Mu} {D : DD} {im : Nat → Option DD} {tx : TX} {s : Nat → Int32} {f : Nat × Nat}
/-! sign and limb of THE FRACTION -/
def oSign (f : Nat × Nat) (s : Nat → Int32) (a : Int32) : Int32 × (Nat → Int32) := if inN a 3 then (if a = nI 0 then (if f.1 = 0 then nI 0 else nI 1) else nI (ln (if a = nI 1 then f.1 else f.2) 24), s) else (-2, cnt s (-2))
theorem x_sign {a : Int32} (R : RepC μ D im tx s f) : CtrS Z mX11_sign [xrf Z, .int a] μ (rI fun v μ' => v = (oSign f s a).1 ∧ RepC μ' D im tx (oSign f s a).2 f ∧ FrX μ μ') := by
  refine CtrS.intro (by decide +kernel) (Nat.le_of_ble_eq_true rfl) rfl fun X E hB => ?_
  obtain ⟨⟨a1, a2, a3, a4⟩, ⟨b1, b2, b3, b4⟩⟩ := R.2.2.2.2.1
  have w := ln_le f.1 24
  have key : inN a 3 → CtrS Z mX2_signOrSize [rf Z 446, .int a] μ (rI fun v μ' => v = (oSign f s a).1 ∧ μ' = μ) := fun g => by
    refine CtrS.intro (by decide +kernel) (Nat.le_of_ble_eq_true rfl) rfl fun X E hB => ?_
    have e : oSign f s a = _ := if_pos g
    rw [e] at hB
    refine bX2_signOrSize_0 E (fun c => ?_) (fun c => ?_)
    · rw [if_neg (show ¬ a = nI 0 from c)] at hB
      refine bX2_signOrSize_20 E (fun d => ?_) (fun d => ?_)
      · rw [if_neg (show ¬ a = nI 1 from d)] at hB
        exact bX2_signOrSize_35 E (bX2_signOrSize_42 E hB ⟨_, rfl, b4, rfl⟩)
      · rw [if_pos (show a = nI 1 from d)] at hB
        exact bX2_signOrSize_25 E (bX2_signOrSize_42 E hB ⟨_, rfl, a4, rfl⟩)
    · rw [if_pos (show a = nI 0 from c)] at hB
      have lp := ln_pos a2
      refine bX2_signOrSize_4 E (fun d => ?_) (fun d => ?_)
      · rw [a4, nI_le0 (by omega)] at d
        exact bX2_signOrSize_18 E (bX2_signOrSize_19 E hB ⟨_, rfl, by rw [if_pos (by omega)], rfl⟩)
      · rw [a4, nI_le0 (by omega)] at d
        exact bX2_signOrSize_14 E (bX2_signOrSize_19 E hB ⟨_, rfl, by rw [if_neg (by omega)], rfl⟩)
  refine bX11_sign_0 E (c_within (n := 3) (by decide)) fun v μ1 g => ?_
  obtain ⟨rfl, rfl⟩ := g
  refine bX11_sign_5 E (fun c => ?_) (fun c1 => ?_)
  · have e : oSign f s a = (-2, cnt s (-2)) := if_neg fun g => by rw [bz] at c; exact c g
    rw [e] at hB
    refine bX11_sign_19 E (c_counted (s := s) R.2.2.1) fun v μ2 h => ?_
    obtain ⟨rfl, h1, h2⟩ := h
    exact bX11_sign_25 E hB ⟨_, rfl, rfl, xstep (μ1 := _) R R.1 Fr.rf h1 h2 fun _ _ => rfl⟩
  · rw [bz] at c1
    have c1 := Decidable.not_not.mp c1
    have e : (oSign f s a).2 = s := by rw [oSign, if_pos c1]
    refine bX11_sign_8 E (key c1) fun v μ2 h => ?_
    obtain ⟨rfl, rfl⟩ := h
    exact bX11_sign_16 E (bX11_sign_25 E hB ⟨_, rfl, rfl, by rw [e]; exact R, fun _ _ => rfl⟩)
theorem y_sign {a : Int32} (R : RepM μ D im tx s f) (O : OkS D im tx) (hf : f.1 < 1073741824 ^ 24 ∧ f.2 < 1073741824 ^ 24) : CtrS Z mX12_sign [mrf Z, .int a] μ (rI fun v μ' => v = (oSign f s a).1 ∧ RepM μ' D im tx (oSign f s a).2 f ∧ FrY μ μ') := by
  refine CtrS.intro (by decide +kernel) (Nat.le_of_ble_eq_true rfl) rfl fun X E hB => ?_
  obtain ⟨b0, b1, b2⟩ := R.2.2.2.2.1
  refine bX12_sign_0 E m_in fun v μ1 g => ?_
  simp only [show (nI 0 ≤ a ∧ a ≤ nI 2) = inN a 3 from in_N (n := 3) (by decide)] at g
  obtain ⟨rfl, rfl⟩ := g
  refine bX12_sign_6 E (fun c => ?_) (fun c1 => ?_)
  · have e : oSign f s a = (-2, cnt s (-2)) := if_neg fun g => by rw [bz] at c; exact c g
    rw [e] at hB
    refine bX12_sign_37 E (m_refuse (s := s) R.2.2.1) fun v μ2 h => ?_
    obtain ⟨rfl, h1, h2⟩ := h
    exact bX12_sign_43 E hB ⟨_, rfl, rfl, ystay R O h1 h2⟩
  · rw [bz] at c1
    have c1 := Decidable.not_not.mp c1
    have e : oSign f s a = _ := if_pos c1
    rw [e] at hB
    refine bX12_sign_9 E (fun c => ?_) (fun c => ?_)
    · rw [if_neg (show ¬ a = nI 0 from c)] at hB
      refine bX12_sign_20 E (fun d => ?_) (fun d => ?_)
      · rw [if_neg (show ¬ a = nI 1 from d)] at hB
        refine bX12_sign_30 E (bX12_sign_31 E (m_limbsOf b1 (by decide)) fun v μ2 h => ?_)
        obtain ⟨rfl, rfl⟩ := h
        exact bX12_sign_34 E (bX12_sign_43 E hB ⟨_, rfl, by rw [ln_top 27 (by decide) hf.2], R, fun _ _ => rfl⟩)
      · rw [if_pos (show a = nI 1 from d)] at hB
        refine bX12_sign_26 E (bX12_sign_31 E (m_limbsOf b0 (by decide)) fun v μ2 h => ?_)
        obtain ⟨rfl, rfl⟩ := h
        exact bX12_sign_34 E (bX12_sign_43 E hB ⟨_, rfl, by rw [ln_top 27 (by decide) hf.1], R, fun _ _ => rfl⟩)
    · rw [if_pos (show a = nI 0 from c)] at hB
      refine bX12_sign_13 E (bX12_sign_43 E hB ⟨_, rfl, ?_, R, fun _ _ => rfl⟩)
      rw [b2]
      split <;> rfl
def oLimb (f : Nat × Nat) (s : Nat → Int32) (a b : Int32) : Int32 × (Nat → Int32) := if inN a 2 ∧ nI 0 ≤ b then (if b < nI (ln (if a = nI 0 then f.1 else f.2) 24) then nI (dg (if a = nI 0 then f.1 else f.2) (ix b)) else -1, s) else (-2, cnt s (-2))
theorem x_limb {a b : Int32} (R : RepC μ D im tx s f) : CtrS Z mX11_limb [xrf Z, .int a, .int b] μ (rI fun v μ' => v = (oLimb f s a b).1 ∧ RepC μ' D im tx (oLimb f s a b).2 f ∧ FrX μ μ') := by
  refine CtrS.intro (by decide +kernel) (Nat.le_of_ble_eq_true rfl) rfl fun X E hB => ?_
  have no : ¬ (inN a 2 ∧ nI 0 ≤ b) → JS Z X 12 [(0, xrf Z)] [] μ := fun g => by
    have e : oLimb f s a b = (-2, cnt s (-2)) := if_neg g
    rw [e] at hB
    refine bX11_limb_12 E (c_counted (s := s) R.2.2.1) fun v μ2 h => ?_
    obtain ⟨rfl, h1, h2⟩ := h
    exact bX11_limb_18 E hB ⟨_, rfl, rfl, xstep (μ1 := _) R R.1 Fr.rf h1 h2 fun _ _ => rfl⟩
  refine bX11_limb_0 E (c_within (n := 2) (by decide)) fun v μ1 g => ?_
  obtain ⟨rfl, rfl⟩ := g
  refine bX11_limb_5 E (fun c => no fun g => by rw [bz] at c; exact c g.1) (fun c1 => ?_)
  rw [bz] at c1
  have c1 := Decidable.not_not.mp c1
  refine bX11_limb_8 E (fun c2 => ?_) (fun c => no fun g => c g.2)
  have e : oLimb f s a b = _ := if_pos ⟨c1, c2⟩
  rw [e] at hB
  have go : ∀ o v, BigV μ1 o v → v = (if a = nI 0 then f.1 else f.2) → JS Z X 40 [(2, .int b)] [rf Z o] μ1 := fun o v hv ev => by
    obtain ⟨v1, v2, v3, v4⟩ := hv
    have w := ln_le v 24
    rw [← ev] at hB
    refine bX11_limb_40 E v1 (fun d => ?_) (fun d => ?_)
    · rw [v4] at d
      rw [if_neg (Int32.not_lt.mpr d)] at hB
      exact bX11_limb_58 E (bX11_limb_59 E hB ⟨_, rfl, rfl, R, fun _ _ => rfl⟩)
    · rw [v4, Int32.not_le] at d
      rw [if_pos d] at hB
      obtain ⟨i1, i2⟩ := inN_of ⟨c2, d⟩ (by omega)
      exact bX11_limb_49 E v1 (by rw [i2]; exact vin (by omega) (by omega)) (bX11_limb_59 E hB ⟨_, rfl, v3 _ (by omega), R, fun _ _ => rfl⟩)
  refine bX11_limb_19 E (fun c => ?_) (fun c => ?_)
  · exact bX11_limb_33 E (go _ _ R.2.2.2.2.1.2 (by rw [if_neg (show ¬ a = nI 0 from c)]))
  · exact bX11_limb_23 E (go _ _ R.2.2.2.2.1.1 (by rw [if_pos (show a = nI 0 from c)]))
theorem y_limb {a b : Int32} (R : RepM μ D im tx s f) (O : OkS D im tx) (hf : f.1 < 1073741824 ^ 24 ∧ f.2 < 1073741824 ^ 24) : CtrS Z mX12_limb [mrf Z, .int a, .int b] μ (rI fun v μ' => v = (oLimb f s a b).1 ∧ RepM μ' D im tx (oLimb f s a b).2 f ∧ FrY μ μ') := by
  refine CtrS.intro (by decide +kernel) (Nat.le_of_ble_eq_true rfl) rfl fun X E hB => ?_
  have no : ¬ (inN a 2 ∧ nI 0 ≤ b) → JS Z X 13 [(0, mrf Z)] [] μ := fun g => by
    have e : oLimb f s a b = (-2, cnt s (-2)) := if_neg g
    rw [e] at hB
    refine bX12_limb_13 E (m_refuse (s := s) R.2.2.1) fun v μ2 h => ?_
    obtain ⟨rfl, h1, h2⟩ := h
    exact bX12_limb_19 E hB ⟨_, rfl, rfl, ystay R O h1 h2⟩
  refine bX12_limb_0 E m_in fun v μ1 g => ?_
  simp only [in_1] at g
  obtain ⟨rfl, rfl⟩ := g
  refine bX12_limb_6 E (fun c => no fun g => by rw [bz] at c; exact c g.1) (fun c1 => ?_)
  rw [bz] at c1
  have c1 := Decidable.not_not.mp c1
  refine bX12_limb_9 E (fun c2 => ?_) (fun c => no fun g => c g.2)
  have e : oLimb f s a b = _ := if_pos ⟨c1, c2⟩
  rw [e] at hB
  obtain ⟨a1, a2⟩ := inN_of c1 (by decide)
  obtain ⟨b0, b1, b2⟩ := R.2.2.2.2.1
  have hr : RegV μ1 (ix a) (if a = nI 0 then f.1 else f.2) := by
    rcases (show ix a = 0 ∨ ix a = 1 by omega) with e | e <;> rw [e] at a2 ⊢
    · rw [if_pos a2]; exact b0
    · rw [if_neg (by rw [a2]; decide)]; exact b1
  have hl : (if a = nI 0 then f.1 else f.2) < 1073741824 ^ 24 := by split; exact hf.1; exact hf.2
  generalize (if a = nI 0 then f.1 else f.2) = v at hr hl hB
  have w := ln_le v 24
  refine bX12_limb_20 E (by rw [a2]; exact m_limbsOf hr (by omega)) fun v' μ2 h => ?_
  obtain ⟨rfl, rfl⟩ := h
  rw [ln_top 27 (by decide) hl]
  refine bX12_limb_26 E (fun d => ?_) (fun d => ?_)
  · rw [if_neg (Int32.not_lt.mpr d)] at hB
    exact bX12_limb_43 E (bX12_limb_44 E hB ⟨_, rfl, rfl, R, fun _ _ => rfl⟩)
  · rw [Int32.not_le] at d
    rw [if_pos d] at hB
    obtain ⟨i1, i2⟩ := inN_of ⟨c2, d⟩ (by omega)
    have e2 : nI 27 * a + b = nI (27 * ix a + ix b) := by rw [← nI_add, ← nI_mul, ← a2, ← i2]
    refine bX12_limb_29 E (by rw [e2]; exact vin (by omega) (by omega)) (bX12_limb_44 E hB ⟨_, rfl, ?_, R, fun _ _ => rfl⟩)
    rw [e2, ix_nI (by omega)]
    exact hr.2 _ (by omega)
end PUB4
