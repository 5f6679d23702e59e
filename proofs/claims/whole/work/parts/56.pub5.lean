/-! PUBLIC calls: type, clear -/
section PUB5
variable {Z : ZT} {μ : Mu} {D : DD} {im : Nat → Option DD} {tx : TX} {s : Nat → Int32} {f : Nat × Nat}
def ty (tx : TX) (w : Int64) (n : Nat) : TX := (tx.1 + n, fun i => if i < tx.1 then tx.2 i else bt w (n - 1 - (i - tx.1)))
def oType (tx : TX) (w : Int64) (n : Int32) : Int32 × TX := if nI 1 ≤ n ∧ n ≤ nI 8 then (if tx.1 + ix n ≤ 300 then (nI (tx.1 + ix n), ty tx w (ix n)) else (-4, tx)) else (-2, tx)
def TC (μ : Mu) (tx : TX) : Prop := μ 31 1 = nI tx.1 ∧ ∀ i, i < tx.1 → μ 32 i = nI (tx.2 i)
def TM (μ : Mu) (tx : TX) : Prop := μ 455 4 = nI tx.1 ∧ ∀ i, i < tx.1 → μ 459 i &&& nI 255 = nI (tx.2 i)
theorem RepC.text {μ μ' : Mu} {tx' : TX} (R : RepC μ D im tx s f) (hF : Fr [31, 32] μ μ') (h : TC μ' tx') : RepC μ' D im tx' s f := by
  obtain ⟨r1, r2, r3, r4, r5, r6, r7⟩ := R
  have e : ∀ a, a ≠ 31 → a ≠ 32 → μ' a = μ a := fun a h1 h2 => hF a (by simp; omega)
  refine ⟨r1.fr fun k hk => e _ (by omega) (by omega), r2.fr fun k hk => e _ (by omega) (by omega), by rw [e _ (by decide) (by decide)]; exact r3, h, ⟨r5.1.congr (e _ (by decide) (by decide)) (e _ (by decide) (by decide)), r5.2.congr (e _ (by decide) (by decide)) (e _ (by decide) (by decide))⟩, fun i hi => ?_, r7.fr fun a h1 h2 => e a (by omega) (by omega)⟩
  rw [e _ (by decide) (by decide)]
  refine ⟨(r6 i hi).1, fun E hE => ?_⟩
  have := (r6 i hi).2 E hE
  have e1 : el 35 i = 37 + 17 * i := rfl
  have e2 : el 36 i = 50 + 17 * i := rfl
  exact ⟨this.1.fr fun k hk => e _ (by rw [e1]; omega) (by rw [e1]; omega), this.2.fr fun k hk => e _ (by rw [e2]; omega) (by rw [e2]; omega)⟩
/-- the model's text and its length alone may have changed -/
def FrW (μ μ' : Mu) : Prop := (∀ a, a ≠ 455 → a ≠ 459 → μ' a = μ a) ∧ ∀ k, k ≠ 4 → μ' 455 k = μ 455 k
theorem RepM.text {μ μ' : Mu} {tx' : TX} (R : RepM μ D im tx s f) (hF : FrW μ μ') (h : TM μ' tx') : RepM μ' D im tx' s f := by
  obtain ⟨r1, r2, r3, r4, r5, r6⟩ := R
  have e := hF.1
  refine ⟨by rw [e _ (by decide) (by decide)]; exact r1, by rw [e _ (by decide) (by decide)]; exact r2, by rw [e _ (by decide) (by decide)]; exact r3, h, ⟨⟨r5.1.1, fun k hk => by rw [e _ (by decide) (by decide)]; exact r5.1.2 k hk⟩, ⟨r5.2.1.1, fun k hk => by rw [e _ (by decide) (by decide)]; exact r5.2.1.2 k hk⟩, by rw [hF.2 _ (by decide)]; exact r5.2.2⟩, fun i hi => ?_⟩
  rw [e _ (by decide) (by decide), e _ (by decide) (by decide)]
  exact r6 i hi
theorem FrW.y {μ μ' : Mu} (h : FrW μ μ') : FrY μ μ' := fun a ha => h.1 a (by omega) (by omega)
theorem c_addBytes {w : Int64} {n : Int32} (T : TC μ tx) (hT : tx.1 ≤ 300) : CtrS Z mX9_addBytes [rf Z 31, .long w, .int n] μ (rI fun v μ' => v = (oType tx w n).1 ∧ TC μ' (oType tx w n).2 ∧ Fr [31, 32] μ μ') := by
  refine CtrS.intro (by decide +kernel) (Nat.le_of_ble_eq_true rfl) rfl fun X E hB => ?_
  have no : ¬ (nI 1 ≤ n ∧ n ≤ nI 8) → JS Z X 11 [] [] μ := fun g => by
    have e : oType tx w n = (-2, tx) := if_neg g
    rw [e] at hB
    exact bX9_addBytes_11 E hB ⟨_, rfl, rfl, T, Fr.rf⟩
  refine bX9_addBytes_0 E (fun c => no fun g => Int32.not_lt.mpr g.1 c) (fun c => ?_)
  have c := Int32.not_lt.mp c
  refine bX9_addBytes_5 E (fun c1 => ?_) (fun c1 => no fun g => c1 g.2)
  obtain ⟨l1, l2, en⟩ := Int32.of_le c c1 (by omega) (by omega)
  generalize ix n = m at l1 l2 en
  subst en
  have ee : ix (nI m) = m := ix_nI (by omega)
  refine bX9_addBytes_14 E (fun d => ?_) (fun d => ?_)
  · rw [T.1, nI_add, nI_leE (by omega) (by omega)] at d
    have e : oType tx w (nI m) = (nI (tx.1 + m), ty tx w m) := by rw [oType, if_pos ⟨c, c1⟩, ee, if_pos d]
    rw [e] at hB
    have loop : ∀ k j μ1, j + k = m → μ1 31 1 = nI (tx.1 + j) → (∀ i, i < tx.1 + j → μ1 32 i = nI ((ty tx w m).2 i)) → Fr [31, 32] μ μ1 → JS Z X 34 [(0, rf Z 31), (1, .long w), (4, .int (nI k + (-1)))] [] μ1 := by
      intro k
      induction k with
      | zero =>
        intro j μ1 hj h1 h2 hF
        have : j = m := by omega
        subst this
        refine bX9_addBytes_34 E (fun _ => bX9_addBytes_76 E hB ⟨_, rfl, h1, ⟨h1, h2⟩, hF⟩) (fun c => absurd (by decide) c)
      | succ k ih =>
        intro j μ1 hj h1 h2 hF
        rw [nI_suc_m1]
        refine bX9_addBytes_34 E (fun c => absurd c (by rw [Int32.not_lt]; exact nI_pos' (by omega))) (fun _ => ?_)
        refine bX9_addBytes_39 E (by rw [h1]; exact vin (by omega) (by omega)) ?_
        refine bX9_addBytes_60 E (bX9_addBytes_70 E ?_)
        rw [h1, ix_nI (by omega), byte_c (by omega), lN_i]
        refine ih (j + 1) _ (by omega) ?_ (fun i hi => ?_) ((hF.tr (Fr.uR (by simp))).tr (Fr.uR (by simp)))
        · rw [uR_s, pk_us, uR_n (by decide), h1, nI_add]; congr 1
        · rw [uR_n (by decide), uR_s]
          refine upd_at (fun e => ?_) (fun e => h2 i (by omega))
          subst e
          dsimp only [ty]
          rw [if_neg (by omega)]
          congr 2; omega
    refine bX9_addBytes_29 E ?_
    rw [show nI m - nI 1 = nI m + (-1) by rw [Int32.sub_eq_add_neg]; rfl]
    refine loop m 0 μ (by omega) T.1 (fun i hi => ?_) Fr.rf
    dsimp only [ty]
    rw [if_pos (by omega)]; exact T.2 i (by omega)
  · rw [T.1, nI_add, nI_leE (by omega) (by omega)] at d
    have e : oType tx w (nI m) = (-4, tx) := by rw [oType, if_pos ⟨c, c1⟩, ee, if_neg d]
    rw [e] at hB
    exact bX9_addBytes_26 E hB ⟨_, rfl, rfl, T, Fr.rf⟩
theorem x_type {w : Int64} {n : Int32} (R : RepC μ D im tx s f) (O : OkS D im tx) : CtrS Z mX11_type [xrf Z, .long w, .int n] μ (rI fun v μ' => v = (oType tx w n).1 ∧ RepC μ' D im (oType tx w n).2 (cnt s (oType tx w n).1) f ∧ FrX μ μ') := by
  refine CtrS.intro (by decide +kernel) (Nat.le_of_ble_eq_true rfl) rfl fun X E hB => ?_
  refine bX11_type_0 E (c_addBytes R.2.2.2.1 O.2.2.1) fun v μ1 g => ?_
  obtain ⟨rfl, g1, g2⟩ := g
  have R1 := R.text g2 g1
  refine bX11_type_10 E (c_counted R1.2.2.1) fun v μ2 h => ?_
  obtain ⟨rfl, h1, h2⟩ := h
  have := xstep R1 R1.1 Fr.rf h1 h2 fun _ _ => rfl
  exact bX11_type_13 E hB ⟨_, rfl, rfl, this.1, fun a ha => (this.2 a ha).trans (g2 a (by simp; omega))⟩
theorem x_clear (R : RepC μ D im tx s f) : CtrS Z mX11_clear [xrf Z] μ (rI fun v μ' => v = nI tx.1 ∧ RepC μ' D im (0, tx.2) s f ∧ FrX μ μ') := by
  refine CtrS.intro (by decide +kernel) (Nat.le_of_ble_eq_true rfl) rfl fun X E hB => ?_
  have : CtrS Z mX9_empty [rf Z 31] μ (rI fun v μ' => v = nI tx.1 ∧ TC μ' (0, tx.2) ∧ Fr [31, 32] μ μ') := by
    refine CtrS.intro (by decide +kernel) (Nat.le_of_ble_eq_true rfl) rfl fun X E hB => ?_
    exact bX9_empty_0 E (bX9_empty_10 E hB ⟨_, rfl, R.2.2.2.1.1, ⟨by rw [uR_s, pk_us], fun i hi => absurd hi (Nat.not_lt_zero i)⟩, Fr.uR (by simp)⟩)
  refine bX11_clear_0 E this fun v μ1 g => ?_
  obtain ⟨rfl, g1, g2⟩ := g
  exact bX11_clear_7 E hB ⟨_, rfl, rfl, R.text g2 g1, fun a ha => g2 a (by simp; omega)⟩
theorem y_clear (R : RepM μ D im tx s f) : CtrS Z mX12_clear [mrf Z] μ (rI fun v μ' => v = nI tx.1 ∧ RepM μ' D im (0, tx.2) s f ∧ FrY μ μ') := by
  refine CtrS.intro (by decide +kernel) (Nat.le_of_ble_eq_true rfl) rfl fun X E hB => ?_
  have F : FrW μ (uR μ 455 (upd (μ 455) 4 (nI 0))) := ⟨fun a h1 h2 => uR_n h1, fun k hk => by rw [uR_s, pk_un hk]⟩
  refine bX12_clear_0 E (bX12_clear_10 E hB ⟨_, rfl, R.2.2.2.1.1, R.text F ⟨by rw [uR_s, pk_us], fun i hi => absurd hi (Nat.not_lt_zero i)⟩, F.y⟩)
theorem FrW.rf : FrW μ μ := ⟨fun _ _ _ => rfl, fun _ _ => rfl⟩
theorem FrW.tr {μ1 μ2 : Mu} (h1 : FrW μ μ1) (h2 : FrW μ1 μ2) : FrW μ μ2 := ⟨fun a ha hb => (h2.1 a ha hb).trans (h1.1 a ha hb), fun k hk => (h2.2 k hk).trans (h1.2 k hk)⟩
theorem FrW.at {x : Int32} : FrW μ (uR μ 455 (upd (μ 455) 4 x)) := ⟨fun a h1 h2 => uR_n h1, fun k hk => by rw [uR_s, pk_un hk]⟩
theorem FrW.byt {g : Nat → Int32} : FrW μ (uR μ 459 g) := ⟨fun a h1 h2 => uR_n h2, fun k hk => by rw [uR_n (by decide)]⟩
theorem y_type {w : Int64} {n : Int32} (R : RepM μ D im tx s f) (O : OkS D im tx) : CtrS Z mX12_type [mrf Z, .long w, .int n] μ (rI fun v μ' => v = (oType tx w n).1 ∧ RepM μ' D im (oType tx w n).2 (cnt s (oType tx w n).1) f ∧ FrY μ μ') := by
  refine CtrS.intro (by decide +kernel) (Nat.le_of_ble_eq_true rfl) rfl fun X E hB => ?_
  have T : TM μ tx := R.2.2.2.1
  have hT := O.2.2.1
  refine bX12_type_0 E m_in fun v μ1 g => ?_
  obtain ⟨rfl, rfl⟩ := g
  refine bX12_type_7 E (fun c0 => ?_) (fun c => ?_)
  · rw [bz] at c0
    have c0 := Decidable.not_not.mp c0
    obtain ⟨l1, l2, en⟩ := Int32.of_le c0.1 c0.2 (by omega) (by omega)
    generalize ix n = m at l1 l2 en
    subst en
    have ee : ix (nI m) = m := ix_nI (by omega)
    refine bX12_type_17 E (fun d => ?_) (fun d => ?_)
    · rw [T.1, nI_add, nI_leE (by omega) (by omega)] at d
      have e : oType tx w (nI m) = (nI (tx.1 + m), ty tx w m) := by rw [oType, if_pos c0, ee, if_pos d]
      rw [e, show cnt s (nI (tx.1 + m), ty tx w m).1 = s from cnt_nI (by omega)] at hB
      have loop : ∀ k j μ2, j + k = m → μ2 455 4 = nI (tx.1 + j) → (∀ i, i < tx.1 + j → μ2 459 i &&& nI 255 = nI ((ty tx w m).2 i)) → FrW μ1 μ2 → JS Z X 41 [(0, mrf Z), (1, .long w), (4, .int (nI k + (-1)))] [] μ2 := by
        intro k
        induction k with
        | zero =>
          intro j μ2 hj h1 h2 hF
          have : j = m := by omega
          subst this
          refine bX12_type_41 E (fun _ => bX12_type_84 E hB ⟨_, rfl, h1, R.text hF ⟨h1, h2⟩, hF.y⟩) (fun c => absurd (by decide) c)
        | succ k ih =>
          intro j μ2 hj h1 h2 hF
          rw [nI_suc_m1]
          refine bX12_type_41 E (fun c => absurd c (by rw [Int32.not_lt]; exact nI_pos' (by omega))) (fun _ => ?_)
          refine bX12_type_46 E (by rw [h1]; exact vin (by omega) (by omega)) ?_
          refine bX12_type_68 E (bX12_type_78 E ?_)
          rw [h1, ix_nI (by omega), byte_m (by omega), lN_i]
          refine ih (j + 1) _ (by omega) ?_ (fun i hi => ?_) ((hF.tr FrW.byt).tr FrW.at)
          · rw [uR_s, pk_us, uR_n (by decide), h1, nI_add]; congr 1
          · rw [uR_n (by decide), uR_s]
            by_cases e : i = tx.1 + j
            · subst e
              rw [pk_us, byte_255 bt_lt]
              dsimp only [ty]
              rw [if_neg (by omega)]
              congr 2; omega
            · rw [pk_un e]; exact h2 i (by omega)
      refine bX12_type_36 E ?_
      rw [show nI m - nI 1 = nI m + (-1) by rw [Int32.sub_eq_add_neg]; rfl]
      refine loop m 0 _ (by omega) T.1 (fun i hi => ?_) FrW.rf
      dsimp only [ty]
      rw [if_pos (by omega)]; exact T.2 i (by omega)
    · rw [T.1, nI_add, nI_leE (by omega) (by omega)] at d
      have e : oType tx w (nI m) = (-4, tx) := by rw [oType, if_pos c0, ee, if_neg d]
      rw [e] at hB
      refine bX12_type_29 E (m_refuse (s := s) R.2.2.1) fun v μ2 h => ?_
      obtain ⟨rfl, h1, h2⟩ := h
      exact bX12_type_35 E hB ⟨_, rfl, rfl, ystay R O h1 h2⟩
  · have e : oType tx w n = (-2, tx) := if_neg fun g => by rw [bz] at c; exact c g
    rw [e] at hB
    refine bX12_type_10 E (m_refuse (s := s) R.2.2.1) fun v μ2 h => ?_
    obtain ⟨rfl, h1, h2⟩ := h
    exact bX12_type_16 E hB ⟨_, rfl, rfl, ystay R O h1 h2⟩
end PUB5
