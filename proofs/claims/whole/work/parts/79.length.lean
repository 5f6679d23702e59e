/-! LENGTH: the reference's means; the public call -/
theorem mil_pow (k : Nat) : 1000000 ^ k = 10 ^ (6 * k) := by rw [Nat.pow_mul]
theorem rs_le {ms : Nat} (h : ms ≤ 1000000) : ∀ k, k ≤ 6 → rs ms k ≤ k * 10 ^ 30
  | 0, _ => Nat.zero_le _
  | k + 1, hk => by
    have g := rs_le h k (by omega)
    have p := Nat.mul_le_mul_right (1000000 ^ (5 - k)) (pow_six h k)
    rw [← Nat.pow_add, show k + (5 - k) = 5 by omega, show (1000000 : Nat) ^ 5 = 10 ^ 30 by decide] at p
    rw [rs, Nat.add_mul, Nat.one_mul]
    exact Nat.add_le_add g p
theorem rs_h {D : DD} (WW : WN D) (ms : Nat) : rs ms (D 13 0) = rd ms (D 13 0 - 1) * 1000000 ^ (6 - D 13 0) := by
  have h1 := WW.1.1
  have h2 := WW.1.2.1
  have := rs_rd ms (D 13 0 - 1) (by omega)
  rw [show D 13 0 - 1 + 1 = D 13 0 by omega, show 5 - (D 13 0 - 1) = 6 - D 13 0 by omega] at this
  exact this
theorem low_h {D : DD} (WW : WN D) (v : Nat) : lowF (v * 1000000 ^ (6 - D 13 0)) 30 = lowF v (6 * (D 13 0 - 1)) := by
  have h1 := WW.1.1
  have h2 := WW.1.2.1
  have := lowF_up v (6 * (D 13 0 - 1)) (6 * (6 - D 13 0))
  rw [← mil_pow, show 6 * (D 13 0 - 1) + 6 * (6 - D 13 0) = 30 by omega] at this
  exact this
theorem mil_h {D : DD} (WW : WN D) : 1000000 ^ (D 13 0 - 1) * 1000000 ^ (6 - D 13 0) = 1000000 ^ 5 := by
  have h1 := WW.1.1
  have h2 := WW.1.2.1
  rw [← Nat.pow_add]; congr 1; omega
section LENGTH
variable {Z : ZT} {μ : Mu} {D : DD} {im : Nat → Option DD} {tx : TX} {s : Nat → Int32} {f : Nat × Nat}
theorem m_meanTo {r ms h : Nat} (hr : r < 281) (h2 : r ≠ 2) (hh : h ≤ 6) (hm : ms ≤ 1000000) : CtrS Z mX12_meanTo [mrf Z, .int (nI r), .int (nI ms), .int (nI h)] μ (rV fun μ' => RegV μ' r (rs ms h) ∧ FrG [r, 2] μ μ') := by
  refine CtrS.intro (by decide +kernel) (Nat.le_of_ble_eq_true rfl) rfl fun X E hB => ?_
  have loop : ∀ k m μ1, m + k = h → RegV μ1 r (rs ms m) → FrG [r, 2] μ μ1 → JS Z X 9 [(0, mrf Z), (1, .int (nI r)), (2, .int (nI ms)), (3, .int (nI h)), (4, .int (nI m))] [] μ1 := by
    intro k
    induction k with
    | zero =>
      intro m μ1 hmk h1 hF
      have : m = h := hmk
      subst this
      exact bX12_meanTo_9 E (fun _ => bX12_meanTo_64 E hB ⟨rfl, h1, hF⟩) (fun c => absurd (by rw [nI_leE (by omega) (by omega)]; omega) c)
    | succ k ih =>
      intro m μ1 hmk h1 hF
      refine bX12_meanTo_9 E (fun c => absurd c (by rw [nI_leE (by omega) (by omega)]; omega)) (fun _ => ?_)
      refine bX12_meanTo_15 E (m_set (r := 2) (by decide) (by decide)) fun μ2 g => bX12_meanTo_21 E ?_
      have pm := pow_six hm m
      have pl := Nat.pow_le_pow_right (show 0 < 1000000 by decide) (show m ≤ 5 by omega)
      have inner : ∀ j i μ3, i + j = m → RegV μ3 2 (ms ^ i) → FrG [2] μ1 μ3 → JS Z X 24 [(0, mrf Z), (1, .int (nI r)), (2, .int (nI ms)), (3, .int (nI h)), (4, .int (nI m)), (5, .int (nI i))] [] μ3 := by
        intro j
        induction j with
        | zero =>
          intro i μ3 hi k1 k2
          have : i = m := hi
          subst this
          refine bX12_meanTo_24 E (fun _ => ?_) (fun c => absurd (by rw [nI_leE (by omega) (by omega)]; omega) c)
          have p := Nat.mul_le_mul_right (1000000 ^ (5 - i)) pm
          rw [← Nat.pow_add, show i + (5 - i) = 5 by omega] at p
          refine bX12_meanTo_43 E (by rw [nI_sub (by omega)]; exact m_millions k1 (by decide) (by omega) (Nat.lt_of_le_of_lt p (by decide))) fun μ4 k => ?_
          have h4 := (h1.fr k2 (by simpa using h2)).fr k.2 (by simpa using h2)
          have b := rs_le hm i (by omega)
          refine bX12_meanTo_52 E (m_add h4 k.1 hr (by decide) h2 (Nat.lt_of_le_of_lt (Nat.add_le_add (Nat.le_trans b (Nat.mul_le_mul_right _ (show i ≤ 6 by omega))) p) (by decide))) fun μ5 k5 => bX12_meanTo_58 E ?_
          rw [nI_add]
          exact ih (i + 1) μ5 (by omega) k5.1 (((hF.tr (k2.mo (by simp))).tr (k.2.mo (by simp))).tr (k5.2.mo (by simp)))
        | succ j ihj =>
          intro i μ3 hi k1 k2
          have p := pow_six hm (i + 1)
          have pl2 := Nat.pow_le_pow_right (show 0 < 1000000 by decide) (show i + 1 ≤ 5 by omega)
          refine bX12_meanTo_24 E (fun c => absurd c (by rw [nI_leE (by omega) (by omega)]; omega)) (fun _ => ?_)
          refine bX12_meanTo_31 E (m_times k1 (by decide) (by omega) (by rw [show ms ^ i * ms = ms ^ (i + 1) from rfl]; exact Nat.lt_of_le_of_lt (Nat.le_trans p pl2) (by decide))) fun μ4 k => bX12_meanTo_37 E ?_
          rw [nI_add]
          exact ihj (i + 1) μ4 (by omega) k.1 (k2.tr k.2)
      exact inner m 0 μ2 (by omega) g.1 g.2
  exact bX12_meanTo_0 E (m_set hr (by decide)) fun μ1 g => bX12_meanTo_6 E (loop h 0 μ1 (by omega) g.1 (g.2.mo (by simp)))
theorem m_leastOf {l n i : Nat} {q : Nat → Nat} (H : HM (μ 456) 0 D) (N : NM (μ 456) 0 D) (W : WF D) (hl : l < 2) (Q : QO D q n) (h3 : D 13 3 < D 0 0) (T : RowQ μ q n) (Y : HY μ D q n) (hi : i < n) : CtrS Z mX12_leastOf [mrf Z, .int (nI l), .int (nI i)] μ (rI fun v μ' => v = nI (hLs D l q i) ∧ μ' = μ) := by
  refine CtrS.intro (by decide +kernel) (Nat.le_of_ble_eq_true rfl) rfl fun X E hB => ?_
  obtain ⟨k1, k2, k3, k4⟩ := m_kind H W Q T hi
  have n6 := Q.1
  have at1 := hAt_lt W Q h3 hi
  have hn := W.1
  have h0 : μ 456 201 = nI (D 13 0) := N.2.1 0 (by omega)
  have ml := hMs_le (D := D) (l := l) (q := q) (i := i)
  refine bX12_leastOf_0 E k1 k2 k1 (by rw [k3, ix_nI (by omega), (Y.2 i hi).1]; exact m_missesAt H W hl k4 (by omega)) fun v μ1 g => ?_
  obtain ⟨rfl, rfl⟩ := g
  have e : miss D (l + 1) (D 8 (q i)) (hAt D q i) 6 = hMs D l q i := rfl
  rw [e]
  refine bX12_leastOf_26 E (fun c => ?_) (fun c => ?_)
  · rw [nI_leE (by omega) (by omega)] at c
    refine bX12_leastOf_35 E (vin (by omega) (by omega)) (bX12_leastOf_43 E hB ⟨_, rfl, ?_, rfl⟩)
    rw [ix_nI (by omega), h0, hLs, if_neg (by omega)]
  · rw [nI_leE (by omega) (by omega)] at c
    exact bX12_leastOf_31 E (bX12_leastOf_43 E hB ⟨_, rfl, by rw [hLs, if_pos (by omega)], rfl⟩)
/-- sums to the 30 -/
def rsS (D : DD) (l : Nat) (q : Nat → Nat) : Nat → Nat
  | 0 => 0
  | i + 1 => rsS D l q i + rs (hMs D l q i) (D 13 0)
theorem rsS_eq (WW : WN D) {l : Nat} {q : Nat → Nat} : ∀ i, rsS D l q i = rdS D l q i * 1000000 ^ (6 - D 13 0)
  | 0 => (Nat.zero_mul _).symm
  | i + 1 => by rw [rsS, rsS_eq WW i, rs_h WW, rdS, Nat.add_mul]
theorem rsS_le (WW : WN D) {l : Nat} {q : Nat → Nat} : ∀ i, rsS D l q i ≤ i * (6 * 10 ^ 30)
  | 0 => Nat.zero_le _
  | i + 1 => by
    rw [rsS, Nat.add_mul, Nat.one_mul]
    exact Nat.add_le_add (rsS_le WW i) (Nat.le_trans (rs_le hMs_le _ WW.1.2.1) (Nat.mul_le_mul_right _ WW.1.2.1))
theorem len_eq (WW : WN D) {l n : Nat} {q : Nat → Nat} : hWk D q n n * 1000000 ^ 5 + rsS D l q n = lenN D l q n * 1000000 ^ (6 - D 13 0) := by
  rw [rsS_eq WW, lenN, Nat.add_mul, ← mil_h WW, Nat.add_comm]
  congr 1
  rw [← Nat.mul_assoc, Nat.mul_comm (hWk D q n n), Nat.mul_assoc, Nat.mul_comm (hWk D q n n), ← Nat.mul_assoc]
theorem m_lengthTo {r l n : Nat} {q : Nat → Nat} (H : HM (μ 456) 0 D) (N : NM (μ 456) 0 D) (W : WF D) (WW : WN D) (hl : l < 2) (Q : QO D q n) (h3 : D 13 3 < D 0 0) (T : RowQ μ q n) (Y : HY μ D q n) (hr : r < 281) (r2 : r ≠ 2) (r3 : r ≠ 3) : CtrS Z mX12_lengthTo [mrf Z, .int (nI r), .int (nI l)] μ (rV fun μ' => RegV μ' r (lenN D l q n * 1000000 ^ (6 - D 13 0)) ∧ FrG [r, 2, 3] μ μ') := by
  refine CtrS.intro (by decide +kernel) (Nat.le_of_ble_eq_true rfl) rfl fun X E hB => ?_
  have n6 := Q.1
  have hn := W.1
  have wl := hWk_le (D := D) (q := q) (n := n) n
  have bb : ∀ i, i ≤ 6 → hWk D q n n * 1000000 ^ 5 + rsS D l q i < 1073741824 ^ 27 := fun i hi => Nat.lt_of_le_of_lt (Nat.add_le_add (Nat.mul_le_mul_right _ (show hWk D q n n ≤ 600000 by omega)) (Nat.le_trans (rsS_le WW i) (Nat.mul_le_mul_right _ hi))) (by decide)
  have loop : ∀ k i μ1, i + k = n → RegV μ1 r (hWk D q n n * 1000000 ^ 5 + rsS D l q i) → FrG [r, 2, 3] μ μ1 → JS Z X 17 [(0, mrf Z), (1, .int (nI r)), (2, .int (nI l)), (3, .int (nI i))] [] μ1 := by
    intro k
    induction k with
    | zero =>
      intro i μ1 hi h1 hF
      have : i = n := hi
      subst this
      refine bX12_lengthTo_17 E (fun _ => ?_) (fun c => absurd (by rw [hF.1 455 (by decide), T.1, nI_leE (by omega) (by omega)]; omega) c)
      rw [len_eq WW] at h1
      exact bX12_lengthTo_76 E hB ⟨rfl, h1, hF⟩
    | succ k ih =>
      intro i μ1 hi h1 hF
      have H1 : HM (μ1 456) 0 D := by rw [hF.1 _ (by decide)]; exact H
      have T1 : RowQ μ1 q n := ⟨by rw [hF.1 _ (by decide)]; exact T.1, fun j hj => by rw [hF.1 _ (by decide)]; exact T.2 j hj⟩
      obtain ⟨k1, k2, k3, k4⟩ := m_kind H1 W Q T1 (show i < n by omega)
      have at1 := hAt_lt W Q h3 (show i < n by omega)
      have ml := hMs_le (D := D) (l := l) (q := q) (i := i)
      refine bX12_lengthTo_17 E (fun c => absurd c (by rw [T1.1, nI_leE (by omega) (by omega)]; omega)) (fun _ => ?_)
      refine bX12_lengthTo_25 E k1 k2 k1 (by rw [k3, ix_nI (by omega), hF.1 463 (by decide), (Y.2 i (by omega)).1]; exact m_missesAt H1 W hl k4 (by omega)) fun v μ2 g => ?_
      obtain ⟨rfl, rfl⟩ := g
      refine bX12_lengthTo_53 E (vin (by omega) (by omega)) (by rw [ix_nI (by omega), show μ2 456 201 = nI (D 13 0) by rw [hF.1 _ (by decide)]; exact N.2.1 0 (by omega)]; exact m_meanTo (r := 3) (by decide) (by decide) WW.1.2.1 ml) fun μ3 g => ?_
      refine bX12_lengthTo_64 E (m_add (h1.fr g.2 (by simp; omega)) g.1 hr (by decide) r3 (by rw [Nat.add_assoc]; exact bb (i + 1) (by omega))) fun μ4 k => bX12_lengthTo_70 E ?_
      rw [nI_add]
      exact ih (i + 1) μ4 (by omega) (by have := k.1; rw [Nat.add_assoc] at this; exact this) ((hF.tr (g.2.mo (by simp))).tr (k.2.mo (by simp)))
  refine bX12_lengthTo_0 E (by rw [Y.1]; exact m_set hr (by omega)) fun μ1 g => ?_
  have b0 := bb 0 (by omega)
  refine bX12_lengthTo_9 E (m_millions g.1 hr (by decide) (Nat.lt_of_le_of_lt (Nat.le_add_right _ _) b0)) fun μ2 k => bX12_lengthTo_15 E ?_
  exact loop n 0 μ2 (by omega) (by rw [rsS, Nat.add_zero]; exact k.1) ((g.2.mo (by simp)).tr (k.2.mo (by simp)))
def oLength (D : DD) (s : Nat → Int32) (f : Nat × Nat) (a w : Int32) : Int32 × (Nat → Int32) × (Nat × Nat) := if inN a 2 ∧ inN w 3 then (if hOk D (ro D (ix a)) (D 11 (ix a)) = true then (if ix w = 0 then (nI (hWk D (ro D (ix a)) (D 11 (ix a)) (D 11 (ix a)) + hLe D (ix a) (ro D (ix a)) (D 11 (ix a))), s, f) else if ix w = 1 then (nI (hWk D (ro D (ix a)) (D 11 (ix a)) (D 11 (ix a)) + D 11 (ix a) * D 13 0), s, f) else (nI 1, s, lowF (lenN D (ix a) (ro D (ix a)) (D 11 (ix a))) (6 * (D 13 0 - 1)))) else (-3, cnt s (-3), f)) else (-2, cnt s (-2), f)
theorem x_length {a w : Int32} (R : RepC μ D im tx s f) (O : OkS D im tx) : CtrS Z mX11_length [xrf Z, .int a, .int w] μ (rI fun v μ' => v = (oLength D s f a w).1 ∧ RepC μ' D im tx (oLength D s f a w).2.1 (oLength D s f a w).2.2 ∧ FrX μ μ') := by
  refine CtrS.intro (by decide +kernel) (Nat.le_of_ble_eq_true rfl) rfl fun X E hB => ?_
  have no : ¬ (inN a 2 ∧ inN w 3) → JS Z X 16 [(0, xrf Z)] [] μ := fun c => by
    have e : oLength D s f a w = (-2, cnt s (-2), f) := if_neg c
    rw [e] at hB
    exact bX11_length_16 E (x_ref R) fun v μ2 h => bX11_length_22 E hB ⟨_, rfl, h⟩
  refine bX11_length_0 E (c_within (n := 2) (by decide)) fun v μ1 g => ?_
  obtain ⟨rfl, rfl⟩ := g
  refine bX11_length_5 E (fun c => ?_) (fun c => ?_)
  · rw [bz] at c
    exact no fun g => c g.1
  rw [bz] at c
  have c := Decidable.not_not.mp c
  refine bX11_length_8 E (c_within (n := 3) (by decide)) fun v μ2 g => ?_
  obtain ⟨rfl, rfl⟩ := g
  refine bX11_length_13 E (fun d => ?_) (fun d => ?_)
  rotate_left
  · rw [bz] at d
    exact no fun g => d g.2
  rw [bz] at d
  have d := Decidable.not_not.mp d
  have e : oLength D s f a w = _ := if_pos ⟨c, d⟩
  rw [e] at hB
  obtain ⟨ha, ea⟩ := inN_of c (by decide)
  obtain ⟨hi, ei⟩ := inN_of d (by omega)
  have w6 := (O.1.1.2.2.2.2.2.2.2 _ ha).1
  clear no d c e
  generalize ix a = l at ha ea hB w6
  generalize ix w = k at hi ei hB
  subst ea ei
  have h6 := O.1.2.1.2.1
  refine bX11_length_23 E (x_canHunt (o := 78) rfl (by decide) (by decide) R O ha) fun v μ3 g => ?_
  obtain ⟨rfl, g1, g2, g3, g4, R3, gF⟩ := g
  have fx : FrX μ2 μ3 := fun x hx => gF x (by simp; omega)
  refine bX11_length_32 E (fun c => ?_) (fun c => ?_)
  rotate_left
  · rw [bz] at c
    rw [if_neg c] at hB
    refine bX11_length_35 E (x_ref R3) fun v μ4 h => bX11_length_41 E hB ⟨_, rfl, h.1, h.2.1, fx.tr h.2.2⟩
  rw [bz] at c
  have c := Decidable.not_not.mp c
  rw [if_pos c] at hB
  have L := g1 c
  refine bX11_length_42 E (fun d => ?_) (fun d => ?_)
  rotate_left
  · rw [nI_eq0 (by omega)] at d
    rw [if_pos d] at hB
    refine bX11_length_46 E hB ⟨_, rfl, ?_, R3, fx⟩
    rw [L.1, L.2.1, nI_add]
  rw [nI_eq0 (by omega)] at d
  rw [if_neg d] at hB
  refine bX11_length_62 E (fun d => ?_) (fun d => ?_)
  rotate_left
  · rw [nI_eqE (by omega) (by omega)] at d
    rw [if_pos d] at hB
    refine bX11_length_67 E hB (vin (by omega) (by omega)) ⟨_, rfl, ?_, R3, fx⟩
    rw [L.1, g2.2.1, ix_nI (by omega), show μ3 (27 + 1) 0 = _ from R3.2.1.2.2.1 0 (by omega), nI_mul, nI_add]
  rw [nI_eqE (by omega) (by omega)] at d
  rw [if_neg d] at hB
  refine bX11_length_93 E (c_begin R3.2.1 O.1.2 R3.2.2.2.2.2.2) fun μ4 h => ?_
  obtain ⟨h1, h2, h3⟩ := h
  have P4 : FrP μ3 μ4 := FrP.ofFr h3 (by decide)
  have R4 := P4.rep R3 h2
  have Q4 : HQ μ4 78 l (ro D l) (D 11 l) := ⟨by rw [h3 _ (by decide)]; exact g2.1, by rw [h3 _ (by decide)]; exact g2.2.1, fun i hi => by rw [h3 _ (by decide)]; exact g2.2.2 i hi⟩
  have L4 : HLd μ4 78 D l (ro D l) (D 11 l) (D 11 l) := ⟨by rw [h3 _ (by decide)]; exact L.1, by rw [h3 _ (by decide)]; exact L.2.1, fun i hi => by rw [h3 _ (by decide), h3 _ (by decide), h3 _ (by decide), h3 _ (by decide)]; exact L.2.2 i hi⟩
  refine bX11_length_100 E (c_ofLength (o := 451) (GB.of rfl (by decide)) (by decide) rfl (by decide) R4.2.1 O.1.2 R4.2.2.2.2.2.2 h1 (QO.row O.1.1 ha) Q4 L4) fun μ5 k => ?_
  obtain ⟨k1, k2, k3⟩ := k
  have P5 : FrP μ4 μ5 := FrP.ofFr k3 (by decide)
  have R5 := P5.rep R4 k2
  refine bX11_length_115 E (by rw [k3 _ (by decide), h1.1]; exact x_tell R5 k1 (by decide) (by omega)) fun μ6 h6 => ?_
  exact bX11_length_133 E hB ⟨_, rfl, rfl, h6.1, fx.tr (P4.x.tr (P5.x.tr (FRS.x h6.2)))⟩
theorem y_length {a w : Int32} (R : RepM μ D im tx s f) (O : OkS D im tx) : CtrS Z mX12_length [mrf Z, .int a, .int w] μ (rI fun v μ' => v = (oLength D s f a w).1 ∧ RepM μ' D im tx (oLength D s f a w).2.1 (oLength D s f a w).2.2 ∧ FrY μ μ') := by
  refine CtrS.intro (by decide +kernel) (Nat.le_of_ble_eq_true rfl) rfl fun X E hB => ?_
  have no : ¬ (inN a 2 ∧ inN w 3) → JS Z X 16 [(0, mrf Z)] [] μ := fun c => by
    have e : oLength D s f a w = (-2, cnt s (-2), f) := if_neg c
    rw [e] at hB
    exact bX12_length_16 E (y_ref R O) fun v μ2 h => bX12_length_22 E hB ⟨_, rfl, h⟩
  refine bX12_length_0 E m_isLot fun v μ1 g => ?_
  obtain ⟨rfl, rfl⟩ := g
  refine bX12_length_4 E (fun c => ?_) (fun c => ?_)
  · rw [bz] at c
    exact no fun g => c g.1
  rw [bz] at c
  have c := Decidable.not_not.mp c
  refine bX12_length_7 E m_in fun v μ2 g => ?_
  obtain ⟨rfl, rfl⟩ := g
  have le1 : (nI 0 ≤ w ∧ w ≤ nI 2) ↔ inN w 3 := by
    refine and_congr_right fun h0 => ?_
    have h0 : ¬ w < 0 := by rw [Int32.not_lt]; exact h0
    obtain ⟨j, hj, rfl⟩ := nI_of h0
    rw [nI_leE hj (by omega), nI_ltE hj (by omega)]; omega
  refine bX12_length_13 E (fun d => ?_) (fun d => ?_)
  rotate_left
  · rw [bz] at d
    exact no fun g => d (le1.mpr g.2)
  rw [bz] at d
  have d := le1.mp (Decidable.not_not.mp d)
  have e : oLength D s f a w = _ := if_pos ⟨c, d⟩
  rw [e] at hB
  obtain ⟨ha, ea⟩ := inN_of c (by decide)
  obtain ⟨hi, ei⟩ := inN_of d (by omega)
  have w6 := (O.1.1.2.2.2.2.2.2.2 _ ha).1
  clear no d c e le1
  generalize ix a = l at ha ea hB w6
  generalize ix w = k at hi ei hB
  subst ea ei
  have h6 := O.1.2.1.2.1
  refine bX12_length_23 E (m_isHunt R O ha) fun v μ3 g => ?_
  obtain ⟨rfl, g1, g2, g3, R3, gF, -⟩ := g
  refine bX12_length_28 E (fun c => ?_) (fun c => ?_)
  rotate_left
  · rw [bz] at c
    rw [if_neg c] at hB
    refine bX12_length_31 E (y_ref R3 O) fun v μ4 h => bX12_length_37 E hB ⟨_, rfl, h.1, h.2.1, gF.y.tr h.2.2⟩
  rw [bz] at c
  have c := Decidable.not_not.mp c
  rw [if_pos c] at hB
  have Y := g1 c
  have ha3 : D 13 3 < D 0 0 := by
    unfold hOk at c
    simp only [Bool.and_eq_true, decide_eq_true_eq] at c
    exact c.1.1.1
  generalize hq : ro D l = q at *
  have Q : QO D q (D 11 l) := hq ▸ QO.row O.1.1 ha
  have fin : ∀ μ4 f', RepM μ4 D im tx s f' → (∀ k', k' ≠ 19 → μ4 455 k' = μ3 455 k') → FrY μ2 μ4 → (k ≠ 2 → f' = f) → (k = 2 → f' = lowF (lenN D l q (D 11 l)) (6 * (D 13 0 - 1))) → JS Z X 89 [(0, mrf Z), (2, .int (nI k)), (3, .int (nI (hWk D q (D 11 l) (D 11 l) + hLe D l q (D 11 l))))] [] μ4 := fun μ4 f' R4 e4 y4 f1 f2 => by
    refine bX12_length_89 E (fun d => ?_) (fun d => ?_)
    rotate_left
    · rw [nI_eq0 (by omega)] at d
      rw [if_pos d] at hB
      obtain rfl := f1 (by omega)
      exact bX12_length_93 E (bX12_length_124 E hB ⟨_, rfl, rfl, R4, y4⟩)
    rw [nI_eq0 (by omega)] at d
    rw [if_neg d] at hB
    refine bX12_length_97 E (fun d => ?_) (fun d => ?_)
    · rw [nI_eqE (by omega) (by omega)] at d
      rw [if_neg d] at hB
      obtain rfl := f2 (by omega)
      exact bX12_length_123 E (bX12_length_124 E hB ⟨_, rfl, rfl, R4, y4⟩)
    · rw [nI_eqE (by omega) (by omega)] at d
      rw [if_pos d] at hB
      obtain rfl := f1 (by omega)
      refine bX12_length_102 E (vin (by omega) (by omega)) (bX12_length_124 E hB ⟨_, rfl, ?_, R4, y4⟩)
      rw [e4 _ (by decide), e4 _ (by decide), Y.1, g2.1, ix_nI (by omega), show μ4 456 201 = nI (D 13 0) from R4.2.1.2.1 0 (by omega), nI_mul, nI_add]
  have loop : ∀ j i, i + j = D 11 l → JS Z X 46 [(0, mrf Z), (1, .int (nI l)), (2, .int (nI k)), (3, .int (nI (hWk D q (D 11 l) (D 11 l) + hLe D l q i))), (4, .int (nI i))] [] μ3 := by
    intro j
    induction j with
    | zero =>
      intro i hj
      have : i = D 11 l := hj
      subst this
      refine bX12_length_46 E (fun _ => ?_) (fun c => absurd (by rw [g2.1, nI_leE (by omega) (by omega)]; omega) c)
      refine bX12_length_71 E (fun d => ?_) (fun d => ?_)
      · rw [nI_eqE (by omega) (by omega)] at d
        exact fin μ3 f R3 (fun _ _ => rfl) gF.y (fun _ => rfl) (fun c => absurd c d)
      · rw [nI_eqE (by omega) (by omega)] at d
        refine bX12_length_76 E (m_lengthTo (r := 4) R3.1 R3.2.1 O.1.1 O.1.2 ha Q ha3 g2 Y (by decide) (by decide) (by decide)) fun μ4 h => ?_
        have q4 := FrQ.ofG h.2 (by decide)
        refine bX12_length_82 E (y_tell (q4.rep R3) h.1 (by decide) (by decide) (by decide)) fun μ5 h5 => ?_
        rw [low_h O.1.2] at h5
        exact fin μ5 _ h5.1 (fun k' hk' => by rw [h5.2.2.1 k' hk', h.2.1 _ (by decide)]) ((gF.tr q4).y.tr h5.2.y) (fun c => absurd d c) (fun _ => rfl)
    | succ j ih =>
      intro i hj
      refine bX12_length_46 E (fun c => absurd c (by rw [g2.1, nI_leE (by omega) (by omega)]; omega)) (fun _ => ?_)
      refine bX12_length_55 E (m_leastOf R3.1 R3.2.1 O.1.1 ha Q ha3 g2 Y (by omega)) fun v μ4 h => ?_
      obtain ⟨rfl, rfl⟩ := h
      refine bX12_length_63 E ?_
      rw [nI_add, nI_add]
      have := ih (i + 1) (by omega)
      rw [hLe] at this
      rw [Nat.add_assoc]
      exact this
  refine bX12_length_38 E ?_
  rw [Y.1]
  exact loop (D 11 l) 0 (by omega)
end LENGTH
