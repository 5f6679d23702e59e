/-! ENDS, SOONER -/
theorem sub_neg {a w : Nat} (ha : a < 1073741824) (hw : w < 1073741824) (h : a < w) : nI a - nI w < 0 := by
  rw [Int32.lt_iff_toInt_lt, pk_sub_toInt (by omega) (by omega)]
  show (a : Int) - w < 0
  omega
theorem lo_cut {a w : Nat} (ha : a < 1073741824) (hw : w < 1073741824) : (if nI a - nI w < nI 0 then nI 0 else nI a - nI w) = nI (a - w) := by
  by_cases h : a < w
  · rw [if_pos (show nI a - nI w < nI 0 from sub_neg ha hw h), show a - w = 0 by omega]
  · rw [nI_sub (by omega), if_neg]
    exact nI_pos (by omega)
theorem hi_cut {b w mx t : Nat} (hb : b < 1073741824) (hw : w < 1073741824) (hm : mx ≤ 36) (ht : t < 1000000) : ((if nI mx < nI b - nI w then nI mx else nI b - nI w) < nI t) = (min (b + 1 - w) (mx + 1) ≤ t) := by
  by_cases h : b < w
  · have n := sub_neg hb hw h
    have p : ∀ k, k < 2147483648 → nI b - nI w < nI k := fun k hk => Int32.lt_of_lt_of_le n (nI_pos' hk)
    rw [if_neg (fun c => Int32.lt_irrefl (Int32.lt_trans c (p mx (by omega)))), eq_true (p t (by omega)), eq_true (show min (b + 1 - w) (mx + 1) ≤ t by omega)]
  · rw [nI_sub (by omega)]
    by_cases c : mx < b - w
    · rw [if_pos ((nI_ltI (by omega) (by omega)).mpr c), nI_ltE (by omega) (by omega)]
      exact propext (by omega)
    · rw [if_neg (fun d => c ((nI_ltI (by omega) (by omega)).mp d)), nI_ltE (by omega) (by omega)]
      exact propext (by omega)
theorem low_n {D : DD} (v k n : Nat) : lowF (v * 1000000 ^ n) (k + 6 * n) = lowF v k := by
  have := lowF_up v k (6 * n)
  rw [← mil_pow] at this
  exact this
/-- the first of the least -/
def bst (f : Nat → Nat) : Nat → Nat
  | 0 => 0
  | i + 1 => if bst f i = 0 ∨ f i < f (bst f i - 1) then i + 1 else bst f i
theorem bst_le {f : Nat → Nat} : ∀ i, bst f i ≤ i
  | 0 => Nat.le_refl 0
  | i + 1 => by have := bst_le (f := f) i; unfold bst; split <;> omega
theorem bst_pos {f : Nat → Nat} : ∀ i, 0 < i → bst f i ≠ 0
  | 0, h => absurd h (by omega)
  | i + 1, _ => by
    unfold bst
    split
    · omega
    · rename_i c
      exact fun e => c (Or.inl e)
theorem tnn_x {D : DD} (WW : WN D) {x : Nat} : ∀ i, tnn D x i = 6 * (D 13 0 - 1) * (if x < i then i - 1 else i)
  | 0 => by rw [if_neg (by omega)]; rfl
  | i + 1 => by
    have h := tnn_x WW (x := x) i
    unfold tnn
    by_cases c : i = x
    · rw [if_pos c, if_pos (by omega), h, if_neg (by omega), Nat.add_sub_cancel]
    · rw [if_neg c, h]
      by_cases d : x < i
      · rw [if_pos d, if_pos (by omega), show i + 1 - 1 = (i - 1) + 1 by omega, Nat.mul_add, Nat.mul_one]
      · rw [if_neg d, if_neg (by omega), Nat.mul_add, Nat.mul_one]
def oEnds (D : DD) (s : Nat → Int32) (f : Nat × Nat) (a x y : Int32) : Int32 × (Nat → Int32) × (Nat × Nat) := if inN a 2 ∧ nI 0 ≤ x ∧ x ≤ y ∧ y ≤ nI 999 then (if hOk D (ro D (ix a)) (D 11 (ix a)) = true then (nI 1, s, lowF (eN D (ix a) (ro D (ix a)) (D 11 (ix a)) (hWk D (ro D (ix a)) (D 11 (ix a)) (D 11 (ix a))) (ix x) (ix y)) (tnn D 100 (D 11 (ix a)))) else (-3, cnt s (-3), f)) else (-2, cnt s (-2), f)
theorem ends_ok {x y : Int32} (h : nI 0 ≤ x ∧ x ≤ y ∧ y ≤ nI 999) : x = nI (ix x) ∧ y = nI (ix y) ∧ ix x ≤ ix y ∧ ix y ≤ 999 := by
  obtain ⟨h1, h2, h3⟩ := h
  obtain ⟨j, hj, rfl⟩ := nI_of (show ¬ x < 0 from Int32.not_lt.mpr h1)
  obtain ⟨k, hk, rfl⟩ := nI_of (show ¬ y < 0 from Int32.not_lt.mpr (Int32.le_trans h1 h2))
  rw [nI_leE hj hk] at h2
  rw [nI_leE hk (by omega)] at h3
  rw [ix_nI (by omega), ix_nI (by omega)]
  exact ⟨rfl, rfl, h2, h3⟩
section ENDS
variable {Z : ZT} {μ : Mu} {D : DD} {im : Nat → Option DD} {tx : TX} {s : Nat → Int32} {f : Nat × Nat}
theorem x_ends {a x y : Int32} (R : RepC μ D im tx s f) (O : OkS D im tx) : CtrS Z mX11_ends [xrf Z, .int a, .int x, .int y] μ (rI fun v μ' => v = (oEnds D s f a x y).1 ∧ RepC μ' D im tx (oEnds D s f a x y).2.1 (oEnds D s f a x y).2.2 ∧ FrX μ μ') := by
  refine CtrS.intro (by decide +kernel) (Nat.le_of_ble_eq_true rfl) rfl fun X E hB => ?_
  have no : ¬ (inN a 2 ∧ nI 0 ≤ x ∧ x ≤ y ∧ y ≤ nI 999) → JS Z X 24 [(0, xrf Z)] [] μ := fun c => by
    have e : oEnds D s f a x y = _ := if_neg c
    rw [e] at hB
    exact bX11_ends_24 E (x_ref R) fun v μ2 h => bX11_ends_30 E hB ⟨_, rfl, h⟩
  refine bX11_ends_0 E (c_within (n := 2) (by decide)) fun v μ1 g => ?_
  obtain ⟨rfl, rfl⟩ := g
  refine bX11_ends_5 E (fun c => ?_) (fun c => ?_)
  · rw [bz] at c
    exact no fun g => c g.1
  rw [bz] at c
  have c := Decidable.not_not.mp c
  refine bX11_ends_8 E (fun d => no fun g => absurd d (Int32.not_lt.mpr g.2.1)) (fun d1 => ?_)
  refine bX11_ends_12 E (fun d => no fun g => absurd d (Int32.not_lt.mpr g.2.2.1)) (fun d2 => ?_)
  refine bX11_ends_17 E (fun d3 => ?_) (fun d => no fun g => d g.2.2.2)
  have d : nI 0 ≤ x ∧ x ≤ y ∧ y ≤ nI 999 := ⟨Int32.not_lt.mp d1, Int32.not_lt.mp d2, d3⟩
  have e : oEnds D s f a x y = _ := if_pos ⟨c, d⟩
  rw [e] at hB
  obtain ⟨ha, ea⟩ := inN_of c (by decide)
  obtain ⟨ex, ey, lxy, ly⟩ := ends_ok d
  have w6 := (O.1.1.2.2.2.2.2.2.2 _ ha).1
  clear no d d1 d2 d3 c e
  generalize ix a = l at ha ea hB w6
  generalize ix x = x' at ex hB lxy
  generalize ix y = y' at ey hB lxy ly
  subst ea ex ey
  refine bX11_ends_31 E (x_canHunt (o := 78) rfl (by decide) (by decide) R O ha) fun v μ3 g => ?_
  obtain ⟨rfl, g1, g2, -, -, R3, gF⟩ := g
  have fx : FrX μ1 μ3 := fun x hx => gF x (by simp; omega)
  refine bX11_ends_40 E (fun c => ?_) (fun c => ?_)
  rotate_left
  · rw [bz] at c
    rw [if_neg c] at hB
    exact bX11_ends_43 E (x_ref R3) fun v μ4 h => bX11_ends_49 E hB ⟨_, rfl, h.1, h.2.1, fx.tr h.2.2⟩
  rw [bz] at c
  have c := Decidable.not_not.mp c
  rw [if_pos c] at hB
  have L := g1 c
  have WW := O.1.2
  have wl := hWk_le (D := D) (q := ro D l) (n := D 11 l) (D 11 l)
  have m6 := mo_le WW (x := 100) (D 11 l)
  refine bX11_ends_50 E (vin (by omega) (by omega)) (by rw [ix_nI (by omega), show μ3 (27 + 1) 0 = _ from R3.2.1.2.2.1 0 (by omega)]; exact c_ofHunt (x := 100) rfl WW R3.2.2.2.2.2.2 (QO.row O.1.1 ha) g2 L (fun i hi => propext ⟨fun e => absurd (show nI i < 0 by rw [e]; decide) (Int32.not_lt.mpr (nI_pos' (by omega))), fun e => by omega⟩)) fun μ4 h => ?_
  obtain ⟨⟨a, b, S⟩, h2, h3⟩ := h
  have R4 := h3.p.rep R3 h2
  have bd : 40 * (40 * 10 ^ 30) ^ D 11 l < 1073741824 ^ 24 := Nat.lt_of_le_of_lt (Nat.mul_le_mul_left _ (Nat.pow_le_pow_right (by decide) w6)) (by decide)
  refine bX11_ends_71 E (by rw [h3 _ (by decide), L.1]; exact c_gather (o := 451) (hi1 := min (y' + 1 - hWk D (ro D l) (D 11 l) (D 11 l)) (mo D 100 (D 11 l) + 1)) (GB.of rfl (by decide)) (by decide) h2 S (by omega) (fun t => ds_b WW _ t) bd (lo_cut (by omega) (by omega)) (by omega) (by omega) (fun t ht => hi_cut (by omega) (by omega) (by omega) ht)) fun μ5 k => ?_
  obtain ⟨k1, k2, k3⟩ := k
  rw [eN_c WW w6] at k1
  have P5 : FrP μ4 μ5 := FrP.ofFr k3 (by decide)
  have R5 := P5.rep R4 k2
  have t6 := tnn_le WW (x := 100) (D 11 l)
  refine bX11_ends_100 E (by rw [k3 _ (by decide), S.2.2.1]; exact x_tell R5 k1 (by decide) (by omega)) fun μ6 h6 => ?_
  exact bX11_ends_118 E hB ⟨_, rfl, rfl, h6.1, fx.tr (h3.p.x.tr (P5.x.tr (FRS.x h6.2)))⟩
theorem y_ends {a x y : Int32} (R : RepM μ D im tx s f) (O : OkS D im tx) : CtrS Z mX12_ends [mrf Z, .int a, .int x, .int y] μ (rI fun v μ' => v = (oEnds D s f a x y).1 ∧ RepM μ' D im tx (oEnds D s f a x y).2.1 (oEnds D s f a x y).2.2 ∧ FrY μ μ') := by
  refine CtrS.intro (by decide +kernel) (Nat.le_of_ble_eq_true rfl) rfl fun X E hB => ?_
  have no : ¬ (inN a 2 ∧ nI 0 ≤ x ∧ x ≤ y ∧ y ≤ nI 999) → JS Z X 27 [(0, mrf Z)] [] μ := fun c => by
    have e : oEnds D s f a x y = _ := if_neg c
    rw [e] at hB
    exact bX12_ends_27 E (y_ref R O) fun v μ2 h => bX12_ends_33 E hB ⟨_, rfl, h⟩
  refine bX12_ends_0 E m_isLot fun v μ1 g => ?_
  obtain ⟨rfl, rfl⟩ := g
  refine bX12_ends_4 E (fun c => ?_) (fun c => ?_)
  · rw [bz] at c
    exact no fun g => c g.1
  rw [bz] at c
  have c := Decidable.not_not.mp c
  refine bX12_ends_7 E m_in fun v μ2 g => ?_
  obtain ⟨rfl, rfl⟩ := g
  refine bX12_ends_13 E (fun d => ?_) (fun d1 => ?_)
  · rw [bz] at d
    exact no fun g => d ⟨g.2.1, g.2.2.1⟩
  rw [bz] at d1
  have d1 := Decidable.not_not.mp d1
  refine bX12_ends_16 E m_in fun v μ3 g => ?_
  obtain ⟨rfl, rfl⟩ := g
  refine bX12_ends_24 E (fun d2 => ?_) (fun d => ?_)
  rotate_left
  · rw [bz] at d
    exact no fun g => d ⟨Int32.le_trans g.2.1 g.2.2.1, g.2.2.2⟩
  rw [bz] at d2
  have d2 := Decidable.not_not.mp d2
  have d : nI 0 ≤ x ∧ x ≤ y ∧ y ≤ nI 999 := ⟨d1.1, d1.2, d2.2⟩
  have e : oEnds D s f a x y = _ := if_pos ⟨c, d⟩
  rw [e] at hB
  obtain ⟨ha, ea⟩ := inN_of c (by decide)
  obtain ⟨ex, ey, lxy, ly⟩ := ends_ok d
  have w6 := (O.1.1.2.2.2.2.2.2.2 _ ha).1
  clear no d d1 d2 c e
  generalize ix a = l at ha ea hB w6
  generalize ix x = x' at ex hB lxy
  generalize ix y = y' at ey hB lxy ly
  subst ea ex ey
  refine bX12_ends_34 E (m_isHunt R O ha) fun v μ4 g => ?_
  obtain ⟨rfl, g1, g2, g3, R3, gF, -⟩ := g
  refine bX12_ends_39 E (fun c => ?_) (fun c => ?_)
  rotate_left
  · rw [bz] at c
    rw [if_neg c] at hB
    exact bX12_ends_42 E (y_ref R3 O) fun v μ4 h => bX12_ends_48 E hB ⟨_, rfl, h.1, h.2.1, gF.y.tr h.2.2⟩
  rw [bz] at c
  have c := Decidable.not_not.mp c
  rw [if_pos c] at hB
  have WW := O.1.2
  have Y := g1 c
  have wl := hWk_le (D := D) (q := ro D l) (n := D 11 l) (D 11 l)
  refine bX12_ends_49 E (m_weighLengths (x := 100) R3.1 R3.2.1 O.1.1 WW ha (QO.row O.1.1 ha) (hOk_3 c).1 g2 Y (fun i hi => propext ⟨fun e => absurd (show nI i < 0 by rw [e]; decide) (Int32.not_lt.mpr (nI_pos' (by omega))), fun e => by omega⟩)) fun v μ5 h => ?_
  obtain ⟨rfl, h2, h3⟩ := h
  refine bX12_ends_55 E (m_set (r := 4) (by decide) (by decide)) fun μ6 k => bX12_ends_63 E ?_
  have bB : ∀ t, dr D l (ro D l) 100 (D 11 l) t ≤ (40 * 10 ^ 36) ^ D 11 l := dr_b WW _ w6
  have bd : 41 * (40 * 10 ^ 36) ^ D 11 l < 1073741824 ^ 27 := Nat.lt_of_le_of_lt (Nat.mul_le_mul_left _ (Nat.pow_le_pow_right (by decide) w6)) (by decide)
  have er := eN_r WW (l := l) (w := hWk D (ro D l) (D 11 l) (D 11 l)) (a := x') (b := y') (q := ro D l) w6
  generalize hF' : dr D l (ro D l) 100 (D 11 l) = F at h2 bB er
  generalize hw : hWk D (ro D l) (D 11 l) (D 11 l) = w at *
  have loop : ∀ k' t μ7, t + k' = 40 → RegV μ7 4 (pS F (fun t => decide (x' ≤ w + t ∧ w + t ≤ y')) t) → FrGP (fun r => r = 4) μ5 μ7 → JS Z X 66 [(0, mrf Z), (2, .int (nI x')), (3, .int (nI y')), (4, .int (nI (tr D 100 (D 11 l)))), (5, .int (nI t))] [] μ7 := by
    intro k'
    induction k' with
    | zero =>
      intro t μ7 ht a1 a2
      have ht : t = 40 := ht
      subst ht
      have q7 : FrQ μ4 μ7 := (FrQ.ofGP h3 (fun r hr => by rcases hr with hr | hr <;> omega)).tr (FrQ.ofGP a2 (by omega))
      have t6 := tnn_le WW (x := 100) (D 11 l)
      have tt := tr_tnn WW (x := 100) (D 11 l)
      refine bX12_ends_66 E (fun _ => ?_) (fun c => absurd (by decide) c)
      refine bX12_ends_104 E (y_tell (q7.rep R3) a1 (by decide) (by decide) (by omega)) fun μ8 h8 => ?_
      rw [er, tt, low_n (D := D)] at h8
      exact bX12_ends_111 E hB ⟨_, rfl, rfl, h8.1, (gF.tr q7).y.tr h8.2.y⟩
    | succ k' ihk =>
      intro t μ7 ht a1 a2
      have r98 : ∀ μ8, RegV μ8 4 (pS F (fun t => decide (x' ≤ w + t ∧ w + t ≤ y')) (t + 1)) → FrGP (fun r => r = 4) μ5 μ8 → JS Z X 98 [(0, mrf Z), (2, .int (nI x')), (3, .int (nI y')), (4, .int (nI (tr D 100 (D 11 l)))), (5, .int (nI t))] [] μ8 := fun μ8 z1 z2 => by
        refine bX12_ends_98 E ?_
        rw [nI_add]
        exact ihk (t + 1) μ8 (by omega) z1 z2
      refine bX12_ends_66 E (fun c => absurd c (by rw [nI_leE (by omega) (by omega)]; omega)) (fun _ => ?_)
      refine bX12_ends_73 E m_in fun v μ8 j => ?_
      obtain ⟨rfl, e8⟩ := j
      subst e8
      have e17 : ∀ μ9, FrGP (fun r => r = 4) μ5 μ9 → μ9 455 17 = nI w := fun μ9 h9 => by rw [h9.1 _ (by decide), h3.1 _ (by decide), Y.1, hw]
      rw [e17 _ a2, nI_add]
      refine bX12_ends_85 E (fun c => ?_) (fun c => ?_)
      · rw [bz, nI_leE (by omega) (by omega), nI_leE (by omega) (by omega)] at c
        refine r98 _ ?_ a2
        rw [pS, if_neg (by simpa using c), Nat.add_zero]
        exact a1
      · rw [bz, nI_leE (by omega) (by omega), nI_leE (by omega) (by omega)] at c
        have c := Decidable.not_not.mp c
        have pb := pS_b (P := fun t => decide (x' ≤ w + t ∧ w + t ≤ y')) bB t
        have bt := bB t
        refine bX12_ends_88 E (by rw [nI_add]; exact m_add a1 ((h2 t (by omega)).gp a2 (by omega)) (by decide) (by omega) (by omega) (Nat.lt_of_le_of_lt (Nat.le_trans (Nat.add_le_add (Nat.le_trans pb (Nat.mul_le_mul_right _ (show t ≤ 40 by omega))) bt) (Nat.le_of_eq (by omega))) bd)) fun μ9 z => ?_
        refine r98 μ9 ?_ (a2.tr (z.2.gp (by simp)))
        rw [pS, if_pos (by simpa using c)]
        exact z.1
  exact loop 40 0 μ6 (by omega) k.1 (k.2.gp (by simp))
/-- SOONER -/
def sV (D : DD) (l : Nat) (x : Nat) : Nat := sN D l (ro D l) (D 11 l) (hWk D (ro D l) (D 11 l) (D 11 l)) x
def oSooner (D : DD) (s : Nat → Int32) (f : Nat × Nat) (a : Int32) : Int32 × (Nat → Int32) × (Nat × Nat) := if inN a 2 then (if hOk D (ro D (ix a)) (D 11 (ix a)) = true then (nI (ro D (ix a) (bst (sV D (ix a)) (D 11 (ix a)) - 1)), s, lowF (sV D (ix a) (bst (sV D (ix a)) (D 11 (ix a)) - 1)) (6 * (D 13 0 - 1) * (D 11 (ix a) - 1))) else (-3, cnt s (-3), f)) else (-2, cnt s (-2), f)
theorem sN_b (WW : WN D) {l n w x : Nat} {q : Nat → Nat} (hn : n ≤ 6) : sN D l q n w x ≤ 40 * (40 * 10 ^ 30) ^ 6 := Nat.le_trans (pS_b (fun t => ds_b WW n t) 40) (Nat.mul_le_mul_left _ (Nat.pow_le_pow_right (by decide) hn))
theorem x_sooner {a : Int32} (R : RepC μ D im tx s f) (O : OkS D im tx) : CtrS Z mX11_sooner [xrf Z, .int a] μ (rI fun v μ' => v = (oSooner D s f a).1 ∧ RepC μ' D im tx (oSooner D s f a).2.1 (oSooner D s f a).2.2 ∧ FrX μ μ') := by
  refine CtrS.intro (by decide +kernel) (Nat.le_of_ble_eq_true rfl) rfl fun X E hB => ?_
  refine bX11_sooner_0 E (c_within (n := 2) (by decide)) fun v μ1 g => ?_
  obtain ⟨rfl, rfl⟩ := g
  refine bX11_sooner_5 E (fun c => ?_) (fun c => ?_)
  rotate_left
  · rw [bz] at c
    have e : oSooner D s f a = _ := if_neg c
    rw [e] at hB
    exact bX11_sooner_8 E (x_ref R) fun v μ2 h => bX11_sooner_14 E hB ⟨_, rfl, h⟩
  rw [bz] at c
  have c := Decidable.not_not.mp c
  have e : oSooner D s f a = _ := if_pos c
  rw [e] at hB
  obtain ⟨ha, ea⟩ := inN_of c (by decide)
  have w6 := (O.1.1.2.2.2.2.2.2.2 _ ha).1
  clear c e
  generalize ix a = l at ha ea hB w6
  subst ea
  refine bX11_sooner_15 E (x_canHunt (o := 78) rfl (by decide) (by decide) R O ha) fun v μ3 g => ?_
  obtain ⟨rfl, g1, g2, -, -, R3, gF⟩ := g
  have fx : FrX μ1 μ3 := fun x hx => gF x (by simp; omega)
  refine bX11_sooner_24 E (fun c => ?_) (fun c => ?_)
  rotate_left
  · rw [bz] at c
    rw [if_neg c] at hB
    exact bX11_sooner_27 E (x_ref R3) fun v μ4 h => bX11_sooner_33 E hB ⟨_, rfl, h.1, h.2.1, fx.tr h.2.2⟩
  rw [bz] at c
  have c := Decidable.not_not.mp c
  rw [if_pos c] at hB
  have L := g1 c
  have WW := O.1.2
  obtain ⟨-, -, n0, -⟩ := hOk_3 c
  have hgo := WW.1.2.2.1
  have h13 := WW.1.2.1
  have Qr : QO D (ro D l) (D 11 l) := QO.row O.1.1 ha
  have svd : ∀ x, sV D l x = sN D l (ro D l) (D 11 l) (hWk D (ro D l) (D 11 l) (D 11 l)) x := fun x => rfl
  have svb : ∀ x, sV D l x ≤ 40 * (40 * 10 ^ 30) ^ 6 := fun x => sN_b WW w6
  generalize hsv : sV D l = sv at hB svd svb
  have roL : ∀ i, i < D 11 l → ro D l i < 2147483648 := fun i hi => by have := Qr.2 i hi; have := O.1.1.2.2.1; omega
  generalize hq : ro D l = q at *
  generalize hnn : D 11 l = n at *
  have wl := hWk_le (D := D) (q := q) (n := n) n
  have loop : ∀ k i μ4, i + k = n → (bst sv i ≠ 0 → BigV μ4 451 (sv (bst sv i - 1))) → (0 < i → μ4 105 0 = nI (6 * (D 13 0 - 1) * (n - 1))) → SC μ4 → (∀ a, a < 105 ∨ 455 ≤ a ∨ (446 ≤ a ∧ a < 451) → μ4 a = μ3 a) → JS Z X 38 [(0, xrf Z), (2, .int (lotI (bst sv i))), (3, .int (nI i))] [] μ4 := by
    intro k
    induction k with
    | zero =>
      intro i μ4 hi hb ht hq4 hF
      have : i = n := hi
      subst this
      have P4 : FrP μ3 μ4 := fun a ha => hF a (by omega)
      have R4 := P4.rep R3 hq4
      have bp := bst_pos (f := sv) i n0
      have bl := bst_le (f := sv) i
      refine bX11_sooner_38 E (fun _ => ?_) (fun d => absurd (by rw [hF _ (by decide), g2.2.1, nI_leE (by omega) (by omega)]; omega) d)
      have t150 : 6 * (D 13 0 - 1) * (i - 1) ≤ 150 := Nat.le_trans (Nat.mul_le_mul (show 6 * (D 13 0 - 1) ≤ 30 by omega) (show i - 1 ≤ 5 by omega)) (by decide)
      refine bX11_sooner_138 E (by rw [ht n0]; exact x_tell R4 (hb bp) (by decide) (by omega)) fun μ5 h5 => ?_
      obtain ⟨bs, hbs⟩ : ∃ bs, bst sv i = bs + 1 := ⟨bst sv i - 1, by omega⟩
      rw [hbs, show lotI (bs + 1) = nI bs from nI_suc_m1 bs]
      rw [hbs, Nat.add_sub_cancel] at hB h5
      refine bX11_sooner_156 E (fun _ => ?_) (fun d => absurd (show nI bs < 0 by rw [d]; decide) (Int32.not_lt.mpr (nI_pos' (by omega))))
      refine bX11_sooner_165 E (vin (by omega) (by omega)) (bX11_sooner_174 E hB ⟨_, rfl, ?_, h5.1, fx.tr (P4.x.tr (FRS.x h5.2))⟩)
      rw [ix_nI (by omega), h5.2 _ (by decide), hF _ (by decide), show μ3 79 bs = _ from g2.2.2 bs (by omega)]
    | succ k ih =>
      intro i μ4 hi hb ht hq4 hF
      have P4 : FrP μ3 μ4 := fun a ha => hF a (by omega)
      have R4 := P4.rep R3 hq4
      have T4 : HQ μ4 78 l q n := g2.congr (hF _ (by decide)) (hF _ (by decide))
      have L4 : HLd μ4 78 D l q n n := L.congr (hF _ (by decide)) (hF _ (by decide)) (hF _ (by decide)) (hF _ (by decide)) (hF _ (by decide))
      have bl := bst_le (f := sv) i
      refine bX11_sooner_38 E (fun d => absurd d (by rw [T4.2.1, nI_leE (by omega) (by omega)]; omega)) (fun _ => ?_)
      refine bX11_sooner_49 E (vin (by omega) (by omega)) (by rw [ix_nI (by omega), show μ4 (27 + 1) 0 = _ from R4.2.1.2.2.1 0 (by omega)]; exact c_ofHunt (x := i) rfl WW hq4 Qr T4 L4 (fun j hj => nI_eqE (by omega) (by omega))) fun μ5 h => ?_
      obtain ⟨⟨a, b, S⟩, h2, h3⟩ := h
      have R5 := h3.p.rep R4 h2
      have m6 := mo_le WW (x := i) n
      have bd : 40 * (40 * 10 ^ 30) ^ n < 1073741824 ^ 24 := Nat.lt_of_le_of_lt (Nat.mul_le_mul_left _ (Nat.pow_le_pow_right (by decide) w6)) (by decide)
      refine bX11_sooner_70 E (vin (by omega) (by omega)) (by rw [ix_nI (by omega), show μ5 (27 + 1) 1 = _ from R5.2.1.2.2.1 1 (by omega), h3 _ (by decide), L4.1]; exact c_gather (o := 453) (lo := D 13 1 - hWk D q n n) (hi1 := mo D i n + 1) (GB.of rfl (by decide)) (by decide) h2 S (by omega) (fun t => ds_b WW _ t) bd (lo_cut (by omega) (by omega)) (by omega) (by omega) (fun t ht => by
        by_cases c : mo D i n < 36
        · rw [if_pos (by rw [nI_ltE (by omega) (by omega)]; omega), nI_ltE (by omega) (by omega)]; exact propext (by omega)
        · rw [if_neg (by rw [nI_ltE (by omega) (by omega)]; omega), nI_ltE (by omega) (by omega)]; exact propext (by omega))) fun μ6 k' => ?_
      obtain ⟨k1, k2, k3⟩ := k'
      rw [sN_c WW w6, ← svd i] at k1
      have e6 : ∀ a, a < 105 ∨ 455 ≤ a ∨ (446 ≤ a ∧ a < 451) → μ6 a = μ3 a := fun a ha => by rw [k3 a (by simp; omega), h3 a (by omega)]; exact hF a ha
      have t6 : μ6 105 0 = nI (6 * (D 13 0 - 1) * (n - 1)) := by
        rw [k3 _ (by decide), S.2.2.1, tnn_x WW n, if_pos (by omega)]
      have b6 : bst sv i ≠ 0 → BigV μ6 451 (sv (bst sv i - 1)) := fun h => ((hb h).fr (μ' := μ5) (S := List.range' 105 168) (fun a ha => h3 a (by rw [List.mem_range'_1] at ha; omega)) (by decide) (by decide)).fr k3 (by decide) (by decide)
      have r132 : ∀ μ7, (BigV μ7 451 (sv (bst sv (i + 1) - 1))) → μ7 105 0 = nI (6 * (D 13 0 - 1) * (n - 1)) → SC μ7 → (∀ a, a < 105 ∨ 455 ≤ a ∨ (446 ≤ a ∧ a < 451) → μ7 a = μ3 a) → JS Z X 132 [(0, xrf Z), (2, .int (lotI (bst sv (i + 1)))), (3, .int (nI i))] [] μ7 := fun μ7 z1 z2 z3 z4 => by
        refine bX11_sooner_132 E ?_
        rw [nI_add]
        exact ih (i + 1) μ7 (by omega) (fun _ => z1) (fun _ => z2) z3 z4
      have r119 : ∀ μ7, μ7 = μ6 → (bst sv i = 0 ∨ sv i < sv (bst sv i - 1)) → JS Z X 119 [(0, xrf Z), (3, .int (nI i))] [] μ7 := fun μ7 e c => by
        subst e
        refine bX11_sooner_119 E (q_copy k2 (GB.of rfl (by decide)) k1) fun μ8 z => ?_
        have e1 : bst sv (i + 1) = i + 1 := if_pos c
        have nx := r132 μ8
        rw [e1, Nat.add_sub_cancel, show lotI (i + 1) = nI i from nI_suc_m1 i] at nx
        exact nx z.1 (by rw [z.2.2 _ (by decide)]; exact t6) z.2.1 (fun a ha => by rw [z.2.2 a (by simp; omega)]; exact e6 a ha)
      refine bX11_sooner_100 E (fun d => ?_) (fun d => ?_)
      · refine r119 μ6 rfl (Or.inl ?_)
        cases hz : bst sv i with
        | zero => rfl
        | succ z =>
          rw [hz, show lotI (z + 1) = nI z from nI_suc_m1 z] at d
          exact absurd (show nI z < 0 by rw [d]; decide) (Int32.not_lt.mpr (nI_pos' (by omega)))
      have bn : bst sv i ≠ 0 := fun z => d (by rw [z]; decide)
      refine bX11_sooner_105 E (c_compare k1 (b6 bn)) fun v μ7 j => ?_
      obtain ⟨rfl, e7⟩ := j
      refine bX11_sooner_116 E (fun x => ?_) (fun x => ?_)
      · rw [cmp_ge] at x
        subst e7
        have e1 : bst sv (i + 1) = bst sv i := if_neg (fun g => Or.elim g bn (fun g => by omega))
        have nx := r132 μ7
        rw [e1] at nx
        exact nx (b6 bn) t6 k2 e6
      · rw [cmp_ge] at x
        exact r119 μ7 e7 (Or.inr (by omega))
  have z := loop n 0 μ3 (by omega) (fun h => absurd rfl h) (fun h => absurd h (by omega)) R3.2.2.2.2.2.2 (fun _ _ => rfl)
  rw [show lotI (bst sv 0) = -1 from (by decide : lotI 0 = -1)] at z
  exact bX11_sooner_34 E z
theorem y_sooner {a : Int32} (R : RepM μ D im tx s f) (O : OkS D im tx) : CtrS Z mX12_sooner [mrf Z, .int a] μ (rI fun v μ' => v = (oSooner D s f a).1 ∧ RepM μ' D im tx (oSooner D s f a).2.1 (oSooner D s f a).2.2 ∧ FrY μ μ') := by
  refine CtrS.intro (by decide +kernel) (Nat.le_of_ble_eq_true rfl) rfl fun X E hB => ?_
  refine bX12_sooner_0 E m_isLot fun v μ1 g => ?_
  obtain ⟨rfl, rfl⟩ := g
  refine bX12_sooner_4 E (fun c => ?_) (fun c => ?_)
  rotate_left
  · rw [bz] at c
    have e : oSooner D s f a = _ := if_neg c
    rw [e] at hB
    exact bX12_sooner_7 E (y_ref R O) fun v μ2 h => bX12_sooner_13 E hB ⟨_, rfl, h⟩
  rw [bz] at c
  have c := Decidable.not_not.mp c
  have e : oSooner D s f a = _ := if_pos c
  rw [e] at hB
  obtain ⟨ha, ea⟩ := inN_of c (by decide)
  have w6 := (O.1.1.2.2.2.2.2.2.2 _ ha).1
  clear c e
  generalize ix a = l at ha ea hB w6
  subst ea
  refine bX12_sooner_14 E (m_isHunt R O ha) fun v μ3 g => ?_
  obtain ⟨rfl, g1, g2, g3, R3, gF, -⟩ := g
  refine bX12_sooner_19 E (fun c => ?_) (fun c => ?_)
  rotate_left
  · rw [bz] at c
    rw [if_neg c] at hB
    exact bX12_sooner_22 E (y_ref R3 O) fun v μ4 h => bX12_sooner_28 E hB ⟨_, rfl, h.1, h.2.1, gF.y.tr h.2.2⟩
  rw [bz] at c
  have c := Decidable.not_not.mp c
  rw [if_pos c] at hB
  have Y := g1 c
  have W := O.1.1
  have WW := O.1.2
  obtain ⟨h33, -, n0, -⟩ := hOk_3 c
  have hgo := WW.1.2.2.1
  have h13 := WW.1.2.1
  have Qr : QO D (ro D l) (D 11 l) := QO.row W ha
  have svd : ∀ x, sV D l x = sN D l (ro D l) (D 11 l) (hWk D (ro D l) (D 11 l) (D 11 l)) x := fun x => rfl
  generalize hsv : sV D l = sv at hB svd
  have roL : ∀ i, i < D 11 l → ro D l i < 2147483648 := fun i hi => by have := Qr.2 i hi; have := W.2.2.1; omega
  generalize hq : ro D l = q at *
  generalize hnn : D 11 l = n at *
  have wl := hWk_le (D := D) (q := q) (n := n) n
  have Sp : 0 < 1000000 ^ n := Nat.pow_pos (by decide)
  have bd : 41 * (40 * 10 ^ 36) ^ n < 1073741824 ^ 27 := Nat.lt_of_le_of_lt (Nat.mul_le_mul_left _ (Nat.pow_le_pow_right (by decide) w6)) (by decide)
  -- what is found, as the reference keeps it
  have loop : ∀ k i μ4 tn, i + k = n → (bst sv i ≠ 0 → RegV μ4 4 (sv (bst sv i - 1) * 1000000 ^ n)) → (0 < i → tn = 6 * (D 13 0 - 1) * (n - 1) + 6 * n) → FrGP (fun r => r = 3 ∨ r = 4 ∨ WLP r) μ3 μ4 → JS Z X 36 [(0, mrf Z), (1, .int (nI l)), (2, .int (if bst sv i = 0 then -1 else nI (q (bst sv i - 1)))), (3, .int (nI tn)), (4, .int (nI i))] [] μ4 := by
    intro k
    induction k with
    | zero =>
      intro i μ4 tn hi hb ht hF
      have : i = n := hi
      subst this
      have q4 : FrQ μ3 μ4 := FrQ.ofGP hF (fun r hr => by rcases hr with hr | hr | hr | hr <;> omega)
      have R4 := q4.rep R3
      have bp := bst_pos (f := sv) i n0
      refine bX12_sooner_36 E (fun _ => ?_) (fun d => absurd (by rw [hF.1 _ (by decide), g2.1, nI_leE (by omega) (by omega)]; omega) d)
      have t150 : 6 * (D 13 0 - 1) * (i - 1) ≤ 150 := Nat.le_trans (Nat.mul_le_mul (show 6 * (D 13 0 - 1) ≤ 30 by omega) (show i - 1 ≤ 5 by omega)) (by decide)
      obtain rfl := ht n0
      refine bX12_sooner_137 E (y_tell R4 (hb bp) (by decide) (by decide) (by omega)) fun μ5 h5 => ?_
      rw [low_n (D := D)] at h5
      rw [if_neg bp]
      exact bX12_sooner_143 E hB ⟨_, rfl, rfl, h5.1, (gF.tr q4).y.tr h5.2.y⟩
    | succ k ih =>
      intro i μ4 tn hi hb ht hF
      have q4 : FrQ μ3 μ4 := FrQ.ofGP hF (fun r hr => by rcases hr with hr | hr | hr | hr <;> omega)
      have R4 := q4.rep R3
      have T4 : RowQ μ4 q n := ⟨by rw [hF.1 _ (by decide)]; exact g2.1, fun j hj => by rw [hF.1 _ (by decide)]; exact g2.2 j hj⟩
      have Y4 : HY μ4 D q n := ⟨by rw [hF.1 _ (by decide)]; exact Y.1, fun j hj => by rw [hF.1 _ (by decide), hF.1 _ (by decide)]; exact Y.2 j hj⟩
      have bl := bst_le (f := sv) i
      refine bX12_sooner_36 E (fun d => absurd d (by rw [T4.1, nI_leE (by omega) (by omega)]; omega)) (fun _ => ?_)
      refine bX12_sooner_45 E (m_weighLengths (x := i) R4.1 R4.2.1 W WW ha Qr h33 T4 Y4 (fun j hj => nI_eqE (by omega) (by omega))) fun v μ5 h => ?_
      obtain ⟨rfl, h2, h3⟩ := h
      have t6 : tr D i n = 6 * (D 13 0 - 1) * (n - 1) + 6 * n := by rw [tr_tnn WW, tnn_x WW n, if_pos (by omega)]
      rw [t6]
      refine bX12_sooner_52 E (m_set (r := 3) (by decide) (by decide)) fun μ6 j => bX12_sooner_59 E ?_
      obtain ⟨j1, j2⟩ := j
      have bB : ∀ t, dr D l q i n t ≤ (40 * 10 ^ 36) ^ n := dr_b WW _ w6
      have er := sN_r WW (l := l) (w := hWk D q n n) (x := i) (q := q) w6 (show i < n by omega)
      rw [← svd i] at er
      generalize hF' : dr D l q i n = F at h2 bB er
      have F5 : FrGP (fun r => r = 3 ∨ r = 4 ∨ WLP r) μ3 μ5 := hF.tr (h3.mo fun r hr => Or.inr (Or.inr hr))
      have b5 : bst sv i ≠ 0 → RegV μ5 4 (sv (bst sv i - 1) * 1000000 ^ n) := fun h => (hb h).gp h3 (by omega)
      have inner : ∀ k' t μ7, t + k' = 40 → RegV μ7 3 (pS F (fun t => decide (D 13 1 < hWk D q n n + t)) t) → FrGP (fun r => r = 3) μ5 μ7 → JS Z X 62 [(0, mrf Z), (1, .int (nI l)), (2, .int (if bst sv i = 0 then -1 else nI (q (bst sv i - 1)))), (3, .int (nI (6 * (D 13 0 - 1) * (n - 1) + 6 * n))), (4, .int (nI i)), (5, .int (nI t))] [] μ7 := by
        intro k'
        induction k' with
        | zero =>
          intro t μ7 ht' a1 a2
          have ht' : t = 40 := ht'
          subst ht'
          rw [er] at a1
          have F7 := F5.tr (a2.mo fun r hr => Or.inl hr)
          have b7 : bst sv i ≠ 0 → RegV μ7 4 (sv (bst sv i - 1) * 1000000 ^ n) := fun h => (b5 h).gp a2 (by decide)
          refine bX12_sooner_62 E (fun _ => ?_) (fun c => absurd (by decide) c)
          have T7 : RowQ μ7 q n := ⟨by rw [F7.1 _ (by decide)]; exact g2.1, fun j hj => by rw [F7.1 _ (by decide)]; exact g2.2 j hj⟩
          have r131 : ∀ μ8, RegV μ8 4 (sv (bst sv (i + 1) - 1) * 1000000 ^ n) → FrGP (fun r => r = 3 ∨ r = 4 ∨ WLP r) μ3 μ8 → JS Z X 131 [(0, mrf Z), (1, .int (nI l)), (2, .int (if bst sv (i + 1) = 0 then -1 else nI (q (bst sv (i + 1) - 1)))), (3, .int (nI (6 * (D 13 0 - 1) * (n - 1) + 6 * n))), (4, .int (nI i))] [] μ8 := fun μ8 z1 z2 => by
            refine bX12_sooner_131 E ?_
            rw [nI_add]
            exact ih (i + 1) μ8 _ (by omega) (fun _ => z1) (fun _ => rfl) z2
          have r117 : ∀ μ8, μ8 = μ7 → (bst sv i = 0 ∨ sv i < sv (bst sv i - 1)) → JS Z X 117 [(0, mrf Z), (1, .int (nI l)), (3, .int (nI (6 * (D 13 0 - 1) * (n - 1) + 6 * n))), (4, .int (nI i))] [] μ8 := fun μ8 e c => by
            subst e
            refine bX12_sooner_117 E (vin (by omega) (by omega)) (m_copy a1 (by decide) (by decide)) fun μ9 z => ?_
            have e1 : bst sv (i + 1) = i + 1 := if_pos c
            have nx := r131 μ9
            rw [e1, if_neg (by omega), Nat.add_sub_cancel] at nx
            rw [ix_nI (by omega), T7.2 i (by omega)]
            exact nx z.1 (F7.tr (z.2.gp (by simp)))
          refine bX12_sooner_103 E (fun d => ?_) (fun d => ?_)
          · refine r117 μ7 rfl (Or.inl ?_)
            rcases Nat.eq_zero_or_pos (bst sv i) with hz | hz
            · exact hz
            · rw [if_neg (by omega)] at d
              exact absurd (show nI (q (bst sv i - 1)) < 0 by rw [d]; decide) (Int32.not_lt.mpr (nI_pos' (roL _ (by omega))))
          have bn : bst sv i ≠ 0 := fun z => d (by rw [if_pos z])
          refine bX12_sooner_108 E (m_compare a1 (b7 bn) (by decide) (by decide)) fun v μ8 j => ?_
          obtain ⟨rfl, e8⟩ := j
          rw [cmp_mul Sp]
          refine bX12_sooner_114 E (fun x => ?_) (fun x => ?_)
          · rw [cmp_ge] at x
            subst e8
            have e1 : bst sv (i + 1) = bst sv i := if_neg (fun g => Or.elim g bn (fun g => by omega))
            have nx := r131 μ8
            rw [e1] at nx
            exact nx (b7 bn) F7
          · rw [cmp_ge] at x
            exact r117 μ8 e8 (Or.inr (by omega))
        | succ k' ihk =>
          intro t μ7 ht' a1 a2
          have F7 := F5.tr (a2.mo fun r hr => Or.inl hr)
          have r97 : ∀ μ8, RegV μ8 3 (pS F (fun t => decide (D 13 1 < hWk D q n n + t)) (t + 1)) → FrGP (fun r => r = 3) μ5 μ8 → JS Z X 97 [(0, mrf Z), (1, .int (nI l)), (2, .int (if bst sv i = 0 then -1 else nI (q (bst sv i - 1)))), (3, .int (nI (6 * (D 13 0 - 1) * (n - 1) + 6 * n))), (4, .int (nI i)), (5, .int (nI t))] [] μ8 := fun μ8 z1 z2 => by
            refine bX12_sooner_97 E ?_
            rw [nI_add]
            exact ihk (t + 1) μ8 (by omega) z1 z2
          have e17 : μ7 455 17 = nI (hWk D q n n) := by rw [F7.1 _ (by decide)]; exact Y.1
          have e202 : μ7 456 202 = nI (D 13 1) := by rw [F7.1 _ (by decide)]; exact R3.2.1.2.1 1 (by omega)
          refine bX12_sooner_62 E (fun c => absurd c (by rw [nI_leE (by omega) (by omega)]; omega)) (fun _ => ?_)
          refine bX12_sooner_69 E (vin (by omega) (by omega)) (fun d => ?_) (fun d => ?_)
          · rw [ix_nI (by omega), e17, e202, nI_add, nI_leE (by omega) (by omega)] at d
            refine r97 _ ?_ a2
            rw [pS, if_neg (by simp; omega), Nat.add_zero]
            exact a1
          · rw [ix_nI (by omega), e17, e202, nI_add, nI_leE (by omega) (by omega)] at d
            have pb := pS_b (P := fun t => decide (D 13 1 < hWk D q n n + t)) bB t
            have bt := bB t
            refine bX12_sooner_87 E (by rw [nI_add]; exact m_add a1 ((h2 t (by omega)).gp a2 (by omega)) (by decide) (by omega) (by omega) (Nat.lt_of_le_of_lt (Nat.le_trans (Nat.add_le_add (Nat.le_trans pb (Nat.mul_le_mul_right _ (show t ≤ 40 by omega))) bt) (Nat.le_of_eq (by omega))) bd)) fun μ9 z => ?_
            refine r97 μ9 ?_ (a2.tr (z.2.gp (by simp)))
            rw [pS, if_pos (by simp; omega)]
            exact z.1
      exact inner 40 0 μ6 (by omega) j1 (j2.gp (by simp))
  have z := loop n 0 μ3 0 (by omega) (fun h => absurd rfl h) (fun h => absurd h (by omega)) FrGP.rf
  rw [if_pos (show bst sv 0 = 0 from rfl)] at z
  exact bX12_sooner_29 E z
end ENDS
