/-! PUBLIC calls on hunts: what all share; riddles -/
section PUBH
variable {Z : ZT} {μ : Mu} {D : DD} {im : Nat → Option DD} {tx : TX} {s : Nat → Int32} {f : Nat × Nat}
/-- a Big that may be written -/
def GB (o : Nat) : Prop := SH o = .inl 0 ∧ o ≠ 298 ∧ ∀ c, c < 6 → o ≠ 362 + 2 * c
theorem SC.gb {μ' : Mu} {o v : Nat} (q : SC μ) (g : GB o) (hF : Fr [o, o + 1] μ μ') (h : BigV μ' o v) : SC μ' := q.big hF h (fun e => by have := g.1; rw [e] at this; exact absurd this (by decide)) g.2.1 g.2.2
theorem GB.of {o : Nat} (h : SH o = .inl 0) (h1 : o < 298 ∨ 374 ≤ o) : GB o := ⟨h, by omega, fun c hc => by omega⟩
theorem q_set {o v : Nat} (q : SC μ) (g : GB o) (hv : v < 1073741824) : CtrS Z mX0_set [rf Z o, .int (nI v)] μ (rV fun μ' => BigV μ' o v ∧ SC μ' ∧ Fr [o, o + 1] μ μ') := by
  obtain ⟨v0, h0⟩ := q.1 o g.1
  exact (c_set h0 hv).moV fun μ' h => ⟨h.1, q.gb g h.2 h.1, h.2⟩
theorem q_copy {o a v : Nat} (q : SC μ) (g : GB o) (hv : BigV μ a v) : CtrS Z mX0_copy [rf Z o, rf Z a] μ (rV fun μ' => BigV μ' o v ∧ SC μ' ∧ Fr [o, o + 1] μ μ') := by
  obtain ⟨v0, h0⟩ := q.1 o g.1
  exact (c_copy h0 hv).moV fun μ' h => ⟨h.1, q.gb g h.2 h.1, h.2⟩
theorem q_times {o v m : Nat} (q : SC μ) (g : GB o) (h : BigV μ o v) (hm : m < 2147483648) (hv : v * m < 1073741824 ^ 24) : CtrS Z mX0_times [rf Z o, .int (nI m)] μ (rV fun μ' => BigV μ' o (v * m) ∧ SC μ' ∧ Fr [o, o + 1] μ μ') :=
  (c_times h hm hv).moV fun μ' h => ⟨h.1, q.gb g h.2 h.1, h.2⟩
theorem q_addTimes {o a x y m : Nat} (q : SC μ) (g : GB o) (h : BigV μ o x) (hy : BigV μ a y) (hne : o ≠ a) (hm : m < 2147483647) (hv : x + y * m < 1073741824 ^ 24) : CtrS Z mX0_addTimes [rf Z o, rf Z a, .int (nI m)] μ (rV fun μ' => BigV μ' o (x + y * m) ∧ SC μ' ∧ Fr [o, o + 1] μ μ') :=
  (c_addTimes h hy hne hm hv).moV fun μ' h => ⟨h.1, q.gb g h.2 h.1, h.2⟩
theorem q_addProduct {o a b z x y : Nat} (q : SC μ) (g : GB o) (h : BigV μ o z) (hx : BigV μ a x) (hy : BigV μ b y) (na : o ≠ a) (nb : o ≠ b) (hv : z + x * y < 1073741824 ^ 24) : CtrS Z mX0_addProduct [rf Z o, rf Z a, rf Z b] μ (rV fun μ' => BigV μ' o (z + x * y) ∧ SC μ' ∧ Fr [o, o + 1] μ μ') :=
  (c_addProduct h hx hy na nb hv).moV fun μ' h => ⟨h.1, q.gb g h.2 h.1, h.2⟩
theorem q_setDifference {o a b x y : Nat} (q : SC μ) (g : GB o) (hx : BigV μ a x) (hy : BigV μ b y) : CtrS Z mX0_setDifference [rf Z o, rf Z a, rf Z b] μ (rV fun μ' => BigV μ' o (adf x y) ∧ SC μ' ∧ Fr [o, o + 1] μ μ') := by
  obtain ⟨v0, h0⟩ := q.1 o g.1
  exact (c_setDifference h0 hx hy).moV fun μ' h => ⟨h.1, q.gb g h.2 h.1, h.2⟩
/-- another Big stays -/
theorem BigV.ot {μ' : Mu} {o a v : Nat} (h : BigV μ a v) (hF : Fr [o, o + 1] μ μ') (ho : SH o = .inl 0) (hne : a ≠ o) : BigV μ' a v := by
  have h1 := big_ne ho h.1
  have h2 := big_ne h.1 ho
  exact h.fr hF (by simp; omega) (by simp; omega)
theorem tenp {t : Nat} (ht : t ≤ 216) : 10 ^ t < 1073741824 ^ 24 := Nat.lt_of_le_of_lt (Nat.pow_le_pow_right (by decide) ht) (by decide)
theorem x_tell {o v t : Nat} (R : RepC μ D im tx s f) (hv : BigV μ o v) (ho : o ∉ FRS) (ht : t ≤ 216) : CtrS Z mX2_set [rf Z 446, rf Z o, .int (nI t)] μ (rV fun μ' => RepC μ' D im tx s (lowF v t) ∧ Fr FRS μ μ') :=
  (c_fset R.2.2.2.2.1 hv ho (by omega) (tenp ht)).moV fun μ' h => by
    obtain ⟨N, B, h1, h2, h3⟩ := h
    rw [← low_eq h2]
    exact ⟨R.frac h3 h1, h3⟩
theorem y_tell {r v t : Nat} (R : RepM μ D im tx s f) (h : RegV μ r v) (hr : r < 281) (h1 : r ≠ 1) (ht : t ≤ 216) : CtrS Z mX12_tell [mrf Z, .int (nI r), .int (nI t)] μ (rV fun μ' => RepM μ' D im tx s (lowF v t) ∧ FrT [0, 1, 6] μ μ') :=
  (m_tell h hr h1 (by omega) (Nat.lt_trans (tenp ht) (by decide))).moV fun μ' h => by
    obtain ⟨N, B, k1, k2, k3⟩ := h
    rw [← low_eq k2]
    exact ⟨R.frac ⟨fun x h1 h2 => k3.1 x h1 h2, k3.2.1 _ (by decide)⟩ k1, k3⟩
/-- a call that is refused, on either side -/
theorem x_ref {v : Int32} (R : RepC μ D im tx s f) : CtrS Z mX11_counted [xrf Z, .int v] μ (rI fun r μ' => r = v ∧ RepC μ' D im tx (cnt s v) f ∧ FrX μ μ') :=
  (c_counted (s := s) R.2.2.1).moI fun _ μ' h => ⟨h.1, xstep (μ1 := μ) R R.1 Fr.rf h.2.1 h.2.2 fun _ _ => rfl⟩
theorem y_ref {v : Int32} (R : RepM μ D im tx s f) (O : OkS D im tx) : CtrS Z mX12_refuse [mrf Z, .int v] μ (rI fun r μ' => r = v ∧ RepM μ' D im tx (cnt s v) f ∧ FrY μ μ') :=
  (m_refuse (s := s) R.2.2.1).moI fun _ μ' h => ⟨h.1, ystay R O h.2.1 h.2.2⟩
theorem FrX.tr {μ1 μ2 : Mu} (h1 : FrX μ μ1) (h2 : FrX μ1 μ2) : FrX μ μ2 := fun a ha => (h2 a ha).trans (h1 a ha)
theorem FrY.tr {μ1 μ2 : Mu} (h1 : FrY μ μ1) (h2 : FrY μ1 μ2) : FrY μ μ2 := fun a ha => (h2 a ha).trans (h1 a ha)
theorem FRS.x {μ' : Mu} (h : Fr FRS μ μ') : FrX μ μ' := fun a ha => h a (by simp; omega)
theorem FrT.y {S : List Nat} {μ' : Mu} (h : FrT S μ μ') : FrY μ μ' := fun a ha => h.1 a (by omega) (by omega)
/-- the class' hunt, with all that the state is -/
theorem x_canHunt {o l : Nat} (ho : SH o = .inl 4) (hd : 78 ≤ o) (hd2 : o ≤ 85) (R : RepC μ D im tx s f) (O : OkS D im tx) (hl : l < 2) : CtrS Z mX11_canHunt [xrf Z, rf Z o, .int (nI l)] μ (rI fun v μ' => v = (if hOk D (ro D l) (D 11 l) = true then nI 1 else nI 0) ∧ (hOk D (ro D l) (D 11 l) = true → HLd μ' o D l (ro D l) (D 11 l) (D 11 l)) ∧ HQ μ' o l (ro D l) (D 11 l) ∧ MC μ' D ∧ KL μ' D ∧ RepC μ' D im tx s f ∧ Fr (hSt o) μ μ') :=
  (c_canHunt ho hd R.1 R.2.1 O.1.1 O.1.2 hl).moI fun _ μ' h => ⟨h.1, h.2.1, h.2.2.1, h.2.2.2.1, h.2.2.2.2.1, (hSt_P hd hd2 h.2.2.2.2.2).rep R (hSt_SC hd hd2 h.2.2.2.2.2 R.2.2.2.2.2.2), h.2.2.2.2.2⟩
def oRiddles (D : DD) (s : Nat → Int32) (f : Nat × Nat) (a i : Int32) : Int32 × (Nat → Int32) × (Nat × Nat) := if inN a 2 ∧ inN i (D 11 (ix a)) then (if hOk D (ro D (ix a)) (D 11 (ix a)) = true then (nI 1, s, lowF (1000000 - hMs D (ix a) (ro D (ix a)) (ix i)) 6) else (-3, cnt s (-3), f)) else (-2, cnt s (-2), f)
theorem x_riddles {a i : Int32} (R : RepC μ D im tx s f) (O : OkS D im tx) : CtrS Z mX11_riddles [xrf Z, .int a, .int i] μ (rI fun v μ' => v = (oRiddles D s f a i).1 ∧ RepC μ' D im tx (oRiddles D s f a i).2.1 (oRiddles D s f a i).2.2 ∧ FrX μ μ') := by
  refine CtrS.intro (by decide +kernel) (Nat.le_of_ble_eq_true rfl) rfl fun X E hB => ?_
  have no : ¬ (inN a 2 ∧ inN i (D 11 (ix a))) → JS Z X 24 [(0, xrf Z)] [] μ := fun c => by
    have e : oRiddles D s f a i = (-2, cnt s (-2), f) := if_neg c
    rw [e] at hB
    exact bX11_riddles_24 E (x_ref R) fun v μ2 h => bX11_riddles_30 E hB ⟨_, rfl, h⟩
  refine bX11_riddles_0 E (c_within (n := 2) (by decide)) fun v μ1 g => ?_
  obtain ⟨rfl, rfl⟩ := g
  refine bX11_riddles_5 E (fun c => ?_) (fun c => ?_)
  · rw [bz] at c
    exact no fun g => c g.1
  · rw [bz] at c
    have c := Decidable.not_not.mp c
    obtain ⟨ha, ea⟩ := inN_of c (by decide)
    have w := (O.1.1.2.2.2.2.2.2.2 _ ha).1
    refine bX11_riddles_8 E (by rw [ea]; exact vin (by omega) (by omega)) (by rw [show μ1 (1 + 11) (ix a) = _ from (R.1.2.2.2.2.2.2.2.2 _ ha).1]; exact c_within (by omega)) fun v μ2 g => ?_
    obtain ⟨rfl, rfl⟩ := g
    refine bX11_riddles_21 E (fun d => ?_) (fun d => ?_)
    rotate_left
    · rw [bz] at d
      exact no fun g => d g.2
    rw [bz] at d
    have d := Decidable.not_not.mp d
    have e : oRiddles D s f a i = _ := if_pos ⟨c, d⟩
    rw [e] at hB
    obtain ⟨hi, ei⟩ := inN_of d (by omega)
    clear no d c e
    generalize ix a = l at ha ea hB w hi
    generalize ix i = k at hi ei hB
    subst ea ei
    refine bX11_riddles_31 E (x_canHunt (o := 78) rfl (by decide) (by decide) R O ha) fun v μ3 g => ?_
    obtain ⟨rfl, g1, g2, g3, g4, R3, gF⟩ := g
    have fx : FrX μ2 μ3 := fun x hx => gF x (by simp; omega)
    refine bX11_riddles_40 E (fun c => ?_) (fun c => ?_)
    · rw [bz] at c
      have c := Decidable.not_not.mp c
      rw [if_pos c] at hB
      have ms := miss_le (D := D) (l := l + 1) (k := D 8 (ro D l k)) (p := hAt D (ro D l) k) 6
      have ms' : hMs D l (ro D l) k ≤ 1000000 := ms
      refine bX11_riddles_50 E (vin (by omega) (by omega)) (by rw [ix_nI (by omega), ((g1 c).2.2 k hi).2.1, nI_sub (by omega)]; exact q_set R3.2.2.2.2.2.2 (GB.of rfl (by decide)) (by omega)) fun μ4 h => ?_
      have R4 := (FrP.ofFr h.2.2 (by decide)).rep R3 h.2.1
      refine bX11_riddles_69 E (x_tell R4 h.1 (by decide) (by decide)) fun μ5 h5 => ?_
      exact bX11_riddles_82 E hB ⟨_, rfl, rfl, h5.1, fx.tr ((FrP.ofFr h.2.2 (by decide)).x.tr (FRS.x h5.2))⟩
    · rw [bz] at c
      rw [if_neg c] at hB
      refine bX11_riddles_43 E (x_ref R3) fun v μ4 h => bX11_riddles_49 E hB ⟨_, rfl, h.1, h.2.1, fx.tr h.2.2⟩
theorem m_kind {q : Nat → Nat} {n i : Nat} (H : HM (μ 456) 0 D) (W : WF D) (Q : QO D q n) (T : RowQ μ q n) (hi : i < n) : vp_in (nI i) 6 ∧ vp_in (nI 163 + μ 462 (ix (nI i))) 988 ∧ μ 456 (ix (nI 163 + μ 462 (ix (nI i)))) = nI (D 8 (q i)) ∧ D 8 (q i) < 4 := by
  have n6 := Q.1
  have lt := Q.2 i hi
  have hS := W.2.2.1
  have g := (H.2.2.2.2.2.2.1 _ lt).2.1
  have w := (W.2.2.2.2.2.2.1 _ lt).2.1
  rw [show 0 + 163 + q i = 163 + q i by omega] at g
  rw [ix_nI (show i < 2147483648 by omega), T.2 i hi, nI_add, ix_nI (by omega)]
  exact ⟨vin (by omega) (by omega), vin (by omega) (by omega), g, by omega⟩
theorem y_riddles {a i : Int32} (R : RepM μ D im tx s f) (O : OkS D im tx) : CtrS Z mX12_riddles [mrf Z, .int a, .int i] μ (rI fun v μ' => v = (oRiddles D s f a i).1 ∧ RepM μ' D im tx (oRiddles D s f a i).2.1 (oRiddles D s f a i).2.2 ∧ FrY μ μ') := by
  refine CtrS.intro (by decide +kernel) (Nat.le_of_ble_eq_true rfl) rfl fun X E hB => ?_
  have no : ¬ (inN a 2 ∧ inN i (D 11 (ix a))) → JS Z X 27 [(0, mrf Z)] [] μ := fun c => by
    have e : oRiddles D s f a i = (-2, cnt s (-2), f) := if_neg c
    rw [e] at hB
    exact bX12_riddles_27 E (y_ref R O) fun v μ2 h => bX12_riddles_33 E hB ⟨_, rfl, h⟩
  refine bX12_riddles_0 E m_isLot fun v μ1 g => ?_
  obtain ⟨rfl, rfl⟩ := g
  refine bX12_riddles_4 E (fun c => ?_) (fun c => ?_)
  · rw [bz] at c
    exact no fun g => c g.1
  · rw [bz] at c
    have c := Decidable.not_not.mp c
    obtain ⟨ha, ea⟩ := inN_of c (by decide)
    have w := (O.1.1.2.2.2.2.2.2.2 _ ha).1
    have h8 := (R.1.2.2.2.2.2.2.2 _ ha).1
    rw [show 0 + 187 + ix a = 187 + ix a by omega] at h8
    have e1 : nI 187 + a = nI (187 + ix a) := by rw [← nI_add, ← ea]
    refine bX12_riddles_7 E (by rw [e1]; exact vin (by omega) (by omega)) m_in fun v μ2 g => ?_
    obtain ⟨rfl, rfl⟩ := g
    rw [e1, ix_nI (by omega), h8]
    have le1 : (nI 0 ≤ i ∧ i ≤ nI (D 11 (ix a)) - nI 1) ↔ inN i (D 11 (ix a)) := by
      refine and_congr_right fun h0 => ?_
      have h0 : ¬ i < 0 := by rw [Int32.not_lt]; exact h0
      obtain ⟨j, hj, rfl⟩ := nI_of h0
      rcases Nat.eq_zero_or_pos (D 11 (ix a)) with z | z
      · rw [z]
        refine ⟨fun h => ?_, fun h => ?_⟩
        · exact absurd (Int32.le_trans (nI_pos' hj) h) (by decide)
        · rw [nI_ltE hj (by omega)] at h; omega
      · rw [nI_sub (by omega), nI_leE hj (by omega), nI_ltE hj (by omega)]; omega
    refine bX12_riddles_24 E (fun d => ?_) (fun d => ?_)
    rotate_left
    · rw [bz] at d
      exact no fun g => d (le1.mpr g.2)
    rw [bz] at d
    have d := le1.mp (Decidable.not_not.mp d)
    have e : oRiddles D s f a i = _ := if_pos ⟨c, d⟩
    rw [e] at hB
    obtain ⟨hi, ei⟩ := inN_of d (by omega)
    clear no d c e le1 e1
    generalize ix a = l at ha ea hB w hi h8
    generalize ix i = k at hi ei hB
    subst ea ei
    refine bX12_riddles_34 E (m_isHunt R O ha) fun v μ3 g => ?_
    obtain ⟨rfl, g1, g2, g3, R3, gF, -⟩ := g
    refine bX12_riddles_39 E (fun c => ?_) (fun c => ?_)
    · rw [bz] at c
      have c := Decidable.not_not.mp c
      rw [if_pos c] at hB
      obtain ⟨k1, k2, k3, k4⟩ := m_kind R3.1 O.1.1 (QO.row O.1.1 ha) g2 hi
      have ha3 : D 13 3 < D 0 0 := by
        unfold hOk at c
        simp only [Bool.and_eq_true, decide_eq_true_eq] at c
        exact c.1.1.1
      have at1 := hAt_lt O.1.1 (QO.row O.1.1 ha) ha3 hi
      have hn := O.1.1.1
      have ms := miss_le (D := D) (l := l + 1) (k := D 8 (ro D l k)) (p := hAt D (ro D l) k) 6
      refine bX12_riddles_49 E k1 k2 k1 (by rw [k3, ix_nI (by omega), ((g1 c).2 k hi).1]; exact m_missesAt R3.1 O.1.1 ha k4 (by omega)) fun v μ4 g => ?_
      obtain ⟨rfl, rfl⟩ := g
      refine bX12_riddles_79 E (by rw [nI_sub ms]; exact m_set (r := 2) (by decide) (by omega)) fun μ5 h => ?_
      have q5 := FrQ.ofG h.2 (by decide)
      refine bX12_riddles_83 E (y_tell (q5.rep R3) h.1 (by decide) (by decide) (by decide)) fun μ6 h6 => ?_
      exact bX12_riddles_90 E hB ⟨_, rfl, rfl, h6.1, (gF.tr q5).y.tr h6.2.y⟩
    · rw [bz] at c
      rw [if_neg c] at hB
      refine bX12_riddles_42 E (y_ref R3 O) fun v μ4 h => bX12_riddles_48 E hB ⟨_, rfl, h.1, h.2.1, gF.y.tr h.2.2⟩
end PUBH
