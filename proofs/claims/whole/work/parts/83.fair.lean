/-! FAIR -/
def fa (D : DD) (l : Nat) (q : Nat → Nat) (n : Nat) : Nat → Bool × Nat × Nat
  | 0 => (false, 0, 0)
  | c + 1 => if D 6 c = l + 1 then (true, (if (fa D l q n c).1 = false ∨ (fa D l q n c).2.1 < guN D l q c n then guN D l q c n else (fa D l q n c).2.1), (if (fa D l q n c).1 = false ∨ guN D l q c n < (fa D l q n c).2.2 then guN D l q c n else (fa D l q n c).2.2)) else fa D l q n c
theorem fa_le {D : DD} {l n : Nat} {q : Nat → Nat} : ∀ c, (fa D l q n c).2.2 ≤ (fa D l q n c).2.1
  | 0 => Nat.le_refl 0
  | c + 1 => by
    have ih := fa_le (D := D) (l := l) (n := n) (q := q) c
    unfold fa
    by_cases e : D 6 c = l + 1
    · rw [if_pos e]
      dsimp only
      by_cases z : (fa D l q n c).1 = false
      · rw [if_pos (Or.inl z), if_pos (Or.inl z)]; exact Nat.le_refl _
      · simp only [z, false_or]
        split <;> split <;> omega
    · rw [if_neg e]; exact ih
theorem fa_b {D : DD} {l n B : Nat} {q : Nat → Nat} (h : ∀ c, guN D l q c n ≤ B) : ∀ c, (fa D l q n c).2.1 ≤ B
  | 0 => Nat.zero_le _
  | c + 1 => by
    have ih := fa_b h c
    unfold fa
    by_cases e : D 6 c = l + 1
    · rw [if_pos e]
      dsimp only
      split
      · exact h c
      · exact ih
    · rw [if_neg e]; exact ih
theorem adf_le {x y : Nat} (h : y ≤ x) : adf x y = x - y := by unfold adf; omega
def oFair (D : DD) (s : Nat → Int32) (f : Nat × Nat) (a : Int32) : Int32 × (Nat → Int32) × (Nat × Nat) := if inN a 2 then (if hOk D (ro D (ix a)) (D 11 (ix a)) = true then (nI 1, s, lowF ((fa D (ix a) (ro D (ix a)) (D 11 (ix a)) (D 0 1)).2.1 - (fa D (ix a) (ro D (ix a)) (D 11 (ix a)) (D 0 1)).2.2) (6 * (D 13 0 - 1) + 6)) else (-3, cnt s (-3), f)) else (-2, cnt s (-2), f)
abbrev bI (b : Bool) : Int32 := if b = true then nI 1 else nI 0
theorem bI0 {b : Bool} : (bI b = 0) = (b = false) := by cases b <;> simp [bI] <;> decide
section FAIR
variable {Z : ZT} {μ : Mu} {D : DD} {im : Nat → Option DD} {tx : TX} {s : Nat → Int32} {f : Nat × Nat}
abbrev UNS (o h : Nat) : List Nat := [o, o + 1, 97, 98, 99, 100, 101, 102, 103, 104, h + 4]
theorem c_ofUnfairness {o h l n : Nat} {q : Nat → Nat} (ho : GB o) (hd : 104 < o) (hh : SH h = .inl 4) (H : HC μ 1 D) (N : NC μ 27 D) (W : WF D) (WW : WN D) (sc : SC μ) (hl : l < 2) (Q : QO D q n) (h3 : D 13 3 < D 0 0) (T : HQ μ h l q n) (L : HLd μ h D l q n n) : CtrS Z mX5_ofUnfairness [rf Z 92, rf Z o, rf Z h] μ (rV fun μ' => BigV μ' o ((fa D l q n (D 0 1)).2.1 - (fa D l q n (D 0 1)).2.2) ∧ SC μ' ∧ Fr (UNS o h) μ μ') := by
  refine CtrS.intro (by decide +kernel) (Nat.le_of_ble_eq_true rfl) rfl fun X E hB => ?_
  have n6 := Q.1
  have hC := W.2.1
  have hh2 := hun_le hh
  have g103 : GB 103 := GB.of rfl (by decide)
  have g101 : GB 101 := GB.of rfl (by decide)
  have loop : ∀ k c μ1, c + k = D 0 1 → BigV μ1 103 (fa D l q n c).2.1 → BigV μ1 o (fa D l q n c).2.2 → SC μ1 → Fr (UNS o h) μ μ1 → JS Z X 18 [(0, rf Z 92), (1, rf Z o), (2, rf Z h), (3, .int (bI (fa D l q n c).1)), (4, .int (nI c))] [] μ1 := by
    intro k
    induction k with
    | zero =>
      intro c μ1 hc h1 h2 h4 hF
      have : c = D 0 1 := hc
      subst this
      refine bX5_ofUnfairness_18 E ho.1 hh (fun _ => ?_) (fun d => absurd (by rw [hF 1 (by simp; omega), show μ 1 3 = _ from H.2.2.1, nI_leE (by omega) (by omega)]; omega) d)
      refine bX5_ofUnfairness_118 E ho.1 (q_setDifference h4 ho h1 h2) fun μ2 g => ?_
      rw [adf_le (fa_le _)] at g
      exact bX5_ofUnfairness_127 E hB ⟨rfl, g.1, g.2.1, hF.tr (g.2.2.mo (by simp))⟩
    | succ k ih =>
      intro c μ1 hc h1 h2 h4 hF
      have H1 : HC μ1 1 D := H.fr fun x hx => hF _ (by simp; omega)
      have N1 : NC μ1 27 D := N.fr fun x hx => hF _ (by simp; omega)
      have T1 : HQ μ1 h l q n := T.congr (hF _ (by simp; omega)) (hF _ (by simp; omega))
      have L1 : HLd μ1 h D l q n n := L.congr (hF _ (by simp; omega)) (hF _ (by simp; omega)) (hF _ (by simp; omega)) (hF _ (by simp; omega)) (hF _ (by simp; omega))
      have w6 := (W.2.2.2.2.2.1 c (by omega)).2.2.2
      have h6 : μ1 (1 + 6) c = lotI (D 6 c) := (H1.2.2.2.2.2.2.1 c (by omega)).2.2.2
      have nx := ih (c + 1)
      have end' : ∀ μ2, BigV μ2 103 (fa D l q n (c + 1)).2.1 → BigV μ2 o (fa D l q n (c + 1)).2.2 → SC μ2 → Fr (UNS o h) μ μ2 → JS Z X 112 [(0, rf Z 92), (1, rf Z o), (2, rf Z h), (3, .int (bI (fa D l q n (c + 1)).1)), (4, .int (nI c))] [] μ2 := fun μ2 k1 k2 k3 k4 => by
        refine bX5_ofUnfairness_112 E ho.1 hh ?_
        rw [nI_add]
        exact nx μ2 (by omega) k1 k2 k3 k4
      refine bX5_ofUnfairness_18 E ho.1 hh (fun d => absurd d (by rw [show μ1 1 3 = _ from H1.2.2.1, nI_leE (by omega) (by omega)]; omega)) (fun _ => ?_)
      refine bX5_ofUnfairness_30 E ho.1 hh (vin (by omega) (by omega)) (fun d => ?_) (fun d => ?_)
      · rw [ix_nI (by omega), h6, T1.1, lotE w6 hl] at d
        have z := end' μ1
        rw [show fa D l q n (c + 1) = fa D l q n c from if_neg d] at z
        exact z h1 h2 h4 hF
      rw [ix_nI (by omega), h6, T1.1, lotE w6 hl] at d
      refine bX5_ofUnfairness_47 E ho.1 hh (c_ofGuessed g101 (by decide) hh H1 N1 W WW h4 hl Q h3 T1 L1 (show c < 6 by omega)) fun μ2 g => ?_
      obtain ⟨g1, g2, g3⟩ := g
      have a2 := big_ne ho.1 (show SH 101 = .inl 0 from rfl)
      have m2 : BigV μ2 103 (fa D l q n c).2.1 := h1.fr g3 (by simp; omega) (by simp; omega)
      have o2 : BigV μ2 o (fa D l q n c).2.2 := h2.fr g3 (by simp; omega) (by simp; omega)
      have F2 := hF.tr (g3.mo (S' := UNS o h) (by simp))
      have fe : fa D l q n (c + 1) = _ := if_pos d
      have k110 : ∀ μ3, BigV μ3 103 (fa D l q n (c + 1)).2.1 → BigV μ3 o (fa D l q n (c + 1)).2.2 → SC μ3 → Fr (UNS o h) μ μ3 → JS Z X 110 [(0, rf Z 92), (1, rf Z o), (2, rf Z h), (4, .int (nI c))] [] μ3 := fun μ3 k1 k2 k3 k4 => by
        refine bX5_ofUnfairness_110 E ho.1 hh ?_
        have z := end' μ3 k1 k2 k3 k4
        rw [show (fa D l q n (c + 1)).1 = true by rw [fe]] at z
        exact z
      have k102 : ∀ μ3, ((fa D l q n c).1 = false ∨ guN D l q c n < (fa D l q n c).2.2) → BigV μ3 103 (fa D l q n (c + 1)).2.1 → BigV μ3 101 (guN D l q c n) → SC μ3 → Fr (UNS o h) μ μ3 → JS Z X 102 [(0, rf Z 92), (1, rf Z o), (2, rf Z h), (4, .int (nI c))] [] μ3 := fun μ3 y k1 k2 k3 k4 => by
        refine bX5_ofUnfairness_102 E ho.1 hh (q_copy k3 ho k2) fun μ4 j => ?_
        refine k110 μ4 (k1.ot j.2.2 ho.1 (by omega)) ?_ j.2.1 (k4.tr (j.2.2.mo (by simp)))
        rw [fe, if_pos y]; exact j.1
      have k87 : ∀ μ3, BigV μ3 103 (fa D l q n (c + 1)).2.1 → BigV μ3 o (fa D l q n c).2.2 → BigV μ3 101 (guN D l q c n) → SC μ3 → Fr (UNS o h) μ μ3 → JS Z X 87 [(0, rf Z 92), (1, rf Z o), (2, rf Z h), (3, .int (bI (fa D l q n c).1)), (4, .int (nI c))] [] μ3 := fun μ3 k1 k2 k3 k4 k5 => by
        refine bX5_ofUnfairness_87 E ho.1 hh (fun y => ?_) (fun y => ?_)
        · rw [bI0] at y
          exact k102 μ3 (Or.inl y) k1 k3 k4 k5
        rw [bI0] at y
        refine bX5_ofUnfairness_91 E ho.1 hh (c_compare k3 k2) fun v μ4 j => ?_
        obtain ⟨rfl, rfl⟩ := j
        refine bX5_ofUnfairness_99 E ho.1 hh (fun x => ?_) (fun x => ?_)
        · rw [cmp_ge] at x
          refine k110 μ4 k1 ?_ k4 k5
          rw [fe, if_neg (show ¬ ((fa D l q n c).1 = false ∨ guN D l q c n < (fa D l q n c).2.2) from fun g => Or.elim g y (fun g => by omega))]; exact k2
        · rw [cmp_ge] at x
          exact k102 μ4 (Or.inr (by omega)) k1 k3 k4 k5
      have k76 : ∀ μ3, μ3 = μ2 → ((fa D l q n c).1 = false ∨ (fa D l q n c).2.1 < guN D l q c n) → JS Z X 76 [(0, rf Z 92), (1, rf Z o), (2, rf Z h), (3, .int (bI (fa D l q n c).1)), (4, .int (nI c))] [] μ3 := fun μ3 e y => by
        subst e
        refine bX5_ofUnfairness_76 E ho.1 hh (q_copy g2 g103 g1) fun μ4 j => ?_
        refine k87 μ4 ?_ (o2.ot j.2.2 rfl (by omega)) (g1.ot j.2.2 rfl (by decide)) j.2.1 (F2.tr (j.2.2.mo (by simp)))
        rw [fe, if_pos y]; exact j.1
      refine bX5_ofUnfairness_58 E ho.1 hh (fun y => ?_) (fun y => ?_)
      · rw [bI0] at y
        exact k76 μ2 rfl (Or.inl y)
      rw [bI0] at y
      refine bX5_ofUnfairness_62 E ho.1 hh (c_compare g1 m2) fun v μ4 j => ?_
      obtain ⟨rfl, e4⟩ := j
      refine bX5_ofUnfairness_73 E ho.1 hh (fun x => ?_) (fun x => ?_)
      · rw [cmp_le] at x
        subst e4
        refine k87 _ ?_ o2 g1 g2 F2
        rw [fe, if_neg (show ¬ ((fa D l q n c).1 = false ∨ (fa D l q n c).2.1 < guN D l q c n) from fun g => Or.elim g y (fun g => by omega))]; exact m2
      · rw [cmp_le] at x
        exact k76 μ4 e4 (Or.inr (by omega))
  refine bX5_ofUnfairness_0 E ho.1 hh (q_set sc g103 (by decide)) fun μ1 g => ?_
  refine bX5_ofUnfairness_10 E ho.1 hh (q_set g.2.1 ho (by decide)) fun μ2 k => bX5_ofUnfairness_15 E ho.1 hh ?_
  exact loop (D 0 1) 0 μ2 (by omega) (g.1.ot k.2.2 ho.1 (by omega)) k.1 k.2.1 ((g.2.2.mo (by simp)).tr (k.2.2.mo (by simp)))
theorem x_fair {a : Int32} (R : RepC μ D im tx s f) (O : OkS D im tx) : CtrS Z mX11_fair [xrf Z, .int a] μ (rI fun v μ' => v = (oFair D s f a).1 ∧ RepC μ' D im tx (oFair D s f a).2.1 (oFair D s f a).2.2 ∧ FrX μ μ') := by
  refine CtrS.intro (by decide +kernel) (Nat.le_of_ble_eq_true rfl) rfl fun X E hB => ?_
  refine bX11_fair_0 E (c_within (n := 2) (by decide)) fun v μ1 g => ?_
  obtain ⟨rfl, rfl⟩ := g
  refine bX11_fair_5 E (fun c => ?_) (fun c => ?_)
  rotate_left
  · rw [bz] at c
    have e : oFair D s f a = _ := if_neg c
    rw [e] at hB
    exact bX11_fair_8 E (x_ref R) fun v μ2 h => bX11_fair_14 E hB ⟨_, rfl, h⟩
  rw [bz] at c
  have c := Decidable.not_not.mp c
  have e : oFair D s f a = _ := if_pos c
  rw [e] at hB
  obtain ⟨ha, ea⟩ := inN_of c (by decide)
  have w6 := (O.1.1.2.2.2.2.2.2.2 _ ha).1
  clear c e
  generalize ix a = l at ha ea hB w6
  subst ea
  refine bX11_fair_15 E (x_canHunt (o := 78) rfl (by decide) (by decide) R O ha) fun v μ3 g => ?_
  obtain ⟨rfl, g1, g2, -, -, R3, gF⟩ := g
  have fx : FrX μ1 μ3 := fun x hx => gF x (by simp; omega)
  refine bX11_fair_24 E (fun c => ?_) (fun c => ?_)
  rotate_left
  · rw [bz] at c
    rw [if_neg c] at hB
    exact bX11_fair_27 E (x_ref R3) fun v μ4 h => bX11_fair_33 E hB ⟨_, rfl, h.1, h.2.1, fx.tr h.2.2⟩
  rw [bz] at c
  have c := Decidable.not_not.mp c
  rw [if_pos c] at hB
  have L := g1 c
  refine bX11_fair_34 E (c_begin R3.2.1 O.1.2 R3.2.2.2.2.2.2) fun μ4 h => ?_
  obtain ⟨h1, h2, h3⟩ := h
  have P4 : FrP μ3 μ4 := FrP.ofFr h3 (by decide)
  have R4 := P4.rep R3 h2
  have Q4 : HQ μ4 78 l (ro D l) (D 11 l) := g2.congr (h3 _ (by decide)) (h3 _ (by decide))
  have L4 : HLd μ4 78 D l (ro D l) (D 11 l) (D 11 l) := L.congr (h3 _ (by decide)) (h3 _ (by decide)) (h3 _ (by decide)) (h3 _ (by decide)) (h3 _ (by decide))
  refine bX11_fair_41 E (c_ofUnfairness (o := 451) (GB.of rfl (by decide)) (by decide) rfl R4.1 R4.2.1 O.1.1 O.1.2 R4.2.2.2.2.2.2 ha (QO.row O.1.1 ha) (hOk_3 c).1 Q4 L4) fun μ5 k => ?_
  obtain ⟨k1, k2, k3⟩ := k
  have P5 : FrP μ4 μ5 := FrP.ofFr k3 (by decide)
  have R5 := P5.rep R4 k2
  have h13 := O.1.2.1.2.1
  refine bX11_fair_56 E (by rw [k3 _ (by decide), h1.1, nI_add]; exact x_tell R5 k1 (by decide) (by omega)) fun μ6 h6 => ?_
  exact bX11_fair_77 E hB ⟨_, rfl, rfl, h6.1, fx.tr (P4.x.tr (P5.x.tr (FRS.x h6.2)))⟩
theorem y_fair {a : Int32} (R : RepM μ D im tx s f) (O : OkS D im tx) : CtrS Z mX12_fair [mrf Z, .int a] μ (rI fun v μ' => v = (oFair D s f a).1 ∧ RepM μ' D im tx (oFair D s f a).2.1 (oFair D s f a).2.2 ∧ FrY μ μ') := by
  refine CtrS.intro (by decide +kernel) (Nat.le_of_ble_eq_true rfl) rfl fun X E hB => ?_
  refine bX12_fair_0 E m_isLot fun v μ1 g => ?_
  obtain ⟨rfl, rfl⟩ := g
  refine bX12_fair_4 E (fun c => ?_) (fun c => ?_)
  rotate_left
  · rw [bz] at c
    have e : oFair D s f a = _ := if_neg c
    rw [e] at hB
    exact bX12_fair_7 E (y_ref R O) fun v μ2 h => bX12_fair_13 E hB ⟨_, rfl, h⟩
  rw [bz] at c
  have c := Decidable.not_not.mp c
  have e : oFair D s f a = _ := if_pos c
  rw [e] at hB
  obtain ⟨ha, ea⟩ := inN_of c (by decide)
  have w6 := (O.1.1.2.2.2.2.2.2.2 _ ha).1
  clear c e
  generalize ix a = l at ha ea hB w6
  subst ea
  refine bX12_fair_14 E (m_isHunt R O ha) fun v μ3 g => ?_
  obtain ⟨rfl, g1, g2, g3, R3, gF, -⟩ := g
  refine bX12_fair_19 E (fun c => ?_) (fun c => ?_)
  rotate_left
  · rw [bz] at c
    rw [if_neg c] at hB
    exact bX12_fair_22 E (y_ref R3 O) fun v μ4 h => bX12_fair_28 E hB ⟨_, rfl, h.1, h.2.1, gF.y.tr h.2.2⟩
  rw [bz] at c
  have c := Decidable.not_not.mp c
  rw [if_pos c] at hB
  have W := O.1.1
  have WW := O.1.2
  have hC := W.2.1
  have Y := g1 c
  generalize hq : ro D l = q at *
  have Q : QO D q (D 11 l) := hq ▸ QO.row W ha
  have h13 := (hOk_3 c).1
  generalize hnn : D 11 l = n at *
  have bS : ∀ v, v ≤ 10 ^ 38 → v * 1000000 ^ (6 - D 13 0) < 1073741824 ^ 27 := fun v hv => Nat.lt_of_le_of_lt (Nat.mul_le_mul hv (Nat.pow_le_pow_right (by decide) (show 6 - D 13 0 ≤ 6 by omega))) (by decide)
  generalize hsc : 1000000 ^ (6 - D 13 0) = sc at *
  have scp : 0 < sc := by rw [← hsc]; exact Nat.pow_pos (by decide)
  have loop : ∀ k c μ4, c + k = D 0 1 → RegV μ4 4 ((fa D l q n c).2.1 * sc) → RegV μ4 5 ((fa D l q n c).2.2 * sc) → FrG [2, 3, 4, 5, 8] μ3 μ4 → JS Z X 45 [(0, mrf Z), (1, .int (nI l)), (2, .int (bI (fa D l q n c).1)), (3, .int (nI c))] [] μ4 := by
    intro k
    induction k with
    | zero =>
      intro c μ4 hc h1 h2 hF
      have : c = D 0 1 := hc
      subst this
      have q4 := FrQ.ofG hF (by decide)
      refine bX12_fair_45 E (vin (by omega) (by omega)) (fun _ => ?_) (fun d => absurd (by rw [ix_nI (by omega), hF.1 456 (by decide), show μ3 456 111 = _ from R3.1.2.1, nI_leE (by omega) (by omega)]; omega) d)
      refine bX12_fair_127 E (m_less h1 h2 (by decide) (by decide) (by decide) (Nat.mul_le_mul_right _ (fa_le _))) fun μ5 g => ?_
      rw [← Nat.sub_mul] at g
      have q5 := q4.tr (FrQ.ofG g.2 (by decide))
      refine bX12_fair_133 E (y_tell (q5.rep R3) g.1 (by decide) (by decide) (by decide)) fun μ6 h6 => ?_
      rw [← hsc, low_h6 WW] at h6
      exact bX12_fair_140 E hB ⟨_, rfl, rfl, h6.1, (gF.tr q5).y.tr h6.2.y⟩
    | succ k ih =>
      intro c μ4 hc h1 h2 hF
      have q4 := FrQ.ofG hF (by decide)
      have R4 := q4.rep R3
      have T4 : RowQ μ4 q n := ⟨by rw [hF.1 _ (by decide)]; exact g2.1, fun j hj => by rw [hF.1 _ (by decide)]; exact g2.2 j hj⟩
      have Y4 : HY μ4 D q n := ⟨by rw [hF.1 _ (by decide)]; exact Y.1, fun j hj => by rw [hF.1 _ (by decide), hF.1 _ (by decide)]; exact Y.2 j hj⟩
      have w6 := (W.2.2.2.2.2.1 c (by omega)).2.2.2
      have h6 := (R4.1.2.2.2.2.2.1 c (by omega)).2.2.2
      rw [show 0 + 148 + c = 148 + c by omega] at h6
      have nx := ih (c + 1)
      have end' : ∀ μ2, RegV μ2 4 ((fa D l q n (c + 1)).2.1 * sc) → RegV μ2 5 ((fa D l q n (c + 1)).2.2 * sc) → FrG [2, 3, 4, 5, 8] μ3 μ2 → JS Z X 121 [(0, mrf Z), (1, .int (nI l)), (2, .int (bI (fa D l q n (c + 1)).1)), (3, .int (nI c))] [] μ2 := fun μ2 k1 k2 k3 => by
        refine bX12_fair_121 E ?_
        rw [nI_add]
        exact nx μ2 (by omega) k1 k2 k3
      refine bX12_fair_45 E (vin (by omega) (by omega)) (fun d => absurd d (by rw [ix_nI (by omega), hF.1 456 (by decide), show μ3 456 111 = _ from R3.1.2.1, nI_leE (by omega) (by omega)]; omega)) (fun _ => ?_)
      refine bX12_fair_56 E (by rw [nI_add]; exact vin (by omega) (by omega)) (fun d => ?_) (fun d => ?_)
      · rw [nI_add, ix_nI (by omega), h6, lotE w6 ha] at d
        have z := end' μ4
        rw [show fa D l q n (c + 1) = fa D l q n c from if_neg d] at z
        exact z h1 h2 hF
      rw [nI_add, ix_nI (by omega), h6, lotE w6 ha] at d
      refine bX12_fair_70 E (m_guessedTo (r := 8) R4.1 R4.2.1 W WW ha Q h13 T4 Y4 (show c < D 0 1 by omega) d (by decide) (by decide) (by decide)) fun μ5 g => ?_
      rw [hsc] at g
      obtain ⟨g1, g3⟩ := g
      have m2 := h1.fr g3 (by decide)
      have o2 := h2.fr g3 (by decide)
      have F2 := hF.tr (g3.mo (S' := [2, 3, 4, 5, 8]) (by decide))
      have fe : fa D l q n (c + 1) = _ := if_pos d
      have k119 : ∀ μ3', RegV μ3' 4 ((fa D l q n (c + 1)).2.1 * sc) → RegV μ3' 5 ((fa D l q n (c + 1)).2.2 * sc) → FrG [2, 3, 4, 5, 8] μ3 μ3' → JS Z X 119 [(0, mrf Z), (1, .int (nI l)), (3, .int (nI c))] [] μ3' := fun μ3' k1 k2 k3 => by
        refine bX12_fair_119 E ?_
        have z := end' μ3' k1 k2 k3
        rw [show (fa D l q n (c + 1)).1 = true by rw [fe]] at z
        exact z
      have k112 : ∀ μ3', ((fa D l q n c).1 = false ∨ guN D l q c n < (fa D l q n c).2.2) → RegV μ3' 4 ((fa D l q n (c + 1)).2.1 * sc) → RegV μ3' 8 (guN D l q c n * sc) → FrG [2, 3, 4, 5, 8] μ3 μ3' → JS Z X 112 [(0, mrf Z), (1, .int (nI l)), (3, .int (nI c))] [] μ3' := fun μ3' y k1 k2 k4 => by
        refine bX12_fair_112 E (m_copy k2 (by decide) (by decide)) fun μ6 j => ?_
        refine k119 μ6 (k1.fr j.2 (by decide)) ?_ (k4.tr (j.2.mo (by decide)))
        rw [fe, if_pos y]; exact j.1
      have k98 : ∀ μ3', RegV μ3' 4 ((fa D l q n (c + 1)).2.1 * sc) → RegV μ3' 5 ((fa D l q n c).2.2 * sc) → RegV μ3' 8 (guN D l q c n * sc) → FrG [2, 3, 4, 5, 8] μ3 μ3' → JS Z X 98 [(0, mrf Z), (1, .int (nI l)), (2, .int (bI (fa D l q n c).1)), (3, .int (nI c))] [] μ3' := fun μ3' k1 k2 k3 k5 => by
        refine bX12_fair_98 E (fun y => ?_) (fun y => ?_)
        · rw [bI0] at y
          exact k112 μ3' (Or.inl y) k1 k3 k5
        rw [bI0] at y
        refine bX12_fair_102 E (m_compare k3 k2 (by decide) (by decide)) fun v μ6 j => ?_
        obtain ⟨rfl, rfl⟩ := j
        rw [cmp_mul scp]
        refine bX12_fair_109 E (fun x => ?_) (fun x => ?_)
        · rw [cmp_ge] at x
          refine k119 μ6 k1 ?_ k5
          rw [fe, if_neg (show ¬ ((fa D l q n c).1 = false ∨ guN D l q c n < (fa D l q n c).2.2) from fun g => Or.elim g y (fun g => by omega))]; exact k2
        · rw [cmp_ge] at x
          exact k112 μ6 (Or.inr (by omega)) k1 k3 k5
      have k91 : ∀ μ3', μ3' = μ5 → ((fa D l q n c).1 = false ∨ (fa D l q n c).2.1 < guN D l q c n) → JS Z X 91 [(0, mrf Z), (1, .int (nI l)), (2, .int (bI (fa D l q n c).1)), (3, .int (nI c))] [] μ3' := fun μ3' e y => by
        subst e
        refine bX12_fair_91 E (m_copy g1 (by decide) (by decide)) fun μ6 j => ?_
        refine k98 μ6 ?_ (o2.fr j.2 (by decide)) (g1.fr j.2 (by decide)) (F2.tr (j.2.mo (by decide)))
        rw [fe, if_pos y]; exact j.1
      refine bX12_fair_77 E (fun y => ?_) (fun y => ?_)
      · rw [bI0] at y
        exact k91 μ5 rfl (Or.inl y)
      rw [bI0] at y
      refine bX12_fair_81 E (m_compare g1 m2 (by decide) (by decide)) fun v μ6 j => ?_
      obtain ⟨rfl, e6⟩ := j
      rw [cmp_mul scp]
      refine bX12_fair_88 E (fun x => ?_) (fun x => ?_)
      · rw [cmp_le] at x
        subst e6
        refine k98 _ ?_ o2 g1 F2
        rw [fe, if_neg (show ¬ ((fa D l q n c).1 = false ∨ (fa D l q n c).2.1 < guN D l q c n) from fun g => Or.elim g y (fun g => by omega))]; exact m2
      · rw [cmp_le] at x
        exact k91 μ6 e6 (Or.inr (by omega))
  refine bX12_fair_29 E (m_set (r := 4) (by decide) (by decide)) fun μ4 g => ?_
  refine bX12_fair_37 E (m_set (r := 5) (by decide) (by decide)) fun μ5 k => bX12_fair_43 E ?_
  exact loop (D 0 1) 0 μ5 (by omega) (by rw [show (fa D l q n 0).2.1 * sc = 0 from Nat.zero_mul _]; exact g.1.fr k.2 (by decide)) (by rw [show (fa D l q n 0).2.2 * sc = 0 from Nat.zero_mul _]; exact k.1) ((g.2.mo (by decide)).tr (k.2.mo (by decide)))
end FAIR
