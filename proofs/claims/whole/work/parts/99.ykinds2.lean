/-! KINDS: the reference's public call -/
section YKINDS2
variable {Z : ZT} {μ : Mu} {D : DD} {im : Nat → Option DD} {tx : TX} {s : Nat → Int32} {f : Nat × Nat}
def KP (μ : Mu) (S : Nat) (st : KT4) : Prop := st.1 = true → RegV μ 4 (st.2.2.1 * S) ∧ RegV μ 5 (st.2.2.2 * S)
abbrev KNP (r : Nat) : Prop := r = 2 ∨ (100 ≤ r ∧ r < 280)
theorem y_kinds {a i : Int32} (R : RepM μ D im tx s f) (O : OkS D im tx) : CtrS Z mX12_kinds [mrf Z, .int a, .int i] μ (rI fun v μ' => v = (oKinds D s f a i).1 ∧ RepM μ' D im tx (oKinds D s f a i).2.1 (oKinds D s f a i).2.2 ∧ FrY μ μ') := by
  refine CtrS.intro (by decide +kernel) (Nat.le_of_ble_eq_true rfl) rfl fun X E hB => ?_
  have no : ¬ (inN a 2 ∧ inN i 6) → JS Z X 16 [(0, mrf Z)] [] μ := fun c => by
    have e : oKinds D s f a i = _ := if_neg c
    rw [e] at hB
    exact bX12_kinds_16 E (y_ref R O) fun v μ2 h => bX12_kinds_22 E hB ⟨_, rfl, h⟩
  refine bX12_kinds_0 E m_isLot fun v μ1 g => ?_
  obtain ⟨rfl, rfl⟩ := g
  refine bX12_kinds_4 E (fun c => ?_) (fun c => ?_)
  · rw [bz] at c
    exact no fun g => c g.1
  rw [bz] at c
  have c := Decidable.not_not.mp c
  refine bX12_kinds_7 E m_in fun v μ2 g => ?_
  obtain ⟨rfl, rfl⟩ := g
  have le1 : (nI 0 ≤ i ∧ i ≤ nI 5) ↔ inN i 6 := by
    refine and_congr_right fun h0 => ?_
    have h0 : ¬ i < 0 := by rw [Int32.not_lt]; exact h0
    obtain ⟨j, hj, rfl⟩ := nI_of h0
    rw [nI_leE hj (by omega), nI_ltE hj (by omega)]; omega
  refine bX12_kinds_13 E (fun d => ?_) (fun d => ?_)
  rotate_left
  · rw [bz] at d
    exact no fun g => d (le1.mpr g.2)
  rw [bz] at d
  have d := le1.mp (Decidable.not_not.mp d)
  have e : oKinds D s f a i = _ := if_pos ⟨c, d⟩
  rw [e] at hB
  obtain ⟨ha, ea⟩ := inN_of c (by decide)
  obtain ⟨hi, ei⟩ := inN_of d (by omega)
  have W := O.1.1
  have WW := O.1.2
  have w6 := (W.2.2.2.2.2.2.2 _ ha).1
  clear no d c e le1
  generalize ix a = l at ha ea hB w6
  generalize ix i = ii at hi ei hB
  subst ea ei
  refine bX12_kinds_23 E (m_isHunt R O ha) fun v μ3 g => ?_
  obtain ⟨rfl, g1, g2, g3, R3, gF, -⟩ := g
  refine bX12_kinds_28 E (fun c => ?_) (fun c => ?_)
  rotate_left
  · rw [bz] at c
    rw [if_neg c] at hB
    exact bX12_kinds_31 E (y_ref R3 O) fun v μ4 h => bX12_kinds_37 E hB ⟨_, rfl, h.1, h.2.1, gF.y.tr h.2.2⟩
  rw [bz] at c
  have c := Decidable.not_not.mp c
  rw [if_pos c] at hB
  have Y := g1 c
  have h33 := (hOk_3 c).1
  have Qr := QO.row W ha
  have hC := W.2.1
  have hn := W.1
  have h13 := WW.1.2.1
  generalize hq : ro D l = q at *
  generalize hnn : D 11 l = n at *
  have p4 := p4_le w6
  have p4p : 0 < 4 ^ n := Nat.pow_pos (by decide)
  have rsh := fun ms => rs_h WW ms
  have lh6 := fun v => low_h6 WW v
  have tK := fun (μ : Mu) (t : Nat) (H : HM (μ 456) 0 D) (N : NM (μ 456) 0 D) (e13 : μ 455 13 = nI n) (e17 : μ 455 17 = nI (hWk D q n n)) (ht : t < 4 ^ n) (K : KY μ D l q n (1000000 ^ (6 - D 13 0))) => m_tryKinds (Z := Z) H N W WW ha w6 e13 e17 ht K
  have Sp : 0 < 1000000 ^ (6 - D 13 0) := Nat.pow_pos (by decide)
  have Sl : 1000000 ^ (6 - D 13 0) ≤ 10 ^ 36 := Nat.le_trans (Nat.pow_le_pow_right (by decide) (show 6 - D 13 0 ≤ 6 by omega)) (by decide)
  generalize hS : 1000000 ^ (6 - D 13 0) = S at *
  have kt := kX_t (D := D) (l := l) (q := q) (n := n) (4 ^ n) p4p
  have klt := kX_lt (D := D) (l := l) (q := q) (n := n) (4 ^ n)
  -- the end
  have fin : ∀ μ4, KP μ4 S (kX D l q n (4 ^ n)) → FrQ μ2 μ4 → μ4 455 13 = nI n → (kX D l q n (4 ^ n)).2.1 < 4 ^ n → JS Z X 289 [(0, mrf Z), (2, .int (nI ii)), (4, .int (nI (kX D l q n (4 ^ n)).2.1))] [] μ4 := fun μ4 k1 q4 e13 bl => by
    have R4 := q4.rep R
    refine bX12_kinds_289 E (y_tell R4 (k1 kt).1 (by decide) (by decide) (by decide)) fun μ5 h5 => ?_
    rw [lh6] at h5
    have e5 : μ5 455 13 = nI n := by rw [h5.2.2.1 _ (by decide)]; exact e13
    refine bX12_kinds_296 E (m_setKinds w6 e5 (by omega)) fun μ6 z => ?_
    have q6 : FrQ μ5 μ6 := FrQ.ofFr z.2 (by decide)
    have R6 := q6.rep h5.1
    refine bX12_kinds_302 E (fun d => ?_) (fun d => ?_)
    · rw [z.2 _ (by decide), e5, nI_leE (by omega) (by omega)] at d
      rw [if_neg (by omega)] at hB
      exact bX12_kinds_319 E (bX12_kinds_321 E hB ⟨_, rfl, rfl, R6, q4.y.tr (h5.2.y.tr q6.y)⟩)
    · rw [z.2 _ (by decide), e5, nI_leE (by omega) (by omega)] at d
      rw [if_pos (by omega)] at hB
      refine bX12_kinds_310 E (vin (by omega) (by omega)) (bX12_kinds_321 E hB ⟨_, rfl, ?_, R6, q4.y.tr (h5.2.y.tr q6.y)⟩)
      rw [ix_nI (by omega)]
      exact z.1 ii (by omega)
  -- what all searches keep
  have e13 : μ3 455 13 = nI n := g2.1
  have e17 : μ3 455 17 = nI (hWk D q n n) := Y.1
  have search : ∀ k t μ4, t + k = 4 ^ n → KP μ4 S (kX D l q n t) → KY μ4 D l q n S → (kX D l q n t).2.1 ≤ t ∧ (0 < t → (kX D l q n t).2.1 < t) → FrQ μ2 μ4 → (∀ a, a ≠ 465 → a ≠ 467 → μ4 a = μ3 a) → JS Z X 213 [(0, mrf Z), (1, .int (nI l)), (2, .int (nI ii)), (3, .int (nI (4 ^ n))), (4, .int (if (kX D l q n t).1 = true then nI (kX D l q n t).2.1 else -1)), (5, .int (nI t))] [] μ4 := by
    intro k
    induction k with
    | zero =>
      intro t μ4 ht k1 k2 k3 k4 k5
      have ht : t = 4 ^ n := ht
      subst ht
      rw [if_pos kt]
      exact bX12_kinds_213 E (fun _ => fin μ4 k1 k4 (by rw [k5 _ (by decide) (by decide)]; exact e13) (k3.2 p4p)) (fun c => absurd (by rw [nI_leE (by omega) (by omega)]; omega) c)
    | succ k ih =>
      intro t μ4 ht k1 k2 k3 k4 k5
      have R4 := k4.rep R
      refine bX12_kinds_213 E (fun c => absurd c (by rw [nI_leE (by omega) (by omega)]; omega)) (fun _ => ?_)
      refine bX12_kinds_219 E (tK μ4 t R4.1 R4.2.1 (by rw [k5 _ (by decide) (by decide)]; exact e13) (by rw [k5 _ (by decide) (by decide)]; exact e17) (by omega) k2) fun μ5 g => ?_
      obtain ⟨v8, v9, F5⟩ := g
      have q5 := k4.tr (FrQ.ofGK F5 (by omega))
      have f5 : ∀ a, a ≠ 465 → a ≠ 467 → μ5 a = μ3 a := fun a h1 h2 => by rw [F5.1 a h1 h2]; exact k5 a h1 h2
      have K5 : KY μ5 D l q n S := fun x hx => ⟨(k2 x hx).1.gk F5 (by omega), fun c hc h6 => ((k2 x hx).2 c hc h6).gk F5 (by omega)⟩
      have O5 : KP μ5 S (kX D l q n t) := fun h => ⟨(k1 h).1.gk F5 (by omega), (k1 h).2.gk F5 (by omega)⟩
      have kx : kX D l q n (t + 1) = if (kX D l q n t).1 = false ∨ (kX D l q n t).2.2.1 < kV D l q n (d4 n t) ∨ (kV D l q n (d4 n t) = (kX D l q n t).2.2.1 ∧ kF D l q n (d4 n t) < (kX D l q n t).2.2.2) then (true, t, kV D l q n (d4 n t), kF D l q n (d4 n t)) else kX D l q n t := rfl
      have r283 : ∀ μ6, KP μ6 S (kX D l q n (t + 1)) → KY μ6 D l q n S → FrQ μ2 μ6 → (∀ a, a ≠ 465 → a ≠ 467 → μ6 a = μ3 a) → JS Z X 283 [(0, mrf Z), (1, .int (nI l)), (2, .int (nI ii)), (3, .int (nI (4 ^ n))), (4, .int (if (kX D l q n (t + 1)).1 = true then nI (kX D l q n (t + 1)).2.1 else -1)), (5, .int (nI t))] [] μ6 := fun μ6 z1 z2 z3 z4 => by
        refine bX12_kinds_283 E ?_
        rw [nI_add]
        refine ih (t + 1) μ6 (by omega) z1 z2 ⟨kX_lt _, fun _ => ?_⟩ z3 z4
        rw [kx]
        split
        · exact Nat.lt_succ_self t
        · exact Nat.lt_succ_of_le k3.1
      have take : ∀ μ6, μ6 = μ5 → ((kX D l q n t).1 = false ∨ (kX D l q n t).2.2.1 < kV D l q n (d4 n t) ∨ (kV D l q n (d4 n t) = (kX D l q n t).2.2.1 ∧ kF D l q n (d4 n t) < (kX D l q n t).2.2.2)) → JS Z X 265 [(0, mrf Z), (1, .int (nI l)), (2, .int (nI ii)), (3, .int (nI (4 ^ n))), (5, .int (nI t))] [] μ6 := fun μ6 e y => by
        subst e
        refine bX12_kinds_265 E (m_copy v8 (by decide) (by decide)) fun μ7 z => ?_
        refine bX12_kinds_272 E (m_copy (v9.fr z.2 (by decide)) (by decide) (by decide)) fun μ8 w => bX12_kinds_279 E ?_
        have F8 : FrG [4, 5] μ6 μ8 := (z.2.mo (by simp)).tr (w.2.mo (by simp))
        have nx := r283 μ8
        rw [kx, if_pos y] at nx
        exact nx (fun _ => ⟨z.1.fr w.2 (by decide), w.1⟩) (fun x hx => ⟨(K5 x hx).1.fr F8 (by simp; omega), fun c hc h6 => ((K5 x hx).2 c hc h6).fr F8 (by simp; omega)⟩) (q5.tr (FrQ.ofG F8 (by decide))) (fun a h1 h2 => by rw [F8.1 a h1]; exact f5 a h1 h2)
      have skip : ¬ ((kX D l q n t).1 = false ∨ (kX D l q n t).2.2.1 < kV D l q n (d4 n t) ∨ (kV D l q n (d4 n t) = (kX D l q n t).2.2.1 ∧ kF D l q n (d4 n t) < (kX D l q n t).2.2.2)) → JS Z X 283 [(0, mrf Z), (1, .int (nI l)), (2, .int (nI ii)), (3, .int (nI (4 ^ n))), (4, .int (if (kX D l q n t).1 = true then nI (kX D l q n t).2.1 else -1)), (5, .int (nI t))] [] μ5 := fun y => by
        have nx := r283 μ5
        rw [kx, if_neg y] at nx
        exact nx O5 K5 q5 f5
      generalize hst : kX D l q n t = st at *
      cases hs : st.1 with
      | false =>
        rw [if_neg (show ¬ false = true by decide)]
        refine bX12_kinds_226 E (fun c => absurd rfl c) (fun _ => bX12_kinds_232 E ?_)
        exact bX12_kinds_243 E (fun _ => take μ5 rfl (Or.inl hs)) (fun c => absurd (by decide) c)
      | true =>
        rw [if_pos rfl]
        rw [if_pos hs] at skip
        have sl : st.2.1 < 2147483648 := by omega
        refine bX12_kinds_226 E (fun _ => ?_) (fun c => absurd (show nI st.2.1 < 0 by rw [c]; decide) (Int32.not_lt.mpr (nI_pos' sl)))
        refine bX12_kinds_236 E (m_compare v8 (O5 hs).1 (by decide) (by decide)) fun v μ6 w => ?_
        obtain ⟨rfl, e6⟩ := w
        rw [cmp_mul Sp, e6]
        refine bX12_kinds_243 E (fun y => ?_) (fun y => ?_)
        · rw [cmp_gt] at y
          exact take μ5 rfl (Or.inr (Or.inl y))
        · rw [cmp_gt] at y
          have ce : (cmpV (kV D l q n (d4 n t)) st.2.2.1 = 0) = (kV D l q n (d4 n t) = st.2.2.1) := by
            unfold cmpV
            by_cases h : kV D l q n (d4 n t) < st.2.2.1
            · rw [if_pos h, eq_false (show ¬ kV D l q n (d4 n t) = st.2.2.1 by omega)]; exact eq_false (by decide)
            · rw [if_neg h, if_pos (show kV D l q n (d4 n t) = st.2.2.1 by omega), eq_true (show kV D l q n (d4 n t) = st.2.2.1 by omega)]
              exact eq_true rfl
          refine bX12_kinds_250 E (fun z => ?_) (fun z => ?_)
          · rw [ce] at z
            refine skip (fun g => ?_)
            rcases g with g | g | g
            · rw [hs] at g; exact absurd g (by decide)
            · omega
            · exact z g.1
          · rw [ce] at z
            refine bX12_kinds_255 E (m_compare v9 (O5 hs).2 (by decide) (by decide)) fun v μ7 w => ?_
            obtain ⟨rfl, e7⟩ := w
            rw [cmp_mul Sp, e7]
            refine bX12_kinds_262 E (fun x => ?_) (fun x => ?_)
            · rw [cmp_ge] at x
              refine skip (fun g => ?_)
              rcases g with g | g | g
              · rw [hs] at g; exact absurd g (by decide)
              · omega
              · omega
            · rw [cmp_ge] at x
              exact take μ5 rfl (Or.inr (Or.inr ⟨z, by omega⟩))
  -- 4 to the n
  have pow : ∀ k j μ4, j + k = n → KY μ4 D l q n S → FrQ μ2 μ4 → (∀ a, a ≠ 465 → a ≠ 467 → μ4 a = μ3 a) → JS Z X 188 [(0, mrf Z), (1, .int (nI l)), (2, .int (nI ii)), (3, .int (nI (4 ^ j))), (4, .int (nI j))] [] μ4 := by
    intro k
    induction k with
    | zero =>
      intro j μ4 hj k2 k4 k5
      have hj : j = n := hj
      subst hj
      refine bX12_kinds_188 E (fun _ => bX12_kinds_207 E ?_) (fun c => absurd (by rw [k5 _ (by decide) (by decide), e13, nI_leE (by omega) (by omega)]; omega) c)
      exact search (4 ^ j) 0 μ4 (by omega) (fun c => absurd (show false = true from c) (by decide)) k2 ⟨Nat.le_refl 0, fun c => absurd c (by decide)⟩ k4 k5
    | succ k ih =>
      intro j μ4 hj k2 k4 k5
      refine bX12_kinds_188 E (fun c => absurd c (by rw [k5 _ (by decide) (by decide), e13, nI_leE (by omega) (by omega)]; omega)) (fun _ => bX12_kinds_197 E ?_)
      rw [nI_mul, nI_add]
      exact ih (j + 1) μ4 (by omega) k2 k4 k5
  -- the tables
  have tabs : ∀ k x μ4, x + k = 4 * n → (∀ y, y < x → RegV μ4 (100 + y) (kR D l q (y / 4) (y % 4) * S) ∧ ∀ c, c < D 0 1 → D 6 c = l + 1 → RegV μ4 (130 + 6 * y + c) (kR D l q (y / 4) (y % 4) * kG D l q (y / 4) (y % 4) c * S)) → FrGP KNP μ3 μ4 → JS Z X 40 [(0, mrf Z), (1, .int (nI l)), (2, .int (nI ii)), (3, .int (nI x))] [] μ4 := by
    intro k
    induction k with
    | zero =>
      intro x μ4 hx k1 k2
      have hx : x = 4 * n := hx
      subst hx
      have q4 : FrQ μ2 μ4 := gF.tr (FrQ.ofGP k2 (by omega))
      refine bX12_kinds_40 E (fun _ => bX12_kinds_183 E ?_) (fun c => absurd (by rw [k2.1 _ (by decide), e13, nI_mul, nI_leE (by omega) (by omega)]; omega) c)
      exact pow n 0 μ4 (by omega) k1 q4 (fun a h1 _ => k2.1 a h1)
    | succ k ih =>
      intro x μ4 hx k1 k2
      have H4 : HM (μ4 456) 0 D := by rw [k2.1 _ (by decide)]; exact R3.1
      have N4 : NM (μ4 456) 0 D := by rw [k2.1 _ (by decide)]; exact R3.2.1
      have x4 : x / 4 < n := by omega
      have at1 := hAt_lt W Qr h33 x4
      have e4 : nI x / nI 4 = nI (x / 4) := pk_div (by omega) (by omega) (by omega)
      have er : nI x - nI (x / 4) * nI 4 = nI (x % 4) := by rw [← e4]; exact pk_rem (by omega) (by omega) (by omega)
      have ml := kM_le (D := D) (l := l) (q := q) (i := x / 4) (k := x % 4)
      have y1 := (Y.2 (x / 4) x4).1
      refine bX12_kinds_40 E (fun c => absurd c (by rw [k2.1 _ (by decide), e13, nI_mul, nI_leE (by omega) (by omega)]; omega)) (fun _ => ?_)
      refine bX12_kinds_50 E (by rw [e4]; exact vin (by omega) (by omega)) (by rw [e4, er, ix_nI (by omega), k2.1 463 (by decide), y1]; exact m_missesAt H4 W ha (by omega) (by omega)) fun v μ5 g => ?_
      obtain ⟨rfl, e5⟩ := g
      rw [e5]
      have me : miss D (l + 1) (x % 4) (hAt D q (x / 4)) 6 = kM D l q (x / 4) (x % 4) := rfl
      rw [me]
      refine bX12_kinds_66 E (vin (by omega) (by omega)) (by rw [nI_add, ix_nI (by omega), show μ4 456 201 = nI (D 13 0) from N4.2.1 0 (by omega)]; exact m_meanTo (by omega) (by omega) h13 ml) fun μ6 j => bX12_kinds_86 E ?_
      obtain ⟨j1, j2⟩ := j
      rw [rsh] at j1
      have j1 : RegV μ6 (100 + x) (kR D l q (x / 4) (x % 4) * S) := j1
      have F6 : FrGP KNP μ3 μ6 := k2.tr (j2.gp (by intro r hr; simp at hr; show r = 2 ∨ (100 ≤ r ∧ r < 280); omega))
      have k6 : ∀ y, y < x → RegV μ6 (100 + y) (kR D l q (y / 4) (y % 4) * S) ∧ ∀ c, c < D 0 1 → D 6 c = l + 1 → RegV μ6 (130 + 6 * y + c) (kR D l q (y / 4) (y % 4) * kG D l q (y / 4) (y % 4) c * S) := fun y hy => ⟨(k1 y hy).1.fr j2 (by simp; omega), fun c hc h6 => ((k1 y hy).2 c hc h6).fr j2 (by simp; omega)⟩
      have inner : ∀ k' c μ7, c + k' = D 0 1 → RegV μ7 (100 + x) (kR D l q (x / 4) (x % 4) * S) → (∀ c', c' < c → D 6 c' = l + 1 → RegV μ7 (130 + 6 * x + c') (kR D l q (x / 4) (x % 4) * kG D l q (x / 4) (x % 4) c' * S)) → (∀ y, y < x → RegV μ7 (100 + y) (kR D l q (y / 4) (y % 4) * S) ∧ ∀ c, c < D 0 1 → D 6 c = l + 1 → RegV μ7 (130 + 6 * y + c) (kR D l q (y / 4) (y % 4) * kG D l q (y / 4) (y % 4) c * S)) → FrGP KNP μ3 μ7 → JS Z X 89 [(0, mrf Z), (1, .int (nI l)), (2, .int (nI ii)), (3, .int (nI x)), (5, .int (nI c))] [] μ7 := by
        intro k'
        induction k' with
        | zero =>
          intro c μ7 hc s1 s2 s3 s4
          have hc : c = D 0 1 := hc
          subst hc
          refine bX12_kinds_89 E (vin (by omega) (by omega)) (fun _ => bX12_kinds_177 E ?_) (fun d => absurd (by rw [ix_nI (by omega), s4.1 456 (by decide), show μ3 456 111 = _ from R3.1.2.1, nI_leE (by omega) (by omega)]; omega) d)
          rw [nI_add]
          refine ih (x + 1) μ7 (by omega) (fun y hy => ?_) s4
          by_cases e : y = x
          · subst e; exact ⟨s1, s2⟩
          · exact s3 y (by omega)
        | succ k' ihk =>
          intro c μ7 hc s1 s2 s3 s4
          have H7 : HM (μ7 456) 0 D := by rw [s4.1 _ (by decide)]; exact R3.1
          have w6' := (W.2.2.2.2.2.1 c (by omega)).2.2.2
          have h6 := (H7.2.2.2.2.2.1 c (by omega)).2.2.2
          rw [show 0 + 148 + c = 148 + c by omega] at h6
          have eg : nI 130 + nI 6 * nI x + nI c = nI (130 + 6 * x + c) := by rw [nI_mul, nI_add, nI_add]
          have rl := kR_le WW (l := l) (i := x / 4) (k := x % 4) (q := q)
          refine bX12_kinds_89 E (vin (by omega) (by omega)) (fun d => absurd d (by rw [ix_nI (by omega), s4.1 456 (by decide), show μ3 456 111 = _ from R3.1.2.1, nI_leE (by omega) (by omega)]; omega)) (fun _ => ?_)
          refine bX12_kinds_101 E (by rw [eg, nI_add]; exact m_copy s1 (by omega) (by omega)) fun μ8 z => ?_
          obtain ⟨z1, z2⟩ := z
          have F8 : FrGP KNP μ3 μ8 := s4.tr (z2.gp (by intro r hr; simp at hr; show r = 2 ∨ (100 ≤ r ∧ r < 280); omega))
          have e8 : μ8 456 = μ7 456 := z2.1 _ (by decide)
          have done : ∀ g, g ≤ 900000 → (D 6 c = l + 1 → g = kG D l q (x / 4) (x % 4) c) → JS Z X 168 [(0, mrf Z), (1, .int (nI l)), (2, .int (nI ii)), (3, .int (nI x)), (5, .int (nI c))] [.int (nI g), .int (nI (130 + 6 * x + c)), mrf Z] μ8 := fun g hg hgd => by
            refine bX12_kinds_168 E (m_times z1 (by omega) (by omega) (Nat.lt_of_le_of_lt (Nat.mul_le_mul (Nat.mul_le_mul rl Sl) hg) (by decide))) fun μ9 w => bX12_kinds_171 E ?_
            obtain ⟨w1, w2⟩ := w
            rw [nI_add]
            refine ihk (c + 1) μ9 (by omega) ((s1.fr z2 (by simp; omega)).fr w2 (by simp; omega)) (fun c' hc' h6' => ?_) (fun y hy => ⟨((s3 y hy).1.fr z2 (by simp; omega)).fr w2 (by simp; omega), fun c'' hc'' h6' => (((s3 y hy).2 c'' hc'' h6').fr z2 (by simp; omega)).fr w2 (by simp; omega)⟩) (F8.tr (w2.gp (by intro r hr; simp at hr; show r = 2 ∨ (100 ≤ r ∧ r < 280); omega)))
            by_cases e : c' = c
            · subst e
              rw [hgd h6', Nat.mul_right_comm] at w1
              exact w1
            · exact ((s2 c' (by omega) h6').fr z2 (by simp; omega)).fr w2 (by simp; omega)
          refine bX12_kinds_120 E (by rw [nI_add]; exact vin (by omega) (by omega)) (fun d => ?_) (fun d => ?_)
          · rw [nI_add, ix_nI (by omega), e8, h6, lotE w6' ha] at d
            rw [eg]
            exact bX12_kinds_167 E (done 0 (by omega) (fun h => absurd h d))
          · rw [nI_add, ix_nI (by omega), e8, h6, lotE w6' ha] at d
            rw [eg]
            refine bX12_kinds_147 E (by rw [e4]; exact vin (by omega) (by omega)) (by rw [e4, er, ix_nI (show x / 4 < 2147483648 by omega), F8.1 463 (by decide), y1]; exact m_guessesAt (by rw [e8]; exact H7) W (show c < D 0 1 by omega) ha d (by omega) (by omega)) fun v μ9 w => ?_
            obtain ⟨rfl, e9⟩ := w
            rw [e9]
            refine bX12_kinds_164 E (done _ (gues_le W (by omega)) (fun _ => rfl))
      exact inner (D 0 1) 0 μ6 (by omega) j1 (fun c' hc' => absurd hc' (Nat.not_lt_zero c')) k6 F6
  exact bX12_kinds_38 E (tabs (4 * n) 0 μ3 (by omega) (fun y hy => absurd hy (Nat.not_lt_zero y)) FrGP.rf)
end YKINDS2
