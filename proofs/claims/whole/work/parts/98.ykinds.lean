/-! KINDS: the reference's -/
section YKINDS
variable {Z : ZT} {μ : Mu} {D : DD} {im : Nat → Option DD} {tx : TX} {s : Nat → Int32} {f : Nat × Nat}
/-- registers with P and the row of kinds may have changed -/
def FrGK (P : Nat → Prop) (μ μ' : Mu) : Prop := (∀ a, a ≠ 465 → a ≠ 467 → μ' a = μ a) ∧ ∀ i, (∀ r, P r → i < 27 * r ∨ 27 * r + 27 ≤ i) → μ' 465 i = μ 465 i
theorem FrGK.rf {P : Nat → Prop} : FrGK P μ μ := ⟨fun _ _ _ => rfl, fun _ _ => rfl⟩
theorem FrGK.tr {P : Nat → Prop} {μ1 μ2 : Mu} (h1 : FrGK P μ μ1) (h2 : FrGK P μ1 μ2) : FrGK P μ μ2 := ⟨fun a ha hb => (h2.1 a ha hb).trans (h1.1 a ha hb), fun i hi => (h2.2 i hi).trans (h1.2 i hi)⟩
theorem FrG.gk {P : Nat → Prop} {S : List Nat} {μ' : Mu} (h : FrG S μ μ') (hs : ∀ r ∈ S, P r) : FrGK P μ μ' := ⟨fun a ha _ => h.1 a ha, fun i hi => h.2 i fun r hr => hi r (hs r hr)⟩
theorem FrGK.row {P : Nat → Prop} {μ' : Mu} (h : Fr [467] μ μ') : FrGK P μ μ' := ⟨fun a _ hb => h a (by simpa using hb), fun i _ => by rw [h _ (by decide)]⟩
theorem FrGK.mo {P P' : Nat → Prop} {μ' : Mu} (h : FrGK P μ μ') (hs : ∀ r, P r → P' r) : FrGK P' μ μ' := ⟨h.1, fun i hi => h.2 i fun r hr => hi r (hs r hr)⟩
theorem RegV.gk {P : Nat → Prop} {μ' : Mu} {r v : Nat} (h : RegV μ r v) (hF : FrGK P μ μ') (hr : ¬ P r) : RegV μ' r v :=
  ⟨h.1, fun k hk => by rw [hF.2 _ (fun q hq => by have : q ≠ r := fun e => hr (e ▸ hq); omega)]; exact h.2 k hk⟩
theorem FrQ.ofGK {P : Nat → Prop} {μ' : Mu} (h : FrGK P μ μ') (hS : ∀ r, P r → 2 ≤ r) : FrQ μ μ' := ⟨fun a ha _ => h.1 a (by omega) (by omega), by rw [h.1 _ (by decide) (by decide)], by rw [h.1 _ (by decide) (by decide)], fun i hi => h.2 i fun r hr => by have := hS r hr; omega⟩
theorem m_setKinds {n t : Nat} (hn : n ≤ 6) (e13 : μ 455 13 = nI n) (ht : t < 4096) : CtrS Z mX12_setKinds [mrf Z, .int (nI t)] μ (rV fun μ' => (∀ i, i < n → μ' 467 i = nI (d4 n t i)) ∧ Fr [467] μ μ') := by
  refine CtrS.intro (by decide +kernel) (Nat.le_of_ble_eq_true rfl) rfl fun X E hB => ?_
  have loop : ∀ i μ1, i ≤ n → (∀ j, i ≤ j → j < n → μ1 467 j = nI (d4 n t j)) → Fr [467] μ μ1 → JS Z X 9 [(0, mrf Z), (2, .int (nI (t / 4 ^ (n - i)))), (3, .int (nI i + (-1)))] [] μ1 := by
    intro i
    induction i with
    | zero =>
      intro μ1 _ h hF
      exact bX12_setKinds_9 E (fun _ => bX12_setKinds_32 E hB ⟨rfl, fun j hj => h j (Nat.zero_le j) hj, hF⟩) (fun c => absurd (by decide) c)
    | succ j ih =>
      intro μ1 hi h hF
      have le : t / 4 ^ (n - (j + 1)) ≤ t := Nat.div_le_self _ _
      rw [nI_suc_m1]
      refine bX12_setKinds_9 E (fun c => absurd c (Int32.not_lt.mpr (nI_pos' (by omega)))) (fun _ => ?_)
      refine bX12_setKinds_13 E (vin (by omega) (by omega)) (bX12_setKinds_22 E ?_)
      rw [ix_nI (by omega), pk_rem (by omega) (by omega) (by omega), pk_div (by omega) (by omega) (by omega), Nat.div_div_eq_div_mul, show 4 ^ (n - (j + 1)) * 4 = 4 ^ (n - j) by rw [show 4 ^ (n - (j + 1)) * 4 = 4 ^ (n - (j + 1) + 1) from rfl]; congr 1; omega]
      refine ih _ (by omega) (fun x hx hxn => ?_) (hF.tr (Fr.uR (by simp)))
      rw [uR_s]
      exact upd_at (fun e => by rw [e]; unfold d4; rw [show n - 1 - j = n - (j + 1) by omega]) (fun e => h x (by omega) hxn)
  refine bX12_setKinds_0 E ?_
  rw [e13, nI_pre]
  have z := loop n μ (Nat.le_refl n) (fun j h1 h2 => by omega) Fr.rf
  rw [Nat.sub_self, Nat.pow_zero, Nat.div_one] at z
  exact z
/-- the tables of the reference -/
def KY (μ : Mu) (D : DD) (l : Nat) (q : Nat → Nat) (n S : Nat) : Prop := ∀ x, x < 4 * n → RegV μ (100 + x) (kR D l q (x / 4) (x % 4) * S) ∧ ∀ c, c < D 0 1 → D 6 c = l + 1 → RegV μ (130 + 6 * x + c) (kR D l q (x / 4) (x % 4) * kG D l q (x / 4) (x % 4) c * S)
abbrev TKP (r : Nat) : Prop := r = 3 ∨ (8 ≤ r ∧ r ≤ 11)
theorem m_tryKinds {l n t : Nat} {q : Nat → Nat} (H : HM (μ 456) 0 D) (N : NM (μ 456) 0 D) (W : WF D) (WW : WN D) (hl : l < 2) (hn : n ≤ 6) (e13 : μ 455 13 = nI n) (e17 : μ 455 17 = nI (hWk D q n n)) (ht : t < 4 ^ n) (K : KY μ D l q n (1000000 ^ (6 - D 13 0))) : CtrS Z mX12_tryKinds [mrf Z, .int (nI l), .int (nI t)] μ (rV fun μ' => RegV μ' 8 (kV D l q n (d4 n t) * 1000000 ^ (6 - D 13 0)) ∧ RegV μ' 9 (kF D l q n (d4 n t) * 1000000 ^ (6 - D 13 0)) ∧ FrGK TKP μ μ') := by
  refine CtrS.intro (by decide +kernel) (Nat.le_of_ble_eq_true rfl) rfl fun X E hB => ?_
  have p4 := p4_le hn
  have hC := W.2.1
  have h13 := WW.1.2.1
  have mh := mil_h WW
  have gs := gN_s WW
  have Sp : 0 < 1000000 ^ (6 - D 13 0) := Nat.pow_pos (by decide)
  have Sl : 1000000 ^ (6 - D 13 0) ≤ 10 ^ 36 := Nat.le_trans (Nat.pow_le_pow_right (by decide) (show 6 - D 13 0 ≤ 6 by omega)) (by decide)
  unfold KY at K
  have hB' := hB
  generalize hS : 1000000 ^ (6 - D 13 0) = S at *
  clear hB'
  have wl := hWk_le (D := D) (q := q) (n := n) n
  refine bX12_tryKinds_0 E (m_setKinds hn e13 (by omega)) fun μ1 g => ?_
  obtain ⟨g1, g2⟩ := g
  have F1 : FrGK TKP μ μ1 := FrGK.row g2
  have kb : ∀ μ2, FrGK TKP μ1 μ2 → ∀ i, i < n → μ2 467 i = nI (d4 n t i) → True := fun _ _ _ _ _ => trivial
  generalize hκ : d4 n t = κ at *
  have κ4 : ∀ i, κ i < 4 := fun i => by rw [← hκ]; exact d4_lt
  -- the length, and how far it is
  have lenP : ∀ μ2, RegV μ2 8 (kV D l q n κ * S) → (∀ i, i < n → μ2 467 i = nI (κ i)) → FrGK TKP μ μ2 → JS Z X 128 [(0, mrf Z)] [] μ2 := fun μ2 k1 k2 k3 => by
    have kl : ∀ i, i ≤ 6 → kL D l q n κ i * S < 1073741824 ^ 27 := fun i hi => Nat.lt_of_le_of_lt (Nat.mul_le_mul (Nat.le_trans (kL_le WW hn i) (Nat.add_le_add_left (Nat.mul_le_mul_right _ hi) _)) Sl) (by decide)
    refine bX12_tryKinds_128 E (by rw [k3.1 _ (by decide) (by decide), e17]; exact m_set (r := 11) (by decide) (by omega)) fun μ3 j => ?_
    have k0 : hWk D q n n * 1000000 ^ 5 = kL D l q n κ 0 * S := by rw [kL, Nat.mul_right_comm, mh, Nat.mul_comm]
    refine bX12_tryKinds_138 E (m_millions (n := 5) j.1 (by decide) (by decide) (by rw [k0]; exact kl 0 (by decide))) fun μ4 z => bX12_tryKinds_145 E ?_
    have z1 := z.1
    rw [k0] at z1
    have F4 : FrGK TKP μ μ4 := (k3.tr (j.2.gk (by decide))).tr (z.2.gk (by decide))
    have b8 : RegV μ4 8 (kV D l q n κ * S) := (k1.fr j.2 (by decide)).fr z.2 (by decide)
    have κ4' : ∀ i, i < n → μ4 467 i = nI (κ i) := fun i hi => by rw [z.2.1 _ (by decide), j.2.1 _ (by decide)]; exact k2 i hi
    have loop : ∀ k i μ5, i + k = n → RegV μ5 11 (kL D l q n κ i * S) → RegV μ5 8 (kV D l q n κ * S) → (∀ i, i < n → μ5 467 i = nI (κ i)) → FrGK TKP μ μ5 → JS Z X 148 [(0, mrf Z), (4, .int (nI i))] [] μ5 := by
      intro k
      induction k with
      | zero =>
        intro i μ5 hi s1 s2 s3 s4
        have hi : i = n := hi
        subst hi
        refine bX12_tryKinds_148 E (fun _ => ?_) (fun c => absurd (by rw [s4.1 _ (by decide) (by decide), e13, nI_leE (by omega) (by omega)]; omega) c)
        have N5 : NM (μ5 456) 0 D := by rw [s4.1 _ (by decide) (by decide)]; exact N
        refine bX12_tryKinds_184 E (m_offTo (r := 9) N5 WW s1 (by decide) (by decide) (by decide) (by decide) (by decide)) fun μ6 y => ?_
        rw [gs, adf_mul] at y
        exact bX12_tryKinds_192 E hB ⟨rfl, s2.fr y.2 (by decide), y.1, s4.tr (y.2.gk (by decide))⟩
      | succ k ih =>
        intro i μ5 hi s1 s2 s3 s4
        have e : nI 100 + nI 4 * nI i + nI (κ i) = nI (100 + (4 * i + κ i)) := by rw [nI_mul, nI_add, nI_add, Nat.add_assoc]
        have kk := κ4 i
        have tb := (K (4 * i + κ i) (by omega)).1
        rw [show (4 * i + κ i) / 4 = i by omega, show (4 * i + κ i) % 4 = κ i by omega] at tb
        have ke : kL D l q n κ i * S + kR D l q i (κ i) * S = kL D l q n κ (i + 1) * S := by rw [kL, Nat.add_mul]
        refine bX12_tryKinds_148 E (fun c => absurd c (by rw [s4.1 _ (by decide) (by decide), e13, nI_leE (by omega) (by omega)]; omega)) (fun _ => ?_)
        refine bX12_tryKinds_157 E (vin (by omega) (by omega)) (by rw [ix_nI (by omega), s3 i (by omega), e]; exact m_add s1 (tb.gk s4 (by omega)) (by decide) (by omega) (by omega) (by rw [ke]; exact kl (i + 1) (by omega))) fun μ6 y => bX12_tryKinds_178 E ?_
        rw [nI_add]
        exact ih (i + 1) μ6 (by omega) (by rw [← ke]; exact y.1) (s2.fr y.2 (by decide)) (fun j hj => by rw [y.2.1 _ (by decide)]; exact s3 j hj) (s4.tr (y.2.gk (by decide)))
    exact loop n 0 μ4 (by omega) z1 b8 κ4' F4
  have main : ∀ k c μ2, c + k = D 0 1 → RegV μ2 8 ((kB D l q n κ c).2 * S) → (∀ i, i < n → μ2 467 i = nI (κ i)) → FrGK TKP μ μ2 → JS Z X 17 [(0, mrf Z), (1, .int (nI l)), (3, .int (bI (kB D l q n κ c).1)), (4, .int (nI c))] [] μ2 := by
    intro k
    induction k with
    | zero =>
      intro c μ2 hc s1 s2 s3
      have hc : c = D 0 1 := hc
      subst hc
      refine bX12_tryKinds_17 E (vin (by omega) (by omega)) (fun _ => lenP μ2 s1 s2 s3) (fun d => absurd (by rw [ix_nI (by omega), s3.1 456 (by decide) (by decide), show μ 456 111 = _ from H.2.1, nI_leE (by omega) (by omega)]; omega) d)
    | succ k ih =>
      intro c μ2 hc s1 s2 s3
      have w6 := (W.2.2.2.2.2.1 c (by omega)).2.2.2
      have h6 := (H.2.2.2.2.2.1 c (by omega)).2.2.2
      rw [show 0 + 148 + c = 148 + c by omega] at h6
      have go : ∀ μ3, RegV μ3 8 ((kB D l q n κ (c + 1)).2 * S) → (∀ i, i < n → μ3 467 i = nI (κ i)) → FrGK TKP μ μ3 → JS Z X 122 [(0, mrf Z), (1, .int (nI l)), (3, .int (bI (kB D l q n κ (c + 1)).1)), (4, .int (nI c))] [] μ3 := fun μ3 z1 z2 z3 => by
        refine bX12_tryKinds_122 E ?_
        rw [nI_add]
        exact ih (c + 1) μ3 (by omega) z1 z2 z3
      refine bX12_tryKinds_17 E (vin (by omega) (by omega)) (fun d => absurd d (by rw [ix_nI (by omega), s3.1 456 (by decide) (by decide), show μ 456 111 = _ from H.2.1, nI_leE (by omega) (by omega)]; omega)) (fun _ => ?_)
      refine bX12_tryKinds_29 E (by rw [nI_add]; exact vin (by omega) (by omega)) (fun d => ?_) (fun d => ?_)
      · rw [nI_add, ix_nI (by omega), s3.1 456 (by decide) (by decide), h6, lotE w6 hl] at d
        have z := go μ2
        rw [show kB D l q n κ (c + 1) = kB D l q n κ c from if_neg d] at z
        exact z s1 s2 s3
      rw [nI_add, ix_nI (by omega), s3.1 456 (by decide) (by decide), h6, lotE w6 hl] at d
      have fe : kB D l q n κ (c + 1) = _ := if_pos d
      refine bX12_tryKinds_44 E (m_set (r := 10) (by decide) (by decide)) fun μ3 j => bX12_tryKinds_51 E ?_
      have sb : ∀ i, i ≤ 6 → kS D l q κ c i * S < 1073741824 ^ 27 := fun i hi => Nat.lt_of_le_of_lt (Nat.mul_le_mul (Nat.le_trans (kS_le W WW κ4 i) (Nat.mul_le_mul_right _ hi)) Sl) (by decide)
      have inner : ∀ k' i μ4, i + k' = n → RegV μ4 10 (kS D l q κ c i * S) → RegV μ4 8 ((kB D l q n κ c).2 * S) → (∀ i, i < n → μ4 467 i = nI (κ i)) → FrGK TKP μ μ4 → JS Z X 54 [(0, mrf Z), (1, .int (nI l)), (3, .int (bI (kB D l q n κ c).1)), (4, .int (nI c)), (5, .int (nI i))] [] μ4 := by
        intro k'
        induction k' with
        | zero =>
          intro i μ4 hi r1 r2 r3 r4
          have hi : i = n := hi
          subst hi
          refine bX12_tryKinds_54 E (fun _ => ?_) (fun c => absurd (by rw [r4.1 _ (by decide) (by decide), e13, nI_leE (by omega) (by omega)]; omega) c)
          have k120 : ∀ μ5, RegV μ5 8 ((kB D l q i κ (c + 1)).2 * S) → (∀ x, x < i → μ5 467 x = nI (κ x)) → FrGK TKP μ μ5 → JS Z X 120 [(0, mrf Z), (1, .int (nI l)), (4, .int (nI c))] [] μ5 := fun μ5 z1 z2 z3 => by
            refine bX12_tryKinds_120 E ?_
            have z := go μ5 z1 z2 z3
            rw [show (kB D l q i κ (c + 1)).1 = true by rw [fe]] at z
            exact z
          have k112 : ∀ μ5, μ5 = μ4 → ((kB D l q i κ c).1 = false ∨ kS D l q κ c i < (kB D l q i κ c).2) → JS Z X 112 [(0, mrf Z), (1, .int (nI l)), (4, .int (nI c))] [] μ5 := fun μ5 e y => by
            subst e
            refine bX12_tryKinds_112 E (m_copy r1 (by decide) (by decide)) fun μ6 w => ?_
            refine k120 μ6 ?_ (fun x hx => by rw [w.2.1 _ (by decide)]; exact r3 x hx) (r4.tr (w.2.gk (by decide)))
            rw [fe, if_pos y]; exact w.1
          refine bX12_tryKinds_97 E (fun y => ?_) (fun y => ?_)
          · rw [bI0] at y
            exact k112 μ4 rfl (Or.inl y)
          rw [bI0] at y
          refine bX12_tryKinds_101 E (m_compare r1 r2 (by decide) (by decide)) fun v μ5 w => ?_
          obtain ⟨rfl, e5⟩ := w
          rw [cmp_mul Sp, e5]
          refine bX12_tryKinds_109 E (fun x => ?_) (fun x => ?_)
          · rw [cmp_ge] at x
            refine k120 μ4 ?_ r3 r4
            rw [fe, if_neg (show ¬ ((kB D l q i κ c).1 = false ∨ kS D l q κ c i < (kB D l q i κ c).2) from fun g => Or.elim g y (fun g => by omega))]
            exact r2
          · rw [cmp_ge] at x
            exact k112 μ4 rfl (Or.inr (by omega))
        | succ k' ihk =>
          intro i μ4 hi r1 r2 r3 r4
          have kk := κ4 i
          have e : nI 130 + nI 6 * (nI 4 * nI i + nI (κ i)) + nI c = nI (130 + 6 * (4 * i + κ i) + c) := by rw [nI_mul, nI_add, nI_mul, nI_add, nI_add]
          have tb := (K (4 * i + κ i) (by omega)).2 c (by omega) d
          rw [show (4 * i + κ i) / 4 = i by omega, show (4 * i + κ i) % 4 = κ i by omega] at tb
          have ke : kS D l q κ c i * S + kR D l q i (κ i) * kG D l q i (κ i) c * S = kS D l q κ c (i + 1) * S := by rw [kS, Nat.add_mul]
          refine bX12_tryKinds_54 E (fun c => absurd c (by rw [r4.1 _ (by decide) (by decide), e13, nI_leE (by omega) (by omega)]; omega)) (fun _ => ?_)
          refine bX12_tryKinds_63 E (vin (by omega) (by omega)) (by rw [ix_nI (by omega), r3 i (by omega), e]; exact m_add r1 (tb.gk r4 (by omega)) (by decide) (by omega) (by omega) (by rw [ke]; exact sb (i + 1) (by omega))) fun μ5 y => bX12_tryKinds_91 E ?_
          rw [nI_add]
          exact ihk (i + 1) μ5 (by omega) (by rw [← ke]; exact y.1) (r2.fr y.2 (by decide)) (fun x hx => by rw [y.2.1 _ (by decide)]; exact r3 x hx) (r4.tr (y.2.gk (by decide)))
      exact inner n 0 μ3 (by omega) (by rw [kS, Nat.zero_mul]; exact j.1) (s1.fr j.2 (by decide)) (fun x hx => by rw [j.2.1 _ (by decide)]; exact s2 x hx) (s3.tr (j.2.gk (by decide)))
  refine bX12_tryKinds_5 E (m_set (r := 8) (by decide) (by decide)) fun μ2 j => bX12_tryKinds_14 E ?_
  exact main (D 0 1) 0 μ2 (by omega) (by rw [show (kB D l q n κ 0).2 * S = 0 from Nat.zero_mul _]; exact j.1) (fun i hi => by rw [j.2.1 _ (by decide)]; exact g1 i hi) (F1.tr (j.2.gk (by decide)))
end YKINDS
