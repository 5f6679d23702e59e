/-! LENGTHS: the reference's -/
/-- registers with P alone may have changed -/
def FrGP (P : Nat → Prop) (μ μ' : Mu) : Prop := (∀ a, a ≠ 465 → μ' a = μ a) ∧ ∀ i, (∀ r, P r → i < 27 * r ∨ 27 * r + 27 ≤ i) → μ' 465 i = μ 465 i
section WLEN
variable {Z : ZT} {μ : Mu} {D : DD} {im : Nat → Option DD} {tx : TX} {s : Nat → Int32} {f : Nat × Nat}
theorem FrGP.rf {P : Nat → Prop} : FrGP P μ μ := ⟨fun _ _ => rfl, fun _ _ => rfl⟩
theorem FrGP.tr {P : Nat → Prop} {μ1 μ2 : Mu} (h1 : FrGP P μ μ1) (h2 : FrGP P μ1 μ2) : FrGP P μ μ2 := ⟨fun a ha => (h2.1 a ha).trans (h1.1 a ha), fun i hi => (h2.2 i hi).trans (h1.2 i hi)⟩
theorem FrG.gp {P : Nat → Prop} {S : List Nat} {μ' : Mu} (h : FrG S μ μ') (hs : ∀ r ∈ S, P r) : FrGP P μ μ' := ⟨h.1, fun i hi => h.2 i fun r hr => hi r (hs r hr)⟩
theorem FrGP.mo {P P' : Nat → Prop} {μ' : Mu} (h : FrGP P μ μ') (hs : ∀ r, P r → P' r) : FrGP P' μ μ' := ⟨h.1, fun i hi => h.2 i fun r hr => hi r (hs r hr)⟩
theorem RegV.gp {P : Nat → Prop} {μ' : Mu} {r v : Nat} (h : RegV μ r v) (hF : FrGP P μ μ') (hr : ¬ P r) : RegV μ' r v :=
  ⟨h.1, fun k hk => by rw [hF.2 _ (fun q hq => by have : q ≠ r := fun e => hr (e ▸ hq); omega)]; exact h.2 k hk⟩
theorem FrQ.ofGP {P : Nat → Prop} {μ' : Mu} (h : FrGP P μ μ') (hS : ∀ r, P r → 2 ≤ r) : FrQ μ μ' := ⟨fun a ha _ => h.1 a (by omega), by rw [h.1 _ (by decide)], by rw [h.1 _ (by decide)], fun i hi => h.2 i fun r hr => by have := hS r hr; omega⟩
theorem wr_le {ms h m : Nat} (hm : ms ≤ 1000000) (h1 : 1 ≤ m) (h2 : m ≤ h) (h6 : h ≤ 6) : wr ms h m ≤ 10 ^ 36 := by
  rw [wr_wt h1 h2]
  have a := wt_le hm h1 h2
  have b := Nat.pow_le_pow_right (show 0 < 1000000 by decide) (show h - 1 ≤ 5 by omega)
  exact Nat.le_trans (Nat.mul_le_mul_right _ (Nat.le_trans a b)) (by decide)
theorem m_spread {t ms h v B : Nat} {G : Nat → Nat} (hv : RegV μ (16 + t) v) (hG : ∀ u, u < 40 → RegV μ (56 + u) (G u)) (hm : ms ≤ 1000000) (h1 : 1 ≤ h) (h6 : h ≤ 6) (ht : t + h < 40) (vB : v ≤ B) (gB : ∀ u, G u ≤ 40 * (B * 10 ^ 36)) (hb : 41 * (B * 10 ^ 36) < 1073741824 ^ 27) : CtrS Z mX12_spread [mrf Z, .int (nI t), .int (nI ms), .int (nI h)] μ (rV fun μ' => (∀ u, u < 40 → RegV μ' (56 + u) (G u + gu1 (fun _ => v) (wr ms h) t h u)) ∧ FrGP (fun r => r = 2 ∨ r = 16 + t ∨ (56 ≤ r ∧ r < 96)) μ μ') := by
  refine CtrS.intro (by decide +kernel) (Nat.le_of_ble_eq_true rfl) rfl fun X E hB => ?_
  have b1 : ∀ x, x ≤ 10 ^ 36 → v * x < 1073741824 ^ 27 := fun x hx => by
    have := Nat.mul_le_mul vB hx
    exact Nat.lt_of_le_of_lt (Nat.le_trans this (Nat.le_mul_of_pos_left _ (by decide))) hb
  have m6 : ∀ k, k ≤ 6 → (1000000 : Nat) ^ k ≤ 10 ^ 36 := fun k hk => Nat.le_trans (Nat.pow_le_pow_right (by decide) hk) (by decide)
  have loop : ∀ k m μ1, m + k = h → RegV μ1 (16 + t) (v * ms ^ m) → (∀ u, u < 40 → RegV μ1 (56 + u) (G u + gu1 (fun _ => v) (wr ms h) t m u)) → FrGP (fun r => r = 2 ∨ r = 16 + t ∨ (56 ≤ r ∧ r < 96)) μ μ1 → JS Z X 3 [(0, mrf Z), (1, .int (nI t)), (2, .int (nI ms)), (3, .int (nI h)), (4, .int (nI (m + 1)))] [] μ1 := by
    intro k
    induction k with
    | zero =>
      intro m μ1 hk hp hu hF
      have hk : m = h := hk
      subst hk
      exact bX12_spread_3 E (fun _ => bX12_spread_74 E hB ⟨rfl, hu, hF⟩) (fun c => absurd (by rw [nI_ltE (by omega) (by omega)]; omega) c)
    | succ k ih =>
      intro m μ1 hk hp hu hF
      have pm := pow_six hm m
      refine bX12_spread_3 E (fun c => absurd c (by rw [nI_ltE (by omega) (by omega)]; omega)) (fun _ => ?_)
      refine bX12_spread_9 E (by rw [nI_add]; exact m_copy hp (by omega) (by decide)) fun μ2 j => ?_
      obtain ⟨j1, j2⟩ := j
      have F2 : FrGP (fun r => r = 2 ∨ r = 16 + t ∨ (56 ≤ r ∧ r < 96)) μ μ2 := hF.tr (j2.gp (by simp))
      have cont : ∀ y, y = (if m + 1 < h then 1000000 - ms else 1000000) → JS Z X 35 [(0, mrf Z), (1, .int (nI t)), (2, .int (nI ms)), (3, .int (nI h)), (4, .int (nI (m + 1)))] [.int (nI y), .int (nI 2), mrf Z] μ2 := fun y hy => by
        have y6 : y ≤ 1000000 := by rw [hy]; split <;> omega
        have l1 : ms ^ m * y ≤ 1000000 ^ (m + 1) := Nat.mul_le_mul pm y6
        refine bX12_spread_35 E (m_times j1 (by decide) (by omega) (by rw [Nat.mul_assoc]; exact b1 _ (Nat.le_trans l1 (m6 _ (by omega))))) fun μ3 i => ?_
        obtain ⟨i1, i2⟩ := i
        have l2 := Nat.mul_le_mul_right (1000000 ^ (h - (m + 1))) l1
        rw [← Nat.pow_add] at l2
        have we : v * ms ^ m * y * 1000000 ^ (h - (m + 1)) = v * wr ms h (m + 1) := by
          unfold wr
          rw [Nat.add_sub_cancel, ← hy]
          simp only [Nat.mul_assoc]
        refine bX12_spread_38 E (by rw [nI_sub (by omega)]; exact m_millions i1 (by decide) (by omega) (by rw [we]; exact b1 _ (wr_le hm (by omega) (by omega) h6))) fun μ4 z => ?_
        obtain ⟨z1, z2⟩ := z
        rw [we] at z1
        have F4 := (F2.tr (i2.gp (by simp))).tr (z2.gp (by simp))
        have hu4 : ∀ u, u < 40 → RegV μ4 (56 + u) (G u + gu1 (fun _ => v) (wr ms h) t m u) := fun u hu' => (((hu u hu').fr j2 (by simp; omega)).fr i2 (by simp; omega)).fr z2 (by simp; omega)
        have hp4 : RegV μ4 (16 + t) (v * ms ^ m) := ((hp.fr j2 (by simp; omega)).fr i2 (by simp; omega)).fr z2 (by simp; omega)
        have z0 : gu1 (fun _ => v) (wr ms h) t m (t + (m + 1)) = 0 := if_neg (by omega)
        have now := hu4 (t + (m + 1)) (by omega)
        rw [z0, Nat.add_zero] at now
        have e1 : nI 56 + nI t + nI (m + 1) = nI (56 + (t + (m + 1))) := by rw [nI_add, nI_add, Nat.add_assoc]
        refine bX12_spread_47 E (by rw [e1]; exact m_add now z1 (by omega) (by decide) (by omega) (Nat.lt_of_le_of_lt (Nat.add_le_add (gB _) (Nat.mul_le_mul vB (wr_le hm (by omega) (by omega) h6))) (Nat.lt_of_le_of_lt (Nat.le_of_eq (by omega)) hb))) fun μ5 w => ?_
        obtain ⟨w1, w2⟩ := w
        have l3 := pow_six hm (m + 1)
        refine bX12_spread_59 E (by rw [nI_add]; exact m_times (hp4.fr w2 (by simp; omega)) (by omega) (by omega) (by rw [Nat.mul_assoc]; exact b1 _ (Nat.le_trans (show ms ^ m * ms ≤ 1000000 ^ (m + 1) from l3) (m6 _ (by omega))))) fun μ6 x => bX12_spread_68 E ?_
        obtain ⟨x1, x2⟩ := x
        rw [nI_add]
        refine ih (m + 1) μ6 (by omega) (by rw [Nat.mul_assoc] at x1; exact x1) (fun u hu' => ?_) ((F4.tr (w2.gp (by simp; omega))).tr (x2.gp (by simp)))
        by_cases c : u = t + (m + 1)
        · subst c
          rw [gu1_at, z0, Nat.zero_add]
          exact w1.fr x2 (by simp; omega)
        · rw [gu1_ne c]
          exact ((hu4 u hu').fr w2 (by simp; omega)).fr x2 (by simp; omega)
      refine bX12_spread_18 E (fun c => ?_) (fun c => ?_)
      · rw [nI_leE (by omega) (by omega)] at c
        exact bX12_spread_33 E (cont _ (by rw [if_neg (by omega)]))
      · rw [nI_leE (by omega) (by omega)] at c
        refine bX12_spread_26 E ?_
        rw [nI_sub hm]
        exact cont _ (by rw [if_pos (by omega)])
  exact bX12_spread_0 E (loop h 0 μ (by omega) (by rw [Nat.pow_zero, Nat.mul_one]; exact hv) (fun u hu => by rw [gu1_0, Nat.add_zero]; exact hG u hu) FrGP.rf)
def tr (D : DD) (x : Nat) : Nat → Nat
  | 0 => 0
  | i + 1 => tr D x i + 6 * hx D x i
theorem tr_tnn (WW : WN D) {x : Nat} : ∀ i, tr D x i = tnn D x i + 6 * i
  | 0 => rfl
  | i + 1 => by
    have := tr_tnn WW (x := x) i
    have := WW.1.1
    unfold tr tnn hx
    split <;> omega
theorem mo_x (WW : WN D) {x : Nat} : ∀ i, mo D x i + (if x < i then 1 else 0) ≤ 6 * i
  | 0 => Nat.le_refl 0
  | i + 1 => by
    have h := mo_x WW (x := x) i
    have := WW.1.2.1
    unfold mo
    by_cases c : i = x
    · rw [if_pos c, if_pos (by omega)]; omega
    · rw [if_neg c]
      by_cases d : x < i
      · rw [if_pos d] at h; rw [if_pos (by omega)]; omega
      · rw [if_neg d] at h; rw [if_neg (by omega)]; omega
theorem dr_s (WW : WN D) {l x : Nat} {q : Nat → Nat} {i t : Nat} (hi : i ≤ 6) (h : dr D l q x i t ≠ 0) : t ≤ 6 * i := by
  have m := mo_x WW (x := x) i
  rw [dr_ds WW i hi t] at h
  by_cases d : x < i
  · rw [if_pos d] at h m
    unfold shf at h
    by_cases c : t < 1
    · omega
    · rw [if_neg c] at h
      by_cases e : t - 1 ≤ mo D x i
      · omega
      · dsimp only at h
        rw [ds_z (l := l) (q := q) i (t - 1) (by omega), Nat.zero_mul] at h
        exact absurd rfl h
  · rw [if_neg d] at h m
    by_cases e : t ≤ mo D x i
    · omega
    · rw [ds_z i t (by omega), Nat.zero_mul] at h
      exact absurd rfl h
abbrev WLP (r : Nat) : Prop := r = 2 ∨ (16 ≤ r ∧ r < 96)
theorem m_weighLengths {l n x : Nat} {q : Nat → Nat} {xI : Int32} (H : HM (μ 456) 0 D) (N : NM (μ 456) 0 D) (W : WF D) (WW : WN D) (hl : l < 2) (Q : QO D q n) (h3 : D 13 3 < D 0 0) (T : RowQ μ q n) (Y : HY μ D q n) (hx' : ∀ i, i < n → (nI i = xI) = (i = x)) : CtrS Z mX12_weighLengths [mrf Z, .int (nI l), .int xI] μ (rI fun v μ' => v = nI (tr D x n) ∧ (∀ t, t < 40 → RegV μ' (16 + t) (dr D l q x n t)) ∧ FrGP WLP μ μ') := by
  refine CtrS.intro (by decide +kernel) (Nat.le_of_ble_eq_true rfl) rfl fun X E hB => ?_
  have n6 := Q.1
  have hn := W.1
  have h1 := WW.1.1
  have h6 := WW.1.2.1
  have main : ∀ k i μ1, i + k = n → (∀ t, t < 40 → RegV μ1 (16 + t) (dr D l q x i t)) → FrGP WLP μ μ1 → JS Z X 36 [(0, mrf Z), (1, .int (nI l)), (2, .int xI), (3, .int (nI (tr D x i))), (4, .int (nI i))] [] μ1 := by
    intro k
    induction k with
    | zero =>
      intro i μ1 hi h0 hF
      have : i = n := hi
      subst this
      exact bX12_weighLengths_36 E (fun _ => bX12_weighLengths_203 E hB ⟨_, rfl, rfl, h0, hF⟩) (fun c => absurd (by rw [hF.1 455 (by decide), T.1, nI_leE (by omega) (by omega)]; omega) c)
    | succ k ih =>
      intro i μ1 hi h0 hF
      have H1 : HM (μ1 456) 0 D := by rw [hF.1 _ (by decide)]; exact H
      have T1 : RowQ μ1 q n := ⟨by rw [hF.1 _ (by decide)]; exact T.1, fun j hj => by rw [hF.1 _ (by decide)]; exact T.2 j hj⟩
      obtain ⟨k1, k2, k3, k4⟩ := m_kind H1 W Q T1 (show i < n by omega)
      have at1 := hAt_lt W Q h3 (show i < n by omega)
      have ml := hMs_le (D := D) (l := l) (q := q) (i := i)
      have y := (Y.2 i (by omega)).1
      have trl : tr D x i ≤ 36 * i := by have := tr_tnn WW (x := x) i; have := tnn_le WW (x := x) i; omega
      have hb : 41 * ((40 * 10 ^ 36) ^ i * 10 ^ 36) < 1073741824 ^ 27 := Nat.lt_of_le_of_lt (Nat.mul_le_mul_left _ (Nat.mul_le_mul_right _ (Nat.pow_le_pow_right (by decide) (show i ≤ 5 by omega)))) (by decide)
      have dB : ∀ t, dr D l q x i t ≤ (40 * 10 ^ 36) ^ i := dr_b WW i (by omega)
      have go : ∀ h, h = hx D x i → JS Z X 63 [(0, mrf Z), (1, .int (nI l)), (2, .int xI), (3, .int (nI (tr D x i))), (4, .int (nI i))] [.int (nI h)] μ1 := fun h hh => by
        have hh1 : 1 ≤ h := by rw [hh]; unfold hx; split <;> omega
        have hh6 : h ≤ 6 := by rw [hh]; unfold hx; split <;> omega
        have wl : ∀ m, 1 ≤ m → m ≤ h → wr (hMs D l q i) h m ≤ 10 ^ 36 := fun m a b => wr_le ml a b hh6
        have dE : ∀ u, dr D l q x (i + 1) u = gT (dr D l q x i) (wr (hMs D l q i) h) h 40 u := fun u => by rw [hh]; rfl
        generalize hFd : dr D l q x i = F at h0 dB dE
        have Fs : ∀ t, F t ≠ 0 → t ≤ 30 := fun t ht => by rw [← hFd] at ht; have := dr_s WW (show i ≤ 6 by omega) ht; omega
        refine bX12_weighLengths_63 E k1 k2 k1 (by rw [k3, ix_nI (by omega), hF.1 463 (by decide), y]; exact m_missesAt H1 W hl k4 (by omega)) fun v μ2 g => ?_
        obtain ⟨rfl, e2⟩ := g
        subst e2
        have me : miss D (l + 1) (D 8 (q i)) (hAt D q i) 6 = hMs D l q i := rfl
        rw [me]
        refine bX12_weighLengths_93 E ?_
        -- back to the first row
        have back : ∀ k' t μ3, t + k' = 40 → (∀ u, u < 40 → RegV μ3 (56 + u) (dr D l q x (i + 1) u)) → (∀ u, u < t → RegV μ3 (16 + u) (dr D l q x (i + 1) u)) → FrGP WLP μ μ3 → JS Z X 162 [(0, mrf Z), (1, .int (nI l)), (2, .int xI), (3, .int (nI (tr D x i))), (4, .int (nI i)), (5, .int (nI h)), (7, .int (nI t))] [] μ3 := by
          intro k'
          induction k' with
          | zero =>
            intro t μ3 ht a1 a2 a3
            have ht : t = 40 := ht
            subst ht
            refine bX12_weighLengths_162 E (fun _ => bX12_weighLengths_189 E ?_) (fun c => absurd (by decide) c)
            rw [nI_mul, nI_add, nI_add]
            have := ih (i + 1) μ3 (by omega) a2 a3
            rw [tr, ← hh] at this
            exact this
          | succ k' ihk =>
            intro t μ3 ht a1 a2 a3
            refine bX12_weighLengths_162 E (fun c => absurd c (by rw [nI_leE (by omega) (by omega)]; omega)) (fun _ => ?_)
            refine bX12_weighLengths_169 E (by rw [nI_add, nI_add]; exact m_copy (a1 t (by omega)) (by omega) (by omega)) fun μ4 j => bX12_weighLengths_183 E ?_
            obtain ⟨j1, j2⟩ := j
            rw [nI_add]
            refine ihk (t + 1) μ4 (by omega) (fun u hu => (a1 u hu).fr j2 (by simp; omega)) (fun u hu => ?_) (a3.tr (j2.gp (by simp; omega)))
            by_cases c : u = t
            · subst c; exact j1
            · exact (a2 u (by omega)).fr j2 (by simp; omega)
        have mid : ∀ k' t μ3, t + k' = 40 → (∀ u, u < 40 → RegV μ3 (56 + u) (gT F (wr (hMs D l q i) h) h t u)) → (∀ u, t ≤ u → u < 40 → RegV μ3 (16 + u) (F u)) → FrGP WLP μ μ3 → JS Z X 124 [(0, mrf Z), (1, .int (nI l)), (2, .int xI), (3, .int (nI (tr D x i))), (4, .int (nI i)), (5, .int (nI h)), (6, .int (nI (hMs D l q i))), (7, .int (nI t))] [] μ3 := by
          intro k'
          induction k' with
          | zero =>
            intro t μ3 ht a1 a2 a3
            have ht : t = 40 := ht
            subst ht
            refine bX12_weighLengths_124 E (fun _ => bX12_weighLengths_159 E ?_) (fun c => absurd (by decide) c)
            exact back 40 0 μ3 (by omega) (fun u hu => by rw [dE]; exact a1 u hu) (fun u hu => absurd hu (Nat.not_lt_zero u)) a3
          | succ k' ihk =>
            intro t μ3 ht a1 a2 a3
            have nx := ihk (t + 1)
            have r153 : ∀ μ4, (∀ u, u < 40 → RegV μ4 (56 + u) (gT F (wr (hMs D l q i) h) h (t + 1) u)) → (∀ u, t + 1 ≤ u → u < 40 → RegV μ4 (16 + u) (F u)) → FrGP WLP μ μ4 → JS Z X 153 [(0, mrf Z), (1, .int (nI l)), (2, .int xI), (3, .int (nI (tr D x i))), (4, .int (nI i)), (5, .int (nI h)), (6, .int (nI (hMs D l q i))), (7, .int (nI t))] [] μ4 := fun μ4 z1 z2 z3 => by
              refine bX12_weighLengths_153 E ?_
              rw [nI_add]
              exact nx μ4 (by omega) z1 z2 z3
            refine bX12_weighLengths_124 E (fun c => absurd c (by rw [nI_leE (by omega) (by omega)]; omega)) (fun _ => ?_)
            refine bX12_weighLengths_131 E (by rw [nI_add]; exact m_isNought (a2 t (Nat.le_refl t) (by omega)) (by omega)) fun v μ4 j => ?_
            obtain ⟨rfl, e4⟩ := j
            subst e4
            refine bX12_weighLengths_140 E (fun c => ?_) (fun c => ?_)
            · rw [bz] at c
              have c := Decidable.not_not.mp c
              refine r153 _ (fun u hu => ?_) (fun u h1 h2 => a2 u (by omega) h2) a3
              rw [gT, gu1_z c, Nat.add_zero]
              exact a1 u hu
            · rw [bz] at c
              have t30 := Fs t c
              refine bX12_weighLengths_143 E (m_spread (B := (40 * 10 ^ 36) ^ i) (a2 t (Nat.le_refl t) (by omega)) a1 ml hh1 hh6 (by omega) (dB t) (fun u => Nat.le_trans (gT_b dB wl t) (Nat.mul_le_mul_right _ (by omega))) hb) fun μ5 z => ?_
              obtain ⟨z1, z2⟩ := z
              refine r153 μ5 (fun u hu => ?_) (fun u h1 h2 => (a2 u (by omega) h2).gp z2 (by omega)) (a3.tr (z2.mo (fun r hr => by show r = 2 ∨ (16 ≤ r ∧ r < 96); omega)))
              rw [gT]
              exact z1 u hu
        have zero : ∀ k' t μ3, t + k' = 40 → (∀ u, u < t → RegV μ3 (56 + u) 0) → (∀ u, u < 40 → RegV μ3 (16 + u) (F u)) → FrGP WLP μ μ3 → JS Z X 98 [(0, mrf Z), (1, .int (nI l)), (2, .int xI), (3, .int (nI (tr D x i))), (4, .int (nI i)), (5, .int (nI h)), (6, .int (nI (hMs D l q i))), (7, .int (nI t))] [] μ3 := by
          intro k'
          induction k' with
          | zero =>
            intro t μ3 ht a1 a2 a3
            have ht : t = 40 := ht
            subst ht
            refine bX12_weighLengths_98 E (fun _ => bX12_weighLengths_121 E ?_) (fun c => absurd (by decide) c)
            exact mid 40 0 μ3 (by omega) a1 (fun u _ h2 => a2 u h2) a3
          | succ k' ihk =>
            intro t μ3 ht a1 a2 a3
            refine bX12_weighLengths_98 E (fun c => absurd c (by rw [nI_leE (by omega) (by omega)]; omega)) (fun _ => ?_)
            refine bX12_weighLengths_105 E (by rw [nI_add]; exact m_set (by omega) (by decide)) fun μ4 j => bX12_weighLengths_115 E ?_
            obtain ⟨j1, j2⟩ := j
            rw [nI_add]
            refine ihk (t + 1) μ4 (by omega) (fun u hu => ?_) (fun u hu => (a2 u hu).fr j2 (by simp; omega)) (a3.tr (j2.gp (by simp; omega)))
            by_cases c : u = t
            · subst c; exact j1
            · exact (a1 u (by omega)).fr j2 (by simp; omega)
        exact zero 40 0 _ (by omega) (fun u hu => absurd hu (Nat.not_lt_zero u)) h0 hF
      refine bX12_weighLengths_36 E (fun c => absurd c (by rw [T1.1, nI_leE (by omega) (by omega)]; omega)) (fun _ => ?_)
      refine bX12_weighLengths_45 E (fun c => ?_) (fun c => ?_)
      · rw [hx' i (by omega)] at c
        refine bX12_weighLengths_55 E (vin (by omega) (by omega)) ?_
        rw [ix_nI (by omega), hF.1 456 (by decide), show μ 456 201 = nI (D 13 0) from N.2.1 0 (by omega)]
        exact go _ (by rw [hx, if_neg c])
      · rw [hx' i (by omega)] at c
        exact bX12_weighLengths_51 E (go 1 (by rw [hx, if_pos c]))
  have init : ∀ k t μ1, t + k = 40 → (∀ u, u < t → RegV μ1 (16 + u) (dr D l q x 0 u)) → FrGP WLP μ μ1 → JS Z X 2 [(0, mrf Z), (1, .int (nI l)), (2, .int xI), (3, .int (nI t))] [] μ1 := by
    intro k
    induction k with
    | zero =>
      intro t μ1 ht h0 hF
      have ht : t = 40 := ht
      subst ht
      refine bX12_weighLengths_2 E (fun _ => bX12_weighLengths_31 E ?_) (fun c => absurd (by decide) c)
      exact main n 0 μ1 (by omega) h0 hF
    | succ k ih =>
      intro t μ1 ht h0 hF
      have go : ∀ y, y = dr D l q x 0 t → JS Z X 22 [(0, mrf Z), (1, .int (nI l)), (2, .int xI), (3, .int (nI t))] [.int (nI y), .int (nI (16 + t)), mrf Z] μ1 := fun y hy => by
        have y1 : y < 2 := by rw [hy]; unfold dr; split <;> omega
        refine bX12_weighLengths_22 E (m_set (by omega) (by omega)) fun μ2 j => bX12_weighLengths_25 E ?_
        obtain ⟨j1, j2⟩ := j
        rw [nI_add]
        refine ih (t + 1) μ2 (by omega) (fun u hu => ?_) (hF.tr (j2.gp (by simp; omega)))
        by_cases c : u = t
        · subst c; rw [hy] at j1; exact j1
        · exact (h0 u (by omega)).fr j2 (by simp; omega)
      refine bX12_weighLengths_2 E (fun c => absurd c (by rw [nI_leE (by omega) (by omega)]; omega)) (fun _ => ?_)
      refine bX12_weighLengths_8 E (fun c => ?_) (fun c => ?_)
      · rw [nI_eq0 (by omega)] at c
        rw [nI_add]
        exact bX12_weighLengths_21 E (go 0 (by unfold dr; rw [if_neg c]))
      · rw [nI_eq0 (by omega)] at c
        rw [nI_add]
        exact bX12_weighLengths_17 E (go 1 (by unfold dr; rw [if_pos c]))
  exact bX12_weighLengths_0 E (init 40 0 μ (by omega) (fun u hu => absurd hu (Nat.not_lt_zero u)) FrGP.rf)
end WLEN
