/-! GUESSED: what a child has in the mean, on both sides -/
theorem cmpV_lt {x y : Nat} : (cmpV x y < 0) = (x < y) := by
  unfold cmpV
  by_cases h : x < y
  · rw [if_pos h, eq_true h]; exact eq_true (by decide)
  · rw [if_neg h, eq_false h]
    split
    · exact eq_false (by decide)
    · exact eq_false (by decide)
theorem cmp_le {x y : Nat} : (cmpV x y ≤ 0) = (x ≤ y) := by
  unfold cmpV
  by_cases h : x < y
  · rw [if_pos h, eq_true (show x ≤ y by omega)]; exact eq_true (by decide)
  · rw [if_neg h]
    by_cases e : x = y
    · rw [if_pos e, eq_true (show x ≤ y by omega)]; exact eq_true (by decide)
    · rw [if_neg e, eq_false (show ¬ x ≤ y by omega)]; exact eq_false (by decide)
theorem cmp_ge {x y : Nat} : (0 ≤ cmpV x y) = (y ≤ x) := by
  unfold cmpV
  by_cases h : x < y
  · rw [if_pos h, eq_false (show ¬ y ≤ x by omega)]; exact eq_false (by decide)
  · rw [if_neg h, eq_true (show y ≤ x by omega)]
    split
    · exact eq_true (by decide)
    · exact eq_true (by decide)
theorem cmp_mul {x y s : Nat} (hs : 0 < s) : cmpV (x * s) (y * s) = cmpV x y := by
  unfold cmpV
  rcases Nat.lt_trichotomy x y with h | h | h
  · rw [if_pos (Nat.mul_lt_mul_of_pos_right h hs), if_pos h]
  · subst h; rw [if_neg (Nat.lt_irrefl _), if_neg (Nat.lt_irrefl _)]; simp
  · have h2 := Nat.mul_lt_mul_of_pos_right h hs
    rw [if_neg (by omega), if_neg (by omega), if_neg (by omega), if_neg (by omega)]
theorem gues_le {D : DD} (W : WF D) {l k p c : Nat} (hk : k < 4) : gues D l k p c ≤ 900000 := by
  unfold gues
  split
  · omega
  · have h1 := miss_le (D := D) (l := l) (k := k) (p := p) c
    have h2 := quick_le W (c := c) (l := l) (p := p) hk
    have h3 : miss D l k p c / 10 * quick D c l k p ≤ 100000 * 9 := Nat.mul_le_mul (by omega) h2
    omega
def hGs (D : DD) (l : Nat) (q : Nat → Nat) (i c : Nat) : Nat := gues D (l + 1) (D 8 (q i)) (hAt D q i) c
def guN (D : DD) (l : Nat) (q : Nat → Nat) (c : Nat) : Nat → Nat
  | 0 => 0
  | i + 1 => guN D l q c i + rd (hMs D l q i) (D 13 0 - 1) * hGs D l q i c
theorem hGs_le {D : DD} (W : WF D) {l i c : Nat} {q : Nat → Nat} (hq : q i < D 0 2) : hGs D l q i c ≤ 900000 := gues_le W (by have := (W.2.2.2.2.2.2.1 _ hq).2.1; omega)
theorem guN_le {D : DD} (W : WF D) (WW : WN D) {l c n : Nat} {q : Nat → Nat} (Q : QO D q n) : ∀ i, i ≤ n → guN D l q c i ≤ i * (10 ^ 31 * 900000)
  | 0, _ => Nat.zero_le _
  | i + 1, h => by
    rw [guN, Nat.add_mul, Nat.one_mul]
    exact Nat.add_le_add (guN_le W WW Q i (by omega)) (Nat.mul_le_mul (rd_big WW hMs_le (by have := WW.1.2.1; omega)) (hGs_le W (Q.2 i (by omega))))
theorem guN_b {D : DD} (W : WF D) (WW : WN D) {l c n : Nat} {q : Nat → Nat} (Q : QO D q n) : guN D l q c n ≤ 10 ^ 38 :=
  Nat.le_trans (guN_le W WW Q n (Nat.le_refl n)) (Nat.le_trans (Nat.mul_le_mul_right _ Q.1) (by decide))
section GUESS
variable {Z : ZT} {μ : Mu} {D : DD} {im : Nat → Option DD} {tx : TX} {s : Nat → Int32} {f : Nat × Nat}
theorem HQ.congr {o l n : Nat} {q : Nat → Nat} {μ' : Mu} (h : HQ μ o l q n) (h0 : μ' o = μ o) (h1 : μ' (o + 1) = μ (o + 1)) : HQ μ' o l q n := ⟨by rw [h0]; exact h.1, by rw [h0]; exact h.2.1, fun i hi => by rw [h1]; exact h.2.2 i hi⟩
theorem HLd.congr {o l n k : Nat} {q : Nat → Nat} {μ' : Mu} (h : HLd μ o D l q n k) (h0 : μ' o = μ o) (h2 : μ' (o + 2) = μ (o + 2)) (h3 : μ' (o + 3) = μ (o + 3)) (h5 : μ' (o + 5) = μ (o + 5)) (h6 : μ' (o + 6) = μ (o + 6)) : HLd μ' o D l q n k := ⟨by rw [h0]; exact h.1, by rw [h0]; exact h.2.1, fun i hi => by rw [h2, h3, h5, h6]; exact h.2.2 i hi⟩
abbrev GUS (o h : Nat) : List Nat := [o, o + 1, 97, 98, 99, 100, h + 4]
theorem hun_le {h : Nat} (hh : SH h = .inl 4) : h = 78 ∨ h = 85 := SH_all (P := fun o => SH o = .inl 4 → o = 78 ∨ o = 85) (by decide +kernel) hh hh
theorem c_ofGuessed {o h l n c : Nat} {q : Nat → Nat} (ho : GB o) (hd : 100 < o) (hh : SH h = .inl 4) (H : HC μ 1 D) (N : NC μ 27 D) (W : WF D) (WW : WN D) (sc : SC μ) (hl : l < 2) (Q : QO D q n) (h3 : D 13 3 < D 0 0) (T : HQ μ h l q n) (L : HLd μ h D l q n n) (hc : c < 6) : CtrS Z mX5_ofGuessed [rf Z 92, rf Z o, rf Z h, .int (nI c)] μ (rV fun μ' => BigV μ' o (guN D l q c n) ∧ SC μ' ∧ Fr (GUS o h) μ μ') := by
  refine CtrS.intro (by decide +kernel) (Nat.le_of_ble_eq_true rfl) rfl fun X E hB => ?_
  have n6 := Q.1
  have hn := W.1
  have hS := W.2.2.1
  have hh2 := hun_le hh
  have loop : ∀ k i μ1, i + k = n → BigV μ1 o (guN D l q c i) → SC μ1 → Fr (GUS o h) μ μ1 → JS Z X 18 [(0, rf Z 92), (1, rf Z o), (2, rf Z h), (3, .int (nI c)), (4, .int (nI i))] [] μ1 := by
    intro k
    induction k with
    | zero =>
      intro i μ1 hi h1 h2 hF
      have : i = n := hi
      subst this
      refine bX5_ofGuessed_18 E ho.1 hh (fun _ => bX5_ofGuessed_76 E hB ⟨rfl, h1, h2, hF⟩) (fun c => absurd (by rw [hF h (by simp; omega), T.2.1, nI_leE (by omega) (by omega)]; omega) c)
    | succ k ih =>
      intro i μ1 hi h1 h2 hF
      have H1 : HC μ1 1 D := H.fr fun x hx => hF _ (by simp; omega)
      have N1 : NC μ1 27 D := N.fr fun x hx => hF _ (by simp; omega)
      have T1 : HQ μ1 h l q n := T.congr (hF _ (by simp; omega)) (hF _ (by simp; omega))
      have lt := Q.2 i (by omega)
      have hk := (W.2.2.2.2.2.2.1 _ lt).2.1
      have at1 := hAt_lt W Q h3 (show i < n by omega)
      have b := rd_big WW (hMs_le (D := D) (l := l) (q := q) (i := i)) (show D 13 0 - 1 ≤ 5 by have := WW.1.2.1; omega)
      have gl := hGs_le W (l := l) (c := c) lt
      have gg := guN_le W WW (l := l) (c := c) Q i (by omega)
      refine bX5_ofGuessed_18 E ho.1 hh (fun c => absurd c (by rw [T1.2.1, nI_leE (by omega) (by omega)]; omega)) (fun _ => ?_)
      refine bX5_ofGuessed_27 E ho.1 hh (vin (by omega) (by omega)) (by rw [ix_nI (by omega), T1.2.2 i (by omega)]; exact vin (by omega) (by omega)) (by rw [ix_nI (show i < 2147483648 by omega), T1.2.2 i (by omega), ix_nI (by omega), show μ1 (1 + 8) (q i) = _ from (H1.2.2.2.2.2.2.2.1 _ lt).2.1]; exact c_weigh (p := hAt D q i) hh (by omega) H1 W (by omega) hl (by omega) (by omega) T1.1 (by rw [hF _ (by simp; omega)]; exact (L.2.2 i (by omega)).1)) fun v μ2 g => ?_
      obtain ⟨rfl, g1, g2⟩ := g
      have N2 : NC μ2 27 D := N1.fr fun x hx => g2 _ (by simp; omega)
      have q2 : SC μ2 := h2.fr fun a h1 h2 => g2 a (by simp; omega)
      have me : miss D (l + 1) (D 8 (q i)) (hAt D q i) 6 = hMs D l q i := rfl
      rw [me]
      refine bX5_ofGuessed_53 E ho.1 hh rfl (c_ofRiddle (o := 99) (GB.of rfl (by decide)) (by decide) N2 WW (by decide) q2 hMs_le) fun μ3 k => ?_
      obtain ⟨k1, k2, k3⟩ := k
      have oo : BigV μ3 o (guN D l q c i) := by
        have a1 := big_ne (show SH 99 = .inl 0 from rfl) ho.1
        have a2 := big_ne ho.1 (show SH 99 = .inl 0 from rfl)
        exact (h1.fr g2 (by simp; omega) (by simp; omega)).fr k3 (by simp; omega) (by simp; omega)
      refine bX5_ofGuessed_56 E ho.1 hh (vin (by omega) (by omega)) (by rw [ix_nI (by omega), k3 _ (by simp; omega), g1 c hc]; exact q_addTimes k2 ho oo k1 (by omega) (by have : gues D (l + 1) (D 8 (q i)) (hAt D q i) c ≤ 900000 := gl; omega) (Nat.lt_of_le_of_lt (Nat.add_le_add (Nat.le_trans gg (Nat.mul_le_mul_right _ (show i ≤ 6 by omega))) (Nat.mul_le_mul b gl)) (by decide))) fun μ4 j => bX5_ofGuessed_70 E ho.1 hh ?_
      rw [nI_add]
      exact ih (i + 1) μ4 (by omega) j.1 j.2.1 (((hF.tr (g2.mo (by simp))).tr (k3.mo (by simp))).tr (j.2.2.mo (by simp)))
  refine bX5_ofGuessed_0 E ho.1 hh (q_set sc ho (by decide)) fun μ1 g => ?_
  refine bX5_ofGuessed_5 E ho.1 hh (c_within (n := 6) (by decide)) fun v μ2 k => ?_
  obtain ⟨rfl, rfl⟩ := k
  refine bX5_ofGuessed_11 E ho.1 hh (fun _ => bX5_ofGuessed_15 E ho.1 hh ?_) (fun d => absurd (inN_nI hc (by decide)) (by rw [bz] at d; exact d))
  exact loop n 0 _ (by omega) g.1 g.2.1 (g.2.2.mo (by simp))
theorem m_guessesAt {c l k p : Nat} (H : HM (μ 456) 0 D) (W : WF D) (hc : c < D 0 1) (hl : l < 2) (h6c : D 6 c = l + 1) (hk : k < 4) (hp : p < 10) : CtrS Z mX12_guessesAt [mrf Z, .int (nI c), .int (nI k), .int (nI p)] μ (rI fun v μ' => v = nI (gues D (l + 1) k p c) ∧ μ' = μ) := by
  refine CtrS.intro (by decide +kernel) (Nat.le_of_ble_eq_true rfl) rfl fun X E hB => ?_
  have hC := W.2.1
  have lot : ∀ j, j < D 0 1 → μ 456 (ix (nI 148 + nI j)) = lotI (D 6 j) := fun j hj => by
    have h6 := (H.2.2.2.2.2.1 j hj).2.2.2
    rw [show 0 + 148 + j = 148 + j by omega] at h6
    rw [nI_add, ix_nI (by omega), h6]
  have L2 : ∀ j n v, n + j = 6 → v * 10 ^ j = gues D (l + 1) k p c → JS Z X 78 [(5, .int (nI v)), (7, .int (nI n))] [] μ := by
    intro j
    induction j with
    | zero =>
      intro n v hn hv
      have : n = 6 := hn
      subst this
      have hv : v * 10 ^ 0 = _ := hv
      rw [Nat.pow_zero, Nat.mul_one] at hv
      exact bX12_guessesAt_78 E (fun _ => bX12_guessesAt_98 E hB ⟨_, rfl, by rw [hv], rfl⟩) (fun c => absurd (by decide) c)
    | succ j ih =>
      intro n v hn hv
      refine bX12_guessesAt_78 E (fun c => absurd c (by rw [nI_leE (by omega) (by omega)]; omega)) (fun _ => bX12_guessesAt_85 E ?_)
      rw [nI_mul, nI_add]
      exact ih (n + 1) (v * 10) (by omega) (by rw [← hv, Nat.pow_succ, Nat.mul_assoc, Nat.mul_comm 10])
  have L1 : ∀ j c' w n, c' + j = c → n ≤ c' → w * 10 ^ (5 - n) = miss D (l + 1) k p c' / 10 → JS Z X 27 [(0, mrf Z), (1, .int (nI c)), (2, .int (nI k)), (3, .int (nI p)), (4, .int (nI l)), (5, .int (nI (quick D c (l + 1) k p * w))), (6, .int (nI (n + 1))), (7, .int (nI c'))] [] μ := by
    intro j
    induction j with
    | zero =>
      intro c' w n hj hn hv
      have : c' = c := hj
      subst this
      refine bX12_guessesAt_27 E (fun _ => bX12_guessesAt_74 E (L2 (5 - n) (n + 1) _ (by omega) ?_)) (fun d => absurd (by rw [nI_leE (by omega) (by omega)]; omega) d)
      rw [Nat.mul_assoc, hv, gues]
      by_cases z : quick D c' (l + 1) k p = 0
      · rw [if_pos z, z, Nat.zero_mul]
      · rw [if_neg z, Nat.mul_comm]
    | succ j ih =>
      intro c' w n hj hn hv
      have w6 := (W.2.2.2.2.2.1 c' (by omega)).2.2.2
      refine bX12_guessesAt_27 E (fun d => absurd d (by rw [nI_leE (by omega) (by omega)]; omega)) (fun _ => ?_)
      refine bX12_guessesAt_33 E (by rw [nI_add]; exact vin (by omega) (by omega)) (fun d => ?_) (fun d => ?_)
      · rw [lot c' (by omega), lotE w6 hl] at d
        refine bX12_guessesAt_68 E ?_
        rw [nI_add]
        exact ih (c' + 1) w n (by omega) (by omega) (by rw [hv, miss, if_pos (show quick D c' (l + 1) k p = 0 from if_neg fun g => d g.2.1)])
      · rw [lot c' (by omega), lotE w6 hl] at d
        have ql := quick_le W (c := c') (l := l + 1) (p := p) hk
        refine bX12_guessesAt_49 E (m_quickAt H W (by omega) hk hp) fun q μ1 g => ?_
        obtain ⟨rfl, rfl⟩ := g
        refine bX12_guessesAt_61 E (bX12_guessesAt_68 E ?_)
        rw [d, nI_sub (by omega), nI_mul, nI_add, nI_add, Nat.mul_assoc]
        refine ih (c' + 1) _ (n + 1) (by omega) (by omega) ?_
        have hm : miss D (l + 1) k p c' / 10 = w * 10 ^ (5 - (n + 1)) * 10 := by
          rw [← hv, show 5 - n = (5 - (n + 1)) + 1 by omega, Nat.pow_succ, Nat.mul_assoc]
        rw [miss]
        by_cases z : quick D c' (l + 1) k p = 0
        · rw [if_pos z, z, hm, Nat.sub_zero, Nat.mul_right_comm]
        · rw [if_neg z, hm, Nat.mul_right_comm w, Nat.mul_right_comm _ 10, Nat.mul_div_cancel _ (by decide)]
  have eq : quick D c (D 6 c) k p = quick D c (l + 1) k p := by rw [h6c]
  refine bX12_guessesAt_0 E (by rw [nI_add]; exact vin (by omega) (by omega)) (m_quickAt H W hc hk hp) fun q μ1 g => ?_
  obtain ⟨rfl, rfl⟩ := g
  have e4 : lotI (D 6 c) = nI l := (lotE (by omega) hl).mpr h6c
  rw [lot c hc, e4, eq]
  refine bX12_guessesAt_19 E ?_
  have z := L1 c 0 1 0 (by omega) (by omega) (show 1 * 10 ^ (5 - 0) = miss D (l + 1) k p 0 / 10 by rw [miss])
  rw [Nat.mul_one] at z
  exact z
def gsS (D : DD) (l : Nat) (q : Nat → Nat) (c : Nat) : Nat → Nat
  | 0 => 0
  | i + 1 => gsS D l q c i + rs (hMs D l q i) (D 13 0) * hGs D l q i c
theorem gsS_eq (WW : WN D) {l c : Nat} {q : Nat → Nat} : ∀ i, gsS D l q c i = guN D l q c i * 1000000 ^ (6 - D 13 0)
  | 0 => (Nat.zero_mul _).symm
  | i + 1 => by rw [gsS, gsS_eq WW i, rs_h WW, guN, Nat.add_mul, Nat.mul_right_comm]
theorem m_guessedTo {r l n c : Nat} {q : Nat → Nat} (H : HM (μ 456) 0 D) (N : NM (μ 456) 0 D) (W : WF D) (WW : WN D) (hl : l < 2) (Q : QO D q n) (h3 : D 13 3 < D 0 0) (T : RowQ μ q n) (Y : HY μ D q n) (hc : c < D 0 1) (h6c : D 6 c = l + 1) (hr : r < 281) (r2 : r ≠ 2) (r3 : r ≠ 3) : CtrS Z mX12_guessedTo [mrf Z, .int (nI r), .int (nI c)] μ (rV fun μ' => RegV μ' r (guN D l q c n * 1000000 ^ (6 - D 13 0)) ∧ FrG [r, 2, 3] μ μ') := by
  refine CtrS.intro (by decide +kernel) (Nat.le_of_ble_eq_true rfl) rfl fun X E hB => ?_
  have n6 := Q.1
  have hn := W.1
  have hC := W.2.1
  have bb : ∀ i, i ≤ n → gsS D l q c i ≤ i * (6 * 10 ^ 30 * 900000) := by
    intro i
    induction i with
    | zero => exact fun _ => Nat.zero_le _
    | succ i ih =>
      intro hi
      rw [gsS, Nat.add_mul, Nat.one_mul]
      exact Nat.add_le_add (ih (by omega)) (Nat.mul_le_mul (Nat.le_trans (rs_le hMs_le _ WW.1.2.1) (Nat.mul_le_mul_right _ WW.1.2.1)) (hGs_le W (Q.2 i (by omega))))
  have loop : ∀ k i μ1, i + k = n → RegV μ1 r (gsS D l q c i) → FrG [r, 2, 3] μ μ1 → JS Z X 8 [(0, mrf Z), (1, .int (nI r)), (2, .int (nI c)), (3, .int (nI i))] [] μ1 := by
    intro k
    induction k with
    | zero =>
      intro i μ1 hi h1 hF
      have : i = n := hi
      subst this
      refine bX12_guessedTo_8 E (fun _ => ?_) (fun c => absurd (by rw [hF.1 455 (by decide), T.1, nI_leE (by omega) (by omega)]; omega) c)
      rw [gsS_eq WW] at h1
      exact bX12_guessedTo_98 E hB ⟨rfl, h1, hF⟩
    | succ k ih =>
      intro i μ1 hi h1 hF
      have H1 : HM (μ1 456) 0 D := by rw [hF.1 _ (by decide)]; exact H
      have T1 : RowQ μ1 q n := ⟨by rw [hF.1 _ (by decide)]; exact T.1, fun j hj => by rw [hF.1 _ (by decide)]; exact T.2 j hj⟩
      obtain ⟨k1, k2, k3, k4⟩ := m_kind H1 W Q T1 (show i < n by omega)
      have at1 := hAt_lt W Q h3 (show i < n by omega)
      have ml := hMs_le (D := D) (l := l) (q := q) (i := i)
      have gl := hGs_le W (l := l) (c := c) (Q.2 i (by omega))
      have b1 := rs_le ml _ WW.1.2.1
      have b0 := bb i (by omega)
      have y := (Y.2 i (by omega)).1
      have lotc : μ1 456 (ix (nI 148 + nI c)) = nI l := by
        have h6 := (H1.2.2.2.2.2.1 c hc).2.2.2
        rw [show 0 + 148 + c = 148 + c by omega] at h6
        rw [nI_add, ix_nI (by omega), h6]
        exact (lotE (by omega) hl).mpr h6c
      refine bX12_guessedTo_8 E (fun c => absurd c (by rw [T1.1, nI_leE (by omega) (by omega)]; omega)) (fun _ => ?_)
      refine bX12_guessedTo_16 E k1 k2 (by rw [nI_add]; exact vin (by omega) (by omega)) k1 (by rw [k3, lotc, ix_nI (by omega), hF.1 463 (by decide), y]; exact m_missesAt H1 W hl k4 (by omega)) fun v μ2 g => ?_
      obtain ⟨rfl, rfl⟩ := g
      rw [k3]
      refine bX12_guessedTo_57 E (vin (by omega) (by omega)) (by rw [ix_nI (by omega), show μ2 456 201 = nI (D 13 0) by rw [hF.1 _ (by decide)]; exact N.2.1 0 (by omega)]; exact m_meanTo (r := 3) (by decide) (by decide) WW.1.2.1 ml) fun μ3 g => ?_
      have H3 : HM (μ3 456) 0 D := by rw [g.2.1 _ (by decide)]; exact H1
      have me : rs (miss D (l + 1) (D 8 (q i)) (hAt D q i) 6) (D 13 0) = rs (hMs D l q i) (D 13 0) := rfl
      rw [me] at g
      refine bX12_guessedTo_68 E k1 (by rw [ix_nI (by omega), g.2.1 463 (by decide), hF.1 463 (by decide), y]; exact m_guessesAt H3 W hc hl h6c k4 (by omega)) fun v μ4 k => ?_
      obtain ⟨rfl, rfl⟩ := k
      have ge : gues D (l + 1) (D 8 (q i)) (hAt D q i) c = hGs D l q i c := rfl
      rw [ge]
      have b2 := Nat.mul_le_mul (Nat.le_trans b1 (Nat.mul_le_mul_right _ WW.1.2.1)) gl
      refine bX12_guessedTo_83 E (m_times g.1 (by decide) (by omega) (Nat.lt_of_le_of_lt b2 (by decide))) fun μ5 k5 => ?_
      refine bX12_guessedTo_86 E (m_add ((h1.fr g.2 (by simp; omega)).fr k5.2 (by simpa using r3)) k5.1 hr (by decide) r3 (Nat.lt_of_le_of_lt (Nat.add_le_add (Nat.le_trans b0 (Nat.mul_le_mul_right _ (show i ≤ 6 by omega))) b2) (by decide))) fun μ6 k6 => bX12_guessedTo_92 E ?_
      rw [nI_add]
      exact ih (i + 1) μ6 (by omega) k6.1 (((hF.tr (g.2.mo (by simp))).tr (k5.2.mo (by simp))).tr (k6.2.mo (by simp)))
  exact bX12_guessedTo_0 E (m_set hr (by decide)) fun μ1 g => bX12_guessedTo_6 E (loop n 0 μ1 (by omega) g.1 (g.2.mo (by simp)))
theorem low_h6 (WW : WN D) (v : Nat) : lowF (v * 1000000 ^ (6 - D 13 0)) 36 = lowF v (6 * (D 13 0 - 1) + 6) := by
  have h1 := WW.1.1
  have h2 := WW.1.2.1
  have := lowF_up v (6 * (D 13 0 - 1) + 6) (6 * (6 - D 13 0))
  rw [← mil_pow, show 6 * (D 13 0 - 1) + 6 + 6 * (6 - D 13 0) = 36 by omega] at this
  exact this
def oGuessed (D : DD) (s : Nat → Int32) (f : Nat × Nat) (a : Int32) : Int32 × (Nat → Int32) × (Nat × Nat) := if inN a (D 0 1) then (if 0 < D 6 (ix a) ∧ hOk D (ro D (D 6 (ix a) - 1)) (D 11 (D 6 (ix a) - 1)) = true then (nI 1, s, lowF (guN D (D 6 (ix a) - 1) (ro D (D 6 (ix a) - 1)) (ix a) (D 11 (D 6 (ix a) - 1))) (6 * (D 13 0 - 1) + 6)) else (-3, cnt s (-3), f)) else (-2, cnt s (-2), f)
theorem x_guessed {a : Int32} (R : RepC μ D im tx s f) (O : OkS D im tx) : CtrS Z mX11_guessed [xrf Z, .int a] μ (rI fun v μ' => v = (oGuessed D s f a).1 ∧ RepC μ' D im tx (oGuessed D s f a).2.1 (oGuessed D s f a).2.2 ∧ FrX μ μ') := by
  refine CtrS.intro (by decide +kernel) (Nat.le_of_ble_eq_true rfl) rfl fun X E hB => ?_
  have hC := O.1.1.2.1
  refine bX11_guessed_0 E (by rw [show μ 1 3 = _ from R.1.2.2.1]; exact c_within (by omega)) fun v μ1 g => ?_
  obtain ⟨rfl, rfl⟩ := g
  refine bX11_guessed_11 E (fun c => ?_) (fun c => ?_)
  rotate_left
  · rw [bz] at c
    have e : oGuessed D s f a = _ := if_neg c
    rw [e] at hB
    exact bX11_guessed_14 E (x_ref R) fun v μ2 h => bX11_guessed_20 E hB ⟨_, rfl, h⟩
  rw [bz] at c
  have c := Decidable.not_not.mp c
  have e : oGuessed D s f a = _ := if_pos c
  rw [e] at hB
  obtain ⟨ha, ea⟩ := inN_of c (by omega)
  clear c e
  generalize ix a = ch at ha ea hB
  subst ea
  have h6 : μ1 (1 + 6) ch = lotI (D 6 ch) := (R.1.2.2.2.2.2.2.1 ch ha).2.2.2
  have w6 := (O.1.1.2.2.2.2.2.1 ch ha).2.2.2
  have no : ∀ μ2, ¬ (0 < D 6 ch ∧ hOk D (ro D (D 6 ch - 1)) (D 11 (D 6 ch - 1)) = true) → RepC μ2 D im tx s f → FrX μ1 μ2 → JS Z X 48 [(0, xrf Z)] [] μ2 := fun μ2 c R2 F2 => by
    rw [if_neg c] at hB
    exact bX11_guessed_48 E (x_ref R2) fun v μ3 h => bX11_guessed_54 E hB ⟨_, rfl, h.1, h.2.1, F2.tr h.2.2⟩
  refine bX11_guessed_21 E (vin (by omega) (by omega)) (fun d => ?_) (fun d => ?_)
  · rw [ix_nI (by omega), h6] at d
    refine no μ1 (fun g => ?_) R fun _ _ => rfl
    obtain ⟨l, hl⟩ : ∃ l, D 6 ch = l + 1 := ⟨D 6 ch - 1, by omega⟩
    rw [hl, show lotI (l + 1) = nI l from nI_suc_m1 l] at d
    exact absurd (show nI l < 0 by rw [d]; decide) (Int32.not_lt.mpr (nI_pos' (by omega)))
  rw [ix_nI (by omega), h6] at d ⊢
  obtain ⟨l, hl⟩ : ∃ l, D 6 ch = l + 1 := ⟨D 6 ch - 1, by
    have : D 6 ch ≠ 0 := fun z => d (by rw [z]; decide)
    omega⟩
  have l2 : l < 2 := by omega
  rw [hl, show lotI (l + 1) = nI l from nI_suc_m1 l]
  rw [hl, Nat.add_sub_cancel] at no hB
  refine bX11_guessed_36 E (x_canHunt (o := 78) rfl (by decide) (by decide) R O l2) fun v μ3 g => ?_
  obtain ⟨rfl, g1, g2, -, -, R3, gF⟩ := g
  have fx : FrX μ1 μ3 := fun x hx => gF x (by simp; omega)
  refine bX11_guessed_45 E (fun c => ?_) (fun c => ?_)
  rotate_left
  · rw [bz] at c
    exact no μ3 (fun g => c g.2) R3 fx
  rw [bz] at c
  have c := Decidable.not_not.mp c
  rw [if_pos ⟨by omega, c⟩] at hB
  have L := g1 c
  refine bX11_guessed_55 E (c_begin R3.2.1 O.1.2 R3.2.2.2.2.2.2) fun μ4 h => ?_
  obtain ⟨h1, h2, h3⟩ := h
  have P4 : FrP μ3 μ4 := FrP.ofFr h3 (by decide)
  have R4 := P4.rep R3 h2
  have Q4 : HQ μ4 78 l (ro D l) (D 11 l) := g2.congr (h3 _ (by decide)) (h3 _ (by decide))
  have L4 : HLd μ4 78 D l (ro D l) (D 11 l) (D 11 l) := L.congr (h3 _ (by decide)) (h3 _ (by decide)) (h3 _ (by decide)) (h3 _ (by decide)) (h3 _ (by decide))
  refine bX11_guessed_62 E (c_ofGuessed (o := 451) (GB.of rfl (by decide)) (by decide) rfl R4.1 R4.2.1 O.1.1 O.1.2 R4.2.2.2.2.2.2 l2 (QO.row O.1.1 l2) (hOk_3 c).1 Q4 L4 (by omega)) fun μ5 k => ?_
  obtain ⟨k1, k2, k3⟩ := k
  have P5 : FrP μ4 μ5 := FrP.ofFr k3 (by decide)
  have R5 := P5.rep R4 k2
  have h13 := O.1.2.1.2.1
  refine bX11_guessed_78 E (by rw [k3 _ (by decide), h1.1, nI_add]; exact x_tell R5 k1 (by decide) (by omega)) fun μ6 h6 => ?_
  exact bX11_guessed_99 E hB ⟨_, rfl, rfl, h6.1, fx.tr (P4.x.tr (P5.x.tr (FRS.x h6.2)))⟩
theorem y_guessed {a : Int32} (R : RepM μ D im tx s f) (O : OkS D im tx) : CtrS Z mX12_guessed [mrf Z, .int a] μ (rI fun v μ' => v = (oGuessed D s f a).1 ∧ RepM μ' D im tx (oGuessed D s f a).2.1 (oGuessed D s f a).2.2 ∧ FrY μ μ') := by
  refine CtrS.intro (by decide +kernel) (Nat.le_of_ble_eq_true rfl) rfl fun X E hB => ?_
  have hC := O.1.1.2.1
  refine bX12_guessed_0 E (m_isChild R.1 O.1.1 (by decide)) fun v μ1 g => ?_
  obtain ⟨rfl, rfl⟩ := g
  refine bX12_guessed_6 E (fun c => ?_) (fun c => ?_)
  rotate_left
  · rw [bz] at c
    have e : oGuessed D s f a = _ := if_neg c
    rw [e] at hB
    exact bX12_guessed_9 E (y_ref R O) fun v μ2 h => bX12_guessed_15 E hB ⟨_, rfl, h⟩
  rw [bz] at c
  have c := Decidable.not_not.mp c
  have e : oGuessed D s f a = _ := if_pos c
  rw [e] at hB
  obtain ⟨ha, ea⟩ := inN_of c (by omega)
  clear c e
  generalize ix a = ch at ha ea hB
  subst ea
  have h6 := (R.1.2.2.2.2.2.1 ch ha).2.2.2
  rw [show 0 + 148 + ch = 148 + ch by omega] at h6
  have w6 := (O.1.1.2.2.2.2.2.1 ch ha).2.2.2
  have v6 : vp_in (nI 148 + nI ch) 988 := by rw [nI_add]; exact vin (by omega) (by omega)
  have no : ∀ μ2, ¬ (0 < D 6 ch ∧ hOk D (ro D (D 6 ch - 1)) (D 11 (D 6 ch - 1)) = true) → RepM μ2 D im tx s f → FrY μ1 μ2 → JS Z X 47 [(0, mrf Z)] [] μ2 := fun μ2 c R2 F2 => by
    rw [if_neg c] at hB
    exact bX12_guessed_47 E (y_ref R2 O) fun v μ3 h => bX12_guessed_53 E hB ⟨_, rfl, h.1, h.2.1, F2.tr h.2.2⟩
  refine bX12_guessed_16 E v6 (fun d => ?_) (fun d => ?_)
  · rw [nI_add, ix_nI (by omega), h6] at d
    refine no μ1 (fun g => ?_) R fun _ _ => rfl
    obtain ⟨l, hl⟩ : ∃ l, D 6 ch = l + 1 := ⟨D 6 ch - 1, by omega⟩
    rw [hl, show lotI (l + 1) = nI l from nI_suc_m1 l] at d
    exact absurd (show nI l < 0 by rw [d]; decide) (Int32.not_lt.mpr (nI_pos' (by omega)))
  rw [nI_add, ix_nI (by omega), h6] at d
  obtain ⟨l, hl⟩ : ∃ l, D 6 ch = l + 1 := ⟨D 6 ch - 1, by
    have : D 6 ch ≠ 0 := fun z => d (by rw [z]; decide)
    omega⟩
  have l2 : l < 2 := by omega
  rw [hl, Nat.add_sub_cancel] at no hB
  refine bX12_guessed_30 E v6 (by rw [nI_add, ix_nI (by omega), h6, hl, show lotI (l + 1) = nI l from nI_suc_m1 l]; exact m_isHunt R O l2) fun v μ3 g => ?_
  obtain ⟨rfl, g1, g2, g3, R3, gF, -⟩ := g
  refine bX12_guessed_44 E (fun c => ?_) (fun c => ?_)
  rotate_left
  · rw [bz] at c
    exact no μ3 (fun g => c g.2) R3 gF.y
  rw [bz] at c
  have c := Decidable.not_not.mp c
  rw [if_pos ⟨by omega, c⟩] at hB
  refine bX12_guessed_54 E (m_guessedTo (r := 4) R3.1 R3.2.1 O.1.1 O.1.2 l2 (QO.row O.1.1 l2) (hOk_3 c).1 g2 (g1 c) ha hl (by decide) (by decide) (by decide)) fun μ4 h => ?_
  have q4 := FrQ.ofG h.2 (by decide)
  refine bX12_guessed_60 E (y_tell (q4.rep R3) h.1 (by decide) (by decide) (by decide)) fun μ5 h5 => ?_
  rw [low_h6 O.1.2] at h5
  exact bX12_guessed_67 E hB ⟨_, rfl, rfl, h5.1, (gF.tr q4).y.tr h5.2.y⟩
end GUESS
