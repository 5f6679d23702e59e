/-! PUBLIC calls: hard; THE FRACTION changes -/
theorem RepC.frac {μ μ' : Mu} {D : DD} {im : Nat → Option DD} {tx : TX} {s : Nat → Int32} {f : Nat × Nat} {a b : Nat} (R : RepC μ D im tx s f) (hF : Fr FRS μ μ') (h : FrV μ' a b) : RepC μ' D im tx s (a, b) := by
  obtain ⟨r1, r2, r3, r4, r5, r6, r7⟩ := R
  have e : ∀ x, x < 447 ∨ 451 ≤ x → μ' x = μ x := fun x hx => hF x (by simp; omega)
  refine ⟨r1.fr fun k hk => e _ (by omega), r2.fr fun k hk => e _ (by omega), by rw [e _ (by omega)]; exact r3, by rw [e _ (by omega), e _ (by omega)]; exact r4, h, fun i hi => ?_, ?_⟩
  · rw [e _ (by omega)]
    refine ⟨(r6 i hi).1, fun E hE => ?_⟩
    have := (r6 i hi).2 E hE
    have e1 : el 35 i = 37 + 17 * i := rfl
    have e2 : el 36 i = 50 + 17 * i := rfl
    exact ⟨this.1.fr fun k hk => e _ (by rw [e1]; omega), this.2.fr fun k hk => e _ (by rw [e2]; omega)⟩
  · obtain ⟨q1, q2, q3, q4⟩ := r7
    refine ⟨fun o ho => ?_, by rw [e _ (by omega)]; exact q2, q3.congr (e _ (by omega)) (e _ (by omega)), fun c hc => ?_⟩
    · by_cases h1 : o = 447
      · subst h1; exact ⟨a, h.1⟩
      · by_cases h2 : o = 449
        · subst h2; exact ⟨b, h.2⟩
        · obtain ⟨v, hv⟩ := q1 o ho
          have n1 : o ≠ 448 ∧ o ≠ 450 ∧ o + 1 ≠ 447 ∧ o + 1 ≠ 449 := by
            refine ⟨?_, ?_, ?_, ?_⟩ <;> intro g
            · subst g; exact absurd ho (by decide)
            · subst g; exact absurd ho (by decide)
            · exact big_ne ho h.1.1 g
            · exact big_ne ho h.2.1 g
          exact ⟨v, hv.congr (hF _ (by simp; omega)) (hF _ (by simp; omega))⟩
    · have : el 297 c = 362 + 2 * c := rfl
      exact (q4 c hc).congr (e _ (by rw [this]; omega)) (e _ (by rw [this]; omega))
theorem RepM.frac {μ μ' : Mu} {D : DD} {im : Nat → Option DD} {tx : TX} {s : Nat → Int32} {f : Nat × Nat} {a b : Nat} (R : RepM μ D im tx s f) (hF : (∀ x, x ≠ 465 → x ≠ 455 → μ' x = μ x) ∧ μ' 455 4 = μ 455 4) (h : FrM μ' a b) : RepM μ' D im tx s (a, b) := by
  obtain ⟨r1, r2, r3, r4, r5, r6⟩ := R
  have e := hF.1
  refine ⟨by rw [e _ (by decide) (by decide)]; exact r1, by rw [e _ (by decide) (by decide)]; exact r2, by rw [e _ (by decide) (by decide)]; exact r3, by rw [hF.2, e _ (by decide) (by decide)]; exact r4, h, fun i hi => ?_⟩
  rw [e _ (by decide) (by decide), e _ (by decide) (by decide)]
  exact r6 i hi
/-! how many reports of a kind, their minutes' sum, least, most -/
def hC (D : DD) (k : Nat) : Nat → Nat
  | 0 => 0
  | n + 1 => if D 15 n = k then hC D k n + 1 else hC D k n
def hS (D : DD) (k : Nat) : Nat → Nat
  | 0 => 0
  | n + 1 => if D 15 n = k then hS D k n + D 16 n else hS D k n
def hL (D : DD) (k : Nat) : Nat → Nat
  | 0 => 100
  | n + 1 => if D 15 n = k then min (hL D k n) (D 16 n) else hL D k n
def hM (D : DD) (k : Nat) : Nat → Nat
  | 0 => 0
  | n + 1 => if D 15 n = k then max (hM D k n) (D 16 n) else hM D k n
theorem h_facts {D : DD} {k : Nat} (W : WN D) : ∀ n, n ≤ D 14 0 → hC D k n ≤ n ∧ hC D k n ≤ hS D k n ∧ hS D k n ≤ 99 * n ∧ hL D k n ≤ 100 ∧ hM D k n ≤ 99
  | 0, _ => ⟨Nat.le_refl 0, Nat.le_refl 0, Nat.le_refl 0, Nat.le_refl 100, Nat.zero_le _⟩
  | n + 1, h => by
    have := h_facts (k := k) W n (by omega)
    have w := W.2.2 n (by omega)
    unfold hC hS hL hM
    by_cases e : D 15 n = k
    · simp only [if_pos e]; omega
    · simp only [if_neg e]; omega
def hF (D : DD) (k : Nat) : Nat × Nat := (hS D k (D 14 0) / Nat.gcd (hS D k (D 14 0)) (hC D k (D 14 0)), hC D k (D 14 0) / Nat.gcd (hS D k (D 14 0)) (hC D k (D 14 0)))
def oHard (D : DD) (s : Nat → Int32) (f : Nat × Nat) (a b : Int32) : Int32 × (Nat → Int32) × (Nat × Nat) :=
  if inN a 4 ∧ inN b 3 then (if hC D (ix a) (D 14 0) = 0 then (-3, cnt s (-3), f) else if b = nI 2 then (nI 1, s, hF D (ix a)) else (if b = nI 0 then nI (hL D (ix a) (D 14 0)) else nI (hM D (ix a) (D 14 0)), s, f)) else (-2, cnt s (-2), f)
section HARD
variable {Z : ZT} {μ : Mu} {D : DD} {im : Nat → Option DD} {tx : TX} {s : Nat → Int32} {f : Nat × Nat}
theorem gcd_big {S C g : Nat} (hC0 : 0 < C) (h1 : g ∣ S) (h2 : g ∣ C) (hm : ∀ d, d ≤ C → d ∣ S → d ∣ C → d ≤ g) : g = Nat.gcd S C := by
  refine Nat.le_antisymm (Nat.le_of_dvd (Nat.gcd_pos_of_pos_right _ hC0) (Nat.dvd_gcd h1 h2)) ?_
  exact hm _ (Nat.le_of_dvd hC0 (Nat.gcd_dvd_right _ _)) (Nat.gcd_dvd_left _ _) (Nat.gcd_dvd_right _ _)
theorem c_setRatio {S C : Nat} (h : FrV μ f.1 f.2) (hC0 : 0 < C) (hC : C ≤ 20) (hS : S ≤ 1980) : CtrS Z mX2_setRatio [rf Z 446, .int (nI S), .int (nI C)] μ (rV fun μ' => FrV μ' (S / Nat.gcd S C) (C / Nat.gcd S C) ∧ Fr FRS μ μ') := by
  refine CtrS.intro (by decide +kernel) (Nat.le_of_ble_eq_true rfl) rfl fun X E hB => ?_
  have loop : ∀ k i g, i + k = C + 1 → 2 ≤ i → 0 < g → g ∣ S → g ∣ C → (∀ d, d < i → d ∣ S → d ∣ C → d ≤ g) → JS Z X 5 [(0, rf Z 446), (1, .int (nI S)), (2, .int (nI C)), (3, .int (nI g)), (4, .int (nI i))] [] μ := by
    intro k
    induction k with
    | zero =>
      intro i g hi h2 hg g1 g2 g3
      have : i = C + 1 := by omega
      subst this
      have eg := gcd_big hC0 g1 g2 fun d hd => g3 d (by omega)
      have gl := Nat.le_of_dvd hC0 g2
      refine bX2_setRatio_5 E (fun _ => ?_) (fun c => absurd (by rw [nI_ltE (by omega) (by omega)]; omega) c)
      have d1 := Nat.div_le_self S g
      have d2 := Nat.div_le_self C g
      refine bX2_setRatio_34 E (nI_ne0 hg (by omega)) (by rw [pk_div (by omega) hg (by omega)]; exact c_set h.1 (by omega)) fun μ1 k => ?_
      have h2 := h.2.fr k.2 (by decide) (by decide)
      refine bX2_setRatio_44 E (nI_ne0 hg (by omega)) (by rw [pk_div (by omega) hg (by omega)]; exact c_set h2 (by omega)) fun μ2 k2 => ?_
      rw [← eg] at hB
      exact bX2_setRatio_54 E hB ⟨rfl, ⟨k.1.fr k2.2 (by decide) (by decide), k2.1⟩, (k.2.mo (by decide)).tr (k2.2.mo (by decide))⟩
    | succ k ih =>
      intro i g hi h2 hg g1 g2 g3
      have go : JS Z X 28 [(0, rf Z 446), (1, .int (nI S)), (2, .int (nI C)), (3, .int (nI g)), (4, .int (nI i))] [] μ → JS Z X 28 [(0, rf Z 446), (1, .int (nI S)), (2, .int (nI C)), (3, .int (nI g)), (4, .int (nI i))] [] μ := id
      have no : ¬ (i ∣ S ∧ i ∣ C) → JS Z X 28 [(0, rf Z 446), (1, .int (nI S)), (2, .int (nI C)), (3, .int (nI g)), (4, .int (nI i))] [] μ := fun n => by
        refine bX2_setRatio_28 E ?_
        rw [nI_add]
        exact ih (i + 1) g (by omega) (by omega) hg g1 g2 fun d hd e1 e2 => by
          rcases Nat.lt_or_ge d i with q | q
          · exact g3 d q e1 e2
          · have : d = i := by omega
            subst this
            exact absurd ⟨e1, e2⟩ n
      refine bX2_setRatio_5 E (fun c => absurd c (by rw [nI_ltE (by omega) (by omega)]; omega)) (fun _ => ?_)
      refine bX2_setRatio_11 E (nI_ne0 (by omega) (by omega)) (fun c => ?_) (fun c => ?_)
      · rw [pk_rem (by omega) (by omega) (by omega), show (0 : Int32) = nI 0 from rfl, nI_eqE (by have := Nat.mod_lt S (show 0 < i by omega); omega) (by omega)] at c
        exact no fun q => c (Nat.mod_eq_zero_of_dvd q.1)
      · rw [pk_rem (by omega) (by omega) (by omega), show (0 : Int32) = nI 0 from rfl, nI_eqE (by have := Nat.mod_lt S (show 0 < i by omega); omega) (by omega)] at c
        refine bX2_setRatio_18 E (nI_ne0 (by omega) (by omega)) (fun d => ?_) (fun d => ?_)
        · rw [pk_rem (by omega) (by omega) (by omega), show (0 : Int32) = nI 0 from rfl, nI_eqE (by have := Nat.mod_lt C (show 0 < i by omega); omega) (by omega)] at d
          exact no fun q => d (Nat.mod_eq_zero_of_dvd q.2)
        · rw [pk_rem (by omega) (by omega) (by omega), show (0 : Int32) = nI 0 from rfl, nI_eqE (by have := Nat.mod_lt C (show 0 < i by omega); omega) (by omega)] at d
          refine bX2_setRatio_25 E (bX2_setRatio_28 E ?_)
          rw [nI_add]
          exact ih (i + 1) i (by omega) (by omega) (by omega) (Nat.dvd_of_mod_eq_zero c) (Nat.dvd_of_mod_eq_zero d) fun d hd _ _ => by omega
  by_cases h1 : C = 1
  · subst h1
    refine bX2_setRatio_0 E ?_
    refine bX2_setRatio_5 E (fun _ => ?_) (fun c => absurd (by decide) c)
    have d1 := Nat.div_le_self S 1
    refine bX2_setRatio_34 E (nI_ne0 (n := 1) (by decide) (by omega)) (by rw [show nI S / nI 1 = nI (S / 1) from pk_div (by omega) (by omega) (by omega)]; exact c_set h.1 (by omega)) fun μ1 k => ?_
    have h2 := h.2.fr k.2 (by decide) (by decide)
    refine bX2_setRatio_44 E (nI_ne0 (n := 1) (by decide) (by omega)) (by rw [show nI 1 / nI 1 = nI (1 / 1) from pk_div (by omega) (by omega) (by omega)]; exact c_set h2 (by decide)) fun μ2 k2 => ?_
    rw [show Nat.gcd S 1 = 1 from Nat.gcd_one_right S] at hB
    exact bX2_setRatio_54 E hB ⟨rfl, ⟨k.1.fr k2.2 (by decide) (by decide), k2.1⟩, (k.2.mo (by decide)).tr (k2.2.mo (by decide))⟩
  · refine bX2_setRatio_0 E (loop (C - 1) 2 1 (by omega) (by omega) (by omega) (Nat.one_dvd _) (Nat.one_dvd _) fun d hd _ _ => by omega)
theorem m_common {S C : Nat} (hS : S < 10000) (hC : C < 10000) : CtrS Z mX12_common [.int (nI S), .int (nI C)] μ (rI fun v μ' => v = nI (Nat.gcd S C) ∧ μ' = μ) := by
  refine CtrS.intro (by decide +kernel) (Nat.le_of_ble_eq_true rfl) rfl fun X E hB => ?_
  have loop : ∀ n x y, y ≤ n → x < 10000 → y < 10000 → Nat.gcd x y = Nat.gcd S C → JS Z X 4 [(2, .int (nI x)), (3, .int (nI y))] [] μ := by
    intro n
    induction n with
    | zero =>
      intro x y hy hx hy2 hg
      have : y = 0 := Nat.le_zero.mp hy
      subst this
      rw [Nat.gcd_zero_right] at hg
      exact bX12_common_4 E (fun _ => bX12_common_21 E hB ⟨_, rfl, by rw [hg], rfl⟩) (fun c => absurd rfl c)
    | succ n ih =>
      intro x y hy hx hy2 hg
      by_cases y0 : y = 0
      · exact ih x y (by omega) hx hy2 hg
      · refine bX12_common_4 E (fun c => absurd c (nI_ne0 (by omega) (by omega))) (fun _ => ?_)
        refine bX12_common_8 E (nI_ne0 (by omega) (by omega)) ?_
        rw [pk_rem (by omega) (by omega) (by omega)]
        have := Nat.mod_lt x (show 0 < y by omega)
        refine ih y (x % y) (by omega) hy2 (by omega) ?_
        rw [← hg, Nat.gcd_comm x y, Nat.gcd_rec y x, Nat.gcd_comm]
  exact bX12_common_0 E (loop C S C (Nat.le_refl _) hS hC rfl)
theorem minL {a b : Nat} (ha : a < 2147483648) (hb : b < 2147483648) : (if nI a < nI b then nI a else nI b) = nI (min b a) := by
  simp only [nI_ltE ha hb]
  by_cases h : a < b
  · rw [if_pos h, Nat.min_eq_right (by omega)]
  · rw [if_neg h, Nat.min_eq_left (by omega)]
theorem maxL {a b : Nat} (ha : a < 2147483648) (hb : b < 2147483648) : (if nI a < nI b then nI b else nI a) = nI (max a b) := by
  simp only [nI_ltE ha hb]
  by_cases h : a < b
  · rw [if_pos h, Nat.max_eq_right (by omega)]
  · rw [if_neg h, Nat.max_eq_left (by omega)]
theorem x_hard {a b : Int32} (R : RepC μ D im tx s f) (O : OkS D im tx) : CtrS Z mX11_hard [xrf Z, .int a, .int b] μ (rI fun v μ' => v = (oHard D s f a b).1 ∧ RepC μ' D im tx (oHard D s f a b).2.1 (oHard D s f a b).2.2 ∧ FrX μ μ') := by
  refine CtrS.intro (by decide +kernel) (Nat.le_of_ble_eq_true rfl) rfl fun X E hB => ?_
  have W := O.1.2
  have hN := W.2.1
  have no : ¬ (inN a 4 ∧ inN b 3) → JS Z X 16 [(0, xrf Z)] [] μ := fun g => by
    have e : oHard D s f a b = (-2, cnt s (-2), f) := if_neg g
    rw [e] at hB
    refine bX11_hard_16 E (c_counted (s := s) R.2.2.1) fun v μ2 h => ?_
    obtain ⟨rfl, h1, h2⟩ := h
    exact bX11_hard_22 E hB ⟨_, rfl, rfl, xstep (μ1 := _) R R.1 Fr.rf h1 h2 fun _ _ => rfl⟩
  refine bX11_hard_0 E (c_within (n := 4) (by decide)) fun v μ1 g => ?_
  obtain ⟨rfl, rfl⟩ := g
  refine bX11_hard_5 E (fun c => no fun g => by rw [bz] at c; exact c g.1) (fun c1 => ?_)
  rw [bz] at c1
  have c1 := Decidable.not_not.mp c1
  refine bX11_hard_8 E (c_within (n := 3) (by decide)) fun v μ1 g => ?_
  obtain ⟨rfl, rfl⟩ := g
  refine bX11_hard_13 E (fun c2 => ?_) (fun c => no fun g => by rw [bz] at c; exact c g.2)
  rw [bz] at c2
  have c2 := Decidable.not_not.mp c2
  have e : oHard D s f a b = _ := if_pos ⟨c1, c2⟩
  obtain ⟨ha, ea⟩ := inN_of c1 (by decide)
  obtain ⟨n1, n2, n3, n4⟩ := R.2.1
  have loop : ∀ k i, i + k = D 14 0 → JS Z X 37 [(0, xrf Z), (1, .int a), (2, .int b), (3, .int (nI (hC D (ix a) i))), (4, .int (nI (hS D (ix a) i))), (5, .int (nI (if hC D (ix a) i = 0 then 0 else hL D (ix a) i))), (6, .int (nI (hM D (ix a) i))), (7, .int (nI i))] [] μ1 := by
    intro k
    induction k with
    | zero =>
      intro i hi
      have : i = D 14 0 := by omega
      subst this
      obtain ⟨q1, q2, q3, q4, q5⟩ := h_facts (k := ix a) W (D 14 0) (Nat.le_refl _)
      refine bX11_hard_37 E (fun _ => ?_) (fun c => absurd (by rw [n2, nI_leE (by omega) (by omega)]; omega) c)
      refine bX11_hard_118 E (fun c => ?_) (fun c => ?_)
      · rw [show (0 : Int32) = nI 0 from rfl, nI_eqE (by omega) (by omega)] at c
        rw [if_neg c] at e
        rw [if_neg c]
        refine bX11_hard_129 E (fun d => ?_) (fun d => ?_)
        · rw [if_neg (show ¬ b = nI 2 from d)] at e
          rw [e] at hB
          refine bX11_hard_146 E (fun d => ?_) (fun d => ?_)
          · rw [if_neg (show ¬ b = nI 0 from d)] at hB
            exact bX11_hard_155 E (bX11_hard_157 E hB ⟨_, rfl, rfl, R, fun _ _ => rfl⟩)
          · rw [if_pos (show b = nI 0 from d)] at hB
            exact bX11_hard_150 E (bX11_hard_157 E hB ⟨_, rfl, rfl, R, fun _ _ => rfl⟩)
        · rw [if_pos (show b = nI 2 from d)] at e
          rw [e] at hB
          refine bX11_hard_134 E (c_setRatio R.2.2.2.2.1 (by omega) (by omega) (by omega)) fun μ2 g => ?_
          exact bX11_hard_144 E hB ⟨_, rfl, rfl, R.frac g.2 g.1, fun x hx => g.2 x (by simp; omega)⟩
      · rw [show (0 : Int32) = nI 0 from rfl, nI_eqE (by omega) (by omega)] at c
        rw [if_pos c] at e
        rw [e] at hB
        refine bX11_hard_122 E (c_counted (s := s) R.2.2.1) fun v μ2 h => ?_
        obtain ⟨rfl, h1, h2⟩ := h
        exact bX11_hard_128 E hB ⟨_, rfl, rfl, xstep (μ1 := _) R R.1 Fr.rf h1 h2 fun _ _ => rfl⟩
    | succ k ih =>
      intro i hi
      have q := ih (i + 1) (by omega)
      obtain ⟨q1, q2, q3, q4, q5⟩ := h_facts (k := ix a) W i (by omega)
      have w := W.2.2 i (by omega)
      have iv : vp_in (nI i) 20 := vin (by omega) (by omega)
      have g := n4 i (by omega)
      refine bX11_hard_37 E (fun c => absurd c (by rw [n2, nI_leE (by omega) (by omega)]; omega)) (fun _ => ?_)
      refine bX11_hard_49 E iv (fun c => ?_) (fun c => ?_)
      · rw [ix_nI (by omega), show μ1 (27 + 2) i = _ from g.1, ea, nI_eqE (by omega) (by omega)] at c
        refine bX11_hard_112 E ?_
        rw [nI_add]
        rw [hC, if_neg c, hS, if_neg c, hL, if_neg c, hM, if_neg c] at q
        exact q
      · rw [ix_nI (by omega), show μ1 (27 + 2) i = _ from g.1, ea, nI_eqE (by omega) (by omega)] at c
        rw [hC, if_pos c, hS, if_pos c, hL, if_pos c, hM, if_pos c, if_neg (by omega)] at q
        have done : ∀ v, v = nI (min (hL D (ix a) i) (D 16 i)) → JS Z X 91 [(0, xrf Z), (1, .int a), (2, .int b), (3, .int (nI (hC D (ix a) i))), (4, .int (nI (hS D (ix a) i))), (6, .int (nI (hM D (ix a) i))), (7, .int (nI i)), (8, .int (nI (D 16 i)))] [.int v] μ1 := fun v hv => by
          subst hv
          refine bX11_hard_91 E (bX11_hard_112 E ?_)
          rw [nI_add, nI_add, nI_add, maxL (by omega) (by omega)]
          exact q
        refine bX11_hard_63 E iv (fun d => ?_) (fun d => ?_)
        · rw [show (0 : Int32) = nI 0 from rfl, nI_eqE (by omega) (by omega)] at d
          rw [ix_nI (by omega), show μ1 (27 + 3) i = _ from g.2, if_neg d]
          refine bX11_hard_84 E ?_
          exact done _ (minL (by omega) (by omega))
        · rw [show (0 : Int32) = nI 0 from rfl, nI_eqE (by omega) (by omega)] at d
          rw [ix_nI (by omega), show μ1 (27 + 3) i = _ from g.2]
          have l100 : ∀ n, hC D (ix a) n = 0 → hL D (ix a) n = 100 := by
            intro n
            induction n with
            | zero => intro _; rfl
            | succ n ih2 =>
              unfold hC hL
              by_cases e : D 15 n = ix a
              · simp only [if_pos e]; omega
              · simp only [if_neg e]; exact ih2
          refine bX11_hard_79 E (done _ ?_)
          rw [l100 i d, Nat.min_eq_right (by omega)]
  refine bX11_hard_23 E (loop (D 14 0) 0 (by omega))
theorem y_hard {a b : Int32} (R : RepM μ D im tx s f) (O : OkS D im tx) : CtrS Z mX12_hard [mrf Z, .int a, .int b] μ (rI fun v μ' => v = (oHard D s f a b).1 ∧ RepM μ' D im tx (oHard D s f a b).2.1 (oHard D s f a b).2.2 ∧ FrY μ μ') := by
  refine CtrS.intro (by decide +kernel) (Nat.le_of_ble_eq_true rfl) rfl fun X E hB => ?_
  have W := O.1.2
  have hN := W.2.1
  have no : ¬ (inN a 4 ∧ inN b 3) → JS Z X 18 [(0, mrf Z)] [] μ := fun g => by
    have e : oHard D s f a b = (-2, cnt s (-2), f) := if_neg g
    rw [e] at hB
    refine bX12_hard_18 E (m_refuse (s := s) R.2.2.1) fun v μ2 h => ?_
    obtain ⟨rfl, h1, h2⟩ := h
    exact bX12_hard_24 E hB ⟨_, rfl, rfl, ystay R O h1 h2⟩
  refine bX12_hard_0 E m_in fun v μ1 g => ?_
  simp only [in_3] at g
  obtain ⟨rfl, rfl⟩ := g
  refine bX12_hard_6 E (fun c => no fun g => by rw [bz] at c; exact c g.1) (fun c1 => ?_)
  rw [bz] at c1
  have c1 := Decidable.not_not.mp c1
  refine bX12_hard_9 E m_in fun v μ1 g => ?_
  simp only [show (nI 0 ≤ b ∧ b ≤ nI 2) = inN b 3 from in_N (n := 3) (by decide)] at g
  obtain ⟨rfl, rfl⟩ := g
  refine bX12_hard_15 E (fun c2 => ?_) (fun c => no fun g => by rw [bz] at c; exact c g.2)
  rw [bz] at c2
  have c2 := Decidable.not_not.mp c2
  have e : oHard D s f a b = _ := if_pos ⟨c1, c2⟩
  obtain ⟨ha, ea⟩ := inN_of c1 (by decide)
  obtain ⟨hb, eb⟩ := inN_of c2 (by decide)
  obtain ⟨n2, n3, n4⟩ := R.2.1
  have n2 : μ1 456 206 = nI (D 14 0) := n2
  have loop : ∀ k i, i + k = D 14 0 → JS Z X 40 [(0, mrf Z), (1, .int a), (2, .int b), (3, .int (nI (hC D (ix a) i))), (4, .int (nI (hS D (ix a) i))), (5, .int (nI (hL D (ix a) i))), (6, .int (nI (hM D (ix a) i))), (7, .int (nI i))] [] μ1 := by
    intro k
    induction k with
    | zero =>
      intro i hi
      have : i = D 14 0 := by omega
      subst this
      obtain ⟨q1, q2, q3, q4, q5⟩ := h_facts (k := ix a) W (D 14 0) (Nat.le_refl _)
      refine bX12_hard_40 E (vin (by omega) (by omega)) (fun _ => ?_) (fun c => absurd (by rw [ix_nI (by omega), n2, nI_leE (by omega) (by omega)]; omega) c)
      refine bX12_hard_129 E (fun c => ?_) (fun c => ?_)
      · rw [show (0 : Int32) = nI 0 from rfl, nI_eqE (by omega) (by omega)] at c
        rw [if_neg c] at e
        have fin : ∀ μ2, RepM μ2 D im tx (oHard D s f a b).2.1 (oHard D s f a b).2.2 → FrY μ1 μ2 → JS Z X 177 [(2, .int b), (5, .int (nI (hL D (ix a) (D 14 0)))), (6, .int (nI (hM D (ix a) (D 14 0))))] [] μ2 := fun μ2 h1 h2 => by
          refine bX12_hard_177 E (fun d => ?_) (fun d => ?_)
          · refine bX12_hard_186 E (fun d2 => ?_) (fun d2 => ?_)
            · have : b = nI 2 := by
                rcases (show ix b = 0 ∨ ix b = 1 ∨ ix b = 2 by omega) with q | q | q <;> rw [q] at eb
                · exact absurd eb d
                · exact absurd eb d2
                · exact eb
              refine bX12_hard_196 E (bX12_hard_197 E hB ⟨_, rfl, ?_, h1, h2⟩)
              rw [e, if_pos this]
            · refine bX12_hard_191 E (bX12_hard_197 E hB ⟨_, rfl, ?_, h1, h2⟩)
              rw [e, if_neg (by rw [show b = nI 1 from d2]; decide), if_neg (show ¬ b = nI 0 from d)]
          · refine bX12_hard_181 E (bX12_hard_197 E hB ⟨_, rfl, ?_, h1, h2⟩)
            rw [e, if_neg (by rw [show b = nI 0 from d]; decide), if_pos (show b = nI 0 from d)]
        refine bX12_hard_140 E (fun d => ?_) (fun d => ?_)
        · rw [if_neg (show ¬ b = nI 2 from d)] at e
          rw [e] at fin
          exact fin _ R fun _ _ => rfl
        · have e0 := e
          rw [if_pos (show b = nI 2 from d)] at e
          have gp := Nat.gcd_pos_of_pos_right (hS D (ix a) (D 14 0)) (show 0 < hC D (ix a) (D 14 0) by omega)
          have gl : Nat.gcd (hS D (ix a) (D 14 0)) (hC D (ix a) (D 14 0)) ≤ hC D (ix a) (D 14 0) := Nat.le_of_dvd (by omega) (Nat.gcd_dvd_right _ _)
          refine bX12_hard_145 E (m_common (by omega) (by omega)) fun v μ2 g => ?_
          obtain ⟨rfl, rfl⟩ := g
          have d1 := Nat.div_le_self (hS D (ix a) (D 14 0)) (Nat.gcd (hS D (ix a) (D 14 0)) (hC D (ix a) (D 14 0)))
          have d2 := Nat.div_le_self (hC D (ix a) (D 14 0)) (Nat.gcd (hS D (ix a) (D 14 0)) (hC D (ix a) (D 14 0)))
          have d3 : 0 < hS D (ix a) (D 14 0) / Nat.gcd (hS D (ix a) (D 14 0)) (hC D (ix a) (D 14 0)) := Nat.div_pos (by omega) gp
          refine bX12_hard_151 E (nI_ne0 gp (by omega)) (by rw [pk_div (by omega) gp (by omega)]; exact m_set (r := 0) (by decide) (by omega)) fun μ3 g3 => ?_
          refine bX12_hard_163 E (nI_ne0 gp (by omega)) (by rw [pk_div (by omega) gp (by omega)]; exact m_set (r := 1) (by decide) (by omega)) fun μ4 g4 => ?_
          refine bX12_hard_172 E (fin _ ?_ fun x hx => by rw [uR_n (by omega), g4.2.1 _ (by omega), g3.2.1 _ (by omega)])
          rw [e]
          have u0 := g3.1.fr g4.2 (by decide)
          refine R.frac ⟨fun x h1 h2 => by rw [uR_n h2, g4.2.1 _ h1, g3.2.1 _ h1], by rw [uR_s, pk_un (by decide), g4.2.1 _ (by decide), g3.2.1 _ (by decide)]⟩ ⟨⟨u0.1, fun k hk => by rw [uR_n (by decide)]; exact u0.2 k hk⟩, ⟨g4.1.1, fun k hk => by rw [uR_n (by decide)]; exact g4.1.2 k hk⟩, ?_⟩
          rw [uR_s, pk_us, if_neg (by omega)]
      · rw [show (0 : Int32) = nI 0 from rfl, nI_eqE (by omega) (by omega)] at c
        rw [if_pos c] at e
        rw [e] at hB
        refine bX12_hard_133 E (m_refuse (s := s) R.2.2.1) fun v μ2 h => ?_
        obtain ⟨rfl, h1, h2⟩ := h
        exact bX12_hard_139 E hB ⟨_, rfl, rfl, ystay R O h1 h2⟩
    | succ k ih =>
      intro i hi
      have q := ih (i + 1) (by omega)
      obtain ⟨q1, q2, q3, q4, q5⟩ := h_facts (k := ix a) W i (by omega)
      have w := W.2.2 i (by omega)
      have g := n4 i (by omega)
      rw [show 0 + 207 + i = 207 + i by omega, show 0 + 227 + i = 227 + i by omega] at g
      refine bX12_hard_40 E (vin (by omega) (by omega)) (fun c => absurd c (by rw [ix_nI (by omega), n2, nI_leE (by omega) (by omega)]; omega)) (fun _ => ?_)
      refine bX12_hard_53 E (by rw [nI_add]; exact vin (by omega) (by omega)) (fun c => ?_) (fun c => ?_)
      · rw [nI_add, ix_nI (by omega), g.1, ea, nI_eqE (by omega) (by omega)] at c
        refine bX12_hard_123 E ?_
        rw [nI_add]
        rw [hC, if_neg c, hS, if_neg c, hL, if_neg c, hM, if_neg c] at q
        exact q
      · rw [nI_add, ix_nI (by omega), g.1, ea, nI_eqE (by omega) (by omega)] at c
        rw [hC, if_pos c, hS, if_pos c, hL, if_pos c, hM, if_pos c] at q
        have more : ∀ v, v = nI (max (hM D (ix a) i) (D 16 i)) → JS Z X 121 [(0, mrf Z), (1, .int a), (2, .int b), (3, .int (nI (hC D (ix a) i + 1))), (4, .int (nI (hS D (ix a) i + D 16 i))), (5, .int (nI (min (hL D (ix a) i) (D 16 i)))), (7, .int (nI i))] [.int v] μ1 := fun v hv => by
          subst hv
          refine bX12_hard_121 E (bX12_hard_123 E ?_)
          rw [nI_add]
          exact q
        have done : ∀ v, v = nI (min (hL D (ix a) i) (D 16 i)) → JS Z X 105 [(0, mrf Z), (1, .int a), (2, .int b), (3, .int (nI (hC D (ix a) i + 1))), (4, .int (nI (hS D (ix a) i + D 16 i))), (6, .int (nI (hM D (ix a) i))), (7, .int (nI i)), (8, .int (nI (D 16 i)))] [.int v] μ1 := fun v hv => by
          subst hv
          refine bX12_hard_105 E (fun d => ?_) (fun d => ?_)
          · rw [nI_leE (by omega) (by omega)] at d
            exact bX12_hard_119 E (more _ (by rw [Nat.max_eq_left (by omega)]))
          · rw [nI_leE (by omega) (by omega)] at d
            exact bX12_hard_114 E (more _ (by rw [Nat.max_eq_right (by omega)]))
        refine bX12_hard_68 E (by rw [nI_add]; exact vin (by omega) (by omega)) (fun d => ?_) (fun d => ?_)
        · rw [nI_add, ix_nI (by omega), g.2, nI_leE (by omega) (by omega)] at d
          rw [nI_add 227, ix_nI (show 227 + i < 2147483648 by omega), g.2, nI_add, nI_add]
          exact bX12_hard_103 E (done _ (by rw [Nat.min_eq_left (by omega)]))
        · rw [nI_add, ix_nI (by omega), g.2, nI_leE (by omega) (by omega)] at d
          rw [nI_add 227, ix_nI (show 227 + i < 2147483648 by omega), g.2, nI_add, nI_add]
          exact bX12_hard_98 E (done _ (by rw [Nat.min_eq_right (by omega)]))
  refine bX12_hard_25 E (loop (D 14 0) 0 (by omega))
end HARD
