/-! PUBLIC calls: hangs, bears -/
def hg (D : DD) (l : Nat) : Nat → Nat
  | 0 => 0
  | 1 => 0
  | n + 2 => if D 9 (D 12 (6 * l + n)) = 1 then hg D l (n + 1) else hg D l (n + 1) ||| 2 ^ (n + 1)
theorem hg_lt (D : DD) (l : Nat) : ∀ n, hg D l n < 2 ^ n
  | 0 => (by decide : 0 < 2 ^ 0)
  | 1 => (by decide : 0 < 2 ^ 1)
  | n + 2 => by
    have h := hg_lt D l (n + 1)
    have h2 : hg D l (n + 1) < 2 ^ (n + 2) := Nat.lt_trans h (Nat.pow_lt_pow_right (by decide) (by omega))
    unfold hg
    split
    · exact h2
    · exact Nat.or_lt_two_pow h2 (Nat.pow_lt_pow_right (by decide) (by omega))
def oHangs (D : DD) (s : Nat → Int32) (a : Int32) : Int32 × (Nat → Int32) := if inN a 2 then (if D 11 (ix a) = 0 then (-3, cnt s (-3)) else (nI (hg D (ix a) (D 11 (ix a))), s)) else (-2, cnt s (-2))
/-! bears -/
def br (sp : Nat → Bool) (w : Nat) : Nat → Nat × Nat
  | 0 => (1, 1)
  | i + 1 => ((br sp w i).2 * (10 - w), (br sp w i).2 * (10 - w) + if sp i = true then w * (br sp w i).1 else 0)
def fd (sp : Nat → Bool) (w n : Nat) : Nat → Nat
  | 0 => 1
  | 1 => (10 - w) * 1 + w * (if sp (n - 2) = true then 1 else 0)
  | k + 2 => (10 - w) * fd sp w n (k + 1) + w * (if sp (n - 1 - (k + 2)) = true then (10 - w) * fd sp w n k else 0)
def al (sp : Nat → Bool) (w n : Nat) : Nat → Nat
  | 0 => 1
  | k + 1 => (10 - w) * fd sp w n k
def be (sp : Nat → Bool) (w n : Nat) : Nat → Nat
  | 0 => 0
  | k + 1 => if sp (n - 1 - (k + 1)) = true then w * al sp w n k else 0
theorem fd_ab (sp : Nat → Bool) (w n : Nat) : ∀ k, fd sp w n k = al sp w n k + be sp w n k
  | 0 => rfl
  | 1 => by
    simp only [fd, al, be]
    rw [show n - 1 - (0 + 1) = n - 2 by omega]
    split <;> simp
  | k + 2 => by
    simp only [fd, al, be]
    rw [show n - 1 - (k + 1 + 1) = n - 1 - (k + 2) by omega]
    split <;> simp
theorem br_fd (sp : Nat → Bool) (w n : Nat) : ∀ k i, i + k + 1 = n → (br sp w (n - 1)).2 = al sp w n k * (br sp w i).2 + be sp w n k * (br sp w i).1 := by
  intro k
  induction k with
  | zero =>
    intro i hi
    rw [show n - 1 = i by omega]
    simp [al, be]
  | succ k ih =>
    intro i hi
    rw [ih (i + 1) (by omega), al, fd_ab, be, br, show n - 1 - (k + 1) = i by omega]
    dsimp only
    generalize (br sp w i).1 = t
    generalize (br sp w i).2 = r
    generalize al sp w n k = A
    generalize be sp w n k = B
    generalize 10 - w = c
    split
    · simp only [Nat.mul_add, Nat.add_mul]
      have e1 : A * (r * c) = c * A * r := by ac_rfl
      have e2 : A * (w * t) = w * A * t := by ac_rfl
      have e3 : B * (r * c) = c * B * r := by ac_rfl
      omega
    · simp only [Nat.mul_add, Nat.add_mul]
      have e1 : A * (r * c) = c * A * r := by ac_rfl
      have e3 : B * (r * c) = c * B * r := by ac_rfl
      omega
theorem bears_eq {sp : Nat → Bool} {w n : Nat} (hn : 0 < n) : (br sp w (n - 1)).2 = fd sp w n (n - 1) := by
  rw [br_fd sp w n (n - 1) 0 (by omega), fd_ab]
  show _ * 1 + _ * 1 = _
  omega
theorem br_le {sp : Nat → Bool} {w : Nat} (hw : w ≤ 10) : ∀ i, (br sp w i).1 ≤ (br sp w i).2 ∧ (br sp w i).2 ≤ 10 ^ i
  | 0 => ⟨Nat.le_refl 1, Nat.le_refl 1⟩
  | i + 1 => by
    have h := br_le (sp := sp) hw i
    rw [br, Nat.pow_succ]
    dsimp only
    have h1 : w * (br sp w i).1 ≤ w * 10 ^ i := Nat.mul_le_mul_left _ (by omega)
    have h2 : (br sp w i).2 * (10 - w) ≤ 10 ^ i * (10 - w) := Nat.mul_le_mul_right _ h.2
    have h3 : 10 ^ i * (10 - w) + w * 10 ^ i = 10 ^ i * 10 := by rw [Nat.mul_comm w, ← Nat.mul_add]; congr 1; omega
    split <;> omega
theorem fd_le {sp : Nat → Bool} {w n : Nat} (hw : w ≤ 10) : ∀ k, fd sp w n k ≤ 10 ^ k
  | 0 => Nat.le_refl 1
  | 1 => by
    unfold fd
    split <;> omega
  | k + 2 => by
    have h1 := fd_le (sp := sp) (n := n) hw (k + 1)
    have h0 := fd_le (sp := sp) (n := n) hw k
    unfold fd
    have g1 : (10 - w) * fd sp w n (k + 1) ≤ (10 - w) * 10 ^ (k + 1) := Nat.mul_le_mul_left _ h1
    have g0 : (10 - w) * fd sp w n k ≤ 10 * 10 ^ k := Nat.mul_le_mul (by omega) h0
    have e : 10 * 10 ^ k = 10 ^ (k + 1) := by rw [Nat.pow_succ, Nat.mul_comm]
    have g2 : w * (if sp (n - 1 - (k + 2)) = true then (10 - w) * fd sp w n k else 0) ≤ w * 10 ^ (k + 1) := Nat.mul_le_mul_left _ (by split <;> omega)
    have h3 : (10 - w) * 10 ^ (k + 1) + w * 10 ^ (k + 1) = 10 ^ (k + 2) := by rw [← Nat.add_mul, show 10 - w + w = 10 by omega, Nat.pow_succ 10 (k + 1), Nat.mul_comm]
    omega
def spl (D : DD) (l i : Nat) : Bool := decide (D 9 (D 12 (6 * l + i)) = 1)
def oBears (D : DD) (s : Nat → Int32) (f : Nat × Nat) (a : Int32) : Int32 × (Nat → Int32) × (Nat × Nat) := if inN a 2 then (if D 11 (ix a) = 0 then (-3, cnt s (-3), f) else (nI 1, s, lowF (fd (spl D (ix a)) (D 13 2) (D 11 (ix a)) (D 11 (ix a) - 1)) (D 11 (ix a) - 1))) else (-2, cnt s (-2), f)
section BEARS
variable {Z : ZT} {μ : Mu} {D : DD} {im : Nat → Option DD} {tx : TX} {s : Nat → Int32} {f : Nat × Nat}
theorem x_hangs {a : Int32} (R : RepC μ D im tx s f) (O : OkS D im tx) : CtrS Z mX11_hangs [xrf Z, .int a] μ (rI fun v μ' => v = (oHangs D s a).1 ∧ RepC μ' D im tx (oHangs D s a).2 f ∧ FrX μ μ') := by
  refine CtrS.intro (by decide +kernel) (Nat.le_of_ble_eq_true rfl) rfl fun X E hB => ?_
  refine bX11_hangs_0 E (c_within (n := 2) (by decide)) fun v μ1 g => ?_
  obtain ⟨rfl, rfl⟩ := g
  refine bX11_hangs_5 E (fun c1 => ?_) (fun c => ?_)
  · rw [bz] at c1
    have c1 := Decidable.not_not.mp c1
    have e : oHangs D s a = _ := if_pos c1
    rw [e] at hB
    obtain ⟨ha, ea⟩ := inN_of c1 (by decide)
    have hv : vp_in a 2 := by rw [ea]; exact vin (by omega) (by omega)
    generalize ix a = l at ha ea hB
    subst ea
    have el : ix (nI l) = l := ix_nI (by omega)
    have h9 := (R.1.2.2.2.2.2.2.2.2 l ha).1
    have w := (O.1.1.2.2.2.2.2.2.2 l ha).1
    refine bX11_hangs_15 E hv (fun c => ?_) (fun c => ?_)
    · rw [el, show μ1 (1 + 11) l = _ from h9, show (0 : Int32) = nI 0 from rfl, nI_eqE (by omega) (by omega)] at c
      rw [if_neg c] at hB
      have loop : ∀ k i, i + 1 + k = D 11 l → JS Z X 38 [(0, xrf Z), (1, .int (nI l)), (2, .int (nI (hg D l (i + 1)))), (3, .int (nI (i + 1)))] [] μ1 := by
        intro k
        induction k with
        | zero =>
          intro i hi
          have hi : i + 1 = D 11 l := hi
          refine bX11_hangs_38 E hv (fun _ => ?_) (fun c => absurd (by rw [el, show μ1 (1 + 11) l = _ from h9, nI_leE (by omega) (by omega)]; omega) c)
          rw [hi]
          exact bX11_hangs_77 E hB ⟨_, rfl, rfl, R, fun _ _ => rfl⟩
        | succ k ih =>
          intro i hi
          have q := ih (i + 1) (by omega)
          have lt := hg_lt D l (i + 1)
          have l64 : (2 : Nat) ^ (i + 1) ≤ 2 ^ 6 := Nat.pow_le_pow_right (by decide) (by omega)
          rw [hg] at q
          refine bX11_hangs_38 E hv (fun c => absurd c (by rw [el, show μ1 (1 + 11) l = _ from h9, nI_leE (by omega) (by omega)]; omega)) (fun _ => ?_)
          refine bX11_hangs_51 E (by rw [show nI (i + 1) - nI 1 = nI i from nI_sub (by omega)]; exact c_isSpareAt R.1 O.1.1 ha (by omega)) fun v μ2 g => ?_
          obtain ⟨rfl, rfl⟩ := g
          refine bX11_hangs_62 E (fun c => ?_) (fun c => ?_)
          · rw [bz] at c
            rw [if_pos (Decidable.not_not.mp c)] at q
            refine bX11_hangs_71 E ?_
            rw [nI_add]
            exact q
          · rw [bz] at c
            rw [if_neg c] at q
            refine bX11_hangs_65 E (bX11_hangs_71 E ?_)
            rw [nI_add, bit_one (by omega), nI_or (by omega) (by omega)]
            exact q
      exact bX11_hangs_34 E (loop (D 11 l - 1) 0 (by omega))
    · rw [el, show μ1 (1 + 11) l = _ from h9, show (0 : Int32) = nI 0 from rfl, nI_eqE (by omega) (by omega)] at c
      rw [if_pos c] at hB
      refine bX11_hangs_27 E (c_counted (s := s) R.2.2.1) fun v μ2 h => ?_
      obtain ⟨rfl, h1, h2⟩ := h
      exact bX11_hangs_33 E hB ⟨_, rfl, rfl, xstep (μ1 := _) R R.1 Fr.rf h1 h2 fun _ _ => rfl⟩
  · have e : oHangs D s a = (-2, cnt s (-2)) := if_neg fun g => by rw [bz] at c; exact c g
    rw [e] at hB
    refine bX11_hangs_8 E (c_counted (s := s) R.2.2.1) fun v μ2 h => ?_
    obtain ⟨rfl, h1, h2⟩ := h
    exact bX11_hangs_14 E hB ⟨_, rfl, rfl, xstep (μ1 := _) R R.1 Fr.rf h1 h2 fun _ _ => rfl⟩
theorem x_bears {a : Int32} (R : RepC μ D im tx s f) (O : OkS D im tx) : CtrS Z mX11_bears [xrf Z, .int a] μ (rI fun v μ' => v = (oBears D s f a).1 ∧ RepC μ' D im tx (oBears D s f a).2.1 (oBears D s f a).2.2 ∧ FrX μ μ') := by
  refine CtrS.intro (by decide +kernel) (Nat.le_of_ble_eq_true rfl) rfl fun X E hB => ?_
  refine bX11_bears_0 E (c_within (n := 2) (by decide)) fun v μ1 g => ?_
  obtain ⟨rfl, rfl⟩ := g
  refine bX11_bears_5 E (fun c1 => ?_) (fun c => ?_)
  · rw [bz] at c1
    have c1 := Decidable.not_not.mp c1
    have e : oBears D s f a = _ := if_pos c1
    rw [e] at hB
    obtain ⟨ha, ea⟩ := inN_of c1 (by decide)
    have hv : vp_in a 2 := by rw [ea]; exact vin (by omega) (by omega)
    generalize ix a = l at ha ea hB
    subst ea
    have el : ix (nI l) = l := ix_nI (by omega)
    have h9 := (R.1.2.2.2.2.2.2.2.2 l ha).1
    have w := (O.1.1.2.2.2.2.2.2.2 l ha).1
    have hw : D 13 2 ≤ 10 := O.1.2.1.2.2.2.1
    refine bX11_bears_15 E hv (fun c => ?_) (fun c => ?_)
    · rw [el, show μ1 (1 + 11) l = _ from h9, show (0 : Int32) = nI 0 from rfl, nI_eqE (by omega) (by omega)] at c
      rw [if_neg c, ← bears_eq (by omega)] at hB
      rw [el, show μ1 (1 + 11) l = _ from h9]
      have loop : ∀ k i, i + 1 + k = D 11 l → JS Z X 55 [(0, xrf Z), (1, .int (nI l)), (2, .int (nI (D 11 l))), (3, .int (nI (D 13 2))), (4, .int (nI (br (spl D l) (D 13 2) i).1)), (5, .int (nI (br (spl D l) (D 13 2) i).2)), (6, .int (nI (i + 1)))] [] μ1 := by
        intro k
        induction k with
        | zero =>
          intro i hi
          have hi : i + 1 = D 11 l := hi
          refine bX11_bears_55 E (fun _ => ?_) (fun c => absurd (by rw [nI_leE (by omega) (by omega)]; omega) c)
          obtain rfl : i = D 11 l - 1 := by omega
          have le := (br_le (sp := spl D l) hw (D 11 l - 1)).2
          have l5 : (10 : Nat) ^ (D 11 l - 1) ≤ 10 ^ 5 := Nat.pow_le_pow_right (by decide) (by omega)
          obtain ⟨v0, hv0⟩ := R.2.2.2.2.2.2.1 451 (by decide)
          refine bX11_bears_108 E (c_set hv0 (by omega)) fun μ2 g => ?_
          have q2 := R.2.2.2.2.2.2.big g.2 g.1 (by decide) (by decide) (fun c hc => by show 451 ≠ 362 + 2 * c; omega)
          have R2 := (FrP.ofFr g.2 (by decide)).rep R q2
          refine bX11_bears_117 E (by rw [show nI (D 11 l) - nI 1 = nI (D 11 l - 1) from nI_sub (by omega)]; exact c_fset R2.2.2.2.2.1 g.1 (by decide) (by omega) (Nat.lt_of_le_of_lt l5 (by decide))) fun μ3 h => ?_
          obtain ⟨N, B, h1, h2, h3⟩ := h
          refine bX11_bears_131 E hB ⟨_, rfl, rfl, ?_, fun x hx => by rw [h3 x (by simp; omega), g.2 x (by simp; omega)]⟩
          rw [← low_eq h2]
          exact R2.frac h3 h1
        | succ k ih =>
          intro i hi
          have q := ih (i + 1) (by omega)
          have le := br_le (sp := spl D l) hw i
          have l5 : (10 : Nat) ^ i ≤ 10 ^ 5 := Nat.pow_le_pow_right (by decide) (by omega)
          rw [br] at q
          refine bX11_bears_55 E (fun c => absurd c (by rw [nI_leE (by omega) (by omega)]; omega)) (fun _ => ?_)
          refine bX11_bears_61 E (by rw [show nI (i + 1) - nI 1 = nI i from nI_sub (by omega)]; exact c_isSpareAt R.1 O.1.1 ha (by omega)) fun v μ2 g => ?_
          obtain ⟨rfl, rfl⟩ := g
          have fin : ∀ v, v = nI (if spl D l i = true then D 13 2 * (br (spl D l) (D 13 2) i).1 else 0) → JS Z X 84 [(0, xrf Z), (1, .int (nI l)), (2, .int (nI (D 11 l))), (3, .int (nI (D 13 2))), (5, .int (nI (br (spl D l) (D 13 2) i).2)), (6, .int (nI (i + 1)))] [.int v] μ2 := fun v hv => by
            subst hv
            refine bX11_bears_84 E ?_
            rw [nI_sub (by omega), nI_mul, nI_add, nI_add]
            exact q
          refine bX11_bears_73 E (fun c => ?_) (fun c => ?_)
          · rw [bz] at c
            exact bX11_bears_83 E (fin _ (by rw [if_neg (by simpa [spl] using c)]))
          · rw [bz] at c
            have c := Decidable.not_not.mp c
            refine bX11_bears_76 E (fin _ ?_)
            rw [if_pos (by simpa [spl] using c), nI_mul]
      refine bX11_bears_36 E (vin (by omega) (by omega)) ?_
      rw [ix_nI (by omega), R.2.1.2.2.1 2 (by omega)]
      exact loop (D 11 l - 1) 0 (by omega)
    · rw [el, show μ1 (1 + 11) l = _ from h9, show (0 : Int32) = nI 0 from rfl, nI_eqE (by omega) (by omega)] at c
      rw [if_pos c] at hB
      refine bX11_bears_29 E (c_counted (s := s) R.2.2.1) fun v μ2 h => ?_
      obtain ⟨rfl, h1, h2⟩ := h
      exact bX11_bears_35 E hB ⟨_, rfl, rfl, xstep (μ1 := _) R R.1 Fr.rf h1 h2 fun _ _ => rfl⟩
  · have e : oBears D s f a = (-2, cnt s (-2), f) := if_neg fun g => by rw [bz] at c; exact c g
    rw [e] at hB
    refine bX11_bears_8 E (c_counted (s := s) R.2.2.1) fun v μ2 h => ?_
    obtain ⟨rfl, h1, h2⟩ := h
    exact bX11_bears_14 E hB ⟨_, rfl, rfl, xstep (μ1 := _) R R.1 Fr.rf h1 h2 fun _ _ => rfl⟩
def RowM (μ : Mu) (D : DD) (l : Nat) : Prop := μ 455 13 = nI (D 11 l) ∧ ∀ i, i < D 11 l → μ 462 i = nI (D 12 (6 * l + i))
def FrRow (μ μ' : Mu) : Prop := (∀ a, a ≠ 455 → a ≠ 462 → μ' a = μ a) ∧ ∀ k, k ≠ 13 → μ' 455 k = μ 455 k
theorem FrRow.q {μ μ' : Mu} (h : FrRow μ μ') : FrQ μ μ' := ⟨fun a ha hb => h.1 a hb (by omega), h.2 _ (by decide), h.2 _ (by decide), fun i _ => by rw [h.1 _ (by decide) (by decide)]⟩
theorem m_takeRow {l : Nat} (H : HM (μ 456) 0 D) (W : WF D) (hl : l < 2) : CtrS Z mX12_takeRow [mrf Z, .int (nI l)] μ (rV fun μ' => RowM μ' D l ∧ FrRow μ μ') := by
  refine CtrS.intro (by decide +kernel) (Nat.le_of_ble_eq_true rfl) rfl fun X E hB => ?_
  have w := (W.2.2.2.2.2.2.2 l hl).1
  have h8 := H.2.2.2.2.2.2.2 l hl
  rw [show 0 + 187 + l = 187 + l by omega] at h8
  have loop : ∀ k i μ1, i + k = D 11 l → μ1 455 13 = nI (D 11 l) → (∀ j, j < i → μ1 462 j = nI (D 12 (6 * l + j))) → FrRow μ μ1 → JS Z X 16 [(0, mrf Z), (1, .int (nI l)), (2, .int (nI i))] [] μ1 := by
    intro k
    induction k with
    | zero =>
      intro i μ1 hi h1 h2 hF
      have : i = D 11 l := hi
      subst this
      exact bX12_takeRow_16 E (fun _ => bX12_takeRow_51 E hB ⟨rfl, ⟨h1, h2⟩, hF⟩) (fun c => absurd (by rw [h1, nI_leE (by omega) (by omega)]; omega) c)
    | succ k ih =>
      intro i μ1 hi h1 h2 hF
      have e : nI 189 + nI 6 * nI l + nI i = nI (189 + 6 * l + i) := by rw [nI_mul, nI_add, nI_add]
      refine bX12_takeRow_16 E (fun c => absurd c (by rw [h1, nI_leE (by omega) (by omega)]; omega)) (fun _ => ?_)
      refine bX12_takeRow_24 E (by rw [e]; exact vin (by omega) (by omega)) (vin (by omega) (by omega)) (bX12_takeRow_45 E ?_)
      have g := h8.2 i (by omega)
      rw [show 0 + 189 + (6 * l + i) = 189 + 6 * l + i by omega] at g
      rw [e, ix_nI (by omega), ix_nI (show 189 + 6 * l + i < 2147483648 by omega), hF.1 456 (by decide) (by decide), g, nI_add]
      refine ih (i + 1) _ (by omega) (by rw [uR_n (by decide)]; exact h1) (fun j hj => ?_) ⟨fun a h1 h2 => by rw [uR_n h2]; exact hF.1 a h1 h2, fun k hk => by rw [uR_n (by decide)]; exact hF.2 k hk⟩
      rw [uR_s]
      refine upd_at (fun e => by rw [e]) (fun e => h2 j (by omega))
  refine bX12_takeRow_0 E (by rw [nI_add]; exact vin (by omega) (by omega)) (bX12_takeRow_14 E ?_)
  rw [nI_add, ix_nI (by omega), h8.1]
  exact loop (D 11 l) 0 _ (by omega) (by rw [uR_s, pk_us]) (fun j hj => absurd hj (Nat.not_lt_zero j)) ⟨fun a h1 h2 => uR_n h1, fun k hk => by rw [uR_s, pk_un hk]⟩
theorem m_isSpare {l i : Nat} (H : HM (μ 456) 0 D) (W : WF D) (hl : l < 2) (h : RowM μ D l) (hi : i < D 11 l) : CtrS Z mX12_isSpare [mrf Z, .int (nI i)] μ (rI fun v μ' => v = (if spl D l i = true then nI 1 else nI 0) ∧ μ' = μ) := by
  refine CtrS.intro (by decide +kernel) (Nat.le_of_ble_eq_true rfl) rfl fun X E hB => ?_
  have w := (W.2.2.2.2.2.2.2 l hl).1
  have lt := ((W.2.2.2.2.2.2.2 l hl).2 i hi).1
  have hS := W.2.2.1
  have g := (H.2.2.2.2.2.2.1 _ lt).2.2.1
  have w9 := (W.2.2.2.2.2.2.1 _ lt).2.2.1
  rw [show 0 + 171 + D 12 (6 * l + i) = 171 + D 12 (6 * l + i) by omega] at g
  have hr := h.2 i hi
  refine bX12_isSpare_0 E (vin (by omega) (by omega)) (by rw [ix_nI (by omega), hr, nI_add]; exact vin (by omega) (by omega)) (fun c => ?_) (fun c => ?_)
  · rw [ix_nI (by omega), hr, nI_add, ix_nI (by omega), g, nI_eqE (by omega) (by omega)] at c
    rw [if_neg (by simpa [spl] using c)] at hB
    exact bX12_isSpare_23 E (bX12_isSpare_24 E hB rfl ⟨_, rfl, rfl, rfl⟩)
  · rw [ix_nI (by omega), hr, nI_add, ix_nI (by omega), g, nI_eqE (by omega) (by omega)] at c
    rw [if_pos (by simpa [spl] using c)] at hB
    exact bX12_isSpare_19 E (bX12_isSpare_24 E hB rfl ⟨_, rfl, rfl, rfl⟩)
theorem y_hangs {a : Int32} (R : RepM μ D im tx s f) (O : OkS D im tx) : CtrS Z mX12_hangs [mrf Z, .int a] μ (rI fun v μ' => v = (oHangs D s a).1 ∧ RepM μ' D im tx (oHangs D s a).2 f ∧ FrY μ μ') := by
  refine CtrS.intro (by decide +kernel) (Nat.le_of_ble_eq_true rfl) rfl fun X E hB => ?_
  have no : ∀ v, oHangs D s a = (v, cnt s v) → v = (if inN a 2 then -3 else -2) → JS Z X 20 [(0, mrf Z), (1, .int a)] [] μ := fun v e ev => by
    rw [e] at hB
    refine bX12_hangs_20 E m_isLot fun v1 μ1 g => ?_
    obtain ⟨rfl, rfl⟩ := g
    refine bX12_hangs_25 E (fun c => ?_) (fun c => ?_)
    · rw [bz] at c
      rw [if_pos (Decidable.not_not.mp c)] at ev
      subst ev
      refine bX12_hangs_32 E (bX12_hangs_33 E (m_no R.2.2.1) fun v μ2 h => ?_)
      obtain ⟨rfl, h1, h2⟩ := h
      exact bX12_hangs_36 E hB ⟨_, rfl, rfl, ystay R O h1 h2⟩
    · rw [bz] at c
      rw [if_neg c] at ev
      subst ev
      refine bX12_hangs_28 E (bX12_hangs_33 E (m_no R.2.2.1) fun v μ2 h => ?_)
      obtain ⟨rfl, h1, h2⟩ := h
      exact bX12_hangs_36 E hB ⟨_, rfl, rfl, ystay R O h1 h2⟩
  refine bX12_hangs_0 E m_isLot fun v μ1 g => ?_
  obtain ⟨rfl, rfl⟩ := g
  refine bX12_hangs_4 E (fun c => ?_) (fun c1 => ?_)
  · rw [bz] at c
    exact no (-2) (if_neg c) (by rw [if_neg c])
  · rw [bz] at c1
    have c1 := Decidable.not_not.mp c1
    have e : oHangs D s a = _ := if_pos c1
    obtain ⟨ha, ea⟩ := inN_of c1 (by decide)
    have h8 := (R.1.2.2.2.2.2.2.2 (ix a) ha).1
    have w := (O.1.1.2.2.2.2.2.2.2 (ix a) ha).1
    rw [show 0 + 187 + ix a = 187 + ix a by omega] at h8
    have e1 : nI 187 + a = nI (187 + ix a) := by rw [← nI_add, ← ea]
    refine bX12_hangs_7 E (by rw [e1]; exact vin (by omega) (by omega)) (fun c => ?_) (fun c => ?_)
    · rw [e1, ix_nI (by omega), h8, show (0 : Int32) = nI 0 from rfl, nI_eqE (by omega) (by omega)] at c
      rw [e, if_neg c] at hB
      generalize ix a = l at ha ea hB w c
      subst ea
      refine bX12_hangs_37 E (m_takeRow R.1 O.1.1 ha) fun μ2 g => ?_
      obtain ⟨g1, g2⟩ := g
      have R2 := g2.q.rep R
      have loop : ∀ k i, i + 1 + k = D 11 l → JS Z X 46 [(0, mrf Z), (2, .int (nI (hg D l (i + 1)))), (3, .int (nI (i + 1)))] [] μ2 := by
        intro k
        induction k with
        | zero =>
          intro i hi
          have hi : i + 1 = D 11 l := hi
          refine bX12_hangs_46 E (fun _ => ?_) (fun c => absurd (by rw [g1.1, nI_leE (by omega) (by omega)]; omega) c)
          rw [hi]
          exact bX12_hangs_80 E hB ⟨_, rfl, rfl, R2, g2.q.y⟩
        | succ k ih =>
          intro i hi
          have q := ih (i + 1) (by omega)
          have lt := hg_lt D l (i + 1)
          have l64 : (2 : Nat) ^ (i + 1) ≤ 2 ^ 6 := Nat.pow_le_pow_right (by decide) (by omega)
          rw [hg] at q
          refine bX12_hangs_46 E (fun c => absurd c (by rw [g1.1, nI_leE (by omega) (by omega)]; omega)) (fun _ => ?_)
          refine bX12_hangs_54 E (by rw [show nI (i + 1) - nI 1 = nI i from nI_sub (by omega)]; exact m_isSpare R2.1 O.1.1 ha g1 (by omega)) fun v μ3 g => ?_
          obtain ⟨rfl, rfl⟩ := g
          refine bX12_hangs_62 E (fun c => ?_) (fun c => ?_)
          · rw [bz] at c
            rw [if_neg (by simpa [spl] using c)] at q
            refine bX12_hangs_69 E (bX12_hangs_72 E ?_)
            rw [nI_add, bit_one (by omega), nI_or (by omega) (by omega)]
            exact q
          · rw [bz] at c
            rw [if_pos (by simpa [spl] using c)] at q
            refine bX12_hangs_65 E (bX12_hangs_72 E ?_)
            rw [nI_add, show nI (hg D l (i + 1)) ||| nI 0 = nI (hg D l (i + 1)) by rw [nI_or (by omega) (by omega), Nat.or_zero]]
            exact q
      exact bX12_hangs_42 E (loop (D 11 l - 1) 0 (by omega))
    · rw [e1, ix_nI (by omega), h8, show (0 : Int32) = nI 0 from rfl, nI_eqE (by omega) (by omega)] at c
      rw [if_pos c] at e
      exact no (-3) e (by rw [if_pos c1])
theorem y_bears {a : Int32} (R : RepM μ D im tx s f) (O : OkS D im tx) : CtrS Z mX12_bears [mrf Z, .int a] μ (rI fun v μ' => v = (oBears D s f a).1 ∧ RepM μ' D im tx (oBears D s f a).2.1 (oBears D s f a).2.2 ∧ FrY μ μ') := by
  refine CtrS.intro (by decide +kernel) (Nat.le_of_ble_eq_true rfl) rfl fun X E hB => ?_
  have hw : D 13 2 ≤ 10 := O.1.2.1.2.2.2.1
  have no : ∀ v, oBears D s f a = (v, cnt s v, f) → v = (if inN a 2 then -3 else -2) → JS Z X 20 [(0, mrf Z), (1, .int a)] [] μ := fun v e ev => by
    rw [e] at hB
    refine bX12_bears_20 E m_isLot fun v1 μ1 g => ?_
    obtain ⟨rfl, rfl⟩ := g
    refine bX12_bears_25 E (fun c => ?_) (fun c => ?_)
    · rw [bz] at c
      rw [if_pos (Decidable.not_not.mp c)] at ev
      subst ev
      refine bX12_bears_32 E (bX12_bears_33 E (m_no R.2.2.1) fun v μ2 h => ?_)
      obtain ⟨rfl, h1, h2⟩ := h
      exact bX12_bears_36 E hB ⟨_, rfl, rfl, ystay R O h1 h2⟩
    · rw [bz] at c
      rw [if_neg c] at ev
      subst ev
      refine bX12_bears_28 E (bX12_bears_33 E (m_no R.2.2.1) fun v μ2 h => ?_)
      obtain ⟨rfl, h1, h2⟩ := h
      exact bX12_bears_36 E hB ⟨_, rfl, rfl, ystay R O h1 h2⟩
  refine bX12_bears_0 E m_isLot fun v μ1 g => ?_
  obtain ⟨rfl, rfl⟩ := g
  refine bX12_bears_4 E (fun c => ?_) (fun c1 => ?_)
  · rw [bz] at c
    exact no (-2) (if_neg c) (by rw [if_neg c])
  · rw [bz] at c1
    have c1 := Decidable.not_not.mp c1
    have e : oBears D s f a = _ := if_pos c1
    obtain ⟨ha, ea⟩ := inN_of c1 (by decide)
    have h8 := (R.1.2.2.2.2.2.2.2 (ix a) ha).1
    have w := (O.1.1.2.2.2.2.2.2.2 (ix a) ha).1
    rw [show 0 + 187 + ix a = 187 + ix a by omega] at h8
    have e1 : nI 187 + a = nI (187 + ix a) := by rw [← nI_add, ← ea]
    refine bX12_bears_7 E (by rw [e1]; exact vin (by omega) (by omega)) (fun c => ?_) (fun c => ?_)
    · rw [e1, ix_nI (by omega), h8, show (0 : Int32) = nI 0 from rfl, nI_eqE (by omega) (by omega)] at c
      rw [e, if_neg c] at hB
      generalize ix a = l at ha ea hB w c
      subst ea
      refine bX12_bears_37 E (m_takeRow R.1 O.1.1 ha) fun μ2 g => ?_
      obtain ⟨g1, g2⟩ := g
      have e13 : μ2 455 13 = nI (D 11 l) := g1.1
      have h203 : μ2 456 203 = nI (D 13 2) := (g2.q.rep R).2.1.2.1 2 (by omega)
      generalize hsp : spl D l = sp at hB
      generalize hww : D 13 2 = ww at hB hw h203
      generalize hn : D 11 l = n at hB w c e13
      refine bX12_bears_42 E (vin (by omega) (by omega)) (by rw [e13, show nI n - nI 1 = nI (n - 1) from nI_sub (by omega)]; exact vin (by omega) (by omega)) (bX12_bears_63 E ?_)
      rw [uR_n (by decide), e13, show nI n - nI 1 = nI (n - 1) from nI_sub (by omega), ix_nI (show n - 1 < 2147483648 by omega), ix_nI (by omega), h203]
      have loop : ∀ k j μ3, j + k + 1 = n → μ3 472 (n - 1 - j) = nI (fd sp ww n j) → (0 < j → μ3 472 (n - j) = nI (fd sp ww n (j - 1))) → (∀ a, a ≠ 472 → μ3 a = μ2 a) → JS Z X 70 [(0, mrf Z), (2, .int (nI ww)), (3, .int (nI k + (-1)))] [] μ3 := by
        intro k
        induction k with
        | zero =>
          intro j μ3 hj h1 h2 hF
          obtain rfl : j = n - 1 := by omega
          refine bX12_bears_70 E (fun _ => ?_) (fun c => absurd (by decide) c)
          have le := fd_le (sp := sp) (n := n) hw (n - 1)
          have l5 : (10 : Nat) ^ (n - 1) ≤ 10 ^ 5 := Nat.pow_le_pow_right (by decide) (by omega)
          rw [show n - 1 - (n - 1) = 0 by omega] at h1
          refine bX12_bears_145 E (vin (by omega) (by omega)) (by rw [ix_nI (by omega), h1]; exact m_set (r := 2) (by decide) (by omega)) fun μ4 g4 => ?_
          refine bX12_bears_156 E (by rw [g4.2.1 _ (by decide), hF _ (by decide), e13, show nI n - nI 1 = nI (n - 1) from nI_sub (by omega)]; exact m_tell g4.1 (by decide) (by decide) (by omega) (Nat.lt_of_le_of_lt l5 (by decide))) fun μ5 g5 => ?_
          obtain ⟨N, B, k1, k2, k3⟩ := g5
          have Q := (g2.q.tr (show FrQ μ2 μ3 from ⟨fun a ha _ => hF a (by omega), by rw [hF _ (by decide)], by rw [hF _ (by decide)], fun i _ => by rw [hF _ (by decide)]⟩)).tr (FrQ.ofG g4.2 (by decide))
          refine bX12_bears_167 E hB ⟨_, rfl, rfl, ?_, fun x hx => by rw [k3.1 x (by omega) (by omega)]; exact Q.y x hx⟩
          rw [← low_eq k2]
          exact (Q.rep R).frac ⟨k3.1, k3.2.1 _ (by decide)⟩ k1
        | succ k ih =>
          intro j μ3 hj h1 h2 hF
          rw [nI_suc_m1]
          have R3 : RepM μ3 D im tx s f := (g2.q.tr ⟨fun a ha _ => hF a (by omega), by rw [hF _ (by decide)], by rw [hF _ (by decide)], fun i _ => by rw [hF _ (by decide)]⟩).rep R
          have G3 : RowM μ3 D l := ⟨by rw [hF _ (by decide)]; exact g1.1, fun i hi => by rw [hF _ (by decide)]; exact g1.2 i hi⟩
          have e13' : μ3 455 13 = nI n := by rw [hF _ (by decide)]; exact e13
          have le := fd_le (sp := sp) (n := n) hw j
          have l5 : (10 : Nat) ^ j ≤ 10 ^ 5 := Nat.pow_le_pow_right (by decide) (by omega)
          refine bX12_bears_70 E (fun c => absurd c (by rw [Int32.not_lt]; exact nI_pos' (by omega))) (fun _ => ?_)
          refine bX12_bears_74 E (m_isSpare R3.1 O.1.1 ha G3 (by rw [hn]; omega)) fun v μ4 g => ?_
          obtain ⟨rfl, rfl⟩ := g
          rw [hsp]
          have fin : ∀ by' : Nat, fd sp ww n (j + 1) = (10 - ww) * fd sp ww n j + ww * by' → JS Z X 113 [(0, mrf Z), (2, .int (nI ww)), (3, .int (nI k))] [.int (nI by')] μ4 := fun by' hb => by
            refine bX12_bears_113 E (by rw [nI_add]; exact vin (by omega) (by omega)) (vin (by omega) (by omega)) (bX12_bears_139 E ?_)
            rw [nI_add, ix_nI (show k + 1 < 2147483648 by omega), ix_nI (show k < 2147483648 by omega), show k + 1 = n - 1 - j by omega, h1, nI_sub (by omega), nI_mul, nI_mul, nI_add, ← hb]
            refine ih (j + 1) _ (by omega) ?_ (fun _ => ?_) (fun a ha => by rw [uR_n ha]; exact hF a ha)
            · rw [uR_s, show n - 1 - (j + 1) = k by omega, pk_us]
            · rw [uR_s, pk_un (by omega), show n - (j + 1) = n - 1 - j by omega]; exact h1
          refine bX12_bears_79 E (fun c => ?_) (fun c => ?_)
          · rw [bz] at c
            have c := Decidable.not_not.mp c
            refine bX12_bears_86 E (fun d => ?_) (fun d => ?_)
            · rw [e13', nI_sub (by omega), nI_eqE (by omega) (by omega)] at d
              refine bX12_bears_100 E (by rw [nI_add]; exact vin (by omega) (by omega)) ?_
              rw [nI_add, ix_nI (show k + 2 < 2147483648 by omega), show k + 2 = n - j by omega, h2 (by omega), nI_sub (by omega), nI_mul]
              refine fin _ ?_
              obtain ⟨j', rfl⟩ : ∃ j', j = j' + 1 := ⟨j - 1, by omega⟩
              show fd sp ww n (j' + 2) = _
              rw [fd, show n - 1 - (j' + 2) = k by omega, if_pos c]
              rfl
            · rw [e13', nI_sub (by omega), nI_eqE (by omega) (by omega)] at d
              refine bX12_bears_96 E (fin 1 ?_)
              obtain rfl : j = 0 := by omega
              show (10 - ww) * 1 + ww * (if sp (n - 2) = true then 1 else 0) = _
              rw [show n - 2 = k by omega, if_pos c]
              rfl
          · rw [bz] at c
            refine bX12_bears_82 E (fin 0 ?_)
            cases j with
            | zero =>
              show (10 - ww) * 1 + ww * (if sp (n - 2) = true then 1 else 0) = _
              rw [show n - 2 = k by omega, if_neg c]
              rfl
            | succ j' =>
              show fd sp ww n (j' + 2) = _
              rw [fd, show n - 1 - (j' + 2) = k by omega, if_neg c]
      have hk : nI n - nI 2 = nI (n - 1) + (-1) := by
        obtain ⟨n', rfl⟩ : ∃ n', n = n' + 1 := ⟨n - 1, by omega⟩
        show nI (n' + 1) - nI 2 = nI n' + (-1)
        rw [← nI_add n' 1, Int32.sub_eq_add_neg, Int32.add_assoc]
        rfl
      have e13b : uR μ2 472 (upd (μ2 472) (n - 1) (nI 1)) 455 13 = nI n := by rw [uR_n (by decide)]; exact e13
      rw [hk]
      refine loop (n - 1) 0 _ (by omega) (by rw [uR_s, Nat.sub_zero, pk_us]; rfl) (fun h => absurd h (by omega)) (fun a ha => uR_n ha)
    · rw [e1, ix_nI (by omega), h8, show (0 : Int32) = nI 0 from rfl, nI_eqE (by omega) (by omega)] at c
      rw [if_pos c] at e
      exact no (-3) e (by rw [if_pos c1])
end BEARS
