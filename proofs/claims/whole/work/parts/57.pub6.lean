/-! PUBLIC calls: image, from -/
theorem HM.mv {a a' : Nat → Int32} {b b' : Nat} {D : DD} (H : HM a b D) (W : WF D) (e : ∀ i, i < 201 → a' (b' + i) = a (b + i)) : HM a' b' D := by
  have hn := W.1
  have hC := W.2.1
  have hS := W.2.2.1
  obtain ⟨h1, h2, h3, h4, h5, h6, h7, h8⟩ := H
  have g : ∀ i j x : Nat, j = b' + i → i < 201 → a' j = a (b + i) := fun i j x hj hi => by rw [hj]; exact e i hi
  refine ⟨(g 0 _ 0 rfl (by omega)).trans h1, (g 111 _ 0 rfl (by omega)).trans h2, (g 154 _ 0 rfl (by omega)).trans h3, fun p q hp hq => ?_, fun p hp => ?_, fun c hc => ?_, fun s hs => ?_, fun l hl => ?_⟩
  · rw [g (1 + 10 * p + q) _ 0 (by omega) (by omega), ← h4 p q hp hq]; congr 1; omega
  · rw [g (101 + p) _ 0 (by omega) (by omega), ← h5 p hp]; congr 1; omega
  · have := h6 c hc
    refine ⟨?_, fun k hk => ?_, ?_, ?_⟩
    · rw [g (112 + c) _ 0 (by omega) (by omega), ← this.1]; congr 1; omega
    · rw [g (118 + (4 * c + k)) _ 0 (by omega) (by omega), ← this.2.1 k hk]; congr 1; omega
    · rw [g (142 + c) _ 0 (by omega) (by omega), ← this.2.2.1]; congr 1; omega
    · rw [g (148 + c) _ 0 (by omega) (by omega), ← this.2.2.2]; congr 1; omega
  · have := h7 s hs
    refine ⟨?_, ?_, ?_, ?_⟩
    · rw [g (155 + s) _ 0 (by omega) (by omega), ← this.1]; congr 1; omega
    · rw [g (163 + s) _ 0 (by omega) (by omega), ← this.2.1]; congr 1; omega
    · rw [g (171 + s) _ 0 (by omega) (by omega), ← this.2.2.1]; congr 1; omega
    · rw [g (179 + s) _ 0 (by omega) (by omega), ← this.2.2.2]; congr 1; omega
  · have w := (W.2.2.2.2.2.2.2 l hl).1
    have := h8 l hl
    refine ⟨?_, fun i hi => ?_⟩
    · rw [g (187 + l) _ 0 (by omega) (by omega), ← this.1]; congr 1; omega
    · rw [g (189 + (6 * l + i)) _ 0 (by omega) (by omega), ← this.2 i hi]; congr 1; omega
theorem NM.mv {a a' : Nat → Int32} {b b' : Nat} {D : DD} (H : NM a b D) (W : D 14 0 ≤ 20) (e : ∀ i, 201 ≤ i → i < 247 → a' (b' + i) = a (b + i)) : NM a' b' D := by
  obtain ⟨h1, h2, h3⟩ := H
  have g : ∀ i j : Nat, j = b' + i → 201 ≤ i → i < 247 → a' j = a (b + i) := fun i j hj hi => by rw [hj]; exact e i hi
  refine ⟨(g 206 _ rfl (by omega) (by omega)).trans h1, fun k hk => ?_, fun i hi => ⟨?_, ?_⟩⟩
  · rw [g (201 + k) _ (by omega) (by omega) (by omega), ← h2 k hk]; congr 1; omega
  · rw [g (207 + i) _ (by omega) (by omega) (by omega), ← (h3 i hi).1]; congr 1; omega
  · rw [g (227 + i) _ (by omega) (by omega) (by omega), ← (h3 i hi).2]; congr 1; omega
section PUB6
variable {Z : ZT} {μ : Mu} {D : DD} {im : Nat → Option DD} {tx : TX} {s : Nat → Int32} {f : Nat × Nat}
def sIm (im : Nat → Option DD) (j : Nat) (D : DD) : Nat → Option DD := fun i => if i = j then some D else im i
theorem sIm_s {j : Nat} : sIm im j D j = some D := if_pos rfl
theorem sIm_n {i j : Nat} (h : i ≠ j) : sIm im j D i = im i := if_neg h
def oImage (D : DD) (im : Nat → Option DD) (a : Int32) : Int32 × (Nat → Option DD) := if inN a 2 then (nI 1, sIm im (ix a) D) else (-2, im)
def oFrom (D : DD) (im : Nat → Option DD) (a : Int32) : Int32 × DD := if inN a 2 then (match im (ix a) with | some E => (nI 1, E) | none => (-3, D)) else (-2, D)
theorem bool1 : vp_nar .boolean (nI 1) = nI 1 := rfl
theorem x_image {a : Int32} (R : RepC μ D im tx s f) (O : OkS D im tx) : CtrS Z mX11_image [xrf Z, .int a] μ (rI fun v μ' => v = (oImage D im a).1 ∧ RepC μ' D (oImage D im a).2 tx (cnt s (oImage D im a).1) f ∧ FrX μ μ') := by
  refine CtrS.intro (by decide +kernel) (Nat.le_of_ble_eq_true rfl) rfl fun X E hB => ?_
  refine bX11_image_0 E (c_within (n := 2) (by decide)) fun v μ1 g => ?_
  obtain ⟨rfl, rfl⟩ := g
  refine bX11_image_5 E (fun c1 => ?_) (fun c => ?_)
  · rw [bz] at c1
    have c1 := Decidable.not_not.mp c1
    have e : oImage D im a = _ := if_pos c1
    rw [e] at hB
    obtain ⟨ha, ea⟩ := inN_of c1 (by decide)
    have hv : vp_in a 2 := by rw [ea]; exact vin (by omega) (by omega)
    generalize ix a = j at ha ea hB
    have ej : ix a = j := by rw [ea, ix_nI (by omega)]
    have s1 : SH (37 + 17 * j) = .inl 3 := by rcases (show j = 0 ∨ j = 1 by omega) with rfl | rfl <;> decide
    have s2 : SH (50 + 17 * j) = .inl 6 := by rcases (show j = 0 ∨ j = 1 by omega) with rfl | rfl <;> decide
    have e1 : el 35 (ix a) = 37 + 17 * j := by rw [ej]; rfl
    have e2 : el 36 (ix a) = 50 + 17 * j := by rw [ej]; rfl
    refine bX11_image_15 E hv (by rw [e1]; exact c_hcopy s1 R.1 O.1.1 (by omega)) fun μ2 g => ?_
    obtain ⟨g1, g2⟩ := g
    have n2 : NC μ2 27 D := R.2.1.fr fun k hk => g2 _ (by simp; omega)
    refine bX11_image_28 E hv (by rw [e2]; exact c_ncopy s2 n2 O.1.2.2.1 (by omega)) fun μ3 h => ?_
    obtain ⟨h1, h2⟩ := h
    refine bX11_image_41 E hv (bX11_image_48 E hB ⟨_, rfl, rfl, ?_⟩)
    rw [bool1, ej, show cnt s (nI 1) = s from cnt_nI (by decide)]
    dsimp only
    have e : ∀ x, x < 37 + 17 * j ∨ 54 + 17 * j ≤ x → x ≠ 71 → uR μ3 71 (upd (μ3 71) j (nI 1)) x = μ1 x := fun x hx h71 => by
      rw [uR_n h71, h2 x (by simp; omega), g2 x (by simp; omega)]
    have e71 : μ3 71 = μ1 71 := by rw [h2 _ (by simp; omega), g2 _ (by simp; omega)]
    obtain ⟨r1, r2, r3, r4, r5, r6, r7⟩ := R
    refine ⟨⟨r1.fr fun k hk => e _ (by omega) (by omega), r2.fr fun k hk => e _ (by omega) (by omega), by rw [e _ (by omega) (by omega)]; exact r3, by rw [e _ (by omega) (by omega), e _ (by omega) (by omega)]; exact r4, ⟨r5.1.congr (e _ (by omega) (by omega)) (e _ (by omega) (by omega)), r5.2.congr (e _ (by omega) (by omega)) (e _ (by omega) (by omega))⟩, fun i hi => ?_, r7.fr fun a h1 h2 => e a (by omega) (by omega)⟩, fun x hx => e x (by omega) (by omega)⟩
    have ei : el 35 i = 37 + 17 * i := rfl
    have ei2 : el 36 i = 50 + 17 * i := rfl
    rw [uR_s, ei, ei2]
    by_cases q : i = j
    · subst q
      rw [pk_us, sIm_s]
      refine ⟨rfl, fun E hE => ?_⟩
      obtain rfl : D = E := Option.some.inj hE
      exact ⟨g1.fr fun k hk => by rw [uR_n (by omega), h2 _ (by simp; omega)], h1.fr fun k hk => uR_n (by omega)⟩
    · rw [pk_un q, sIm_n q]
      refine ⟨by rw [e71]; exact (r6 i hi).1, fun E hE => ?_⟩
      have := (r6 i hi).2 E hE
      rw [ei, ei2] at this
      exact ⟨this.1.fr fun k hk => e _ (by omega) (by omega), this.2.fr fun k hk => e _ (by omega) (by omega)⟩
  · have e : oImage D im a = (-2, im) := if_neg fun g => by rw [bz] at c; exact c g
    rw [e] at hB
    refine bX11_image_8 E (c_counted (s := s) R.2.2.1) fun v μ2 h => ?_
    obtain ⟨rfl, h1, h2⟩ := h
    exact bX11_image_14 E hB ⟨_, rfl, rfl, xstep (μ1 := _) R R.1 Fr.rf h1 h2 fun _ _ => rfl⟩
theorem x_from {a : Int32} (R : RepC μ D im tx s f) (O : OkS D im tx) : CtrS Z mX11_from [xrf Z, .int a] μ (xP Z μ im tx s f (oFrom D im a)) := by
  refine CtrS.intro (by decide +kernel) (Nat.le_of_ble_eq_true rfl) rfl fun X E hB => ?_
  refine bX11_from_0 E (c_within (n := 2) (by decide)) fun v μ1 g => ?_
  obtain ⟨rfl, rfl⟩ := g
  refine bX11_from_5 E (fun c1 => ?_) (fun c => ?_)
  · rw [bz] at c1
    have c1 := Decidable.not_not.mp c1
    have e : oFrom D im a = _ := if_pos c1
    rw [e] at hB
    obtain ⟨ha, ea⟩ := inN_of c1 (by decide)
    have hv : vp_in a 2 := by rw [ea]; exact vin (by omega) (by omega)
    generalize ix a = j at ha ea hB
    have ej : ix a = j := by rw [ea, ix_nI (by omega)]
    have e1 : el 35 (ix a) = 37 + 17 * j := by rw [ej]; rfl
    have e2 : el 36 (ix a) = 50 + 17 * j := by rw [ej]; rfl
    have k := R.2.2.2.2.2.1 j ha
    cases hi : im j with
    | none =>
      rw [hi] at k hB
      have z : μ1 71 (ix a) = nI 0 := by rw [ej]; exact k.1
      refine bX11_from_15 E hv (fun d => absurd z d) (fun _ => ?_)
      refine bX11_from_24 E (c_counted (s := s) R.2.2.1) fun v μ2 h => ?_
      obtain ⟨rfl, h1, h2⟩ := h
      exact bX11_from_30 E hB ⟨_, rfl, rfl, xstep (μ1 := _) R R.1 Fr.rf h1 h2 fun _ _ => rfl⟩
    | some E0 =>
      rw [hi] at k hB
      have z : μ1 71 (ix a) = nI 1 := by rw [ej]; exact k.1
      have o := O.2.1 j E0 ha hi
      obtain ⟨k1, k2⟩ := k.2 E0 rfl
      have k1 : HC μ1 (37 + 17 * j) E0 := k1
      have k2 : NC μ1 (50 + 17 * j) E0 := k2
      refine bX11_from_15 E hv (fun _ => ?_) (fun d => absurd (z.symm.trans d) (by decide))
      refine bX11_from_31 E hv (by rw [e1]; exact c_hcopy (by decide) k1 o.1 (by omega)) fun μ2 g => ?_
      obtain ⟨g1, g2⟩ := g
      have n2 : NC μ2 (50 + 17 * j) E0 := k2.fr fun k hk => g2 _ (by simp; omega)
      refine bX11_from_44 E hv (by rw [e2]; exact c_ncopy (by decide) n2 o.2.2.1 (by omega)) fun μ3 h => ?_
      obtain ⟨h1, h2⟩ := h
      refine bX11_from_57 E hB ⟨_, rfl, rfl, ?_⟩
      rw [show cnt s (nI 1) = s from cnt_nI (by decide)]
      have F : Fr (hR 1 ++ nR 27) μ1 μ3 := (g2.mo (by decide)).tr (h2.mo (by decide))
      exact ⟨R.step F (by decide) (g1.fr fun k hk => h2 _ (by simp; omega)) h1 (by rw [F _ (by decide)]; exact R.2.2.1), fun x hx => F x (by simp; omega)⟩
  · have e : oFrom D im a = (-2, D) := if_neg fun g => by rw [bz] at c; exact c g
    rw [e] at hB
    refine bX11_from_8 E (c_counted (s := s) R.2.2.1) fun v μ2 h => ?_
    obtain ⟨rfl, h1, h2⟩ := h
    exact bX11_from_14 E hB ⟨_, rfl, rfl, xstep (μ1 := _) R R.1 Fr.rf h1 h2 fun _ _ => rfl⟩
theorem m_copyHouse {i k : Nat} (hi : i < 4) (hk : k < 4) (hik : i ≠ k) : CtrS Z mX12_copyHouse [mrf Z, .int (nI i), .int (nI k)] μ (rV fun μ' => (∀ j, j < 247 → μ' 456 (247 * k + j) = μ 456 (247 * i + j)) ∧ (∀ a, a ≠ 456 → μ' a = μ a) ∧ ∀ x, x < 247 * k ∨ 247 * k + 247 ≤ x → μ' 456 x = μ 456 x) := by
  refine CtrS.intro (by decide +kernel) (Nat.le_of_ble_eq_true rfl) rfl fun X E hB => ?_
  have loop : ∀ n p μ1, p + n = 247 → (∀ j, j < p → μ1 456 (247 * k + j) = μ 456 (247 * i + j)) → (∀ a, a ≠ 456 → μ1 a = μ a) → (∀ x, x < 247 * k ∨ 247 * k + p ≤ x → μ1 456 x = μ 456 x) → JS Z X 2 [(0, mrf Z), (1, .int (nI i)), (2, .int (nI k)), (3, .int (nI p))] [] μ1 := by
    intro n
    induction n with
    | zero =>
      intro p μ1 hp h1 h2 h3
      have : p = 247 := by omega
      subst this
      exact bX12_copyHouse_2 E (fun _ => bX12_copyHouse_39 E hB ⟨rfl, h1, h2, h3⟩) (fun c => absurd (by decide) c)
    | succ n ih =>
      intro p μ1 hp h1 h2 h3
      refine bX12_copyHouse_2 E (fun c => absurd c (by rw [nI_leE (by omega) (by omega)]; omega)) (fun _ => ?_)
      have e1 : nI 247 * nI i + nI p = nI (247 * i + p) := by rw [nI_mul, nI_add]
      have e2 : nI 247 * nI k + nI p = nI (247 * k + p) := by rw [nI_mul, nI_add]
      refine bX12_copyHouse_9 E (by rw [e1]; exact vin (by omega) (by omega)) (by rw [e2]; exact vin (by omega) (by omega)) (bX12_copyHouse_33 E ?_)
      rw [e1, e2, ix_nI (by omega), ix_nI (show 247 * i + p < 2147483648 by omega), nI_add]
      refine ih (p + 1) _ (by omega) (fun j hj => ?_) (fun a ha => by rw [uR_n ha]; exact h2 a ha) (fun x hx => ?_)
      · rw [uR_s]
        refine upd_at (fun e => ?_) (fun e => h1 j (by omega))
        rw [h3 _ (by omega), show p = j by omega]
      · rw [uR_s, pk_un (by omega)]; exact h3 x (by omega)
  exact bX12_copyHouse_0 E (loop 247 0 μ (by omega) (fun j hj => absurd hj (Nat.not_lt_zero j)) (fun _ _ => rfl) (fun _ _ => rfl))
theorem y_image {a : Int32} (R : RepM μ D im tx s f) (O : OkS D im tx) : CtrS Z mX12_image [mrf Z, .int a] μ (rI fun v μ' => v = (oImage D im a).1 ∧ RepM μ' D (oImage D im a).2 tx (cnt s (oImage D im a).1) f ∧ FrY μ μ') := by
  refine CtrS.intro (by decide +kernel) (Nat.le_of_ble_eq_true rfl) rfl fun X E hB => ?_
  refine bX12_image_0 E m_in fun v μ1 g => ?_
  simp only [in_1] at g
  obtain ⟨rfl, rfl⟩ := g
  refine bX12_image_6 E (fun c1 => ?_) (fun c => ?_)
  · rw [bz] at c1
    have c1 := Decidable.not_not.mp c1
    have e : oImage D im a = _ := if_pos c1
    rw [e] at hB
    obtain ⟨ha, ea⟩ := inN_of c1 (by decide)
    have hv : vp_in a 2 := by rw [ea]; exact vin (by omega) (by omega)
    generalize ix a = j at ha ea hB
    have ej : ix a = j := by rw [ea, ix_nI (by omega)]
    refine bX12_image_16 E (by rw [show nI 1 + a = nI (1 + j) by rw [ea, nI_add]]; exact m_copyHouse (i := 0) (by decide) (by omega) (by omega)) fun μ2 g => ?_
    obtain ⟨g1, g2, g3⟩ := g
    refine bX12_image_24 E hv (bX12_image_31 E hB ⟨_, rfl, rfl, ?_⟩)
    rw [bool1, ej, show cnt s (nI 1) = s from cnt_nI (by decide)]
    dsimp only
    obtain ⟨r1, r2, r3, r4, r5, r6⟩ := R
    have e : ∀ x, x ≠ 456 → x ≠ 457 → uR μ2 457 (upd (μ2 457) j (nI 1)) x = μ1 x := fun x h1 h2 => by rw [uR_n h2, g2 x h1]
    have e6 : uR μ2 457 (upd (μ2 457) j (nI 1)) 456 = μ2 456 := uR_n (by decide)
    refine ⟨⟨by rw [e6]; exact r1.fr O.1.1 fun i h1 h2 => g3 i (by omega), by rw [e6]; exact r2.fr O.1.2.2.1 fun i h1 h2 => g3 i (by omega), by rw [e _ (by decide) (by decide)]; exact r3, by rw [e _ (by decide) (by decide), e _ (by decide) (by decide)]; exact r4, ⟨⟨r5.1.1, fun k hk => by rw [e _ (by decide) (by decide)]; exact r5.1.2 k hk⟩, ⟨r5.2.1.1, fun k hk => by rw [e _ (by decide) (by decide)]; exact r5.2.1.2 k hk⟩, by rw [e _ (by decide) (by decide)]; exact r5.2.2⟩, fun i hi => ?_⟩, fun x hx => e x (by omega) (by omega)⟩
    rw [uR_s, e6]
    by_cases q : i = j
    · subst q
      rw [pk_us, sIm_s]
      refine ⟨rfl, fun E hE => ?_⟩
      obtain rfl : D = E := Option.some.inj hE
      exact ⟨r1.mv O.1.1 fun i hi => by rw [g1 i (by omega)], r2.mv O.1.2.2.1 fun i h1 h2 => by rw [g1 i (by omega)]⟩
    · rw [pk_un q, sIm_n q, g2 _ (by decide)]
      refine ⟨(r6 i hi).1, fun E hE => ?_⟩
      have := (r6 i hi).2 E hE
      have o := O.2.1 i E hi hE
      exact ⟨this.1.fr o.1 fun x h1 h2 => g3 x (by omega), this.2.fr o.2.2.1 fun x h1 h2 => g3 x (by omega)⟩
  · have e : oImage D im a = (-2, im) := if_neg fun g => by rw [bz] at c; exact c g
    rw [e] at hB
    refine bX12_image_9 E (m_refuse (s := s) R.2.2.1) fun v μ2 h => ?_
    obtain ⟨rfl, h1, h2⟩ := h
    exact bX12_image_15 E hB ⟨_, rfl, rfl, ystay R O h1 h2⟩
theorem m_no {b : Int32} (hs : ST (μ 458) s) : CtrS Z mX12_no [mrf Z, .int b] μ (rI fun r μ' => r = (if b = 0 then -3 else -2) ∧ ST (μ' 458) (cnt s (if b = 0 then -3 else -2)) ∧ Fr [458] μ μ') := by
  refine CtrS.intro (by decide +kernel) (Nat.le_of_ble_eq_true rfl) rfl fun X E hB => ?_
  refine bX12_no_0 E (fun c => ?_) (fun c => ?_)
  · rw [if_pos (show b = 0 from c)] at hB
    refine bX12_no_10 E (bX12_no_12 E (m_refuse hs) fun v μ1 g => ?_)
    exact bX12_no_15 E hB ⟨_, rfl, g⟩
  · rw [if_neg (show ¬ b = 0 from c)] at hB
    refine bX12_no_5 E (bX12_no_12 E (m_refuse hs) fun v μ1 g => ?_)
    exact bX12_no_15 E hB ⟨_, rfl, g⟩
theorem y_from {a : Int32} (R : RepM μ D im tx s f) (O : OkS D im tx) : CtrS Z mX12_from [mrf Z, .int a] μ (yP Z μ im tx s f (oFrom D im a)) := by
  refine CtrS.intro (by decide +kernel) (Nat.le_of_ble_eq_true rfl) rfl fun X E hB => ?_
  have no : ∀ v, oFrom D im a = (v, D) → v = (if inN a 2 then -3 else -2) → JS Z X 18 [(0, mrf Z), (1, .int a)] [] μ := fun v e ev => by
    rw [e] at hB
    refine bX12_from_18 E m_in fun v1 μ1 g => ?_
    simp only [in_1] at g
    obtain ⟨rfl, rfl⟩ := g
    refine bX12_from_25 E (fun c => ?_) (fun c => ?_)
    · rw [bz] at c
      rw [if_pos (Decidable.not_not.mp c)] at ev
      subst ev
      refine bX12_from_32 E (bX12_from_33 E (m_no R.2.2.1) fun v μ2 h => ?_)
      obtain ⟨rfl, h1, h2⟩ := h
      exact bX12_from_36 E hB ⟨_, rfl, rfl, ystay R O h1 h2⟩
    · rw [bz] at c
      rw [if_neg c] at ev
      subst ev
      refine bX12_from_28 E (bX12_from_33 E (m_no R.2.2.1) fun v μ2 h => ?_)
      obtain ⟨rfl, h1, h2⟩ := h
      exact bX12_from_36 E hB ⟨_, rfl, rfl, ystay R O h1 h2⟩
  refine bX12_from_0 E m_in fun v μ1 g => ?_
  simp only [in_1] at g
  obtain ⟨rfl, rfl⟩ := g
  refine bX12_from_6 E (fun c => ?_) (fun c1 => ?_)
  · rw [bz] at c
    exact no (-2) (if_neg c) (by rw [if_neg c])
  · rw [bz] at c1
    have c1 := Decidable.not_not.mp c1
    have e : oFrom D im a = _ := if_pos c1
    obtain ⟨ha, ea⟩ := inN_of c1 (by decide)
    have hv : vp_in a 2 := by rw [ea]; exact vin (by omega) (by omega)
    have k := R.2.2.2.2.2 (ix a) ha
    cases hi : im (ix a) with
    | none =>
      rw [hi] at k e
      exact bX12_from_9 E hv (fun d => absurd k.1 d) (fun _ => no (-3) e (by rw [if_pos c1]))
    | some E0 =>
      rw [hi] at k e
      rw [e] at hB
      have o := O.2.1 _ E0 ha hi
      obtain ⟨k1, k2⟩ := k.2 E0 rfl
      have z : _ = nI 1 := k.1
      refine bX12_from_9 E hv (fun _ => ?_) (fun d => absurd (z.symm.trans d) (by decide))
      have e1 : nI 1 + a = nI (1 + ix a) := by rw [← nI_add, ← ea]
      refine bX12_from_37 E (by rw [e1]; exact m_copyHouse (k := 0) (by omega) (by decide) (by omega)) fun μ2 g => ?_
      obtain ⟨g1, g2, g3⟩ := g
      refine bX12_from_45 E hB ⟨_, rfl, rfl, ?_⟩
      rw [show cnt s (nI 1) = s from cnt_nI (by decide)]
      exact ⟨R.step O.2.1 (fun a h _ => g2 a h) (fun i h1 h2 => g3 i (by omega)) (k1.mv o.1 fun i hi => by rw [show 0 + i = 247 * 0 + i by omega, g1 i (by omega)]) (k2.mv o.2.2.1 fun i h1 h2 => by rw [show 0 + i = 247 * 0 + i by omega, g1 i (by omega)]) (by rw [g2 _ (by decide)]; exact R.2.2.1), fun x hx => g2 x (by omega)⟩
end PUB6
