/-! KINDS: digits to the base 4; the means by kinds -/
def d4 (n t i : Nat) : Nat := t / 4 ^ (n - 1 - i) % 4
theorem d4_lt {n t i : Nat} : d4 n t i < 4 := Nat.mod_lt _ (by decide)
/-- t and what follows it, where the lowest p digits are 3 -/
theorem nx_lo {t p r : Nat} (h : t % 4 ^ p = 4 ^ p - 1) (hr : r < p) : (t + 1) / 4 ^ r % 4 = 0 := by
  have hp : 0 < 4 ^ p := Nat.pow_pos (by decide)
  have e := Nat.div_add_mod t (4 ^ p)
  have e1 : t + 1 = 4 ^ p * (t / 4 ^ p + 1) := by rw [Nat.mul_add, Nat.mul_one]; omega
  rw [e1, show 4 ^ p = 4 ^ r * (4 * 4 ^ (p - 1 - r)) by rw [← Nat.pow_succ', ← Nat.pow_add]; congr 1; omega, Nat.mul_assoc, Nat.mul_div_cancel_left _ (Nat.pow_pos (by decide)), Nat.mul_assoc, Nat.mul_mod_right]
theorem nx_at {t p : Nat} (h : t % 4 ^ p = 4 ^ p - 1) : (t + 1) / 4 ^ p = t / 4 ^ p + 1 := by
  have hp : 0 < 4 ^ p := Nat.pow_pos (by decide)
  have e := Nat.div_add_mod t (4 ^ p)
  have e1 : t + 1 = 4 ^ p * (t / 4 ^ p + 1) := by rw [Nat.mul_add, Nat.mul_one]; omega
  rw [e1, Nat.mul_div_cancel_left _ hp]
theorem nx_hi {t p r : Nat} (h : t % 4 ^ p = 4 ^ p - 1) (hd : t / 4 ^ p % 4 < 3) (hr : p < r) : (t + 1) / 4 ^ r % 4 = t / 4 ^ r % 4 := by
  have e : 4 ^ r = 4 ^ p * (4 * 4 ^ (r - 1 - p)) := by rw [← Nat.pow_succ', ← Nat.pow_add]; congr 1; omega
  rw [e, ← Nat.div_div_eq_div_mul, ← Nat.div_div_eq_div_mul, nx_at h, ← Nat.div_div_eq_div_mul, ← Nat.div_div_eq_div_mul]
  generalize t / 4 ^ p = a at hd
  rw [show (a + 1) / 4 = a / 4 by omega]
theorem nx_3 {t p : Nat} (h : t % 4 ^ p = 4 ^ p - 1) (hd : t / 4 ^ p % 4 = 3) : t % 4 ^ (p + 1) = 4 ^ (p + 1) - 1 := by
  have hp : 0 < 4 ^ p := Nat.pow_pos (by decide)
  rw [Nat.mod_pow_succ, h, hd, Nat.pow_succ]
  omega
def kM (D : DD) (l : Nat) (q : Nat → Nat) (i k : Nat) : Nat := miss D (l + 1) k (hAt D q i) 6
def kG (D : DD) (l : Nat) (q : Nat → Nat) (i k c : Nat) : Nat := gues D (l + 1) k (hAt D q i) c
def kR (D : DD) (l : Nat) (q : Nat → Nat) (i k : Nat) : Nat := rd (kM D l q i k) (D 13 0 - 1)
def kL (D : DD) (l : Nat) (q : Nat → Nat) (n : Nat) (κ : Nat → Nat) : Nat → Nat
  | 0 => 1000000 ^ (D 13 0 - 1) * hWk D q n n
  | i + 1 => kL D l q n κ i + kR D l q i (κ i)
def kS (D : DD) (l : Nat) (q : Nat → Nat) (κ : Nat → Nat) (c : Nat) : Nat → Nat
  | 0 => 0
  | i + 1 => kS D l q κ c i + kR D l q i (κ i) * kG D l q i (κ i) c
def kB (D : DD) (l : Nat) (q : Nat → Nat) (n : Nat) (κ : Nat → Nat) : Nat → Bool × Nat
  | 0 => (false, 0)
  | c + 1 => if D 6 c = l + 1 then (true, if (kB D l q n κ c).1 = false ∨ kS D l q κ c n < (kB D l q n κ c).2 then kS D l q κ c n else (kB D l q n κ c).2) else kB D l q n κ c
def kV (D : DD) (l : Nat) (q : Nat → Nat) (n : Nat) (κ : Nat → Nat) : Nat := (kB D l q n κ (D 0 1)).2
def kF (D : DD) (l : Nat) (q : Nat → Nat) (n : Nat) (κ : Nat → Nat) : Nat := adf (kL D l q n κ n) (gN D)
/-- the best of the first t -/
abbrev KT4 : Type := Bool × Nat × Nat × Nat
def kX (D : DD) (l : Nat) (q : Nat → Nat) (n : Nat) : Nat → KT4
  | 0 => (false, 0, 0, 0)
  | t + 1 => if (kX D l q n t).1 = false ∨ (kX D l q n t).2.2.1 < kV D l q n (d4 n t) ∨ (kV D l q n (d4 n t) = (kX D l q n t).2.2.1 ∧ kF D l q n (d4 n t) < (kX D l q n t).2.2.2) then (true, t, kV D l q n (d4 n t), kF D l q n (d4 n t)) else kX D l q n t
theorem kX_t {D : DD} {l : Nat} {q : Nat → Nat} {n : Nat} : ∀ t, 0 < t → (kX D l q n t).1 = true
  | 0, h => by omega
  | t + 1, _ => by
    unfold kX
    split
    · rfl
    · rename_i c
      cases h : (kX D l q n t).1 with
      | true => rfl
      | false => exact absurd (Or.inl h) c
theorem kX_lt {D : DD} {l : Nat} {q : Nat → Nat} {n : Nat} : ∀ t, (kX D l q n t).2.1 ≤ t
  | 0 => Nat.le_refl 0
  | t + 1 => by
    have := kX_lt (D := D) (l := l) (q := q) (n := n) t
    unfold kX
    split
    · exact Nat.le_succ t
    · omega
theorem kL_c {D : DD} {l n : Nat} {q κ κ' : Nat → Nat} : ∀ i, (∀ j, j < i → κ j = κ' j) → kL D l q n κ i = kL D l q n κ' i
  | 0, _ => rfl
  | i + 1, h => by rw [kL, kL, kL_c i (fun j hj => h j (by omega)), h i (by omega)]
theorem kS_c {D : DD} {l c : Nat} {q κ κ' : Nat → Nat} : ∀ i, (∀ j, j < i → κ j = κ' j) → kS D l q κ c i = kS D l q κ' c i
  | 0, _ => rfl
  | i + 1, h => by rw [kS, kS, kS_c i (fun j hj => h j (by omega)), h i (by omega)]
theorem kM_le {D : DD} {l i k : Nat} {q : Nat → Nat} : kM D l q i k ≤ 1000000 := miss_le 6
theorem kR_le {D : DD} (WW : WN D) {l i k : Nat} {q : Nat → Nat} : kR D l q i k ≤ 10 ^ 31 := rd_big WW kM_le (by have := WW.1.2.1; omega)
theorem kG_le {D : DD} (W : WF D) {l i k c : Nat} {q : Nat → Nat} (hk : k < 4) : kG D l q i k c ≤ 900000 := gues_le W hk
theorem kL_le {D : DD} (WW : WN D) {l n : Nat} {q κ : Nat → Nat} (hn : n ≤ 6) : ∀ i, kL D l q n κ i ≤ 10 ^ 36 + i * 10 ^ 31
  | 0 => by
    have w := hWk_le (D := D) (q := q) (n := n) n
    have := Nat.mul_le_mul (mil_le WW) (show hWk D q n n ≤ 600000 by omega)
    have e : (10 : Nat) ^ 30 * 600000 ≤ 10 ^ 36 := by decide
    rw [kL]; omega
  | i + 1 => by
    have := kL_le WW (l := l) (q := q) (κ := κ) hn i
    have := kR_le WW (l := l) (i := i) (k := κ i) (q := q)
    rw [kL, Nat.add_mul, Nat.one_mul]; omega
theorem kS_le {D : DD} (W : WF D) (WW : WN D) {l c : Nat} {q κ : Nat → Nat} (hκ : ∀ i, κ i < 4) : ∀ i, kS D l q κ c i ≤ i * (10 ^ 31 * 900000)
  | 0 => Nat.zero_le _
  | i + 1 => by
    rw [kS, Nat.add_mul, Nat.one_mul]
    exact Nat.add_le_add (kS_le W WW hκ i) (Nat.mul_le_mul (kR_le WW) (kG_le W (hκ i)))
section KIND
variable {Z : ZT} {μ : Mu} {D : DD} {im : Nat → Option DD} {tx : TX} {s : Nat → Int32} {f : Nat × Nat}
/-- the tables of a choice -/
def KTb (μ : Mu) (D : DD) (l : Nat) (q : Nat → Nat) (n : Nat) : Prop := (∀ i k, i < n → k < 4 → BigV μ (el 294 (4 * i + k)) (kR D l q i k)) ∧ ∀ i k c, i < n → k < 4 → c < 6 → μ 295 ((4 * i + k) * 6 + c) = nI (kG D l q i k c)
def KA (μ : Mu) (D : DD) (l : Nat) (q : Nat → Nat) (n : Nat) (κ : Nat → Nat) (j : Nat) : Prop := ∀ i, i ≤ j → BigV μ (el 296 i) (kL D l q n κ i) ∧ ∀ c, c < D 0 1 → BigV μ (el 297 (6 * i + c)) (kS D l q κ c i)
theorem e294 {k : Nat} : el 294 k = 300 + 2 * k := rfl
theorem e296 {k : Nat} : el 296 k = 348 + 2 * k := rfl
theorem e297 {k : Nat} : el 297 k = 362 + 2 * k := rfl
theorem GB294 {k : Nat} (h : k < 24) : GB (el 294 k) := ⟨she294 h, by rw [e294]; omega, fun c hc => by rw [e294]; omega⟩
theorem GB296 {k : Nat} (h : k < 7) : GB (el 296 k) := ⟨she296 h, by rw [e296]; omega, fun c hc => by rw [e296]; omega⟩
theorem GB297 {k : Nat} (h : k < 42) (h6 : 6 ≤ k) : GB (el 297 k) := ⟨she297 h, by rw [e297]; omega, fun c hc => by rw [e297]; omega⟩
theorem SC.row {μ' : Mu} (q : SC μ) {o : Nat} (ho : o = 286 ∨ o = 293 ∨ o = 295) (h : Fr [o] μ μ') : SC μ' := by
  have n : ∀ x, x = 286 ∨ x = 293 ∨ x = 295 → ∀ p, SH p = .inl 0 → p + 1 ≠ x := fun x hx p hp hq => by
    have := SH_all (P := fun o => SH o = .inl 0 → o + 1 ≠ 286 ∧ o + 1 ≠ 293 ∧ o + 1 ≠ 295) (by decide +kernel) hp hp
    omega
  rcases ho with rfl | rfl | rfl
  · exact q.nob h (by decide) (n _ (by omega)) (by decide)
  · exact q.nob h (by decide) (n _ (by omega)) (by decide)
  · exact q.nob h (by decide) (n _ (by omega)) (by decide)
theorem BigV.row {μ' : Mu} {a v : Nat} (h : BigV μ a v) {o : Nat} (ho : o = 286 ∨ o = 293 ∨ o = 295) (hF : Fr [o] μ μ') : BigV μ' a v := by
  have n := SH_all (P := fun x => SH x = .inl 0 → x ≠ 286 ∧ x ≠ 293 ∧ x ≠ 295 ∧ x + 1 ≠ 286 ∧ x + 1 ≠ 293 ∧ x + 1 ≠ 295) (by decide +kernel) h.1 h.1
  exact h.fr hF (by simp; omega) (by simp; omega)
theorem KTb.fr {l n : Nat} {q : Nat → Nat} {μ' : Mu} (h : KTb μ D l q n) (hn : n ≤ 6) (e : ∀ a, 295 ≤ a → a < 348 → a ≠ 298 → a ≠ 299 → μ' a = μ a) : KTb μ' D l q n := ⟨fun i k hi hk => (h.1 i k hi hk).congr (e _ (by rw [e294]; omega) (by rw [e294]; omega) (by rw [e294]; omega) (by rw [e294]; omega)) (e _ (by rw [e294]; omega) (by rw [e294]; omega) (by rw [e294]; omega) (by rw [e294]; omega)), fun i k c hi hk hc => by rw [e _ (by decide) (by decide) (by decide) (by decide)]; exact h.2 i k c hi hk hc⟩
theorem KA.fr {l n j : Nat} {q κ : Nat → Nat} {μ' : Mu} (h : KA μ D l q n κ j) (hC : D 0 1 ≤ 6) (hj : j ≤ 6) (e : ∀ a, 348 ≤ a → a < 446 → μ' a = μ a) : KA μ' D l q n κ j := fun i hi => ⟨(h i hi).1.congr (e _ (by rw [e296]; omega) (by rw [e296]; omega)) (e _ (by rw [e296]; omega) (by rw [e296]; omega)), fun c hc => ((h i hi).2 c hc).congr (e _ (by rw [e297]; omega) (by rw [e297]; omega)) (e _ (by rw [e297]; omega) (by rw [e297]; omega))⟩
theorem c_kPlace {l n i : Nat} {q κ : Nat → Nat} (H : HC μ 1 D) (W : WF D) (WW : WN D) (sc : SC μ) (hn : n ≤ 6) (hi : i < n) (K : KTb μ D l q n) (A : KA μ D l q n κ i) (hκ : ∀ i, κ i < 4) (hnow : μ 293 i = nI (κ i)) : CtrS Z mX1_addPlace [rf Z 285, .int (nI i)] μ (rV fun μ' => KA μ' D l q n κ (i + 1) ∧ SC μ' ∧ ∀ a, a < 350 ∨ (362 ≤ a ∧ a < 374) ∨ 446 ≤ a → μ' a = μ a) := by
  refine CtrS.intro (by decide +kernel) (Nat.le_of_ble_eq_true rfl) rfl fun X E hB => ?_
  have hC := W.2.1
  have k4 := hκ i
  have e1 : nI i + nI 1 = nI (i + 1) := nI_add i 1
  have ek : nI i * nI 4 + nI (κ i) = nI (4 * i + κ i) := by rw [nI_mul, nI_add, Nat.mul_comm]
  refine bX1_addPlace_0 E (vin (by omega) (by omega)) (by rw [e1]; exact vin (by omega) (by omega)) (vin (by omega) (by omega)) (by rw [e1, ix_nI (by omega), ix_nI (show i < 2147483648 by omega)]; exact q_copy sc (GB296 (by omega)) (A i (Nat.le_refl i)).1) fun μ1 g => ?_
  obtain ⟨g1, g2, g3⟩ := g
  have f1 : ∀ a, a ≠ 348 + 2 * (i + 1) → a ≠ 349 + 2 * (i + 1) → μ1 a = μ a := fun a h1 h2 => g3 a (by rw [e296]; simp; omega)
  rw [ix_nI (show i < 2147483648 by omega), hnow, ek]
  have mn := (K.1 i (κ i) hi k4)
  have kl := kL_le WW (l := l) (q := q) (κ := κ) hn (i + 1)
  have e36 : (10 : Nat) ^ 36 + 6 * 10 ^ 31 < 1073741824 ^ 24 := by decide
  refine bX1_addPlace_28 E (by rw [e1]; exact vin (by omega) (by omega)) (vin (by omega) (by omega)) (by rw [e1, ix_nI (by omega), ix_nI (show 4 * i + κ i < 2147483648 by omega)]; exact q_addTimes g2 (GB296 (by omega)) g1 (mn.ot g3 (she296 (by omega)) (by rw [e294, e296]; omega)) (by rw [e294, e296]; omega) (by decide) (by rw [Nat.mul_one]; exact Nat.lt_of_le_of_lt (Nat.le_trans kl (Nat.add_le_add_left (Nat.mul_le_mul_right _ (by omega)) _)) e36)) fun μ2 k => bX1_addPlace_46 E ?_
  obtain ⟨k1, k2, k3⟩ := k
  rw [Nat.mul_one] at k1
  have f2 : ∀ a, a ≠ 348 + 2 * (i + 1) → a ≠ 349 + 2 * (i + 1) → μ2 a = μ a := fun a h1 h2 => by rw [k3 a (by rw [e296]; simp; omega), f1 a h1 h2]
  have K2 : KTb μ2 D l q n := K.fr hn fun a h1 h2 h3 h4 => f2 a (by omega) (by omega)
  have A2 : KA μ2 D l q n κ i := fun j hj => ⟨(A j hj).1.congr (f2 _ (by rw [e296]; omega) (by rw [e296]; omega)) (f2 _ (by rw [e296]; omega) (by rw [e296]; omega)), fun c hc => ((A j hj).2 c hc).congr (f2 _ (by rw [e297]; omega) (by rw [e297]; omega)) (f2 _ (by rw [e297]; omega) (by rw [e297]; omega))⟩
  have loop : ∀ k c μ3, c + k = D 0 1 → BigV μ3 (el 296 (i + 1)) (kL D l q n κ (i + 1)) → KTb μ3 D l q n → KA μ3 D l q n κ i → (∀ c', c' < c → BigV μ3 (el 297 (6 * (i + 1) + c')) (kS D l q κ c' (i + 1))) → SC μ3 → (∀ a, a < 350 ∨ (362 ≤ a ∧ a < 374) ∨ 446 ≤ a → μ3 a = μ a) → JS Z X 48 [(0, rf Z 285), (1, .int (nI i)), (2, .int (nI (4 * i + κ i))), (3, .int (nI c))] [] μ3 := by
    intro k
    induction k with
    | zero =>
      intro c μ3 hc h1 h2 h3 h4 h5 h6
      have hc : c = D 0 1 := hc
      subst hc
      refine bX1_addPlace_48 E (fun _ => bX1_addPlace_118 E hB ⟨rfl, fun j hj => ?_, h5, h6⟩) (fun d => absurd (by rw [h6 1 (by omega), show μ 1 3 = _ from H.2.2.1, nI_leE (by omega) (by omega)]; omega) d)
      by_cases e : j = i + 1
      · subst e; exact ⟨h1, h4⟩
      · exact h3 j (by omega)
    | succ k ih =>
      intro c μ3 hc h1 h2 h3 h4 h5 h6
      have ea : (nI i + nI 1) * nI 6 + nI c = nI (6 * (i + 1) + c) := by rw [nI_add, nI_mul, nI_add, Nat.mul_comm]
      have eb : nI i * nI 6 + nI c = nI (6 * i + c) := by rw [nI_mul, nI_add, Nat.mul_comm]
      have ec : nI (4 * i + κ i) * nI 6 + nI c = nI ((4 * i + κ i) * 6 + c) := by rw [nI_mul, nI_add]
      have gb : GB (el 297 (6 * (i + 1) + c)) := GB297 (by omega) (by omega)
      refine bX1_addPlace_48 E (fun d => absurd d (by rw [h6 1 (by omega), show μ 1 3 = _ from H.2.2.1, nI_leE (by omega) (by omega)]; omega)) (fun _ => ?_)
      refine bX1_addPlace_59 E (by rw [ea]; exact vin (by omega) (by omega)) (by rw [eb]; exact vin (by omega) (by omega)) (by rw [ea, eb, ix_nI (by omega), ix_nI (show 6 * i + c < 2147483648 by omega)]; exact q_copy h5 gb ((h3 i (Nat.le_refl i)).2 c (by omega))) fun μ4 j => ?_
      obtain ⟨j1, j2, j3⟩ := j
      have f4 : ∀ a, a ≠ 362 + 2 * (6 * (i + 1) + c) → a ≠ 363 + 2 * (6 * (i + 1) + c) → μ4 a = μ3 a := fun a h1 h2 => j3 a (by rw [e297]; simp; omega)
      rw [ea, ix_nI (show 6 * (i + 1) + c < 2147483648 by omega)]
      have gl := kG_le W (l := l) (i := i) (c := c) (q := q) k4
      have rl := kR_le WW (l := l) (i := i) (k := κ i) (q := q)
      have sl := kS_le W WW (l := l) (c := c) (q := q) hκ i
      have K4 : KTb μ4 D l q n := h2.fr hn fun a h1 h2 h3 h4 => f4 a (by omega) (by omega)
      refine bX1_addPlace_90 E gb.1 (vin (by omega) (by omega)) (by rw [ec]; exact vin (by omega) (by omega)) (by rw [ec, ix_nI (show 4 * i + κ i < 2147483648 by omega), ix_nI (show (4 * i + κ i) * 6 + c < 2147483648 by omega), K4.2 i (κ i) c hi k4 (by omega)]; exact q_addTimes j2 gb j1 (K4.1 i (κ i) hi k4) (by rw [e294, e297]; omega) (by omega) (Nat.lt_of_le_of_lt (Nat.add_le_add (Nat.le_trans sl (Nat.mul_le_mul_right _ (show i ≤ 6 by omega))) (Nat.mul_le_mul rl gl)) (by decide))) fun μ5 z => bX1_addPlace_112 E ?_
      obtain ⟨z1, z2, z3⟩ := z
      have f5 : ∀ a, a ≠ 362 + 2 * (6 * (i + 1) + c) → a ≠ 363 + 2 * (6 * (i + 1) + c) → μ5 a = μ3 a := fun a h1 h2 => by rw [z3 a (by rw [e297]; simp; omega), f4 a h1 h2]
      rw [nI_add]
      refine ih (c + 1) μ5 (by omega) (h1.congr (f5 _ (by rw [e296]; omega) (by rw [e296]; omega)) (f5 _ (by rw [e296]; omega) (by rw [e296]; omega))) (h2.fr hn fun a h1 h2 h3 h4 => f5 a (by omega) (by omega)) (fun j hj => ⟨(h3 j hj).1.congr (f5 _ (by rw [e296]; omega) (by rw [e296]; omega)) (f5 _ (by rw [e296]; omega) (by rw [e296]; omega)), fun c hc => ((h3 j hj).2 c hc).congr (f5 _ (by rw [e297]; omega) (by rw [e297]; omega)) (f5 _ (by rw [e297]; omega) (by rw [e297]; omega))⟩) (fun c' hc' => ?_) z2 (fun a ha => by rw [f5 a (by omega) (by omega)]; exact h6 a ha)
      by_cases e : c' = c
      · subst e; exact z1
      · exact (h4 c' (by omega)).congr (f5 _ (by rw [e297]; omega) (by rw [e297]; omega)) (f5 _ (by rw [e297]; omega) (by rw [e297]; omega))
  exact loop (D 0 1) 0 μ2 (by omega) k1 K2 A2 (fun c' hc' => absurd hc' (Nat.not_lt_zero c')) k2 (fun a ha => f2 a (by omega) (by omega))
theorem c_leastGuessed {h l n : Nat} {q κ : Nat → Nat} (hh : SH h = .inl 4) (H : HC μ 1 D) (W : WF D) (sc : SC μ) (hl : l < 2) (hn : n ≤ 6) (T : HQ μ h l q n) (A : KA μ D l q n κ n) : CtrS Z mX1_leastGuessed [rf Z 285, rf Z h] μ (rR Z fun o μ' => BigV μ o (kV D l q n κ) ∧ 298 ≤ o ∧ μ' = μ) := by
  refine CtrS.intro (by decide +kernel) (Nat.le_of_ble_eq_true rfl) rfl fun X E hB => ?_
  have hC := W.2.1
  have loop : ∀ k c o, c + k = D 0 1 → BigV μ o (kB D l q n κ c).2 → 298 ≤ o → JS Z X 10 [(0, rf Z 285), (1, rf Z h), (2, .int (bI (kB D l q n κ c).1)), (3, rf Z o), (4, .int (nI c))] [] μ := by
    intro k
    induction k with
    | zero =>
      intro c o hc h1 h2
      have hc : c = D 0 1 := hc
      subst hc
      exact bX1_leastGuessed_10 E hh h1.1 (fun _ => bX1_leastGuessed_80 E hB h1.1 ⟨_, rfl, h1, h2, rfl⟩) (fun d => absurd (by rw [show μ 1 3 = _ from H.2.2.1, nI_leE (by omega) (by omega)]; omega) d)
    | succ k ih =>
      intro c o hc h1 h2
      have w6 := (W.2.2.2.2.2.1 c (by omega)).2.2.2
      have h6 : μ (1 + 6) c = lotI (D 6 c) := (H.2.2.2.2.2.2.1 c (by omega)).2.2.2
      have ea : μ h 4 * nI 6 + nI c = nI (6 * n + c) := by rw [T.2.1, nI_mul, nI_add, Nat.mul_comm]
      have sv := (A n (Nat.le_refl n)).2 c (by omega)
      have nx := ih (c + 1)
      have go : ∀ o', BigV μ o' (kB D l q n κ (c + 1)).2 → 298 ≤ o' → JS Z X 74 [(0, rf Z 285), (1, rf Z h), (2, .int (bI (kB D l q n κ (c + 1)).1)), (3, rf Z o'), (4, .int (nI c))] [] μ := fun o' z1 z2 => by
        refine bX1_leastGuessed_74 E hh z1.1 ?_
        rw [nI_add]
        exact nx o' (by omega) z1 z2
      refine bX1_leastGuessed_10 E hh h1.1 (fun d => absurd d (by rw [show μ 1 3 = _ from H.2.2.1, nI_leE (by omega) (by omega)]; omega)) (fun _ => ?_)
      refine bX1_leastGuessed_22 E hh h1.1 (by rw [ea]; exact vin (by omega) (by omega)) (vin (by omega) (by omega)) (fun d => ?_) (fun d => ?_)
      · rw [ix_nI (by omega), h6, T.1, lotE w6 hl] at d
        have z := go o
        rw [show kB D l q n κ (c + 1) = kB D l q n κ c from if_neg d] at z
        exact z h1 h2
      rw [ix_nI (by omega), h6, T.1, lotE w6 hl] at d
      rw [ea, ix_nI (by omega)]
      have fe : kB D l q n κ (c + 1) = _ := if_pos d
      have r69 : ((kB D l q n κ c).1 = false ∨ kS D l q κ c n < (kB D l q n κ c).2) → JS Z X 69 [(0, rf Z 285), (1, rf Z h), (4, .int (nI c)), (5, rf Z (el 297 (6 * n + c)))] [] μ := fun y => by
        refine bX1_leastGuessed_69 E hh sv.1 ?_
        have z := go (el 297 (6 * n + c))
        rw [fe, if_pos y] at z
        exact z sv (by rw [e297]; omega)
      refine bX1_leastGuessed_56 E hh h1.1 sv.1 (fun y => ?_) (fun y => ?_)
      · rw [bI0] at y
        exact r69 (Or.inl y)
      rw [bI0] at y
      have y1 : (kB D l q n κ c).1 = true := by cases h : (kB D l q n κ c).1 with | false => exact absurd h y | true => rfl
      refine bX1_leastGuessed_60 E hh h1.1 sv.1 (c_compare sv h1) fun v μ1 j => ?_
      obtain ⟨rfl, e1⟩ := j
      rw [e1]
      refine bX1_leastGuessed_66 E hh h1.1 sv.1 (fun x => ?_) (fun x => ?_)
      · rw [cmp_ge] at x
        have z := go o
        rw [fe, if_neg (show ¬ ((kB D l q n κ c).1 = false ∨ kS D l q κ c n < (kB D l q n κ c).2) from fun g => Or.elim g y (fun g => by omega))] at z
        rw [y1]
        exact z h1 h2
      · rw [cmp_ge] at x
        exact r69 (Or.inr (by omega))
  exact bX1_leastGuessed_0 E hh (loop (D 0 1) 0 298 (by omega) sc.2.2.1 (by decide))
end KIND
