/-! ABS: the mathematical state that both sides stand for -/
abbrev DD : Type := Nat → Nat → Nat
def up (D : DD) (k i v : Nat) : DD := fun k' i' => if k' = k ∧ i' = i then v else D k' i'
theorem up_s {D : DD} {k i v : Nat} : up D k i v k i = v := by simp [up]
theorem up_k {D : DD} {k i v k' i' : Nat} (h : k' ≠ k) : up D k i v k' i' = D k' i' := by simp [up, h]
theorem up_i {D : DD} {k i v k' i' : Nat} (h : i' ≠ i) : up D k i v k' i' = D k' i' := by simp [up, h]
/-- a number of a list of n -/
abbrev inN (x : Int32) (n : Nat) : Prop := 0 ≤ x ∧ x < nI n
theorem inN_nI {j n : Nat} (h : j < n) (hn : n < 2147483648) : inN (nI j) n := ⟨nI_pos' (by omega), (nI_ltI (by omega) hn).mpr h⟩
theorem inN_of {x : Int32} {n : Nat} (h : inN x n) (hn : n < 2147483648) : ix x < n ∧ x = nI (ix x) := by
  obtain ⟨h1, h2⟩ := h
  have h0 : ¬ x < 0 := by rw [Int32.not_lt]; exact h1
  obtain ⟨j, hj, rfl⟩ := nI_of h0
  have e : ix (nI j) = j := ix_nI (by omega)
  rw [e]
  exact ⟨(nI_ltI (by omega) hn).mp h2, rfl⟩
theorem inN_iff {x : Int32} {n j : Nat} (hx : x = nI j) (hj : j < 2147483648) (hn : n < 2147483648) : inN x n ↔ j < n := by
  subst hx
  exact ⟨fun h => (nI_ltI hj hn).mp h.2, fun h => inN_nI h hn⟩
theorem ninN {x : Int32} {n : Nat} (h : ¬ inN x n) : x < 0 ∨ nI n ≤ x := by
  by_cases h1 : x < 0
  · exact Or.inl h1
  · refine Or.inr (Int32.not_lt.mp fun h2 => h ⟨Int32.not_lt.mp h1, h2⟩)
/-! bits -/
theorem shm5 {p : Nat} (hp : p < 32) : nI p &&& 31 = nI p := by
  rw [pk_andN (by omega) 5 rfl, Nat.mod_eq_of_lt hp]
theorem sm5 {p : Nat} (hp : p < 32) : ((nI p).toBitVec.smod 32).toNat = p := (show ∀ p, p < 32 → ((nI p).toBitVec.smod 32).toNat = p by decide) p hp
theorem bit_get {x p : Nat} (hx : x < 2147483648) (hp : p < 32) : (nI x >>> (nI p &&& 31)) &&& nI 1 = nI (x / 2 ^ p % 2) := by
  rw [shm5 hp, pk_shrN hx _ p (sm5 hp)]
  have : x / 2 ^ p ≤ x := Nat.div_le_self _ _
  exact pk_andN (by omega) 1 rfl
theorem bit_one {p : Nat} (hp : p < 31) : nI 1 <<< (nI p &&& 31) = nI (2 ^ p) := by
  have : 2 ^ p < 2 ^ 31 := Nat.pow_lt_pow_right (by decide) hp
  rw [shm5 (by omega), pk_shlN _ p (sm5 (by omega)) (by omega), Nat.one_mul]
theorem nI_or {x y : Nat} (hx : x < 2147483648) (hy : y < 2147483648) : nI x ||| nI y = nI (x ||| y) := by
  apply Int32.toBitVec_inj.mp
  rw [Int32.toBitVec_or]
  have hb : ∀ n : Nat, (nI n).toBitVec = BitVec.ofNat 32 n := fun n => rfl
  rw [hb, hb, hb]
  apply BitVec.eq_of_toNat_eq
  have : x ||| y < 2 ^ 31 := Nat.or_lt_two_pow hx hy
  rw [BitVec.toNat_or, BitVec.toNat_ofNat, BitVec.toNat_ofNat, BitVec.toNat_ofNat, Nat.mod_eq_of_lt (by omega), Nat.mod_eq_of_lt (by omega), Nat.mod_eq_of_lt (by omega)]
theorem tb_iff {x p : Nat} : x / 2 ^ p % 2 = 1 ↔ x.testBit p = true := by
  rw [Nat.testBit_eq_decide_div_mod_eq]; simp
def tb (x p : Nat) : Bool := x.testBit p
theorem bit_or_lt {x p n : Nat} (hx : x < 2 ^ n) (hp : p < n) : x ||| 2 ^ p < 2 ^ n := Nat.or_lt_two_pow hx (Nat.pow_lt_pow_right (by decide) hp)
theorem bit_or_tb {x p q : Nat} : (x ||| 2 ^ p).testBit q = (x.testBit q || decide (p = q)) := by
  rw [Nat.testBit_or, Nat.testBit_two_pow]
/-- what a state must be -/
def WF (D : DD) : Prop :=
  D 0 0 ≤ 10 ∧ D 0 1 ≤ 6 ∧ D 0 2 ≤ 8 ∧
  (∀ p q, p < 10 → q < 10 → D 1 (10 * p + q) ≤ 9 ∧ D 1 (10 * p + q) = D 1 (10 * q + p) ∧ (D 0 0 ≤ p ∨ p = q → D 1 (10 * p + q) = 0)) ∧
  (∀ p, p < 10 → D 2 p < 2 ^ D 0 0 ∧ (D 2 p).testBit p = false ∧ (D 0 0 ≤ p → D 2 p = 0)) ∧
  (∀ c, c < D 0 1 → D 3 c ≤ 1 ∧ (∀ k, k < 4 → D 4 (4 * c + k) ≤ 9) ∧ D 5 c < 2 ^ D 0 0 ∧ D 6 c ≤ 2) ∧
  (∀ s, s < D 0 2 → D 7 s < D 0 0 ∧ D 8 s ≤ 3 ∧ D 9 s ≤ 1 ∧ D 10 s < 2 ^ D 0 0) ∧
  (∀ l, l < 2 → D 11 l ≤ 6 ∧ (∀ i, i < D 11 l → D 12 (6 * l + i) < D 0 2 ∧ ∀ j, j < i → D 12 (6 * l + j) ≠ D 12 (6 * l + i)))
/-- numbers and reports -/
def WN (D : DD) : Prop := (1 ≤ D 13 0 ∧ D 13 0 ≤ 6 ∧ D 13 1 ≤ 200 ∧ D 13 2 ≤ 10 ∧ D 13 3 ≤ 9 ∧ D 13 4 ≤ 9) ∧ D 14 0 ≤ 20 ∧ ∀ i, i < D 14 0 → D 15 i ≤ 3 ∧ 1 ≤ D 16 i ∧ D 16 i ≤ 99
/-- a lot: none 0, 0 is 1, 1 is 2 -/
abbrev lotI (v : Nat) : Int32 := nI v + (-1)
/-- the class' house at h -/
def HC (μ : Mu) (h : Nat) (D : DD) : Prop :=
  SH h = .inl 3 ∧ μ h 0 = nI (D 0 0) ∧ μ h 3 = nI (D 0 1) ∧ μ h 8 = nI (D 0 2) ∧
  (∀ i, i < 100 → μ (h + 1) i = nI (D 1 i)) ∧ (∀ i, i < 10 → μ (h + 2) i = nI (D 2 i)) ∧
  (∀ c, c < D 0 1 → μ (h + 3) c = nI (D 3 c) ∧ (∀ k, k < 4 → μ (h + 4) (4 * c + k) = nI (D 4 (4 * c + k))) ∧ μ (h + 5) c = nI (D 5 c) ∧ μ (h + 6) c = lotI (D 6 c)) ∧
  (∀ s, s < D 0 2 → μ (h + 7) s = nI (D 7 s) ∧ μ (h + 8) s = nI (D 8 s) ∧ μ (h + 9) s = nI (D 9 s) ∧ μ (h + 10) s = nI (D 10 s)) ∧
  (∀ l, l < 2 → μ (h + 11) l = nI (D 11 l) ∧ ∀ i, i < D 11 l → μ (h + 12) (6 * l + i) = nI (D 12 (6 * l + i)))
/-- the class' notes at o -/
def NC (μ : Mu) (o : Nat) (D : DD) : Prop :=
  SH o = .inl 6 ∧ μ o 1 = nI (D 14 0) ∧ (∀ k, k < 5 → μ (o + 1) k = nI (D 13 k)) ∧ ∀ i, i < D 14 0 → μ (o + 2) i = nI (D 15 i) ∧ μ (o + 3) i = nI (D 16 i)
/-- the model's house at b of its row -/
def HM (a : Nat → Int32) (b : Nat) (D : DD) : Prop :=
  a b = nI (D 0 0) ∧ a (b + 111) = nI (D 0 1) ∧ a (b + 154) = nI (D 0 2) ∧
  (∀ p q, p < D 0 0 → q < D 0 0 → a (b + 1 + 10 * p + q) = nI (D 1 (10 * p + q))) ∧ (∀ p, p < D 0 0 → a (b + 101 + p) = nI (D 2 p ||| 2 ^ p)) ∧
  (∀ c, c < D 0 1 → a (b + 112 + c) = nI (D 3 c) ∧ (∀ k, k < 4 → a (b + 118 + (4 * c + k)) = nI (D 4 (4 * c + k))) ∧ a (b + 142 + c) = nI (D 5 c) ∧ a (b + 148 + c) = lotI (D 6 c)) ∧
  (∀ s, s < D 0 2 → a (b + 155 + s) = nI (D 7 s) ∧ a (b + 163 + s) = nI (D 8 s) ∧ a (b + 171 + s) = nI (D 9 s) ∧ a (b + 179 + s) = nI (D 10 s)) ∧
  (∀ l, l < 2 → a (b + 187 + l) = nI (D 11 l) ∧ ∀ i, i < D 11 l → a (b + 189 + (6 * l + i)) = nI (D 12 (6 * l + i)))
def NM (a : Nat → Int32) (b : Nat) (D : DD) : Prop :=
  a (b + 206) = nI (D 14 0) ∧ (∀ k, k < 5 → a (b + 201 + k) = nI (D 13 k)) ∧ ∀ i, i < D 14 0 → a (b + 207 + i) = nI (D 15 i) ∧ a (b + 227 + i) = nI (D 16 i)
theorem HC.fr {μ μ' : Mu} {h : Nat} {D : DD} (H : HC μ h D) (g : ∀ k, k ≤ 12 → μ' (h + k) = μ (h + k)) : HC μ' h D := by
  have g0 : μ' h = μ h := g 0 (by omega)
  obtain ⟨h1, h2, h3, h4, h5, h6, h7, h8, h9⟩ := H
  refine ⟨h1, by rw [g0]; exact h2, by rw [g0]; exact h3, by rw [g0]; exact h4, ?_, ?_, ?_, ?_, ?_⟩
  · rw [g 1 (by omega)]; exact h5
  · rw [g 2 (by omega)]; exact h6
  · rw [g 3 (by omega), g 4 (by omega), g 5 (by omega), g 6 (by omega)]; exact h7
  · rw [g 7 (by omega), g 8 (by omega), g 9 (by omega), g 10 (by omega)]; exact h8
  · rw [g 11 (by omega), g 12 (by omega)]; exact h9
theorem NC.fr {μ μ' : Mu} {o : Nat} {D : DD} (H : NC μ o D) (g : ∀ k, k ≤ 3 → μ' (o + k) = μ (o + k)) : NC μ' o D := by
  have g0 : μ' o = μ o := g 0 (by omega)
  obtain ⟨h1, h2, h3, h4⟩ := H
  exact ⟨h1, by rw [g0]; exact h2, by rw [g 1 (by omega)]; exact h3, by rw [g 2 (by omega), g 3 (by omega)]; exact h4⟩
theorem upd_up {f : Nat → Int32} {D : DD} {k i j v : Nat} (h : f i = nI (D k i)) : upd f j (nI v) i = nI (up D k j v k i) := by
  by_cases e : i = j
  · subst e; rw [pk_us, up_s]
  · rw [pk_un e, up_i e]; exact h
theorem upd_at {f : Nat → Int32} {j i : Nat} {x y : Int32} (h : i = j → x = y) (h2 : i ≠ j → f i = y) : upd f j x i = y := by
  by_cases e : i = j
  · subst e; rw [pk_us]; exact h rfl
  · rw [pk_un e]; exact h2 e
/-! the calls that build a house: what they answer, what is then -/
abbrev n0 (D : DD) : Nat := D 0 0
def oPlace (D : DD) : Int32 × DD := if D 0 0 = 10 then (-4, D) else (nI (D 0 0), up D 0 0 (D 0 0 + 1))
def oWay (D : DD) (a b n : Int32) : Int32 × DD := if inN a (D 0 0) ∧ inN b (D 0 0) ∧ a ≠ b ∧ inN n 10 then (nI (D 1 (10 * ix a + ix b)), up (up D 1 (10 * ix a + ix b) (ix n)) 1 (10 * ix b + ix a) (ix n)) else (-2, D)
def oSees (D : DD) (a b : Int32) : Int32 × DD := if inN a (D 0 0) ∧ inN b (D 0 0) ∧ a ≠ b then (if (D 2 (ix a)).testBit (ix b) = true then (-3, D) else (nI 1, up D 2 (ix a) (D 2 (ix a) ||| 2 ^ ix b))) else (-2, D)
def oChild (D : DD) (r q0 q1 q2 q3 : Int32) : Int32 × DD := if inN r 2 ∧ inN q0 10 ∧ inN q1 10 ∧ inN q2 10 ∧ inN q3 10 then (if D 0 1 = 6 then (-4, D) else (nI (D 0 1), up (up (up (up (up (up (up (up D 3 (D 0 1) (ix r)) 4 (4 * D 0 1) (ix q0)) 4 (4 * D 0 1 + 1) (ix q1)) 4 (4 * D 0 1 + 2) (ix q2)) 4 (4 * D 0 1 + 3) (ix q3)) 5 (D 0 1) 0) 6 (D 0 1) 0) 0 1 (D 0 1 + 1))) else (-2, D)
def oBar (D : DD) (c p : Int32) : Int32 × DD := if inN c (D 0 1) ∧ inN p (D 0 0) then (if (D 5 (ix c)).testBit (ix p) = true then (-3, D) else (nI 1, up D 5 (ix c) (D 5 (ix c) ||| 2 ^ ix p))) else (-2, D)
def oJoin (D : DD) (c l : Int32) : Int32 × DD := if inN c (D 0 1) ∧ inN (l + 1) 3 then (lotI (D 6 (ix c)), up D 6 (ix c) (ix (l + 1))) else (-2, D)
def oSlip (D : DD) (p k : Int32) : Int32 × DD := if inN p (D 0 0) ∧ inN k 4 then (if D 0 2 = 8 then (-4, D) else (nI (D 0 2), up (up (up (up (up D 7 (D 0 2) (ix p)) 8 (D 0 2) (ix k)) 9 (D 0 2) 0) 10 (D 0 2) 0) 0 2 (D 0 2 + 1))) else (-2, D)
def oSpare (D : DD) (s : Int32) : Int32 × DD := if inN s (D 0 2) then (if D 9 (ix s) = 1 then (-3, D) else (nI 1, up D 9 (ix s) 1)) else (-2, D)
def oMeans (D : DD) (s p : Int32) : Int32 × DD := if inN s (D 0 2) ∧ inN p (D 0 0) then (if (D 10 (ix s)).testBit (ix p) = true then (-3, D) else (nI 1, up D 10 (ix s) (D 10 (ix s) ||| 2 ^ ix p))) else (-2, D)
/-- whether a slip is among the first n of a row -/
def inRow (D : DD) (l s : Nat) : Nat → Bool
  | 0 => false
  | n + 1 => inRow D l s n || decide (D 12 (6 * l + n) = s)
def oRow (D : DD) (l s : Int32) : Int32 × DD := if inN l 2 ∧ inN s (D 0 2) then (if inRow D (ix l) (ix s) (D 11 (ix l)) = true then (-3, D) else if D 11 (ix l) = 6 then (-4, D) else (nI (D 11 (ix l) + 1), up (up D 12 (6 * ix l + D 11 (ix l)) (ix s)) 11 (ix l) (D 11 (ix l) + 1))) else (-2, D)
def oUnrow (D : DD) (l : Int32) : Int32 × DD := if inN l 2 then (nI (D 11 (ix l)), up D 11 (ix l) 0) else (-2, D)
