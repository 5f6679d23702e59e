/-! DIGITS: to the base 2 ^ 30 -/
def dg (v k : Nat) : Nat := v / 1073741824 ^ k % 1073741824
theorem dg_lt {v k : Nat} : dg v k < 1073741824 := Nat.mod_lt _ (by decide)
theorem DBp (k : Nat) : 0 < 1073741824 ^ k := Nat.pow_pos (by decide)
theorem dg_zero {v k : Nat} (h : v < 1073741824 ^ k) : dg v k = 0 := by unfold dg; rw [Nat.div_eq_of_lt h]
theorem DB_mono {a b : Nat} (h : a ≤ b) : 1073741824 ^ a ≤ 1073741824 ^ b := Nat.pow_le_pow_right (by decide) h
theorem dg_zero' {v k j : Nat} (h : v < 1073741824 ^ k) (hj : k ≤ j) : dg v j = 0 := dg_zero (Nat.lt_of_lt_of_le h (DB_mono hj))
theorem dg_0v {k : Nat} : dg 0 k = 0 := by simp [dg]
theorem dg_small {v : Nat} (h : v < 1073741824) : dg v 0 = v := by simp [dg, Nat.mod_eq_of_lt h]
theorem dg_div {v i j : Nat} : dg (v / 1073741824 ^ i) j = dg v (i + j) := by
  unfold dg; rw [Nat.div_div_eq_div_mul, ← Nat.pow_add]
theorem mod_succ (v k : Nat) : v % 1073741824 ^ (k + 1) = v % 1073741824 ^ k + 1073741824 ^ k * dg v k := by
  unfold dg; exact Nat.mod_pow_succ
theorem div_succ (v k : Nat) : v / 1073741824 ^ k = v / 1073741824 ^ (k + 1) * 1073741824 + dg v k := by
  unfold dg
  rw [Nat.pow_succ, ← Nat.div_div_eq_div_mul]
  have := Nat.div_add_mod (v / 1073741824 ^ k) 1073741824
  rw [Nat.mul_comm] at this
  exact this.symm
theorem dg_ext {n : Nat} : ∀ {v w : Nat}, v < 1073741824 ^ n → w < 1073741824 ^ n → (∀ k, k < n → dg v k = dg w k) → v = w := by
  intro v w hv hw h
  have key : ∀ j, j ≤ n → v / 1073741824 ^ (n - j) = w / 1073741824 ^ (n - j) := by
    intro j
    induction j with
    | zero => intro _; rw [Nat.sub_zero, Nat.div_eq_of_lt hv, Nat.div_eq_of_lt hw]
    | succ j ih =>
      intro hj
      have h1 := ih (by omega)
      have e : n - j = (n - (j + 1)) + 1 := by omega
      rw [e] at h1
      rw [div_succ v (n - (j + 1)), div_succ w (n - (j + 1)), h1, h (n - (j + 1)) (by omega)]
  have := key n (Nat.le_refl n)
  simpa using this
/-- the carry ahead of place k, adding y m times to x -/
def cy (x y m k : Nat) : Nat := (x % 1073741824 ^ k + y % 1073741824 ^ k * m) / 1073741824 ^ k
theorem cy_0 {x y m : Nat} : cy x y m 0 = 0 := by simp [cy, Nat.mod_one]
theorem cy_sum (x y m k : Nat) : dg x k + dg y k * m + cy x y m k = (x % 1073741824 ^ (k + 1) + y % 1073741824 ^ (k + 1) * m) / 1073741824 ^ k := by
  unfold cy
  rw [mod_succ x k, mod_succ y k]
  rw [show x % 1073741824 ^ k + 1073741824 ^ k * dg x k + (y % 1073741824 ^ k + 1073741824 ^ k * dg y k) * m = (x % 1073741824 ^ k + y % 1073741824 ^ k * m) + 1073741824 ^ k * (dg x k + dg y k * m) by
    rw [Nat.add_mul, Nat.mul_add, Nat.mul_assoc]; omega]
  rw [Nat.add_mul_div_left _ _ (DBp k)]
  omega
theorem cy_next (x y m k : Nat) : (dg x k + dg y k * m + cy x y m k) / 1073741824 = cy x y m (k + 1) := by
  rw [cy_sum]; unfold cy; rw [Nat.div_div_eq_div_mul, ← Nat.pow_succ]
theorem cy_dig (x y m k : Nat) : (dg x k + dg y k * m + cy x y m k) % 1073741824 = dg (x + y * m) k := by
  rw [cy_sum]
  unfold dg
  have hx := Nat.div_add_mod x (1073741824 ^ (k + 1))
  have hy := Nat.div_add_mod y (1073741824 ^ (k + 1))
  have e : x + y * m = (x % 1073741824 ^ (k + 1) + y % 1073741824 ^ (k + 1) * m) + 1073741824 ^ k * (1073741824 * (x / 1073741824 ^ (k + 1) + y / 1073741824 ^ (k + 1) * m)) := by
    generalize x / 1073741824 ^ (k + 1) = a at *
    generalize y / 1073741824 ^ (k + 1) = b at *
    generalize x % 1073741824 ^ (k + 1) = c at *
    generalize y % 1073741824 ^ (k + 1) = d at *
    rw [← hx, ← hy, Nat.pow_succ]
    generalize 1073741824 ^ k = q
    rw [Nat.add_mul, Nat.mul_add 1073741824, Nat.mul_add q]
    have e1 : q * 1073741824 * b * m = q * (1073741824 * (b * m)) := by simp only [Nat.mul_assoc]
    have e2 : q * 1073741824 * a = q * (1073741824 * a) := by simp only [Nat.mul_assoc]
    omega
  rw [e, Nat.add_mul_div_left _ _ (DBp k), Nat.add_mul_mod_self_left]
theorem cy_end {x y m k : Nat} (hx : x < 1073741824 ^ k) (hy : y < 1073741824 ^ k) (h : cy x y m k = 0) : x + y * m < 1073741824 ^ k := by
  unfold cy at h
  rw [Nat.mod_eq_of_lt hx, Nat.mod_eq_of_lt hy] at h
  rcases Nat.lt_or_ge (x + y * m) (1073741824 ^ k) with h1 | h1
  · exact h1
  · have := Nat.div_pos h1 (DBp k); omega
theorem cy_le {x y m k : Nat} : cy x y m k ≤ m := by
  unfold cy
  have h1 := Nat.mod_lt x (DBp k)
  have h2 := Nat.mod_lt y (DBp k)
  have : x % 1073741824 ^ k + y % 1073741824 ^ k * m < 1073741824 ^ k * (m + 1) := by
    rw [Nat.mul_add, Nat.mul_one]
    have := Nat.mul_le_mul_right m (Nat.le_of_lt h2)
    omega
  exact Nat.lt_succ_iff.mp (Nat.div_lt_of_lt_mul this)
theorem cy_full {x y m k : Nat} (h : x + y * m < 1073741824 ^ k) : cy x y m k = 0 := by
  unfold cy
  refine Nat.div_eq_of_lt (Nat.lt_of_le_of_lt ?_ h)
  exact Nat.add_le_add (Nat.mod_le _ _) (Nat.mul_le_mul_right _ (Nat.mod_le _ _))
/-- the borrow ahead of place k, taking w from v -/
def bw (v w k : Nat) : Nat := if v % 1073741824 ^ k < w % 1073741824 ^ k then 1 else 0
theorem bw_0 {v w : Nat} : bw v w 0 = 0 := by simp [bw, Nat.mod_one]
theorem bw_le {v w k : Nat} : bw v w k ≤ 1 := by unfold bw; split <;> omega
theorem bw_next (v w k : Nat) : bw v w (k + 1) = if dg v k < dg w k + bw v w k then 1 else 0 := by
  unfold bw
  rw [mod_succ v k, mod_succ w k]
  have h1 := Nat.mod_lt v (DBp k)
  have h2 := Nat.mod_lt w (DBp k)
  generalize v % 1073741824 ^ k = a at *
  generalize w % 1073741824 ^ k = b at *
  generalize 1073741824 ^ k = q at *
  rcases Nat.lt_trichotomy (dg v k) (dg w k) with h | h | h
  · have : q * (dg v k + 1) ≤ q * dg w k := Nat.mul_le_mul_left q h
    rw [Nat.mul_add] at this
    rw [if_pos (by omega), if_pos (by split <;> omega)]
  · rw [h]
    by_cases g : a < b
    · rw [if_pos (by omega), if_pos g, if_pos (by omega)]
    · rw [if_neg (by omega), if_neg g, if_neg (by omega)]
  · have : q * (dg w k + 1) ≤ q * dg v k := Nat.mul_le_mul_left q h
    rw [Nat.mul_add] at this
    rw [if_neg (by omega), if_neg (by split <;> omega)]
theorem bw_dig {v w k : Nat} (hle : w ≤ v) : (dg v k + 1073741824 - dg w k - bw v w k) % 1073741824 = dg (v - w) k := by
  have hv := Nat.div_add_mod v (1073741824 ^ k)
  have hw := Nat.div_add_mod w (1073741824 ^ k)
  have h1 := Nat.mod_lt v (DBp k)
  have h2 := Nat.mod_lt w (DBp k)
  have hd : (v - w) / 1073741824 ^ k = v / 1073741824 ^ k - w / 1073741824 ^ k - bw v w k := by
    unfold bw
    generalize v / 1073741824 ^ k = a at *
    generalize w / 1073741824 ^ k = b at *
    generalize v % 1073741824 ^ k = c at *
    generalize w % 1073741824 ^ k = d at *
    have hp := DBp k
    generalize 1073741824 ^ k = q at *
    have hba : b ≤ a := by
      rcases Nat.lt_or_ge a b with g | g
      · have : q * (a + 1) ≤ q * b := Nat.mul_le_mul_left q g
        rw [Nat.mul_add] at this
        omega
      · exact g
    obtain ⟨e, rfl⟩ := Nat.exists_eq_add_of_le hba
    rw [Nat.mul_add] at hv
    split
    · rename_i g
      have he : 0 < e := by
        rcases Nat.eq_zero_or_pos e with g1 | g1
        · subst g1; simp at hv; omega
        · exact g1
      obtain ⟨f, rfl⟩ := Nat.exists_eq_add_of_lt he
      rw [show v - w = (q + c - d) + q * (0 + f) by rw [Nat.mul_add, Nat.mul_one] at hv; omega, Nat.add_mul_div_left _ _ hp, Nat.div_eq_of_lt (by omega)]
      omega
    · rw [show v - w = (c - d) + q * e by omega, Nat.add_mul_div_left _ _ hp, Nat.div_eq_of_lt (by omega)]
      omega
  have hba : w / 1073741824 ^ k + bw v w k ≤ v / 1073741824 ^ k := by
    unfold bw
    generalize v / 1073741824 ^ k = a at *
    generalize w / 1073741824 ^ k = b at *
    generalize v % 1073741824 ^ k = c at *
    generalize w % 1073741824 ^ k = d at *
    generalize 1073741824 ^ k = q at *
    rcases Nat.lt_or_ge a b with g | g
    · have : q * (a + 1) ≤ q * b := Nat.mul_le_mul_left q g
      rw [Nat.mul_add] at this
      omega
    · split
      · rename_i g2
        rcases Nat.lt_or_ge b a with g1 | g1
        · omega
        · have : a = b := by omega
          subst this; omega
      · omega
  unfold dg
  rw [hd]
  generalize v / 1073741824 ^ k = a at *
  generalize w / 1073741824 ^ k = b at *
  have := bw_le (v := v) (w := w) (k := k)
  generalize bw v w k = c at *
  have ha := Nat.div_add_mod a 1073741824
  have hb := Nat.div_add_mod b 1073741824
  have := Nat.mod_lt a (show 0 < 1073741824 by decide)
  have := Nat.mod_lt b (show 0 < 1073741824 by decide)
  rcases Nat.lt_or_ge (a % 1073741824) (b % 1073741824 + c) with g | g
  · rw [show a - b - c = (a % 1073741824 + 1073741824 - b % 1073741824 - c) + 1073741824 * (a / 1073741824 - b / 1073741824 - 1) by omega, Nat.add_mul_mod_self_left]
  · rw [show a - b - c = (a % 1073741824 - b % 1073741824 - c) + 1073741824 * (a / 1073741824 - b / 1073741824) by omega, Nat.add_mul_mod_self_left]
    rw [show a % 1073741824 + 1073741824 - b % 1073741824 - c = (a % 1073741824 - b % 1073741824 - c) + 1073741824 by omega, Nat.add_mod_right]
/-- comparing from the highest place down -/
theorem cmp_lt {v w k : Nat} (h : v / 1073741824 ^ (k + 1) = w / 1073741824 ^ (k + 1)) (hd : dg v k < dg w k) : v < w := by
  have h1 := div_succ v k
  have h2 := div_succ w k
  rw [h] at h1
  have : v / 1073741824 ^ k < w / 1073741824 ^ k := by omega
  exact Nat.lt_of_div_lt_div this
theorem cmp_eq {v w k : Nat} (h : v / 1073741824 ^ (k + 1) = w / 1073741824 ^ (k + 1)) (hd : dg v k = dg w k) : v / 1073741824 ^ k = w / 1073741824 ^ k := by
  rw [div_succ v k, div_succ w k, h, hd]
/-- dividing from the highest place down -/
theorem dv_rem {v p k : Nat} : ((v / 1073741824 ^ (k + 1) % p) * 1073741824 + dg v k) % p = v / 1073741824 ^ k % p := by
  rw [div_succ v k, Nat.add_mod, Nat.mul_mod, Nat.mod_mod, ← Nat.mul_mod, ← Nat.add_mod]
theorem dv_dig {v p k : Nat} (hp : 0 < p) : ((v / 1073741824 ^ (k + 1) % p) * 1073741824 + dg v k) / p = dg (v / p) k := by
  show _ = v / p / 1073741824 ^ k % 1073741824
  rw [Nat.div_div_eq_div_mul v p, Nat.mul_comm p, ← Nat.div_div_eq_div_mul v]
  have h := div_succ v k
  rw [h]
  have hl : dg v k < 1073741824 := dg_lt
  generalize dg v k = d at *
  generalize v / 1073741824 ^ (k + 1) = a at *
  have ha := Nat.div_add_mod a p
  have hr := Nat.mod_lt a hp
  generalize a / p = q at *
  generalize a % p = r at *
  have e : a * 1073741824 + d = (r * 1073741824 + d) + p * (q * 1073741824) := by
    rw [← ha, Nat.add_mul, Nat.mul_assoc]; omega
  rw [e, Nat.add_mul_div_left _ _ hp]
  have hs : (r * 1073741824 + d) / p < 1073741824 := by
    rw [Nat.div_lt_iff_lt_mul hp]
    have : (r + 1) * 1073741824 ≤ p * 1073741824 := Nat.mul_le_mul_right 1073741824 hr
    rw [Nat.add_mul] at this
    rw [Nat.mul_comm 1073741824 p]
    omega
  rw [Nat.add_mul_mod_self_right, Nat.mod_eq_of_lt hs]
/-- how many places of a row are used, of the first k -/
def lnF (f : Nat → Int32) : Nat → Nat
  | 0 => 0
  | k + 1 => if f k = 0 then lnF f k else k + 1
theorem lnF_le (f : Nat → Int32) : ∀ k, lnF f k ≤ k
  | 0 => Nat.le_refl 0
  | k + 1 => by unfold lnF; split; exact Nat.le_succ_of_le (lnF_le f k); exact Nat.le_refl _
def ln (v : Nat) : Nat → Nat
  | 0 => 0
  | k + 1 => if dg v k = 0 then ln v k else k + 1
theorem ln_le (v : Nat) : ∀ k, ln v k ≤ k
  | 0 => Nat.le_refl 0
  | k + 1 => by unfold ln; split; exact Nat.le_succ_of_le (ln_le v k); exact Nat.le_refl _
theorem ln_top {v : Nat} {k : Nat} : ∀ n, k ≤ n → v < 1073741824 ^ k → ln v n = ln v k
  | 0, h, _ => by have : k = 0 := by omega
                  subst this; rfl
  | n + 1, h, hv => by
    rcases Nat.lt_or_ge n k with g | g
    · have : k = n + 1 := by omega
      subst this; rfl
    · rw [show ln v (n + 1) = if dg v n = 0 then ln v n else n + 1 from rfl, if_pos (dg_zero' hv g), ln_top n g hv]
theorem ln_lt {v : Nat} : ∀ n, v < 1073741824 ^ n → v < 1073741824 ^ ln v n
  | 0, h => h
  | n + 1, h => by
    unfold ln
    split
    · rename_i g
      refine ln_lt n ?_
      have h1 := div_succ v n
      rw [Nat.div_eq_of_lt h, g] at h1
      exact (Nat.div_eq_zero_iff_lt (DBp n)).mp (by omega)
    · exact h
theorem ln_dg {v n : Nat} (h : 0 < ln v n) : dg v (ln v n - 1) ≠ 0 := by
  induction n with
  | zero => exact absurd h (Nat.lt_irrefl 0)
  | succ n ih =>
    unfold ln at h ⊢
    split
    · rename_i g
      rw [if_pos g] at h
      exact ih h
    · rename_i g
      exact g
theorem ln_pos {v n : Nat} (h : v < 1073741824 ^ n) : 0 < ln v n ↔ 0 < v := by
  refine ⟨fun g => ?_, fun g => ?_⟩
  · rcases Nat.eq_zero_or_pos v with e | e
    · subst e; exact absurd dg_0v (ln_dg g)
    · exact e
  · rcases Nat.eq_zero_or_pos (ln v n) with e | e
    · have := ln_lt n h
      rw [e] at this
      have : v < 1 := this
      omega
    · exact e
theorem lnF_ln {f : Nat → Int32} {v : Nat} : ∀ n, (∀ i, i < n → f i = nI (dg v i)) → lnF f n = ln v n
  | 0, _ => rfl
  | n + 1, h => by
    unfold lnF ln
    rw [h n (Nat.lt_succ_self n), lnF_ln n fun i hi => h i (by omega)]
    have := dg_lt (v := v) (k := n)
    simp only [nI_eq0 (show dg v n < 2147483648 by have : 1073741824 = 1073741824 := rfl; omega)]
