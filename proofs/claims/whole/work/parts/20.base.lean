/-! BASE: numbers as nI and lN, frames, rows of ints -/
theorem nI_sub {a b : Nat} (h : b ≤ a) : nI a - nI b = nI (a - b) := pk_sub h
theorem nI_mul (a b : Nat) : nI a * nI b = nI (a * b) := pk_mul a b
theorem nI_m1 {a : Nat} (h : 0 < a) : nI a + (-1) = nI (a - 1) := by
  obtain ⟨b, rfl⟩ : ∃ b, a = b + 1 := ⟨a - 1, by omega⟩
  exact pk_m1 b
theorem ix_nI {n : Nat} (h : n < 2147483648) : ix (nI n) = n := nI_clamp h
theorem ix_n {n : Nat} (h : n < 2147483648) : (nI n).toNatClampNeg = n := nI_clamp h
theorem nI_lt0 {n : Nat} (h : n < 2147483648) : (nI n < 0) = False := eq_false (nI_pos h)
theorem nI_le0 {n : Nat} (h : n < 2147483648) : (nI n ≤ 0) = (n = 0) := by
  refine propext ⟨fun h1 => ?_, fun h1 => by subst h1; decide⟩
  rcases Nat.eq_zero_or_pos n with h2 | h2
  · exact h2
  · exact absurd h1 (nI_nle h2 h)
theorem nI_ltE {a b : Nat} (ha : a < 2147483648) (hb : b < 2147483648) : (nI a < nI b) = (a < b) := propext (nI_ltI ha hb)
theorem nI_leE {a b : Nat} (ha : a < 2147483648) (hb : b < 2147483648) : (nI a ≤ nI b) = (a ≤ b) := propext (nI_leI ha hb)
theorem nI_eqE {a b : Nat} (ha : a < 2147483648) (hb : b < 2147483648) : (nI a = nI b) = (a = b) := propext (nI_eq ha hb)
theorem nI_eq0 {a : Nat} (ha : a < 2147483648) : (nI a = 0) = (a = 0) := by
  rw [show (0 : Int32) = nI 0 from rfl]; exact nI_eqE ha (by omega)
theorem nI_inj {a b : Nat} (ha : a < 2147483648) (hb : b < 2147483648) (h : nI a = nI b) : a = b := (nI_eq ha hb).mp h
theorem vin {n N : Nat} (h : n < N) (hN : N < 2147483648) : vp_in (nI n) N := vp_in_nI h hN
theorem z01 {v : Int32} (h : v = nI 0 ∨ v = nI 1) : narrow .boolean (.int v) = .int v := by rcases h with rfl | rfl <;> rfl
theorem lN_toBV {n : Nat} : (lN n).toBitVec = BitVec.ofNat 64 n := rfl
theorem lN_and30 {n : Nat} (h : n < 2 ^ 63) : lN n &&& lN 1073741823 = lN (n % 1073741824) := by
  apply Int64.toBitVec_inj.mp
  rw [Int64.toBitVec_and, lN_toBV, lN_toBV, lN_toBV]
  apply BitVec.eq_of_toNat_eq
  rw [BitVec.toNat_and, BitVec.toNat_ofNat, BitVec.toNat_ofNat, BitVec.toNat_ofNat]
  rw [Nat.mod_eq_of_lt (show n < 2 ^ 64 by omega), Nat.mod_eq_of_lt (show 1073741823 < 2 ^ 64 by omega), Nat.mod_eq_of_lt (show n % 1073741824 < 2 ^ 64 by omega)]
  exact Nat.and_two_pow_sub_one_eq_mod n 30
theorem lN_shr30 {n : Nat} (h : n < 2 ^ 63) : lN n >>> ((nI 30).toInt64 &&& 63) = lN (n / 1073741824) := by
  rw [show (nI 30).toInt64 &&& 63 = (30 : Int64) from by decide]
  apply Int64.toBitVec_inj.mp
  rw [Int64.toBitVec_shiftRight, lN_toBV, lN_toBV]
  rw [show (BitVec.smod (30 : Int64).toBitVec 64) = 30#64 from by decide]
  apply BitVec.eq_of_toInt_eq
  rw [BitVec.sshiftRight_eq', BitVec.toInt_sshiftRight]
  rw [show (30#64).toNat = 30 from rfl]
  have h1 : (BitVec.ofNat 64 n).toInt = (n : Int) := by
    rw [BitVec.toInt_eq_toNat_of_lt]
    · rw [BitVec.toNat_ofNat, Nat.mod_eq_of_lt (by omega)]
    · rw [BitVec.toNat_ofNat, Nat.mod_eq_of_lt (by omega)]; omega
  have h2 : (BitVec.ofNat 64 (n / 1073741824)).toInt = ((n / 1073741824 : Nat) : Int) := by
    rw [BitVec.toInt_eq_toNat_of_lt]
    · rw [BitVec.toNat_ofNat, Nat.mod_eq_of_lt (by omega)]
    · rw [BitVec.toNat_ofNat, Nat.mod_eq_of_lt (by omega)]; omega
  rw [h1, h2, Int.shiftRight_eq_div_pow]
  rfl
theorem lg_cmp_le0 {n : Nat} (h : n < 2 ^ 63) : (lg_cmp (lN n) (lN 0) ≤ 0) = (n = 0) := by
  unfold lg_cmp
  have h0 : (lN 0).toInt = 0 := rfl
  have h1 : (lN n).toInt = (n : Int) := pk_lT h
  simp only [gt_iff_lt, Int64.lt_iff_toInt_lt, ← Int64.toInt_inj, h0, h1]
  by_cases e : n = 0
  · subst e; simp
  · rw [if_pos (by omega)]
    simp only [e, eq_iff_iff, iff_false]
    decide
/-- what isn't named stays -/
def Fr (S : List Nat) (μ μ' : Mu) : Prop := ∀ a, a ∉ S → μ' a = μ a
theorem Fr.rf {S : List Nat} {μ : Mu} : Fr S μ μ := fun _ _ => rfl
theorem Fr.uR {S : List Nat} {μ : Mu} {o : Nat} {r : Nat → Int32} (h : o ∈ S) : Fr S μ (uR μ o r) := fun a ha => uR_n (fun e => ha (e ▸ h))
theorem Fr.tr {S : List Nat} {μ μ1 μ2 : Mu} (h1 : Fr S μ μ1) (h2 : Fr S μ1 μ2) : Fr S μ μ2 := fun a ha => (h2 a ha).trans (h1 a ha)
theorem Fr.mo {S S' : List Nat} {μ μ1 : Mu} (h : Fr S μ μ1) (hs : ∀ a ∈ S, a ∈ S') : Fr S' μ μ1 := fun a ha => h a fun e => ha (hs a e)
theorem uR_uR {μ : Mu} {o : Nat} {r r' : Nat → Int32} : uR (uR μ o r) o r' = uR μ o r' := by
  funext a; unfold uR; split <;> rfl
theorem upd_upd {f : Nat → Int32} {k : Nat} {x y : Int32} : upd (upd f k x) k y = upd f k y := by
  funext a; by_cases h : a = k
  · subst h; rw [pk_us, pk_us]
  · rw [pk_un h, pk_un h, pk_un h]
theorem uR_id {μ : Mu} {o : Nat} {r : Nat → Int32} (h : r = μ o) : uR μ o r = μ := by
  funext a; unfold uR; split
  · rename_i e; rw [e, h]
  · rfl
