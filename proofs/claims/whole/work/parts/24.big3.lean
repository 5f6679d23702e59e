/-! BIG, the rest -/
theorem sub3_and {d e c : Nat} (hd : d < 1073741824) (he : e < 1073741824) (hc : c ≤ 1) : (nI d - nI e - nI c) &&& nI 1073741823 = nI ((d + 1073741824 - e - c) % 1073741824) := by
  rw [pk_and _ 30 rfl]
  congr 1
  rw [Int32.toBitVec_sub, Int32.toBitVec_sub]
  have hb : ∀ n : Nat, (nI n).toBitVec = BitVec.ofNat 32 n := fun n => rfl
  rw [hb, hb, hb, BitVec.toNat_sub, BitVec.toNat_sub, BitVec.toNat_ofNat, BitVec.toNat_ofNat, BitVec.toNat_ofNat]
  omega
theorem sub3_nn {d e c : Nat} (hd : d < 1073741824) (he : e < 1073741824) (hc : c ≤ 1) : (0 ≤ nI d - nI e - nI c) = (e + c ≤ d) := by
  have h : (nI d - nI e - nI c).toInt = (d : Int) - e - c := by
    rw [Int32.toInt_sub, Int32.toInt_sub, nI_toInt (by omega), nI_toInt (by omega), nI_toInt (by omega)]
    rw [show ((d : Int) - e).bmod (2 ^ 32) = d - e from Int.bmod_eq_of_le (by omega) (by omega), Int.bmod_eq_of_le (by omega) (by omega)]
  rw [Int32.le_iff_toInt_le, h]
  refine propext ⟨fun g => ?_, fun g => ?_⟩
  · have : (0 : Int32).toInt = 0 := rfl
    omega
  · have : (0 : Int32).toInt = 0 := rfl
    omega
theorem lN_shl_or {r d : Nat} (hr : r < 2147483648) (hd : d < 1073741824) : (lN r <<< ((nI 30).toInt64 &&& 63)) ||| lN d = lN (r * 1073741824 + d) := by
  rw [show (nI 30).toInt64 &&& 63 = (30 : Int64) from by decide]
  apply Int64.toBitVec_inj.mp
  rw [Int64.toBitVec_or, Int64.toBitVec_shiftLeft, lN_toBV, lN_toBV, lN_toBV]
  rw [show (BitVec.smod (30 : Int64).toBitVec 64) = 30#64 from by decide]
  apply BitVec.eq_of_toNat_eq
  rw [BitVec.toNat_or, BitVec.shiftLeft_eq', BitVec.toNat_shiftLeft, BitVec.toNat_ofNat, BitVec.toNat_ofNat, BitVec.toNat_ofNat]
  rw [show 30 % 2 ^ 64 = 30 from rfl, BitVec.toNat_ofNat, Nat.shiftLeft_eq]
  rw [Nat.mod_eq_of_lt (show r < 2 ^ 64 by omega), Nat.mod_eq_of_lt (show d < 2 ^ 64 by omega), Nat.mod_eq_of_lt (show r * 2 ^ 30 < 2 ^ 64 by omega), Nat.mod_eq_of_lt (show r * 1073741824 + d < 2 ^ 64 by omega)]
  rw [Nat.mul_comm r]
  exact (Nat.two_pow_add_eq_or_of_lt (i := 30) hd r).symm
theorem cy_high {x y m k j : Nat} (hy : y < 1073741824 ^ k) (h : cy x y m k = 0) (hj : k ≤ j) : (x + y * m) / 1073741824 ^ j = x / 1073741824 ^ j := by
  have e : (x + y * m) / 1073741824 ^ k = x / 1073741824 ^ k := by
    have hx := Nat.div_add_mod x (1073741824 ^ k)
    unfold cy at h
    rw [Nat.mod_eq_of_lt hy] at h
    have hlt : x % 1073741824 ^ k + y * m < 1073741824 ^ k := (Nat.div_eq_zero_iff_lt (DBp k)).mp h
    conv => lhs; rw [← hx]
    rw [Nat.add_assoc, Nat.add_comm, Nat.add_mul_div_left _ _ (DBp k), Nat.div_eq_of_lt hlt, Nat.zero_add]
  obtain ⟨i, rfl⟩ := Nat.exists_eq_add_of_le hj
  rw [Nat.pow_add, ← Nat.div_div_eq_div_mul, ← Nat.div_div_eq_div_mul, e]
/-- the distance of two numbers -/
def adf (x y : Nat) : Nat := (x - y) + (y - x)
def dgF (f : Nat → Int32) (h : Int64) : Nat → Int64
  | 0 => h
  | k + 1 => lN 31 * dgF f h k + (f k).toInt64
section BIG3
variable {Z : ZT} {μ : Mu} {o a b : Nat}
def cmpV (x y : Nat) : Int32 := if x < y then -1 else if x = y then nI 0 else nI 1
theorem c_compare {x y : Nat} (h : BigV μ o x) (hy : BigV μ a y) : CtrS Z mX0_compare [rf Z o, rf Z a] μ (rI fun v μ' => v = cmpV x y ∧ μ' = μ) := by
  refine CtrS.intro (by decide +kernel) (Nat.le_of_ble_eq_true rfl) rfl fun X E hB => ?_
  have ho := h.1
  have ha := hy.1
  have l1 := ln_le x 24
  have l2 := ln_le y 24
  have loop : ∀ k, k ≤ 24 → x / 1073741824 ^ k = y / 1073741824 ^ k → JS Z X 14 [(0, rf Z o), (1, rf Z a), (2, .int (nI k + (-1)))] [] μ := by
    intro k
    induction k with
    | zero =>
      intro _ e
      have : x = y := by simpa using e
      subst this
      refine bX0_compare_14 E ho ha (fun _ => bX0_compare_60 E hB ⟨_, rfl, ?_, rfl⟩) (fun c => absurd (by decide) c)
      simp [cmpV]
    | succ k ih =>
      intro hk e
      refine bX0_compare_14 E ho ha (fun c => absurd c (by rw [nI_m1_lt0 (by omega)]; omega)) (fun _ => ?_)
      rw [nI_suc_m1]
      have d1 := h.2.2.1 k (by omega)
      have d2 := hy.2.2.1 k (by omega)
      refine bX0_compare_18 E ho ha (vin (by omega) (by omega)) (vin (by omega) (by omega)) ?_ ?_
      · rw [ix_nI (by omega), d1, d2, nI_eqE dgb dgb]
        exact fun c => bX0_compare_54 E ho ha (ih (by omega) (cmp_eq e c))
      · rw [ix_nI (by omega), d1, d2, nI_eqE dgb dgb]
        intro c
        refine bX0_compare_33 E ho ha (vin (by omega) (by omega)) (vin (by omega) (by omega)) ?_ ?_
        · rw [ix_nI (by omega), d1, d2, nI_leE dgb dgb]
          intro c2
          have := cmp_lt e.symm (show dg y k < dg x k by omega)
          refine bX0_compare_52 E (bX0_compare_53 E hB ⟨_, rfl, ?_, rfl⟩)
          rw [cmpV, if_neg (by omega), if_neg (by omega)]
        · rw [ix_nI (by omega), d1, d2, nI_leE dgb dgb]
          intro c2
          have := cmp_lt e (show dg x k < dg y k by omega)
          refine bX0_compare_48 E (bX0_compare_53 E hB ⟨_, rfl, ?_, rfl⟩)
          rw [cmpV, if_pos this]
  refine bX0_compare_0 E ho ha ?_
  rw [h.2.2.2, hy.2.2.2, imax (by omega) (by omega), nI_pre]
  refine loop _ (by omega) ?_
  rw [Nat.div_eq_of_lt (Nat.lt_of_lt_of_le (ln_lt 24 h.2.1) (DB_mono (by omega))), Nat.div_eq_of_lt (Nat.lt_of_lt_of_le (ln_lt 24 hy.2.1) (DB_mono (by omega)))]
theorem c_setDifference {z x y : Nat} (h : BigV μ o z) (hx : BigV μ a x) (hy : BigV μ b y) : CtrS Z mX0_setDifference [rf Z o, rf Z a, rf Z b] μ (rV fun μ' => BigV μ' o (adf x y) ∧ Fr [o, o + 1] μ μ') := by
  refine CtrS.intro (by decide +kernel) (Nat.le_of_ble_eq_true rfl) rfl fun X E hB => ?_
  have ho := h.1
  -- the greater one at p, the lesser one at q
  have body : ∀ p q v w, BigV μ p v → BigV μ q w → w ≤ v → v - w = adf x y → JS Z X 34 [(0, rf Z o), (4, rf Z p)] [rf Z q] μ := by
    intro p q v w hp hq hle he
    have l1 := ln_le z 24
    have l2 := ln_le v 24
    have row : ∀ r w i μ1, BigV μ r w → Fr [o + 1] μ μ1 → (∀ j, i ≤ j → μ1 (o + 1) j = μ (o + 1) j) → i < 24 → μ1 (r + 1) i = nI (dg w i) := by
      intro r w i μ1 hr hF ht hi
      by_cases e : r = o
      · subst e; rw [ht i (Nat.le_refl _)]; exact hr.2.2.1 i hi
      · rw [hF _ (by simp; omega)]; exact hr.2.2.1 i hi
    have hz1 : z < 1073741824 ^ max (ln z 24) (ln v 24) := Nat.lt_of_lt_of_le (ln_lt 24 h.2.1) (DB_mono (by omega))
    have hz2 : v < 1073741824 ^ max (ln z 24) (ln v 24) := Nat.lt_of_lt_of_le (ln_lt 24 hp.2.1) (DB_mono (by omega))
    have loop : ∀ k i μ1, i + k = max (ln z 24) (ln v 24) → Fr [o + 1] μ μ1 → (∀ j, j < i → μ1 (o + 1) j = nI (dg (v - w) j)) → (∀ j, i ≤ j → μ1 (o + 1) j = μ (o + 1) j) →
        JS Z X 56 [(0, rf Z o), (4, rf Z p), (5, rf Z q), (6, .int (nI (max (ln z 24) (ln v 24)))), (7, .int (nI (bw v w i))), (8, .int (nI i))] [] μ1 := by
      intro k
      induction k with
      | zero =>
        intro i μ1 hi hF h1 h2
        have hi' : i = max (ln z 24) (ln v 24) := by omega
        refine bX0_setDifference_56 E ho hp.1 hq.1 (fun _ => ?_) (fun c => absurd (by rw [nI_leE (by omega) (by omega)]; omega) c)
        refine bX0_setDifference_115 E ho (c_trim ho (t := max (ln z 24) (ln v 24)) (by omega)) fun μ2 e => bX0_setDifference_121 E hB ⟨rfl, ?_⟩
        obtain ⟨b1, b2⟩ := big_trim (v := v - w) ho (Nat.lt_of_le_of_lt (Nat.sub_le _ _) hp.2.1) (fun j hj => by
          rcases Nat.lt_or_ge j i with g | g
          · exact h1 j g
          · rw [h2 j g, h.2.2.1 j hj, dg_zero' hz1 (by omega), dg_zero' (k := max (ln z 24) (ln v 24)) (Nat.lt_of_le_of_lt (Nat.sub_le _ _) hz2) (by omega)]) (by rw [Nat.min_eq_left (by omega)]; exact Nat.lt_of_le_of_lt (Nat.sub_le _ _) hz2) e
        rw [he] at b1
        exact ⟨b1, (hF.mo (by simp)).tr (b2.mo (by simp))⟩
      | succ k ih =>
        intro i μ1 hi hF h1 h2
        have d1 := row p v i μ1 hp hF h2 (by omega)
        have d2 := row q w i μ1 hq hF h2 (by omega)
        have hbl := bw_le (v := v) (w := w) (k := i)
        have hbn := bw_next v w i
        have next : ∀ s0, s0 = nI (bw v w (i + 1)) → JS Z X 95 [(0, rf Z o), (4, rf Z p), (5, rf Z q), (6, .int (nI (max (ln z 24) (ln v 24)))), (8, .int (nI i)), (9, .int (nI (dg v i) - nI (dg w i) - nI (bw v w i)))] [.int s0] μ1 := by
          intro s0 hs
          subst hs
          refine bX0_setDifference_95 E ho hp.1 hq.1 (vin (by omega) (by omega)) (bX0_setDifference_109 E ho hp.1 hq.1 ?_)
          rw [ix_nI (by omega), sub3_and dg_lt dg_lt hbl, bw_dig hle, nI_add]
          refine ih (i + 1) _ (by omega) (hF.tr (Fr.uR (by simp))) (fun j hj => ?_) (fun j hj => ?_)
          · rw [uR_s]
            rcases Nat.lt_or_ge j i with g | g
            · rw [pk_un (by omega)]; exact h1 j g
            · have : j = i := by omega
              subst this; rw [pk_us]
          · rw [uR_s, pk_un (by omega)]; exact h2 j (by omega)
        refine bX0_setDifference_56 E ho hp.1 hq.1 (fun c => absurd c (by rw [nI_leE (by omega) (by omega)]; omega)) (fun _ => ?_)
        refine bX0_setDifference_63 E ho hp.1 hq.1 (vin (by omega) (by omega)) (vin (by omega) (by omega)) ?_ ?_
        · rw [ix_nI (by omega), d1, d2, sub3_nn dg_lt dg_lt hbl]
          intro c
          exact bX0_setDifference_94 E ho hp.1 hq.1 (next _ (by rw [hbn, if_neg (by omega)]))
        · rw [ix_nI (by omega), d1, d2, sub3_nn dg_lt dg_lt hbl]
          intro c
          exact bX0_setDifference_90 E ho hp.1 hq.1 (next _ (by rw [hbn, if_pos (by omega)]))
    refine bX0_setDifference_34 E ho hp.1 hq.1 ?_
    have := loop (max (ln z 24) (ln v 24)) 0 μ (by omega) Fr.rf (fun j hj => absurd hj (Nat.not_lt_zero j)) (fun _ _ => rfl)
    rw [bw_0] at this
    rw [h.2.2.2, hp.2.2.2, imax (by omega) (by omega)]
    exact this
  refine bX0_setDifference_0 E ho hx.1 hy.1 (c_compare hx hy) fun v μ1 hv => ?_
  obtain ⟨rfl, rfl⟩ := hv
  have t0 : JS Z X 12 [(0, rf Z o), (1, rf Z a), (2, rf Z b)] [] μ1 → JS Z X 12 [(0, rf Z o), (1, rf Z a), (2, rf Z b)] [] μ1 := id
  by_cases c : x < y
  · refine bX0_setDifference_5 E ho hx.1 hy.1 (fun g => absurd g (by rw [cmpV, if_pos c]; decide)) (fun _ => ?_)
    refine bX0_setDifference_8 E ho hx.1 hy.1 (bX0_setDifference_13 E ho hx.1 hy.1 (fun g => absurd g (by decide)) fun _ => ?_)
    refine bX0_setDifference_18 E ho hx.1 hy.1 (bX0_setDifference_23 E ho hx.1 hy.1 hy.1 (fun g => absurd g (by decide)) fun _ => ?_)
    exact bX0_setDifference_29 E ho hx.1 hy.1 (body b a y x hy hx (by omega) (by unfold adf; omega))
  · refine bX0_setDifference_5 E ho hx.1 hy.1 (fun _ => ?_) (fun g => absurd (by rw [cmpV, if_neg c]; split <;> decide) g)
    refine bX0_setDifference_12 E ho hx.1 hy.1 (bX0_setDifference_13 E ho hx.1 hy.1 (fun _ => ?_) fun g => absurd rfl g)
    refine bX0_setDifference_22 E ho hx.1 hy.1 (bX0_setDifference_23 E ho hx.1 hy.1 hx.1 (fun _ => ?_) fun g => absurd rfl g)
    exact bX0_setDifference_33 E ho hy.1 hx.1 (body a b x y hx hy (by omega) (by unfold adf; omega))
theorem c_rest {x p : Nat} (h : BigV μ o x) (hp : 0 < p) (hp2 : p < 2147483648) : CtrS Z mX0_rest [rf Z o, .int (nI p)] μ (rI fun v μ' => v = nI (x % p) ∧ μ' = μ) := by
  refine CtrS.intro (by decide +kernel) (Nat.le_of_ble_eq_true rfl) rfl fun X E hB => ?_
  have ho := h.1
  have l1 := ln_le x 24
  have hpl : (nI p).toInt64 = lN p := nI_l hp2
  have hp0 : ¬ lN p = 0 := by
    rw [show (0 : Int64) = lN 0 from rfl, lN_eq (by omega) (by omega)]; omega
  have loop : ∀ k, k ≤ 24 → JS Z X 10 [(0, rf Z o), (1, .int (nI p)), (2, .long (lN (x / 1073741824 ^ k % p))), (4, .int (nI k + (-1)))] [] μ := by
    intro k
    induction k with
    | zero =>
      intro _
      refine bX0_rest_10 E ho (fun _ => bX0_rest_42 E hB ⟨_, rfl, ?_, rfl⟩) (fun c => absurd (by decide) c)
      rw [lN_i]; simp
    | succ k ih =>
      intro hk
      have hr := Nat.mod_lt (x / 1073741824 ^ (k + 1)) hp
      refine bX0_rest_10 E ho (fun c => absurd c (by rw [nI_m1_lt0 (by omega)]; omega)) (fun _ => ?_)
      refine bX0_rest_15 E ho (fun c => absurd c (nI_nle hp (by omega))) (fun _ => ?_)
      rw [nI_suc_m1]
      refine bX0_rest_19 E ho (vin (by omega) (by omega)) (by rw [hpl]; exact hp0) ?_
      rw [ix_nI (by omega), h.2.2.1 k (by omega), nI_l dgb, hpl, lN_shl_or (by omega) dg_lt]
      have hb : x / 1073741824 ^ (k + 1) % p * 1073741824 + dg x k < 2 ^ 63 := by
        have := dg_lt (v := x) (k := k)
        have : x / 1073741824 ^ (k + 1) % p * 1073741824 ≤ 2147483648 * 1073741824 := Nat.mul_le_mul_right _ (by omega)
        omega
      rw [pk_lRem hb hp (by omega), dv_rem]
      exact ih (by omega)
  refine bX0_rest_0 E ho ?_
  have := loop (ln x 24) l1
  rw [Nat.div_eq_of_lt (ln_lt 24 h.2.1), Nat.zero_mod] at this
  rw [h.2.2.2, nI_pre]
  exact this
theorem c_divide {x p : Nat} (h : BigV μ o x) (hp : 0 < p) (hp2 : p < 2147483648) : CtrS Z mX0_divide [rf Z o, .int (nI p)] μ (rV fun μ' => BigV μ' o (x / p) ∧ Fr [o, o + 1] μ μ') := by
  refine CtrS.intro (by decide +kernel) (Nat.le_of_ble_eq_true rfl) rfl fun X E hB => ?_
  have ho := h.1
  have l1 := ln_le x 24
  have hpl : (nI p).toInt64 = lN p := nI_l hp2
  have hp0 : ¬ lN p = 0 := by
    rw [show (0 : Int64) = lN 0 from rfl, lN_eq (by omega) (by omega)]; omega
  have hxl := ln_lt 24 h.2.1
  have loop : ∀ k μ1, k ≤ ln x 24 → Fr [o + 1] μ μ1 → (∀ j, j < k → μ1 (o + 1) j = nI (dg x j)) → (∀ j, k ≤ j → j < 24 → μ1 (o + 1) j = nI (dg (x / p) j)) →
      JS Z X 10 [(0, rf Z o), (1, .int (nI p)), (2, .long (lN (x / 1073741824 ^ k % p))), (4, .int (nI k + (-1)))] [] μ1 := by
    intro k
    induction k with
    | zero =>
      intro μ1 _ hF _ h2
      refine bX0_divide_10 E ho (fun _ => ?_) (fun c => absurd (by decide) c)
      have hu : μ1 o 1 = nI (ln x 24) := by rw [hF _ (by simp)]; exact h.2.2.2
      refine bX0_divide_56 E ho (by rw [hu]; exact c_trim ho (t := ln x 24) (by omega)) fun μ2 e => bX0_divide_64 E hB ⟨rfl, ?_⟩
      obtain ⟨b1, b2⟩ := big_trim (v := x / p) ho (Nat.lt_of_le_of_lt (Nat.div_le_self _ _) h.2.1) (fun j hj => h2 j (Nat.zero_le _) hj) (by rw [Nat.min_eq_left l1]; exact Nat.lt_of_le_of_lt (Nat.div_le_self _ _) hxl) e
      exact ⟨b1, (hF.mo (by simp)).tr (b2.mo (by simp))⟩
    | succ k ih =>
      intro μ1 hk hF h1 h2
      have hr := Nat.mod_lt (x / 1073741824 ^ (k + 1)) hp
      refine bX0_divide_10 E ho (fun c => absurd c (by rw [nI_m1_lt0 (by omega)]; omega)) (fun _ => ?_)
      refine bX0_divide_15 E ho (fun c => absurd c (nI_nle hp (by omega))) (fun _ => ?_)
      rw [nI_suc_m1]
      refine bX0_divide_19 E ho (vin (by omega) (by omega)) (by rw [hpl]; exact hp0) (vin (by omega) (by omega)) ?_
      rw [ix_nI (by omega), h1 k (by omega), nI_l dgb, hpl, lN_shl_or (by omega) dg_lt]
      have hb : x / 1073741824 ^ (k + 1) % p * 1073741824 + dg x k < 2 ^ 63 := by
        have := dg_lt (v := x) (k := k)
        have : x / 1073741824 ^ (k + 1) % p * 1073741824 ≤ 2147483648 * 1073741824 := Nat.mul_le_mul_right _ (by omega)
        omega
      rw [pk_lDiv hb hp (by omega), lN_i, dv_dig hp]
      refine bX0_divide_45 E ho (by rw [hpl]; exact hp0) ?_
      rw [hpl, pk_lRem hb hp (by omega), dv_rem]
      refine ih _ (by omega) (hF.tr (Fr.uR (by simp))) (fun j hj => ?_) (fun j hj hj2 => ?_)
      · rw [uR_s, pk_un (by omega)]; exact h1 j (by omega)
      · rw [uR_s]
        rcases Nat.lt_or_ge k j with g | g
        · rw [pk_un (by omega)]; exact h2 j g hj2
        · have : j = k := by omega
          subst this; rw [pk_us]
  refine bX0_divide_0 E ho ?_
  have := loop (ln x 24) μ (Nat.le_refl _) Fr.rf (fun j hj => h.2.2.1 j (by omega)) (fun j hj hj2 => by
    rw [h.2.2.1 j hj2, dg_zero' hxl hj, dg_zero' (k := ln x 24) (Nat.lt_of_le_of_lt (Nat.div_le_self _ _) hxl) hj])
  rw [Nat.div_eq_of_lt hxl, Nat.zero_mod] at this
  rw [h.2.2.2, nI_pre]
  exact this
theorem c_digestOnto {x : Nat} {s : Int64} (h : BigV μ o x) : CtrS Z mX0_digestOnto [rf Z o, .long s] μ (rJ fun v μ' => v = dgF (fun i => nI (dg x i)) s (ln x 24) ∧ μ' = μ) := by
  refine CtrS.intro (by decide +kernel) (Nat.le_of_ble_eq_true rfl) rfl fun X E hB => ?_
  have ho := h.1
  have l1 := ln_le x 24
  have loop : ∀ k i, i + k = ln x 24 → JS Z X 5 [(0, rf Z o), (3, .long (dgF (fun i => nI (dg x i)) s i)), (5, .int (nI i))] [] μ := by
    intro k
    induction k with
    | zero =>
      intro i hi
      have : i = ln x 24 := by omega
      subst this
      refine bX0_digestOnto_5 E ho (fun _ => bX0_digestOnto_35 E hB ⟨_, rfl, rfl, rfl⟩) (fun c => absurd (by rw [h.2.2.2, nI_leE (by omega) (by omega)]; omega) c)
    | succ k ih =>
      intro i hi
      refine bX0_digestOnto_5 E ho (fun c => absurd c (by rw [h.2.2.2, nI_leE (by omega) (by omega)]; omega)) (fun _ => ?_)
      refine bX0_digestOnto_14 E ho (vin (by omega) (by omega)) ?_
      rw [ix_nI (by omega), h.2.2.1 i (by omega), nI_add]
      exact ih (i + 1) (by omega)
  exact bX0_digestOnto_0 E ho (loop (ln x 24) 0 (by omega))
end BIG3
