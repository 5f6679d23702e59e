/-! REGISTERS of the model: 27 places each in one row -/
abbrev RB : Nat := 465
abbrev mrf (Z : ZT) : Value := .ref (Z.2.2.1 + 455)
def RegV (μ : Mu) (r v : Nat) : Prop := v < 1073741824 ^ 27 ∧ ∀ k, k < 27 → μ 465 (27 * r + k) = nI (dg v k)
/-- registers S alone may have changed, and nothing else of the world -/
def FrG (S : List Nat) (μ μ' : Mu) : Prop := (∀ a, a ≠ 465 → μ' a = μ a) ∧ ∀ i, (∀ r ∈ S, i < 27 * r ∨ 27 * r + 27 ≤ i) → μ' 465 i = μ 465 i
theorem FrG.rf {S : List Nat} {μ : Mu} : FrG S μ μ := ⟨fun _ _ => rfl, fun _ _ => rfl⟩
theorem FrG.tr {S : List Nat} {μ μ1 μ2 : Mu} (h1 : FrG S μ μ1) (h2 : FrG S μ1 μ2) : FrG S μ μ2 := ⟨fun a ha => (h2.1 a ha).trans (h1.1 a ha), fun i hi => (h2.2 i hi).trans (h1.2 i hi)⟩
theorem FrG.mo {S S' : List Nat} {μ μ1 : Mu} (h : FrG S μ μ1) (hs : ∀ a ∈ S, a ∈ S') : FrG S' μ μ1 := ⟨h.1, fun i hi => h.2 i fun r hr => hi r (hs r hr)⟩
theorem FrG.up {S : List Nat} {μ : Mu} {r k : Nat} {x : Int32} (hr : r ∈ S) (hk : k < 27) : FrG S μ (uR μ 465 (upd (μ 465) (27 * r + k) x)) :=
  ⟨fun a ha => uR_n ha, fun i hi => by rw [uR_s, pk_un (by have := hi r hr; omega)]⟩
theorem RegV.fr {S : List Nat} {μ μ' : Mu} {r v : Nat} (h : RegV μ r v) (hF : FrG S μ μ') (hr : r ∉ S) : RegV μ' r v :=
  ⟨h.1, fun k hk => by rw [hF.2 _ (fun q hq => by have : q ≠ r := fun e => hr (e ▸ hq); omega)]; exact h.2 k hk⟩
theorem RegV.uniq {μ : Mu} {r v w : Nat} (h : RegV μ r v) (h' : RegV μ r w) : v = w :=
  dg_ext h.1 h'.1 fun k hk => nI_inj dgb dgb ((h.2 k hk).symm.trans (h'.2 k hk))
theorem rix (r k : Nat) : nI 27 * nI r + nI k = nI (27 * r + k) := by rw [nI_mul, nI_add]
section REG
variable {Z : ZT} {μ : Mu} {r o : Nat}
theorem m_set {v : Nat} (hr : r < 281) (hv : v < 1073741824) : CtrS Z mX12_set [mrf Z, .int (nI r), .int (nI v)] μ (rV fun μ' => RegV μ' r v ∧ FrG [r] μ μ') := by
  refine CtrS.intro (by decide +kernel) (Nat.le_of_ble_eq_true rfl) rfl fun X E hB => ?_
  have loop : ∀ k i μ1, i + k = 27 → FrG [r] μ μ1 → (∀ j, j < i → μ1 465 (27 * r + j) = nI (dg v j)) → JS Z X 2 [(0, mrf Z), (1, .int (nI r)), (2, .int (nI v)), (3, .int (nI i))] [] μ1 := by
    intro k
    induction k with
    | zero =>
      intro i μ1 hi hF h1
      have : i = 27 := by omega
      subst this
      exact bX12_set_2 E (fun _ => bX12_set_34 E hB ⟨rfl, ⟨Nat.lt_of_lt_of_le hv (by decide), h1⟩, hF⟩) (fun c => absurd (by rw [nI_leE (by omega) (by omega)]; omega) c)
    | succ k ih =>
      intro i μ1 hi hF h1
      have step : ∀ w, w = dg v i → JS Z X 27 [(0, mrf Z), (1, .int (nI r)), (2, .int (nI v)), (3, .int (nI i))] [.int (nI w), .int (nI (27 * r + i)), .ref (Z.2.2.1 + 465)] μ1 := fun w hw => by
        subst hw
        refine bX12_set_27 E sh465 (vin (by omega) (by omega)) (bX12_set_28 E ?_)
        rw [ix_nI (by omega), nI_add]
        refine ih (i + 1) _ (by omega) (hF.tr (FrG.up (by simp) (by omega))) fun j hj => ?_
        rw [uR_s]
        rcases Nat.lt_or_ge j i with g | g
        · rw [pk_un (by omega)]; exact h1 j g
        · have : j = i := by omega
          subst this; rw [pk_us]
      refine bX12_set_2 E (fun c => absurd c (by rw [nI_leE (by omega) (by omega)]; omega)) (fun _ => ?_)
      refine bX12_set_8 E (fun c => ?_) (fun c => ?_)
      · rw [nI_eq0 (by omega)] at c
        rw [rix]
        exact bX12_set_26 E sh465 (step 0 (by rw [dg_zero' (k := 1) (by simpa using hv) (by omega)]))
      · rw [nI_eq0 (by omega)] at c
        rw [rix]
        subst c
        exact bX12_set_22 E sh465 (step v (dg_small hv).symm)
  exact bX12_set_0 E (loop 27 0 μ rfl FrG.rf fun j hj => absurd hj (Nat.not_lt_zero j))
theorem m_copy {v : Nat} (h : RegV μ r v) (hr : r < 281) (ho : o < 281) : CtrS Z mX12_copy [mrf Z, .int (nI r), .int (nI o)] μ (rV fun μ' => RegV μ' o v ∧ FrG [o] μ μ') := by
  refine CtrS.intro (by decide +kernel) (Nat.le_of_ble_eq_true rfl) rfl fun X E hB => ?_
  have loop : ∀ k i μ1, i + k = 27 → FrG [o] μ μ1 → (∀ j, j < i → μ1 465 (27 * o + j) = nI (dg v j)) → (∀ j, i ≤ j → j < 27 → μ1 465 (27 * r + j) = nI (dg v j)) → JS Z X 2 [(0, mrf Z), (1, .int (nI r)), (2, .int (nI o)), (3, .int (nI i))] [] μ1 := by
    intro k
    induction k with
    | zero =>
      intro i μ1 hi hF h1 _
      have : i = 27 := by omega
      subst this
      exact bX12_copy_2 E (fun _ => bX12_copy_36 E hB ⟨rfl, ⟨h.1, h1⟩, hF⟩) (fun c => absurd (by rw [nI_leE (by omega) (by omega)]; omega) c)
    | succ k ih =>
      intro i μ1 hi hF h1 h2
      refine bX12_copy_2 E (fun c => absurd c (by rw [nI_leE (by omega) (by omega)]; omega)) (fun _ => ?_)
      refine bX12_copy_8 E (by rw [rix]; exact vin (by omega) (by omega)) (by rw [rix]; exact vin (by omega) (by omega)) (bX12_copy_30 E ?_)
      rw [rix, rix, ix_nI (show 27 * o + i < 2147483648 by omega), ix_nI (show 27 * r + i < 2147483648 by omega), h2 i (Nat.le_refl _) (by omega), nI_add]
      refine ih (i + 1) _ (by omega) (hF.tr (FrG.up (by simp) (by omega))) (fun j hj => ?_) (fun j hj hj2 => ?_)
      · rw [uR_s]
        rcases Nat.lt_or_ge j i with g | g
        · rw [pk_un (by omega)]; exact h1 j g
        · have : j = i := by omega
          subst this; rw [pk_us]
      · rw [uR_s, pk_un (by omega)]; exact h2 j (by omega) hj2
  exact bX12_copy_0 E (loop 27 0 μ rfl FrG.rf (fun j hj => absurd hj (Nat.not_lt_zero j)) fun j _ hj => h.2 j hj)
theorem lN_rem {a : Nat} (h : a < 2 ^ 63) : lN a - lN a / lN 1073741824 * lN 1073741824 = lN (a % 1073741824) := pk_lRem h (by decide) (by decide)
theorem lN_div {a : Nat} (h : a < 2 ^ 63) : lN a / lN 1073741824 = lN (a / 1073741824) := pk_lDiv h (by decide) (by decide)
theorem m_times {v m : Nat} (h : RegV μ r v) (hr : r < 281) (hm : m < 2147483648) (hv : v * m < 1073741824 ^ 27) : CtrS Z mX12_times [mrf Z, .int (nI r), .int (nI m)] μ (rV fun μ' => RegV μ' r (v * m) ∧ FrG [r] μ μ') := by
  refine CtrS.intro (by decide +kernel) (Nat.le_of_ble_eq_true rfl) rfl fun X E hB => ?_
  have loop : ∀ k i μ1, i + k = 27 → FrG [r] μ μ1 → (∀ j, j < i → μ1 465 (27 * r + j) = nI (dg (v * m) j)) → (∀ j, i ≤ j → j < 27 → μ1 465 (27 * r + j) = nI (dg v j)) →
      JS Z X 5 [(0, mrf Z), (1, .int (nI r)), (2, .int (nI m)), (3, .long (lN (cy 0 v m i))), (5, .int (nI i))] [] μ1 := by
    intro k
    induction k with
    | zero =>
      intro i μ1 hi hF h1 _
      have : i = 27 := by omega
      subst this
      exact bX12_times_5 E (fun _ => bX12_times_64 E hB ⟨rfl, ⟨hv, h1⟩, hF⟩) (fun c => absurd (by rw [nI_leE (by omega) (by omega)]; omega) c)
    | succ k ih =>
      intro i μ1 hi hF h1 h2
      have hcy := cy_le (x := 0) (y := v) (m := m) (k := i)
      have hb := b63 (a := 0) (by decide) (dg_lt (v := v) (k := i)) hm (show cy 0 v m i < 2147483648 by omega)
      have hd := cy_dig 0 v m i
      have hn := cy_next 0 v m i
      simp only [dg_0v, Nat.zero_add] at hd hn hb
      refine bX12_times_5 E (fun c => absurd c (by rw [nI_leE (by omega) (by omega)]; omega)) (fun _ => ?_)
      refine bX12_times_12 E (by rw [rix]; exact vin (by omega) (by omega)) (by rw [rix]; exact vin (by omega) (by omega)) ?_
      rw [rix, ix_nI (by omega), h2 i (Nat.le_refl _) (by omega), nI_l dgb, nI_l hm, lN_mul, lN_add, lN_rem hb, hd, lN_i]
      refine bX12_times_51 E ?_
      rw [lN_div hb, hn, nI_add]
      refine ih (i + 1) _ (by omega) (hF.tr (FrG.up (by simp) (by omega))) (fun j hj => ?_) (fun j hj hj2 => ?_)
      · rw [uR_s]
        rcases Nat.lt_or_ge j i with g | g
        · rw [pk_un (by omega)]; exact h1 j g
        · have : j = i := by omega
          subst this; rw [pk_us]
      · rw [uR_s, pk_un (by omega)]; exact h2 j (by omega) hj2
  refine bX12_times_0 E ?_
  have := loop 27 0 μ rfl FrG.rf (fun j hj => absurd hj (Nat.not_lt_zero j)) (fun j _ hj => h.2 j hj)
  rw [cy_0] at this
  exact this
theorem m_millions {v n : Nat} (h : RegV μ r v) (hr : r < 281) (hn : n < 1000) (hv : v * 1000000 ^ n < 1073741824 ^ 27) : CtrS Z mX12_millions [mrf Z, .int (nI r), .int (nI n)] μ (rV fun μ' => RegV μ' r (v * 1000000 ^ n) ∧ FrG [r] μ μ') := by
  refine CtrS.intro (by decide +kernel) (Nat.le_of_ble_eq_true rfl) rfl fun X E hB => ?_
  have loop : ∀ k i μ1, i + k = n → FrG [r] μ μ1 → RegV μ1 r (v * 1000000 ^ i) → JS Z X 2 [(0, mrf Z), (1, .int (nI r)), (2, .int (nI n)), (3, .int (nI i))] [] μ1 := by
    intro k
    induction k with
    | zero =>
      intro i μ1 hi hF h1
      have : i = n := by omega
      subst this
      exact bX12_millions_2 E (fun _ => bX12_millions_20 E hB ⟨rfl, h1, hF⟩) (fun c => absurd (by rw [nI_leE (by omega) (by omega)]; omega) c)
    | succ k ih =>
      intro i μ1 hi hF h1
      refine bX12_millions_2 E (fun c => absurd c (by rw [nI_leE (by omega) (by omega)]; omega)) (fun _ => ?_)
      have hb : v * 1000000 ^ i * 1000000 < 1073741824 ^ 27 := by
        refine Nat.lt_of_le_of_lt ?_ hv
        rw [Nat.mul_assoc, ← Nat.pow_succ]
        exact Nat.mul_le_mul_left _ (Nat.pow_le_pow_right (by decide) (by omega))
      refine bX12_millions_7 E (m_times h1 hr (by decide) hb) fun μ2 h2 => bX12_millions_14 E ?_
      rw [nI_add]
      exact ih (i + 1) μ2 (by omega) (hF.tr h2.2) (by rw [Nat.pow_succ, ← Nat.mul_assoc]; exact h2.1)
  exact bX12_millions_0 E (loop n 0 μ (by omega) FrG.rf (by simpa using h))
theorem m_add {x y : Nat} (h : RegV μ r x) (hy : RegV μ o y) (hr : r < 281) (ho : o < 281) (hne : r ≠ o) (hv : x + y < 1073741824 ^ 27) : CtrS Z mX12_add [mrf Z, .int (nI r), .int (nI o)] μ (rV fun μ' => RegV μ' r (x + y) ∧ FrG [r] μ μ') := by
  refine CtrS.intro (by decide +kernel) (Nat.le_of_ble_eq_true rfl) rfl fun X E hB => ?_
  have loop : ∀ k i μ1, i + k = 27 → FrG [r] μ μ1 → (∀ j, j < i → μ1 465 (27 * r + j) = nI (dg (x + y * 1) j)) → (∀ j, i ≤ j → j < 27 → μ1 465 (27 * r + j) = nI (dg x j)) →
      JS Z X 5 [(0, mrf Z), (1, .int (nI r)), (2, .int (nI o)), (3, .int (nI (cy x y 1 i))), (4, .int (nI i))] [] μ1 := by
    intro k
    induction k with
    | zero =>
      intro i μ1 hi hF h1 _
      have : i = 27 := by omega
      subst this
      rw [Nat.mul_one] at h1
      exact bX12_add_5 E (fun _ => bX12_add_77 E hB ⟨rfl, ⟨hv, h1⟩, hF⟩) (fun c => absurd (by rw [nI_leE (by omega) (by omega)]; omega) c)
    | succ k ih =>
      intro i μ1 hi hF h1 h2
      have hcy := cy_le (x := x) (y := y) (m := 1) (k := i)
      have hd := cy_dig x y 1 i
      have hn := cy_next x y 1 i
      have hx1 := dg_lt (v := x) (k := i)
      have hy1 := dg_lt (v := y) (k := i)
      have hb : dg x i + dg y i + cy x y 1 i < 2 ^ 63 := by omega
      simp only [Nat.mul_one] at hd hn
      refine bX12_add_5 E (fun c => absurd c (by rw [nI_leE (by omega) (by omega)]; omega)) (fun _ => ?_)
      refine bX12_add_12 E (by rw [rix]; exact vin (by omega) (by omega)) (by rw [rix]; exact vin (by omega) (by omega)) (by rw [rix]; exact vin (by omega) (by omega)) ?_
      have ey : μ1 465 (27 * o + i) = nI (dg y i) := by rw [hF.2 _ (by simp; omega)]; exact hy.2 i (by omega)
      rw [rix, rix, ix_nI (show 27 * o + i < 2147483648 by omega), ix_nI (show 27 * r + i < 2147483648 by omega), h2 i (Nat.le_refl _) (by omega), ey, nI_l dgb, nI_l dgb, nI_l (show cy x y 1 i < 2147483648 by omega), lN_add, lN_add, lN_rem hb, hd, lN_i]
      refine bX12_add_63 E ?_
      rw [lN_div hb, hn, lN_i, nI_add]
      refine ih (i + 1) _ (by omega) (hF.tr (FrG.up (by simp) (by omega))) (fun j hj => ?_) (fun j hj hj2 => ?_)
      · rw [uR_s]
        rcases Nat.lt_or_ge j i with g | g
        · rw [pk_un (by omega)]; exact h1 j g
        · have : j = i := by omega
          subst this; rw [pk_us, Nat.mul_one]
      · rw [uR_s, pk_un (by omega)]; exact h2 j (by omega) hj2
  refine bX12_add_0 E ?_
  have := loop 27 0 μ rfl FrG.rf (fun j hj => absurd hj (Nat.not_lt_zero j)) (fun j _ hj => h.2 j hj)
  rw [cy_0] at this
  exact this
theorem sub3_big {d e c : Nat} (hd : d < 1073741824) (he : e < 1073741824) (hc : c ≤ 1) (hlt : d < e + c) : nI d - nI e - nI c + nI 1073741824 = nI (d + 1073741824 - e - c) := by
  rw [show nI d - nI e - nI c + nI 1073741824 = nI d + nI 1073741824 - nI e - nI c by simp only [Int32.sub_eq_add_neg]; ac_rfl]
  rw [nI_add, nI_sub (by omega), nI_sub (by omega)]
theorem m_less {x y : Nat} (h : RegV μ r x) (hy : RegV μ o y) (hr : r < 281) (ho : o < 281) (hne : r ≠ o) (hle : y ≤ x) : CtrS Z mX12_less [mrf Z, .int (nI r), .int (nI o)] μ (rV fun μ' => RegV μ' r (x - y) ∧ FrG [r] μ μ') := by
  refine CtrS.intro (by decide +kernel) (Nat.le_of_ble_eq_true rfl) rfl fun X E hB => ?_
  have loop : ∀ k i μ1, i + k = 27 → FrG [r] μ μ1 → (∀ j, j < i → μ1 465 (27 * r + j) = nI (dg (x - y) j)) → (∀ j, i ≤ j → j < 27 → μ1 465 (27 * r + j) = nI (dg x j)) →
      JS Z X 5 [(0, mrf Z), (1, .int (nI r)), (2, .int (nI o)), (3, .int (nI (bw x y i))), (4, .int (nI i))] [] μ1 := by
    intro k
    induction k with
    | zero =>
      intro i μ1 hi hF h1 _
      have : i = 27 := by omega
      subst this
      exact bX12_less_5 E (fun _ => bX12_less_85 E hB ⟨rfl, ⟨Nat.lt_of_le_of_lt (Nat.sub_le _ _) h.1, h1⟩, hF⟩) (fun c => absurd (by rw [nI_leE (by omega) (by omega)]; omega) c)
    | succ k ih =>
      intro i μ1 hi hF h1 h2
      have hbl := bw_le (v := x) (w := y) (k := i)
      have hbn := bw_next x y i
      have hbd := bw_dig (k := i) hle
      have hx1 := dg_lt (v := x) (k := i)
      have hy1 := dg_lt (v := y) (k := i)
      have ey : μ1 465 (27 * o + i) = nI (dg y i) := by rw [hF.2 _ (by simp; omega)]; exact hy.2 i (by omega)
      have ex := h2 i (Nat.le_refl _) (by omega)
      have last : JS Z X 78 [(0, mrf Z), (1, .int (nI r)), (2, .int (nI o)), (3, .int (nI (bw x y (i + 1)))), (4, .int (nI i))] [.int (nI (dg (x - y) i)), .int (nI (27 * r + i)), .ref (Z.2.2.1 + 465)] μ1 := by
        refine bX12_less_78 E sh465 (vin (by omega) (by omega)) (bX12_less_79 E ?_)
        rw [ix_nI (by omega), nI_add]
        refine ih (i + 1) _ (by omega) (hF.tr (FrG.up (by simp) (by omega))) (fun j hj => ?_) (fun j hj hj2 => ?_)
        · rw [uR_s]
          rcases Nat.lt_or_ge j i with g | g
          · rw [pk_un (by omega)]; exact h1 j g
          · have : j = i := by omega
            subst this; rw [pk_us]
        · rw [uR_s, pk_un (by omega)]; exact h2 j (by omega) hj2
      have mid : ∀ s0, s0 = nI (bw x y (i + 1)) → JS Z X 51 [(0, mrf Z), (1, .int (nI r)), (2, .int (nI o)), (4, .int (nI i)), (5, .int (nI (dg x i) - nI (dg y i) - nI (bw x y i)))] [.int s0] μ1 := fun s0 hs => by
        subst hs
        refine bX12_less_51 E ?_ ?_
        · rw [sub3_nn hx1 hy1 hbl, rix]
          intro c
          refine bX12_less_76 E sh465 ?_
          rw [nI_sub (by omega), nI_sub (by omega), show dg x i - dg y i - bw x y i = dg (x - y) i by rw [← hbd, show dg x i + 1073741824 - dg y i - bw x y i = (dg x i - dg y i - bw x y i) + 1073741824 by omega, Nat.add_mod_right, Nat.mod_eq_of_lt (by omega)]]
          exact last
        · rw [sub3_nn hx1 hy1 hbl, rix]
          intro c
          refine bX12_less_68 E sh465 ?_
          rw [sub3_big hx1 hy1 hbl (by omega), show dg x i + 1073741824 - dg y i - bw x y i = dg (x - y) i by rw [← hbd, Nat.mod_eq_of_lt (by omega)]]
          exact last
      refine bX12_less_5 E (fun c => absurd c (by rw [nI_leE (by omega) (by omega)]; omega)) (fun _ => ?_)
      refine bX12_less_12 E (by rw [rix]; exact vin (by omega) (by omega)) (by rw [rix]; exact vin (by omega) (by omega)) ?_ ?_
      · rw [rix, rix, ix_nI (show 27 * o + i < 2147483648 by omega), ix_nI (show 27 * r + i < 2147483648 by omega), ex, ey, sub3_nn hx1 hy1 hbl]
        exact fun c => bX12_less_50 E (mid _ (by rw [hbn, if_neg (by omega)]))
      · rw [rix, rix, ix_nI (show 27 * o + i < 2147483648 by omega), ix_nI (show 27 * r + i < 2147483648 by omega), ex, ey, sub3_nn hx1 hy1 hbl]
        exact fun c => bX12_less_46 E (mid _ (by rw [hbn, if_pos (by omega)]))
  refine bX12_less_0 E ?_
  have := loop 27 0 μ rfl FrG.rf (fun j hj => absurd hj (Nat.not_lt_zero j)) (fun j _ hj => h.2 j hj)
  rw [bw_0] at this
  exact this
end REG
