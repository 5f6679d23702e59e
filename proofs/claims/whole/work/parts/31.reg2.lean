/-! REGISTERS, more: compare, divide, the fraction -/
section REG2
variable {Z : ZT} {μ : Mu} {r o : Nat}
theorem m_compare {x y : Nat} (h : RegV μ r x) (hy : RegV μ o y) (hr : r < 281) (ho : o < 281) : CtrS Z mX12_compare [mrf Z, .int (nI r), .int (nI o)] μ (rI fun v μ' => v = cmpV x y ∧ μ' = μ) := by
  refine CtrS.intro (by decide +kernel) (Nat.le_of_ble_eq_true rfl) rfl fun X E hB => ?_
  have loop : ∀ k, k ≤ 27 → x / 1073741824 ^ k = y / 1073741824 ^ k → JS Z X 3 [(0, mrf Z), (1, .int (nI r)), (2, .int (nI o)), (3, .int (nI k + (-1)))] [] μ := by
    intro k
    induction k with
    | zero =>
      intro _ e
      have : x = y := by simpa using e
      subst this
      refine bX12_compare_3 E (fun _ => bX12_compare_59 E hB ⟨_, rfl, ?_, rfl⟩) (fun c => absurd (by decide) c)
      simp [cmpV]
    | succ k ih =>
      intro hk e
      have d1 := h.2 k (by omega)
      have d2 := hy.2 k (by omega)
      refine bX12_compare_3 E (fun c => absurd c (by rw [nI_m1_lt0 (by omega)]; omega)) (fun _ => ?_)
      rw [nI_suc_m1]
      refine bX12_compare_7 E (by rw [rix]; exact vin (by omega) (by omega)) (by rw [rix]; exact vin (by omega) (by omega)) ?_ ?_
      · rw [rix, rix, ix_nI (show 27 * r + k < 2147483648 by omega), ix_nI (show 27 * o + k < 2147483648 by omega), d1, d2, nI_eqE dgb dgb]
        exact fun c => bX12_compare_53 E (ih (by omega) (cmp_eq e c))
      · rw [rix, rix, ix_nI (show 27 * r + k < 2147483648 by omega), ix_nI (show 27 * o + k < 2147483648 by omega), d1, d2, nI_eqE dgb dgb]
        intro c
        refine bX12_compare_40 E (fun c2 => ?_) (fun c2 => ?_)
        · rw [nI_leE dgb dgb] at c2
          have := cmp_lt e.symm (show dg y k < dg x k by omega)
          refine bX12_compare_51 E (bX12_compare_52 E hB ⟨_, rfl, ?_, rfl⟩)
          rw [cmpV, if_neg (by omega), if_neg (by omega)]
        · rw [nI_leE dgb dgb] at c2
          have := cmp_lt e (show dg x k < dg y k by omega)
          refine bX12_compare_47 E (bX12_compare_52 E hB ⟨_, rfl, ?_, rfl⟩)
          rw [cmpV, if_pos this]
  refine bX12_compare_0 E ?_
  have := loop 27 (Nat.le_refl _) (by rw [Nat.div_eq_of_lt h.1, Nat.div_eq_of_lt hy.1])
  exact this
theorem m_divide {x p : Nat} (h : RegV μ r x) (hr : r < 281) (hp : 0 < p) (hp2 : p < 2147483648) : CtrS Z mX12_divide [mrf Z, .int (nI r), .int (nI p)] μ (rI fun v μ' => v = nI (x % p) ∧ RegV μ' r (x / p) ∧ FrG [r] μ μ') := by
  refine CtrS.intro (by decide +kernel) (Nat.le_of_ble_eq_true rfl) rfl fun X E hB => ?_
  have hpl : (nI p).toInt64 = lN p := nI_l hp2
  have hp0 : ¬ lN p = 0 := by
    rw [show (0 : Int64) = lN 0 from rfl, lN_eq (by omega) (by omega)]; omega
  have loop : ∀ k μ1, k ≤ 27 → FrG [r] μ μ1 → (∀ j, j < k → μ1 465 (27 * r + j) = nI (dg x j)) → (∀ j, k ≤ j → j < 27 → μ1 465 (27 * r + j) = nI (dg (x / p) j)) →
      JS Z X 6 [(0, mrf Z), (1, .int (nI r)), (2, .int (nI p)), (3, .long (lN (x / 1073741824 ^ k % p))), (5, .int (nI k + (-1)))] [] μ1 := by
    intro k
    induction k with
    | zero =>
      intro μ1 _ hF _ h2
      refine bX12_divide_6 E (fun _ => bX12_divide_62 E hB ⟨_, rfl, by rw [lN_i]; simp, ⟨Nat.lt_of_le_of_lt (Nat.div_le_self _ _) h.1, fun j hj => h2 j (Nat.zero_le _) hj⟩, hF⟩) (fun c => absurd (by decide) c)
    | succ k ih =>
      intro μ1 hk hF h1 h2
      have hr2 := Nat.mod_lt (x / 1073741824 ^ (k + 1)) hp
      refine bX12_divide_6 E (fun c => absurd c (by rw [nI_m1_lt0 (by omega)]; omega)) (fun _ => ?_)
      rw [nI_suc_m1]
      refine bX12_divide_11 E (by rw [rix]; exact vin (by omega) (by omega)) (by rw [hpl]; exact hp0) (by rw [rix]; exact vin (by omega) (by omega)) ?_
      have hb : x / 1073741824 ^ (k + 1) % p * 1073741824 + dg x k < 2 ^ 63 := by
        have := dg_lt (v := x) (k := k)
        have : x / 1073741824 ^ (k + 1) % p * 1073741824 ≤ 2147483648 * 1073741824 := Nat.mul_le_mul_right _ (by omega)
        omega
      rw [rix, ix_nI (by omega), h1 k (by omega), nI_l dgb, hpl, lN_mul, lN_add, pk_lDiv hb hp (by omega), lN_i, dv_dig hp]
      refine bX12_divide_50 E (by rw [hpl]; exact hp0) ?_
      rw [hpl, pk_lRem hb hp (by omega), dv_rem]
      refine ih _ (by omega) (hF.tr (FrG.up (by simp) (by omega))) (fun j hj => ?_) (fun j hj hj2 => ?_)
      · rw [uR_s, pk_un (by omega)]; exact h1 j (by omega)
      · rw [uR_s]
        rcases Nat.lt_or_ge k j with g | g
        · rw [pk_un (by omega)]; exact h2 j g hj2
        · have : j = k := by omega
          subst this; rw [pk_us]
  refine bX12_divide_0 E ?_
  have := loop 27 μ (Nat.le_refl _) FrG.rf (fun j hj => h.2 j hj) (fun j hj hj2 => absurd hj2 (by omega))
  rw [Nat.div_eq_of_lt h.1, Nat.zero_mod] at this
  exact this
theorem m_isNought {x : Nat} (h : RegV μ r x) (hr : r < 281) : CtrS Z mX12_isNought [mrf Z, .int (nI r)] μ (rI fun v μ' => v = (if x = 0 then nI 1 else nI 0) ∧ μ' = μ) := by
  refine CtrS.intro (by decide +kernel) (Nat.le_of_ble_eq_true rfl) rfl fun X E hB => ?_
  have loop : ∀ k i, i + k = 27 → JS Z X 4 [(0, mrf Z), (1, .int (nI r)), (2, .int (if x % 1073741824 ^ i = 0 then nI 1 else nI 0)), (3, .int (nI i))] [] μ := by
    intro k
    induction k with
    | zero =>
      intro i hi
      have : i = 27 := by omega
      subst this
      rw [Nat.mod_eq_of_lt h.1]
      exact bX12_isNought_4 E (fun _ => bX12_isNought_40 E hB (z01 (by split; exact Or.inr rfl; exact Or.inl rfl)) ⟨_, rfl, rfl, rfl⟩) (fun c => absurd (by rw [nI_leE (by omega) (by omega)]; omega) c)
    | succ k ih =>
      intro i hi
      have hs := mod_succ x i
      have hp := DBp i
      have next := ih (i + 1) (by omega)
      refine bX12_isNought_4 E (fun c => absurd c (by rw [nI_leE (by omega) (by omega)]; omega)) (fun _ => ?_)
      refine bX12_isNought_10 E (fun c => ?_) (fun c => ?_)
      · have c' : ¬ x % 1073741824 ^ i = 0 := fun e => by rw [if_pos e] at c; exact absurd c (by decide)
        rw [if_neg (by omega)] at next
        refine bX12_isNought_32 E (bX12_isNought_33 E ?_)
        rw [nI_add]; exact next
      · have c' : x % 1073741824 ^ i = 0 := by
          rcases Nat.eq_zero_or_pos (x % 1073741824 ^ i) with e | e
          · exact e
          · rw [if_neg (by omega)] at c; exact absurd rfl c
        rw [c', Nat.zero_add] at hs
        refine bX12_isNought_14 E (by rw [rix]; exact vin (by omega) (by omega)) ?_ ?_
        · rw [rix, ix_nI (by omega), h.2 i (by omega), nI_eq0 dgb]
          intro c2
          rw [if_neg (by rw [hs]; exact Nat.ne_of_gt (Nat.mul_pos hp (by omega)))] at next
          refine bX12_isNought_32 E (bX12_isNought_33 E ?_)
          rw [nI_add]; exact next
        · rw [rix, ix_nI (by omega), h.2 i (by omega), nI_eq0 dgb]
          intro c2
          rw [if_pos (by rw [hs, c2]; rfl)] at next
          refine bX12_isNought_28 E (bX12_isNought_33 E ?_)
          rw [nI_add]; exact next
  refine bX12_isNought_0 E ?_
  have := loop 27 0 rfl
  rw [if_pos (by simp [Nat.mod_one])] at this
  exact this
theorem m_limbsOf {x : Nat} (h : RegV μ r x) (hr : r < 281) : CtrS Z mX12_limbsOf [mrf Z, .int (nI r)] μ (rI fun v μ' => v = nI (ln x 27) ∧ μ' = μ) := by
  refine CtrS.intro (by decide +kernel) (Nat.le_of_ble_eq_true rfl) rfl fun X E hB => ?_
  have loop : ∀ k, k ≤ 27 → ln x k = ln x 27 → JS Z X 3 [(0, mrf Z), (1, .int (nI r)), (2, .int (nI k))] [] μ := by
    intro k
    induction k with
    | zero =>
      intro _ e
      exact bX12_limbsOf_3 E (fun _ => bX12_limbsOf_29 E hB ⟨_, rfl, by rw [← e]; rfl, rfl⟩) (fun c => absurd (by decide) c)
    | succ k ih =>
      intro hk e
      refine bX12_limbsOf_3 E (fun c => absurd c (nI_nle (by omega) (by omega))) (fun _ => ?_)
      have ei : nI 27 * nI r + nI (k + 1) - nI 1 = nI (27 * r + k) := by rw [rix, nI_sub (by omega)]; rfl
      refine bX12_limbsOf_7 E (by rw [ei]; exact vin (by omega) (by omega)) ?_ ?_
      · rw [ei, ix_nI (by omega), h.2 k (by omega), nI_eq0 dgb]
        intro c
        exact bX12_limbsOf_29 E hB ⟨_, rfl, by rw [← e, ln, if_neg c], rfl⟩
      · rw [ei, ix_nI (by omega), h.2 k (by omega), nI_eq0 dgb]
        intro c
        refine bX12_limbsOf_23 E ?_
        rw [nI_suc_m1]
        exact ih (by omega) (by rw [← e, ln, if_pos c])
  exact bX12_limbsOf_0 E (loop 27 (Nat.le_refl _) rfl)
theorem m_takeOut {a p t : Nat} (h : RegV μ 0 a) (hp : 1 < p) (hp2 : p < 1000) (ht : t < 1000) : CtrS Z mX12_takeOut [mrf Z, .int (nI p), .int (nI t)] μ (rI fun v μ' => ∃ n a', v = nI n ∧ n ≤ t ∧ a = a' * p ^ n ∧ (n = t ∨ ¬ p ∣ a') ∧ RegV μ' 0 a' ∧ FrG [0, 6] μ μ') := by
  refine CtrS.intro (by decide +kernel) (Nat.le_of_ble_eq_true rfl) rfl fun X E hB => ?_
  have loop : ∀ k n μ1 a1, n + k = t → RegV μ1 0 a1 → a = a1 * p ^ n → FrG [0, 6] μ μ1 → JS Z X 5 [(0, mrf Z), (1, .int (nI p)), (2, .int (nI t)), (3, .int (nI n)), (4, .int (nI 1))] [] μ1 := by
    intro k
    induction k with
    | zero =>
      intro n μ1 a1 hn h1 ha hF
      have : n = t := by omega
      subst this
      refine bX12_takeOut_5 E (fun c => absurd c (by decide)) (fun _ => bX12_takeOut_10 E (fun _ => bX12_takeOut_57 E hB ⟨_, rfl, n, a1, rfl, Nat.le_refl _, ha, Or.inl rfl, h1, hF⟩) (fun c => absurd (by rw [nI_leE (by omega) (by omega)]; omega) c))
    | succ k ih =>
      intro n μ1 a1 hn h1 ha hF
      refine bX12_takeOut_5 E (fun c => absurd c (by decide)) (fun _ => bX12_takeOut_10 E (fun c => absurd c (by rw [nI_leE (by omega) (by omega)]; omega)) (fun _ => ?_))
      refine bX12_takeOut_15 E (m_copy h1 (by decide) (o := 6) (by decide)) fun μ2 h2 => ?_
      refine bX12_takeOut_22 E (m_divide h2.1 (by decide) (by omega) (by omega)) fun v μ3 h3 => ?_
      obtain ⟨rfl, h3, hF3⟩ := h3
      have hml : a1 % p < p := Nat.mod_lt _ (by omega)
      have h13 : RegV μ3 0 a1 := (h1.fr h2.2 (by decide)).fr hF3 (by decide)
      have hFa : FrG [0, 6] μ μ3 := (hF.tr (h2.2.mo (by decide))).tr (hF3.mo (by decide))
      refine bX12_takeOut_29 E (fun c => ?_) (fun c => ?_)
      · rw [nI_eq0 (by omega)] at c
        refine bX12_takeOut_36 E (bX12_takeOut_37 E (fun _ => ?_) (fun g => absurd rfl g))
        exact bX12_takeOut_5 E (fun _ => bX12_takeOut_57 E hB ⟨_, rfl, n, a1, rfl, by omega, ha, Or.inr fun g => c (Nat.mod_eq_zero_of_dvd g), h13, hFa⟩) (fun g => absurd rfl g)
      · rw [nI_eq0 (by omega)] at c
        refine bX12_takeOut_32 E (bX12_takeOut_37 E (fun g => absurd g (by decide)) (fun _ => ?_))
        refine bX12_takeOut_44 E (m_copy h3 (by decide) (o := 0) (by decide)) fun μ4 h4 => bX12_takeOut_51 E ?_
        rw [nI_add]
        refine ih (n + 1) μ4 (a1 / p) (by omega) h4.1 ?_ (hFa.tr (h4.2.mo (by decide)))
        rw [ha, Nat.pow_succ, Nat.mul_comm (p ^ n) p, ← Nat.mul_assoc, Nat.div_mul_cancel (Nat.dvd_of_mod_eq_zero c)]
  exact bX12_takeOut_0 E (loop t 0 μ a (by omega) h (by simp) FrG.rf)
/-- what isn't the registers S, or the sign -/
def FrT (S : List Nat) (μ μ' : Mu) : Prop := (∀ a, a ≠ 465 → a ≠ 455 → μ' a = μ a) ∧ (∀ k, k ≠ 19 → μ' 455 k = μ 455 k) ∧ ∀ i, (∀ r ∈ S, i < 27 * r ∨ 27 * r + 27 ≤ i) → μ' 465 i = μ 465 i
theorem FrT.ofG {S : List Nat} {μ μ' : Mu} (h : FrG S μ μ') : FrT S μ μ' := ⟨fun a ha _ => h.1 a ha, fun k _ => by rw [h.1 _ (by decide)], h.2⟩
theorem FrT.tr {S : List Nat} {μ μ1 μ2 : Mu} (h1 : FrT S μ μ1) (h2 : FrT S μ1 μ2) : FrT S μ μ2 := ⟨fun a ha hb => (h2.1 a ha hb).trans (h1.1 a ha hb), fun k hk => (h2.2.1 k hk).trans (h1.2.1 k hk), fun i hi => (h2.2.2 i hi).trans (h1.2.2 i hi)⟩
theorem FrT.mo {S S' : List Nat} {μ μ1 : Mu} (h : FrT S μ μ1) (hs : ∀ a ∈ S, a ∈ S') : FrT S' μ μ1 := ⟨h.1, h.2.1, fun i hi => h.2.2 i fun r hr => hi r (hs r hr)⟩
/-- THE FRACTION of the model is N by D -/
def FrM (μ : Mu) (N D : Nat) : Prop := RegV μ 0 N ∧ RegV μ 1 D ∧ μ 455 19 = nI (if N = 0 then 0 else 1)
theorem m_tell {v t : Nat} (h : RegV μ r v) (hr : r < 281) (h1 : r ≠ 1) (ht : t < 240) (hb : 10 ^ t < 1073741824 ^ 27) : CtrS Z mX12_tell [mrf Z, .int (nI r), .int (nI t)] μ (rV fun μ' => ∃ N D, FrM μ' N D ∧ Low N D v t ∧ FrT [0, 1, 6] μ μ') := by
  refine CtrS.intro (by decide +kernel) (Nat.le_of_ble_eq_true rfl) rfl fun X E hB => ?_
  refine bX12_tell_0 E (m_copy h hr (o := 0) (by decide)) fun μ1 g1 => ?_
  refine bX12_tell_6 E (m_set (r := 1) (v := 1) (by decide) (by decide)) fun μ2 g2 => ?_
  have u2 : RegV μ2 0 v := g1.1.fr g2.2 (by decide)
  have F2 : FrG [0, 1, 6] μ μ2 := (g1.2.mo (by decide)).tr (g2.2.mo (by decide))
  refine bX12_tell_12 E (m_isNought u2 (by decide)) fun s μ3 g3 => ?_
  obtain ⟨rfl, rfl⟩ := g3
  have p10 : (10 : Nat) ^ t = 2 ^ t * 5 ^ t := by rw [← Nat.mul_pow]
  -- behind the sign
  have low : ∀ s, s = nI (if v = 0 then 0 else 1) → JS Z X 26 [(0, mrf Z), (2, .int (nI t))] [.int s, mrf Z] μ3 := fun s hs => by
    subst hs
    refine bX12_tell_26 E ?_
    generalize e4 : uR μ3 455 (upd (μ3 455) 19 (nI (if v = 0 then 0 else 1))) = μ4
    have s4 : μ4 455 19 = nI (if v = 0 then 0 else 1) := by rw [← e4, uR_s, pk_us]
    have G4 : ∀ a, a ≠ 455 → μ4 a = μ3 a := fun a ha => by rw [← e4, uR_n ha]
    have K4 : ∀ k, k ≠ 19 → μ4 455 k = μ3 455 k := fun k hk => by rw [← e4, uR_s, pk_un hk]
    have F4 : FrT [0, 1, 6] μ μ4 := (FrT.ofG F2).tr ⟨fun a _ ha => G4 a ha, K4, fun i _ => by rw [G4 _ (by decide)]⟩
    have u4 : RegV μ4 0 v := ⟨u2.1, fun k hk => by rw [G4 _ (by decide)]; exact u2.2 k hk⟩
    have d4 : RegV μ4 1 1 := ⟨g2.1.1, fun k hk => by rw [G4 _ (by decide)]; exact g2.1.2 k hk⟩
    refine bX12_tell_29 E (fun c => ?_) (fun c => ?_)
    · have hv0 : ¬ v = 0 := fun e => by rw [s4, if_pos e] at c; exact c rfl
      refine bX12_tell_37 E (m_takeOut u4 (p := 2) (by decide) (by decide) (by omega)) fun w μ5 g5 => ?_
      obtain ⟨n, a, rfl, n1, n2, n3, u5, F5⟩ := g5
      refine bX12_tell_44 E (m_takeOut u5 (p := 5) (by decide) (by decide) (by omega)) fun w μ6 g6 => ?_
      obtain ⟨m, a', rfl, m1, m2, m3, u6, F6⟩ := g6
      refine bX12_tell_53 E ?_
      rw [nI_sub n1, nI_sub m1]
      have d6 : RegV μ6 1 1 := (d4.fr F5 (by decide)).fr F6 (by decide)
      have F6' : FrT [0, 1, 6] μ μ6 := (F4.tr ((FrT.ofG F5).mo (by decide))).tr ((FrT.ofG F6).mo (by decide))
      have s6 : μ6 455 19 = nI (if v = 0 then 0 else 1) := by rw [F6.1 _ (by decide), F5.1 _ (by decide)]; exact s4
      have ha' : ¬ a' = 0 := fun e => by
        subst e
        rw [Nat.zero_mul] at m2
        subst m2
        rw [Nat.zero_mul] at n2
        exact hv0 n2
      have big : ∀ i j, i ≤ t - n → j ≤ t - m → 2 ^ i * 5 ^ j < 1073741824 ^ 27 := fun i j hi hj => by
        refine Nat.lt_of_le_of_lt ?_ hb
        rw [p10]
        exact Nat.mul_le_mul (Nat.pow_le_pow_right (by decide) (by omega)) (Nat.pow_le_pow_right (by decide) (by omega))
      have loop5 : ∀ k j μ7, j + k = t - m → RegV μ7 0 a' → RegV μ7 1 (2 ^ (t - n) * 5 ^ j) → FrG [1] μ6 μ7 → JS Z X 80 [(0, mrf Z), (4, .int (nI (t - m))), (5, .int (nI j))] [] μ7 := by
        intro k
        induction k with
        | zero =>
          intro j μ7 hj u7 d7 F7
          have : j = t - m := by omega
          subst this
          refine bX12_tell_80 E (fun _ => bX12_tell_99 E hB ⟨rfl, a', _, ⟨u7, d7, ?_⟩, low_of ⟨n, n1, n2, n3, by rw [Nat.one_mul]⟩ ⟨m, m1, m2, m3, rfl⟩, F6'.tr ((FrT.ofG F7).mo (by decide))⟩) (fun c => absurd (by rw [nI_leE (by omega) (by omega)]; omega) c)
          rw [F7.1 _ (by decide), s6, if_neg hv0, if_neg ha']
        | succ k ih =>
          intro j μ7 hj u7 d7 F7
          refine bX12_tell_80 E (fun c => absurd c (by rw [nI_leE (by omega) (by omega)]; omega)) (fun _ => ?_)
          have hb7 : 2 ^ (t - n) * 5 ^ j * 5 < 1073741824 ^ 27 := by
            have := big (t - n) (j + 1) (Nat.le_refl _) (by omega)
            rw [Nat.pow_succ, ← Nat.mul_assoc] at this; exact this
          refine bX12_tell_87 E (m_times d7 (by decide) (by decide) hb7) fun μ8 g8 => bX12_tell_93 E ?_
          rw [nI_add]
          exact ih (j + 1) μ8 (by omega) (u7.fr g8.2 (by decide)) (by rw [Nat.pow_succ, ← Nat.mul_assoc]; exact g8.1) (F7.tr g8.2)
      have loop2 : ∀ k j μ7, j + k = t - n → RegV μ7 0 a' → RegV μ7 1 (2 ^ j) → FrG [1] μ6 μ7 → JS Z X 59 [(0, mrf Z), (3, .int (nI (t - n))), (4, .int (nI (t - m))), (5, .int (nI j))] [] μ7 := by
        intro k
        induction k with
        | zero =>
          intro j μ7 hj u7 d7 F7
          have : j = t - n := by omega
          subst this
          exact bX12_tell_59 E (fun _ => bX12_tell_77 E (loop5 (t - m) 0 μ7 (by omega) u7 (by simpa using d7) F7)) (fun c => absurd (by rw [nI_leE (by omega) (by omega)]; omega) c)
        | succ k ih =>
          intro j μ7 hj u7 d7 F7
          refine bX12_tell_59 E (fun c => absurd c (by rw [nI_leE (by omega) (by omega)]; omega)) (fun _ => ?_)
          have hb7 : 2 ^ j * 2 < 1073741824 ^ 27 := by
            have := big (j + 1) 0 (by omega) (by omega)
            rw [Nat.pow_succ, Nat.pow_zero, Nat.mul_one] at this; exact this
          refine bX12_tell_65 E (m_times d7 (by decide) (by decide) hb7) fun μ8 g8 => bX12_tell_71 E ?_
          rw [nI_add]
          exact ih (j + 1) μ8 (by omega) (u7.fr g8.2 (by decide)) (by rw [Nat.pow_succ]; exact g8.1) (F7.tr g8.2)
      exact loop2 (t - n) 0 μ6 (by omega) u6 (by simpa using d6) FrG.rf
    · have hv0 : v = 0 := by
        rcases Nat.eq_zero_or_pos v with e | e
        · exact e
        · rw [s4, if_neg (by omega)] at c; exact absurd c (by decide)
      subst hv0
      exact bX12_tell_36 E hB ⟨rfl, 0, 1, ⟨u4, d4, s4⟩, ⟨by simp, by decide, by decide⟩, F4⟩
  refine bX12_tell_18 E (fun c => ?_) (fun c => ?_)
  · exact bX12_tell_25 E (low _ (by rw [if_neg fun e => by rw [if_pos e] at c; exact absurd c (by decide)]))
  · have : v = 0 := by
      rcases Nat.eq_zero_or_pos v with e | e
      · exact e
      · rw [if_neg (by omega)] at c; exact absurd rfl c
    exact bX12_tell_21 E (low _ (by rw [if_pos this]))
end REG2
