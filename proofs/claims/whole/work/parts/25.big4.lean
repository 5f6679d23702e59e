/-! BIG: addProduct -/
theorem dgdg {v j : Nat} : dg (dg v j) 0 = dg v j := dg_small dg_lt
section BIG4
variable {Z : ZT} {μ : Mu} {o a b : Nat}
theorem c_addProduct {z x y : Nat} (h : BigV μ o z) (hx : BigV μ a x) (hy : BigV μ b y) (na : o ≠ a) (nb : o ≠ b) (hv : z + x * y < 1073741824 ^ 24) : CtrS Z mX0_addProduct [rf Z o, rf Z a, rf Z b] μ (rV fun μ' => BigV μ' o (z + x * y) ∧ Fr [o, o + 1] μ μ') := by
  refine CtrS.intro (by decide +kernel) (Nat.le_of_ble_eq_true rfl) rfl fun X E hB => ?_
  have ho := h.1
  have ha := hx.1
  have hb := hy.1
  have l1 := ln_le z 24
  have l2 := ln_le x 24
  have l3 := ln_le y 24
  have na1 : a + 1 ∉ [o + 1] := by simp; omega
  have nb1 : b + 1 ∉ [o + 1] := by simp; omega
  have na0 : a ∉ [o + 1] := by simp; exact fun e => big_ne ho ha e.symm
  have nb0 : b ∉ [o + 1] := by simp; exact fun e => big_ne ho hb e.symm
  have hxl := ln_lt 24 hx.2.1
  have hyl := ln_lt 24 hy.2.1
  -- the sum behind i places of x
  let S : Nat → Nat := fun i => z + (x % 1073741824 ^ i) * y
  have S_le : ∀ i, S i ≤ z + x * y := fun i => Nat.add_le_add_left (Nat.mul_le_mul_right _ (Nat.mod_le _ _)) _
  have S_succ : ∀ i, S (i + 1) = S i + 1073741824 ^ i * (y * dg x i) := fun i => by
    show z + (x % 1073741824 ^ (i + 1)) * y = z + (x % 1073741824 ^ i) * y + _
    rw [mod_succ, Nat.add_mul, Nat.mul_assoc, Nat.mul_comm (dg x i) y, Nat.add_assoc]
  have S_div : ∀ i, S (i + 1) / 1073741824 ^ i = S i / 1073741824 ^ i + y * dg x i := fun i => by rw [S_succ, Nat.add_mul_div_left _ _ (DBp i)]
  have S_lo : ∀ i j, j < i → dg (S (i + 1)) j = dg (S i) j := fun i j hj => by
    rw [S_succ]
    generalize y * dg x i = w
    unfold dg
    obtain ⟨c, rfl⟩ := Nat.exists_eq_add_of_lt hj
    rw [show 1073741824 ^ (j + c + 1) * w = 1073741824 ^ j * (1073741824 * (1073741824 ^ c * w)) by
      rw [Nat.add_assoc, Nat.pow_add, Nat.pow_succ, Nat.mul_assoc, Nat.mul_comm (1073741824 ^ c) 1073741824, Nat.mul_assoc], Nat.add_mul_div_left _ _ (DBp j), Nat.add_mul_mod_self_left]
  have outer : ∀ k i t μ1, i + k = ln x 24 → t ≤ 24 → Fr [o + 1] μ μ1 → (∀ j, j < 24 → μ1 (o + 1) j = nI (dg (S i) j)) → S i < 1073741824 ^ t →
      JS Z X 8 [(0, rf Z o), (1, rf Z a), (2, rf Z b), (3, .int (nI t)), (4, .int (nI i))] [] μ1 := by
    intro k
    induction k with
    | zero =>
      intro i t μ1 hi ht hF h1 hz
      have hi' : i = ln x 24 := by omega
      have hu : μ1 a 1 = nI (ln x 24) := by rw [hF _ na0]; exact hx.2.2.2
      refine bX0_addProduct_8 E ho ha hb (fun _ => ?_) (fun c => absurd (by rw [hu, nI_leE (by omega) (by omega)]; omega) c)
      refine bX0_addProduct_129 E ho (c_trim ho (t := t) (by omega)) fun μ2 e => bX0_addProduct_134 E hB ⟨rfl, ?_⟩
      have hS : S i = z + x * y := by show z + (x % 1073741824 ^ i) * y = _; rw [hi', Nat.mod_eq_of_lt hxl]
      rw [hS] at h1 hz
      obtain ⟨b1, b2⟩ := big_trim (v := z + x * y) ho hv h1 (by rw [Nat.min_eq_left ht]; exact hz) e
      exact ⟨b1, (hF.mo (by simp)).tr (b2.mo (by simp))⟩
    | succ k ih =>
      intro i t μ1 hi ht hF h1 hz
      have hu : μ1 a 1 = nI (ln x 24) := by rw [hF _ na0]; exact hx.2.2.2
      refine bX0_addProduct_8 E ho ha hb (fun c => absurd c (by rw [hu, nI_leE (by omega) (by omega)]; omega)) (fun _ => ?_)
      have hdl : dg x i < 1073741824 := dg_lt
      have fin : ∀ j μ2, i + j ≤ 24 → Fr [o + 1] μ μ2 → (∀ q, q < i + j → μ2 (o + 1) q = nI (dg (S (i + 1)) q)) → (∀ q, i + j ≤ q → q < 24 → μ2 (o + 1) q = nI (dg (S i) q)) → (i + j = 24 ∨ (y < 1073741824 ^ j ∧ cy (S i / 1073741824 ^ i) y (dg x i) j = 0)) →
          JS Z X 113 [(0, rf Z o), (1, rf Z a), (2, rf Z b), (3, .int (nI t)), (4, .int (nI i)), (7, .int (nI j))] [] μ2 := by
        intro j μ2 hj hF2 g1 g2 hc
        refine bX0_addProduct_113 E ho ha hb ?_
        rw [nI_add, nI_add, imax (by omega) (by omega)]
        have hi24 : ∀ q, i + j ≤ q → q < 25 → S (i + 1) / 1073741824 ^ q = S i / 1073741824 ^ q := fun q hq hq2 => by
          rcases hc with e | ⟨e1, e2⟩
          · have : q = 24 := by omega
            subst this
            rw [Nat.div_eq_of_lt (Nat.lt_of_le_of_lt (S_le _) hv), Nat.div_eq_of_lt (Nat.lt_of_le_of_lt (S_le _) hv)]
          · obtain ⟨c, rfl⟩ := Nat.exists_eq_add_of_le (show i ≤ q by omega)
            rw [Nat.pow_add, ← Nat.div_div_eq_div_mul, ← Nat.div_div_eq_div_mul, S_div]
            exact cy_high e1 e2 (by omega)
        refine ih (i + 1) (max t (i + j)) μ2 (by omega) (by omega) hF2 (fun q hq => ?_) ?_
        · rcases Nat.lt_or_ge q (i + j) with g | g
          · exact g1 q g
          · rw [g2 q g hq]
            unfold dg
            rw [hi24 q g (by omega)]
        · have := hi24 (max t (i + j)) (by omega) (by omega)
          rw [Nat.div_eq_of_lt (Nat.lt_of_lt_of_le hz (DB_mono (by omega)))] at this
          exact (Nat.div_eq_zero_iff_lt (DBp _)).mp this
      have inner : ∀ k2 j μ2, i + j + k2 = 24 → Fr [o + 1] μ μ2 → (∀ q, q < i + j → μ2 (o + 1) q = nI (dg (S (i + 1)) q)) → (∀ q, i + j ≤ q → q < 24 → μ2 (o + 1) q = nI (dg (S i) q)) →
          JS Z X 23 [(0, rf Z o), (1, rf Z a), (2, rf Z b), (3, .int (nI t)), (4, .int (nI i)), (5, .long (lN (cy (S i / 1073741824 ^ i) y (dg x i) j))), (7, .int (nI j))] [] μ2 := by
        intro k2
        induction k2 with
        | zero =>
          intro j μ2 hj hF2 g1 g2
          exact bX0_addProduct_23 E ho ha hb (fun _ => fin j μ2 (by omega) hF2 g1 g2 (Or.inl (by omega))) (fun c => absurd (by rw [nI_add, nI_leE (by omega) (by omega)]; omega) c)
        | succ k2 ih2 =>
          intro j μ2 hj hF2 g1 g2
          have hcy := cy_le (x := S i / 1073741824 ^ i) (y := y) (m := dg x i) (k := j)
          have hu2 : μ2 b 1 = nI (ln y 24) := by rw [hF2 _ nb0]; exact hy.2.2.2
          have step : JS Z X 49 [(0, rf Z o), (1, rf Z a), (2, rf Z b), (3, .int (nI t)), (4, .int (nI i)), (5, .long (lN (cy (S i / 1073741824 ^ i) y (dg x i) j))), (7, .int (nI j))] [] μ2 := by
            have hij : nI i + nI j = nI (i + j) := nI_add i j
            refine bX0_addProduct_49 E ho ha hb (by rw [hij]; exact vin (by omega) (by omega)) (vin (by omega) (by omega)) (vin (by omega) (by omega)) (by rw [hij]; exact vin (by omega) (by omega)) ?_
            rw [hij, ix_nI (show i + j < 2147483648 by omega), ix_nI (show i < 2147483648 by omega), ix_nI (show j < 2147483648 by omega), g2 (i + j) (Nat.le_refl _) (by omega), hF2 _ na1, hF2 _ nb1, hx.2.2.1 i (by omega), hy.2.2.1 j (by omega), nI_l dgb, nI_l dgb, nI_l dgb, lN_mul, lN_add, lN_add]
            have hd := cy_dig (S i / 1073741824 ^ i) y (dg x i) j
            have hn := cy_next (S i / 1073741824 ^ i) y (dg x i) j
            rw [← S_div, dg_div, dg_div] at hd
            rw [dg_div] at hn
            have hbb := b63 (dg_lt (v := S i) (k := i + j)) (dg_lt (v := y) (k := j)) (show dg x i < 2147483648 by omega) (show cy (S i / 1073741824 ^ i) y (dg x i) j < 2147483648 by omega)
            rw [show cy (S i / 1073741824 ^ i) y (dg x i) j + (dg (S i) (i + j) + dg x i * dg y j) = dg (S i) (i + j) + dg y j * dg x i + cy (S i / 1073741824 ^ i) y (dg x i) j by rw [Nat.mul_comm]; omega, lN_and30 hbb, hd, lN_i]
            refine bX0_addProduct_100 E ho ha hb ?_
            rw [lN_shr30 hbb, hn, nI_add]
            refine ih2 (j + 1) _ (by omega) (hF2.tr (Fr.uR (by simp))) (fun q hq => ?_) (fun q hq hq2 => ?_)
            · rw [uR_s]
              rcases Nat.lt_or_ge q (i + j) with g | g
              · rw [pk_un (by omega)]; exact g1 q g
              · have : q = i + j := by omega
                subst this; rw [pk_us]
            · rw [uR_s, pk_un (by omega)]; exact g2 q (by omega) hq2
          refine bX0_addProduct_23 E ho ha hb (fun c => absurd c (by rw [nI_add, nI_leE (by omega) (by omega)]; omega)) (fun _ => ?_)
          refine bX0_addProduct_33 E ho ha hb (fun _ => step) (fun c => ?_)
          rw [hu2, nI_ltE (by omega) (by omega)] at c
          refine bX0_addProduct_42 E ho ha hb (fun c2 => ?_) (fun _ => step)
          rw [lg_cmp_le0 (by omega)] at c2
          exact fin j μ2 (by omega) hF2 g1 g2 (Or.inr ⟨Nat.lt_of_lt_of_le hyl (DB_mono (by omega)), c2⟩)
      refine bX0_addProduct_17 E ho ha hb ?_
      have := inner (24 - i) 0 μ1 (by omega) hF (fun q hq => by rw [h1 q (by omega), S_lo i q (by omega)]) (fun q _ hq => h1 q hq)
      rw [cy_0] at this
      exact this
  refine bX0_addProduct_0 E ho ha hb ?_
  rw [h.2.2.2]
  have h0 : S 0 = z := by show z + (x % 1073741824 ^ 0) * y = z; simp [Nat.mod_one]
  exact outer (ln x 24) 0 (ln z 24) μ (by omega) l1 Fr.rf (fun j hj => by rw [h0]; exact h.2.2.1 j hj) (by rw [h0]; exact ln_lt 24 h.2.1)
end BIG4
