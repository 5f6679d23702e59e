/-! HUNTS: the class lays a hunt -/
section LAY2
variable {Z : ZT} {μ : Mu} {D : DD}
theorem c_lay {o l n : Nat} {q : Nat → Nat} (ho : SH o = .inl 4) (hd : 78 ≤ o) (H : HC μ 1 D) (N : NC μ 27 D) (W : WF D) (WW : WN D) (hl : l < 2) (T : HQ μ o l q n) (Q : QO D q n) (M : MC μ D) (K : KL μ D) : CtrS Z mX4_lay [rf Z o] μ (rI fun v μ' => v = (if hOk D q n = true then nI 1 else nI 0) ∧ (hOk D q n = true → HLd μ' o D l q n n) ∧ HQ μ' o l q n ∧ KL μ' D ∧ Fr (layS o ++ [76, 77]) μ μ') := by
  refine CtrS.intro (by decide +kernel) (Nat.le_of_ble_eq_true rfl) rfl fun X E hB => ?_
  have hn := W.1
  have hS := W.2.2.1
  have n6 := Q.1
  have hp3 := N.2.2.1 3 (by omega)
  have hp4 := N.2.2.1 4 (by omega)
  have w3 := WW.1.2.2.2.2.1
  have w4 := WW.1.2.2.2.2.2
  have wh := WW.1.2.1
  have no : ∀ μ1, hOk D q n = false → HQ μ1 o l q n → KL μ1 D → Fr (layS o ++ [76, 77]) μ μ1 → JS Z X 49 [] [] μ1 := fun μ1 h h1 h2 h3 => by
    rw [h] at hB
    exact bX4_lay_49 E hB ⟨_, rfl, rfl, fun c => absurd c (by decide), h1, h2, h3⟩
  refine bX4_lay_0 E ho (vin (by omega) (by omega)) (vin (by omega) (by omega)) (fun c => ?_) (fun c => ?_)
  · rw [T.2.1, nI_eq0 (by omega)] at c
    exact no μ (by unfold hOk; rw [decide_eq_false (show ¬ 0 < n by omega), Bool.and_false, Bool.false_and]) T K Fr.rf
  · rw [T.2.1, nI_eq0 (by omega)] at c
    rw [ix_nI (by omega), ix_nI (by omega), show μ (27 + 1) 4 = _ from hp4, show μ (27 + 1) 3 = _ from hp3]
    refine bX4_lay_27 E ho (c_hasPlace H W) fun v μ1 g => ?_
    obtain ⟨rfl, rfl⟩ := g
    refine bX4_lay_35 E ho (fun d => ?_) (fun d => ?_)
    · rw [bz, inN_iff rfl (by omega) (by omega)] at d
      exact no μ1 (by unfold hOk; rw [decide_eq_false d, Bool.false_and, Bool.false_and, Bool.false_and]) T K Fr.rf
    · rw [bz, inN_iff rfl (by omega) (by omega)] at d
      have d := Decidable.not_not.mp d
      refine bX4_lay_38 E ho (c_hasPlace H W) fun v μ2 g => ?_
      obtain ⟨rfl, rfl⟩ := g
      refine bX4_lay_46 E ho (fun e => ?_) (fun e => ?_)
      rotate_left
      · rw [bz, inN_iff rfl (by omega) (by omega)] at e
        exact no μ2 (by unfold hOk; rw [decide_eq_false e, Bool.and_false, Bool.false_and, Bool.false_and]) T K Fr.rf
      rw [bz, inN_iff rfl (by omega) (by omega)] at e
      have e := Decidable.not_not.mp e
      have ok : hOk D q n = lgOk D q n n := by
        unfold hOk
        rw [decide_eq_true d, decide_eq_true e, decide_eq_true (show 0 < n by omega), Bool.true_and, Bool.true_and, Bool.true_and]
      have loop : ∀ k i here μ3, i + k = n → (i < n → here = hAt D q i) → lgOk D q n i = true → HLd μ3 o D l q n i → HQ μ3 o l q n → KL μ3 D → Fr (layS o ++ [76, 77]) μ2 μ3 → JS Z X 63 [(0, rf Z o), (1, .int (nI (D 13 4))), (2, .int (nI here)), (3, .int (nI i))] [] μ3 := by
        intro k
        induction k with
        | zero =>
          intro i here μ3 hi hh hg hL hq hK hF
          have : i = n := hi
          subst this
          refine bX4_lay_63 E ho (fun _ => ?_) (fun c => absurd (by rw [hq.2.1, nI_leE (by omega) (by omega)]; omega) c)
          rw [ok, hg] at hB
          exact bX4_lay_155 E hB ⟨_, rfl, rfl, fun _ => hL, hq, hK, hF⟩
        | succ k ih =>
          intro i here μ3 hi hh hg hL hq hK hF
          have hh := hh (by omega)
          subst hh
          have H3 : HC μ3 1 D := H.fr fun x hx => hF _ (by simp; omega)
          have N3 : NC μ3 27 D := N.fr fun x hx => hF _ (by simp; omega)
          have M3 : MC μ3 D := ⟨fun a b ha hb => by rw [hF _ (by simp; omega)]; exact M.1 a b ha hb, fun a b ha hb => by rw [hF _ (by simp; omega)]; exact M.2 a b ha hb⟩
          have ha := hAt_lt W Q d (show i < n by omega)
          have hx := hNx_lt W (n := n) (i := i) Q e
          refine bX4_lay_63 E ho (fun c => absurd c (by rw [hq.2.1, nI_leE (by omega) (by omega)]; omega)) (fun _ => ?_)
          refine bX4_lay_71 E ho (c_layRiddle ho (by omega) H3 N3 W WW hl hq Q (by omega) (by omega) hL.1 hL.2.1) fun μ4 g => ?_
          obtain ⟨g2, g3, g5, g6, g0, gF⟩ := g
          have f4 : ∀ x, x ∉ layS o → μ4 x = μ3 x := gF
          have K4 : KL μ4 D := fun s a b hs ha hb => by
            have := hK s a b hs ha hb
            unfold LK at this ⊢
            rw [f4 _ (by simp; omega), f4 _ (by simp; omega)]; exact this
          have H4 : HC μ4 1 D := H3.fr fun x hx => f4 _ (by simp; omega)
          have M4 : MC μ4 D := ⟨fun a b ha hb => by rw [f4 _ (by simp; omega)]; exact M3.1 a b ha hb, fun a b ha hb => by rw [f4 _ (by simp; omega)]; exact M3.2 a b ha hb⟩
          have Q4 : HQ μ4 o l q n := ⟨by rw [g0, pk_un (by decide)]; exact hq.1, by rw [g0, pk_un (by decide)]; exact hq.2.1, fun j hj => by rw [f4 _ (by simp)]; exact hq.2.2 j hj⟩
          have fin : ∀ x, x = hNx D q n i → JS Z X 107 [(0, rf Z o), (1, .int (nI (D 13 4))), (2, .int (nI (hAt D q i))), (3, .int (nI i))] [.int (nI x)] μ4 := fun x hxe => by
            subst hxe
            refine bX4_lay_107 E ho (vin (by omega) (by omega)) (by rw [ix_nI (by omega), Q4.2.2 i (by omega)]; exact c_leg H4 W M4 K4 (Q.2 i (by omega)) ha hx) fun v μ5 g => ?_
            obtain ⟨rfl, -, K5, F5⟩ := g
            have F : Fr (layS o ++ [76, 77]) μ2 μ5 := (hF.tr (gF.mo fun a ha => List.mem_append_left _ ha)).tr (F5.mo fun a ha => List.mem_append_right _ ha)
            have f5 : ∀ x, x ≠ 76 → x ≠ 77 → μ5 x = μ4 x := fun x h1 h2 => F5 x (by simp; omega)
            have Q5 : HQ μ5 o l q n := ⟨by rw [f5 _ (by omega) (by omega)]; exact Q4.1, by rw [f5 _ (by omega) (by omega)]; exact Q4.2.1, fun j hj => by rw [f5 _ (by omega) (by omega)]; exact Q4.2.2 j hj⟩
            have lgd : legR D (q i) (hAt D q i) (hNx D q n i) = hLg D q n i := rfl
            rw [lgd]
            cases hR : hLg D q n i with
            | none =>
              refine bX4_lay_125 E ho (fun c => absurd rfl c) (fun _ => ?_)
              have z : hOk D q n = false := by
                rw [ok]
                cases hz : lgOk D q n n with
                | false => rfl
                | true =>
                  obtain ⟨r, hr⟩ := lgOk_at hz (show i < n by omega)
                  rw [hR] at hr
                  exact nomatch hr
              rw [z] at hB
              exact bX4_lay_133 E hB ⟨_, rfl, rfl, fun c => absurd c (by decide), Q5, K5, F⟩
            | some r =>
              have rl : r.1 ≤ 100000 := legR_le hR
              show JS Z X 125 [(0, rf Z o), (1, .int (nI (D 13 4))), (3, .int (nI i)), (4, .int (nI (hNx D q n i)))] [.int (nI r.1)] μ5
              have nm : ¬ nI r.1 = -1 := fun e => absurd (show nI r.1 < 0 by rw [e]; decide) (Int32.not_lt.mpr (nI_pos' (by omega)))
              have wl := hWk_le (D := D) (q := q) (n := n) i
              have e11 : μ5 o 11 = nI (hWk D q n i) := by rw [f5 _ (by omega) (by omega), g0, pk_un (by decide)]; exact hL.1
              refine bX4_lay_125 E ho (fun _ => bX4_lay_135 E ho (bX4_lay_146 E ho ?_)) (fun c => absurd c nm)
              rw [e11, nI_add, nI_add]
              have u : ∀ x, x ≠ o → (uR μ5 o (upd (μ5 o) 11 (nI (hWk D q n i + r.1)))) x = μ4 x ∨ x = 76 ∨ x = 77 := fun x hx => by
                rw [uR_n hx]
                by_cases h1 : x = 76
                · exact Or.inr (Or.inl h1)
                · by_cases h2 : x = 77
                  · exact Or.inr (Or.inr h2)
                  · exact Or.inl (f5 x h1 h2)
              have ua : ∀ x, x ≠ o → x ≠ 76 → x ≠ 77 → (uR μ5 o (upd (μ5 o) 11 (nI (hWk D q n i + r.1)))) x = μ4 x := fun x h1 h2 h3 => by
                rcases u x h1 with h | h | h
                · exact h
                · exact absurd h h2
                · exact absurd h h3
              have wk1 : hWk D q n (i + 1) = hWk D q n i + r.1 := by rw [hWk, hR]; rfl
              have msE : miss D (l + 1) (D 8 (q i)) (hAt D q i) 6 = hMs D l q i := rfl
              have le1 : hLe D l q (i + 1) = hLe D l q i + (if miss D (l + 1) (D 8 (q i)) (hAt D q i) 6 < 1000000 then 1 else D 13 0) := rfl
              refine ih (i + 1) _ _ (by omega) (fun h => hNx_at h) (by rw [lgOk, hg, hR]; rfl) ?_ ?_ ?_ (F.tr (Fr.uR (by simp)))
              · refine ⟨by rw [uR_s, pk_us, wk1], ?_, fun j hj => ?_⟩
                · rw [uR_s, pk_un (by decide), f5 _ (by omega) (by omega), g0, pk_us, le1]
                · rw [ua _ (by omega) (by omega) (by omega), ua _ (by omega) (by omega) (by omega), ua _ (by omega) (by omega) (by omega), ua _ (by omega) (by omega) (by omega), g2, g3, g5, g6]
                  refine ⟨upd_at (fun e => by rw [e]) fun e => (hL.2.2 j (by omega)).1, upd_at (fun e => by rw [e, msE]) fun e => (hL.2.2 j (by omega)).2.1, upd_at (fun e => by rw [e]) fun e => (hL.2.2 j (by omega)).2.2.1, upd_at (fun e => by rw [e]) fun e => (hL.2.2 j (by omega)).2.2.2⟩
              · exact ⟨by rw [uR_s, pk_un (by decide)]; exact Q5.1, by rw [uR_s, pk_un (by decide)]; exact Q5.2.1, fun j hj => by rw [uR_n (by omega)]; exact Q5.2.2 j hj⟩
              · intro s a b hs ha hb
                have := K5 s a b hs ha hb
                unfold LK at this ⊢
                rw [uR_n (by omega), uR_n (by omega)]; exact this
          refine bX4_lay_77 E ho (fun c => ?_) (fun c => ?_)
          · rw [Q4.2.1, nI_add, nI_leE (by omega) (by omega)] at c
            exact bX4_lay_106 E ho (fin _ (by rw [hNx, if_neg (by omega)]))
          · rw [Q4.2.1, nI_add, nI_leE (by omega) (by omega)] at c
            have lt := Q.2 (i + 1) (by omega)
            refine bX4_lay_87 E ho (by rw [nI_add]; exact vin (by omega) (by omega)) (by rw [nI_add, ix_nI (by omega), Q4.2.2 (i + 1) (by omega)]; exact vin (by omega) (by omega)) ?_
            rw [nI_add, ix_nI (show i + 1 < 2147483648 by omega), Q4.2.2 (i + 1) (by omega), ix_nI (by omega), show μ4 (1 + 7) (q (i + 1)) = _ from (H4.2.2.2.2.2.2.2.1 _ lt).1]
            exact fin _ (by rw [hNx, if_pos (by omega)])
      refine bX4_lay_51 E ho (bX4_lay_56 E ho (bX4_lay_61 E ho ?_))
      refine loop n 0 (D 13 3) _ (by omega) (fun _ => rfl) rfl ?_ ?_ ?_ ((Fr.uR (by simp)).tr (Fr.uR (by simp)))
      · exact ⟨by rw [uR_s, pk_un (by decide), uR_s, pk_us]; rfl, by rw [uR_s, pk_us]; rfl, fun j hj => absurd hj (Nat.not_lt_zero j)⟩
      · exact ⟨by rw [uR_s, pk_un (by decide), uR_s, pk_un (by decide)]; exact T.1, by rw [uR_s, pk_un (by decide), uR_s, pk_un (by decide)]; exact T.2.1, fun j hj => by rw [uR_n (by omega), uR_n (by omega)]; exact T.2.2 j hj⟩
      · intro s a b hs ha hb
        have := K s a b hs ha hb
        unfold LK at this ⊢
        rw [uR_n (by omega), uR_n (by omega), uR_n (by omega), uR_n (by omega)]; exact this
end LAY2
