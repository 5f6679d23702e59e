/-! HUNTS: whether there is one, on both sides -/
abbrev hSt (o : Nat) : List Nat := [o, o + 1, o + 2, o + 3, o + 4, o + 5, o + 6, 74, 75, 76, 77]
section HUNT
variable {Z : ZT} {μ : Mu} {D : DD} {im : Nat → Option DD} {tx : TX} {s : Nat → Int32} {f : Nat × Nat}
theorem MC.congr {μ' : Mu} (M : MC μ D) (h1 : μ' 74 = μ 74) (h2 : μ' 75 = μ 75) : MC μ' D := ⟨fun a b ha hb => by rw [h1]; exact M.1 a b ha hb, fun a b ha hb => by rw [h2]; exact M.2 a b ha hb⟩
theorem KL.congr {μ' : Mu} (K : KL μ D) (h1 : μ' 76 = μ 76) (h2 : μ' 77 = μ 77) : KL μ' D := fun s a b hs ha hb => by
  have := K s a b hs ha hb
  unfold LK at this ⊢
  rw [h1, h2]; exact this
theorem c_canHunt {o l : Nat} (ho : SH o = .inl 4) (hd : 78 ≤ o) (H : HC μ 1 D) (N : NC μ 27 D) (W : WF D) (WW : WN D) (hl : l < 2) : CtrS Z mX11_canHunt [xrf Z, rf Z o, .int (nI l)] μ (rI fun v μ' => v = (if hOk D (ro D l) (D 11 l) = true then nI 1 else nI 0) ∧ (hOk D (ro D l) (D 11 l) = true → HLd μ' o D l (ro D l) (D 11 l) (D 11 l)) ∧ HQ μ' o l (ro D l) (D 11 l) ∧ MC μ' D ∧ KL μ' D ∧ Fr (hSt o) μ μ') := by
  refine CtrS.intro (by decide +kernel) (Nat.le_of_ble_eq_true rfl) rfl fun X E hB => ?_
  refine bX11_canHunt_0 E ho (c_measure H W) fun μ1 g => ?_
  obtain ⟨M1, K1, F1⟩ := g
  have H1 : HC μ1 1 D := H.fr fun x hx => F1 _ (by simp; omega)
  have N1 : NC μ1 27 D := N.fr fun x hx => F1 _ (by simp; omega)
  refine bX11_canHunt_7 E ho (c_take ho (by omega) H1 W hl) fun μ2 g => ?_
  obtain ⟨T2, F2⟩ := g
  have H2 : HC μ2 1 D := H1.fr fun x hx => F2 _ (by simp; omega)
  have N2 : NC μ2 27 D := N1.fr fun x hx => F2 _ (by simp; omega)
  have M2 : MC μ2 D := M1.congr (F2 _ (by simp; omega)) (F2 _ (by simp; omega))
  have K2 : KL μ2 D := fun s a b hs ha hb => by
    have hn := W.1
    have hS := W.2.2.1
    exact Or.inl (by rw [F2 _ (by simp; omega)]; exact K1 _ (by omega))
  refine bX11_canHunt_12 E ho (c_lay ho hd H2 N2 W WW hl T2 (QO.row W hl) M2 K2) fun v μ3 g => ?_
  obtain ⟨rfl, g1, g2, g3, g4⟩ := g
  refine bX11_canHunt_16 E hB (z01 (by split <;> simp)) ⟨_, rfl, rfl, g1, g2, M2.congr (g4 _ (by simp; omega)) (g4 _ (by simp; omega)), g3, ?_⟩
  refine ((F1.mo fun a ha => ?_).tr (F2.mo fun a ha => ?_)).tr (g4.mo fun a ha => ?_)
  · simp at ha ⊢; omega
  · simp at ha ⊢; omega
  · simp at ha ⊢; omega
theorem hSt_P {o : Nat} {μ' : Mu} (hd : 78 ≤ o) (hd2 : o ≤ 85) (h : Fr (hSt o) μ μ') : FrP μ μ' := FrP.ofFr h fun a ha => by simp at ha; omega
theorem hSt_SC {o : Nat} {μ' : Mu} (hd : 78 ≤ o) (hd2 : o ≤ 85) (h : Fr (hSt o) μ μ') (q : SC μ) : SC μ' := q.fr fun a h1 h2 => h a (by simp; omega)
/-! the reference's -/
theorem go_lt {to : Nat} : ∀ k p left r, go D to k p left = some r → r.1 ≤ 9999 * k
  | 0, _, _, r, h => nomatch h
  | k + 1, p, left, r, h => by
    rw [go] at h
    have ok := nr_ok (D := D) (p := p) (left := left) (D 0 0)
    cases hq : nr D p left (D 0 0) with
    | zero => rw [hq] at h; exact nomatch h
    | succ q =>
      rw [hq] at h ok
      have ok := (ok (Nat.succ_ne_zero q)).2
      rw [Nat.add_sub_cancel] at ok
      dsimp only at h
      by_cases c : q = to
      · rw [if_pos c] at h
        obtain rfl := Option.some.inj h
        dsimp only
        omega
      · rw [if_neg c] at h
        cases hg : go D to k q (clr left q) with
        | none => rw [hg] at h; exact nomatch h
        | some r2 =>
          rw [hg] at h
          have := go_lt k q (clr left q) r2 hg
          obtain rfl := Option.some.inj h
          dsimp only
          omega
def RowQ (μ : Mu) (q : Nat → Nat) (n : Nat) : Prop := μ 455 13 = nI n ∧ ∀ i, i < n → μ 462 i = nI (q i)
def HY (μ : Mu) (D : DD) (q : Nat → Nat) (n : Nat) : Prop := μ 455 17 = nI (hWk D q n n) ∧ ∀ i, i < n → μ 463 i = nI (hAt D q i) ∧ μ 464 i = nI (hW1 (hLg D q n i))
def FrHy (μ μ' : Mu) : Prop := (∀ a, a ≠ 455 → a ≠ 463 → a ≠ 464 → μ' a = μ a) ∧ ∀ k, k ≠ 12 → k ≠ 17 → μ' 455 k = μ 455 k
theorem FrHy.rf : FrHy μ μ := ⟨fun _ _ _ _ => rfl, fun _ _ _ => rfl⟩
theorem FrHy.tr {μ1 μ2 : Mu} (h1 : FrHy μ μ1) (h2 : FrHy μ1 μ2) : FrHy μ μ2 := ⟨fun a ha hb hc => (h2.1 a ha hb hc).trans (h1.1 a ha hb hc), fun k hk hj => (h2.2 k hk hj).trans (h1.2 k hk hj)⟩
theorem FrHy.q {μ' : Mu} (h : FrHy μ μ') : FrQ μ μ' := ⟨fun a ha hb => h.1 a hb (by omega) (by omega), h.2 _ (by decide) (by decide), h.2 _ (by decide) (by decide), fun i _ => by rw [h.1 _ (by decide) (by decide) (by decide)]⟩
theorem FrHy.n {μ' : Mu} (h : FrN μ μ') : FrHy μ μ' := ⟨fun a ha _ _ => h.1 a ha, fun k hk _ => h.2 k hk⟩
theorem FrHy.row {μ' : Mu} {q : Nat → Nat} {n : Nat} (h : FrHy μ μ') (T : RowQ μ q n) : RowQ μ' q n := ⟨by rw [h.2 _ (by decide) (by decide)]; exact T.1, fun i hi => by rw [h.1 _ (by decide) (by decide) (by decide)]; exact T.2 i hi⟩
theorem m_isSet (H : HM (μ 456) 0 D) (N : NM (μ 456) 0 D) (W : WF D) (WW : WN D) : CtrS Z mX12_isSet [mrf Z] μ (rI fun v μ' => v = (if D 13 3 < D 0 0 ∧ D 13 4 < D 0 0 then nI 1 else nI 0) ∧ μ' = μ) := by
  refine CtrS.intro (by decide +kernel) (Nat.le_of_ble_eq_true rfl) rfl fun X E hB => ?_
  have hn := W.1
  have w3 := WW.1.2.2.2.2.1
  have w4 := WW.1.2.2.2.2.2
  have h0 : μ 456 0 = nI (D 0 0) := H.1
  have h3 : μ 456 204 = nI (D 13 3) := N.2.1 3 (by omega)
  have h4 : μ 456 205 = nI (D 13 4) := N.2.1 4 (by omega)
  have no : ¬ (D 13 3 < D 0 0 ∧ D 13 4 < D 0 0) → JS Z X 38 [] [] μ := fun c => by
    rw [if_neg c] at hB
    exact bX12_isSet_38 E (bX12_isSet_39 E hB rfl ⟨_, rfl, rfl, rfl⟩)
  refine bX12_isSet_0 E (vin (by omega) (by omega)) (vin (by omega) (by omega)) (fun c => ?_) (fun c => ?_)
  · rw [ix_nI (by omega), ix_nI (by omega), h0, h3, nI_leE (by omega) (by omega)] at c
    exact no fun g => by omega
  · rw [ix_nI (by omega), ix_nI (by omega), h0, h3, nI_leE (by omega) (by omega)] at c
    refine bX12_isSet_17 E (vin (by omega) (by omega)) (vin (by omega) (by omega)) (fun d => ?_) (fun d => ?_)
    · rw [ix_nI (by omega), ix_nI (by omega), h0, h4, nI_leE (by omega) (by omega)] at d
      exact no fun g => by omega
    · rw [ix_nI (by omega), ix_nI (by omega), h0, h4, nI_leE (by omega) (by omega)] at d
      rw [if_pos ⟨by omega, by omega⟩] at hB
      exact bX12_isSet_34 E (bX12_isSet_39 E hB rfl ⟨_, rfl, rfl, rfl⟩)
theorem m_findHunt {q : Nat → Nat} {n : Nat} (H : HM (μ 456) 0 D) (N : NM (μ 456) 0 D) (W : WF D) (WW : WN D) (Q : QO D q n) (T : RowQ μ q n) (M : FM μ D) : CtrS Z mX12_findHunt [mrf Z] μ (rI fun v μ' => v = (if hOk D q n = true then nI 1 else nI 0) ∧ (hOk D q n = true → HY μ' D q n) ∧ FrHy μ μ') := by
  refine CtrS.intro (by decide +kernel) (Nat.le_of_ble_eq_true rfl) rfl fun X E hB => ?_
  have hn := W.1
  have hS := W.2.2.1
  have n6 := Q.1
  have w3 := WW.1.2.2.2.2.1
  have w4 := WW.1.2.2.2.2.2
  have h3 : μ 456 204 = nI (D 13 3) := N.2.1 3 (by omega)
  have h4 : μ 456 205 = nI (D 13 4) := N.2.1 4 (by omega)
  have no : hOk D q n = false → JS Z X 14 [] [] μ := fun h => by
    rw [h] at hB
    exact bX12_findHunt_14 E hB ⟨_, rfl, rfl, fun c => absurd c (by decide), FrHy.rf⟩
  refine bX12_findHunt_0 E (m_isSet H N W WW) fun v μ1 g => ?_
  obtain ⟨rfl, rfl⟩ := g
  refine bX12_findHunt_4 E (fun c => ?_) (fun c => ?_)
  · rw [bz] at c
    refine no ?_
    unfold hOk
    by_cases d : D 13 3 < D 0 0
    · rw [decide_eq_false (show ¬ D 13 4 < D 0 0 from fun e => c ⟨d, e⟩), Bool.and_false, Bool.false_and, Bool.false_and]
    · rw [decide_eq_false d, Bool.false_and, Bool.false_and, Bool.false_and]
  · rw [bz] at c
    obtain ⟨d, e⟩ := Decidable.not_not.mp c
    refine bX12_findHunt_7 E (fun c => ?_) (fun c => ?_)
    rotate_left
    · rw [T.1, nI_eq0 (by omega)] at c
      exact no (by unfold hOk; rw [decide_eq_false (show ¬ 0 < n by omega), Bool.and_false, Bool.false_and])
    rw [T.1, nI_eq0 (by omega)] at c
    have ok : hOk D q n = lgOk D q n n := by
      unfold hOk
      rw [decide_eq_true d, decide_eq_true e, decide_eq_true (show 0 < n by omega), Bool.true_and, Bool.true_and, Bool.true_and]
    have L2 : ∀ k i μ2, i + k = n → (∀ j, j < n → μ2 463 j = nI (hAt D q j)) → (∀ j, j < i → μ2 464 j = nI (hW1 (hLg D q n j))) → μ2 455 17 = nI (hWk D q n i) → lgOk D q n i = true → FrHy μ1 μ2 → JS Z X 75 [(0, mrf Z), (1, .int (nI i))] [] μ2 := by
      intro k
      induction k with
      | zero =>
        intro i μ2 hi h1 h2 h3 hg hF
        have : i = n := hi
        subst this
        refine bX12_findHunt_75 E (fun _ => ?_) (fun c => absurd (by rw [(hF.row T).1, nI_leE (by omega) (by omega)]; omega) c)
        rw [ok, hg] at hB
        exact bX12_findHunt_168 E hB ⟨_, rfl, rfl, fun _ => ⟨h3, fun j hj => ⟨h1 j hj, h2 j hj⟩⟩, hF⟩
      | succ k ih =>
        intro i μ2 hi h1 h2 h3 hg hF
        have T2 := hF.row T
        have H2 : HM (μ2 456) 0 D := by rw [hF.1 _ (by decide) (by decide) (by decide)]; exact H
        have M2 : FM μ2 D := M.fr (hF.1 _ (by decide) (by decide) (by decide))
        have wl := hWk_le (D := D) (q := q) (n := n) i
        have fin : JS Z X 130 [(0, mrf Z), (1, .int (nI i))] [.int (nI (hNx D q n i)), .int (nI (q i)), .int (nI (hAt D q i)), mrf Z, .int (nI i), rf Z 464] μ2 := by
          refine bX12_findHunt_130 E (by decide) (m_searchFor H2 W M2 (hAt_lt W Q d (by omega)) (Q.2 i (by omega)) (hNx_lt W Q e)) fun v μ3 g => ?_
          obtain ⟨gv, gF⟩ := g
          have ev : v = (match hLg D q n i with | none => nI 100000 | some r => nI r.1) ∧ ∀ r, hLg D q n i = some r → r.1 ≤ 99990 := by
            unfold hLg legR goR
            cases hg : go D (hNx D q n i) 10 (hAt D q i) (D 10 (q i) ||| 2 ^ hNx D q n i) with
            | none => rw [hg] at gv; exact ⟨gv, fun r hr => nomatch hr⟩
            | some r =>
              rw [hg] at gv
              refine ⟨gv.1, fun r2 hr => ?_⟩
              have := go_lt 10 _ _ r hg
              obtain rfl := Option.some.inj hr
              exact this
          obtain ⟨rfl, rl⟩ := ev
          have F3 := hF.tr (FrHy.n gF)
          refine bX12_findHunt_133 E (by decide) (vin (by omega) (by omega)) ?_
          rw [ix_nI (by omega)]
          cases hR : hLg D q n i with
          | none =>
            refine bX12_findHunt_134 E (vin (by omega) (by omega)) (fun c => absurd c (by rw [ix_nI (by omega), uR_s, pk_us]; decide)) (fun _ => ?_)
            have z : hOk D q n = false := by
              rw [ok]
              cases hz : lgOk D q n n with
              | false => rfl
              | true =>
                obtain ⟨r, hr⟩ := lgOk_at hz (show i < n by omega)
                rw [hR] at hr
                exact nomatch hr
            rw [z] at hB
            exact bX12_findHunt_145 E hB ⟨_, rfl, rfl, fun c => absurd c (by decide), F3.tr ⟨fun a _ _ h => uR_n h, fun k _ _ => by rw [uR_n (by decide)]⟩⟩
          | some r =>
            have rl := rl r hR
            refine bX12_findHunt_134 E (vin (by omega) (by omega)) (fun _ => ?_) (fun c => absurd (by rw [ix_nI (by omega), uR_s, pk_us, nI_ltE (by omega) (by omega)]; omega) c)
            refine bX12_findHunt_147 E (vin (by omega) (by omega)) (bX12_findHunt_162 E ?_)
            rw [ix_nI (by omega), uR_s, pk_us, uR_n (show 455 ≠ 464 by decide), gF.2 17 (by decide), h3, nI_add, nI_add]
            have wk1 : hWk D q n (i + 1) = hWk D q n i + r.1 := by rw [hWk, hR]; rfl
            refine ih (i + 1) _ (by omega) (fun j hj => ?_) (fun j hj => ?_) (by rw [uR_s, pk_us, wk1]) (by rw [lgOk, hg, hR]; rfl) ?_
            · rw [uR_n (by decide), uR_n (by decide), gF.1 _ (by decide)]; exact h1 j hj
            · rw [uR_n (by decide), uR_s]
              refine upd_at (fun e => by rw [e, hR]; rfl) (fun e => by rw [gF.1 _ (by decide)]; exact h2 j (by omega))
            · exact F3.tr ⟨fun a h1 h2 h3 => by rw [uR_n h1, uR_n h3], fun k h1 h2 => by rw [uR_s, pk_un h2]⟩
        refine bX12_findHunt_75 E (fun c => absurd c (by rw [T2.1, nI_leE (by omega) (by omega)]; omega)) (fun _ => ?_)
        refine bX12_findHunt_83 E (vin (by omega) (by omega)) (vin (by omega) (by omega)) (fun c => ?_) (fun c => ?_)
        · rw [T2.1, nI_add, nI_leE (by omega) (by omega)] at c
          refine bX12_findHunt_122 E (by decide) (vin (by omega) (by omega)) ?_
          rw [ix_nI (by omega), ix_nI (show i < 2147483648 by omega), T2.2 i (by omega), h1 i (by omega), show μ2 456 205 = nI (D 13 4) by rw [hF.1 _ (by decide) (by decide) (by decide)]; exact h4]
          rw [show D 13 4 = hNx D q n i by rw [hNx, if_neg (by omega)]]
          exact fin
        · rw [T2.1, nI_add, nI_leE (by omega) (by omega)] at c
          refine bX12_findHunt_111 E (by decide) (by rw [nI_add]; exact vin (by omega) (by omega)) ?_
          rw [nI_add, ix_nI (by omega), ix_nI (show i < 2147483648 by omega), T2.2 i (by omega), h1 i (by omega), h1 (i + 1) (by omega), ← hNx_at (n := n) (by omega)]
          exact fin
    have L1 : ∀ k i μ2, i + k = n → (∀ j, j < i → μ2 463 j = nI (hAt D q j)) → μ2 455 17 = nI 0 → FrHy μ1 μ2 → JS Z X 23 [(0, mrf Z), (1, .int (nI i))] [] μ2 := by
      intro k
      induction k with
      | zero =>
        intro i μ2 hi h1 h2 hF
        have : i = n := hi
        subst this
        refine bX12_findHunt_23 E (fun _ => bX12_findHunt_73 E ?_) (fun c => absurd (by rw [(hF.row T).1, nI_leE (by omega) (by omega)]; omega) c)
        exact L2 i 0 μ2 (by omega) h1 (fun j hj => absurd hj (Nat.not_lt_zero j)) h2 rfl hF
      | succ k ih =>
        intro i μ2 hi h1 h2 hF
        have T2 := hF.row T
        have H2 : HM (μ2 456) 0 D := by rw [hF.1 _ (by decide) (by decide) (by decide)]; exact H
        have fin : JS Z X 66 [(0, mrf Z), (1, .int (nI i))] [.int (nI (hAt D q i)), .int (nI i), rf Z 463] μ2 := by
          refine bX12_findHunt_66 E (by decide) (vin (by omega) (by omega)) (bX12_findHunt_67 E ?_)
          rw [ix_nI (by omega), nI_add]
          refine ih (i + 1) _ (by omega) (fun j hj => ?_) (by rw [uR_n (by decide)]; exact h2) (hF.tr ⟨fun a _ h _ => uR_n h, fun k _ _ => by rw [uR_n (by decide)]⟩)
          rw [uR_s]
          exact upd_at (fun e => by rw [e]) (fun e => h1 j (by omega))
        refine bX12_findHunt_23 E (fun c => absurd c (by rw [T2.1, nI_leE (by omega) (by omega)]; omega)) (fun _ => ?_)
        refine bX12_findHunt_31 E (fun c => ?_) (fun c => ?_)
        · rw [nI_eq0 (by omega)] at c
          obtain ⟨j, rfl⟩ : ∃ j, i = j + 1 := ⟨i - 1, by omega⟩
          have lt := Q.2 (j + 1) (by omega)
          have g := (H2.2.2.2.2.2.2.1 _ lt).1
          rw [show 0 + 155 + q (j + 1) = 155 + q (j + 1) by omega] at g
          refine bX12_findHunt_51 E (by decide) (vin (by omega) (by omega)) (by rw [ix_nI (by omega), T2.2 _ (by omega), nI_add]; exact vin (by omega) (by omega)) ?_
          rw [ix_nI (show j + 1 < 2147483648 by omega), T2.2 _ (by omega), nI_add, ix_nI (by omega), g]
          exact fin
        · rw [nI_eq0 (by omega)] at c
          subst c
          refine bX12_findHunt_40 E (by decide) (vin (by omega) (by omega)) ?_
          rw [ix_nI (by omega), show μ2 456 204 = nI (D 13 3) by rw [hF.1 _ (by decide) (by decide) (by decide)]; exact h3]
          exact fin
    refine bX12_findHunt_16 E (bX12_findHunt_21 E ?_)
    exact L1 n 0 _ (by omega) (fun j hj => absurd hj (Nat.not_lt_zero j)) (by rw [uR_s, pk_us]) ⟨fun a h1 _ _ => uR_n h1, fun k _ h2 => by rw [uR_s, pk_un h2]⟩
/-- the reference's hunt of a lot; what may have changed -/
theorem m_isHunt {l : Nat} (R : RepM μ D im tx s f) (O : OkS D im tx) (hl : l < 2) : CtrS Z mX12_isHunt [mrf Z, .int (nI l)] μ (rI fun v μ' => v = (if hOk D (ro D l) (D 11 l) = true then nI 1 else nI 0) ∧ (hOk D (ro D l) (D 11 l) = true → HY μ' D (ro D l) (D 11 l)) ∧ RowQ μ' (ro D l) (D 11 l) ∧ FM μ' D ∧ RepM μ' D im tx s f ∧ FrQ μ μ' ∧ (∀ a, 464 < a → μ' a = μ a)) := by
  refine CtrS.intro (by decide +kernel) (Nat.le_of_ble_eq_true rfl) rfl fun X E hB => ?_
  have W := O.1.1
  refine bX12_isHunt_0 E (m_findWalks R.1 W) fun μ1 g => ?_
  obtain ⟨M1, F1⟩ := g
  have q1 : FrQ μ μ1 := ⟨fun a ha _ => F1 a (by simp; omega), by rw [F1 _ (by decide)], by rw [F1 _ (by decide)], fun i _ => by rw [F1 _ (by decide)]⟩
  have R1 := q1.rep R
  refine bX12_isHunt_4 E (m_takeRow R1.1 W hl) fun μ2 g => ?_
  obtain ⟨T2, F2⟩ := g
  have R2 := F2.q.rep R1
  refine bX12_isHunt_9 E (m_findHunt R2.1 R2.2.1 W O.1.2 (QO.row W hl) T2 (M1.fr (F2.1 _ (by decide) (by decide)))) fun v μ3 g => ?_
  obtain ⟨rfl, g1, g2⟩ := g
  exact bX12_isHunt_13 E hB (z01 (by split <;> simp)) ⟨_, rfl, rfl, g1, g2.row T2, (M1.fr (F2.1 _ (by decide) (by decide))).fr (g2.1 _ (by decide) (by decide) (by decide)), g2.q.rep R2, (q1.tr F2.q).tr g2.q, fun a ha => by rw [g2.1 a (by omega) (by omega) (by omega), F2.1 a (by omega) (by omega), F1 a (by simp; omega)]⟩
end HUNT
