/-! MEET: pairs of slips at which two hunts are at a time -/
def hS0 (D : DD) (l : Nat) (q : Nat → Nat) (n i : Nat) : Nat := hWk D q n i + hLe D l q i
def hE0 (D : DD) (q : Nat → Nat) (n i : Nat) : Nat := hWk D q n i + (i + 1) * D 13 0
/-- a hunt: its lot, its order, how many -/
abbrev HN : Type := Nat × (Nat → Nat) × Nat
def mtc (D : DD) (A B : HN) (i j : Nat) : Bool := decide (hAt D A.2.1 i = hAt D B.2.1 j) && decide (hS0 D A.1 A.2.1 A.2.2 i ≤ hE0 D B.2.1 B.2.2 j) && decide (hS0 D B.1 B.2.1 B.2.2 j ≤ hE0 D A.2.1 A.2.2 i)
def mt2 (D : DD) (A B : HN) (i : Nat) : Nat → Nat
  | 0 => 0
  | j + 1 => mt2 D A B i j + if mtc D A B i j = true then 1 else 0
def mt (D : DD) (A B : HN) : Nat → Nat
  | 0 => 0
  | i + 1 => mt D A B i + mt2 D A B i B.2.2
theorem mt2_le {D : DD} {A B : HN} {i : Nat} : ∀ j, mt2 D A B i j ≤ j
  | 0 => Nat.le_refl 0
  | j + 1 => by have := mt2_le (D := D) (A := A) (B := B) (i := i) j; unfold mt2; split <;> omega
theorem mt_le {D : DD} {A B : HN} (hB : B.2.2 ≤ 6) : ∀ i, mt D A B i ≤ 6 * i
  | 0 => Nat.le_refl 0
  | i + 1 => by
    have := mt_le (D := D) (A := A) hB i
    have := mt2_le (D := D) (A := A) (B := B) (i := i) B.2.2
    unfold mt; omega
section MEET
variable {Z : ZT} {μ : Mu} {D : DD} {im : Nat → Option DD} {tx : TX} {s : Nat → Int32} {f : Nat × Nat}
theorem c_meetings {o o2 l l2 n n2 : Nat} {q q2 : Nat → Nat} (ho : SH o = .inl 4) (ho2 : SH o2 = .inl 4) (W : WF D) (WW : WN D) (Q : QO D q n) (Q2 : QO D q2 n2) (h3 : D 13 3 < D 0 0) (T : HQ μ o l q n) (T2 : HQ μ o2 l2 q2 n2) (L : HLd μ o D l q n n) (L2 : HLd μ o2 D l2 q2 n2 n2) : CtrS Z mX4_meetings [rf Z o, rf Z o2] μ (rI fun v μ' => v = nI (mt D (l, q, n) (l2, q2, n2) n) ∧ μ' = μ) := by
  refine CtrS.intro (by decide +kernel) (Nat.le_of_ble_eq_true rfl) rfl fun X E hB => ?_
  have n6 := Q.1
  have n26 := Q2.1
  have hn := W.1
  have h6 := WW.1.2.1
  have wk : ∀ i, i ≤ 6 → hWk D q n i ≤ 600000 := fun i hi => by have := hWk_le (D := D) (q := q) (n := n) i; omega
  have wk2 : ∀ i, i ≤ 6 → hWk D q2 n2 i ≤ 600000 := fun i hi => by have := hWk_le (D := D) (q := q2) (n := n2) i; omega
  have le : ∀ i, i ≤ 6 → hLe D l q i ≤ 36 := fun i hi => by have := hLe_le WW (l := l) (q := q) i; omega
  have le2 : ∀ i, i ≤ 6 → hLe D l2 q2 i ≤ 36 := fun i hi => by have := hLe_le WW (l := l2) (q := q2) i; omega
  have hh : ∀ i, i < 6 → (i + 1) * D 13 0 ≤ 36 := fun i hi => by have := Nat.mul_le_mul (show i + 1 ≤ 6 by omega) h6; omega
  have loop : ∀ k i, i + k = n → JS Z X 4 [(0, rf Z o), (1, rf Z o2), (2, .int (nI (mt D (l, q, n) (l2, q2, n2) i))), (3, .int (nI i))] [] μ := by
    intro k
    induction k with
    | zero =>
      intro i hi
      have : i = n := hi
      subst this
      exact bX4_meetings_4 E ho ho2 (fun _ => bX4_meetings_87 E hB ⟨_, rfl, rfl, rfl⟩) (fun c => absurd (by rw [T.2.1, nI_leE (by omega) (by omega)]; omega) c)
    | succ k ih =>
      intro i hi
      refine bX4_meetings_4 E ho ho2 (fun c => absurd c (by rw [T.2.1, nI_leE (by omega) (by omega)]; omega)) (fun _ => bX4_meetings_12 E ho ho2 ?_)
      have inner : ∀ k' j, j + k' = n2 → JS Z X 15 [(0, rf Z o), (1, rf Z o2), (2, .int (nI (mt D (l, q, n) (l2, q2, n2) i + mt2 D (l, q, n) (l2, q2, n2) i j))), (3, .int (nI i)), (4, .int (nI j))] [] μ := by
        intro k'
        induction k' with
        | zero =>
          intro j hj
          have : j = n2 := hj
          subst this
          refine bX4_meetings_15 E ho ho2 (fun _ => bX4_meetings_81 E ho ho2 ?_) (fun c => absurd (by rw [T2.2.1, nI_leE (by omega) (by omega)]; omega) c)
          rw [nI_add]
          exact ih (i + 1) (by omega)
        | succ k' ihk =>
          intro j hj
          obtain ⟨a1, -, a3, a4⟩ := L.2.2 i (by omega)
          obtain ⟨b1, -, b3, b4⟩ := L2.2.2 j (by omega)
          have at1 := hAt_lt W Q h3 (show i < n by omega)
          have at2 := hAt_lt W Q2 h3 (show j < n2 by omega)
          have w1 := wk i (by omega)
          have w2 := wk2 j (by omega)
          have e1 := le i (by omega)
          have e2 := le2 j (by omega)
          have f1 := hh i (by omega)
          have f2 := hh j (by omega)
          have nx := ihk (j + 1) (by omega)
          have iv : vp_in (nI i) 6 := vin (by omega) (by omega)
          have jv : vp_in (nI j) 6 := vin (by omega) (by omega)
          have no : mtc D (l, q, n) (l2, q2, n2) i j = false → JS Z X 75 [(0, rf Z o), (1, rf Z o2), (2, .int (nI (mt D (l, q, n) (l2, q2, n2) i + mt2 D (l, q, n) (l2, q2, n2) i j))), (3, .int (nI i)), (4, .int (nI j))] [] μ := fun c => by
            refine bX4_meetings_75 E ho ho2 ?_
            rw [mt2, c] at nx
            rw [nI_add]
            exact nx
          refine bX4_meetings_15 E ho ho2 (fun c => absurd c (by rw [T2.2.1, nI_leE (by omega) (by omega)]; omega)) (fun _ => ?_)
          refine bX4_meetings_24 E ho ho2 iv jv (fun c => ?_) (fun c => ?_)
          · rw [ix_nI (by omega), ix_nI (by omega), a1, b1, nI_eqE (by omega) (by omega)] at c
            exact no (by unfold mtc; dsimp only; rw [decide_eq_false c]; rfl)
          rw [ix_nI (by omega), ix_nI (by omega), a1, b1, nI_eqE (by omega) (by omega)] at c
          refine bX4_meetings_40 E ho ho2 iv jv (fun d => ?_) (fun d => ?_)
          · rw [ix_nI (by omega), ix_nI (by omega), a3, b4, nI_ltE (by omega) (by omega)] at d
            refine no ?_
            unfold mtc hS0 hE0
            dsimp only
            rw [decide_eq_false (show ¬ hWk D q n i + hLe D l q i ≤ hWk D q2 n2 j + (j + 1) * D 13 0 by omega), Bool.and_false]
            rfl
          rw [ix_nI (by omega), ix_nI (by omega), a3, b4, nI_ltE (by omega) (by omega)] at d
          refine bX4_meetings_56 E ho ho2 jv iv (fun e => ?_) (fun e => ?_)
          · rw [ix_nI (by omega), ix_nI (by omega), a4, b3, nI_ltE (by omega) (by omega)] at e
            refine no ?_
            unfold mtc hS0 hE0
            dsimp only
            rw [decide_eq_false (show ¬ hWk D q2 n2 j + hLe D l2 q2 j ≤ hWk D q n i + (i + 1) * D 13 0 by omega), Bool.and_false]
          rw [ix_nI (by omega), ix_nI (by omega), a4, b3, nI_ltE (by omega) (by omega)] at e
          have y : mtc D (l, q, n) (l2, q2, n2) i j = true := by
            unfold mtc hS0 hE0
            dsimp only
            rw [decide_eq_true c, decide_eq_true (show hWk D q n i + hLe D l q i ≤ hWk D q2 n2 j + (j + 1) * D 13 0 by omega), decide_eq_true (show hWk D q2 n2 j + hLe D l2 q2 j ≤ hWk D q n i + (i + 1) * D 13 0 by omega)]
            rfl
          refine bX4_meetings_72 E ho ho2 (bX4_meetings_75 E ho ho2 ?_)
          rw [mt2, y] at nx
          rw [nI_add, nI_add]
          exact nx
      exact inner n2 0 (by omega)
  exact bX4_meetings_0 E ho ho2 (loop n 0 (by omega))
/-- times that the reference keeps -/
def TMs (μ : Mu) (D : DD) (l : Nat) (q : Nat → Nat) (n : Nat) : Prop := μ 471 l = nI n ∧ ∀ i, i < n → μ 468 (6 * l + i) = nI (hAt D q i) ∧ μ 469 (6 * l + i) = nI (hS0 D l q n i) ∧ μ 470 (6 * l + i) = nI (hE0 D q n i)
def FrTm (l : Nat) (μ μ' : Mu) : Prop := (∀ a, a < 468 ∨ 471 < a → μ' a = μ a) ∧ (∀ k, k ≠ l → μ' 471 k = μ 471 k) ∧ ∀ k, k < 6 * l ∨ 6 * l + 6 ≤ k → μ' 468 k = μ 468 k ∧ μ' 469 k = μ 469 k ∧ μ' 470 k = μ 470 k
theorem FrTm.q {l : Nat} {μ' : Mu} (h : FrTm l μ μ') : FrQ μ μ' := ⟨fun a ha _ => h.1 a (by omega), by rw [h.1 _ (by decide)], by rw [h.1 _ (by decide)], fun i _ => by rw [h.1 _ (by decide)]⟩
theorem TMs.fr {l l2 n : Nat} {q : Nat → Nat} {μ' : Mu} (h : TMs μ D l q n) (F : FrTm l2 μ μ') (hl : l ≠ l2) (hn : n ≤ 6) : TMs μ' D l q n := ⟨by rw [F.2.1 l hl]; exact h.1, fun i hi => by
  have := F.2.2 (6 * l + i) (by omega)
  rw [this.1, this.2.1, this.2.2]; exact h.2 i hi⟩
theorem TMs.congr {l n : Nat} {q : Nat → Nat} {μ' : Mu} (h : TMs μ D l q n) (e : ∀ a, 468 ≤ a → μ' a = μ a) : TMs μ' D l q n := ⟨by rw [e _ (by decide)]; exact h.1, fun i hi => by rw [e _ (by decide), e _ (by decide), e _ (by decide)]; exact h.2 i hi⟩
theorem m_findTimes {l n : Nat} {q : Nat → Nat} (H : HM (μ 456) 0 D) (N : NM (μ 456) 0 D) (W : WF D) (WW : WN D) (hl : l < 2) (Q : QO D q n) (h3 : D 13 3 < D 0 0) (T : RowQ μ q n) (Y : HY μ D q n) : CtrS Z mX12_findTimes [mrf Z, .int (nI l)] μ (rV fun μ' => TMs μ' D l q n ∧ FrTm l μ μ') := by
  refine CtrS.intro (by decide +kernel) (Nat.le_of_ble_eq_true rfl) rfl fun X E hB => ?_
  have n6 := Q.1
  have h0 : μ 456 201 = nI (D 13 0) := N.2.1 0 (by omega)
  have loop : ∀ k i μ1, i + k = n → μ1 471 l = nI n → (∀ j, j < i → μ1 468 (6 * l + j) = nI (hAt D q j) ∧ μ1 469 (6 * l + j) = nI (hS0 D l q n j) ∧ μ1 470 (6 * l + j) = nI (hE0 D q n j)) → FrTm l μ μ1 → JS Z X 17 [(0, mrf Z), (1, .int (nI l)), (2, .int (nI (hS0 D l q n i))), (3, .int (nI (hWk D q n i + i * D 13 0))), (4, .int (nI i))] [] μ1 := by
    intro k
    induction k with
    | zero =>
      intro i μ1 hi hs h hF
      have : i = n := hi
      subst this
      refine bX12_findTimes_17 E (fun _ => bX12_findTimes_123 E hB ⟨rfl, ⟨hs, h⟩, hF⟩) (fun c => absurd (by rw [hF.1 455 (by decide), T.1, nI_leE (by omega) (by omega)]; omega) c)
    | succ k ih =>
      intro i μ1 hi hs h hF
      have e : nI 6 * nI l + nI i = nI (6 * l + i) := by rw [nI_mul, nI_add]
      have v6 : vp_in (nI i) 6 := vin (by omega) (by omega)
      have v12 : vp_in (nI 6 * nI l + nI i) 12 := by rw [e]; exact vin (by omega) (by omega)
      have y := Y.2 i (by omega)
      refine bX12_findTimes_17 E (fun c => absurd c (by rw [hF.1 455 (by decide), T.1, nI_leE (by omega) (by omega)]; omega)) (fun _ => ?_)
      refine bX12_findTimes_26 E v6 v12 (bX12_findTimes_45 E v12 (bX12_findTimes_58 E (vin (by omega) (by omega)) v12 ?_))
      rw [e, ix_nI (show 6 * l + i < 2147483648 by omega), ix_nI (show i < 2147483648 by omega), ix_nI (show 201 < 2147483648 by omega)]
      simp (disch := decide) only [uR_n]
      rw [hF.1 463 (by decide), y.1, hF.1 456 (by decide), h0, nI_add]
      generalize hμ2 : uR (uR (uR μ1 468 (upd (μ1 468) (6 * l + i) (nI (hAt D q i)))) 469 (upd (μ1 469) (6 * l + i) (nI (hS0 D l q n i)))) 470 (upd (μ1 470) (6 * l + i) (nI (hWk D q n i + i * D 13 0 + D 13 0))) = μ2
      have k8 : μ2 468 = upd (μ1 468) (6 * l + i) (nI (hAt D q i)) := by rw [← hμ2, uR_n (by decide), uR_n (by decide), uR_s]
      have k9 : μ2 469 = upd (μ1 469) (6 * l + i) (nI (hS0 D l q n i)) := by rw [← hμ2, uR_n (by decide), uR_s]
      have k0 : μ2 470 = upd (μ1 470) (6 * l + i) (nI (hWk D q n i + i * D 13 0 + D 13 0)) := by rw [← hμ2, uR_s]
      have kr : ∀ a, a ≠ 468 → a ≠ 469 → a ≠ 470 → μ2 a = μ1 a := fun a h1 h2 h3 => by rw [← hμ2, uR_n h3, uR_n h2, uR_n h1]
      have F2 : FrTm l μ μ2 := ⟨fun a ha => by rw [kr a (by omega) (by omega) (by omega)]; exact hF.1 a ha, fun k hk => by rw [kr _ (by decide) (by decide) (by decide)]; exact hF.2.1 k hk, fun k hk => by rw [k8, k9, k0, pk_un (by omega), pk_un (by omega), pk_un (by omega)]; exact hF.2.2 k hk⟩
      have q2 : FrQ μ μ2 := F2.q
      have m2 : ∀ a, a < 468 → μ2 a = μ a := fun a ha => F2.1 a (by omega)
      have H2 : HM (μ2 456) 0 D := by rw [m2 _ (by decide)]; exact H
      have N2 : NM (μ2 456) 0 D := by rw [m2 _ (by decide)]; exact N
      have T2 : RowQ μ2 q n := ⟨by rw [m2 _ (by decide)]; exact T.1, fun j hj => by rw [m2 _ (by decide)]; exact T.2 j hj⟩
      have Y2 : HY μ2 D q n := ⟨by rw [m2 _ (by decide)]; exact Y.1, fun j hj => by rw [m2 _ (by decide), m2 _ (by decide)]; exact Y.2 j hj⟩
      refine bX12_findTimes_80 E (m_leastOf H2 N2 W hl Q h3 T2 Y2 (show i < n by omega)) fun v μ3 g => ?_
      obtain ⟨rfl, rfl⟩ := g
      refine bX12_findTimes_88 E v6 (vin (by omega) (by omega)) v6 ?_
      rw [ix_nI (show i < 2147483648 by omega), ix_nI (show 201 < 2147483648 by omega), m2 464 (by decide), y.2, m2 456 (by decide), h0, nI_add, nI_add, nI_add, nI_add, nI_add]
      have es : hS0 D l q n i + (hLs D l q i + hW1 (hLg D q n i)) = hS0 D l q n (i + 1) := by
        unfold hS0; rw [hWk, hLe]; omega
      have el : hWk D q n i + i * D 13 0 + (D 13 0 + hW1 (hLg D q n i)) = hWk D q n (i + 1) + (i + 1) * D 13 0 := by
        rw [hWk, Nat.add_mul, Nat.one_mul]; omega
      rw [es, el]
      refine ih (i + 1) _ (by omega) (by rw [kr _ (by decide) (by decide) (by decide)]; exact hs) (fun j hj => ?_) F2
      rw [k8, k9, k0]
      by_cases c : j = i
      · subst c
        rw [pk_us, pk_us, pk_us]
        refine ⟨rfl, rfl, ?_⟩
        unfold hE0
        rw [Nat.add_mul, Nat.one_mul, Nat.add_assoc]
      · rw [pk_un (by omega), pk_un (by omega), pk_un (by omega)]
        exact h j (by omega)
  refine bX12_findTimes_0 E (vin (by omega) (by omega)) (bX12_findTimes_14 E ?_)
  rw [ix_nI (by omega), T.1]
  have z := loop n 0 (uR μ 471 (upd (μ 471) l (nI n))) (by omega) (by rw [uR_s, pk_us]) (fun j hj => absurd hj (Nat.not_lt_zero j)) ⟨fun a ha => uR_n (by omega), fun k hk => by rw [uR_s, pk_un hk], fun k _ => by rw [uR_n (by decide), uR_n (by decide), uR_n (by decide)]; exact ⟨rfl, rfl, rfl⟩⟩
  rw [Nat.zero_mul] at z
  exact z
theorem m_meetings {n n2 : Nat} {q q2 : Nat → Nat} (W : WF D) (WW : WN D) (Q : QO D q n) (Q2 : QO D q2 n2) (h3 : D 13 3 < D 0 0) (T : TMs μ D 0 q n) (T2 : TMs μ D 1 q2 n2) : CtrS Z mX12_meetings [mrf Z] μ (rI fun v μ' => v = nI (mt D (0, q, n) (1, q2, n2) n) ∧ μ' = μ) := by
  refine CtrS.intro (by decide +kernel) (Nat.le_of_ble_eq_true rfl) rfl fun X E hB => ?_
  have n6 := Q.1
  have n26 := Q2.1
  have hn := W.1
  have h6 := WW.1.2.1
  have wk : ∀ i, i ≤ 6 → hWk D q n i ≤ 600000 := fun i hi => by have := hWk_le (D := D) (q := q) (n := n) i; omega
  have wk2 : ∀ i, i ≤ 6 → hWk D q2 n2 i ≤ 600000 := fun i hi => by have := hWk_le (D := D) (q := q2) (n := n2) i; omega
  have le : ∀ i, i ≤ 6 → hLe D 0 q i ≤ 36 := fun i hi => by have := hLe_le WW (l := 0) (q := q) i; omega
  have le2 : ∀ i, i ≤ 6 → hLe D 1 q2 i ≤ 36 := fun i hi => by have := hLe_le WW (l := 1) (q := q2) i; omega
  have hh : ∀ i, i < 6 → (i + 1) * D 13 0 ≤ 36 := fun i hi => by have := Nat.mul_le_mul (show i + 1 ≤ 6 by omega) h6; omega
  have loop : ∀ k i, i + k = n → JS Z X 4 [(0, mrf Z), (1, .int (nI (mt D (0, q, n) (1, q2, n2) i))), (2, .int (nI i))] [] μ := by
    intro k
    induction k with
    | zero =>
      intro i hi
      have : i = n := hi
      subst this
      exact bX12_meetings_4 E (vin (by omega) (by omega)) (fun _ => bX12_meetings_95 E hB ⟨_, rfl, rfl, rfl⟩) (fun c => absurd (by rw [ix_nI (by omega), T.1, nI_leE (by omega) (by omega)]; omega) c)
    | succ k ih =>
      intro i hi
      refine bX12_meetings_4 E (vin (by omega) (by omega)) (fun c => absurd c (by rw [ix_nI (by omega), T.1, nI_leE (by omega) (by omega)]; omega)) (fun _ => bX12_meetings_14 E ?_)
      have inner : ∀ k' j, j + k' = n2 → JS Z X 17 [(0, mrf Z), (1, .int (nI (mt D (0, q, n) (1, q2, n2) i + mt2 D (0, q, n) (1, q2, n2) i j))), (2, .int (nI i)), (3, .int (nI (6 + j)))] [] μ := by
        intro k'
        induction k' with
        | zero =>
          intro j hj
          have : j = n2 := hj
          subst this
          refine bX12_meetings_17 E (vin (by omega) (by omega)) (fun _ => bX12_meetings_89 E ?_) (fun c => absurd (by rw [ix_nI (by omega), T2.1, nI_add, nI_leE (by omega) (by omega)]; omega) c)
          rw [nI_add]
          exact ih (i + 1) (by omega)
        | succ k' ihk =>
          intro j hj
          obtain ⟨a1, a3, a4⟩ := T.2 i (by omega)
          obtain ⟨b1, b3, b4⟩ := T2.2 j (by omega)
          rw [show 6 * 0 + i = i by omega] at a1 a3 a4
          rw [show 6 * 1 + j = 6 + j by omega] at b1 b3 b4
          have at1 := hAt_lt W Q h3 (show i < n by omega)
          have at2 := hAt_lt W Q2 h3 (show j < n2 by omega)
          have w1 := wk i (by omega)
          have w2 := wk2 j (by omega)
          have e1 := le i (by omega)
          have e2 := le2 j (by omega)
          have f1 := hh i (by omega)
          have f2 := hh j (by omega)
          have s1 : hS0 D 0 q n i < 2147483648 := by unfold hS0; omega
          have s2 : hS0 D 1 q2 n2 j < 2147483648 := by unfold hS0; omega
          have t1 : hE0 D q n i < 2147483648 := by unfold hE0; omega
          have t2 : hE0 D q2 n2 j < 2147483648 := by unfold hE0; omega
          have nx := ihk (j + 1) (by omega)
          have iv : vp_in (nI i) 12 := vin (by omega) (by omega)
          have jv : vp_in (nI (6 + j)) 12 := vin (by omega) (by omega)
          have fin : ∀ x : Nat, x = (if mtc D (0, q, n) (1, q2, n2) i j = true then 1 else 0) → JS Z X 81 [(0, mrf Z), (2, .int (nI i)), (3, .int (nI (6 + j)))] [.int (nI x), .int (nI (mt D (0, q, n) (1, q2, n2) i + mt2 D (0, q, n) (1, q2, n2) i j))] μ := fun x hx => by
            refine bX12_meetings_81 E ?_
            rw [nI_add, nI_add, hx]
            rw [mt2, ← Nat.add_assoc, ← Nat.add_assoc] at nx
            exact nx
          have no : mtc D (0, q, n) (1, q2, n2) i j = false → JS Z X 80 [(0, mrf Z), (2, .int (nI i)), (3, .int (nI (6 + j)))] [.int (nI (mt D (0, q, n) (1, q2, n2) i + mt2 D (0, q, n) (1, q2, n2) i j))] μ := fun c =>
            bX12_meetings_80 E (fin 0 (by rw [c]; rfl))
          refine bX12_meetings_17 E (vin (by omega) (by omega)) (fun c => absurd c (by rw [ix_nI (by omega), T2.1, nI_add, nI_leE (by omega) (by omega)]; omega)) (fun _ => ?_)
          refine bX12_meetings_30 E iv jv (fun c => ?_) (fun c => ?_)
          · rw [ix_nI (by omega), ix_nI (by omega), a1, b1, nI_eqE (by omega) (by omega)] at c
            exact no (by unfold mtc; dsimp only; rw [decide_eq_false c]; rfl)
          rw [ix_nI (by omega), ix_nI (by omega), a1, b1, nI_eqE (by omega) (by omega)] at c
          refine bX12_meetings_46 E iv jv (fun d => ?_) (fun d => ?_)
          · rw [ix_nI (by omega), ix_nI (by omega), a3, b4, nI_ltE (by omega) (by omega)] at d
            refine no ?_
            unfold mtc
            dsimp only
            rw [decide_eq_false (show ¬ hS0 D 0 q n i ≤ hE0 D q2 n2 j by omega), Bool.and_false]
            rfl
          rw [ix_nI (by omega), ix_nI (by omega), a3, b4, nI_ltE (by omega) (by omega)] at d
          refine bX12_meetings_61 E jv iv (fun e => ?_) (fun e => ?_)
          · rw [ix_nI (by omega), ix_nI (by omega), a4, b3, nI_ltE (by omega) (by omega)] at e
            refine no ?_
            unfold mtc
            dsimp only
            rw [decide_eq_false (show ¬ hS0 D 1 q2 n2 j ≤ hE0 D q n i by omega), Bool.and_false]
          rw [ix_nI (by omega), ix_nI (by omega), a4, b3, nI_ltE (by omega) (by omega)] at e
          have y : mtc D (0, q, n) (1, q2, n2) i j = true := by
            unfold mtc
            dsimp only
            rw [decide_eq_true c, decide_eq_true (show hS0 D 0 q n i ≤ hE0 D q2 n2 j by omega), decide_eq_true (show hS0 D 1 q2 n2 j ≤ hE0 D q n i by omega)]
            rfl
          exact bX12_meetings_76 E (fin 1 (by rw [y]; rfl))
      exact inner n2 0 (by omega)
  exact bX12_meetings_0 E (loop n 0 (by omega))
def hnL (D : DD) (l : Nat) : HN := (l, ro D l, D 11 l)
def oMeet (D : DD) (s : Nat → Int32) : Int32 × (Nat → Int32) := if hOk D (ro D 0) (D 11 0) = true ∧ hOk D (ro D 1) (D 11 1) = true then (nI (mt D (hnL D 0) (hnL D 1) (D 11 0)), s) else (-3, cnt s (-3))
theorem x_meet (R : RepC μ D im tx s f) (O : OkS D im tx) : CtrS Z mX11_meet [xrf Z] μ (rI fun v μ' => v = (oMeet D s).1 ∧ RepC μ' D im tx (oMeet D s).2 f ∧ FrX μ μ') := by
  refine CtrS.intro (by decide +kernel) (Nat.le_of_ble_eq_true rfl) rfl fun X E hB => ?_
  have no : ∀ μ1, ¬ (hOk D (ro D 0) (D 11 0) = true ∧ hOk D (ro D 1) (D 11 1) = true) → RepC μ1 D im tx s f → FrX μ μ1 → JS Z X 24 [(0, xrf Z)] [] μ1 := fun μ1 c R1 F1 => by
    have e : oMeet D s = _ := if_neg c
    rw [e] at hB
    exact bX11_meet_24 E (x_ref R1) fun v μ2 h => bX11_meet_30 E hB ⟨_, rfl, h.1, h.2.1, F1.tr h.2.2⟩
  refine bX11_meet_0 E (x_canHunt (o := 78) (l := 0) rfl (by decide) (by decide) R O (by decide)) fun v μ1 g => ?_
  obtain ⟨rfl, g1, g2, -, -, R1, gF⟩ := g
  have fx : FrX μ μ1 := fun x hx => gF x (by simp; omega)
  refine bX11_meet_9 E (fun c => ?_) (fun c => ?_)
  · rw [bz] at c
    exact no μ1 (fun g => c g.1) R1 fx
  rw [bz] at c
  have c := Decidable.not_not.mp c
  refine bX11_meet_12 E (x_canHunt (o := 85) (l := 1) rfl (by decide) (by decide) R1 O (by decide)) fun v μ2 k => ?_
  obtain ⟨rfl, k1, k2, -, -, R2, kF⟩ := k
  have fx2 : FrX μ1 μ2 := fun x hx => kF x (by simp; omega)
  refine bX11_meet_21 E (fun d => ?_) (fun d => ?_)
  rotate_left
  · rw [bz] at d
    exact no μ2 (fun g => d g.2) R2 (fx.tr fx2)
  rw [bz] at d
  have d := Decidable.not_not.mp d
  have e : oMeet D s = _ := if_pos ⟨c, d⟩
  rw [e] at hB
  have L := g1 c
  have T' : HQ μ2 78 0 (ro D 0) (D 11 0) := ⟨by rw [kF _ (by decide)]; exact g2.1, by rw [kF _ (by decide)]; exact g2.2.1, fun i hi => by rw [kF _ (by decide)]; exact g2.2.2 i hi⟩
  have L' : HLd μ2 78 D 0 (ro D 0) (D 11 0) (D 11 0) := ⟨by rw [kF _ (by decide)]; exact L.1, by rw [kF _ (by decide)]; exact L.2.1, fun i hi => by rw [kF _ (by decide), kF _ (by decide), kF _ (by decide), kF _ (by decide)]; exact L.2.2 i hi⟩
  refine bX11_meet_31 E (c_meetings rfl rfl O.1.1 O.1.2 (QO.row O.1.1 (by decide)) (QO.row O.1.1 (by decide)) (hOk_3 c).1 T' k2 L' (k1 d)) fun v μ3 h => ?_
  obtain ⟨rfl, rfl⟩ := h
  exact bX11_meet_42 E hB ⟨_, rfl, rfl, R2, fx.tr fx2⟩
theorem y_meet (R : RepM μ D im tx s f) (O : OkS D im tx) : CtrS Z mX12_meet [mrf Z] μ (rI fun v μ' => v = (oMeet D s).1 ∧ RepM μ' D im tx (oMeet D s).2 f ∧ FrY μ μ') := by
  refine CtrS.intro (by decide +kernel) (Nat.le_of_ble_eq_true rfl) rfl fun X E hB => ?_
  have W := O.1.1
  have no : ∀ μ1, ¬ (hOk D (ro D 0) (D 11 0) = true ∧ hOk D (ro D 1) (D 11 1) = true) → RepM μ1 D im tx s f → FrY μ μ1 → JS Z X 15 [(0, mrf Z)] [] μ1 := fun μ1 c R1 F1 => by
    have e : oMeet D s = _ := if_neg c
    rw [e] at hB
    exact bX12_meet_15 E (y_ref R1 O) fun v μ2 h => bX12_meet_21 E hB ⟨_, rfl, h.1, h.2.1, F1.tr h.2.2⟩
  refine bX12_meet_0 E (bX12_meet_2 E (fun c => absurd c (by decide)) fun _ => ?_)
  refine bX12_meet_7 E (m_isHunt (l := 0) R O (by decide)) fun v μ1 g => ?_
  obtain ⟨rfl, g1, g2, g3, R1, gF, gA⟩ := g
  refine bX12_meet_12 E (fun c => ?_) (fun c => ?_)
  rotate_left
  · rw [bz] at c
    exact no μ1 (fun g => c g.1) R1 gF.y
  rw [bz] at c
  have c := Decidable.not_not.mp c
  have o3 := (hOk_3 c).1
  refine bX12_meet_22 E (m_findTimes R1.1 R1.2.1 W O.1.2 (by decide) (QO.row W (by decide)) o3 g2 (g1 c)) fun μ2 h => bX12_meet_27 E ?_
  obtain ⟨T2, F2⟩ := h
  have R2 := F2.q.rep R1
  refine bX12_meet_2 E (fun c => absurd c (by decide)) fun _ => ?_
  refine bX12_meet_7 E (m_isHunt (l := 1) R2 O (by decide)) fun v μ3 k => ?_
  obtain ⟨rfl, k1, k2, k3, R3, kF, kA⟩ := k
  refine bX12_meet_12 E (fun d => ?_) (fun d => ?_)
  rotate_left
  · rw [bz] at d
    exact no μ3 (fun g => d g.2) R3 ((gF.tr F2.q).tr kF).y
  rw [bz] at d
  have d := Decidable.not_not.mp d
  have e : oMeet D s = _ := if_pos ⟨c, d⟩
  rw [e] at hB
  refine bX12_meet_22 E (m_findTimes R3.1 R3.2.1 W O.1.2 (by decide) (QO.row W (by decide)) o3 k2 (k1 d)) fun μ4 h => bX12_meet_27 E ?_
  obtain ⟨T4, F4⟩ := h
  have T2' := (T2.congr (fun a ha => kA a (by omega))).fr F4 (by decide) (QO.row W (l := 0) (by decide)).1
  refine bX12_meet_2 E (fun _ => ?_) (fun c => absurd (by decide) c)
  refine bX12_meet_33 E (m_meetings W O.1.2 (QO.row W (by decide)) (QO.row W (by decide)) o3 T2' T4) fun v μ5 h => ?_
  obtain ⟨rfl, rfl⟩ := h
  exact bX12_meet_37 E hB ⟨_, rfl, rfl, F4.q.rep R3, (((gF.tr F2.q).tr kF).tr F4.q).y⟩
end MEET
