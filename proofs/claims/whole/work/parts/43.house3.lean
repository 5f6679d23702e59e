/-! HOUSE: a child, a row, copies, and what is asked of it -/
theorem i01 {x : Nat} (h : x ≤ 1) : nI x = nI 0 ∨ nI x = nI 1 := by rcases (show x = 0 ∨ x = 1 by omega) with rfl | rfl; exact Or.inl rfl; exact Or.inr rfl
theorem rw4 (a b : Nat) : nI a * nI 4 + nI b = nI (4 * a + b) := by rw [nI_mul, nI_add, Nat.mul_comm]
theorem rw6 (a b : Nat) : nI a * nI 6 + nI b = nI (6 * a + b) := by rw [nI_mul, nI_add, Nat.mul_comm]
/-- by how many of ten a child has a riddle of kind k, read at p, as of lot l (1, 2) -/
def quick (D : DD) (c l k p : Nat) : Nat :=
  if c < D 0 1 ∧ D 6 c = l ∧ (D 5 c).testBit p = false ∧ (k = 1 ∨ D 3 c = (if k = 3 then 0 else 1)) then D 4 (4 * c + k) else 0
section HOUSE3
variable {Z : ZT} {μ : Mu} {h g : Nat} {D : DD}
theorem c_addChild {r q0 q1 q2 q3 : Int32} (H : HC μ h D) (W : WF D) : CtrS Z mX3_addChild [rf Z h, .int r, .int q0, .int q1, .int q2, .int q3] μ (cP Z μ h (oChild D r q0 q1 q2 q3)) := by
  refine CtrS.intro (by decide +kernel) (Nat.le_of_ble_eq_true rfl) rfl fun X E hB => ?_
  have hc := W.2.1
  have no : ¬ (inN r 2 ∧ inN q0 10 ∧ inN q1 10 ∧ inN q2 10 ∧ inN q3 10) → JS Z X 38 [] [] μ := fun g => bX3_addChild_38 E hB (cP_no H (by rw [oChild, if_neg g]))
  refine bX3_addChild_0 E H.1 (c_within (by decide)) fun v μ1 g => ?_
  obtain ⟨rfl, rfl⟩ := g
  refine bX3_addChild_5 E H.1 (fun c => no fun g => by rw [bz] at c; exact c g.1) (fun c1 => ?_)
  rw [bz] at c1
  have c1 := Decidable.not_not.mp c1
  refine bX3_addChild_8 E H.1 c_isQuick fun v μ1 g => ?_
  obtain ⟨rfl, rfl⟩ := g
  refine bX3_addChild_12 E H.1 (fun c => no fun g => by rw [bz] at c; exact c g.2.1) (fun c2 => ?_)
  rw [bz] at c2
  have c2 := Decidable.not_not.mp c2
  refine bX3_addChild_15 E H.1 c_isQuick fun v μ1 g => ?_
  obtain ⟨rfl, rfl⟩ := g
  refine bX3_addChild_19 E H.1 (fun c => no fun g => by rw [bz] at c; exact c g.2.2.1) (fun c3 => ?_)
  rw [bz] at c3
  have c3 := Decidable.not_not.mp c3
  refine bX3_addChild_22 E H.1 c_isQuick fun v μ1 g => ?_
  obtain ⟨rfl, rfl⟩ := g
  refine bX3_addChild_27 E H.1 (fun c => no fun g => by rw [bz] at c; exact c g.2.2.2.1) (fun c4 => ?_)
  rw [bz] at c4
  have c4 := Decidable.not_not.mp c4
  refine bX3_addChild_30 E H.1 c_isQuick fun v μ1 g => ?_
  obtain ⟨rfl, rfl⟩ := g
  refine bX3_addChild_35 E H.1 (fun c5 => ?_) (fun c => no fun g => by rw [bz] at c; exact c g.2.2.2.2)
  rw [bz] at c5
  have c5 := Decidable.not_not.mp c5
  have H0 := H
  obtain ⟨h1, h2, h3, h4, h5, h6, h7, h8, h9⟩ := H
  refine bX3_addChild_41 E h1 (fun c6 => ?_) (fun c6 => ?_)
  · rw [h3, nI_ltE (by omega) (by omega)] at c6
    have e0 : nI (D 0 1) * nI 4 = nI (4 * D 0 1) := by rw [nI_mul, Nat.mul_comm]
    refine bX3_addChild_53 E h1 (by rw [h3, e0]; exact vin (by omega) (by omega)) ?_
    rw [h3, e0]
    refine bX3_addChild_69 E h1 (by rw [nI_add]; exact vin (by omega) (by omega)) ?_
    refine bX3_addChild_79 E h1 (by rw [nI_add]; exact vin (by omega) (by omega)) ?_
    refine bX3_addChild_90 E h1 (by rw [nI_add]; exact vin (by omega) (by omega)) ?_
    simp (disch := omega) only [uR_s, uR_uR, nI_add, ix_nI]
    refine bX3_addChild_101 E h1 (by simp (disch := omega) only [uR_n]; rw [h3]; exact vin (by omega) (by omega)) ?_
    refine bX3_addChild_111 E h1 (by simp (disch := omega) only [uR_n]; rw [h3]; exact vin (by omega) (by omega)) ?_
    refine bX3_addChild_121 E h1 (by simp (disch := omega) only [uR_n]; rw [h3]; exact vin (by omega) (by omega)) ?_
    refine bX3_addChild_131 E h1 ?_
    simp (disch := omega) only [uR_s, uR_n]
    rw [h3, ix_nI (by omega), nI_add]
    refine bX3_addChild_142 E hB (cP_ok (by rw [oChild, if_pos ⟨c1, c2, c3, c4, c5⟩, if_neg (by omega)]) rfl ?_ ?_)
    · have e1 := (inN_of c1 (by decide)).2
      have e2 := (inN_of c2 (by decide)).2
      have e3 := (inN_of c3 (by decide)).2
      have e4 := (inN_of c4 (by decide)).2
      have e5 := (inN_of c5 (by decide)).2
      refine ⟨h1, ?_, ?_, ?_, ?_, ?_, fun q hq => ?_, ?_, ?_⟩
      · simp (disch := omega) only [uR_s, uR_n]; rw [pk_un (by decide)]; simpa [up] using h2
      · simp (disch := omega) only [uR_s, uR_n]; rw [pk_us]; simp [up]
      · simp (disch := omega) only [uR_s, uR_n]; rw [pk_un (by decide)]; simpa [up] using h4
      · simp (disch := omega) only [uR_s, uR_n]; simpa [up] using h5
      · simp (disch := omega) only [uR_s, uR_n]; simpa [up] using h6
      · simp (disch := omega) only [uR_s, uR_n]
        have hq' : q < D 0 1 + 1 := by simpa [up] using hq
        by_cases e : q = D 0 1
        · subst e
          rw [pk_us, pk_us, pk_us]
          refine ⟨e1.trans (by simp [up]), fun k hk => ?_, by simp [up], by simp [up, lotI]; rfl⟩
          rcases (show k = 0 ∨ k = 1 ∨ k = 2 ∨ k = 3 by omega) with rfl | rfl | rfl | rfl
          · rw [show 4 * D 0 1 + 0 = 4 * D 0 1 from rfl, pk_un (by omega), pk_un (by omega), pk_un (by omega), pk_us]; exact e2.trans (by simp [up])
          · rw [pk_un (by omega), pk_un (by omega), pk_us]; exact e3.trans (by simp [up])
          · rw [pk_un (by omega), pk_us]; exact e4.trans (by simp [up])
          · rw [pk_us]; exact e5.trans (by simp [up])
        · rw [pk_un e, pk_un e, pk_un e]
          have := h7 q (by omega)
          refine ⟨by simpa [up, e] using this.1, fun k hk => ?_, by simpa [up, e] using this.2.2.1, by simpa [up, e] using this.2.2.2⟩
          rw [pk_un (by omega), pk_un (by omega), pk_un (by omega), pk_un (by omega), this.2.1 k hk]
          have n1 : 4 * q + k ≠ 4 * D 0 1 := by omega
          have n2 : 4 * q + k ≠ 4 * D 0 1 + 1 := by omega
          have n3 : 4 * q + k ≠ 4 * D 0 1 + 2 := by omega
          have n4 : 4 * q + k ≠ 4 * D 0 1 + 3 := by omega
          simp [up, n1, n2, n3, n4]
      · simp (disch := omega) only [uR_s, uR_n]; simpa [up] using h8
      · simp (disch := omega) only [uR_s, uR_n]; simpa [up] using h9
    · exact ((((Fr.uR (by simp)).tr (Fr.uR (by simp))).tr (Fr.uR (by simp))).tr (Fr.uR (by simp))).tr (Fr.uR (by simp))
  · rw [h3, nI_ltE (by omega) (by omega)] at c6
    exact bX3_addChild_50 E hB (cP_no H0 (by rw [oChild, if_pos ⟨c1, c2, c3, c4, c5⟩, if_pos (by omega)]))
theorem c_addToRow {l s : Int32} (H : HC μ h D) (W : WF D) : CtrS Z mX3_addToRow [rf Z h, .int l, .int s] μ (cP Z μ h (oRow D l s)) := by
  refine CtrS.intro (by decide +kernel) (Nat.le_of_ble_eq_true rfl) rfl fun X E hB => ?_
  have hc := W.2.2.1
  have no : ¬ (inN l 2 ∧ inN s (D 0 2)) → JS Z X 19 [] [] μ := fun g => bX3_addToRow_19 E hB (cP_no H (by rw [oRow, if_neg g]))
  refine bX3_addToRow_0 E H.1 (c_within (by decide)) fun v μ1 g => ?_
  obtain ⟨rfl, rfl⟩ := g
  refine bX3_addToRow_5 E H.1 (fun c => no fun g => by rw [bz] at c; exact c g.1) (fun c1 => ?_)
  rw [bz] at c1
  have c1 := Decidable.not_not.mp c1
  refine bX3_addToRow_8 E H.1 (by rw [H.2.2.2.1]; exact c_within (by omega)) fun v μ1 g => ?_
  obtain ⟨rfl, rfl⟩ := g
  refine bX3_addToRow_16 E H.1 (fun c2 => ?_) (fun c => no fun g => by rw [bz] at c; exact c g.2)
  rw [bz] at c2
  have c2 := Decidable.not_not.mp c2
  have H0 := H
  obtain ⟨h1, h2, h3, h4, h5, h6, h7, h8, h9⟩ := H
  obtain ⟨ha, ea⟩ := inN_of c1 (by decide)
  obtain ⟨hb, eb⟩ := inN_of c2 (by omega)
  obtain ⟨hl6, hrow⟩ := W.2.2.2.2.2.2.2 (ix l) ha
  have hin : vp_in l 2 := by rw [ea]; exact vin (by omega) (by omega)
  refine bX3_addToRow_22 E h1 hin ?_
  rw [(h9 (ix l) ha).1]
  have loop : ∀ k i, i + k = D 11 (ix l) → inRow D (ix l) (ix s) i = false → JS Z X 32 [(0, rf Z h), (1, .int l), (2, .int s), (3, .int (nI (D 11 (ix l)))), (4, .int (nI i))] [] μ1 := by
    intro k
    induction k with
    | zero =>
      intro i hi hr
      have hi' : i = D 11 (ix l) := by omega
      subst hi'
      refine bX3_addToRow_32 E h1 (fun _ => ?_) (fun c => absurd (by rw [nI_leE (by omega) (by omega)]; omega) c)
      refine bX3_addToRow_63 E h1 (fun c => ?_) (fun c => ?_)
      · rw [nI_ltE (by omega) (by omega)] at c
        have e1 := rw6 (ix l) (D 11 (ix l))
        rw [← ea] at e1
        refine bX3_addToRow_72 E h1 (by rw [e1]; exact vin (by omega) (by omega)) ?_
        refine bX3_addToRow_84 E h1 hin ?_
        rw [e1, ix_nI (by omega), nI_add]
        refine bX3_addToRow_93 E hB ?_
        rw [nI_add]
        refine cP_ok (by rw [oRow, if_pos ⟨c1, c2⟩, if_neg (by rw [hr]; simp), if_neg (by omega)]) rfl ?_ ((Fr.uR (by simp)).tr (Fr.uR (by simp)))
        refine ⟨h1, ?_, ?_, ?_, ?_, ?_, ?_, ?_, fun q hq => ?_⟩
        · simp (disch := omega) only [uR_s, uR_n]; simpa [up] using h2
        · simp (disch := omega) only [uR_s, uR_n]; simpa [up] using h3
        · simp (disch := omega) only [uR_s, uR_n]; simpa [up] using h4
        · simp (disch := omega) only [uR_s, uR_n]; simpa [up] using h5
        · simp (disch := omega) only [uR_s, uR_n]; simpa [up] using h6
        · simp (disch := omega) only [uR_s, uR_n]; simpa [up] using h7
        · simp (disch := omega) only [uR_s, uR_n]; simpa [up] using h8
        · simp (disch := omega) only [uR_s, uR_n]
          by_cases e : q = ix l
          · subst e
            rw [pk_us]
            refine ⟨by simp [up], fun i hi => ?_⟩
            rw [up_s] at hi
            rw [up_k (by decide)]
            exact upd_at (fun e => by rw [e, up_s]; exact eb) (fun e => by rw [up_i e]; exact (h9 (ix l) ha).2 i (by omega))
          · rw [pk_un e]
            refine ⟨by simpa [up, e] using (h9 q hq).1, fun i hi => ?_⟩
            rw [up_i e, up_k (by decide)] at hi
            have hq6 := (W.2.2.2.2.2.2.2 q hq).1
            rw [up_k (by decide), pk_un (by omega), up_i (by omega)]
            exact (h9 q hq).2 i hi
      · rw [nI_ltE (by omega) (by omega)] at c
        exact bX3_addToRow_69 E hB (cP_no H0 (by rw [oRow, if_pos ⟨c1, c2⟩, if_neg (by rw [hr]; simp), if_pos (by omega)]))
    | succ k ih =>
      intro i hi hr
      have e1 := rw6 (ix l) i
      rw [← ea] at e1
      have er := (h9 (ix l) ha).2 i (by omega)
      have lt := (hrow i (by omega)).1
      have inr_mono : ∀ j n, i + 1 + j = n → inRow D (ix l) (ix s) (i + 1) = true → inRow D (ix l) (ix s) n = true := by
        intro j
        induction j with
        | zero => intro n hn hh; rw [← hn]; exact hh
        | succ j ih =>
          intro n hn hh
          obtain ⟨n, rfl⟩ : ∃ m, n = m + 1 := ⟨n - 1, by omega⟩
          rw [inRow, ih n (by omega) hh]; rfl
      refine bX3_addToRow_32 E h1 (fun c => absurd c (by rw [nI_leE (by omega) (by omega)]; omega)) (fun _ => ?_)
      refine bX3_addToRow_38 E h1 (by rw [e1]; exact vin (by omega) (by omega)) ?_ ?_
      · rw [e1, ix_nI (by omega), er]
        intro c
        refine bX3_addToRow_57 E h1 ?_
        rw [nI_add]
        refine ih (i + 1) (by omega) ?_
        rw [inRow, hr, Bool.false_or]
        exact decide_eq_false fun e => c (by rw [eb, e])
      · rw [e1, ix_nI (by omega), er]
        intro c
        refine bX3_addToRow_54 E hB (cP_no H0 ?_)
        have : inRow D (ix l) (ix s) (i + 1) = true := by
          rw [inRow, hr, Bool.false_or]
          exact decide_eq_true (by rw [← c, ix_nI (by omega)])
        rw [oRow, if_pos ⟨c1, c2⟩, if_pos (inr_mono (D 11 (ix l) - (i + 1)) _ (by omega) this)]
  exact loop (D 11 (ix l)) 0 (by omega) rfl
theorem c_isSpareAt {l : Nat} {i : Nat} (H : HC μ h D) (W : WF D) (hl : l < 2) (hi : i < D 11 l) : CtrS Z mX3_isSpareAt [rf Z h, .int (nI l), .int (nI i)] μ (rI fun r μ' => r = (if D 9 (D 12 (6 * l + i)) = 1 then nI 1 else nI 0) ∧ μ' = μ) := by
  refine CtrS.intro (by decide +kernel) (Nat.le_of_ble_eq_true rfl) rfl fun X E hB => ?_
  obtain ⟨hl6, hrow⟩ := W.2.2.2.2.2.2.2 l hl
  obtain ⟨lt, -⟩ := hrow i hi
  have hc := W.2.2.1
  have h9 := H.2.2.2.2.2.2.2.2 l hl
  refine bX3_isSpareAt_0 E H.1 (c_within (by decide)) fun v μ1 g => ?_
  obtain ⟨rfl, rfl⟩ := g
  refine bX3_isSpareAt_5 E H.1 (fun c => by rw [bz] at c; exact absurd (inN_nI hl (by decide)) c) (fun _ => ?_)
  refine bX3_isSpareAt_8 E H.1 (vin (by omega) (by omega)) (by rw [ix_nI (by omega), h9.1]; exact c_within (by omega)) fun v μ1 g => ?_
  obtain ⟨rfl, rfl⟩ := g
  refine bX3_isSpareAt_18 E H.1 (fun c => by rw [bz] at c; exact absurd (inN_nI hi (by omega)) c) (fun _ => ?_)
  have er := h9.2 i hi
  have es := (H.2.2.2.2.2.2.2.1 _ lt).2.2.1
  have s1 := (W.2.2.2.2.2.2.1 _ lt).2.2.1
  refine bX3_isSpareAt_21 E H.1 (by rw [rw6]; exact vin (by omega) (by omega)) (by rw [rw6, ix_nI (by omega), er]; exact vin (by omega) (by omega)) ?_ ?_
  · rw [rw6, ix_nI (show 6 * l + i < 2147483648 by omega), er, ix_nI (by omega), es, nI_eqE (by omega) (by omega)]
    intro c
    exact bX3_isSpareAt_45 E (bX3_isSpareAt_46 E hB rfl ⟨_, rfl, by rw [if_neg c], rfl⟩)
  · rw [rw6, ix_nI (show 6 * l + i < 2147483648 by omega), er, ix_nI (by omega), es, nI_eqE (by omega) (by omega)]
    intro c
    exact bX3_isSpareAt_41 E (bX3_isSpareAt_46 E hB rfl ⟨_, rfl, by rw [if_pos c], rfl⟩)
theorem lot_eq {a b : Nat} (ha : a ≤ 2) (hb : b ≤ 2) : (lotI a = lotI b) = (a = b) := by
  have := (show ∀ a, a < 3 → ∀ b, b < 3 → ((lotI a = lotI b) ↔ (a = b)) by decide) a (by omega) b (by omega)
  exact propext this
/-- quickAt as its callers ask: c below 6, a lot 0 or 1, a kind, a place -/
theorem c_quickAt {c l k p : Nat} (H : HC μ h D) (W : WF D) (hcc : c < 6) (hl : l < 2) (hk : k < 4) (hp : p < 10) : CtrS Z mX3_quickAt [rf Z h, .int (nI c), .int (nI l), .int (nI k), .int (nI p)] μ (rI fun r μ' => r = nI (quick D c (l + 1) k p) ∧ μ' = μ) := by
  refine CtrS.intro (by decide +kernel) (Nat.le_of_ble_eq_true rfl) rfl fun X E hB => ?_
  have hn := W.1
  have hc := W.2.1
  have lI : nI l = lotI (l + 1) := (nI_suc_m1 l).symm
  refine bX3_quickAt_0 E H.1 (by rw [H.2.2.1]; exact c_within (by omega)) fun v μ1 g => ?_
  obtain ⟨rfl, rfl⟩ := g
  have no : ¬ (c < D 0 1 ∧ D 6 c = l + 1) → JS Z X 29 [] [] μ1 := fun g => bX3_quickAt_29 E hB ⟨_, rfl, by rw [quick, if_neg fun q => g ⟨q.1, q.2.1⟩], rfl⟩
  refine bX3_quickAt_8 E H.1 (fun g => no fun q => by rw [bz] at g; exact g (inN_nI q.1 (by omega))) (fun g => ?_)
  rw [bz, inN_iff rfl (by omega) (by omega)] at g
  have c1 := Decidable.not_not.mp g
  have hch := H.2.2.2.2.2.2.1 c c1
  have hw := W.2.2.2.2.2.1 c c1
  have lt := lt10 hw.2.2.1 hn
  refine bX3_quickAt_11 E H.1 (c_within (by decide)) fun v μ1 g => ?_
  obtain ⟨rfl, rfl⟩ := g
  refine bX3_quickAt_16 E H.1 (fun g => by rw [bz] at g; exact absurd (inN_nI hk (by decide)) g) (fun _ => ?_)
  refine bX3_quickAt_19 E H.1 (vin (by omega) (by omega)) ?_ ?_
  · rw [ix_nI (by omega), hch.2.2.2, lI, lot_eq hw.2.2.2 (by omega)]
    intro c2
    have last : (k = 1 ∨ D 3 c = (if k = 3 then 0 else 1)) → (D 5 c).testBit p = false → JS Z X 78 [(0, rf Z h), (1, .int (nI c)), (3, .int (nI k))] [] μ1 := fun g1 g2 => by
      refine bX3_quickAt_78 E hB H.1 (by rw [rw4]; exact vin (by omega) (by omega)) ⟨_, rfl, ?_, rfl⟩
      rw [rw4, ix_nI (by omega), hch.2.1 k hk, quick, if_pos ⟨c1, c2, g2, g1⟩]
    refine bX3_quickAt_31 E H.1 (vin (by omega) (by omega)) ?_ ?_
    · rw [ix_nI (by omega), hch.2.2.1, bitc (by omega) (by omega)]
      intro c3
      have c3 : (D 5 c).testBit p = false := by simpa using c3
      have mid : ∀ s, s = nI (if k = 3 then 0 else 1) → JS Z X 58 [(0, rf Z h), (1, .int (nI c)), (3, .int (nI k))] [.int s] μ1 := fun s hs => by
        subst hs
        refine bX3_quickAt_58 E H.1 ?_ ?_
        · rw [nI_eqE (by omega) (by omega)]
          exact fun g => last (Or.inl g) c3
        · rw [nI_eqE (by omega) (by omega)]
          intro g
          have h3e := hch.1
          refine bX3_quickAt_65 E H.1 (vin (by omega) (by omega)) ?_ ?_
          · rw [ix_nI (by omega), h3e, nI_eqE (by omega) (by split <;> omega)]
            exact fun g => last (Or.inr g) c3
          · rw [ix_nI (by omega), h3e, nI_eqE (by omega) (by split <;> omega)]
            intro g2
            exact bX3_quickAt_76 E hB ⟨_, rfl, by rw [quick, if_neg fun q => q.2.2.2.elim g g2], rfl⟩
      refine bX3_quickAt_48 E H.1 ?_ ?_
      · rw [nI_eqE (by omega) (by omega)]
        exact fun g => bX3_quickAt_57 E H.1 (mid _ (by rw [if_neg g]))
      · rw [nI_eqE (by omega) (by omega)]
        exact fun g => bX3_quickAt_53 E H.1 (mid _ (by rw [if_pos g]))
    · rw [ix_nI (by omega), hch.2.2.1, bitc (by omega) (by omega)]
      intro c3
      exact bX3_quickAt_46 E hB ⟨_, rfl, by rw [quick, if_neg fun q => by rw [c3] at q; exact absurd q.2.2.1 (by decide)], rfl⟩
  · rw [ix_nI (by omega), hch.2.2.2, lI, lot_eq hw.2.2.2 (by omega)]
    exact fun g => no fun q => g q.2
/-- what is seen from any place of the first n of a set, and the set -/
def seenAny (D : DD) (b : Nat) : Nat → Nat
  | 0 => b
  | n + 1 => if b.testBit n = true then seenAny D b n ||| D 2 n else seenAny D b n
theorem seenAny_lt {b : Nat} (W : WF D) (hb : b < 1024) : ∀ n, n ≤ D 0 0 → seenAny D b n < 1024
  | 0, _ => hb
  | n + 1, h => by
    have := W.1
    unfold seenAny
    split
    · exact Nat.or_lt_two_pow (n := 10) (seenAny_lt W hb n (by omega)) (lt10 (W.2.2.2.2.1 n (by omega)).1 W.1)
    · exact seenAny_lt W hb n (by omega)
theorem c_seenFromAny {b : Nat} (H : HC μ h D) (W : WF D) (hb : b < 1024) : CtrS Z mX3_seenFromAny [rf Z h, .int (nI b)] μ (rI fun r μ' => r = nI (seenAny D b (D 0 0)) ∧ μ' = μ) := by
  refine CtrS.intro (by decide +kernel) (Nat.le_of_ble_eq_true rfl) rfl fun X E hB => ?_
  have hn := W.1
  have loop : ∀ k i, i + k = D 0 0 → JS Z X 4 [(0, rf Z h), (1, .int (nI b)), (2, .int (nI (seenAny D b i))), (3, .int (nI i))] [] μ := by
    intro k
    induction k with
    | zero =>
      intro i hi
      have hi' : i = D 0 0 := by omega
      subst hi'
      exact bX3_seenFromAny_4 E H.1 (fun _ => bX3_seenFromAny_36 E hB ⟨_, rfl, rfl, rfl⟩) (fun c => absurd (by rw [H.2.1, nI_leE (by omega) (by omega)]; omega) c)
    | succ k ih =>
      intro i hi
      have lt := seenAny_lt W hb i (by omega)
      have lt2 := lt10 (W.2.2.2.2.1 i (by omega)).1 hn
      have next : ∀ s, s = nI (seenAny D b (i + 1)) → JS Z X 30 [(0, rf Z h), (1, .int (nI b)), (2, .int s), (3, .int (nI i))] [] μ := fun s hs => by
        subst hs
        refine bX3_seenFromAny_30 E H.1 ?_
        rw [nI_add]; exact ih (i + 1) (by omega)
      refine bX3_seenFromAny_4 E H.1 (fun c => absurd c (by rw [H.2.1, nI_leE (by omega) (by omega)]; omega)) (fun _ => ?_)
      refine bX3_seenFromAny_12 E H.1 ?_ ?_
      · rw [bitc (by omega) (by omega)]
        intro c
        exact next _ (by rw [seenAny, if_neg c])
      · rw [bitc (by omega) (by omega)]
        intro c
        refine bX3_seenFromAny_21 E H.1 (vin (by omega) (by omega)) ?_
        rw [ix_nI (by omega), H.2.2.2.2.2.1 i (by omega), nI_or (by omega) (by omega)]
        exact next _ (by rw [seenAny, if_pos c])
  exact bX3_seenFromAny_0 E H.1 (loop (D 0 0) 0 (by omega))
end HOUSE3
