/-! MODEL: a child, a row; what is refused is counted, on both sides -/
section MODEL3
variable {Z : ZT} {μ : Mu} {b : Nat} {D : DD}
theorem m_addChild {r q0 q1 q2 q3 : Int32} (H : HM (μ 456) b D) (W : WF D) (hb : b < 742) : CtrS Z mX12_addChild [mrf Z, .int (nI b), .int r, .int q0, .int q1, .int q2, .int q3] μ (mP Z μ b (oChild D r q0 q1 q2 q3)) := by
  refine CtrS.intro (by decide +kernel) (Nat.le_of_ble_eq_true rfl) rfl fun X E hB => ?_
  have hn := W.1
  have hC := W.2.1
  have hS := W.2.2.1
  have no : ¬ (inN r 2 ∧ inN q0 10 ∧ inN q1 10 ∧ inN q2 10 ∧ inN q3 10) → JS Z X 52 [] [] μ := fun g => bX12_addChild_52 E hB (mP_no H (by rw [oChild, if_neg g]))
  refine bX12_addChild_0 E m_in fun v μ1 g => ?_
  simp only [in_1] at g
  obtain ⟨rfl, rfl⟩ := g
  refine bX12_addChild_6 E (fun c => no fun g => by rw [bz] at c; exact c g.1) (fun c1 => ?_)
  rw [bz] at c1
  have c1 := Decidable.not_not.mp c1
  refine bX12_addChild_9 E m_in fun v μ1 g => ?_
  simp only [in_9] at g
  obtain ⟨rfl, rfl⟩ := g
  refine bX12_addChild_16 E (fun c => no fun g => by rw [bz] at c; exact c g.2.1) (fun c2 => ?_)
  rw [bz] at c2
  have c2 := Decidable.not_not.mp c2
  refine bX12_addChild_19 E m_in fun v μ1 g => ?_
  simp only [in_9] at g
  obtain ⟨rfl, rfl⟩ := g
  refine bX12_addChild_27 E (fun c => no fun g => by rw [bz] at c; exact c g.2.2.1) (fun c3 => ?_)
  rw [bz] at c3
  have c3 := Decidable.not_not.mp c3
  refine bX12_addChild_30 E m_in fun v μ1 g => ?_
  simp only [in_9] at g
  obtain ⟨rfl, rfl⟩ := g
  refine bX12_addChild_38 E (fun c => no fun g => by rw [bz] at c; exact c g.2.2.2.1) (fun c4 => ?_)
  rw [bz] at c4
  have c4 := Decidable.not_not.mp c4
  refine bX12_addChild_41 E m_in fun v μ1 g => ?_
  simp only [in_9] at g
  obtain ⟨rfl, rfl⟩ := g
  refine bX12_addChild_49 E (fun c5 => ?_) (fun c => no fun g => by rw [bz] at c; exact c g.2.2.2.2)
  rw [bz] at c5
  have c5 := Decidable.not_not.mp c5
  have H0 := H
  obtain ⟨h1, h2, h3, h4, h5, h6, h7, h8⟩ := H
  have e0 : ∀ j n : Nat, nI b + nI j + nI n = nI (b + j + n) := fun j n => by rw [nI_add, nI_add]
  have e00 : ∀ j : Nat, nI b + nI j = nI (b + j) := fun j => nI_add b j
  have e4 : nI b + nI 118 + nI 4 * nI (D 0 1) = nI (b + 118 + 4 * D 0 1) := by rw [nI_mul, nI_add, nI_add]
  have e5 : ∀ j, nI b + nI 118 + nI 4 * nI (D 0 1) + nI j = nI (b + 118 + 4 * D 0 1 + j) := fun j => by rw [e4, nI_add]
  refine bX12_addChild_55 E (by rw [e00]; exact vin (by omega) (by omega)) ?_ ?_
  · rw [e00, ix_nI (by omega), h2, nI_eqE (by omega) (by omega)]
    intro c6
    refine bX12_addChild_72 E (by rw [e00]; exact vin (by omega) (by omega)) (by rw [e00 111, ix_nI (by omega), h2, e0]; exact vin (by omega) (by omega)) ?_
    rw [e00 111, ix_nI (by omega), h2, e0, ix_nI (by omega)]
    refine bX12_addChild_96 E (by rw [e4]; exact vin (by omega) (by omega)) ?_
    refine bX12_addChild_111 E (by rw [e5]; exact vin (by omega) (by omega)) ?_
    refine bX12_addChild_129 E (by rw [e5]; exact vin (by omega) (by omega)) ?_
    refine bX12_addChild_147 E (by rw [e5]; exact vin (by omega) (by omega)) ?_
    refine bX12_addChild_165 E (by rw [e0]; exact vin (by omega) (by omega)) ?_
    refine bX12_addChild_179 E (by rw [e0]; exact vin (by omega) (by omega)) ?_
    refine bX12_addChild_193 E (by rw [e00]; exact vin (by omega) (by omega)) (by rw [e00]; exact vin (by omega) (by omega)) ?_
    rw [e5, e5, e5, e4, e0, e0, e00]
    simp (disch := omega) only [ix_nI, uR_s, uR_uR]
    refine bX12_addChild_206 E hB (mP_ok (by rw [oChild, if_pos ⟨c1, c2, c3, c4, c5⟩, if_neg c6]) rfl ?_ ?_)
    · rw [uR_s]
      simp (disch := omega) only [pk_un]
      rw [h2, nI_add]
      have r1 := (inN_of c1 (by decide)).2
      have r2 := (inN_of c2 (by decide)).2
      have r3 := (inN_of c3 (by decide)).2
      have r4 := (inN_of c4 (by decide)).2
      have r5 := (inN_of c5 (by decide)).2
      refine ⟨?_, ?_, ?_, ?_, ?_, fun c hc => ?_, ?_, ?_⟩
      · simp (disch := omega) only [pk_un]; simpa [up] using h1
      · rw [pk_us]; simp [up]
      · simp (disch := omega) only [pk_un]; simpa [up] using h3
      · intro p q hp hq; have hp : p < D 0 0 := by simpa [up] using hp
        have hq : q < D 0 0 := by simpa [up] using hq
        simp (disch := omega) only [pk_un]; simpa [up] using h4 p q hp hq
      · intro p hp; have hp : p < D 0 0 := by simpa [up] using hp
        simp (disch := omega) only [pk_un]; simpa [up] using h5 p hp
      · have hc : c < D 0 1 + 1 := by simpa [up] using hc
        by_cases e : c = D 0 1
        · subst e
          refine ⟨?_, fun k hk => ?_, ?_, ?_⟩
          · simp (disch := omega) only [pk_un, pk_us]; exact r1.trans (by simp [up])
          · rcases (show k = 0 ∨ k = 1 ∨ k = 2 ∨ k = 3 by omega) with rfl | rfl | rfl | rfl
            · rw [show b + 118 + (4 * D 0 1 + 0) = b + 118 + 4 * D 0 1 by omega]
              simp (disch := omega) only [pk_un, pk_us]; exact r2.trans (by simp [up])
            · rw [show b + 118 + (4 * D 0 1 + 1) = b + 118 + 4 * D 0 1 + 1 by omega]
              simp (disch := omega) only [pk_un, pk_us]; exact r3.trans (by simp [up])
            · rw [show b + 118 + (4 * D 0 1 + 2) = b + 118 + 4 * D 0 1 + 2 by omega]
              simp (disch := omega) only [pk_un, pk_us]; exact r4.trans (by simp [up])
            · rw [show b + 118 + (4 * D 0 1 + 3) = b + 118 + 4 * D 0 1 + 3 by omega]
              simp (disch := omega) only [pk_un, pk_us]; exact r5.trans (by simp [up])
          · simp (disch := omega) only [pk_un, pk_us]; simp [up]
          · simp (disch := omega) only [pk_un, pk_us]; simp [up, lotI]; rfl
        · have := h6 c (by omega)
          refine ⟨?_, fun k hk => ?_, ?_, ?_⟩ <;> simp (disch := omega) only [pk_un]
          · simpa [up, e] using this.1
          · rw [this.2.1 k hk]
            have n1 : 4 * c + k ≠ 4 * D 0 1 := by omega
            have n2 : 4 * c + k ≠ 4 * D 0 1 + 1 := by omega
            have n3 : 4 * c + k ≠ 4 * D 0 1 + 2 := by omega
            have n4 : 4 * c + k ≠ 4 * D 0 1 + 3 := by omega
            simp [up, n1, n2, n3, n4]
          · simpa [up, e] using this.2.2.1
          · simpa [up, e] using this.2.2.2
      · intro s hs; have hs : s < D 0 2 := by simpa [up] using hs
        have := h7 s hs
        refine ⟨?_, ?_, ?_, ?_⟩ <;> simp (disch := omega) only [pk_un]
        · simpa [up] using this.1
        · simpa [up] using this.2.1
        · simpa [up] using this.2.2.1
        · simpa [up] using this.2.2.2
      · intro l hl; have := h8 l hl
        refine ⟨?_, fun i hi => ?_⟩
        · simp (disch := omega) only [pk_un]; simpa [up] using this.1
        · have hi : i < D 11 l := by simpa [up] using hi
          have := (W.2.2.2.2.2.2.2 l hl).1
          simp (disch := omega) only [pk_un]; simpa [up] using (h8 l hl).2 i hi
    · refine ⟨fun a ha => uR_n ha, fun i hi => ?_⟩
      rw [uR_s]
      simp (disch := omega) only [pk_un]
  · rw [e00, ix_nI (by omega), h2, nI_eqE (by omega) (by omega)]
    intro c6
    exact bX12_addChild_69 E hB (mP_no H0 (by rw [oChild, if_pos ⟨c1, c2, c3, c4, c5⟩, if_pos c6]))
theorem inRow_mono {D : DD} {l s i : Nat} (h : inRow D l s (i + 1) = true) : ∀ n, i + 1 ≤ n → inRow D l s n = true
  | 0, hn => absurd hn (Nat.not_succ_le_zero _)
  | n + 1, hn => by
    rcases Nat.lt_or_ge i n with g | g
    · rw [inRow, inRow_mono h n g]; rfl
    · have : i = n := by omega
      subst this; exact h
theorem m_addRow {l s : Int32} (H : HM (μ 456) b D) (W : WF D) (hb : b < 742) : CtrS Z mX12_addRow [mrf Z, .int (nI b), .int l, .int s] μ (mP Z μ b (oRow D l s)) := by
  refine CtrS.intro (by decide +kernel) (Nat.le_of_ble_eq_true rfl) rfl fun X E hB => ?_
  have hn := W.1
  have hC := W.2.1
  have hS := W.2.2.1
  have no : ¬ (inN l 2 ∧ inN s (D 0 2)) → JS Z X 16 [] [] μ := fun g => bX12_addRow_16 E hB (mP_no H (by rw [oRow, if_neg g]))
  refine bX12_addRow_0 E m_isLot fun v μ1 g => ?_
  obtain ⟨rfl, rfl⟩ := g
  refine bX12_addRow_4 E (fun c => no fun g => by rw [bz] at c; exact c g.1) (fun c1 => ?_)
  rw [bz] at c1
  have c1 := Decidable.not_not.mp c1
  refine bX12_addRow_7 E (m_isSlip H W hb) fun v μ1 g => ?_
  obtain ⟨rfl, rfl⟩ := g
  refine bX12_addRow_13 E (fun c2 => ?_) (fun c => no fun g => by rw [bz] at c; exact c g.2)
  rw [bz] at c2
  have c2 := Decidable.not_not.mp c2
  have H0 := H
  obtain ⟨h1, h2, h3, h4, h5, h6, h7, h8⟩ := H
  obtain ⟨ha, ea⟩ := inN_of c1 (by decide)
  obtain ⟨hq, eq⟩ := inN_of c2 (by omega)
  obtain ⟨hl6, hrow⟩ := W.2.2.2.2.2.2.2 (ix l) ha
  have e1 : nI b + nI 187 + l = nI (b + 187 + ix l) := by rw [← nI_add, ← nI_add, ← ea]
  have e2 : ∀ i, nI b + nI 189 + nI 6 * l + nI i = nI (b + 189 + (6 * ix l + i)) := fun i => by
    rw [ea, nI_mul, nI_add, nI_add, nI_add, ← ea, Nat.add_assoc]
  refine bX12_addRow_19 E (by rw [e1]; exact vin (by omega) (by omega)) ?_
  rw [e1, ix_nI (by omega), (h8 (ix l) ha).1]
  have loop : ∀ k i, i + k = D 11 (ix l) → inRow D (ix l) (ix s) i = false → JS Z X 36 [(0, mrf Z), (1, .int (nI b)), (2, .int l), (3, .int s), (4, .int (nI (D 11 (ix l)))), (5, .int (nI i))] [] μ1 := by
    intro k
    induction k with
    | zero =>
      intro i hi hr
      have hi' : i = D 11 (ix l) := by omega
      subst hi'
      refine bX12_addRow_36 E (fun _ => ?_) (fun c => absurd (by rw [nI_leE (by omega) (by omega)]; omega) c)
      refine bX12_addRow_74 E ?_ ?_
      · rw [nI_eqE (by omega) (by omega)]
        intro c
        refine bX12_addRow_84 E (by rw [e2]; exact vin (by omega) (by omega)) ?_
        refine bX12_addRow_103 E (by rw [e1]; exact vin (by omega) (by omega)) (by rw [e1]; exact vin (by omega) (by omega)) ?_
        rw [e1, e2]
        simp (disch := omega) only [ix_nI, uR_s, uR_uR]
        refine bX12_addRow_119 E hB ?_
        rw [nI_add]
        refine mP_ok (by rw [oRow, if_pos ⟨c1, c2⟩, if_neg (by rw [hr]; simp), if_neg c]) rfl ?_ ?_
        · rw [uR_s]
          simp (disch := omega) only [pk_un]
          rw [(h8 (ix l) ha).1, nI_add]
          refine ⟨?_, ?_, ?_, ?_, ?_, ?_, ?_, fun q hq => ?_⟩
          · simp (disch := omega) only [pk_un]; simpa [up] using h1
          · simp (disch := omega) only [pk_un]; simpa [up] using h2
          · simp (disch := omega) only [pk_un]; simpa [up] using h3
          · intro p q hp hq; have hp : p < D 0 0 := by simpa [up] using hp
            have hq : q < D 0 0 := by simpa [up] using hq
            simp (disch := omega) only [pk_un]; simpa [up] using h4 p q hp hq
          · intro p hp; have hp : p < D 0 0 := by simpa [up] using hp
            simp (disch := omega) only [pk_un]; simpa [up] using h5 p hp
          · intro c hc; have hc : c < D 0 1 := by simpa [up] using hc
            have := h6 c hc
            refine ⟨?_, fun k hk => ?_, ?_, ?_⟩ <;> simp (disch := omega) only [pk_un]
            · simpa [up] using this.1
            · simpa [up] using this.2.1 k hk
            · simpa [up] using this.2.2.1
            · simpa [up] using this.2.2.2
          · intro s hs; have hs : s < D 0 2 := by simpa [up] using hs
            have := h7 s hs
            refine ⟨?_, ?_, ?_, ?_⟩ <;> simp (disch := omega) only [pk_un]
            · simpa [up] using this.1
            · simpa [up] using this.2.1
            · simpa [up] using this.2.2.1
            · simpa [up] using this.2.2.2
          · by_cases e : q = ix l
            · subst e
              refine ⟨by rw [pk_us]; simp [up], fun i hi => ?_⟩
              rw [up_s] at hi
              rw [up_k (by decide)]
              simp (disch := omega) only [pk_un]
              refine upd_at (fun e => ?_) (fun e => ?_)
              · rw [show 6 * ix l + i = 6 * ix l + D 11 (ix l) by omega, up_s]; exact eq
              · rw [up_i (by omega)]; exact (h8 (ix l) ha).2 i (by omega)
            · refine ⟨?_, fun i hi => ?_⟩
              · simp (disch := omega) only [pk_un]; simpa [up, e] using (h8 q hq).1
              · rw [up_i e, up_k (by decide)] at hi
                have hq6 := (W.2.2.2.2.2.2.2 q hq).1
                simp (disch := omega) only [pk_un]
                rw [up_k (by decide), up_i (by omega)]
                exact (h8 q hq).2 i hi
        · refine ⟨fun a ha => uR_n ha, fun i hi => ?_⟩
          rw [uR_s]
          simp (disch := omega) only [pk_un]
      · rw [nI_eqE (by omega) (by omega)]
        intro c
        exact bX12_addRow_81 E hB (mP_no H0 (by rw [oRow, if_pos ⟨c1, c2⟩, if_neg (by rw [hr]; simp), if_pos c]))
    | succ k ih =>
      intro i hi hr
      have er := (h8 (ix l) ha).2 i (by omega)
      refine bX12_addRow_36 E (fun c => absurd c (by rw [nI_leE (by omega) (by omega)]; omega)) (fun _ => ?_)
      refine bX12_addRow_43 E (by rw [e2]; exact vin (by omega) (by omega)) ?_ ?_
      · rw [e2, ix_nI (by omega), er]
        intro c
        refine bX12_addRow_68 E ?_
        rw [nI_add]
        refine ih (i + 1) (by omega) ?_
        rw [inRow, hr, Bool.false_or]
        exact decide_eq_false fun e => c (by rw [eq, e])
      · rw [e2, ix_nI (by omega), er]
        intro c
        have lt := (hrow i (by omega)).1
        have : inRow D (ix l) (ix s) (i + 1) = true := by
          rw [inRow, hr, Bool.false_or]
          exact decide_eq_true (by rw [← c, ix_nI (by omega)])
        exact bX12_addRow_65 E hB (mP_no H0 (by rw [oRow, if_pos ⟨c1, c2⟩, if_pos (inRow_mono this _ (by omega))]))
  exact loop (D 11 (ix l)) 0 (by omega) rfl
end MODEL3
/-! what is refused is counted -/
def cnt (s : Nat → Int32) (v : Int32) : Nat → Int32 := if v = -2 then upd s 0 (s 0 + nI 1) else if v = -3 then upd s 1 (s 1 + nI 1) else if v = -4 then upd s 2 (s 2 + nI 1) else s
def ST (r : Nat → Int32) (s : Nat → Int32) : Prop := ∀ i, i < 3 → r i = s i
theorem ST.up {r s : Nat → Int32} {k : Nat} (h : ST r s) (hk : k < 3) : ST (upd r k (r k + nI 1)) (upd s k (s k + nI 1)) := fun i hi => by
  rw [h k hk]
  exact upd_at (fun e => by rw [e, pk_us]) (fun e => by rw [pk_un e]; exact h i hi)
section COUNT
variable {Z : ZT} {μ : Mu} {s : Nat → Int32}
abbrev xrf (Z : ZT) : Value := .ref (Z.2.2.1 + 0)
theorem c_counted {v : Int32} (h : ST (μ 72) s) : CtrS Z mX11_counted [xrf Z, .int v] μ (rI fun r μ' => r = v ∧ ST (μ' 72) (cnt s v) ∧ Fr [72] μ μ') := by
  refine CtrS.intro (by decide +kernel) (Nat.le_of_ble_eq_true rfl) rfl fun X E hB => ?_
  refine bX11_counted_0 E (fun c => ?_) (fun c => ?_)
  · refine bX11_counted_19 E (fun c2 => ?_) (fun c2 => ?_)
    · refine bX11_counted_38 E (fun c3 => ?_) (fun c3 => ?_)
      · exact bX11_counted_54 E hB ⟨_, rfl, rfl, by rw [cnt, if_neg c, if_neg c2, if_neg c3]; exact h, Fr.rf⟩
      · exact bX11_counted_44 E (vin (by omega) (by omega)) (vin (by omega) (by omega)) (bX11_counted_54 E hB ⟨_, rfl, rfl, by rw [cnt, if_neg c, if_neg c2, if_pos c3, uR_s]; exact h.up (k := 2) (by omega), Fr.uR (by simp)⟩)
    · exact bX11_counted_25 E (vin (by omega) (by omega)) (vin (by omega) (by omega)) (bX11_counted_35 E (bX11_counted_54 E hB ⟨_, rfl, rfl, by rw [cnt, if_neg c, if_pos c2, uR_s]; exact h.up (k := 1) (by omega), Fr.uR (by simp)⟩))
  · exact bX11_counted_6 E (vin (by omega) (by omega)) (vin (by omega) (by omega)) (bX11_counted_16 E (bX11_counted_54 E hB ⟨_, rfl, rfl, by rw [cnt, if_pos c, uR_s]; exact h.up (k := 0) (by omega), Fr.uR (by simp)⟩))
theorem m_refuse {v : Int32} (h : ST (μ 458) s) : CtrS Z mX12_refuse [mrf Z, .int v] μ (rI fun r μ' => r = v ∧ ST (μ' 458) (cnt s v) ∧ Fr [458] μ μ') := by
  refine CtrS.intro (by decide +kernel) (Nat.le_of_ble_eq_true rfl) rfl fun X E hB => ?_
  have go : ∀ k, k < 3 → -2 - v = nI k → cnt s v = upd s k (s k + nI 1) → JS Z X 18 [(0, mrf Z), (1, .int v)] [] μ := fun k hk e e2 => by
    refine bX12_refuse_18 E (by rw [e]; exact vin hk (by omega)) (by rw [e]; exact vin hk (by omega)) (bX12_refuse_31 E hB ⟨_, rfl, rfl, ?_, Fr.uR (by simp)⟩)
    rw [e, ix_nI (by omega), uR_s, e2]
    exact h.up hk
  refine bX12_refuse_0 E (fun c => go 0 (by omega) (by rw [c]; decide) (by rw [cnt, if_pos c])) (fun c => ?_)
  refine bX12_refuse_6 E (fun c2 => go 1 (by omega) (by rw [c2]; decide) (by rw [cnt, if_neg c, if_pos c2])) (fun c2 => ?_)
  refine bX12_refuse_12 E (fun c3 => ?_) (fun c3 => go 2 (by omega) (by rw [c3]; decide) (by rw [cnt, if_neg c, if_neg c2, if_pos c3]))
  exact bX12_refuse_31 E hB ⟨_, rfl, rfl, by rw [cnt, if_neg c, if_neg c2, if_neg c3]; exact h, Fr.rf⟩
end COUNT
theorem cnt_nI {s : Nat → Int32} {k : Nat} (hk : k < 2147483648) : cnt s (nI k) = s := by
  have h : ∀ z : Int32, z < 0 → ¬ nI k = z := fun z hz e => by rw [← e] at hz; exact absurd hz (nI_pos hk)
  rw [cnt, if_neg (h _ (by decide)), if_neg (h _ (by decide)), if_neg (h _ (by decide))]
theorem cnt_lot {s : Nat → Int32} {k : Nat} (hk : k ≤ 2) : cnt s (lotI k) = s := by
  rcases (show k = 0 ∨ k = 1 ∨ k = 2 by omega) with rfl | rfl | rfl <;> rfl
