/-! BUILD: the reference does an ITEM to its draft -/
section BUILD
variable {Z : ZT} {μ : Mu} {D : DD} {g : Nat → Nat} {e : Nat}
theorem vl_b {q : Nat} : ∀ (d : Nat) {p v : Nat}, q - p = d → (∀ i, p ≤ i → i < q → 48 ≤ g i ∧ g i ≤ 57) → vl g q p v + 1 ≤ (v + 1) * 10 ^ d
  | 0, p, v, hd, _ => by rw [vl_n (by omega)]; exact Nat.le_of_eq (Nat.mul_one _).symm
  | d + 1, p, v, hd, hi => by
    rw [vl_y (by omega)]
    have h1 := vl_b d (p := p + 1) (v := v * 10 + g p - 48) (by omega) fun i a b => hi i (by omega) b
    have h2 := hi p (Nat.le_refl _) (by omega)
    refine Nat.le_trans h1 ?_
    rw [Nat.pow_succ, Nat.mul_comm (10 ^ d) 10, ← Nat.mul_assoc]
    exact Nat.mul_le_mul_right _ (by omega)
theorem vl_lt {p q : Nat} (hq : q ≤ p + 3) (hi : ∀ i, p ≤ i → i < q → 48 ≤ g i ∧ g i ≤ 57) : vl g q p 0 < 1000 := by
  have h1 := vl_b (g := g) (q := q) (q - p) (p := p) (v := 0) rfl hi
  have h2 : 10 ^ (q - p) ≤ 10 ^ 3 := Nat.pow_le_pow_right (by decide) (by omega)
  have h3 : (10 : Nat) ^ 3 = 1000 := rfl
  omega
theorem nm_v : ∀ (n : Nat) {p r : Nat} {l : List Nat}, nm g e n p = .inr (r, l) → ∀ x, x ∈ l → x < 1000
  | 0, p, r, l, h => by
    cases h
    exact fun x hx => by cases hx
  | n + 1, p, r, l, h => by
    unfold nm at h
    by_cases c : rn g e 48 57 (sk g e p) = sk g e p ∨ sk g e p + 3 < rn g e 48 57 (sk g e p)
    · rw [if_pos c] at h; cases h
    · rw [if_neg c] at h
      cases hn : nm g e n (rn g e 48 57 (sk g e p)) with
      | inl x => rw [hn] at h; cases h
      | inr q =>
        obtain ⟨r1, l1⟩ := q
        rw [hn] at h
        cases h
        intro x hx
        rcases List.mem_cons.mp hx with rfl | hx
        · exact vl_lt (by omega) fun i a b => rn_in a b
        · exact nm_v n hn x hx
theorem getD_b {l : List Nat} (h : ∀ x, x ∈ l → x < 1000) (t : Nat) : l.getD t 0 < 1000 := by
  rw [List.getD_eq_getElem?_getD]
  cases h1 : l[t]? with
  | none => decide
  | some x => exact h x (List.mem_of_getElem? h1)
theorem HM_join {a : Nat → Int32} {b c x : Nat} (H : HM a b D) (W : WF D) (hc0 : c < D 0 1) : HM (upd a (b + 148 + c) (lotI x)) b (up D 6 c x) := by
  have hn := W.1
  have hC := W.2.1
  have hS := W.2.2.1
  obtain ⟨h1, h2, h3, h4, h5, h6, h7, h8⟩ := H
  refine ⟨?_, ?_, ?_, ?_, ?_, fun c' hc => ?_, ?_, ?_⟩
  · simp (disch := omega) only [pk_un]; simpa [up] using h1
  · simp (disch := omega) only [pk_un]; simpa [up] using h2
  · simp (disch := omega) only [pk_un]; simpa [up] using h3
  · intro p q hp hq; have hp : p < D 0 0 := by simpa [up] using hp
    have hq : q < D 0 0 := by simpa [up] using hq
    simp (disch := omega) only [pk_un]; simpa [up] using h4 p q hp hq
  · intro p hp; have hp : p < D 0 0 := by simpa [up] using hp
    simp (disch := omega) only [pk_un]; simpa [up] using h5 p hp
  · have hc : c' < D 0 1 := by simpa [up] using hc
    have := h6 c' hc
    refine ⟨?_, fun k hk => ?_, ?_, ?_⟩
    · simp (disch := omega) only [pk_un]; simpa [up] using this.1
    · simp (disch := omega) only [pk_un]; simpa [up] using this.2.1 k hk
    · simp (disch := omega) only [pk_un]; simpa [up] using this.2.2.1
    · refine upd_at (fun e => ?_) (fun e => ?_)
      · rw [show c' = c by omega, up_s]
      · rw [up_i (by omega)]; exact this.2.2.2
  · intro s hs; have hs : s < D 0 2 := by simpa [up] using hs
    have := h7 s hs
    refine ⟨?_, ?_, ?_, ?_⟩ <;> simp (disch := omega) only [pk_un]
    · simpa [up] using this.1
    · simpa [up] using this.2.1
    · simpa [up] using this.2.2.1
    · simpa [up] using this.2.2.2
  · intro l hl; have := h8 l hl
    refine ⟨?_, fun i hi => ?_⟩
    · simp (disch := omega) only [pk_un]; simpa [up] using this.1
    · have hi : i < D 11 l := by simpa [up] using hi
      have := (W.2.2.2.2.2.2.2 l hl).1
      simp (disch := omega) only [pk_un]; simpa [up] using (h8 l hl).2 i hi
theorem HM_spare {a : Nat → Int32} {b c : Nat} (H : HM a b D) (W : WF D) (hc0 : c < D 0 2) : HM (upd a (b + 171 + c) (nI 1)) b (up D 9 c 1) := by
  have hn := W.1
  have hC := W.2.1
  have hS := W.2.2.1
  obtain ⟨h1, h2, h3, h4, h5, h6, h7, h8⟩ := H
  refine ⟨?_, ?_, ?_, ?_, ?_, ?_, fun s' hs' => ?_, ?_⟩
  · simp (disch := omega) only [pk_un]; simpa [up] using h1
  · simp (disch := omega) only [pk_un]; simpa [up] using h2
  · simp (disch := omega) only [pk_un]; simpa [up] using h3
  · intro p q hp hq; have hp : p < D 0 0 := by simpa [up] using hp
    have hq : q < D 0 0 := by simpa [up] using hq
    simp (disch := omega) only [pk_un]; simpa [up] using h4 p q hp hq
  · intro p hp; have hp : p < D 0 0 := by simpa [up] using hp
    simp (disch := omega) only [pk_un]; simpa [up] using h5 p hp
  · intro c hc; have hc : c < D 0 1 := by simpa [up] using hc
    have := h6 c hc
    refine ⟨?_, fun k hk => ?_, ?_, ?_⟩ <;> simp (disch := omega) only [pk_un]
    · simpa [up] using this.1
    · simpa [up] using this.2.1 k hk
    · simpa [up] using this.2.2.1
    · simpa [up] using this.2.2.2
  · have hs' : s' < D 0 2 := by simpa [up] using hs'
    have := h7 s' hs'
    refine ⟨?_, ?_, ?_, ?_⟩
    · simp (disch := omega) only [pk_un]; simpa [up] using this.1
    · simp (disch := omega) only [pk_un]; simpa [up] using this.2.1
    · refine upd_at (fun e => ?_) (fun e => ?_)
      · rw [show s' = c by omega, up_s]
      · rw [up_i (by omega)]; exact this.2.2.1
    · simp (disch := omega) only [pk_un]; simpa [up] using this.2.2.2
  · intro l hl; have := h8 l hl
    refine ⟨?_, fun i hi => ?_⟩
    · simp (disch := omega) only [pk_un]; simpa [up] using this.1
    · have hi : i < D 11 l := by simpa [up] using hi
      have := (W.2.2.2.2.2.2.2 l hl).1
      simp (disch := omega) only [pk_un]; simpa [up] using (h8 l hl).2 i hi
/-- an answer is refused, or at least 0 -/
def SG (v : Int32) : Prop := (0 ≤ v ↔ (-2 : Int32) < v)
theorem sg_n : ∀ n, n < 100 → (0 ≤ nI n ↔ (-2 : Int32) < nI n) := by decide +kernel
theorem sg_2 : SG (-2) := by unfold SG; decide
theorem sg_3 : SG (-3) := by unfold SG; decide
theorem sg_4 : SG (-4) := by unfold SG; decide
theorem sg_Place (W : WF D) : SG (oPlace D).1 := by
  have := W.1
  unfold oPlace
  split
  · exact sg_4
  · exact sg_n _ (by omega)
theorem sg_Way {a b n : Int32} (W : WF D) : SG (oWay D a b n).1 := by
  unfold oWay
  split
  · rename_i h
    obtain ⟨h1, h2, -, -⟩ := h
    have hn := W.1
    have := (W.2.2.2.1 (ix a) (ix b) (by have := (inN_of h1 (by omega)).1; omega) (by have := (inN_of h2 (by omega)).1; omega)).1
    exact sg_n _ (by omega)
  · exact sg_2
theorem sg_Sees {a b : Int32} : SG (oSees D a b).1 := by
  unfold oSees
  split
  · split
    · exact sg_3
    · exact sg_n 1 (by decide)
  · exact sg_2
theorem sg_Child {r a b c d : Int32} (W : WF D) : SG (oChild D r a b c d).1 := by
  have := W.2.1
  unfold oChild
  split
  · split
    · exact sg_4
    · exact sg_n _ (by omega)
  · exact sg_2
theorem sg_Bar {a b : Int32} : SG (oBar D a b).1 := by
  unfold oBar
  split
  · split
    · exact sg_3
    · exact sg_n 1 (by decide)
  · exact sg_2
theorem sg_Slip {a b : Int32} (W : WF D) : SG (oSlip D a b).1 := by
  have := W.2.2.1
  unfold oSlip
  split
  · split
    · exact sg_4
    · exact sg_n _ (by omega)
  · exact sg_2
theorem sg_Spare {a : Int32} : SG (oSpare D a).1 := by
  unfold oSpare
  split
  · split
    · exact sg_3
    · exact sg_n 1 (by decide)
  · exact sg_2
theorem sg_Means {a b : Int32} : SG (oMeans D a b).1 := by
  unfold oMeans
  split
  · split
    · exact sg_3
    · exact sg_n 1 (by decide)
  · exact sg_2
theorem sg_Row {a b : Int32} (W : WF D) : SG (oRow D a b).1 := by
  unfold oRow
  split
  · rename_i h
    have := (W.2.2.2.2.2.2.2 (ix a) (inN_of h.1 (by decide)).1).1
    split
    · exact sg_3
    · split
      · exact sg_4
      · exact sg_n _ (by omega)
  · exact sg_2
theorem lot_gt : ∀ x, x ≤ 2 → (-2 : Int32) < lotI x := by decide +kernel
theorem m_build {k : Nat} {l : List Nat} (hk : k < 10) (hn : ∀ t, t < nOf k → μ 460 t = nI (l.getD t 0)) (hv : ∀ t, l.getD t 0 < 1000) (H : HM (μ 456) 741 D) (W : WF D) : CtrS Z mX12_build [mrf Z, .int (nI (10 + k))] μ
    (rI fun v μ' => (0 ≤ v ↔ (-2 : Int32) < (tl D k l).1) ∧ HM (μ' 456) 741 (tl D k l).2 ∧ FrA 741 μ μ') := by
  refine CtrS.intro (by decide +kernel) (Nat.le_of_ble_eq_true rfl) rfl fun X E hB => ?_
  have a0 : 0 < nOf k → μ 460 (ix (nI 0)) = nI (l.getD 0 0) := hn 0
  have a1 : 1 < nOf k → μ 460 (ix (nI 1)) = nI (l.getD 1 0) := hn 1
  have a2 : 2 < nOf k → μ 460 (ix (nI 2)) = nI (l.getD 2 0) := hn 2
  have a3 : 3 < nOf k → μ 460 (ix (nI 3)) = nI (l.getD 3 0) := hn 3
  have a4 : 4 < nOf k → μ 460 (ix (nI 4)) = nI (l.getD 4 0) := hn 4
  have kk : ∀ j, j < 20 → nI (10 + k) = nI j → 10 + k = j := fun j hj c => nI_inj (by omega) (by omega) c
  have v0 : vp_in (nI 0) 5 := vin (by decide) (by decide)
  have v1 : vp_in (nI 1) 5 := vin (by decide) (by decide)
  have v2 : vp_in (nI 2) 5 := vin (by decide) (by decide)
  have v3 : vp_in (nI 3) 5 := vin (by decide) (by decide)
  have v4 : vp_in (nI 4) 5 := vin (by decide) (by decide)
  have hC := W.2.1
  have hS := W.2.2.1
  refine bX12_build_0 E v0 v1 (fun c => ?_) (fun c => ?_) (fun c => ?_) (fun c => ?_) (fun c => ?_) (fun c => ?_) (fun c => ?_) (fun c => ?_) (fun c => ?_) (fun c => ?_)
  · have d : ∀ k, k < 10 → ((nI (10 + k)).toInt < 10 ∨ 18 < (nI (10 + k)).toInt) → k = 9 := by decide +kernel
    obtain rfl := d k hk c
    rw [a0 (by decide), a1 (by decide)]
    exact bX12_build_217 E (m_addRow H W (by decide)) fun v μ1 h => bX12_build_226 E hB ⟨v, rfl, by rw [h.1]; exact sg_Row W, h.2⟩
  · obtain rfl : k = 0 := by have := kk 10 (by decide) c; omega
    exact bX12_build_64 E (m_addPlace H W (by decide)) fun v μ1 h => bX12_build_71 E hB ⟨v, rfl, by rw [h.1]; exact sg_Place W, h.2⟩
  · obtain rfl : k = 1 := by have := kk 11 (by decide) c; omega
    rw [a0 (by decide), a1 (by decide)]
    exact bX12_build_72 (p := fun v μ' => v = (tl D 1 l).1 ∧ HM (μ' 456) 741 (tl D 1 l).2 ∧ FrA 741 μ μ') E v2 (by rw [a2 (by decide)]; exact m_setWay H W (by decide)) fun v μ1 h => bX12_build_87 E hB ⟨v, rfl, by rw [h.1]; exact sg_Way W, h.2⟩
  · obtain rfl : k = 2 := by have := kk 12 (by decide) c; omega
    rw [a0 (by decide), a1 (by decide)]
    exact bX12_build_88 E (m_setSeen H W (by decide)) fun v μ1 h => bX12_build_97 E hB ⟨v, rfl, by rw [h.1]; exact sg_Sees, h.2⟩
  · obtain rfl : k = 3 := by have := kk 13 (by decide) c; omega
    rw [a0 (by decide), a1 (by decide)]
    exact bX12_build_98 (p := fun v μ' => v = (tl D 3 l).1 ∧ HM (μ' 456) 741 (tl D 3 l).2 ∧ FrA 741 μ μ') E v2 v3 v4 (by rw [a2 (by decide), a3 (by decide), a4 (by decide)]; exact m_addChild H W (by decide)) fun v μ1 h => bX12_build_125 E hB ⟨v, rfl, by rw [h.1]; exact sg_Child W, h.2⟩
  · obtain rfl : k = 4 := by have := kk 14 (by decide) c; omega
    rw [a0 (by decide), a1 (by decide)]
    exact bX12_build_126 E (m_setBar H W (by decide)) fun v μ1 h => bX12_build_135 E hB ⟨v, rfl, by rw [h.1]; exact sg_Bar, h.2⟩
  · obtain rfl : k = 5 := by have := kk 15 (by decide) c; omega
    rw [a0 (by decide), a1 (by decide)]
    have w0 := hv 0
    have w1 := hv 1
    generalize hx : l.getD 0 0 = x at *
    generalize hy : l.getD 1 0 = y at *
    have et : tl D 5 l = oJoin D (nI x) (nI y) := by show oJoin D (nI (l.getD 0 0)) (nI (l.getD 1 0)) = _; rw [hx, hy]
    rw [et] at hB
    have no : ¬ (inN (nI x) (D 0 1) ∧ inN (nI y + 1) 3) → JS Z X 154 [] [] μ := fun w => by
      have e1 : oJoin D (nI x) (nI y) = (-2, D) := if_neg w
      rw [e1] at hB
      exact bX12_build_154 E hB ⟨_, rfl, sg_2, H, FrA.rf⟩
    have ey : nI y + 1 = nI (y + 1) := nI_add y 1
    refine bX12_build_136 E (m_isChild H W (by decide)) fun v μ1 h => ?_
    obtain ⟨rfl, rfl⟩ := h
    refine bX12_build_144 E (fun c => by rw [bz] at c; exact no fun w => c w.1) (fun c1 => ?_)
    rw [bz, Classical.not_not] at c1
    refine bX12_build_147 E m_isLot fun v μ2 h => ?_
    obtain ⟨rfl, rfl⟩ := h
    refine bX12_build_151 E (fun c2 => ?_) (fun c => by
      rw [bz, inN_iff rfl (by omega) (by decide)] at c
      refine no fun w => ?_
      have w2 := w.2
      rw [inN_iff ey (by omega) (by decide)] at w2
      omega)
    rw [bz, Classical.not_not, inN_iff rfl (by omega) (by decide)] at c2
    have c1' := (inN_iff (n := D 0 1) (x := nI x) rfl (by omega) (by omega)).mp c1
    refine bX12_build_157 E (by rw [nI_add]; exact vin (by omega) (by decide)) (bX12_build_168 E hB ?_)
    have e1 : oJoin D (nI x) (nI y) = (lotI (D 6 x), up D 6 x (y + 1)) := by
      rw [oJoin, if_pos ⟨c1, by rw [ey]; exact inN_nI (by omega) (by decide)⟩, ix_nI (by omega), ey, ix_nI (by omega)]
    rw [e1]
    refine ⟨_, rfl, ⟨fun _ => lot_gt _ (W.2.2.2.2.2.1 x c1').2.2.2, fun _ => by decide⟩, ?_, ?_⟩
    · rw [nI_add, ix_nI (by omega), uR_s]
      have := HM_join (x := y + 1) H W c1'
      rw [show lotI (y + 1) = nI y from by
        have d : ∀ y, y < 2 → lotI (y + 1) = nI y := by decide +kernel
        exact d y c2] at this
      exact this
    · rw [nI_add, ix_nI (by omega)]
      exact FrA.up (by omega) (by omega)
  · obtain rfl : k = 6 := by have := kk 16 (by decide) c; omega
    rw [a0 (by decide), a1 (by decide)]
    exact bX12_build_170 E (m_addSlip H W (by decide)) fun v μ1 h => bX12_build_179 E hB ⟨v, rfl, by rw [h.1]; exact sg_Slip W, h.2⟩
  · obtain rfl : k = 7 := by have := kk 17 (by decide) c; omega
    rw [a0 (by decide)]
    have w0 := hv 0
    generalize hx : l.getD 0 0 = x at *
    have et : tl D 7 l = oSpare D (nI x) := by show oSpare D (nI (l.getD 0 0)) = _; rw [hx]
    rw [et] at hB
    refine bX12_build_180 E (m_isSlip H W (by decide)) fun v μ1 h => ?_
    obtain ⟨rfl, rfl⟩ := h
    refine bX12_build_188 E (fun c => ?_) (fun c1 => ?_)
    · rw [bz] at c
      have e1 : oSpare D (nI x) = (-2, D) := if_neg c
      rw [e1] at hB
      exact bX12_build_204 E (bX12_build_206 E hB ⟨_, rfl, sg_2, H, FrA.rf⟩)
    · rw [bz, Classical.not_not] at c1
      have c1' := (inN_iff (n := D 0 2) (x := nI x) rfl (by omega) (by omega)).mp c1
      have hv9 := (H.2.2.2.2.2.2.1 x c1').2.2.1
      have w9 := (W.2.2.2.2.2.2.1 x c1').2.2.1
      have e3 : (D 9 x).testBit 0 = true ↔ D 9 x = 1 := by
        rcases (show D 9 x = 0 ∨ D 9 x = 1 by omega) with e | e <;> rw [e] <;> decide
      have eo : oSpare D (nI x) = (if D 9 x = 1 then (-3, D) else (nI 1, up D 9 x 1)) := by rw [oSpare, if_pos c1, ix_nI (by omega)]
      refine bX12_build_191 E (by rw [nI_add]; exact m_mark (p := 0) (by omega) (by rw [show 912 + x = 741 + 171 + x by omega]; exact hv9) (by omega) (by decide)) fun v μ2 h => ?_
      refine bX12_build_201 E (bX12_build_206 E hB ?_)
      rw [eo]
      by_cases c2 : D 9 x = 1
      · rw [if_pos (e3.mpr c2)] at h
        obtain ⟨rfl, rfl⟩ := h
        rw [if_pos c2]
        exact ⟨_, rfl, sg_3, H, FrA.rf⟩
      · rw [if_neg (fun w => c2 (e3.mp w))] at h
        obtain ⟨rfl, rfl⟩ := h
        rw [if_neg c2]
        refine ⟨_, rfl, sg_n 1 (by decide), ?_, FrA.up (by omega) (by omega)⟩
        rw [uR_s, show D 9 x = 0 by omega, show 912 + x = 741 + 171 + x by omega]
        exact HM_spare H W c1'
  · obtain rfl : k = 8 := by have := kk 18 (by decide) c; omega
    rw [a0 (by decide), a1 (by decide)]
    exact bX12_build_207 E (m_setMeans H W (by decide)) fun v μ1 h => bX12_build_216 E hB ⟨v, rfl, by rw [h.1]; exact sg_Means, h.2⟩
end BUILD
