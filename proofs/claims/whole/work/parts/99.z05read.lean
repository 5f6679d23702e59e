/-! THE TEXT read by the reference: one word, number or sign after the other -/
def cf (g : Nat → Nat) (a : Nat) : Nat → Nat
  | 0 => 0
  | m + 1 => 27 * cf g a m + g (a + m) - 96
def ckL : List Nat := [8740067, 16819, 377776, 1758676, 1503, 208022, 382984, 10413527, 7008274, 13550]
section CODES
variable {g : Nat → Nat} {e : Nat}
theorem rn_s {lo hi : Nat} : ∀ (d : Nat) {p : Nat}, e - p = d → ¬ (rn g e lo hi p < e ∧ lo ≤ g (rn g e lo hi p) ∧ g (rn g e lo hi p) ≤ hi)
  | 0, p, hd => by rw [rn_n (by omega)]; omega
  | d + 1, p, hd => by
    by_cases h : p < e ∧ lo ≤ g p ∧ g p ≤ hi
    · rw [rn_y h]; exact rn_s d (by omega)
    · rw [rn_n h]; exact h
theorem cf_inj {h : Nat → Nat} {a b : Nat} : ∀ (m n : Nat), (∀ i, i < m → 97 ≤ g (a + i) ∧ g (a + i) ≤ 122) → (∀ i, i < n → 97 ≤ h (b + i) ∧ h (b + i) ≤ 122) → cf g a m = cf h b n → m = n ∧ ∀ i, i < m → g (a + i) = h (b + i)
  | 0, 0, _, _, _ => ⟨rfl, fun i hi => absurd hi (Nat.not_lt_zero i)⟩
  | 0, n + 1, _, hn, he => by
    have := hn n (Nat.lt_succ_self n)
    have e1 : 0 = 27 * cf h b n + h (b + n) - 96 := he
    omega
  | m + 1, 0, hm, _, he => by
    have := hm m (Nat.lt_succ_self m)
    have e1 : 27 * cf g a m + g (a + m) - 96 = 0 := he
    omega
  | m + 1, n + 1, hm, hn, he => by
    have h1 := hm m (Nat.lt_succ_self m)
    have h2 := hn n (Nat.lt_succ_self n)
    have e1 : 27 * cf g a m + g (a + m) - 96 = 27 * cf h b n + h (b + n) - 96 := he
    have e2 : cf g a m = cf h b n := by omega
    have e3 : g (a + m) = h (b + n) := by omega
    obtain ⟨rfl, e4⟩ := cf_inj m n (fun i hi => hm i (by omega)) (fun i hi => hn i (by omega)) e2
    refine ⟨rfl, fun i hi => ?_⟩
    rcases Nat.lt_or_ge i m with g1 | g1
    · exact e4 i g1
    · obtain rfl : i = m := by omega
      exact e3
theorem cf_lt {a : Nat} : ∀ m, m ≤ 5 → (∀ i, i < m → 97 ≤ g (a + i) ∧ g (a + i) ≤ 122) → cf g a m < 27 ^ m
  | 0, _, _ => Nat.one_pos
  | m + 1, h5, hm => by
    have h1 := cf_lt m (by omega) fun i hi => hm i (by omega)
    have h2 := hm m (Nat.lt_succ_self m)
    have e1 : cf g a (m + 1) = 27 * cf g a m + g (a + m) - 96 := rfl
    have e2 : 27 ^ (m + 1) = 27 ^ m * 27 := rfl
    omega
theorem cf_b {a m : Nat} (h5 : m ≤ 5) (hm : ∀ i, i < m → 97 ≤ g (a + i) ∧ g (a + i) ≤ 122) : cf g a m < 14348907 :=
  Nat.lt_of_lt_of_le (cf_lt m h5 hm) (Nat.pow_le_pow_right (by decide) h5)
theorem ck_cf : ∀ j, j < 10 → ckL.getD j 0 = cf (fun i => (strN.getD j []).getD i 0) 0 (strL.getD j 0) ∧ ∀ i, i < strL.getD j 0 → 97 ≤ (strN.getD j []).getD (0 + i) 0 ∧ (strN.getD j []).getD (0 + i) 0 ≤ 122 := by decide +kernel
theorem cf_ww {a b j : Nat} (hj : j < 10) (hab : a ≤ b) (hm : ∀ i, i < b - a → 97 ≤ g (a + i) ∧ g (a + i) ≤ 122) : cf g a (b - a) = ckL.getD j 0 ↔ WW g a b j := by
  have h1 := ck_cf j hj
  rw [h1.1]
  refine ⟨fun h => ?_, fun w => ?_⟩
  · obtain ⟨e1, e2⟩ := cf_inj (h := fun i => (strN.getD j []).getD i 0) _ _ hm h1.2 h
    refine ⟨by omega, fun i hi => ?_⟩
    have := e2 i (by omega)
    rw [Nat.zero_add] at this
    exact this
  · have e0 : b - a = strL.getD j 0 := by have := w.1; omega
    rw [e0]
    have q : ∀ m, m ≤ strL.getD j 0 → cf g a m = cf (fun i => (strN.getD j []).getD i 0) 0 m := by
      intro m
      induction m with
      | zero => intro _; rfl
      | succ m ih =>
        intro hm1
        show 27 * cf g a m + g (a + m) - 96 = 27 * cf (fun i => (strN.getD j []).getD i 0) 0 m + (strN.getD j []).getD (0 + m) 0 - 96
        rw [ih (by omega), w.2 m (by omega), Nat.zero_add]
    exact q _ (Nat.le_refl _)
theorem kd_none {a b : Nat} (h : ¬ kd g a b < 10) : ∀ j, j < 10 → ¬ WW g a b j := by
  unfold kd at h
  by_cases h0 : WW g a b 0
  · rw [if_pos h0] at h; exact absurd (by decide) h
  by_cases h1 : WW g a b 1
  · rw [if_neg h0, if_pos h1] at h; exact absurd (by decide) h
  by_cases h2 : WW g a b 2
  · rw [if_neg h0, if_neg h1, if_pos h2] at h; exact absurd (by decide) h
  by_cases h3 : WW g a b 3
  · rw [if_neg h0, if_neg h1, if_neg h2, if_pos h3] at h; exact absurd (by decide) h
  by_cases h4 : WW g a b 4
  · rw [if_neg h0, if_neg h1, if_neg h2, if_neg h3, if_pos h4] at h; exact absurd (by decide) h
  by_cases h5 : WW g a b 5
  · rw [if_neg h0, if_neg h1, if_neg h2, if_neg h3, if_neg h4, if_pos h5] at h; exact absurd (by decide) h
  by_cases h6 : WW g a b 6
  · rw [if_neg h0, if_neg h1, if_neg h2, if_neg h3, if_neg h4, if_neg h5, if_pos h6] at h; exact absurd (by decide) h
  by_cases h7 : WW g a b 7
  · rw [if_neg h0, if_neg h1, if_neg h2, if_neg h3, if_neg h4, if_neg h5, if_neg h6, if_pos h7] at h; exact absurd (by decide) h
  by_cases h8 : WW g a b 8
  · rw [if_neg h0, if_neg h1, if_neg h2, if_neg h3, if_neg h4, if_neg h5, if_neg h6, if_neg h7, if_pos h8] at h; exact absurd (by decide) h
  by_cases h9 : WW g a b 9
  · rw [if_neg h0, if_neg h1, if_neg h2, if_neg h3, if_neg h4, if_neg h5, if_neg h6, if_neg h7, if_neg h8, if_pos h9] at h; exact absurd (by decide) h
  intro j hj
  match j, hj with
  | 0, _ => exact h0
  | 1, _ => exact h1
  | 2, _ => exact h2
  | 3, _ => exact h3
  | 4, _ => exact h4
  | 5, _ => exact h5
  | 6, _ => exact h6
  | 7, _ => exact h7
  | 8, _ => exact h8
  | 9, _ => exact h9
theorem ww_one : ∀ j, j < 10 → ∀ k, k < 10 → strL.getD j 0 = strL.getD k 0 → (∀ i, i < strL.getD j 0 → (strN.getD j []).getD i 0 = (strN.getD k []).getD i 0) → j = k := by decide +kernel
theorem kd_of {a b j : Nat} (hj : j < 10) (w : WW g a b j) : kd g a b = j := by
  by_cases h : kd g a b < 10
  · have w2 := kd_ww h
    exact ww_one _ h _ hj (by have := w.1; have := w2.1; omega) fun i hi => by rw [← w2.2 i hi, w.2 i (by have := w.1; have := w2.1; omega)]
  · exact absurd w (kd_none h j hj)
end CODES
/-- THE TEXT in the reference's world -/
def TXM (μ : Mu) (g : Nat → Nat) (e : Nat) : Prop := μ 455 4 = nI e ∧ e ≤ 300 ∧ (∀ i, i < e → μ 459 i &&& nI 255 = nI (g i)) ∧ ∀ i, i < e → g i < 256
def NxM (μ μ' : Mu) : Prop := (∀ a, a ≠ 455 → μ' a = μ a) ∧ ∀ i, i < 5 ∨ 8 < i → μ' 455 i = μ 455 i
/-- what the reference has read, from p on -/
def TK (g : Nat → Nat) (e p : Nat) (μ : Mu) : Prop := μ 455 6 = nI (sk g e p) ∧ (e ≤ sk g e p → μ 455 7 = nI 0) ∧
  (sk g e p < e → 97 ≤ g (sk g e p) → g (sk g e p) ≤ 122 → μ 455 5 = nI (rn g e 97 122 (sk g e p)) ∧ μ 455 7 = nI (if kd g (sk g e p) (rn g e 97 122 (sk g e p)) < 10 then 10 + kd g (sk g e p) (rn g e 97 122 (sk g e p)) else 3)) ∧
  (sk g e p < e → 48 ≤ g (sk g e p) → g (sk g e p) ≤ 57 → μ 455 5 = nI (rn g e 48 57 (sk g e p)) ∧ μ 455 7 = nI (if rn g e 48 57 (sk g e p) ≤ sk g e p + 3 then 1 else 3) ∧ (rn g e 48 57 (sk g e p) ≤ sk g e p + 3 → μ 455 8 = nI (vl g (rn g e 48 57 (sk g e p)) (sk g e p) 0))) ∧
  (sk g e p < e → ¬ (97 ≤ g (sk g e p) ∧ g (sk g e p) ≤ 122) → ¬ (48 ≤ g (sk g e p) ∧ g (sk g e p) ≤ 57) → μ 455 5 = nI (sk g e p + 1) ∧ μ 455 7 = nI (if g (sk g e p) = 59 then 2 else 3))
section MREAD
variable {Z : ZT} {μ : Mu} {g : Nat → Nat} {e : Nat}
theorem u4n {i j : Nat} {v : Int32} (h : j ≠ i) : uR μ 455 (upd (μ 455) i v) 455 j = μ 455 j := by rw [uR_s]; exact if_neg h
theorem u4s {i : Nat} {v : Int32} : uR μ 455 (upd (μ 455) i v) 455 i = v := by rw [uR_s]; exact if_pos rfl
theorem NxM.up {i : Nat} {v : Int32} (h : 5 ≤ i ∧ i ≤ 8) : NxM μ (uR μ 455 (upd (μ 455) i v)) := ⟨fun a ha => uR_n ha, fun j hj => u4n (by omega)⟩
theorem NxM.rf : NxM μ μ := ⟨fun _ _ => rfl, fun _ _ => rfl⟩
theorem NxM.tr {μ1 μ2 : Mu} (h : NxM μ μ1) (k : NxM μ1 μ2) : NxM μ μ2 := ⟨fun a ha => by rw [k.1 a ha, h.1 a ha], fun i hi => by rw [k.2 i hi, h.2 i hi]⟩
theorem TXM.nx {μ1 : Mu} (h : TXM μ g e) (k : NxM μ μ1) : TXM μ1 g e := ⟨by rw [k.2 4 (by omega)]; exact h.1, h.2.1, by rw [k.1 459 (by decide)]; exact h.2.2.1, h.2.2.2⟩
/-- the byte at q, or -1 -/
def hb (g : Nat → Nat) (e q : Nat) : Int32 := if q < e then nI (g q) else -1
theorem neg_b : ∀ x, x < 256 → ¬ nI x ≤ -1 ∧ ¬ nI x = -1 := by decide +kernel
theorem in_h {q lo hi : Nat} (hg : q < e → g q < 256) (hlo : lo < 256) (hhi : hi < 256) : (nI lo ≤ hb g e q ∧ hb g e q ≤ nI hi) ↔ (q < e ∧ lo ≤ g q ∧ g q ≤ hi) := by
  unfold hb
  by_cases h : q < e
  · have := hg h
    rw [if_pos h, nI_leE (by omega) (by omega), nI_leE (by omega) (by omega)]
    exact ⟨fun w => ⟨h, w⟩, fun w => w.2⟩
  · rw [if_neg h]
    exact ⟨fun w => absurd w.1 (neg_b lo hlo).1, fun w => absurd w.1 h⟩
theorem hb_eq {q x : Nat} (hg : q < e → g q < 256) (hx : x < 256) : hb g e q = nI x ↔ (q < e ∧ g q = x) := by
  unfold hb
  by_cases h : q < e
  · have := hg h
    rw [if_pos h, nI_eqE (by omega) (by omega)]
    exact ⟨fun w => ⟨h, w⟩, fun w => w.2⟩
  · rw [if_neg h]
    exact ⟨fun w => absurd w.symm (neg_b x hx).2, fun w => absurd w.1 h⟩
theorem m_here {q : Nat} (T : TXM μ g e) (ha : μ 455 5 = nI q) (hq : q ≤ e) : CtrS Z mX12_here [mrf Z] μ (rI fun r μ' => r = hb g e q ∧ μ' = μ) := by
  have he := T.2.1
  refine CtrS.intro (by decide +kernel) (Nat.le_of_ble_eq_true rfl) rfl fun X E hB => ?_
  refine bX12_here_0 E (fun c => ?_) (fun c => ?_)
  · rw [T.1, ha, nI_leE (by omega) (by omega)] at c
    exact bX12_here_27 E (bX12_here_28 E hB ⟨_, rfl, (if_neg (by omega)).symm, rfl⟩)
  · rw [T.1, ha, nI_leE (by omega) (by omega)] at c
    refine bX12_here_11 E (by rw [ha]; exact vin (by omega) (by decide)) ?_
    rw [ha, ix_nI (by omega), T.2.2.1 q (by omega)]
    exact bX12_here_28 E hB ⟨_, rfl, (if_pos (by omega)).symm, rfl⟩
theorem m_meaning {a b c : Nat} (hc : c < 14348907) (h : ∀ j, j < 10 → (c = ckL.getD j 0 ↔ WW g a b j)) : CtrS Z mX12_meaning [.int (nI c)] μ (rI fun r μ' => r = nI (if kd g a b < 10 then 10 + kd g a b else 3) ∧ μ' = μ) := by
  refine CtrS.intro (by decide +kernel) (Nat.le_of_ble_eq_true rfl) rfl fun X E hB => ?_
  have y : ∀ j, j < 10 → ∀ K, K < 14348907 → ckL.getD j 0 = K → nI c = nI K → (rI fun r μ' => r = nI (if kd g a b < 10 then 10 + kd g a b else 3) ∧ μ' = μ) (some (.int (nI (10 + j)))) μ := fun j hj K hK eK w => by
    have e1 := kd_of hj ((h j hj).mp (by rw [eK]; exact nI_inj (by omega) (by omega) w))
    exact ⟨_, rfl, by rw [e1, if_pos hj], rfl⟩
  refine bX12_meaning_0 E (fun n0 n1 n2 n3 n4 n5 n6 n7 n8 n9 => ?_) (fun w => bX12_meaning_104 E hB (y 4 (by decide) _ (by decide) rfl w)) (fun w => bX12_meaning_119 E hB (y 9 (by decide) _ (by decide) rfl w)) (fun w => bX12_meaning_95 E hB (y 1 (by decide) _ (by decide) rfl w)) (fun w => bX12_meaning_107 E hB (y 5 (by decide) _ (by decide) rfl w)) (fun w => bX12_meaning_98 E hB (y 2 (by decide) _ (by decide) rfl w)) (fun w => bX12_meaning_110 E hB (y 6 (by decide) _ (by decide) rfl w)) (fun w => bX12_meaning_101 E hB (y 3 (by decide) _ (by decide) rfl w)) (fun w => bX12_meaning_116 E hB (y 8 (by decide) _ (by decide) rfl w)) (fun w => bX12_meaning_92 E hB (y 0 (by decide) _ (by decide) rfl w)) (fun w => bX12_meaning_113 E hB (y 7 (by decide) _ (by decide) rfl w))
  have hk : ¬ kd g a b < 10 := fun hk => by
    have w := (h _ hk).mpr (kd_ww hk)
    have d : ∀ j, j < 10 → ∀ c : Nat, c = ckL.getD j 0 → ¬ nI c = nI 1503 → ¬ nI c = nI 13550 → ¬ nI c = nI 16819 → ¬ nI c = nI 208022 → ¬ nI c = nI 377776 → ¬ nI c = nI 382984 → ¬ nI c = nI 1758676 → ¬ nI c = nI 7008274 → ¬ nI c = nI 8740067 → ¬ nI c = nI 10413527 → False := by
      intro j hj c hc2 q0 q1 q2 q3 q4 q5 q6 q7 q8 q9
      match j, hj with
      | 0, _ => exact q8 (by rw [hc2]; rfl)
      | 1, _ => exact q2 (by rw [hc2]; rfl)
      | 2, _ => exact q4 (by rw [hc2]; rfl)
      | 3, _ => exact q6 (by rw [hc2]; rfl)
      | 4, _ => exact q0 (by rw [hc2]; rfl)
      | 5, _ => exact q3 (by rw [hc2]; rfl)
      | 6, _ => exact q5 (by rw [hc2]; rfl)
      | 7, _ => exact q9 (by rw [hc2]; rfl)
      | 8, _ => exact q7 (by rw [hc2]; rfl)
      | 9, _ => exact q1 (by rw [hc2]; rfl)
    exact d _ hk c w n0 n1 n2 n3 n4 n5 n6 n7 n8 n9
  exact bX12_meaning_122 E hB ⟨_, rfl, by rw [if_neg hk], rfl⟩
/-- blanks -/
theorem nxB {X : XT} (E : Ent Z X mX12_next 0 0) : ∀ (d : Nat) {μ : Mu} {p : Nat}, TXM μ g e → μ 455 5 = nI p → e - p = d → p ≤ e →
    (∀ μ', NxM μ μ' → μ' 455 5 = nI (sk g e p) → JS Z X 22 [(0, .ref (Z.2.2.1 + 455))] [] μ') → JS Z X 0 [(0, .ref (Z.2.2.1 + 455))] [] μ := by
  intro d
  induction d with
  | zero =>
    intro μ p T ha hd hp k
    refine bX12_next_0 E (m_here T ha hp) fun v μ1 h => ?_
    obtain ⟨rfl, rfl⟩ := h
    refine bX12_next_4 E (fun _ => k μ1 NxM.rf (by rw [sk_n (by omega)]; exact ha)) (fun c => ?_)
    rw [hb_eq (T.2.2.2 p) (by decide)] at c
    omega
  | succ d ih =>
    intro μ p T ha hd hp k
    refine bX12_next_0 E (m_here T ha hp) fun v μ1 h => ?_
    obtain ⟨rfl, rfl⟩ := h
    refine bX12_next_4 E (fun c => ?_) (fun c => ?_)
    · rw [hb_eq (T.2.2.2 p) (by decide)] at c
      exact k μ1 NxM.rf (by rw [sk_n c]; exact ha)
    · rw [hb_eq (T.2.2.2 p) (by decide)] at c
      refine bX12_next_9 E (bX12_next_19 E ?_)
      have h1 : NxM μ1 (uR μ1 455 (upd (μ1 455) 5 (μ1 455 5 + nI 1))) := NxM.up (by decide)
      exact ih (T.nx h1) (by rw [u4s, ha, nI_add]) (by omega) (by omega) fun μ' h2 h3 => k μ' (h1.tr h2) (by rw [sk_y c]; exact h3)
/-- a word -/
theorem nxW {X : XT} {P : Option Value → Mu → Prop} {a b : Nat} (E : Ent Z X mX12_next 0 0) (hB : BodS Z X P) (hb1 : b = rn g e 97 122 a) (hae : a ≤ e) : ∀ (d m : Nat) {μ : Mu}, TXM μ g e → μ 455 5 = nI (a + m) → μ 455 6 = nI a → a + m + d = b →
    (∀ μ', NxM μ μ' → μ' 455 5 = nI b → μ' 455 6 = nI a → μ' 455 7 = nI (if kd g a b < 10 then 10 + kd g a b else 3) → P none μ') →
    JS Z X 65 [(0, .ref (Z.2.2.1 + 455)), (2, .int (nI (if m ≤ 5 then cf g a m else 0)))] [] μ := by
  have hbe : b ≤ e := by rw [hb1]; exact rn_e hae
  have hL : ∀ i, i < b - a → 97 ≤ g (a + i) ∧ g (a + i) ≤ 122 := fun i hi => rn_in (p := a) (by omega) (by rw [← hb1]; omega)
  have hs : ¬ (b < e ∧ 97 ≤ g b ∧ g b ≤ 122) := by rw [hb1]; exact rn_s _ rfl
  intro d
  induction d with
  | zero =>
    intro m μ T ha h6 hd k
    have he := T.2.1
    have hm : m = b - a := by omega
    refine bX12_next_65 E (m_here T ha (by omega)) fun v μ1 h => ?_
    obtain ⟨rfl, rfl⟩ := h
    refine bX12_next_69 E m_in fun v μ2 h => ?_
    obtain ⟨rfl, rfl⟩ := h
    refine bX12_next_76 E (fun _ => ?_) (fun c => ?_)
    · have cont : ∀ v μ3, (v = nI (if kd g a b < 10 then 10 + kd g a b else 3) ∧ μ3 = μ2) → JS Z X 144 [] [.int v, .ref (Z.2.2.1 + 455)] μ3 := fun v μ3 h => by
        obtain ⟨rfl, rfl⟩ := h
        refine bX12_next_144 E (bX12_next_147 E (bX12_next_277 E hB (k _ (NxM.up (by decide)) ?_ ?_ u4s)))
        · rw [u4n (by decide), ha]; congr 1
        · rw [u4n (by decide)]; exact h6
      refine bX12_next_122 E (fun c => ?_) (fun c => ?_)
      · rw [ha, h6, nI_sub (by omega), nI_leE (by omega) (by decide)] at c
        rw [if_pos (by omega)]
        have hc5 : m ≤ 5 := by omega
        refine bX12_next_140 E (bX12_next_141 E (m_meaning (a := a) (b := b) (cf_b hc5 fun i hi => hL i (by omega)) fun j hj => by rw [hm]; exact cf_ww hj (by omega) hL) cont)
      · rw [ha, h6, nI_sub (by omega), nI_leE (by omega) (by decide)] at c
        refine bX12_next_136 E (bX12_next_141 E (m_meaning (a := a) (b := b) (by decide) fun j hj => ⟨fun w => ?_, fun w => ?_⟩) cont)
        · have dd : ∀ j, j < 10 → ¬ 0 = ckL.getD j 0 := by decide +kernel
          exact absurd w (dd j hj)
        · have := w.1
          have := s_len j hj
          omega
    · rw [bz, Classical.not_not, in_h (T.2.2.2 _) (by decide) (by decide)] at c
      rw [show a + m = b by omega] at c
      exact absurd c hs
  | succ d ih =>
    intro m μ T ha h6 hd k
    have he := T.2.1
    have hin := hL m (by omega)
    refine bX12_next_65 E (m_here T ha (by omega)) fun v μ1 h => ?_
    obtain ⟨rfl, rfl⟩ := h
    refine bX12_next_69 E m_in fun v μ2 h => ?_
    obtain ⟨rfl, rfl⟩ := h
    refine bX12_next_76 E (fun c => ?_) (fun _ => ?_)
    · rw [bz, in_h (T.2.2.2 _) (by decide) (by decide)] at c
      exact absurd ⟨by omega, hin⟩ c
    have fin : ∀ c2, c2 = nI (if m + 1 ≤ 5 then cf g a (m + 1) else 0) → JS Z X 108 [(0, .ref (Z.2.2.1 + 455))] [.int c2] μ2 := fun c2 w => by
      subst w
      refine bX12_next_108 E (bX12_next_119 E ?_)
      have h1 : NxM μ2 (uR μ2 455 (upd (μ2 455) 5 (μ2 455 5 + nI 1))) := NxM.up (by decide)
      exact ih (m + 1) (T.nx h1) (by rw [u4s, ha, nI_add, Nat.add_assoc]) (by rw [u4n (by decide)]; exact h6) (by omega) fun μ' h2 => k μ' (h1.tr h2)
    refine bX12_next_79 E (fun c => ?_) (fun c => ?_)
    · rw [ha, h6, nI_sub (by omega), nI_leE (by decide) (by omega)] at c
      exact bX12_next_107 E (fin _ (by rw [if_neg (by omega)]))
    · rw [ha, h6, nI_sub (by omega), nI_leE (by decide) (by omega)] at c
      refine bX12_next_92 E (m_here T ha (by omega)) fun v μ3 h => ?_
      obtain ⟨rfl, rfl⟩ := h
      refine bX12_next_100 E (fin _ ?_)
      rw [if_pos (show m ≤ 5 by omega), if_pos (show m + 1 ≤ 5 by omega)]
      unfold hb
      rw [if_pos (by omega), nI_mul, nI_add, nI_sub (by omega)]
      rfl
/-- a number -/
theorem nxN {X : XT} {P : Option Value → Mu → Prop} {a b : Nat} (E : Ent Z X mX12_next 0 0) (hB : BodS Z X P) (hb1 : b = rn g e 48 57 a) (hae : a ≤ e) : ∀ (d m v : Nat) {μ : Mu}, TXM μ g e → μ 455 5 = nI (a + m) → μ 455 6 = nI a → a + m + d = b → (m ≤ 3 → μ 455 8 = nI v ∧ vl g b (a + m) v = vl g b a 0) →
    (∀ μ', NxM μ μ' → μ' 455 5 = nI b → μ' 455 6 = nI a → μ' 455 7 = nI (if b ≤ a + 3 then 1 else 3) → (b ≤ a + 3 → μ' 455 8 = nI (vl g b a 0)) → P none μ') →
    JS Z X 161 [(0, .ref (Z.2.2.1 + 455))] [] μ := by
  have hbe : b ≤ e := by rw [hb1]; exact rn_e hae
  have hL : ∀ i, i < b - a → 48 ≤ g (a + i) ∧ g (a + i) ≤ 57 := fun i hi => rn_in (p := a) (by omega) (by rw [← hb1]; omega)
  have hs : ¬ (b < e ∧ 48 ≤ g b ∧ g b ≤ 57) := by rw [hb1]; exact rn_s _ rfl
  intro d
  induction d with
  | zero =>
    intro m v μ T ha h6 hd h8 k
    have he := T.2.1
    refine bX12_next_161 E (m_here T ha (by omega)) fun v μ1 h => ?_
    obtain ⟨rfl, rfl⟩ := h
    refine bX12_next_165 E m_in fun v μ2 h => ?_
    obtain ⟨rfl, rfl⟩ := h
    refine bX12_next_172 E (fun _ => ?_) (fun c => ?_)
    · have fin : ∀ w : Nat, w = (if b ≤ a + 3 then 1 else 3) → JS Z X 246 [] [.int (nI w), .ref (Z.2.2.1 + 455)] μ2 := fun w ew => by
        subst ew
        refine bX12_next_246 E (bX12_next_249 E (bX12_next_277 E hB (k _ (NxM.up (by decide)) ?_ ?_ u4s fun h3 => ?_)))
        · rw [u4n (by decide), ha]; congr 1
        · rw [u4n (by decide)]; exact h6
        · rw [u4n (by decide)]
          have q := h8 (by omega)
          rw [q.1, ← q.2, vl_n (by omega)]
      refine bX12_next_227 E (fun c => ?_) (fun c => ?_)
      · rw [ha, h6, nI_sub (by omega), nI_leE (by omega) (by decide)] at c
        exact bX12_next_245 E (fin 1 (by rw [if_pos (by omega)]))
      · rw [ha, h6, nI_sub (by omega), nI_leE (by omega) (by decide)] at c
        exact bX12_next_241 E (fin 3 (by rw [if_neg (by omega)]))
    · rw [bz, Classical.not_not, in_h (T.2.2.2 _) (by decide) (by decide)] at c
      rw [show a + m = b by omega] at c
      exact absurd c hs
  | succ d ih =>
    intro m v μ T ha h6 hd h8 k
    have he := T.2.1
    have hin := hL m (by omega)
    refine bX12_next_161 E (m_here T ha (by omega)) fun v1 μ1 h => ?_
    obtain ⟨rfl, rfl⟩ := h
    refine bX12_next_165 E m_in fun v1 μ2 h => ?_
    obtain ⟨rfl, rfl⟩ := h
    refine bX12_next_172 E (fun c => ?_) (fun _ => ?_)
    · rw [bz, in_h (T.2.2.2 _) (by decide) (by decide)] at c
      exact absurd ⟨by omega, hin⟩ c
    have fin : ∀ (c2 : Int32) (w : Nat), (m + 1 ≤ 3 → c2 = nI w ∧ vl g b (a + m + 1) w = vl g b a 0) → JS Z X 211 [(0, .ref (Z.2.2.1 + 455))] [.int c2, .ref (Z.2.2.1 + 455)] μ2 := fun c2 w hw => by
      refine bX12_next_211 E (bX12_next_214 E (bX12_next_224 E ?_))
      have h1 : NxM μ2 (uR μ2 455 (upd (μ2 455) 8 c2)) := NxM.up (by decide)
      have h2 := h1.tr (NxM.up (μ := uR μ2 455 (upd (μ2 455) 8 c2)) (i := 5) (v := uR μ2 455 (upd (μ2 455) 8 c2) 455 5 + nI 1) (by decide))
      exact ih (m + 1) w (T.nx h2) (by rw [u4s, u4n (by decide), ha, nI_add, Nat.add_assoc]) (by rw [u4n (by decide), u4n (by decide)]; exact h6) (by omega) (fun h => by rw [u4n (by decide), u4s]; exact hw h) fun μ' h3 => k μ' (h2.tr h3)
    refine bX12_next_175 E (fun c => ?_) (fun c => ?_)
    · rw [ha, h6, nI_sub (by omega), nI_leE (by decide) (by omega)] at c
      exact bX12_next_207 E (fin _ 0 fun h => by omega)
    · rw [ha, h6, nI_sub (by omega), nI_leE (by decide) (by omega)] at c
      refine bX12_next_189 E (m_here T ha (by omega)) fun v1 μ3 h => ?_
      obtain ⟨rfl, rfl⟩ := h
      have q := h8 (by omega)
      refine bX12_next_200 E (fin _ (v * 10 + g (a + m) - 48) fun _ => ⟨?_, ?_⟩)
      · unfold hb
        rw [if_pos (by omega), q.1, nI_mul, nI_add, nI_sub (by omega), Nat.mul_comm]
      · rw [← q.2, vl_y (p := a + m) (by omega)]
theorem m_next {p : Nat} (T : TXM μ g e) (ha : μ 455 5 = nI p) (hp : p ≤ e) : CtrS Z mX12_next [mrf Z] μ (rV fun μ' => NxM μ μ' ∧ TK g e p μ') := by
  have he := T.2.1
  refine CtrS.intro (by decide +kernel) (Nat.le_of_ble_eq_true rfl) rfl fun X E hB => ?_
  refine nxB E _ T ha rfl hp fun μ1 h1 h2 => ?_
  have b1 := sk_e (g := g) hp
  generalize hq : sk g e p = q at *
  refine bX12_next_22 E (bX12_next_30 E ?_)
  have h3 := h1.tr (NxM.up (μ := μ1) (i := 6) (v := μ1 455 5) (by decide))
  generalize hm : uR μ1 455 (upd (μ1 455) 6 (μ1 455 5)) = μ2 at *
  have g5 : μ2 455 5 = nI q := by rw [← hm, u4n (by decide)]; exact h2
  have g6 : μ2 455 6 = nI q := by rw [← hm, u4s]; exact h2
  have h4 := h3.tr (NxM.up (μ := μ2) (i := 8) (v := nI 0) (by decide))
  have k8 : uR μ2 455 (upd (μ2 455) 8 (nI 0)) 455 8 = nI 0 := u4s
  have k5 : uR μ2 455 (upd (μ2 455) 8 (nI 0)) 455 5 = nI q := by rw [u4n (by decide)]; exact g5
  have k6 : uR μ2 455 (upd (μ2 455) 8 (nI 0)) 455 6 = nI q := by rw [u4n (by decide)]; exact g6
  generalize uR μ2 455 (upd (μ2 455) 8 (nI 0)) = μ3 at *
  have T3 := T.nx h4
  refine bX12_next_35 E (m_here T3 k5 b1) fun v μ4 h => ?_
  obtain ⟨rfl, rfl⟩ := h
  refine bX12_next_39 E (fun c => ?_) (fun c => ?_)
  · have hqe : q < e := by
      rcases Nat.lt_or_ge q e with w | w
      · exact w
      · unfold hb at c
        rw [if_neg (by omega)] at c
        exact absurd c (by decide)
    have hg := T3.2.2.2 q hqe
    refine bX12_next_52 E m_in fun v μ5 h => ?_
    obtain ⟨rfl, rfl⟩ := h
    refine bX12_next_60 E (fun c1 => ?_) (fun c1 => ?_)
    · rw [bz, in_h (T3.2.2.2 q) (by decide) (by decide)] at c1
      refine bX12_next_150 E m_in fun v μ6 h => ?_
      obtain ⟨rfl, rfl⟩ := h
      refine bX12_next_158 E (fun c2 => ?_) (fun c2 => ?_)
      · rw [bz, in_h (T3.2.2.2 q) (by decide) (by decide)] at c2
        refine bX12_next_252 E ?_
        have h5 := h4.tr (NxM.up (μ := μ6) (i := 5) (v := μ6 455 5 + nI 1) (by decide))
        have fin : ∀ w : Nat, w = (if g q = 59 then 2 else 3) → JS Z X 274 [] [.int (nI w), .ref (Z.2.2.1 + 455)] (uR μ6 455 (upd (μ6 455) 5 (μ6 455 5 + nI 1))) := fun w ew => by
          subst ew
          refine bX12_next_274 E (bX12_next_277 E hB ⟨rfl, h5.tr (NxM.up (by decide)), ?_⟩)
          refine ⟨by rw [hq, u4n (by decide), u4n (by decide)]; exact k6, fun w => absurd (hq ▸ w) (by omega), fun _ w1 w2 => ?_, fun _ w1 w2 => ?_, fun _ _ _ => ?_⟩
          · rw [hq] at w1 w2; exact absurd ⟨hqe, w1, w2⟩ c1
          · rw [hq] at w1 w2; exact absurd ⟨hqe, w1, w2⟩ c2
          · rw [hq]
            exact ⟨by rw [u4n (by decide), u4s, k5, nI_add], u4s⟩
        refine bX12_next_262 E (fun c3 => ?_) (fun c3 => ?_)
        · rw [hb_eq (T3.2.2.2 q) (by decide)] at c3
          exact bX12_next_273 E (fin 3 (by rw [if_neg fun w => c3 ⟨hqe, w⟩]))
        · rw [hb_eq (T3.2.2.2 q) (by decide)] at c3
          exact bX12_next_269 E (fin 2 (by rw [if_pos c3.2]))
      · rw [bz, Classical.not_not, in_h (T3.2.2.2 q) (by decide) (by decide)] at c2
        refine nxN E hB rfl b1 _ 0 0 T3 k5 k6 (Nat.add_sub_cancel' (rn_le (lo := 48) (hi := 57))) (fun _ => ⟨k8, rfl⟩) fun μ' h5 i5 i6 i7 i8 => ⟨rfl, h4.tr h5, ?_⟩
        refine ⟨by rw [hq]; exact i6, fun w => absurd (hq ▸ w) (by omega), fun _ w1 w2 => ?_, fun _ w1 w2 => ?_, fun _ w1 w2 => ?_⟩
        · rw [hq] at w1 w2; exact absurd ⟨hqe, w1, w2⟩ c1
        · rw [hq]; exact ⟨i5, i7, i8⟩
        · rw [hq] at w2; exact absurd c2.2 w2
    · rw [bz, Classical.not_not, in_h (T3.2.2.2 q) (by decide) (by decide)] at c1
      refine bX12_next_63 E ?_
      refine nxW E hB rfl b1 _ 0 T3 k5 k6 (Nat.add_sub_cancel' (rn_le (lo := 97) (hi := 122))) fun μ' h5 i5 i6 i7 => ⟨rfl, h4.tr h5, ?_⟩
      refine ⟨by rw [hq]; exact i6, fun w => absurd (hq ▸ w) (by omega), fun _ w1 w2 => ?_, fun _ w1 w2 => ?_, fun _ w1 w2 => ?_⟩
      · rw [hq]; exact ⟨i5, i7⟩
      · rw [hq] at w1 w2; omega
      · rw [hq] at w1; exact absurd c1.2 w1
  · have hqe : ¬ q < e := fun w => by
      unfold hb at c
      have := T3.2.2.2 q w
      rw [if_pos w] at c
      exact c (nI_pos' (by omega))
    refine bX12_next_44 E (bX12_next_49 E (bX12_next_277 E hB ⟨rfl, h4.tr (NxM.up (by decide)), ?_⟩))
    refine ⟨by rw [hq, u4n (by decide)]; exact k6, fun _ => u4s, fun w => absurd (hq ▸ w) hqe, fun w => absurd (hq ▸ w) hqe, fun w => absurd (hq ▸ w) hqe⟩
theorem m_due1 {q : Nat} (T : TXM μ g e) (ha : μ 455 5 = nI q) (hq : q ≤ e) (hf : μ 455 9 = -1) : CtrS Z mX12_due [mrf Z, .int (nI 1)] μ (rI fun r μ' => r = μ 455 8 ∧ NxM μ μ' ∧ TK g e q μ') := by
  refine CtrS.intro (by decide +kernel) (Nat.le_of_ble_eq_true rfl) rfl fun X E hB => ?_
  refine bX12_due_0 E (fun c => absurd hf c) (fun _ => bX12_due_13 E (fun c => absurd c (by decide)) (fun _ => ?_))
  exact bX12_due_17 E (m_next T ha hq) fun μ1 h => bX12_due_21 E (bX12_due_32 E hB ⟨_, rfl, rfl, h⟩)
theorem m_due0 (hf : μ 455 9 = -1) : CtrS Z mX12_due [mrf Z, .int (nI 0)] μ (rI fun r μ' => μ' = uR μ 455 (upd (μ 455) 9 (μ 455 6))) := by
  refine CtrS.intro (by decide +kernel) (Nat.le_of_ble_eq_true rfl) rfl fun X E hB => ?_
  refine bX12_due_0 E (fun c => absurd hf c) (fun _ => bX12_due_13 E (fun _ => ?_) (fun c => absurd rfl c))
  exact bX12_due_24 E (bX12_due_32 E hB ⟨_, rfl, rfl⟩)
theorem m_dueF {b : Int32} (hf : ¬ μ 455 9 = -1) : CtrS Z mX12_due [mrf Z, .int b] μ (rI fun r μ' => μ' = μ) := by
  refine CtrS.intro (by decide +kernel) (Nat.le_of_ble_eq_true rfl) rfl fun X E hB => ?_
  exact bX12_due_0 E (fun _ => bX12_due_32 E hB ⟨_, rfl, rfl⟩) (fun c => absurd c hf)
theorem m_numbersOf {a : Int32} : CtrS Z mX12_numbersOf [.int a] μ (rI fun r μ' => μ' = μ ∧ ∀ k, k < 10 → a = nI (10 + k) → r = nI (nOf k)) := by
  refine CtrS.intro (by decide +kernel) (Nat.le_of_ble_eq_true rfl) rfl fun X E hB => ?_
  have inj : ∀ k, k < 10 → ∀ j, j < 20 → nI (10 + k) = nI j → 10 + k = j := fun k hk j hj w => nI_inj (by omega) (by omega) w
  refine bX12_numbersOf_0 E (fun c0 => ?_) (fun c => bX12_numbersOf_6 E (bX12_numbersOf_41 E hB ⟨_, rfl, rfl, fun k hk w => ?_⟩))
  · refine bX12_numbersOf_10 E (fun c1 => ?_) (fun c => bX12_numbersOf_16 E (bX12_numbersOf_41 E hB ⟨_, rfl, rfl, fun k hk w => ?_⟩))
    · refine bX12_numbersOf_20 E (fun c2 => ?_) (fun c => bX12_numbersOf_26 E (bX12_numbersOf_41 E hB ⟨_, rfl, rfl, fun k hk w => ?_⟩))
      · refine bX12_numbersOf_30 E (fun c3 => bX12_numbersOf_40 E (bX12_numbersOf_41 E hB ⟨_, rfl, rfl, fun k hk w => ?_⟩)) (fun c => bX12_numbersOf_36 E (bX12_numbersOf_41 E hB ⟨_, rfl, rfl, fun k hk w => ?_⟩))
        · have d : ∀ k, k < 10 → ¬ nI (10 + k) = nI 10 → ¬ nI (10 + k) = nI 17 → ¬ nI (10 + k) = nI 11 → ¬ nI (10 + k) = nI 13 → nI 2 = nI (nOf k) := by decide +kernel
          exact d k hk (w ▸ c0) (w ▸ c1) (w ▸ c2) (w ▸ c3)
        · have := inj k hk 13 (by decide) (w ▸ c); obtain rfl : k = 3 := by omega
          rfl
      · have := inj k hk 11 (by decide) (w ▸ c); obtain rfl : k = 1 := by omega
        rfl
    · have := inj k hk 17 (by decide) (w ▸ c); obtain rfl : k = 7 := by omega
      rfl
  · have := inj k hk 10 (by decide) (w ▸ c); obtain rfl : k = 0 := by omega
    rfl
end MREAD
