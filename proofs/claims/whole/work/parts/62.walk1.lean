/-! WALKS: the least minutes; the model's -/
def fw (D : DD) : Nat → Nat → Nat → Nat
  | 0, a, b => if a = b then 0 else if 0 < D 1 (10 * a + b) then D 1 (10 * a + b) else 100000
  | k + 1, a, b => min (fw D k a k + fw D k k b) (fw D k a b)
/-- the minutes of a walk -/
def mn (D : DD) (a b : Nat) : Nat := fw D (D 0 0) a b
theorem fw_le {D : DD} (W : WF D) : ∀ k a b, a < 10 → b < 10 → fw D k a b ≤ 100000
  | 0, a, b, ha, hb => by
    have := (W.2.2.2.1 a b ha hb).1
    unfold fw
    split
    · omega
    · split <;> omega
  | k + 1, a, b, ha, hb => Nat.le_trans (Nat.min_le_right _ _) (fw_le W k a b ha hb)
theorem fw_d {D : DD} : ∀ k a, fw D k a a = 0
  | 0, a => if_pos rfl
  | k + 1, a => by rw [fw, fw_d k a, Nat.min_zero]
theorem fw_col {D : DD} {k a : Nat} : fw D (k + 1) a k = fw D k a k := by rw [fw, fw_d k k, Nat.add_zero, Nat.min_self]
theorem fw_row {D : DD} {k b : Nat} : fw D (k + 1) k b = fw D k k b := by rw [fw, fw_d k k, Nat.zero_add, Nat.min_self]
/-- what can be walked is short, what can't is 100000 -/
theorem fw_gap {D : DD} (W : WF D) : ∀ k a b, k ≤ 10 → a < 10 → b < 10 → fw D k a b ≤ 9 * 2 ^ k ∨ fw D k a b = 100000
  | 0, a, b, _, ha, hb => by
    have := (W.2.2.2.1 a b ha hb).1
    unfold fw
    split
    · left; omega
    · split
      · left; omega
      · right; rfl
  | k + 1, a, b, hk, ha, hb => by
    have l := fw_le W k a b ha hb
    have l1 := fw_gap W k a b (by omega) ha hb
    have l2 := fw_gap W k a k (by omega) ha (by omega)
    have l3 := fw_gap W k k b (by omega) (by omega) hb
    have e : 2 ^ (k + 1) = 2 ^ k * 2 := Nat.pow_succ 2 k
    have e2 : (2 : Nat) ^ k ≤ 2 ^ 9 := Nat.pow_le_pow_right (by decide) (by omega)
    rw [fw]
    rcases Nat.le_total (fw D k a k + fw D k k b) (fw D k a b) with h | h
    · rw [Nat.min_eq_left h]; omega
    · rw [Nat.min_eq_right h]; omega
theorem mn_gap {D : DD} (W : WF D) {a b : Nat} (ha : a < 10) (hb : b < 10) : mn D a b < 10000 ∨ mn D a b = 100000 := by
  have h := fw_gap W (D 0 0) a b W.1 ha hb
  have e2 : (2 : Nat) ^ (D 0 0) ≤ 2 ^ 10 := Nat.pow_le_pow_right (by decide) W.1
  unfold mn
  omega
/-- a row of far or minutes -/
def FM (μ : Mu) (D : DD) : Prop := ∀ j, j < 100 → μ 461 j = nI (mn D (j / 10) (j % 10))
theorem FM.fr {μ μ' : Mu} {D : DD} (h : FM μ D) (e : μ' 461 = μ 461) : FM μ' D := fun j hj => by rw [e]; exact h j hj
section WALK1
variable {Z : ZT} {μ : Mu} {D : DD} {im : Nat → Option DD} {tx : TX} {s : Nat → Int32} {f : Nat × Nat}
theorem q10 {i : Nat} (hi : i < 1000) : nI i / nI 10 = nI (i / 10) := pk_div (by omega) (by omega) (by omega)
theorem r10 {i : Nat} (hi : i < 1000) : nI i - nI (i / 10) * nI 10 = nI (i % 10) := by rw [← q10 hi]; exact pk_rem (by omega) (by omega) (by omega)
theorem m_findWalks (H : HM (μ 456) 0 D) (W : WF D) : CtrS Z mX12_findWalks [mrf Z] μ (rV fun μ' => FM μ' D ∧ Fr [461] μ μ') := by
  refine CtrS.intro (by decide +kernel) (Nat.le_of_ble_eq_true rfl) rfl fun X E hB => ?_
  have hn := W.1
  obtain ⟨h1, h2, h3, h4, -⟩ := H
  have L2 : ∀ k p μ1, p + k = D 0 0 → (∀ j, j < 100 → μ1 461 j = nI (fw D p (j / 10) (j % 10))) → Fr [461] μ μ1 → JS Z X 84 [(0, mrf Z), (1, .int (nI (D 0 0))), (2, .int (nI p))] [] μ1 := by
    intro k
    induction k with
    | zero =>
      intro p μ1 hp h hF
      have : p = D 0 0 := hp
      subst this
      exact bX12_findWalks_84 E (fun _ => bX12_findWalks_168 E hB ⟨rfl, h, hF⟩) (fun c => absurd (by rw [nI_leE (by omega) (by omega)]; omega) c)
    | succ k ih =>
      intro p μ1 hp h hF
      refine bX12_findWalks_84 E (fun c => absurd c (by rw [nI_leE (by omega) (by omega)]; omega)) (fun _ => bX12_findWalks_89 E ?_)
      have L3 : ∀ k' i μ1, i + k' = 100 → (∀ j, j < 100 → μ1 461 j = nI (if j < i then fw D (p + 1) (j / 10) (j % 10) else fw D p (j / 10) (j % 10))) → Fr [461] μ μ1 → JS Z X 91 [(0, mrf Z), (1, .int (nI (D 0 0))), (2, .int (nI p)), (3, .int (nI i))] [] μ1 := by
        intro k'
        induction k' with
        | zero =>
          intro i μ1 hi h hF
          have : i = 100 := hi
          subst this
          refine bX12_findWalks_91 E (fun _ => bX12_findWalks_162 E ?_) (fun c => absurd (by decide) c)
          rw [nI_add]
          exact ih (p + 1) _ (by omega) (fun j hj => by rw [h j hj, if_pos hj]) hF
        | succ k' ih' =>
          intro i μ1 hi h hF
          have d1 : i / 10 < 10 := by omega
          have d2 : i % 10 < 10 := by omega
          have a1 := fw_le W p (i / 10) p d1 (by omega)
          have a2 := fw_le W p p (i % 10) (by omega) d2
          have a3 := fw_le W p (i / 10) (i % 10) d1 d2
          have e1 : nI i / nI 10 * nI 10 + nI p = nI (i / 10 * 10 + p) := by rw [q10 (by omega), nI_mul, nI_add]
          have e2 : nI 10 * nI p + (nI i - nI i / nI 10 * nI 10) = nI (10 * p + i % 10) := by rw [q10 (by omega), r10 (by omega), nI_mul, nI_add]
          have v1 : μ1 461 (i / 10 * 10 + p) = nI (fw D p (i / 10) p) := by
            rw [h _ (by omega), show (i / 10 * 10 + p) / 10 = i / 10 by omega, show (i / 10 * 10 + p) % 10 = p by omega]
            split
            · rw [fw_col]
            · rfl
          have v2 : μ1 461 (10 * p + i % 10) = nI (fw D p p (i % 10)) := by
            rw [h _ (by omega), show (10 * p + i % 10) / 10 = p by omega, show (10 * p + i % 10) % 10 = i % 10 by omega]
            split
            · rw [fw_row]
            · rfl
          have v3 : μ1 461 i = nI (fw D p (i / 10) (i % 10)) := by rw [h _ (by omega), if_neg (by omega)]
          have fin : ∀ v, v = nI (fw D (p + 1) (i / 10) (i % 10)) → JS Z X 155 [(0, mrf Z), (1, .int (nI (D 0 0))), (2, .int (nI p)), (3, .int (nI i))] [.int v, .int (nI i), rf Z 461] μ1 := fun v hv => by
            subst hv
            refine bX12_findWalks_155 E (by decide) (vin (by omega) (by omega)) (bX12_findWalks_156 E ?_)
            rw [nI_add, ix_nI (by omega)]
            refine ih' (i + 1) _ (by omega) (fun j hj => ?_) (hF.tr (Fr.uR (by simp)))
            rw [uR_s]
            refine upd_at (fun e => ?_) (fun e => ?_)
            · rw [if_pos (by omega), e]
            · rw [h j hj]
              by_cases q : j < i
              · rw [if_pos q, if_pos (by omega)]
              · rw [if_neg q, if_neg (by omega)]
          refine bX12_findWalks_91 E (fun c => absurd c (by rw [nI_leE (by omega) (by omega)]; omega)) (fun _ => ?_)
          refine bX12_findWalks_97 E (by rw [e1]; exact vin (by omega) (by omega)) (by rw [e2]; exact vin (by omega) (by omega)) (vin (by omega) (by omega)) (fun c => ?_) (fun c => ?_)
          · rw [e1, e2, ix_nI (by omega), ix_nI (show i / 10 * 10 + p < 2147483648 by omega), ix_nI (show 10 * p + i % 10 < 2147483648 by omega), v1, v2, v3, nI_add, nI_leE (by omega) (by omega)] at c
            refine bX12_findWalks_149 E (by decide) (vin (by omega) (by omega)) ?_
            rw [ix_nI (by omega), v3]
            exact fin _ (by rw [fw, Nat.min_eq_right c])
          · rw [e1, e2, ix_nI (by omega), ix_nI (show i / 10 * 10 + p < 2147483648 by omega), ix_nI (show 10 * p + i % 10 < 2147483648 by omega), v1, v2, v3, nI_add, nI_leE (by omega) (by omega)] at c
            rw [e1, e2, ix_nI (show i / 10 * 10 + p < 2147483648 by omega), ix_nI (show 10 * p + i % 10 < 2147483648 by omega), v1, v2, nI_add]
            exact bX12_findWalks_144 E (by decide) (fin _ (by rw [fw, Nat.min_eq_left (by omega)]))
      exact L3 100 0 μ1 (by omega) (fun j hj => by rw [if_neg (by omega)]; exact h j hj) hF
  have L1 : ∀ k i μ1, i + k = 100 → (∀ j, j < i → μ1 461 j = nI (fw D 0 (j / 10) (j % 10))) → Fr [461] μ μ1 → JS Z X 9 [(0, mrf Z), (1, .int (nI (D 0 0))), (2, .int (nI i))] [] μ1 := by
    intro k
    induction k with
    | zero =>
      intro i μ1 hi h hF
      have : i = 100 := hi
      subst this
      exact bX12_findWalks_9 E (fun _ => bX12_findWalks_82 E (L2 (D 0 0) 0 μ1 (by omega) h hF)) (fun c => absurd (by decide) c)
    | succ k ih =>
      intro i μ1 hi h hF
      have d1 : i / 10 < 10 := by omega
      have d2 : i % 10 < 10 := by omega
      have ei : 10 * (i / 10) + i % 10 = i := by omega
      have w := W.2.2.2.1 (i / 10) (i % 10) d1 d2
      have w' := W.2.2.2.1 (i % 10) (i / 10) d2 d1
      rw [ei] at w
      have fin : ∀ v, v = nI (fw D 0 (i / 10) (i % 10)) → JS Z X 75 [(0, mrf Z), (1, .int (nI (D 0 0))), (2, .int (nI i))] [.int v, .int (nI i), rf Z 461] μ1 := fun v hv => by
        subst hv
        refine bX12_findWalks_75 E (by decide) (vin (by omega) (by omega)) (bX12_findWalks_76 E ?_)
        rw [nI_add, ix_nI (by omega)]
        refine ih (i + 1) _ (by omega) (fun j hj => ?_) (hF.tr (Fr.uR (by simp)))
        rw [uR_s]
        exact upd_at (fun e => by rw [e]) (fun e => h j (by omega))
      have none : (i / 10 = i % 10 → False) → D 1 i = 0 → JS Z X 73 [(0, mrf Z), (1, .int (nI (D 0 0))), (2, .int (nI i))] [.int (nI i), rf Z 461] μ1 := fun n1 n2 => by
        refine bX12_findWalks_73 E (by decide) (fin _ ?_)
        rw [fw, if_neg n1, ei, if_neg (by omega)]
      refine bX12_findWalks_9 E (fun c => absurd c (by rw [nI_leE (by omega) (by omega)]; omega)) (fun _ => ?_)
      refine bX12_findWalks_15 E (fun c => ?_) (fun c => ?_)
      · rw [q10 (by omega), r10 (by omega), nI_eqE (by omega) (by omega)] at c
        by_cases big : D 0 0 ≤ i / 10 ∨ D 0 0 ≤ i % 10
        · have z : D 1 i = 0 := by
            rcases big with g | g
            · exact w.2.2 (Or.inl g)
            · rw [w.2.1]; exact w'.2.2 (Or.inl g)
          refine bX12_findWalks_35 E (by decide) (by rw [nI_add]; exact vin (by omega) (by omega)) (fun _ => none c z) (fun _ => ?_)
          refine bX12_findWalks_46 E (by decide) (fun _ => none c z) (fun d => ?_)
          rw [q10 (by omega), nI_leE (by omega) (by omega)] at d
          refine bX12_findWalks_54 E (by decide) (fun _ => none c z) (fun d2 => ?_)
          rw [q10 (by omega), r10 (by omega), nI_leE (by omega) (by omega)] at d2
          omega
        · have g4 := h4 (i / 10) (i % 10) (by omega) (by omega)
          rw [ei, show 0 + 1 + 10 * (i / 10) + i % 10 = 1 + i by omega] at g4
          have e : μ1 456 (ix (nI 1 + nI i)) = nI (D 1 i) := by rw [nI_add, ix_nI (by omega), hF 456 (by decide), g4]
          refine bX12_findWalks_35 E (by decide) (by rw [nI_add]; exact vin (by omega) (by omega)) (fun d => ?_) (fun d => ?_)
          · rw [e, nI_le0 (by omega)] at d
            exact none c d
          · rw [e, nI_le0 (by omega)] at d
            refine bX12_findWalks_46 E (by decide) (fun d => ?_) (fun _ => ?_)
            · rw [q10 (by omega), nI_leE (by omega) (by omega)] at d
              omega
            refine bX12_findWalks_54 E (by decide) (fun d => ?_) (fun _ => ?_)
            · rw [q10 (by omega), r10 (by omega), nI_leE (by omega) (by omega)] at d
              omega
            refine bX12_findWalks_62 E (by decide) (by rw [nI_add]; exact vin (by omega) (by omega)) ?_
            rw [e]
            refine fin _ ?_
            rw [fw, if_neg c, ei, if_pos (by omega)]
      · rw [q10 (by omega), r10 (by omega), nI_eqE (by omega) (by omega)] at c
        exact bX12_findWalks_31 E (by decide) (fin _ (by rw [fw, if_pos c]))
  refine bX12_findWalks_0 E (vin (by omega) (by omega)) ?_
  rw [ix_nI (by omega), show μ 456 0 = _ from h1]
  exact L1 100 0 μ (by omega) (fun j hj => absurd hj (Nat.not_lt_zero j)) Fr.rf
end WALK1
