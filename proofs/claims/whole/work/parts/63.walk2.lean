/-! WALKS: the class' -/
/-- the least p from i on that c takes, else b -/
def sg (c : Nat → Bool) (b : Nat) : Nat → Nat → Nat
  | _, 0 => b
  | i, k + 1 => if c i = true then i else sg c b (i + 1) k
def cm (D : DD) (a b : Nat) : Nat := min (mn D a b) 10000
def cnd (D : DD) (a b p : Nat) : Bool := decide (0 < D 1 (10 * a + p)) && decide (D 1 (10 * a + p) + cm D p b = cm D a b)
def st (D : DD) (a b : Nat) : Nat := sg (cnd D a b) b 0 (D 0 0)
theorem sg_lt {c : Nat → Bool} {b n : Nat} : ∀ k i, i + k = n → b < n → sg c b i k < n
  | 0, _, _, hb => hb
  | k + 1, i, hi, hb => by
    unfold sg
    split
    · omega
    · exact sg_lt k (i + 1) (by omega) hb
/-- a table of the class: minutes or steps -/
def CT (μ : Mu) (o : Nat) (n : Nat) (g : Nat → Nat → Nat) : Prop := ∀ a b, a < n → b < n → μ o (10 * a + b) = nI (g a b)
section WALK2
variable {Z : ZT} {μ : Mu} {D : DD} {im : Nat → Option DD} {tx : TX} {s : Nat → Int32} {f : Nat × Nat}
theorem ab10 {a b : Nat} : nI a * nI 10 + nI b = nI (10 * a + b) := by rw [nI_mul, nI_add, Nat.mul_comm]
theorem c_startWithWays (H : HC μ 1 D) (W : WF D) : CtrS Z mX10_startWithWays [rf Z 73] μ (rV fun μ' => CT μ' 74 (D 0 0) (fun a b => min (fw D 0 a b) 10000) ∧ Fr [74] μ μ') := by
  refine CtrS.intro (by decide +kernel) (Nat.le_of_ble_eq_true rfl) rfl fun X E hB => ?_
  have hn := W.1
  have p0 : ∀ μ1, Fr [74] μ μ1 → μ1 1 0 = nI (D 0 0) := fun μ1 h => by rw [h 1 (by decide)]; exact H.2.1
  have L : ∀ k a μ1, a + k = D 0 0 → (∀ a' b', a' < a → b' < D 0 0 → μ1 74 (10 * a' + b') = nI (min (fw D 0 a' b') 10000)) → Fr [74] μ μ1 → JS Z X 2 [(0, rf Z 73), (1, .int (nI a))] [] μ1 := by
    intro k
    induction k with
    | zero =>
      intro a μ1 ha h hF
      have : a = D 0 0 := ha
      subst this
      exact bX10_startWithWays_2 E (fun _ => bX10_startWithWays_84 E hB ⟨rfl, fun a' b' h1 h2 => h a' b' h1 h2, hF⟩) (fun c => absurd (by rw [p0 μ1 hF, nI_leE (by omega) (by omega)]; omega) c)
    | succ k ih =>
      intro a μ1 ha h hF
      refine bX10_startWithWays_2 E (fun c => absurd c (by rw [p0 μ1 hF, nI_leE (by omega) (by omega)]; omega)) (fun _ => bX10_startWithWays_13 E ?_)
      have L2 : ∀ k' b μ1, b + k' = D 0 0 → (∀ a' b', (a' < a ∧ b' < D 0 0) ∨ (a' = a ∧ b' < b) → μ1 74 (10 * a' + b') = nI (min (fw D 0 a' b') 10000)) → Fr [74] μ μ1 → JS Z X 15 [(0, rf Z 73), (1, .int (nI a)), (2, .int (nI b))] [] μ1 := by
        intro k'
        induction k' with
        | zero =>
          intro b μ1 hb h hF
          have : b = D 0 0 := hb
          subst this
          refine bX10_startWithWays_15 E (fun _ => bX10_startWithWays_78 E ?_) (fun c => absurd (by rw [p0 μ1 hF, nI_leE (by omega) (by omega)]; omega) c)
          rw [nI_add]
          exact ih (a + 1) _ (by omega) (fun a' b' h1 h2 => h a' b' (by omega)) hF
        | succ k' ih' =>
          intro b μ1 hb h hF
          have w := (W.2.2.2.1 a b (by omega) (by omega)).1
          have fin : ∀ v, v = nI (min (fw D 0 a b) 10000) → JS Z X 71 [(0, rf Z 73), (1, .int (nI a)), (2, .int (nI b))] [.int v, .int (nI (10 * a + b)), rf Z 74] μ1 := fun v hv => by
            subst hv
            refine bX10_startWithWays_71 E (by decide) (vin (by omega) (by omega)) (bX10_startWithWays_72 E ?_)
            rw [nI_add, ix_nI (by omega)]
            refine ih' (b + 1) _ (by omega) (fun a' b' hh => ?_) (hF.tr (Fr.uR (by simp)))
            rw [uR_s]
            refine upd_at (fun e => ?_) (fun e => h a' b' (by omega))
            rw [show a' = a by omega, show b' = b by omega]
          have g : μ1 (1 + 1) (10 * a + b) = nI (D 1 (10 * a + b)) := by rw [hF 2 (by decide)]; exact H.2.2.2.2.1 _ (by omega)
          refine bX10_startWithWays_15 E (fun c => absurd c (by rw [p0 μ1 hF, nI_leE (by omega) (by omega)]; omega)) (fun _ => ?_)
          refine bX10_startWithWays_26 E (by rw [ab10]; exact vin (by omega) (by omega)) (fun c => ?_) (fun c => ?_)
          · rw [nI_eqE (by omega) (by omega)] at c
            rw [ab10, ix_nI (by omega), g]
            refine bX10_startWithWays_60 E (by decide) (fun d => ?_) (fun d => ?_)
            · rw [nI_le0 (by omega)] at d
              exact bX10_startWithWays_68 E (by decide) (fin _ (by rw [fw, if_neg c, if_neg (by omega)]; rfl))
            · rw [nI_le0 (by omega)] at d
              exact bX10_startWithWays_64 E (by decide) (fin _ (by rw [fw, if_neg c, if_pos (by omega), Nat.min_eq_left (by omega)]))
          · rw [nI_eqE (by omega) (by omega)] at c
            rw [ab10]
            exact bX10_startWithWays_56 E (by decide) (fin _ (by rw [fw, if_pos c]; rfl))
      exact L2 (D 0 0) 0 μ1 (by omega) (fun a' b' hh => h a' b' (by omega) (by omega)) hF
  exact bX10_startWithWays_0 E (L (D 0 0) 0 μ (by omega) (fun a' b' h => absurd h (Nat.not_lt_zero a')) Fr.rf)
theorem c_shorten (H : HC μ 1 D) (W : WF D) (h0 : CT μ 74 (D 0 0) (fun a b => min (fw D 0 a b) 10000)) : CtrS Z mX10_shortenByRounds [rf Z 73] μ (rV fun μ' => CT μ' 74 (D 0 0) (cm D) ∧ Fr [74] μ μ') := by
  refine CtrS.intro (by decide +kernel) (Nat.le_of_ble_eq_true rfl) rfl fun X E hB => ?_
  have hn := W.1
  have p0 : ∀ μ1, Fr [74] μ μ1 → μ1 1 0 = nI (D 0 0) := fun μ1 h => by rw [h 1 (by decide)]; exact H.2.1
  have L : ∀ k p μ1, p + k = D 0 0 → CT μ1 74 (D 0 0) (fun a b => min (fw D p a b) 10000) → Fr [74] μ μ1 → JS Z X 2 [(0, rf Z 73), (1, .int (nI p))] [] μ1 := by
    intro k
    induction k with
    | zero =>
      intro p μ1 hp h hF
      have : p = D 0 0 := hp
      subst this
      exact bX10_shortenByRounds_2 E (fun _ => bX10_shortenByRounds_109 E hB ⟨rfl, h, hF⟩) (fun c => absurd (by rw [p0 μ1 hF, nI_leE (by omega) (by omega)]; omega) c)
    | succ k ih =>
      intro p μ1 hp h hF
      refine bX10_shortenByRounds_2 E (fun c => absurd c (by rw [p0 μ1 hF, nI_leE (by omega) (by omega)]; omega)) (fun _ => bX10_shortenByRounds_13 E ?_)
      -- what is new: lexicographically before (a, b)
      have L2 : ∀ k2 a μ1, a + k2 = D 0 0 → CT μ1 74 (D 0 0) (fun a' b' => min (if a' < a then fw D (p + 1) a' b' else fw D p a' b') 10000) → Fr [74] μ μ1 → JS Z X 15 [(0, rf Z 73), (1, .int (nI p)), (2, .int (nI a))] [] μ1 := by
        intro k2
        induction k2 with
        | zero =>
          intro a μ1 ha h hF
          have : a = D 0 0 := ha
          subst this
          refine bX10_shortenByRounds_15 E (fun _ => bX10_shortenByRounds_103 E ?_) (fun c => absurd (by rw [p0 μ1 hF, nI_leE (by omega) (by omega)]; omega) c)
          rw [nI_add]
          refine ih (p + 1) _ (by omega) (fun a' b' h1 h2 => ?_) hF
          rw [h a' b' h1 h2]
          dsimp only
          rw [if_pos h1]
        | succ k2 ih2 =>
          intro a μ1 ha h hF
          refine bX10_shortenByRounds_15 E (fun c => absurd c (by rw [p0 μ1 hF, nI_leE (by omega) (by omega)]; omega)) (fun _ => bX10_shortenByRounds_26 E ?_)
          have L3 : ∀ k3 b μ1, b + k3 = D 0 0 → CT μ1 74 (D 0 0) (fun a' b' => min (if a' < a ∨ (a' = a ∧ b' < b) then fw D (p + 1) a' b' else fw D p a' b') 10000) → Fr [74] μ μ1 → JS Z X 28 [(0, rf Z 73), (1, .int (nI p)), (2, .int (nI a)), (3, .int (nI b))] [] μ1 := by
            intro k3
            induction k3 with
            | zero =>
              intro b μ1 hb h hF
              have : b = D 0 0 := hb
              subst this
              refine bX10_shortenByRounds_28 E (fun _ => bX10_shortenByRounds_97 E ?_) (fun c => absurd (by rw [p0 μ1 hF, nI_leE (by omega) (by omega)]; omega) c)
              rw [nI_add]
              refine ih2 (a + 1) _ (by omega) (fun a' b' h1 h2 => ?_) hF
              rw [h a' b' h1 h2]
              dsimp only
              by_cases q : a' < a + 1
              · rw [if_pos q, if_pos (by omega)]
              · rw [if_neg q, if_neg (by omega)]
            | succ k3 ih3 =>
              intro b μ1 hb h hF
              have v1 : μ1 74 (10 * a + p) = nI (min (fw D p a p) 10000) := by
                rw [h a p (by omega) (by omega)]
                dsimp only
                split
                · rw [fw_col]
                · rfl
              have v2 : μ1 74 (10 * p + b) = nI (min (fw D p p b) 10000) := by
                rw [h p b (by omega) (by omega)]
                dsimp only
                split
                · rw [fw_row]
                · rfl
              have v3 : μ1 74 (10 * a + b) = nI (min (fw D p a b) 10000) := by
                rw [h a b (by omega) (by omega)]
                dsimp only
                rw [if_neg (by omega)]
              refine bX10_shortenByRounds_28 E (fun c => absurd c (by rw [p0 μ1 hF, nI_leE (by omega) (by omega)]; omega)) (fun _ => ?_)
              refine bX10_shortenByRounds_39 E (by rw [ab10]; exact vin (by omega) (by omega)) (by rw [ab10]; exact vin (by omega) (by omega)) (by rw [ab10]; exact vin (by omega) (by omega)) (by rw [ab10]; exact vin (by omega) (by omega)) (bX10_shortenByRounds_91 E ?_)
              rw [ab10, ab10, ab10, ix_nI (show 10 * a + b < 2147483648 by omega), ix_nI (show 10 * a + p < 2147483648 by omega), ix_nI (show 10 * p + b < 2147483648 by omega), v1, v2, v3, nI_add b, nI_add (min (fw D p a p) 10000), minL (by omega) (by omega)]
              refine ih3 (b + 1) _ (by omega) (fun a' b' h1 h2 => ?_) (hF.tr (Fr.uR (by simp)))
              rw [uR_s]
              refine upd_at (fun e => ?_) (fun e => ?_)
              · rw [show a' = a by omega, show b' = b by omega]
                dsimp only
                rw [if_pos (by omega), fw]
                congr 1
                omega
              · rw [h a' b' h1 h2]
                dsimp only
                by_cases q : a' < a ∨ (a' = a ∧ b' < b)
                · rw [if_pos q, if_pos (by omega)]
                · rw [if_neg q, if_neg (by omega)]
          exact L3 (D 0 0) 0 μ1 (by omega) (fun a' b' h1 h2 => by
            rw [h a' b' h1 h2]
            dsimp only
            by_cases q : a' < a
            · rw [if_pos q, if_pos (by omega)]
            · rw [if_neg q, if_neg (by omega)]) hF
      exact L2 (D 0 0) 0 μ1 (by omega) (fun a' b' h1 h2 => by rw [h a' b' h1 h2]; dsimp only; rw [if_neg (by omega)]) hF
  exact bX10_shortenByRounds_0 E (L (D 0 0) 0 μ (by omega) h0 Fr.rf)
theorem cm_le {a b : Nat} : cm D a b ≤ 10000 := Nat.min_le_right _ _
theorem c_chooseSteps (H : HC μ 1 D) (W : WF D) (h0 : CT μ 74 (D 0 0) (cm D)) : CtrS Z mX10_chooseSteps [rf Z 73] μ (rV fun μ' => CT μ' 75 (D 0 0) (st D) ∧ Fr [75] μ μ') := by
  refine CtrS.intro (by decide +kernel) (Nat.le_of_ble_eq_true rfl) rfl fun X E hB => ?_
  have hn := W.1
  have p0 : ∀ μ1, Fr [75] μ μ1 → μ1 1 0 = nI (D 0 0) := fun μ1 h => by rw [h 1 (by decide)]; exact H.2.1
  have L : ∀ k a μ1, a + k = D 0 0 → (∀ a' b', a' < a → b' < D 0 0 → μ1 75 (10 * a' + b') = nI (st D a' b')) → Fr [75] μ μ1 → JS Z X 2 [(0, rf Z 73), (1, .int (nI a))] [] μ1 := by
    intro k
    induction k with
    | zero =>
      intro a μ1 ha h hF
      have : a = D 0 0 := ha
      subst this
      exact bX10_chooseSteps_2 E (fun _ => bX10_chooseSteps_131 E hB ⟨rfl, fun a' b' h1 h2 => h a' b' h1 h2, hF⟩) (fun c => absurd (by rw [p0 μ1 hF, nI_leE (by omega) (by omega)]; omega) c)
    | succ k ih =>
      intro a μ1 ha h hF
      refine bX10_chooseSteps_2 E (fun c => absurd c (by rw [p0 μ1 hF, nI_leE (by omega) (by omega)]; omega)) (fun _ => bX10_chooseSteps_13 E ?_)
      have L2 : ∀ k' b μ1, b + k' = D 0 0 → (∀ a' b', (a' < a ∧ b' < D 0 0) ∨ (a' = a ∧ b' < b) → μ1 75 (10 * a' + b') = nI (st D a' b')) → Fr [75] μ μ1 → JS Z X 15 [(0, rf Z 73), (1, .int (nI a)), (2, .int (nI b))] [] μ1 := by
        intro k'
        induction k' with
        | zero =>
          intro b μ1 hb h hF
          have : b = D 0 0 := hb
          subst this
          refine bX10_chooseSteps_15 E (fun _ => bX10_chooseSteps_125 E ?_) (fun c => absurd (by rw [p0 μ1 hF, nI_leE (by omega) (by omega)]; omega) c)
          rw [nI_add]
          exact ih (a + 1) _ (by omega) (fun a' b' h1 h2 => h a' b' (by omega)) hF
        | succ k' ih' =>
          intro b μ1 hb h hF
          refine bX10_chooseSteps_15 E (fun c => absurd c (by rw [p0 μ1 hF, nI_leE (by omega) (by omega)]; omega)) (fun _ => ?_)
          have L3 : ∀ q r μ1, q + r = D 0 0 → (∀ a' b', (a' < a ∧ b' < D 0 0) ∨ (a' = a ∧ b' < b) → μ1 75 (10 * a' + b') = nI (st D a' b')) → μ1 75 (10 * a + b) = nI (sg (cnd D a b) b q r) → Fr [75] μ μ1 → JS Z X 48 [(0, rf Z 73), (1, .int (nI a)), (2, .int (nI b)), (3, .int (nI q + (-1)))] [] μ1 := by
            intro q
            induction q with
            | zero =>
              intro r μ1 hr h h' hF
              obtain rfl : r = D 0 0 := by omega
              refine bX10_chooseSteps_48 E (fun _ => bX10_chooseSteps_119 E ?_) (fun c => absurd (by decide) c)
              rw [nI_add]
              refine ih' (b + 1) _ (by omega) (fun a' b' hh => ?_) hF
              by_cases e : a' = a ∧ b' = b
              · rw [e.1, e.2]; exact h'
              · exact h a' b' (by omega)
            | succ q ihq =>
              intro r μ1 hr h h' hF
              rw [nI_suc_m1]
              have g : μ1 (1 + 1) (10 * a + q) = nI (D 1 (10 * a + q)) := by rw [hF 2 (by decide)]; exact H.2.2.2.2.1 _ (by omega)
              have w := (W.2.2.2.1 a q (by omega) (by omega)).1
              have m1 : μ1 74 (10 * q + b) = nI (cm D q b) := by rw [hF 74 (by decide)]; exact h0 q b (by omega) (by omega)
              have m2 : μ1 74 (10 * a + b) = nI (cm D a b) := by rw [hF 74 (by decide)]; exact h0 a b (by omega) (by omega)
              have l1 := cm_le (D := D) (a := q) (b := b)
              have l2 := cm_le (D := D) (a := a) (b := b)
              have no : cnd D a b q = false → JS Z X 113 [(0, rf Z 73), (1, .int (nI a)), (2, .int (nI b)), (3, .int (nI q))] [] μ1 := fun n => by
                refine bX10_chooseSteps_113 E (ihq (r + 1) μ1 (by omega) h ?_ hF)
                rw [sg, n, if_neg (by decide)]; exact h'
              refine bX10_chooseSteps_48 E (fun c => absurd c (by rw [Int32.not_lt]; exact nI_pos' (by omega))) (fun _ => ?_)
              refine bX10_chooseSteps_52 E (by rw [ab10]; exact vin (by omega) (by omega)) (fun c => ?_) (fun c => ?_)
              · rw [ab10, ix_nI (by omega), g, nI_le0 (by omega)] at c
                exact no (by simp [cnd, c])
              · rw [ab10, ix_nI (by omega), g, nI_le0 (by omega)] at c
                rw [ab10, ix_nI (by omega), g]
                refine bX10_chooseSteps_73 E (by rw [ab10]; exact vin (by omega) (by omega)) (by rw [ab10]; exact vin (by omega) (by omega)) (fun d => ?_) (fun d => ?_)
                · rw [ab10, ab10, ix_nI (by omega), ix_nI (show 10 * a + b < 2147483648 by omega), m1, m2, nI_add, nI_eqE (by omega) (by omega)] at d
                  exact no (by simp [cnd, d])
                · rw [ab10, ab10, ix_nI (by omega), ix_nI (show 10 * a + b < 2147483648 by omega), m1, m2, nI_add, nI_eqE (by omega) (by omega)] at d
                  have yes : cnd D a b q = true := by simp [cnd, d]; omega
                  refine bX10_chooseSteps_101 E (by rw [ab10]; exact vin (by omega) (by omega)) (bX10_chooseSteps_113 E ?_)
                  rw [ab10, ix_nI (by omega)]
                  refine ihq (r + 1) _ (by omega) (fun a' b' hh => ?_) ?_ (hF.tr (Fr.uR (by simp)))
                  · rw [uR_s, pk_un (by omega)]; exact h a' b' hh
                  · rw [uR_s, pk_us, sg, yes, if_pos rfl]
          refine bX10_chooseSteps_26 E (by rw [ab10]; exact vin (by omega) (by omega)) (bX10_chooseSteps_38 E ?_)
          rw [ab10, ix_nI (by omega)]
          have hF' := hF.tr (show Fr [75] μ1 (uR μ1 75 (upd (μ1 75) (10 * a + b) (nI b))) from Fr.uR (by simp))
          rw [p0 _ hF', show nI (D 0 0) - nI 1 = nI (D 0 0) + (-1) by rw [Int32.sub_eq_add_neg]; rfl]
          refine L3 (D 0 0) 0 _ (by omega) (fun a' b' hh => ?_) ?_ hF'
          · rw [uR_s, pk_un (by omega)]; exact h a' b' hh
          · rw [uR_s, pk_us]; rfl
      exact L2 (D 0 0) 0 μ1 (by omega) (fun a' b' hh => h a' b' (by omega) (by omega)) hF
  exact bX10_chooseSteps_0 E (L (D 0 0) 0 μ (by omega) (fun a' b' h => absurd h (Nat.not_lt_zero a')) Fr.rf)
/-- the class has measured -/
def MC (μ : Mu) (D : DD) : Prop := CT μ 74 (D 0 0) (cm D) ∧ CT μ 75 (D 0 0) (st D)
abbrev WKS : List Nat := [74, 75, 76]
theorem c_measure (H : HC μ 1 D) (W : WF D) : CtrS Z mX10_measure [rf Z 73] μ (rV fun μ' => MC μ' D ∧ (∀ i, i < 800 → μ' 76 i = -2) ∧ Fr WKS μ μ') := by
  refine CtrS.intro (by decide +kernel) (Nat.le_of_ble_eq_true rfl) rfl fun X E hB => ?_
  refine bX10_measure_0 E (c_startWithWays H W) fun μ1 g => ?_
  have H1 : HC μ1 1 D := H.fr fun k hk => g.2 _ (by simp; omega)
  refine bX10_measure_4 E (c_shorten H1 W g.1) fun μ2 g2 => ?_
  have H2 : HC μ2 1 D := H1.fr fun k hk => g2.2 _ (by simp; omega)
  refine bX10_measure_8 E (c_chooseSteps H2 W g2.1) fun μ3 g3 => ?_
  refine bX10_measure_12 E (c_fill (o := 76) (n := 800) (by decide) (by decide)) fun μ4 g4 => ?_
  refine bX10_measure_21 E hB ⟨rfl, ⟨fun a b h1 h2 => ?_, fun a b h1 h2 => ?_⟩, fun i hi => g4.1 i hi, (((g.2.mo (by decide)).tr (g2.2.mo (by decide))).tr (g3.2.mo (by decide))).tr (g4.2.mo (by decide))⟩
  · rw [g4.2 _ (by decide), g3.2 _ (by decide)]; exact g2.1 a b h1 h2
  · rw [g4.2 _ (by decide)]; exact g3.1 a b h1 h2
/-! walk -/
def oWalk (D : DD) (s : Nat → Int32) (a b : Int32) : Int32 × (Nat → Int32) := if inN a (D 0 0) ∧ inN b (D 0 0) then (if mn D (ix a) (ix b) < 10000 then nI (mn D (ix a) (ix b)) else -1, s) else (-2, cnt s (-2))
theorem SC.wks {μ μ' : Mu} (q : SC μ) (h : Fr WKS μ μ') : SC μ' := q.fr fun a h1 h2 => h a (by simp; omega)
theorem c_between {a b : Int32} (H : HC μ 1 D) (W : WF D) (h0 : MC μ D) (ha : inN a (D 0 0)) (hb : inN b (D 0 0)) : CtrS Z mX10_between [rf Z 73, .int a, .int b] μ (rI fun v μ' => v = (if mn D (ix a) (ix b) < 10000 then nI (mn D (ix a) (ix b)) else -1) ∧ μ' = μ) := by
  refine CtrS.intro (by decide +kernel) (Nat.le_of_ble_eq_true rfl) rfl fun X E hB => ?_
  have hn := W.1
  obtain ⟨a1, a2⟩ := inN_of ha (by omega)
  obtain ⟨b1, b2⟩ := inN_of hb (by omega)
  refine bX10_between_0 E (c_hasPlace H W) fun v μ1 g => ?_
  obtain ⟨rfl, rfl⟩ := g
  refine bX10_between_8 E (fun c => absurd c (by rw [bz]; exact not_not_intro ha)) (fun _ => ?_)
  refine bX10_between_11 E (c_hasPlace H W) fun v μ1 g => ?_
  obtain ⟨rfl, rfl⟩ := g
  refine bX10_between_19 E (fun c => absurd c (by rw [bz]; exact not_not_intro hb)) (fun _ => ?_)
  have e : a * nI 10 + b = nI (10 * ix a + ix b) := by
    have := ab10 (a := ix a) (b := ix b)
    rw [← a2, ← b2] at this
    exact this
  have m := h0.1 (ix a) (ix b) a1 b1
  have l := cm_le (D := D) (a := ix a) (b := ix b)
  refine bX10_between_22 E (by rw [e]; exact vin (by omega) (by omega)) (fun c => ?_) (fun c => ?_)
  · rw [e, ix_nI (by omega), m, nI_ltE (by omega) (by omega)] at c
    have c' : mn D (ix a) (ix b) < 10000 := by unfold cm at c; omega
    rw [if_pos c'] at hB
    refine bX10_between_41 E hB (by rw [e]; exact vin (by omega) (by omega)) ⟨_, rfl, ?_, rfl⟩
    rw [e, ix_nI (by omega), m, cm, Nat.min_eq_left (by omega)]
  · rw [e, ix_nI (by omega), m, nI_ltE (by omega) (by omega)] at c
    have c' : ¬ mn D (ix a) (ix b) < 10000 := by unfold cm at c; omega
    rw [if_neg c'] at hB
    exact bX10_between_39 E hB ⟨_, rfl, rfl, rfl⟩
theorem x_walk {a b : Int32} (R : RepC μ D im tx s f) (O : OkS D im tx) : CtrS Z mX11_walk [xrf Z, .int a, .int b] μ (rI fun v μ' => v = (oWalk D s a b).1 ∧ RepC μ' D im tx (oWalk D s a b).2 f ∧ FrX μ μ') := by
  refine CtrS.intro (by decide +kernel) (Nat.le_of_ble_eq_true rfl) rfl fun X E hB => ?_
  have no : ¬ (inN a (D 0 0) ∧ inN b (D 0 0)) → JS Z X 22 [(0, xrf Z)] [] μ := fun g => by
    have e : oWalk D s a b = (-2, cnt s (-2)) := if_neg g
    rw [e] at hB
    refine bX11_walk_22 E (c_counted (s := s) R.2.2.1) fun v μ2 h => ?_
    obtain ⟨rfl, h1, h2⟩ := h
    exact bX11_walk_28 E hB ⟨_, rfl, rfl, xstep (μ1 := _) R R.1 Fr.rf h1 h2 fun _ _ => rfl⟩
  refine bX11_walk_0 E (c_hasPlace R.1 O.1.1) fun v μ1 g => ?_
  obtain ⟨rfl, rfl⟩ := g
  refine bX11_walk_8 E (fun c => no fun g => by rw [bz] at c; exact c g.1) (fun c1 => ?_)
  rw [bz] at c1
  have c1 := Decidable.not_not.mp c1
  refine bX11_walk_11 E (c_hasPlace R.1 O.1.1) fun v μ1 g => ?_
  obtain ⟨rfl, rfl⟩ := g
  refine bX11_walk_19 E (fun c2 => ?_) (fun c => no fun g => by rw [bz] at c; exact c g.2)
  rw [bz] at c2
  have c2 := Decidable.not_not.mp c2
  have e : oWalk D s a b = _ := if_pos ⟨c1, c2⟩
  rw [e] at hB
  refine bX11_walk_29 E (c_measure R.1 O.1.1) fun μ2 g => ?_
  obtain ⟨g1, -, g2⟩ := g
  have F : FrP _ μ2 := FrP.ofFr g2 (by decide)
  have R2 := F.rep R (R.2.2.2.2.2.2.wks g2)
  refine bX11_walk_36 E (c_between R2.1 O.1.1 g1 c1 c2) fun v μ3 g => ?_
  obtain ⟨rfl, rfl⟩ := g
  exact bX11_walk_45 E hB ⟨_, rfl, rfl, R2, F.x⟩
theorem y_walk {a b : Int32} (R : RepM μ D im tx s f) (O : OkS D im tx) : CtrS Z mX12_walk [mrf Z, .int a, .int b] μ (rI fun v μ' => v = (oWalk D s a b).1 ∧ RepM μ' D im tx (oWalk D s a b).2 f ∧ FrY μ μ') := by
  refine CtrS.intro (by decide +kernel) (Nat.le_of_ble_eq_true rfl) rfl fun X E hB => ?_
  have hn := O.1.1.1
  have no : ¬ (inN a (D 0 0) ∧ inN b (D 0 0)) → JS Z X 18 [(0, mrf Z)] [] μ := fun g => by
    have e : oWalk D s a b = (-2, cnt s (-2)) := if_neg g
    rw [e] at hB
    refine bX12_walk_18 E (m_refuse (s := s) R.2.2.1) fun v μ2 h => ?_
    obtain ⟨rfl, h1, h2⟩ := h
    exact bX12_walk_24 E hB ⟨_, rfl, rfl, ystay R O h1 h2⟩
  refine bX12_walk_0 E (m_isPlace R.1 O.1.1 (by decide)) fun v μ1 g => ?_
  obtain ⟨rfl, rfl⟩ := g
  refine bX12_walk_6 E (fun c => no fun g => by rw [bz] at c; exact c g.1) (fun c1 => ?_)
  rw [bz] at c1
  have c1 := Decidable.not_not.mp c1
  refine bX12_walk_9 E (m_isPlace R.1 O.1.1 (by decide)) fun v μ1 g => ?_
  obtain ⟨rfl, rfl⟩ := g
  refine bX12_walk_15 E (fun c2 => ?_) (fun c => no fun g => by rw [bz] at c; exact c g.2)
  rw [bz] at c2
  have c2 := Decidable.not_not.mp c2
  obtain ⟨a1, a2⟩ := inN_of c1 (by omega)
  obtain ⟨b1, b2⟩ := inN_of c2 (by omega)
  have e : oWalk D s a b = _ := if_pos ⟨c1, c2⟩
  rw [e] at hB
  refine bX12_walk_25 E (m_findWalks R.1 O.1.1) fun μ2 g => ?_
  obtain ⟨g1, g2⟩ := g
  have Q : FrQ _ μ2 := ⟨fun a ha _ => g2 a (by simp; omega), by rw [g2 _ (by decide)], by rw [g2 _ (by decide)], fun i _ => by rw [g2 _ (by decide)]⟩
  have ee : nI 10 * a + b = nI (10 * ix a + ix b) := by rw [← nI_add, ← nI_mul, ← a2, ← b2]
  have m := g1 (10 * ix a + ix b) (by omega)
  rw [show (10 * ix a + ix b) / 10 = ix a by omega, show (10 * ix a + ix b) % 10 = ix b by omega] at m
  have l := fw_le O.1.1 (D 0 0) (ix a) (ix b) (by omega) (by omega)
  have gap := mn_gap O.1.1 (a := ix a) (b := ix b) (by omega) (by omega)
  have lm : mn D (ix a) (ix b) ≤ 100000 := l
  refine bX12_walk_29 E (by rw [ee]; exact vin (by omega) (by omega)) (fun c => ?_) (fun c => ?_)
  · rw [ee, ix_nI (by omega), m, nI_ltE (by omega) (by omega)] at c
    rw [if_pos (by omega)] at hB
    refine bX12_walk_49 E (by rw [ee]; exact vin (by omega) (by omega)) (bX12_walk_60 E hB ⟨_, rfl, ?_, Q.rep R, Q.y⟩)
    rw [ee, ix_nI (by omega), m]
  · rw [ee, ix_nI (by omega), m, nI_ltE (by omega) (by omega)] at c
    rw [if_neg (by omega)] at hB
    exact bX12_walk_45 E (bX12_walk_60 E hB ⟨_, rfl, rfl, Q.rep R, Q.y⟩)
end WALK2
