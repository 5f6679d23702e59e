/-! HUNTS: one minute weighed, in millionths -/
theorem quick_le {D : DD} (W : WF D) {c l k p : Nat} (hk : k < 4) : quick D c l k p ≤ 9 := by
  unfold quick
  by_cases h : c < D 0 1
  · have key := (W.2.2.2.2.2.1 c h).2.1 k hk
    repeat' split
    all_goals omega
  · simp only [h, false_and, if_false]
    omega
/-- that none of the first c children has it; that it is this one who does -/
def miss (D : DD) (l k p : Nat) : Nat → Nat
  | 0 => 1000000
  | c + 1 => if quick D c l k p = 0 then miss D l k p c else miss D l k p c / 10 * (10 - quick D c l k p)
def gues (D : DD) (l k p c : Nat) : Nat := if quick D c l k p = 0 then 0 else miss D l k p c / 10 * quick D c l k p
theorem miss_le {D : DD} {l k p : Nat} : ∀ c, miss D l k p c ≤ 1000000
  | 0 => Nat.le_refl _
  | c + 1 => by
    have h := miss_le (D := D) (l := l) (k := k) (p := p) c
    unfold miss
    split
    · exact h
    · have : miss D l k p c / 10 * (10 - quick D c l k p) ≤ miss D l k p c / 10 * 10 := Nat.mul_le_mul_left _ (by omega)
      omega
section WEIGH
variable {Z : ZT} {μ : Mu} {D : DD}
theorem c_weigh {o i l k p : Nat} (ho : SH o = .inl 4) (hd : 14 ≤ o) (H : HC μ 1 D) (W : WF D) (hi : i < 6) (hl : l < 2) (hk : k < 4) (hp : p < 10) (e3 : μ o 3 = nI l) (ea : μ (o + 2) i = nI p) : CtrS Z mX4_weigh [rf Z o, .int (nI i), .int (nI k)] μ (rI fun v μ' => v = nI (miss D (l + 1) k p 6) ∧ (∀ c, c < 6 → μ' (o + 4) c = nI (gues D (l + 1) k p c)) ∧ Fr [o + 4] μ μ') := by
  refine CtrS.intro (by decide +kernel) (Nat.le_of_ble_eq_true rfl) rfl fun X E hB => ?_
  have loop : ∀ n c μ1, c + n = 6 → (∀ c', c' < c → μ1 (o + 4) c' = nI (gues D (l + 1) k p c')) → Fr [o + 4] μ μ1 → JS Z X 6 [(0, rf Z o), (1, .int (nI i)), (2, .int (nI k)), (3, .int (nI (miss D (l + 1) k p c))), (4, .int (nI c))] [] μ1 := by
    intro n
    induction n with
    | zero =>
      intro c μ1 hc h hF
      have : c = 6 := hc
      subst this
      exact bX4_weigh_6 E ho (fun _ => bX4_weigh_81 E hB ⟨_, rfl, rfl, h, hF⟩) (fun c => absurd (by decide) c)
    | succ n ih =>
      intro c μ1 hc h hF
      have H1 : HC μ1 1 D := H.fr fun x hx => hF _ (by simp; omega)
      have ml := miss_le (D := D) (l := l + 1) (k := k) (p := p) c
      have ql := quick_le W (c := c) (l := l + 1) (p := p) hk
      refine bX4_weigh_6 E ho (fun d => absurd d (by rw [nI_leE (by omega) (by omega)]; omega)) (fun _ => ?_)
      refine bX4_weigh_13 E ho (vin (by omega) (by omega)) (by rw [ix_nI (by omega), hF _ (by simp), hF (o + 2) (by simp), e3, ea]; exact c_quickAt H1 W (by omega) hl hk hp) fun v μ2 g => ?_
      obtain ⟨rfl, rfl⟩ := g
      refine bX4_weigh_33 E ho (vin (by omega) (by omega)) ?_
      rw [ix_nI (show c < 2147483648 by omega)]
      have nx : ∀ μ3, μ3 (o + 4) c = nI (gues D (l + 1) k p c) → (∀ c', c' < c → μ3 (o + 4) c' = nI (gues D (l + 1) k p c')) → Fr [o + 4] μ μ3 → JS Z X 75 [(0, rf Z o), (1, .int (nI i)), (2, .int (nI k)), (3, .int (nI (miss D (l + 1) k p (c + 1)))), (4, .int (nI c))] [] μ3 := fun μ3 k1 k2 k3 => by
        refine bX4_weigh_75 E ho ?_
        rw [nI_add]
        refine ih (c + 1) μ3 (by omega) (fun c' hc' => ?_) k3
        by_cases e : c' = c
        · rw [e]; exact k1
        · exact k2 c' (by omega)
      refine bX4_weigh_43 E ho (fun d => ?_) (fun d => ?_)
      · rw [nI_le0 (by omega)] at d
        have z := nx (uR μ2 (o + 4) (upd (μ2 (o + 4)) c (nI 0))) (by rw [uR_s, pk_us, gues, if_pos d]) (fun c' hc' => by rw [uR_s, pk_un (by omega)]; exact h c' hc') (hF.tr (Fr.uR (by simp)))
        rw [miss, if_pos d] at z
        exact z
      · rw [nI_le0 (by omega)] at d
        have q10' : nI (miss D (l + 1) k p c) / nI 10 = nI (miss D (l + 1) k p c / 10) := pk_div (by omega) (by omega) (by omega)
        refine bX4_weigh_48 E ho (vin (by omega) (by omega)) (bX4_weigh_66 E ho ?_)
        rw [ix_nI (show c < 2147483648 by omega), q10', nI_mul, nI_sub (by omega), nI_mul, uR_s, uR_uR]
        have z := nx (uR μ2 (o + 4) (upd (upd (μ2 (o + 4)) c (nI 0)) c (nI (miss D (l + 1) k p c / 10 * quick D c (l + 1) k p)))) (by rw [uR_s, pk_us, gues, if_neg d]) (fun c' hc' => by rw [uR_s, pk_un (by omega), pk_un (by omega)]; exact h c' hc') (hF.tr (Fr.uR (by simp)))
        rw [miss, if_neg d] at z
        exact z
  exact bX4_weigh_0 E ho (loop 6 0 μ (by omega) (fun c hc => absurd hc (Nat.not_lt_zero c)) Fr.rf)
end WEIGH
