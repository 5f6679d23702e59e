/-! HUNTS: the reference's millionths -/
section MISS2
variable {Z : ZT} {μ : Mu} {D : DD}
theorem lotE {x l : Nat} (hx : x ≤ 2) (hl : l < 2) : (lotI x = nI l) = (x = l + 1) :=
  (show ∀ x, x ≤ 2 → ∀ l, l < 2 → (lotI x = nI l) = (x = l + 1) by
    intro x hx l hl
    rcases (show x = 0 ∨ x = 1 ∨ x = 2 by omega) with rfl | rfl | rfl <;> rcases (show l = 0 ∨ l = 1 by omega) with rfl | rfl <;> simp [lotI] <;> decide) x hx l hl
theorem miss_hi {l k p : Nat} (W : WF D) : ∀ j, miss D l k p (D 0 1 + j) = miss D l k p (D 0 1)
  | 0 => rfl
  | j + 1 => by
    have z : quick D (D 0 1 + j) l k p = 0 := if_neg fun g => by have := g.1; omega
    rw [← Nat.add_assoc, miss, if_pos z, miss_hi W j]
theorem m_missesAt {l k p : Nat} (H : HM (μ 456) 0 D) (W : WF D) (hl : l < 2) (hk : k < 4) (hp : p < 10) : CtrS Z mX12_missesAt [mrf Z, .int (nI l), .int (nI k), .int (nI p)] μ (rI fun v μ' => v = nI (miss D (l + 1) k p 6) ∧ μ' = μ) := by
  refine CtrS.intro (by decide +kernel) (Nat.le_of_ble_eq_true rfl) rfl fun X E hB => ?_
  have hC := W.2.1
  have h2 : μ 456 111 = nI (D 0 1) := H.2.1
  have m6 : miss D (l + 1) k p 6 = miss D (l + 1) k p (D 0 1) := by
    have := miss_hi (l := l + 1) (k := k) (p := p) W (6 - D 0 1)
    rw [show D 0 1 + (6 - D 0 1) = 6 by omega] at this; exact this
  rw [m6] at hB
  have L2 : ∀ j n v, n + j = 6 → v * 10 ^ j = miss D (l + 1) k p (D 0 1) → JS Z X 65 [(4, .int (nI v)), (6, .int (nI n))] [] μ := by
    intro j
    induction j with
    | zero =>
      intro n v hn hv
      have : n = 6 := hn
      subst this
      have hv : v * 10 ^ 0 = _ := hv
      rw [Nat.pow_zero, Nat.mul_one] at hv
      exact bX12_missesAt_65 E (fun _ => bX12_missesAt_85 E hB ⟨_, rfl, by rw [hv], rfl⟩) (fun c => absurd (by decide) c)
    | succ j ih =>
      intro n v hn hv
      refine bX12_missesAt_65 E (fun c => absurd c (by rw [nI_leE (by omega) (by omega)]; omega)) (fun _ => bX12_missesAt_72 E ?_)
      rw [nI_mul, nI_add]
      exact ih (n + 1) (v * 10) (by omega) (by rw [← hv, Nat.pow_succ, Nat.mul_assoc, Nat.mul_comm 10])
  have L1 : ∀ j c v n, c + j = D 0 1 → n ≤ c → v * 10 ^ (6 - n) = miss D (l + 1) k p c → JS Z X 9 [(0, mrf Z), (1, .int (nI l)), (2, .int (nI k)), (3, .int (nI p)), (4, .int (nI v)), (5, .int (nI n)), (6, .int (nI c))] [] μ := by
    intro j
    induction j with
    | zero =>
      intro c v n hc hn hv
      have : c = D 0 1 := hc
      subst this
      refine bX12_missesAt_9 E (vin (by omega) (by omega)) (fun _ => bX12_missesAt_61 E (L2 (6 - n) n v (by omega) hv)) (fun d => absurd (by rw [ix_nI (by omega), h2, nI_leE (by omega) (by omega)]; omega) d)
    | succ j ih =>
      intro c v n hc hn hv
      have h6 := (H.2.2.2.2.2.1 c (by omega)).2.2.2
      rw [show 0 + 148 + c = 148 + c by omega] at h6
      have w6 := (W.2.2.2.2.2.1 c (by omega)).2.2.2
      have e : μ 456 (ix (nI 148 + nI c)) = lotI (D 6 c) := by rw [nI_add, ix_nI (by omega), h6]
      refine bX12_missesAt_9 E (vin (by omega) (by omega)) (fun d => absurd d (by rw [ix_nI (by omega), h2, nI_leE (by omega) (by omega)]; omega)) (fun _ => ?_)
      refine bX12_missesAt_21 E (by rw [nI_add]; exact vin (by omega) (by omega)) (fun d => ?_) (fun d => ?_)
      · rw [e, lotE w6 hl] at d
        refine bX12_missesAt_55 E ?_
        rw [nI_add]
        exact ih (c + 1) v n (by omega) (by omega) (by rw [hv, miss, if_pos (show quick D c (l + 1) k p = 0 from if_neg fun g => d g.2.1)])
      · rw [e, lotE w6 hl] at d
        have ql := quick_le W (c := c) (l := l + 1) (p := p) hk
        refine bX12_missesAt_36 E (m_quickAt H W (by omega) hk hp) fun q μ1 g => ?_
        obtain ⟨rfl, rfl⟩ := g
        refine bX12_missesAt_48 E (bX12_missesAt_55 E ?_)
        rw [d, nI_sub (by omega), nI_mul, nI_add, nI_add]
        refine ih (c + 1) _ (n + 1) (by omega) (by omega) ?_
        have e10 : v * 10 ^ (6 - n) / 10 = v * 10 ^ (6 - (n + 1)) := by
          rw [show 6 - n = (6 - (n + 1)) + 1 by omega, Nat.pow_succ, ← Nat.mul_assoc, Nat.mul_div_cancel _ (by decide)]
        rw [miss, ← hv, e10]
        by_cases z : quick D c (l + 1) k p = 0
        · rw [if_pos z, z, show 6 - n = (6 - (n + 1)) + 1 by omega, Nat.pow_succ, Nat.sub_zero, Nat.mul_right_comm, ← Nat.mul_assoc]
        · rw [if_neg z, Nat.mul_right_comm]
  exact bX12_missesAt_0 E (L1 (D 0 1) 0 1 0 (by omega) (by omega) rfl)
end MISS2
