/-! HUNTS: the reference's minute -/
section MISS
variable {Z : ZT} {μ : Mu} {D : DD}
theorem tb0 {x p : Nat} : x / 2 ^ p % 2 = 0 ↔ x.testBit p = false := by
  rw [Nat.testBit_eq_decide_div_mod_eq]
  have := Nat.mod_lt (x / 2 ^ p) (show 0 < 2 by decide)
  simp
theorem m_quickAt {c k p : Nat} (H : HM (μ 456) 0 D) (W : WF D) (hc : c < D 0 1) (hk : k < 4) (hp : p < 10) : CtrS Z mX12_quickAt [mrf Z, .int (nI c), .int (nI k), .int (nI p)] μ (rI fun v μ' => v = nI (quick D c (D 6 c) k p) ∧ μ' = μ) := by
  refine CtrS.intro (by decide +kernel) (Nat.le_of_ble_eq_true rfl) rfl fun X E hB => ?_
  have hn := W.1
  have hC := W.2.1
  have h6 := H.2.2.2.2.2.1 c hc
  have w := W.2.2.2.2.2.1 c hc
  have l5 := lt10 w.2.2.1 hn
  rw [show 0 + 112 + c = 112 + c by omega, show 0 + 142 + c = 142 + c by omega] at h6
  have g4 := h6.2.1 k hk
  rw [show 0 + 118 + (4 * c + k) = 118 + 4 * c + k by omega] at g4
  have bl : (D 5 c) / 2 ^ p % 2 < 2 := Nat.mod_lt _ (by decide)
  have no : ¬ ((D 5 c).testBit p = false ∧ (k = 1 ∨ D 3 c = (if k = 3 then 0 else 1))) → JS Z X 63 [(0, mrf Z), (1, .int (nI c)), (2, .int (nI k))] [] μ := fun n => by
    refine bX12_quickAt_63 E (bX12_quickAt_64 E (fun _ => bX12_quickAt_87 E (bX12_quickAt_88 E hB ⟨_, rfl, ?_, rfl⟩)) (fun c => absurd rfl c))
    rw [show quick D c (D 6 c) k p = 0 from if_neg fun g => n ⟨g.2.2.1, g.2.2.2⟩]
  have yes : ((D 5 c).testBit p = false ∧ (k = 1 ∨ D 3 c = (if k = 3 then 0 else 1))) → JS Z X 59 [(0, mrf Z), (1, .int (nI c)), (2, .int (nI k))] [] μ := fun y => by
    have e : nI 118 + nI 4 * nI c + nI k = nI (118 + 4 * c + k) := by rw [nI_mul, nI_add, nI_add]
    refine bX12_quickAt_59 E (bX12_quickAt_64 E (fun c => absurd c (by decide)) (fun _ => bX12_quickAt_71 E (by rw [e]; exact vin (by omega) (by omega)) (bX12_quickAt_88 E hB ⟨_, rfl, ?_, rfl⟩)))
    rw [e, ix_nI (by omega), g4, show quick D c (D 6 c) k p = D 4 (4 * c + k) from if_pos ⟨hc, rfl, y.1, y.2⟩]
  have bv : ∀ j, j + c < 900 → vp_in (nI j + nI c) 988 := fun j hj => by rw [nI_add]; exact vin (by omega) (by omega)
  refine bX12_quickAt_0 E (bv 142 (by omega)) (fun d => ?_) (fun d => ?_)
  · rw [nI_add, ix_nI (by omega), h6.2.2.1, bit_get (by omega) (by omega), nI_eq0 (by omega), tb0] at d
    exact no fun g => d g.1
  · rw [nI_add, ix_nI (by omega), h6.2.2.1, bit_get (by omega) (by omega), nI_eq0 (by omega), tb0] at d
    have r26 : k = 0 ∨ k = 2 → JS Z X 26 [(0, mrf Z), (1, .int (nI c)), (2, .int (nI k))] [] μ := fun hk2 => by
      refine bX12_quickAt_26 E (bv 112 (by omega)) (fun d2 => ?_) (fun d2 => ?_)
      · rw [nI_add, ix_nI (by omega), h6.1, nI_eqE (by omega) (by omega)] at d2
        refine no fun g => ?_
        rcases g.2 with q | q
        · omega
        · rw [if_neg (by omega)] at q; exact d2 q
      · rw [nI_add, ix_nI (by omega), h6.1, nI_eqE (by omega) (by omega)] at d2
        exact bX12_quickAt_39 E (yes ⟨d, Or.inr (by rw [if_neg (by omega)]; exact d2)⟩)
    refine bX12_quickAt_17 E (fun e => ?_) (fun e => ?_)
    · rw [nI_eq0 (by omega)] at e
      exact r26 (Or.inl e)
    · rw [nI_eq0 (by omega)] at e
      refine bX12_quickAt_21 E (fun e2 => ?_) (fun e2 => ?_)
      · rw [nI_eqE (by omega) (by omega)] at e2
        refine bX12_quickAt_42 E (fun e3 => ?_) (fun e3 => ?_)
        · rw [nI_eqE (by omega) (by omega)] at e3
          exact yes ⟨d, Or.inl (by omega)⟩
        · rw [nI_eqE (by omega) (by omega)] at e3
          refine bX12_quickAt_47 E (bv 112 (by omega)) (fun d2 => ?_) (fun d2 => ?_)
          · rw [nI_add, ix_nI (by omega), h6.1, nI_eq0 (by omega)] at d2
            refine no fun g => ?_
            rcases g.2 with q | q
            · omega
            · rw [if_pos e3] at q; exact d2 q
          · rw [nI_add, ix_nI (by omega), h6.1, nI_eq0 (by omega)] at d2
            exact yes ⟨d, Or.inr (by rw [if_pos e3]; exact d2)⟩
      · rw [nI_eqE (by omega) (by omega)] at e2
        exact r26 (Or.inr e2)
end MISS
