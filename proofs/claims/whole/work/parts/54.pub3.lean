/-! PUBLIC calls: count, sign, limb, type, clear -/
section PUB3
variable {Z : ZT} {μ : Mu} {D : DD} {im : Nat → Option DD} {tx : TX} {s : Nat → Int32} {f : Nat × Nat}
def cv (D : DD) (tx : TX) : Nat → Nat
  | 0 => D 0 0
  | 1 => D 0 1
  | 2 => D 0 2
  | 3 => D 11 0
  | 4 => D 11 1
  | 5 => D 14 0
  | _ => tx.1
def oCount (D : DD) (tx : TX) (s : Nat → Int32) (a : Int32) : Int32 × (Nat → Int32) := if inN a 7 then (nI (cv D tx (ix a)), s) else (-2, cnt s (-2))
theorem c_howMany {a : Int32} (R : RepC μ D im tx s f) (h : inN a 7) : CtrS Z mX11_howMany [xrf Z, .int a] μ (rI fun v μ' => v = nI (cv D tx (ix a)) ∧ μ' = μ) := by
  refine CtrS.intro (by decide +kernel) (Nat.le_of_ble_eq_true rfl) rfl fun X E hB => ?_
  obtain ⟨ha, ea⟩ := inN_of h (by decide)
  obtain ⟨k1, k2, k3, k4, k5, k6, k7, k8, k9⟩ := R.1
  refine bX11_howMany_0 E (fun c => ?_) (fun c => ?_) (fun c => ?_) (fun c => ?_) (fun c => ?_) (fun c => ?_) (fun c => ?_)
  · have e : a.toInt = ix a := by
      rw [ea, ix_nI (by omega)]
      exact nI_toInt (by omega)
    have : ix a = 6 := by omega
    rw [this] at hB
    exact bX11_howMany_92 E hB ⟨_, rfl, R.2.2.2.1.1, rfl⟩
  · subst c
    exact bX11_howMany_40 E hB ⟨_, rfl, k2, rfl⟩
  · subst c
    exact bX11_howMany_48 E hB ⟨_, rfl, k3, rfl⟩
  · subst c
    exact bX11_howMany_56 E hB ⟨_, rfl, k4, rfl⟩
  · subst c
    exact bX11_howMany_64 E hB (vin (by omega) (by omega)) ⟨_, rfl, (k9 0 (by decide)).1, rfl⟩
  · subst c
    exact bX11_howMany_74 E hB (vin (by omega) (by omega)) ⟨_, rfl, (k9 1 (by decide)).1, rfl⟩
  · subst c
    exact bX11_howMany_84 E hB ⟨_, rfl, R.2.1.2.1, rfl⟩
theorem x_count {a : Int32} (R : RepC μ D im tx s f) : CtrS Z mX11_count [xrf Z, .int a] μ (rI fun v μ' => v = (oCount D tx s a).1 ∧ RepC μ' D im tx (oCount D tx s a).2 f ∧ FrX μ μ') := by
  refine CtrS.intro (by decide +kernel) (Nat.le_of_ble_eq_true rfl) rfl fun X E hB => ?_
  refine bX11_count_0 E (c_within (n := 7) (by decide)) fun v μ1 g => ?_
  obtain ⟨rfl, rfl⟩ := g
  refine bX11_count_6 E (fun c => ?_) (fun c1 => ?_)
  · have e : oCount D tx s a = (-2, cnt s (-2)) := if_neg fun g => by rw [bz] at c; exact c g
    rw [e] at hB
    refine bX11_count_17 E (c_counted (s := s) R.2.2.1) fun v μ2 h => ?_
    obtain ⟨rfl, h1, h2⟩ := h
    exact bX11_count_23 E hB ⟨_, rfl, rfl, xstep (μ1 := _) R R.1 Fr.rf h1 h2 fun _ _ => rfl⟩
  · rw [bz] at c1
    have c1 := Decidable.not_not.mp c1
    have e : oCount D tx s a = (nI (cv D tx (ix a)), s) := if_pos c1
    rw [e] at hB
    refine bX11_count_9 E (c_howMany R c1) fun v μ2 h => ?_
    obtain ⟨rfl, rfl⟩ := h
    exact bX11_count_14 E (bX11_count_23 E hB ⟨_, rfl, rfl, R, fun _ _ => rfl⟩)
theorem m_countOf {a : Int32} (R : RepM μ D im tx s f) (h : inN a 7) : CtrS Z mX12_countOf [mrf Z, .int a] μ (rI fun v μ' => v = nI (cv D tx (ix a)) ∧ μ' = μ) := by
  refine CtrS.intro (by decide +kernel) (Nat.le_of_ble_eq_true rfl) rfl fun X E hB => ?_
  obtain ⟨ha, ea⟩ := inN_of h (by decide)
  obtain ⟨k1, k2, k3, k4, k5, k6, k7, k8⟩ := R.1
  refine bX12_countOf_0 E (fun c => ?_) (fun c => ?_)
  · refine bX12_countOf_13 E (fun c => ?_) (fun c => ?_)
    · refine bX12_countOf_28 E (fun c => ?_) (fun c => ?_)
      · refine bX12_countOf_44 E (fun c => ?_) (fun c => ?_)
        · refine bX12_countOf_64 E (fun d => ?_) (fun d => ?_)
          · refine bX12_countOf_80 E (bX12_countOf_84 E hB ⟨_, rfl, ?_, rfl⟩)
            rw [ea] at c d
            rw [nI_leE (by omega) (by omega)] at c
            rw [nI_eqE (by omega) (by omega)] at d
            rw [show ix a = 6 by omega]
            exact R.2.2.2.1.1
          · have : a = nI 5 := d
            subst this
            exact bX12_countOf_69 E (vin (by omega) (by omega)) (bX12_countOf_84 E hB ⟨_, rfl, R.2.1.1, rfl⟩)
        · rename_i c0 c1 c2
          have e : ix a = 3 ∨ ix a = 4 := by
            rw [ea] at c0 c1 c2 c
            rw [nI_leE (by omega) (by omega)] at c
            rw [show (0 : Int32) = nI 0 from rfl, nI_eqE (by omega) (by omega)] at c0
            rw [nI_eqE (by omega) (by omega)] at c1
            rw [nI_eqE (by omega) (by omega)] at c2
            omega
          rcases e with e | e <;> rw [e] at ea <;> subst ea
          · exact bX12_countOf_49 E (by rw [nI_add, nI_sub (by omega)]; exact vin (by omega) (by omega)) (bX12_countOf_84 E hB ⟨_, rfl, (k8 0 (by decide)).1, rfl⟩)
          · exact bX12_countOf_49 E (by rw [nI_add, nI_sub (by omega)]; exact vin (by omega) (by omega)) (bX12_countOf_84 E hB ⟨_, rfl, (k8 1 (by decide)).1, rfl⟩)
      · have : a = nI 2 := c
        subst this
        exact bX12_countOf_33 E (vin (by omega) (by omega)) (bX12_countOf_84 E hB ⟨_, rfl, k3, rfl⟩)
    · have : a = nI 1 := c
      subst this
      exact bX12_countOf_18 E (vin (by omega) (by omega)) (bX12_countOf_84 E hB ⟨_, rfl, k2, rfl⟩)
  · have : a = nI 0 := c
    subst this
    exact bX12_countOf_4 E (vin (by omega) (by omega)) (bX12_countOf_84 E hB ⟨_, rfl, k1, rfl⟩)
theorem y_count {a : Int32} (R : RepM μ D im tx s f) (O : OkS D im tx) : CtrS Z mX12_count [mrf Z, .int a] μ (rI fun v μ' => v = (oCount D tx s a).1 ∧ RepM μ' D im tx (oCount D tx s a).2 f ∧ FrY μ μ') := by
  refine CtrS.intro (by decide +kernel) (Nat.le_of_ble_eq_true rfl) rfl fun X E hB => ?_
  refine bX12_count_0 E m_in fun v μ1 g => ?_
  simp only [show (nI 0 ≤ a ∧ a ≤ nI 6) = inN a 7 from in_N (n := 7) (by decide)] at g
  obtain ⟨rfl, rfl⟩ := g
  refine bX12_count_7 E (fun c => ?_) (fun c1 => ?_)
  · have e : oCount D tx s a = (-2, cnt s (-2)) := if_neg fun g => by rw [bz] at c; exact c g
    rw [e] at hB
    refine bX12_count_18 E (m_refuse (s := s) R.2.2.1) fun v μ2 h => ?_
    obtain ⟨rfl, h1, h2⟩ := h
    exact bX12_count_24 E hB ⟨_, rfl, rfl, ystay R O h1 h2⟩
  · rw [bz] at c1
    have c1 := Decidable.not_not.mp c1
    have e : oCount D tx s a = (nI (cv D tx (ix a)), s) := if_pos c1
    rw [e] at hB
    refine bX12_count_10 E (m_countOf R c1) fun v μ2 h => ?_
    obtain ⟨rfl, rfl⟩ := h
    exact bX12_count_15 E (bX12_count_24 E hB ⟨_, rfl, rfl, R, fun _ _ => rfl⟩)
end PUB3
