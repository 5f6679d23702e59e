/-! PUBLIC calls: the simple ones, by program (gen_pub.py) -/
section PUB
variable {Z : ZT} {μ : Mu} {D : DD} {im : Nat → Option DD} {tx : TX} {s : Nat → Int32} {f : Nat × Nat}
abbrev xP (Z : ZT) (μ : Mu) (im : Nat → Option DD) (tx : TX) (s : Nat → Int32) (f : Nat × Nat) (R : Int32 × DD) : Option Value → Mu → Prop := rI fun v μ' => v = R.1 ∧ RepC μ' R.2 im tx (cnt s R.1) f ∧ FrX μ μ'
abbrev yP (Z : ZT) (μ : Mu) (im : Nat → Option DD) (tx : TX) (s : Nat → Int32) (f : Nat × Nat) (R : Int32 × DD) : Option Value → Mu → Prop := rI fun v μ' => v = R.1 ∧ RepM μ' R.2 im tx (cnt s R.1) f ∧ FrY μ μ'
theorem xstep {μ1 μ2 : Mu} {D' : DD} {s' : Nat → Int32} (R : RepC μ D im tx s f) (g1 : HC μ1 1 D') (g2 : Fr (hR 1) μ μ1) (h1 : ST (μ2 72) s') (h2 : Fr [72] μ1 μ2) (hD : ∀ k, 13 ≤ k → D' k = D k) : RepC μ2 D' im tx s' f ∧ FrX μ μ2 := by
  have F : Fr (hR 1 ++ [72]) μ μ2 := (g2.mo (by decide)).tr (h2.mo (by decide))
  refine ⟨R.step F (by decide) (g1.fr fun k hk => h2 _ (by simp; omega)) ((R.2.1.fr fun k hk => F _ (by simp; omega)).congrD fun k h3 _ => hD k h3) h1, fun a ha => F a ?_⟩
  simp; omega
theorem nstep {μ1 μ2 : Mu} {D' : DD} {s' : Nat → Int32} (R : RepC μ D im tx s f) (g1 : NC μ1 27 D') (g2 : Fr (nR 27) μ μ1) (h1 : ST (μ2 72) s') (h2 : Fr [72] μ1 μ2) (hD : ∀ k, k ≤ 12 → D' k = D k) : RepC μ2 D' im tx s' f ∧ FrX μ μ2 := by
  have F : Fr (nR 27 ++ [72]) μ μ2 := (g2.mo (by decide)).tr (h2.mo (by decide))
  refine ⟨R.step F (by decide) ((R.1.fr fun k hk => F _ (by simp; omega)).congrD hD) (g1.fr fun k hk => h2 _ (by simp; omega)) h1, fun a ha => F a ?_⟩
  simp; omega
theorem mstep {μ1 μ2 : Mu} {D' : DD} {s' : Nat → Int32} (R : RepM μ D im tx s f) (O : OkS D im tx) (g1 : HM (μ1 456) 0 D') (g2 : FrA 0 μ μ1) (h1 : ST (μ2 458) s') (h2 : Fr [458] μ1 μ2) (hD : ∀ k, 13 ≤ k → D' k = D k) : RepM μ2 D' im tx s' f ∧ FrY μ μ2 := by
  have e : μ2 456 = μ1 456 := h2 _ (by decide)
  refine ⟨R.step O.2.1 (fun a ha hb => by rw [h2 a (by simpa using hb), g2.1 a ha]) (fun i hi hj => by rw [e]; exact g2.2 i (by omega)) (by rw [e]; exact g1) ((R.2.1.fr O.1.2.2.1 fun i hi hj => by rw [e]; exact g2.2 i (by omega)).congrD fun k h3 _ => hD k h3) h1, fun a ha => ?_⟩
  rw [h2 a (by simp; omega), g2.1 a (by omega)]
theorem oPlace_D : ∀ k, 13 ≤ k → (oPlace D ).2 k = D k := by
  intro k hk
  unfold oPlace
  repeat' split
  all_goals first | rfl | (dsimp only; simp (disch := omega) only [up_ne])
theorem oWay_D {a b n : Int32} : ∀ k, 13 ≤ k → (oWay D a b n).2 k = D k := by
  intro k hk
  unfold oWay
  repeat' split
  all_goals first | rfl | (dsimp only; simp (disch := omega) only [up_ne])
theorem oSees_D {a b : Int32} : ∀ k, 13 ≤ k → (oSees D a b).2 k = D k := by
  intro k hk
  unfold oSees
  repeat' split
  all_goals first | rfl | (dsimp only; simp (disch := omega) only [up_ne])
theorem oChild_D {a b n p q : Int32} : ∀ k, 13 ≤ k → (oChild D a b n p q).2 k = D k := by
  intro k hk
  unfold oChild
  repeat' split
  all_goals first | rfl | (dsimp only; simp (disch := omega) only [up_ne])
theorem oBar_D {a b : Int32} : ∀ k, 13 ≤ k → (oBar D a b).2 k = D k := by
  intro k hk
  unfold oBar
  repeat' split
  all_goals first | rfl | (dsimp only; simp (disch := omega) only [up_ne])
theorem oJoin_D {a b : Int32} : ∀ k, 13 ≤ k → (oJoin D a b).2 k = D k := by
  intro k hk
  unfold oJoin
  repeat' split
  all_goals first | rfl | (dsimp only; simp (disch := omega) only [up_ne])
theorem oSlip_D {a b : Int32} : ∀ k, 13 ≤ k → (oSlip D a b).2 k = D k := by
  intro k hk
  unfold oSlip
  repeat' split
  all_goals first | rfl | (dsimp only; simp (disch := omega) only [up_ne])
theorem oSpare_D {a : Int32} : ∀ k, 13 ≤ k → (oSpare D a).2 k = D k := by
  intro k hk
  unfold oSpare
  repeat' split
  all_goals first | rfl | (dsimp only; simp (disch := omega) only [up_ne])
theorem oMeans_D {a b : Int32} : ∀ k, 13 ≤ k → (oMeans D a b).2 k = D k := by
  intro k hk
  unfold oMeans
  repeat' split
  all_goals first | rfl | (dsimp only; simp (disch := omega) only [up_ne])
theorem oRow_D {a b : Int32} : ∀ k, 13 ≤ k → (oRow D a b).2 k = D k := by
  intro k hk
  unfold oRow
  repeat' split
  all_goals first | rfl | (dsimp only; simp (disch := omega) only [up_ne])
theorem oUnrow_D {a : Int32} : ∀ k, 13 ≤ k → (oUnrow D a).2 k = D k := by
  intro k hk
  unfold oUnrow
  repeat' split
  all_goals first | rfl | (dsimp only; simp (disch := omega) only [up_ne])
theorem oPut_D {a b : Int32} : ∀ k, k ≤ 12 → (oPut D a b).2 k = D k := by
  intro k hk
  unfold oPut
  repeat' split
  all_goals first | rfl | (dsimp only; simp (disch := omega) only [up_ne])
theorem oReport_D {a b : Int32} : ∀ k, k ≤ 12 → (oReport D a b).2 k = D k := by
  intro k hk
  unfold oReport
  repeat' split
  all_goals first | rfl | (dsimp only; simp (disch := omega) only [up_ne])
theorem x_place (R : RepC μ D im tx s f) (O : OkS D im tx) : CtrS Z mX11_place [xrf Z] μ (xP Z μ im tx s f (oPlace D )) := by
  refine CtrS.intro (by decide +kernel) (Nat.le_of_ble_eq_true rfl) rfl fun X E hB => ?_
  refine bX11_place_0 E (c_addPlace R.1 O.1.1) fun v μ1 g => ?_
  obtain ⟨rfl, g1, g2⟩ := g
  refine bX11_place_8 E (c_counted (s := s) (by rw [g2 _ (by decide)]; exact R.2.2.1)) fun v μ2 h => ?_
  obtain ⟨rfl, h1, h2⟩ := h
  exact bX11_place_11 E hB ⟨_, rfl, rfl, xstep R g1 g2 h1 h2 oPlace_D⟩
theorem x_way {a b n : Int32} (R : RepC μ D im tx s f) (O : OkS D im tx) : CtrS Z mX11_way [xrf Z, .int a, .int b, .int n] μ (xP Z μ im tx s f (oWay D a b n)) := by
  refine CtrS.intro (by decide +kernel) (Nat.le_of_ble_eq_true rfl) rfl fun X E hB => ?_
  refine bX11_way_0 E (c_setWay R.1 O.1.1) fun v μ1 g => ?_
  obtain ⟨rfl, g1, g2⟩ := g
  refine bX11_way_11 E (c_counted (s := s) (by rw [g2 _ (by decide)]; exact R.2.2.1)) fun v μ2 h => ?_
  obtain ⟨rfl, h1, h2⟩ := h
  exact bX11_way_14 E hB ⟨_, rfl, rfl, xstep R g1 g2 h1 h2 oWay_D⟩
theorem x_sees {a b : Int32} (R : RepC μ D im tx s f) (O : OkS D im tx) : CtrS Z mX11_sees [xrf Z, .int a, .int b] μ (xP Z μ im tx s f (oSees D a b)) := by
  refine CtrS.intro (by decide +kernel) (Nat.le_of_ble_eq_true rfl) rfl fun X E hB => ?_
  refine bX11_sees_0 E (c_addSight R.1 O.1.1) fun v μ1 g => ?_
  obtain ⟨rfl, g1, g2⟩ := g
  refine bX11_sees_10 E (c_counted (s := s) (by rw [g2 _ (by decide)]; exact R.2.2.1)) fun v μ2 h => ?_
  obtain ⟨rfl, h1, h2⟩ := h
  exact bX11_sees_13 E hB ⟨_, rfl, rfl, xstep R g1 g2 h1 h2 oSees_D⟩
theorem x_bar {a b : Int32} (R : RepC μ D im tx s f) (O : OkS D im tx) : CtrS Z mX11_bar [xrf Z, .int a, .int b] μ (xP Z μ im tx s f (oBar D a b)) := by
  refine CtrS.intro (by decide +kernel) (Nat.le_of_ble_eq_true rfl) rfl fun X E hB => ?_
  refine bX11_bar_0 E (c_addBar R.1 O.1.1) fun v μ1 g => ?_
  obtain ⟨rfl, g1, g2⟩ := g
  refine bX11_bar_10 E (c_counted (s := s) (by rw [g2 _ (by decide)]; exact R.2.2.1)) fun v μ2 h => ?_
  obtain ⟨rfl, h1, h2⟩ := h
  exact bX11_bar_13 E hB ⟨_, rfl, rfl, xstep R g1 g2 h1 h2 oBar_D⟩
theorem x_slip {a b : Int32} (R : RepC μ D im tx s f) (O : OkS D im tx) : CtrS Z mX11_slip [xrf Z, .int a, .int b] μ (xP Z μ im tx s f (oSlip D a b)) := by
  refine CtrS.intro (by decide +kernel) (Nat.le_of_ble_eq_true rfl) rfl fun X E hB => ?_
  refine bX11_slip_0 E (c_addSlip R.1 O.1.1) fun v μ1 g => ?_
  obtain ⟨rfl, g1, g2⟩ := g
  refine bX11_slip_10 E (c_counted (s := s) (by rw [g2 _ (by decide)]; exact R.2.2.1)) fun v μ2 h => ?_
  obtain ⟨rfl, h1, h2⟩ := h
  exact bX11_slip_13 E hB ⟨_, rfl, rfl, xstep R g1 g2 h1 h2 oSlip_D⟩
theorem x_spare {a : Int32} (R : RepC μ D im tx s f) (O : OkS D im tx) : CtrS Z mX11_spare [xrf Z, .int a] μ (xP Z μ im tx s f (oSpare D a)) := by
  refine CtrS.intro (by decide +kernel) (Nat.le_of_ble_eq_true rfl) rfl fun X E hB => ?_
  refine bX11_spare_0 E (c_setSpare R.1 O.1.1) fun v μ1 g => ?_
  obtain ⟨rfl, g1, g2⟩ := g
  refine bX11_spare_9 E (c_counted (s := s) (by rw [g2 _ (by decide)]; exact R.2.2.1)) fun v μ2 h => ?_
  obtain ⟨rfl, h1, h2⟩ := h
  exact bX11_spare_12 E hB ⟨_, rfl, rfl, xstep R g1 g2 h1 h2 oSpare_D⟩
theorem x_means {a b : Int32} (R : RepC μ D im tx s f) (O : OkS D im tx) : CtrS Z mX11_means [xrf Z, .int a, .int b] μ (xP Z μ im tx s f (oMeans D a b)) := by
  refine CtrS.intro (by decide +kernel) (Nat.le_of_ble_eq_true rfl) rfl fun X E hB => ?_
  refine bX11_means_0 E (c_addMistaken R.1 O.1.1) fun v μ1 g => ?_
  obtain ⟨rfl, g1, g2⟩ := g
  refine bX11_means_10 E (c_counted (s := s) (by rw [g2 _ (by decide)]; exact R.2.2.1)) fun v μ2 h => ?_
  obtain ⟨rfl, h1, h2⟩ := h
  exact bX11_means_13 E hB ⟨_, rfl, rfl, xstep R g1 g2 h1 h2 oMeans_D⟩
theorem x_row {a b : Int32} (R : RepC μ D im tx s f) (O : OkS D im tx) : CtrS Z mX11_row [xrf Z, .int a, .int b] μ (xP Z μ im tx s f (oRow D a b)) := by
  refine CtrS.intro (by decide +kernel) (Nat.le_of_ble_eq_true rfl) rfl fun X E hB => ?_
  refine bX11_row_0 E (c_addToRow R.1 O.1.1) fun v μ1 g => ?_
  obtain ⟨rfl, g1, g2⟩ := g
  refine bX11_row_10 E (c_counted (s := s) (by rw [g2 _ (by decide)]; exact R.2.2.1)) fun v μ2 h => ?_
  obtain ⟨rfl, h1, h2⟩ := h
  exact bX11_row_13 E hB ⟨_, rfl, rfl, xstep R g1 g2 h1 h2 oRow_D⟩
theorem x_unrow {a : Int32} (R : RepC μ D im tx s f) (O : OkS D im tx) : CtrS Z mX11_unrow [xrf Z, .int a] μ (xP Z μ im tx s f (oUnrow D a)) := by
  refine CtrS.intro (by decide +kernel) (Nat.le_of_ble_eq_true rfl) rfl fun X E hB => ?_
  refine bX11_unrow_0 E (c_emptyRow R.1 O.1.1) fun v μ1 g => ?_
  obtain ⟨rfl, g1, g2⟩ := g
  refine bX11_unrow_9 E (c_counted (s := s) (by rw [g2 _ (by decide)]; exact R.2.2.1)) fun v μ2 h => ?_
  obtain ⟨rfl, h1, h2⟩ := h
  exact bX11_unrow_12 E hB ⟨_, rfl, rfl, xstep R g1 g2 h1 h2 oUnrow_D⟩
theorem x_put {a b : Int32} (R : RepC μ D im tx s f) (O : OkS D im tx) : CtrS Z mX11_put [xrf Z, .int a, .int b] μ (xP Z μ im tx s f (oPut D a b)) := by
  refine CtrS.intro (by decide +kernel) (Nat.le_of_ble_eq_true rfl) rfl fun X E hB => ?_
  refine bX11_put_0 E (c_setNumber R.2.1) fun v μ1 g => ?_
  obtain ⟨rfl, g1, g2⟩ := g
  refine bX11_put_10 E (c_counted (s := s) (by rw [g2 _ (by decide)]; exact R.2.2.1)) fun v μ2 h => ?_
  obtain ⟨rfl, h1, h2⟩ := h
  exact bX11_put_13 E hB ⟨_, rfl, rfl, nstep R g1 g2 h1 h2 oPut_D⟩
theorem x_report {a b : Int32} (R : RepC μ D im tx s f) (O : OkS D im tx) : CtrS Z mX11_report [xrf Z, .int a, .int b] μ (xP Z μ im tx s f (oReport D a b)) := by
  refine CtrS.intro (by decide +kernel) (Nat.le_of_ble_eq_true rfl) rfl fun X E hB => ?_
  refine bX11_report_0 E (c_addReport R.2.1 O.1.2.2.1) fun v μ1 g => ?_
  obtain ⟨rfl, g1, g2⟩ := g
  refine bX11_report_10 E (c_counted (s := s) (by rw [g2 _ (by decide)]; exact R.2.2.1)) fun v μ2 h => ?_
  obtain ⟨rfl, h1, h2⟩ := h
  exact bX11_report_13 E hB ⟨_, rfl, rfl, nstep R g1 g2 h1 h2 oReport_D⟩
theorem y_place (R : RepM μ D im tx s f) (O : OkS D im tx) : CtrS Z mX12_place [mrf Z] μ (yP Z μ im tx s f (oPlace D )) := by
  refine CtrS.intro (by decide +kernel) (Nat.le_of_ble_eq_true rfl) rfl fun X E hB => ?_
  refine bX12_place_0 E (m_addPlace R.1 O.1.1 (by decide)) fun v μ1 g => ?_
  obtain ⟨rfl, g1, g2⟩ := g
  refine bX12_place_6 E (m_refuse (s := s) (by rw [g2.1 _ (by decide)]; exact R.2.2.1)) fun v μ2 h => ?_
  obtain ⟨rfl, h1, h2⟩ := h
  exact bX12_place_9 E hB ⟨_, rfl, rfl, mstep R O g1 g2 h1 h2 oPlace_D⟩
theorem y_way {a b n : Int32} (R : RepM μ D im tx s f) (O : OkS D im tx) : CtrS Z mX12_way [mrf Z, .int a, .int b, .int n] μ (yP Z μ im tx s f (oWay D a b n)) := by
  refine CtrS.intro (by decide +kernel) (Nat.le_of_ble_eq_true rfl) rfl fun X E hB => ?_
  refine bX12_way_0 E (m_setWay R.1 O.1.1 (by decide)) fun v μ1 g => ?_
  obtain ⟨rfl, g1, g2⟩ := g
  refine bX12_way_9 E (m_refuse (s := s) (by rw [g2.1 _ (by decide)]; exact R.2.2.1)) fun v μ2 h => ?_
  obtain ⟨rfl, h1, h2⟩ := h
  exact bX12_way_12 E hB ⟨_, rfl, rfl, mstep R O g1 g2 h1 h2 oWay_D⟩
theorem y_sees {a b : Int32} (R : RepM μ D im tx s f) (O : OkS D im tx) : CtrS Z mX12_sees [mrf Z, .int a, .int b] μ (yP Z μ im tx s f (oSees D a b)) := by
  refine CtrS.intro (by decide +kernel) (Nat.le_of_ble_eq_true rfl) rfl fun X E hB => ?_
  refine bX12_sees_0 E (m_setSeen R.1 O.1.1 (by decide)) fun v μ1 g => ?_
  obtain ⟨rfl, g1, g2⟩ := g
  refine bX12_sees_8 E (m_refuse (s := s) (by rw [g2.1 _ (by decide)]; exact R.2.2.1)) fun v μ2 h => ?_
  obtain ⟨rfl, h1, h2⟩ := h
  exact bX12_sees_11 E hB ⟨_, rfl, rfl, mstep R O g1 g2 h1 h2 oSees_D⟩
theorem y_bar {a b : Int32} (R : RepM μ D im tx s f) (O : OkS D im tx) : CtrS Z mX12_bar [mrf Z, .int a, .int b] μ (yP Z μ im tx s f (oBar D a b)) := by
  refine CtrS.intro (by decide +kernel) (Nat.le_of_ble_eq_true rfl) rfl fun X E hB => ?_
  refine bX12_bar_0 E (m_setBar R.1 O.1.1 (by decide)) fun v μ1 g => ?_
  obtain ⟨rfl, g1, g2⟩ := g
  refine bX12_bar_8 E (m_refuse (s := s) (by rw [g2.1 _ (by decide)]; exact R.2.2.1)) fun v μ2 h => ?_
  obtain ⟨rfl, h1, h2⟩ := h
  exact bX12_bar_11 E hB ⟨_, rfl, rfl, mstep R O g1 g2 h1 h2 oBar_D⟩
theorem y_slip {a b : Int32} (R : RepM μ D im tx s f) (O : OkS D im tx) : CtrS Z mX12_slip [mrf Z, .int a, .int b] μ (yP Z μ im tx s f (oSlip D a b)) := by
  refine CtrS.intro (by decide +kernel) (Nat.le_of_ble_eq_true rfl) rfl fun X E hB => ?_
  refine bX12_slip_0 E (m_addSlip R.1 O.1.1 (by decide)) fun v μ1 g => ?_
  obtain ⟨rfl, g1, g2⟩ := g
  refine bX12_slip_8 E (m_refuse (s := s) (by rw [g2.1 _ (by decide)]; exact R.2.2.1)) fun v μ2 h => ?_
  obtain ⟨rfl, h1, h2⟩ := h
  exact bX12_slip_11 E hB ⟨_, rfl, rfl, mstep R O g1 g2 h1 h2 oSlip_D⟩
theorem y_means {a b : Int32} (R : RepM μ D im tx s f) (O : OkS D im tx) : CtrS Z mX12_means [mrf Z, .int a, .int b] μ (yP Z μ im tx s f (oMeans D a b)) := by
  refine CtrS.intro (by decide +kernel) (Nat.le_of_ble_eq_true rfl) rfl fun X E hB => ?_
  refine bX12_means_0 E (m_setMeans R.1 O.1.1 (by decide)) fun v μ1 g => ?_
  obtain ⟨rfl, g1, g2⟩ := g
  refine bX12_means_8 E (m_refuse (s := s) (by rw [g2.1 _ (by decide)]; exact R.2.2.1)) fun v μ2 h => ?_
  obtain ⟨rfl, h1, h2⟩ := h
  exact bX12_means_11 E hB ⟨_, rfl, rfl, mstep R O g1 g2 h1 h2 oMeans_D⟩
theorem y_row {a b : Int32} (R : RepM μ D im tx s f) (O : OkS D im tx) : CtrS Z mX12_row [mrf Z, .int a, .int b] μ (yP Z μ im tx s f (oRow D a b)) := by
  refine CtrS.intro (by decide +kernel) (Nat.le_of_ble_eq_true rfl) rfl fun X E hB => ?_
  refine bX12_row_0 E (m_addRow R.1 O.1.1 (by decide)) fun v μ1 g => ?_
  obtain ⟨rfl, g1, g2⟩ := g
  refine bX12_row_8 E (m_refuse (s := s) (by rw [g2.1 _ (by decide)]; exact R.2.2.1)) fun v μ2 h => ?_
  obtain ⟨rfl, h1, h2⟩ := h
  exact bX12_row_11 E hB ⟨_, rfl, rfl, mstep R O g1 g2 h1 h2 oRow_D⟩
end PUB
