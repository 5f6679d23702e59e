/-! NOTES -/
def loN (w : Nat) : Nat := [1, 0, 0, 0, 0].getD w 0
def hiN (w : Nat) : Nat := [6, 200, 10, 9, 9].getD w 0
def oPut (D : DD) (w v : Int32) : Int32 × DD := if inN w 5 ∧ nI (loN (ix w)) ≤ v ∧ v ≤ nI (hiN (ix w)) then (nI (D 13 (ix w)), up D 13 (ix w) (ix v)) else (-2, D)
def oReport (D : DD) (k m : Int32) : Int32 × DD := if inN k 4 ∧ nI 1 ≤ m ∧ m ≤ nI 99 then (if D 14 0 = 20 then (-4, D) else (nI (D 14 0 + 1), up (up (up D 15 (D 14 0) (ix k)) 16 (D 14 0) (ix m)) 14 0 (D 14 0 + 1))) else (-2, D)
theorem Int32.of_le {v : Int32} {a b : Nat} (h1 : nI a ≤ v) (h2 : v ≤ nI b) (hb : b < 2147483648) (ha : a < 2147483648) : a ≤ ix v ∧ ix v ≤ b ∧ v = nI (ix v) := by
  have h0 : ¬ v < 0 := fun c => absurd (Int32.lt_of_lt_of_le c (nI_pos' ha)) (fun c2 => by
    have := Int32.lt_of_le_of_lt h1 c2
    exact absurd this Int32.lt_irrefl)
  obtain ⟨j, hj, rfl⟩ := nI_of h0
  rw [ix_nI hj]
  exact ⟨(nI_leI ha hj).mp h1, (nI_leI hj hb).mp h2, rfl⟩
abbrev nR (o : Nat) : List Nat := [o, o + 1, o + 2, o + 3]
abbrev cN (Z : ZT) (μ : Mu) (o : Nat) (R : Int32 × DD) : Option Value → Mu → Prop := rI fun v μ' => v = R.1 ∧ NC μ' o R.2 ∧ Fr (nR o) μ μ'
section NOTES
variable {Z : ZT} {μ : Mu} {o g : Nat} {D : DD}
theorem cN_no {R : Int32 × DD} {v : Int32} (H : NC μ o D) (e : R = (v, D)) : cN Z μ o R (some (.int v)) μ := by
  subst e; exact ⟨_, rfl, rfl, H, Fr.rf⟩
theorem cN_ok {R : Int32 × DD} {v v' : Int32} {D' : DD} {μ' : Mu} (e : R = (v', D')) (hv : v = v') (hH : NC μ' o D') (hF : Fr (nR o) μ μ') : cN Z μ o R (some (.int v)) μ' := by
  subst e; exact ⟨_, rfl, hv, hH, hF⟩
theorem lo_eq {w : Nat} (h : w < 5) : ([1, 0, 0, 0, 0] : List Int32).getD w 0 = nI (loN w) := (show ∀ w, w < 5 → ([1, 0, 0, 0, 0] : List Int32).getD w 0 = nI (loN w) by decide) w h
theorem hi_eq {w : Nat} (h : w < 5) : ([6, 200, 10, 9, 9] : List Int32).getD w 0 = nI (hiN w) := (show ∀ w, w < 5 → ([6, 200, 10, 9, 9] : List Int32).getD w 0 = nI (hiN w) by decide) w h
theorem hi_le {w : Nat} (h : w < 5) : hiN w ≤ 200 := (show ∀ w, w < 5 → hiN w ≤ 200 by decide) w h
theorem lo_le {w : Nat} (h : w < 5) : loN w ≤ 1 := (show ∀ w, w < 5 → loN w ≤ 1 by decide) w h
theorem c_setNumber {w v : Int32} (H : NC μ o D) : CtrS Z mX6_setNumber [rf Z o, .int w, .int v] μ (cN Z μ o (oPut D w v)) := by
  refine CtrS.intro (by decide +kernel) (Nat.le_of_ble_eq_true rfl) rfl fun X E hB => ?_
  have no : ¬ (inN w 5 ∧ nI (loN (ix w)) ≤ v ∧ v ≤ nI (hiN (ix w))) → JS Z X 26 [] [] μ := fun g => bX6_setNumber_26 E hB (cN_no H (by rw [oPut, if_neg g]))
  refine bX6_setNumber_0 E H.1 (c_within (by decide)) fun r μ1 g => ?_
  obtain ⟨rfl, rfl⟩ := g
  refine bX6_setNumber_5 E H.1 (fun c => no fun g => by rw [bz] at c; exact c g.1) (fun c => ?_)
  rw [bz] at c
  have c := Decidable.not_not.mp c
  obtain ⟨ha, ea⟩ := inN_of c (by decide)
  have hin : vp_in w 5 := by rw [ea]; exact vin (by omega) (by omega)
  obtain ⟨h1, h2, h3, h4⟩ := H
  refine bX6_setNumber_8 E h1 hin ?_ ?_
  · rw [lo_eq ha]
    exact fun c2 => no fun g => absurd c2 (Int32.not_lt.mpr g.2.1)
  · rw [lo_eq ha]
    intro c2
    refine bX6_setNumber_17 E h1 hin ?_ ?_
    · rw [hi_eq ha]
      intro c3
      have c2' := Int32.not_lt.mp c2
      have hh := hi_le ha
      have hlo := lo_le ha
      obtain ⟨v1, v2, v3⟩ := Int32.of_le c2' c3 (by omega) (by omega)
      refine bX6_setNumber_29 E h1 hin hin (bX6_setNumber_43 E hB (cN_ok (by rw [oPut, if_pos ⟨c, c2', c3⟩]) (h3 _ ha) ?_ (Fr.uR (by simp))))
      refine ⟨h1, by rw [uR_n (by omega)]; simpa [up] using h2, fun k hk => ?_, ?_⟩
      · rw [uR_s]
        exact upd_at (fun e => by rw [e, up_s]; exact v3) (fun e => by rw [up_i e]; exact h3 k hk)
      · simp (disch := omega) only [uR_n]; simpa [up] using h4
    · rw [hi_eq ha]
      exact fun c3 => no fun g => c3 g.2.2
theorem c_addReport {k m : Int32} (H : NC μ o D) (W : D 14 0 ≤ 20) : CtrS Z mX6_addReport [rf Z o, .int k, .int m] μ (cN Z μ o (oReport D k m)) := by
  refine CtrS.intro (by decide +kernel) (Nat.le_of_ble_eq_true rfl) rfl fun X E hB => ?_
  have no : ¬ (inN k 4 ∧ nI 1 ≤ m ∧ m ≤ nI 99) → JS Z X 19 [] [] μ := fun g => bX6_addReport_19 E hB (cN_no H (by rw [oReport, if_neg g]))
  refine bX6_addReport_0 E H.1 (c_within (by decide)) fun r μ1 g => ?_
  obtain ⟨rfl, rfl⟩ := g
  refine bX6_addReport_5 E H.1 (fun c => no fun g => by rw [bz] at c; exact c g.1) (fun c => ?_)
  rw [bz] at c
  have c := Decidable.not_not.mp c
  obtain ⟨ha, ea⟩ := inN_of c (by decide)
  refine bX6_addReport_8 E H.1 (fun c2 => no fun g => absurd c2 (Int32.not_lt.mpr g.2.1)) (fun c2 => ?_)
  refine bX6_addReport_13 E H.1 (fun c3 => ?_) (fun c3 => no fun g => c3 g.2.2)
  have c2' := Int32.not_lt.mp c2
  obtain ⟨v1, v2, v3⟩ := Int32.of_le c2' c3 (by omega) (by omega)
  have H0 := H
  obtain ⟨h1, h2, h3, h4⟩ := H
  refine bX6_addReport_22 E h1 (fun c4 => ?_) (fun c4 => ?_)
  · rw [h2, nI_ltE (by omega) (by omega)] at c4
    refine bX6_addReport_34 E h1 (by rw [h2]; exact vin (by omega) (by omega)) ?_
    refine bX6_addReport_44 E h1 (by rw [uR_n (by omega), h2]; exact vin (by omega) (by omega)) ?_
    refine bX6_addReport_54 E h1 ?_
    simp (disch := omega) only [uR_s, uR_n]
    rw [h2, ix_nI (by omega), nI_add]
    refine bX6_addReport_64 E hB h1 ?_
    refine cN_ok (by rw [oReport, if_pos ⟨c, c2', c3⟩, if_neg (by omega)]) (by simp (disch := omega) only [uR_s, pk_us]) ?_ (((Fr.uR (by simp)).tr (Fr.uR (by simp))).tr (Fr.uR (by simp)))
    refine ⟨h1, ?_, fun q hq => ?_, fun i hi => ?_⟩
    · simp (disch := omega) only [uR_s, pk_us]; simp [up]
    · simp (disch := omega) only [uR_s, uR_n]; simpa [up] using h3 q hq
    · simp (disch := omega) only [uR_s, uR_n]
      have hi' : i < D 14 0 + 1 := by simpa [up] using hi
      by_cases e : i = D 14 0
      · subst e; rw [pk_us, pk_us]; exact ⟨ea.trans (by simp [up]), v3.trans (by simp [up])⟩
      · rw [pk_un e, pk_un e]
        have := h4 i (by omega)
        exact ⟨by simpa [up, e] using this.1, by simpa [up, e] using this.2⟩
  · rw [h2, nI_ltE (by omega) (by omega)] at c4
    exact bX6_addReport_31 E hB (cN_no H0 (by rw [oReport, if_pos ⟨c, c2', c3⟩, if_pos (by omega)]))
theorem c_ncopy (ho : SH o = .inl 6) (H : NC μ g D) (W : D 14 0 ≤ 20) (hd : o + 3 < g ∨ g + 3 < o) : CtrS Z mX6_copy [rf Z o, rf Z g] μ (rV fun μ' => NC μ' o D ∧ Fr (nR o) μ μ') := by
  refine CtrS.intro (by decide +kernel) (Nat.le_of_ble_eq_true rfl) rfl fun X E hB => ?_
  have hg := H.1
  refine bX6_copy_0 E ho hg (bX6_copy_8 E ho hg (by decide) (by decide) (bX6_copy_22 E ho hg (by decide) (by decide) (bX6_copy_37 E ho hg (by decide) (by decide) (bX6_copy_52 E hB ⟨rfl, ?_, ?_⟩))))
  · obtain ⟨_, h2, h3, h4⟩ := H
    simp (disch := omega) only [uR_s, uR_n, show ix (nI 0) = 0 from rfl, show ix (nI 5) = 5 from rfl, show ix (nI 20) = 20 from rfl]
    refine ⟨ho, ?_, fun k hk => ?_, fun i hi => ?_⟩
    · simp (disch := omega) only [uR_s, uR_n, pk_us]; exact h2
    · simp (disch := omega) only [uR_s, uR_n]
      rw [pk_cpy_in (Nat.zero_le _) (by omega), Nat.zero_add, Nat.sub_zero]; exact h3 k hk
    · simp (disch := omega) only [uR_s, uR_n]
      rw [pk_cpy_in (Nat.zero_le _) (by omega), pk_cpy_in (Nat.zero_le _) (by omega), Nat.zero_add, Nat.sub_zero]; exact h4 i hi
  · exact (((Fr.uR (by simp)).tr (Fr.uR (by simp))).tr (Fr.uR (by simp))).tr (Fr.uR (by simp))
theorem c_ndigest {s : Int64} (H : NC μ o D) (W : D 14 0 ≤ 20) : CtrS Z mX6_digestOnto [rf Z o, .long s] μ (rJ fun v μ' => v = dgs s (nlist D) ∧ μ' = μ) := by
  refine CtrS.intro (by decide +kernel) (Nat.le_of_ble_eq_true rfl) rfl fun X E hB => ?_
  obtain ⟨h1, h2, h3, h4⟩ := H
  have L2 : ∀ k i, i + k = D 14 0 → JS Z X 35 [(0, rf Z o), (3, .long (dgs (dgs s ((List.range 5).map fun k => nI (D 13 k))) ((List.range i).flatMap fun i => [nI (D 15 i), nI (D 16 i)]))), (5, .int (nI i))] [] μ := by
    intro k
    induction k with
    | zero =>
      intro i hi
      have hi' : i = D 14 0 := by omega
      subst hi'
      exact bX6_digestOnto_35 E h1 (fun _ => bX6_digestOnto_80 E hB ⟨_, rfl, by rw [nlist, dgs_app], rfl⟩) (fun c => absurd (by rw [h2, nI_leE (by omega) (by omega)]; omega) c)
    | succ k ih =>
      intro i hi
      have hin : vp_in (nI i) 20 := vin (by omega) (by omega)
      refine bX6_digestOnto_35 E h1 (fun c => absurd c (by rw [h2, nI_leE (by omega) (by omega)]; omega)) (fun _ => ?_)
      refine bX6_digestOnto_44 E h1 hin hin ?_
      rw [ix_nI (by omega), (h4 i (by omega)).1, (h4 i (by omega)).2, nI_add, dg3, dg3, List.append_assoc]
      have := ih (i + 1) (by omega)
      rw [fm_succ] at this
      exact this
  have L1 : ∀ k i, i + k = 5 → JS Z X 5 [(0, rf Z o), (3, .long (dgs s ((List.range i).map fun k => nI (D 13 k)))), (5, .int (nI i))] [] μ := by
    intro k
    induction k with
    | zero =>
      intro i hi
      have : i = 5 := by omega
      subst this
      exact bX6_digestOnto_5 E h1 (fun _ => bX6_digestOnto_32 E h1 (L2 (D 14 0) 0 (by omega))) (fun c => absurd (by decide) c)
    | succ k ih =>
      intro i hi
      refine bX6_digestOnto_5 E h1 (fun c => absurd c (by rw [nI_leE (by omega) (by omega)]; omega)) (fun _ => ?_)
      refine bX6_digestOnto_11 E h1 (vin (by omega) (by omega)) ?_
      rw [ix_nI (by omega), h3 i (by omega), dg3, ← mp_succ (fun k => nI (D 13 k)), nI_add]
      exact ih (i + 1) (by omega)
  exact bX6_digestOnto_0 E h1 (L1 5 0 rfl)
end NOTES
