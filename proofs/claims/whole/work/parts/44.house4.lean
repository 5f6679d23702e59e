/-! HOUSE and NOTES: copies, what makes it empty, numbers, reports, the digest -/
/-- a digest goes on over numbers -/
def dgs (s : Int64) (l : List Int32) : Int64 := l.foldl (fun h v => lN 31 * h + v.toInt64) s
theorem dgs_app (s : Int64) (a b : List Int32) : dgs s (a ++ b) = dgs (dgs s a) b := List.foldl_append
theorem dgs_1 (s : Int64) (v : Int32) : dgs s [v] = lN 31 * s + v.toInt64 := rfl
theorem fm_succ {α : Type} (f : Nat → List α) (n : Nat) : (List.range (n + 1)).flatMap f = (List.range n).flatMap f ++ f n := by
  rw [List.range_succ, List.flatMap_append]; simp
theorem mp_succ {α : Type} (f : Nat → α) (n : Nat) : (List.range (n + 1)).map f = (List.range n).map f ++ [f n] := by
  rw [List.range_succ, List.map_append]; rfl
/-- the numbers of a house, for the digest -/
def hlP (D : DD) (p : Nat) : List Int32 := (List.range p).map (fun q => nI (D 1 (10 * p + q))) ++ [nI (D 2 p)]
def hlC (D : DD) (c : Nat) : List Int32 := nI (D 3 c) :: ((List.range 4).map (fun k => nI (D 4 (4 * c + k))) ++ [nI (D 5 c), lotI (D 6 c)])
def hlS (D : DD) (s : Nat) : List Int32 := [nI (D 7 s), nI (D 8 s), nI (D 9 s), nI (D 10 s)]
def hlR (D : DD) (l : Nat) : List Int32 := (List.range (D 11 l)).map fun i => nI (D 12 (6 * l + i))
def hlist (D : DD) : List Int32 := (List.range (D 0 0)).flatMap (hlP D) ++ ((List.range (D 0 1)).flatMap (hlC D) ++ ((List.range (D 0 2)).flatMap (hlS D) ++ (List.range 2).flatMap (hlR D)))
def nlist (D : DD) : List Int32 := (List.range 5).map (fun k => nI (D 13 k)) ++ (List.range (D 14 0)).flatMap fun i => [nI (D 15 i), nI (D 16 i)]
section HOUSE4
variable {Z : ZT} {μ : Mu} {h g : Nat} {D : DD}
theorem c_fill {o n : Nat} {x : Int32} (ho : SH o = .inr (0, n)) (hn : n < 1000) : CtrS Z mJ7_fill_53178 [rf Z o, .int x] μ (rV fun μ' => (∀ i, i < n → μ' o i = x) ∧ Fr [o] μ μ') := by
  refine CtrS.intro (by decide +kernel) (Nat.le_of_ble_eq_true rfl) rfl fun X E hB => ?_
  have loop : ∀ k i μ1, i + k = n → Fr [o] μ μ1 → (∀ j, j < i → μ1 o j = x) → JS Z X 5 [(0, rf Z o), (1, .int x), (2, .int (nI i)), (3, .int (nI n))] [] μ1 := by
    intro k
    induction k with
    | zero =>
      intro i μ1 hi hF h1
      have : i = n := by omega
      subst this
      exact bJ7_fill_53178_5 E ho (fun _ => bJ7_fill_53178_20 E hB ⟨rfl, h1, hF⟩) (fun c => absurd (by rw [nI_leE (by omega) (by omega)]; omega) c)
    | succ k ih =>
      intro i μ1 hi hF h1
      refine bJ7_fill_53178_5 E ho (fun c => absurd c (by rw [nI_leE (by omega) (by omega)]; omega)) (fun _ => ?_)
      refine bJ7_fill_53178_10 E ho (vin (by omega) (by omega)) (bJ7_fill_53178_14 E ho ?_)
      rw [ix_nI (by omega), nI_add]
      refine ih (i + 1) _ (by omega) (hF.tr (Fr.uR (by simp))) fun j hj => ?_
      rw [uR_s]
      rcases Nat.lt_or_ge j i with e | e
      · rw [pk_un (by omega)]; exact h1 j e
      · have : j = i := by omega
        subst this; rw [pk_us]
  exact bJ7_fill_53178_0 E ho (loop n 0 μ (by omega) Fr.rf fun j hj => absurd hj (Nat.not_lt_zero j))
/-- an empty house -/
def D0 : DD := fun _ _ => 0
theorem WF_0 : WF D0 := by
  refine ⟨by decide, by decide, by decide, fun p q _ _ => ⟨Nat.zero_le 9, rfl, fun _ => rfl⟩, fun p _ => ⟨Nat.zero_lt_one, by simp [D0], fun _ => rfl⟩, fun c hc => absurd hc (Nat.not_lt_zero c), fun c hc => absurd hc (Nat.not_lt_zero c), fun l _ => ⟨Nat.zero_le 6, fun i hi => absurd hi (Nat.not_lt_zero i)⟩⟩
theorem c_empty (ho : SH h = .inl 3) : CtrS Z mX3_empty [rf Z h] μ (rV fun μ' => HC μ' h D0 ∧ Fr (hR h) μ μ') := by
  refine CtrS.intro (by decide +kernel) (Nat.le_of_ble_eq_true rfl) rfl fun X E hB => ?_
  refine bX3_empty_0 E ho (bX3_empty_5 E ho (bX3_empty_10 E ho ?_))
  rw [uR_uR, uR_s, uR_uR, uR_s]
  generalize e0 : uR μ h _ = μ0
  have F0 : Fr (hR h) μ μ0 := e0 ▸ Fr.uR (by simp)
  have z0 : μ0 h 0 = nI 0 := by rw [← e0, uR_s, pk_un (by decide), pk_un (by decide), pk_us]
  have z3 : μ0 h 3 = nI 0 := by rw [← e0, uR_s, pk_un (by decide), pk_us]
  have z8 : μ0 h 8 = nI 0 := by rw [← e0, uR_s, pk_us]
  refine bX3_empty_15 E ho (c_fill (shr_X3_1 ho) (by decide)) fun μ1 g1 => ?_
  refine bX3_empty_23 E ho (c_fill (shr_X3_2 ho) (by decide)) fun μ2 g2 => ?_
  refine bX3_empty_31 E ho (c_fill (shr_X3_13 ho) (by decide)) fun μ3 g3 => ?_
  have k0 : μ3 h = μ0 h := by rw [g3.2 _ (by simp), g2.2 _ (by simp), g1.2 _ (by simp)]
  refine bX3_empty_39 E hB ⟨rfl, ⟨ho, by rw [k0]; exact z0, by rw [k0]; exact z3, by rw [k0]; exact z8, fun i hi => ?_, fun i hi => ?_, fun c hc => absurd hc (Nat.not_lt_zero c), fun c hc => absurd hc (Nat.not_lt_zero c), fun l hl => ⟨?_, fun i hi => absurd hi (Nat.not_lt_zero i)⟩⟩, ?_⟩
  · rw [g3.2 _ (by simp), g2.2 _ (by simp)]; exact g1.1 i hi
  · rw [g3.2 _ (by simp)]; exact g2.1 i hi
  · exact g3.1 l hl
  · exact ((F0.tr (g1.2.mo (by simp))).tr (g2.2.mo (by simp))).tr (g3.2.mo (by simp))
theorem c_copyAll {a b n : Nat} (ha : SH a = .inr (0, n)) (hb : SH b = .inr (0, n)) (hn : n < 1000) : CtrS Z mX3_copyAll [rf Z a, rf Z b] μ (rV fun μ' => (∀ i, i < n → μ' b i = μ a i) ∧ Fr [b] μ μ') := by
  refine CtrS.intro (by decide +kernel) (Nat.le_of_ble_eq_true rfl) rfl fun X E hB => ?_
  have e : (if nI n < nI n then nI n else nI n) = nI n := by split <;> rfl
  refine bX3_copyAll_0 E ha hb (by rw [e]; exact nI_pos (by omega)) (by rw [e, show ix (nI 0) = 0 from rfl, ix_nI (by omega)]; omega) (by rw [e, show ix (nI 0) = 0 from rfl, ix_nI (by omega)]; omega) ?_
  refine bX3_copyAll_14 E hB ⟨rfl, fun i hi => ?_, Fr.uR (by simp)⟩
  rw [e, show ix (nI 0) = 0 from rfl, ix_nI (by omega), uR_s, pk_cpy_in (Nat.zero_le _) (by omega), Nat.zero_add, Nat.sub_zero]
theorem c_hcopy (ho : SH h = .inl 3) (H : HC μ g D) (W : WF D) (hd : h + 12 < g ∨ g + 12 < h) : CtrS Z mX3_copy [rf Z h, rf Z g] μ (rV fun μ' => HC μ' h D ∧ Fr (hR h) μ μ') := by
  refine CtrS.intro (by decide +kernel) (Nat.le_of_ble_eq_true rfl) rfl fun X E hB => ?_
  have hg := H.1
  refine bX3_copy_0 E ho hg (bX3_copy_8 E ho hg (bX3_copy_16 E ho hg ?_))
  simp (disch := omega) only [uR_uR, uR_s, uR_n]
  generalize e0 : uR μ h _ = μ0
  have F0 : Fr [h] μ μ0 := e0 ▸ Fr.uR (by simp)
  have z0 : μ0 h 0 = nI (D 0 0) := by rw [← e0, uR_s, pk_un (by decide), pk_un (by decide), pk_us]; exact H.2.1
  have z3 : μ0 h 3 = nI (D 0 1) := by rw [← e0, uR_s, pk_un (by decide), pk_us]; exact H.2.2.1
  have z8 : μ0 h 8 = nI (D 0 2) := by rw [← e0, uR_s, pk_us]; exact H.2.2.2.1
  refine bX3_copy_24 E ho hg (c_copyAll (shr_X3_1 hg) (shr_X3_1 ho) (by decide)) fun μ1 g1 => ?_
  refine bX3_copy_35 E ho hg (c_copyAll (shr_X3_2 hg) (shr_X3_2 ho) (by decide)) fun μ2 g2 => ?_
  refine bX3_copy_46 E ho hg (c_copyAll (shr_X3_4 hg) (shr_X3_4 ho) (by decide)) fun μ3 g3 => ?_
  refine bX3_copy_57 E ho hg (c_copyAll (shr_X3_5 hg) (shr_X3_5 ho) (by decide)) fun μ4 g4 => ?_
  refine bX3_copy_68 E ho hg (c_copyAll (shr_X3_6 hg) (shr_X3_6 ho) (by decide)) fun μ5 g5 => ?_
  refine bX3_copy_79 E ho hg (c_copyAll (shr_X3_7 hg) (shr_X3_7 ho) (by decide)) fun μ6 g6 => ?_
  refine bX3_copy_90 E ho hg (c_copyAll (shr_X3_9 hg) (shr_X3_9 ho) (by decide)) fun μ7 g7 => ?_
  refine bX3_copy_101 E ho hg (c_copyAll (shr_X3_10 hg) (shr_X3_10 ho) (by decide)) fun μ8 g8 => ?_
  refine bX3_copy_112 E ho hg (c_copyAll (shr_X3_11 hg) (shr_X3_11 ho) (by decide)) fun μ9 g9 => ?_
  refine bX3_copy_123 E ho hg (c_copyAll (shr_X3_12 hg) (shr_X3_12 ho) (by decide)) fun μ10 g10 => ?_
  refine bX3_copy_134 E ho hg (c_copyAll (shr_X3_13 hg) (shr_X3_13 ho) (by decide)) fun μ11 g11 => ?_
  refine bX3_copy_145 E ho hg (c_copyAll (shr_X3_14 hg) (shr_X3_14 ho) (by decide)) fun μ12 g12 => ?_
  have F12 : Fr (hR h) μ μ12 := (((((((((((((F0.mo (by simp)).tr (g1.2.mo (by simp))).tr (g2.2.mo (by simp))).tr (g3.2.mo (by simp))).tr (g4.2.mo (by simp))).tr (g5.2.mo (by simp))).tr (g6.2.mo (by simp))).tr (g7.2.mo (by simp))).tr (g8.2.mo (by simp))).tr (g9.2.mo (by simp))).tr (g10.2.mo (by simp))).tr (g11.2.mo (by simp))).tr (g12.2.mo (by simp)))
  -- what lies at a row that a copy did not write
  have B : ∀ a, a ≠ h + 12 → μ12 a = μ11 a := fun a ha => g12.2 a (by simpa using ha)
  have B11 : ∀ a, a ≠ h + 11 → μ11 a = μ10 a := fun a ha => g11.2 a (by simpa using ha)
  have B10 : ∀ a, a ≠ h + 10 → μ10 a = μ9 a := fun a ha => g10.2 a (by simpa using ha)
  have B9 : ∀ a, a ≠ h + 9 → μ9 a = μ8 a := fun a ha => g9.2 a (by simpa using ha)
  have B8 : ∀ a, a ≠ h + 8 → μ8 a = μ7 a := fun a ha => g8.2 a (by simpa using ha)
  have B7 : ∀ a, a ≠ h + 7 → μ7 a = μ6 a := fun a ha => g7.2 a (by simpa using ha)
  have B6 : ∀ a, a ≠ h + 6 → μ6 a = μ5 a := fun a ha => g6.2 a (by simpa using ha)
  have B5 : ∀ a, a ≠ h + 5 → μ5 a = μ4 a := fun a ha => g5.2 a (by simpa using ha)
  have B4 : ∀ a, a ≠ h + 4 → μ4 a = μ3 a := fun a ha => g4.2 a (by simpa using ha)
  have B3 : ∀ a, a ≠ h + 3 → μ3 a = μ2 a := fun a ha => g3.2 a (by simpa using ha)
  have B2 : ∀ a, a ≠ h + 2 → μ2 a = μ1 a := fun a ha => g2.2 a (by simpa using ha)
  have B1 : ∀ a, a ≠ h + 1 → μ1 a = μ0 a := fun a ha => g1.2 a (by simpa using ha)
  have B0 : ∀ a, a ≠ h → μ0 a = μ a := fun a ha => F0 a (by simpa using ha)
  obtain ⟨_, h2, h3, h4, h5, h6, h7, h8, h9⟩ := H
  have hC := W.2.1
  have hS := W.2.2.1
  have kh : μ12 h = μ0 h := by rw [B _ (by omega), B11 _ (by omega), B10 _ (by omega), B9 _ (by omega), B8 _ (by omega), B7 _ (by omega), B6 _ (by omega), B5 _ (by omega), B4 _ (by omega), B3 _ (by omega), B2 _ (by omega), B1 _ (by omega)]
  refine bX3_copy_156 E hB ⟨rfl, ⟨ho, by rw [kh]; exact z0, by rw [kh]; exact z3, by rw [kh]; exact z8, fun i hi => ?_, fun i hi => ?_, fun c hc => ⟨?_, fun k hk => ?_, ?_, ?_⟩, fun s hs => ⟨?_, ?_, ?_, ?_⟩, fun l hl => ⟨?_, fun i hi => ?_⟩⟩, F12⟩
  · rw [B _ (by omega), B11 _ (by omega), B10 _ (by omega), B9 _ (by omega), B8 _ (by omega), B7 _ (by omega), B6 _ (by omega), B5 _ (by omega), B4 _ (by omega), B3 _ (by omega), B2 _ (by omega), g1.1 i hi, B0 _ (by omega)]; exact h5 i hi
  · rw [B _ (by omega), B11 _ (by omega), B10 _ (by omega), B9 _ (by omega), B8 _ (by omega), B7 _ (by omega), B6 _ (by omega), B5 _ (by omega), B4 _ (by omega), B3 _ (by omega), g2.1 i hi, B1 _ (by omega), B0 _ (by omega)]; exact h6 i hi
  · rw [B _ (by omega), B11 _ (by omega), B10 _ (by omega), B9 _ (by omega), B8 _ (by omega), B7 _ (by omega), B6 _ (by omega), B5 _ (by omega), B4 _ (by omega), g3.1 c (by omega), B2 _ (by omega), B1 _ (by omega), B0 _ (by omega)]; exact (h7 c hc).1
  · rw [B _ (by omega), B11 _ (by omega), B10 _ (by omega), B9 _ (by omega), B8 _ (by omega), B7 _ (by omega), B6 _ (by omega), B5 _ (by omega), g4.1 _ (by omega), B3 _ (by omega), B2 _ (by omega), B1 _ (by omega), B0 _ (by omega)]; exact (h7 c hc).2.1 k hk
  · rw [B _ (by omega), B11 _ (by omega), B10 _ (by omega), B9 _ (by omega), B8 _ (by omega), B7 _ (by omega), B6 _ (by omega), g5.1 c (by omega), B4 _ (by omega), B3 _ (by omega), B2 _ (by omega), B1 _ (by omega), B0 _ (by omega)]; exact (h7 c hc).2.2.1
  · rw [B _ (by omega), B11 _ (by omega), B10 _ (by omega), B9 _ (by omega), B8 _ (by omega), B7 _ (by omega), g6.1 c (by omega), B5 _ (by omega), B4 _ (by omega), B3 _ (by omega), B2 _ (by omega), B1 _ (by omega), B0 _ (by omega)]; exact (h7 c hc).2.2.2
  · rw [B _ (by omega), B11 _ (by omega), B10 _ (by omega), B9 _ (by omega), B8 _ (by omega), g7.1 s (by omega), B6 _ (by omega), B5 _ (by omega), B4 _ (by omega), B3 _ (by omega), B2 _ (by omega), B1 _ (by omega), B0 _ (by omega)]; exact (h8 s hs).1
  · rw [B _ (by omega), B11 _ (by omega), B10 _ (by omega), B9 _ (by omega), g8.1 s (by omega), B7 _ (by omega), B6 _ (by omega), B5 _ (by omega), B4 _ (by omega), B3 _ (by omega), B2 _ (by omega), B1 _ (by omega), B0 _ (by omega)]; exact (h8 s hs).2.1
  · rw [B _ (by omega), B11 _ (by omega), B10 _ (by omega), g9.1 s (by omega), B8 _ (by omega), B7 _ (by omega), B6 _ (by omega), B5 _ (by omega), B4 _ (by omega), B3 _ (by omega), B2 _ (by omega), B1 _ (by omega), B0 _ (by omega)]; exact (h8 s hs).2.2.1
  · rw [B _ (by omega), B11 _ (by omega), g10.1 s (by omega), B9 _ (by omega), B8 _ (by omega), B7 _ (by omega), B6 _ (by omega), B5 _ (by omega), B4 _ (by omega), B3 _ (by omega), B2 _ (by omega), B1 _ (by omega), B0 _ (by omega)]; exact (h8 s hs).2.2.2
  · rw [B _ (by omega), g11.1 l (by omega), B10 _ (by omega), B9 _ (by omega), B8 _ (by omega), B7 _ (by omega), B6 _ (by omega), B5 _ (by omega), B4 _ (by omega), B3 _ (by omega), B2 _ (by omega), B1 _ (by omega), B0 _ (by omega)]; exact (h9 l hl).1
  · have := (W.2.2.2.2.2.2.2 l hl).1
    rw [g12.1 _ (by omega), B11 _ (by omega), B10 _ (by omega), B9 _ (by omega), B8 _ (by omega), B7 _ (by omega), B6 _ (by omega), B5 _ (by omega), B4 _ (by omega), B3 _ (by omega), B2 _ (by omega), B1 _ (by omega), B0 _ (by omega)]; exact (h9 l hl).2 i hi
theorem dg3 (s : Int64) (l : List Int32) (v : Int32) : lN 31 * dgs s l + v.toInt64 = dgs s (l ++ [v]) := by rw [dgs_app, dgs_1]
theorem c_hdigest {s : Int64} (H : HC μ h D) (W : WF D) : CtrS Z mX3_digestOnto [rf Z h, .long s] μ (rJ fun v μ' => v = dgs s (hlist D) ∧ μ' = μ) := by
  refine CtrS.intro (by decide +kernel) (Nat.le_of_ble_eq_true rfl) rfl fun X E hB => ?_
  have hn := W.1
  have hc := W.2.1
  have hs := W.2.2.1
  obtain ⟨h1, h2, h3, h4, h5, h6, h7, h8, h9⟩ := H
  have L4 : ∀ k l t, l + k = 2 → t = dgs (dgs (dgs (dgs s ((List.range (D 0 0)).flatMap (hlP D))) ((List.range (D 0 1)).flatMap (hlC D))) ((List.range (D 0 2)).flatMap (hlS D))) ((List.range l).flatMap (hlR D)) → JS Z X 251 [(0, rf Z h), (3, .long t), (5, .int (nI l))] [] μ := by
    intro k
    induction k with
    | zero =>
      intro l t hl ht
      have : l = 2 := by omega
      subst this
      refine bX3_digestOnto_251 E h1 (fun _ => bX3_digestOnto_305 E hB ⟨_, rfl, ?_, rfl⟩) (fun c => absurd (by decide) c)
      rw [ht, hlist, dgs_app, dgs_app, dgs_app]
    | succ k ih =>
      intro l t hl ht
      have h9l := h9 l (by omega)
      have hl6 := (W.2.2.2.2.2.2.2 l (by omega)).1
      have inner : ∀ k2 i, i + k2 = D 11 l → JS Z X 260 [(0, rf Z h), (3, .long (dgs t ((List.range i).map fun i => nI (D 12 (6 * l + i))))), (5, .int (nI l)), (6, .int (nI i))] [] μ := by
        intro k2
        induction k2 with
        | zero =>
          intro i hi
          have hi' : i = D 11 l := by omega
          subst hi'
          refine bX3_digestOnto_260 E h1 (vin (by omega) (by omega)) (fun _ => ?_) (fun c => absurd (by rw [ix_nI (by omega), h9l.1, nI_leE (by omega) (by omega)]; omega) c)
          refine bX3_digestOnto_299 E h1 ?_
          rw [nI_add]
          exact ih (l + 1) _ (by omega) (by rw [ht, fm_succ, dgs_app _ _ (hlR D l)]; rfl)
        | succ k2 ih2 =>
          intro i hi
          refine bX3_digestOnto_260 E h1 (vin (by omega) (by omega)) (fun c => absurd c (by rw [ix_nI (by omega), h9l.1, nI_leE (by omega) (by omega)]; omega)) (fun _ => ?_)
          refine bX3_digestOnto_272 E h1 (by rw [rw6]; exact vin (by omega) (by omega)) ?_
          rw [rw6, ix_nI (by omega), h9l.2 i (by omega), dg3, ← mp_succ (fun i => nI (D 12 (6 * l + i))), nI_add]
          exact ih2 (i + 1) (by omega)
      refine bX3_digestOnto_251 E h1 (fun c => absurd c (by rw [nI_leE (by omega) (by omega)]; omega)) (fun _ => ?_)
      exact bX3_digestOnto_257 E h1 (inner (D 11 l) 0 (by omega))
  have L3 : ∀ k i t, i + k = D 0 2 → t = dgs (dgs (dgs s ((List.range (D 0 0)).flatMap (hlP D))) ((List.range (D 0 1)).flatMap (hlC D))) ((List.range i).flatMap (hlS D)) → JS Z X 173 [(0, rf Z h), (3, .long t), (5, .int (nI i))] [] μ := by
    intro k
    induction k with
    | zero =>
      intro i t hi ht
      have hi' : i = D 0 2 := by omega
      subst hi'
      exact bX3_digestOnto_173 E h1 (fun _ => bX3_digestOnto_248 E h1 (L4 2 0 t rfl (by rw [ht]; rfl))) (fun c => absurd (by rw [h4, nI_leE (by omega) (by omega)]; omega) c)
    | succ k ih =>
      intro i t hi ht
      have h8i := h8 i (by omega)
      have hin : vp_in (nI i) 8 := vin (by omega) (by omega)
      refine bX3_digestOnto_173 E h1 (fun c => absurd c (by rw [h4, nI_leE (by omega) (by omega)]; omega)) (fun _ => ?_)
      refine bX3_digestOnto_182 E h1 hin hin hin hin ?_
      rw [ix_nI (by omega), h8i.1, h8i.2.1, h8i.2.2.1, h8i.2.2.2, nI_add]
      exact ih (i + 1) _ (by omega) (by rw [fm_succ, dgs_app _ _ (hlS D i), ← ht]; rfl)
  have L2 : ∀ k i t, i + k = D 0 1 → t = dgs (dgs s ((List.range (D 0 0)).flatMap (hlP D))) ((List.range i).flatMap (hlC D)) → JS Z X 75 [(0, rf Z h), (3, .long t), (5, .int (nI i))] [] μ := by
    intro k
    induction k with
    | zero =>
      intro i t hi ht
      have hi' : i = D 0 1 := by omega
      subst hi'
      exact bX3_digestOnto_75 E h1 (fun _ => bX3_digestOnto_170 E h1 (L3 (D 0 2) 0 t (by omega) (by rw [ht]; rfl))) (fun c => absurd (by rw [h3, nI_leE (by omega) (by omega)]; omega) c)
    | succ k ih =>
      intro i t hi ht
      have h7i := h7 i (by omega)
      have hin : vp_in (nI i) 6 := vin (by omega) (by omega)
      have inner : ∀ k2 j, j + k2 = 4 → JS Z X 102 [(0, rf Z h), (3, .long (dgs t (nI (D 3 i) :: (List.range j).map fun k => nI (D 4 (4 * i + k))))), (5, .int (nI i)), (6, .int (nI j))] [] μ := by
        intro k2
        induction k2 with
        | zero =>
          intro j hj
          have : j = 4 := by omega
          subst this
          refine bX3_digestOnto_102 E h1 (fun _ => ?_) (fun c => absurd (by decide) c)
          refine bX3_digestOnto_134 E h1 hin hin ?_
          rw [ix_nI (by omega), h7i.2.2.1, h7i.2.2.2, nI_add, dg3, dg3]
          exact ih (i + 1) _ (by omega) (by rw [fm_succ, dgs_app _ _ (hlC D i), ← ht, hlC]; simp)
        | succ k2 ih2 =>
          intro j hj
          refine bX3_digestOnto_102 E h1 (fun c => absurd c (by rw [nI_leE (by omega) (by omega)]; omega)) (fun _ => ?_)
          refine bX3_digestOnto_108 E h1 (by rw [rw4]; exact vin (by omega) (by omega)) ?_
          rw [rw4, ix_nI (by omega), h7i.2.1 j (by omega), dg3, List.cons_append, ← mp_succ (fun k => nI (D 4 (4 * i + k))), nI_add]
          exact ih2 (j + 1) (by omega)
      refine bX3_digestOnto_75 E h1 (fun c => absurd c (by rw [h3, nI_leE (by omega) (by omega)]; omega)) (fun _ => ?_)
      refine bX3_digestOnto_84 E h1 hin ?_
      rw [ix_nI (by omega), h7i.1]
      exact inner 4 0 rfl
  have L1 : ∀ k i t, i + k = D 0 0 → t = dgs s ((List.range i).flatMap (hlP D)) → JS Z X 5 [(0, rf Z h), (3, .long t), (5, .int (nI i))] [] μ := by
    intro k
    induction k with
    | zero =>
      intro i t hi ht
      have hi' : i = D 0 0 := by omega
      subst hi'
      exact bX3_digestOnto_5 E h1 (fun _ => bX3_digestOnto_72 E h1 (L2 (D 0 1) 0 t (by omega) (by rw [ht]; rfl))) (fun c => absurd (by rw [h2, nI_leE (by omega) (by omega)]; omega) c)
    | succ k ih =>
      intro i t hi ht
      have inner : ∀ k2 j, j + k2 = i → JS Z X 17 [(0, rf Z h), (3, .long (dgs t ((List.range j).map fun q => nI (D 1 (10 * i + q))))), (5, .int (nI i)), (6, .int (nI j))] [] μ := by
        intro k2
        induction k2 with
        | zero =>
          intro j hj
          have : j = i := by omega
          subst this
          refine bX3_digestOnto_17 E h1 (fun _ => ?_) (fun c => absurd (by rw [nI_leE (by omega) (by omega)]; omega) c)
          refine bX3_digestOnto_51 E h1 (vin (by omega) (by omega)) ?_
          rw [ix_nI (by omega), h6 j (by omega), dg3, nI_add]
          exact ih (j + 1) _ (by omega) (by rw [fm_succ, dgs_app _ _ (hlP D j), ← ht]; rfl)
        | succ k2 ih2 =>
          intro j hj
          refine bX3_digestOnto_17 E h1 (fun c => absurd c (by rw [nI_leE (by omega) (by omega)]; omega)) (fun _ => ?_)
          refine bX3_digestOnto_24 E h1 (by rw [rw10]; exact vin (by omega) (by omega)) ?_
          rw [rw10, ix_nI (by omega), h5 _ (by omega), dg3, ← mp_succ (fun q => nI (D 1 (10 * i + q))), nI_add]
          exact ih2 (j + 1) (by omega)
      refine bX3_digestOnto_5 E h1 (fun c => absurd c (by rw [h2, nI_leE (by omega) (by omega)]; omega)) (fun _ => ?_)
      exact bX3_digestOnto_14 E h1 (inner i 0 (by omega))
  exact bX3_digestOnto_0 E h1 (L1 (D 0 0) 0 s (by omega) rfl)
end HOUSE4
