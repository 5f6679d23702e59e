/-! BEGIN: the state with which all begins -/
def muI : Mu := muM muX
/-- an empty house, the numbers as they are at first -/
def DI : DD := fun k i => if k = 13 then (if i = 0 then 4 else if i = 1 then 30 else if i = 2 then 1 else 0) else 0
theorem DI_n {k i : Nat} (h : k ≠ 13) : DI k i = 0 := if_neg h
theorem muI_n {a : Nat} (h1 : a ≠ 456) (h2 : a ≠ 465) : muI a = muX a := by
  unfold muI muM
  rw [stu_n h2, stu_n h1, stu_n h1, stu_n h1]
theorem muI_0 {a : Nat} (h1 : a ≠ 28) (h2 : a ≠ 51) (h3 : a ≠ 68) (h4 : a ≠ 105) (h5 : a ≠ 449) (h6 : a ≠ 450) (h7 : a ≠ 456) (h8 : a ≠ 465) : muI a = fun _ => 0 := by
  rw [muI_n h7 h8, muX_0 h1 h2 h3 h4 h5 h6]
theorem muI_456 : muI 456 = upd (upd (upd (fun _ => 0) 201 (nI 4)) 202 (nI 30)) 203 (nI 1) := by
  unfold muI muM
  rw [stu_n (by decide)]
  unfold stu
  rw [uR_s, uR_s, uR_s, muX_0 (by decide) (by decide) (by decide) (by decide) (by decide) (by decide)]
theorem muI_465 : muI 465 = upd (fun _ => 0) 27 (nI 1) := by
  unfold muI muM
  rw [show ∀ (m : Mu) (i : Nat) (x : Int32), stu m 465 i x 465 = upd (m 465) i x from fun m i x => uR_s, stu_n (by decide), stu_n (by decide), stu_n (by decide), muX_0 (by decide) (by decide) (by decide) (by decide) (by decide) (by decide)]
theorem muI_449 : muI 449 = upd (fun _ => 0) 1 (nI 1) := by rw [muI_n (by decide) (by decide)]; rfl
theorem muI_450 : muI 450 = upd (fun _ => 0) 0 (nI 1) := by rw [muI_n (by decide) (by decide)]; rfl
theorem muI_105 : muI 105 = v8 := by rw [muI_n (by decide) (by decide)]; rfl
theorem muI_28 : muI 28 = vN := by rw [muI_n (by decide) (by decide)]; rfl
theorem nI_00 : (0 : Int32) = nI 0 := rfl
theorem ln_00 {n : Nat} : ln 0 n = 0 := by
  rcases Nat.eq_zero_or_pos (ln 0 n) with h | h
  · exact h
  · exact absurd ((ln_pos (Nat.pow_pos (by decide))).mp h) (by decide)
theorem big0 {μ : Mu} {o : Nat} (hs : SH o = .inl 0) (h0 : μ o = fun _ => 0) (h1 : μ (o + 1) = fun _ => 0) : BigV μ o 0 :=
  ⟨hs, Nat.pow_pos (by decide), fun i _ => by rw [h1, dg_0v]; rfl, by rw [h0, ln_00]; rfl⟩
theorem dg_1 {k : Nat} : dg 1 k = if k = 0 then 1 else 0 := by
  by_cases h : k = 0
  · subst h; rw [if_pos rfl]; exact dg_small (by decide)
  · rw [if_neg h]
    refine dg_zero ?_
    calc 1 < 1073741824 ^ 1 := by decide
      _ ≤ 1073741824 ^ k := Nat.pow_le_pow_right (by decide) (by omega)
theorem ln_1 : ln 1 24 = 1 := by
  have h := ln_top (v := 1) (k := 1) 24 (by decide) (by decide)
  rw [h]
  have h1 : ln 1 1 ≤ 1 := ln_le 1 1
  have h2 : 0 < ln 1 1 := (ln_pos (by decide)).mpr (by decide)
  omega
theorem lt24 {v : Nat} (h : v < 1073741824) : v < 1073741824 ^ 24 := Nat.lt_of_lt_of_le h (by
  calc 1073741824 = 1073741824 ^ 1 := (Nat.pow_one _).symm
    _ ≤ 1073741824 ^ 24 := Nat.pow_le_pow_right (by decide) (by decide))
theorem lt27 {v : Nat} (h : v < 1073741824) : v < 1073741824 ^ 27 := Nat.lt_of_lt_of_le h (by
  calc 1073741824 = 1073741824 ^ 1 := (Nat.pow_one _).symm
    _ ≤ 1073741824 ^ 27 := Nat.pow_le_pow_right (by decide) (by decide))
theorem big449 : BigV muI 449 1 := by
  refine ⟨sh449, lt24 (by decide), fun i hi => ?_, ?_⟩
  · rw [show (449 : Nat) + 1 = 450 from rfl, muI_450, dg_1]
    by_cases h : i = 0
    · subst h; rfl
    · rw [if_neg h, pk_un h]; rfl
  · rw [muI_449, ln_1]; rfl
theorem bigI {o : Nat} (h : SH o = .inl 0) (h9 : o ≠ 449) : BigV muI o 0 := by
  have h93 := big_ge h
  have hlt : o < 454 := SH_all (P := fun o => SH o = .inl 0 → o < 454) (by decide +kernel) h h
  have n1 : o ≠ 105 := fun e => by subst e; rw [sh105] at h; cases h
  have n2 : o ≠ 104 := fun e => by subst e; rw [sh104] at h; cases h
  have n3 : o ≠ 448 := fun e => by subst e; rw [sh448] at h; cases h
  have n4 : o ≠ 450 := fun e => by subst e; rw [sh450] at h; cases h
  exact big0 h (muI_0 (by omega) (by omega) (by omega) n1 h9 n4 (by omega) (by omega)) (muI_0 (by omega) (by omega) (by omega) (by omega) (by omega) (by omega) (by omega) (by omega))
theorem scI : SC muI := by
  refine ⟨fun o ho => ?_, Or.inl ?_, bigI sh298 (by decide), fun c hc => bigI ?_ ?_⟩
  · by_cases h : o = 449
    · subst h; exact ⟨1, big449⟩
    · exact ⟨0, bigI ho h⟩
  · rw [muI_105]; exact ⟨rfl, rfl⟩
  · exact (show ∀ c, c < 6 → SH (el 297 c) = .inl 0 by decide +kernel) c hc
  · exact (show ∀ c, c < 6 → el 297 c ≠ 449 by decide +kernel) c hc
theorem num_I : ∀ k, k < 5 → vN k = nI (DI 13 k) := by decide +kernel
theorem okI : OkS DI (fun _ => none) (0, fun _ => 0) :=
  ⟨⟨WF_0.congrD fun k hk => funext fun i => DI_n (by omega), ⟨by decide, by decide, fun i hi => absurd hi (Nat.not_lt_zero i)⟩⟩, fun i E _ h => (by cases h), Nat.zero_le _, fun i hi => absurd hi (Nat.not_lt_zero i)⟩
theorem repC_I : RepC muI DI (fun _ => none) (0, fun _ => 0) (fun _ => 0) (0, 1) := by
  have z : ∀ a, a ≠ 28 → a ≠ 51 → a ≠ 68 → a ≠ 105 → a ≠ 449 → a ≠ 450 → a ≠ 456 → a ≠ 465 → ∀ i, muI a i = nI 0 := fun a h1 h2 h3 h4 h5 h6 h7 h8 i => by rw [muI_0 h1 h2 h3 h4 h5 h6 h7 h8]; rfl
  have dz : ∀ k i, k ≠ 13 → nI (DI k i) = nI 0 := fun k i h => by rw [DI_n h]
  refine ⟨⟨sh1, ?_, ?_, ?_, fun i hi => ?_, fun i hi => ?_, fun c hc => absurd hc (Nat.not_lt_zero c), fun c hc => absurd hc (Nat.not_lt_zero c), fun l hl => ⟨?_, fun i hi => absurd hi (Nat.not_lt_zero i)⟩⟩, ⟨sh27, ?_, fun k hk => ?_, fun i hi => absurd hi (Nat.not_lt_zero i)⟩, fun i hi => ?_, ⟨?_, fun i hi => absurd hi (Nat.not_lt_zero i)⟩, ⟨bigI sh447 (by decide), big449⟩, fun i hi => ⟨?_, fun E hE => (by cases hE)⟩, scI⟩
  · rw [dz _ _ (by decide)]; exact z 1 (by decide) (by decide) (by decide) (by decide) (by decide) (by decide) (by decide) (by decide) _
  · rw [dz _ _ (by decide)]; exact z 1 (by decide) (by decide) (by decide) (by decide) (by decide) (by decide) (by decide) (by decide) _
  · rw [dz _ _ (by decide)]; exact z 1 (by decide) (by decide) (by decide) (by decide) (by decide) (by decide) (by decide) (by decide) _
  · rw [dz _ _ (by decide)]; exact z 2 (by decide) (by decide) (by decide) (by decide) (by decide) (by decide) (by decide) (by decide) _
  · rw [dz _ _ (by decide)]; exact z 3 (by decide) (by decide) (by decide) (by decide) (by decide) (by decide) (by decide) (by decide) _
  · rw [dz _ _ (by decide)]; exact z 12 (by decide) (by decide) (by decide) (by decide) (by decide) (by decide) (by decide) (by decide) _
  · rw [dz _ _ (by decide)]; exact z 27 (by decide) (by decide) (by decide) (by decide) (by decide) (by decide) (by decide) (by decide) _
  · rw [show (27 : Nat) + 1 = 28 from rfl, muI_28]; exact num_I k hk
  · exact z 72 (by decide) (by decide) (by decide) (by decide) (by decide) (by decide) (by decide) (by decide) i
  · exact z 31 (by decide) (by decide) (by decide) (by decide) (by decide) (by decide) (by decide) (by decide) 1
  · exact z 71 (by decide) (by decide) (by decide) (by decide) (by decide) (by decide) (by decide) (by decide) i
theorem repM_I : RepM muI DI (fun _ => none) (0, fun _ => 0) (fun _ => 0) (0, 1) := by
  have z : ∀ a, a ≠ 28 → a ≠ 51 → a ≠ 68 → a ≠ 105 → a ≠ 449 → a ≠ 450 → a ≠ 456 → a ≠ 465 → ∀ i, muI a i = nI 0 := fun a h1 h2 h3 h4 h5 h6 h7 h8 i => by rw [muI_0 h1 h2 h3 h4 h5 h6 h7 h8]; rfl
  have dz : ∀ k i, k ≠ 13 → nI (DI k i) = nI 0 := fun k i h => by rw [DI_n h]
  have a0 : ∀ i, i ≠ 201 → i ≠ 202 → i ≠ 203 → muI 456 i = nI 0 := fun i h1 h2 h3 => by rw [muI_456, pk_un h3, pk_un h2, pk_un h1]; rfl
  refine ⟨⟨?_, ?_, ?_, fun p q hp => absurd hp (Nat.not_lt_zero p), fun p hp => absurd hp (Nat.not_lt_zero p), fun c hc => absurd hc (Nat.not_lt_zero c), fun c hc => absurd hc (Nat.not_lt_zero c), fun l hl => ⟨?_, fun i hi => absurd hi (Nat.not_lt_zero i)⟩⟩, ⟨?_, fun k hk => ?_, fun i hi => absurd hi (Nat.not_lt_zero i)⟩, fun i hi => ?_, ⟨?_, fun i hi => absurd hi (Nat.not_lt_zero i)⟩, ⟨⟨lt27 (by decide), fun k hk => ?_⟩, ⟨lt27 (by decide), fun k hk => ?_⟩, ?_⟩, fun i hi => ⟨?_, fun E hE => (by cases hE)⟩⟩
  · rw [dz _ _ (by decide)]; exact a0 0 (by decide) (by decide) (by decide)
  · rw [dz _ _ (by decide)]; exact a0 111 (by decide) (by decide) (by decide)
  · rw [dz _ _ (by decide)]; exact a0 154 (by decide) (by decide) (by decide)
  · rw [dz _ _ (by decide)]; exact a0 (0 + 187 + l) (by omega) (by omega) (by omega)
  · rw [dz _ _ (by decide)]; exact a0 206 (by decide) (by decide) (by decide)
  · rw [muI_456]
    rcases (show k = 0 ∨ k = 1 ∨ k = 2 ∨ k = 3 ∨ k = 4 by omega) with rfl | rfl | rfl | rfl | rfl <;> decide +kernel
  · exact z 458 (by decide) (by decide) (by decide) (by decide) (by decide) (by decide) (by decide) (by decide) i
  · exact z 455 (by decide) (by decide) (by decide) (by decide) (by decide) (by decide) (by decide) (by decide) 4
  · rw [dg_0v, muI_465, pk_un (by omega)]; rfl
  · rw [dg_1, muI_465]
    by_cases h : k = 0
    · subst h; rfl
    · rw [if_neg h, pk_un (by omega)]; rfl
  · exact z 455 (by decide) (by decide) (by decide) (by decide) (by decide) (by decide) (by decide) (by decide) 19
  · exact z 457 (by decide) (by decide) (by decide) (by decide) (by decide) (by decide) (by decide) (by decide) i
theorem invI : Inv muI := ⟨_, _, _, _, _, repC_I, repM_I, okI⟩
