/-! FRACTION: its constructor (by program) -/
/-- the fraction 0/1 -/
def muF (μ : Mu) : Mu := stu (stu μ 450 0 (nI 1)) 449 1 (nI 1)
theorem i_X2 {Z : ZT} {μ : Mu} {M : Mem} (hz : ∀ a, 73 ≤ a → a ≠ 105 → μ a = fun _ => 0) (hM : M 446 = .inr (2, [.null, .null])) : Ctr Z mX2_init [.ref (Z.2.2.1 + 446)] (446 + 1) (446 + 1 + 4) 52 M (PK Z (muF μ) M 446 (446 + 1 + 4)) := by
  refine CtrK (by decide +kernel) (Nat.le_of_ble_eq_true rfl) rfl fun X E hB => ?_
  refine K_in (μ := μ) hM ?_
  refine J_aload_n E dX2_init_0 rfl ?_
  refine J_oinit (o := 446) E dX2_init_1 w2_176 w1_27 w1_28 (Nat.le_of_ble_eq_true rfl) (Nat.le_of_ble_eq_true rfl) ?_
  refine J_aload_n E dX2_init_4 rfl ?_
  refine J_new (ci := 0) (fs := [.null, .int 0]) E dX2_init_5 rfl uX0 tyX0 tyX0_ok w2_177 w2_11 w1_8 df_X0 (Nat.le_of_ble_eq_true rfl) (Nat.le_of_ble_eq_true rfl) ?_
  refine J_dup E dX2_init_8 rfl ?_
  refine G_callN (μ' := μ) (As := []) (d := 1) (ms := 24) (o := 446) (ci := 2) (q := 0) E dX2_init_9 dX2_init_12 (i_X0 sh447 va_up_s sh448 (hz 448 (by decide) (by decide)) (by rw [(hz 447 (by decide) (by decide))])) kX0_init ⟨(Nat.le_of_ble_eq_true rfl), (Nat.le_of_ble_eq_true rfl)⟩ rfl (by decide) w2_178 w2_13 rfl rfl fs_X2_10 ff_X2_0 rfl (Nat.le_of_ble_eq_true rfl) (Nat.le_of_ble_eq_true rfl) (fun a h _ => BS_ge (Nat.le_trans (Nat.le_of_ble_eq_true rfl) h)) (Nat.le_of_ble_eq_true rfl) (Nat.le_of_ble_eq_true rfl) ?_
  refine J_aload_n E dX2_init_15 rfl ?_
  refine J_new (ci := 0) (fs := [.null, .int 0]) E dX2_init_16 rfl uX0 tyX0 tyX0_ok w2_177 w2_11 w1_8 df_X0 (Nat.le_of_ble_eq_true rfl) (Nat.le_of_ble_eq_true rfl) ?_
  refine J_dup E dX2_init_19 rfl ?_
  refine G_callN (μ' := μ) (As := []) (d := 1) (ms := 24) (o := 446) (ci := 2) (q := 1) E dX2_init_20 dX2_init_23 (i_X0 sh449 va_up_s sh450 (hz 450 (by decide) (by decide)) (by rw [(hz 449 (by decide) (by decide))])) kX0_init ⟨(Nat.le_of_ble_eq_true rfl), (Nat.le_of_ble_eq_true rfl)⟩ rfl (by decide) w2_178 w2_13 rfl rfl fs_X2_16 ff_X2_1 rfl (Nat.le_of_ble_eq_true rfl) (Nat.le_of_ble_eq_true rfl) (fun a h _ => BS_ge (Nat.le_trans (Nat.le_of_ble_eq_true rfl) h)) (Nat.le_of_ble_eq_true rfl) (Nat.le_of_ble_eq_true rfl) ?_
  refine J_aload_n E dX2_init_26 rfl ?_
  refine J_getK (o := 446) (ci := 2) (q := 1) (a := 449) E dX2_init_27 fs_X2_16 (Nat.le_of_ble_eq_true rfl) rfl ?_
  refine J_iconst (v := nI 1) E dX2_init_30 rfl ?_
  refine J.mem (M' := BG Z (va_up (BS Z μ M 446) 446 (.inr (2, [.ref (Z.2.2.1 + 447), .ref (Z.2.2.1 + 449)]))) 449 (fun _ => 0) (nI 0)) (fun a ha => ?_) ?_
  · by_cases a1 : a = 449
    · subst a1
      rw [BG_o, va_up_n (by decide), BS_ge (by decide), WM_obj sh449, hz 449 (by decide) (by decide)]
      rfl
    · by_cases a2 : a = 450
      · subst a2
        rw [show (450 : Nat) = 449 + 1 from rfl, BG_1, va_up_n (by decide), BS_ge (by decide), WM_int sh450, hz 450 (by decide) (by decide)]
      · rw [BG_n a1 a2]
        rfl
  refine J_callV (As := [.int (nI 1)]) (rest := []) E dX2_init_31 (c_setB (o := 449) (by decide)) kX0_set ⟨(Nat.le_of_ble_eq_true rfl), (Nat.le_of_ble_eq_true rfl)⟩ rfl (Nat.le_of_ble_eq_true rfl) (by omega) (by omega) (by omega) (by omega) BG_o rfl w2_179 w2_180 w2_181 (fun r M' hp => ?_)
  obtain ⟨rfl, rfl⟩ := hp
  refine J.cast (n' := 446 + 1 + 4) (k' := 4) (sl' := 52) rfl rfl rfl ?_
  refine J.mem (M' := va_up (BS Z (muF μ) M 446) 446 (.inr (2, [.ref (Z.2.2.1 + 447), .ref (Z.2.2.1 + 449)]))) (fun a ha => ?_) ?_
  · by_cases a1 : a = 449
    · subst a1
      rw [BG_o, va_up_n (by decide), BS_ge (by decide), WM_obj sh449]
      rfl
    · by_cases a2 : a = 450
      · subst a2
        rw [show (450 : Nat) = 449 + 1 from rfl, BG_1, va_up_n (by decide), BS_ge (by decide), WM_int sh450]
        unfold muF
        rw [stu_n (by decide)]
        unfold stu
        rw [uR_s, hz 450 (by decide) (by decide)]
      · rw [BG_n a1 a2]
        by_cases a3 : a = 446
        · subst a3; rw [va_up_s, va_up_s]
        · rw [va_up_n a3, va_up_n a3]
          unfold BS
          split
          · rfl
          · show WMr Z a (μ a) = WMr Z a (muF μ a)
            unfold muF
            rw [stu_n a1, stu_n a2]
  exact J_vret E hB dX2_init_34 rfl (K_out (μ := muF μ) sh446 rfl)
