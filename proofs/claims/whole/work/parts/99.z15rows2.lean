/-! ROWS: Choice (by program) -/
theorem SHN_294 {i : Nat} (h : i < 24) : SH (300 + 2 * i) = .inl 0 := (show ∀ i, i < 24 → SH (300 + 2 * i) = .inl 0 by decide +kernel) i h
theorem SHN_296 {i : Nat} (h : i < 7) : SH (348 + 2 * i) = .inl 0 := (show ∀ i, i < 7 → SH (348 + 2 * i) = .inl 0 by decide +kernel) i h
theorem SHN_297 {i : Nat} (h : i < 42) : SH (362 + 2 * i) = .inl 0 := (show ∀ i, i < 42 → SH (362 + 2 * i) = .inl 0 by decide +kernel) i h
theorem i_X1 {Z : ZT} {μ : Mu} {M : Mem} (hz : ∀ a, 73 ≤ a → a ≠ 105 → μ a = fun _ => 0) (hM : M 285 = .inr (1, [.null, .null, .null, .null, .null, .null, .null, .null, .null, .null, .null, .null])) : Ctr Z mX1_init [.ref (Z.2.2.1 + 285), .ref (Z.2.2.1 + 1), .ref (Z.2.2.1 + 92)] (285 + 1) (285 + 1 + 160) 2231 M (PK Z μ M 285 (285 + 1 + 160)) := by
  refine CtrK (by decide +kernel) (Nat.le_of_ble_eq_true rfl) rfl fun X E hB => ?_
  refine K_in (μ := μ) hM ?_
  refine J_aload_n E dX1_init_0 rfl ?_
  refine J_oinit (o := 285) E dX1_init_1 w2_129 w1_27 w1_28 (Nat.le_of_ble_eq_true rfl) (Nat.le_of_ble_eq_true rfl) ?_
  refine J_aload_n E dX1_init_4 rfl ?_
  refine J_bipush (v := nI 6) E dX1_init_5 (by decide +kernel) ?_
  refine G_int (N := 6) (o := 285) (ci := 1) (q := 2) E dX1_init_7 dX1_init_9 wac_int (by decide) fs_X1_9 ff_X1_2 rfl (Nat.le_of_ble_eq_true rfl) (Nat.le_of_ble_eq_true rfl) (BS_int (Nat.le_of_ble_eq_true rfl) sh286 (hz 286 (by decide) (by decide))) (Nat.le_of_ble_eq_true rfl) (Nat.le_of_ble_eq_true rfl) ?_
  show J Z X 287 1 6 12 [(0, .ref (Z.2.2.1 + 285)), (1, .ref (Z.2.2.1 + 1)), (2, .ref (Z.2.2.1 + 92))] [] (va_up (BS Z μ M 285) 285 (.inr (1, [.null, .null, .ref (Z.2.2.1 + 286), .null, .null, .null, .null, .null, .null, .null, .null, .null])))
  refine J_aload_n E dX1_init_12 rfl ?_
  refine J_new (ci := 0) (fs := [.null, .int 0]) E dX1_init_13 rfl uX0 tyX0 tyX0_ok w2_130 w2_11 w1_8 df_X0 (Nat.le_of_ble_eq_true rfl) (Nat.le_of_ble_eq_true rfl) ?_
  refine J_dup E dX1_init_16 rfl ?_
  refine G_callN (μ' := μ) (As := []) (d := 1) (ms := 24) (o := 285) (ci := 1) (q := 3) E dX1_init_17 dX1_init_20 (i_X0 sh287 va_up_s sh288 (hz 288 (by decide) (by decide)) (by rw [(hz 287 (by decide) (by decide))])) kX0_init ⟨(Nat.le_of_ble_eq_true rfl), (Nat.le_of_ble_eq_true rfl)⟩ rfl (by decide) w2_131 w2_13 rfl rfl fs_X1_18 ff_X1_3 rfl (Nat.le_of_ble_eq_true rfl) (Nat.le_of_ble_eq_true rfl) (fun a h _ => by exact BS_ge (by omega)) (Nat.le_of_ble_eq_true rfl) (Nat.le_of_ble_eq_true rfl) ?_
  show J Z X 289 3 32 23 [(0, .ref (Z.2.2.1 + 285)), (1, .ref (Z.2.2.1 + 1)), (2, .ref (Z.2.2.1 + 92))] [] (va_up (BS Z μ M 285) 285 (.inr (1, [.null, .null, .ref (Z.2.2.1 + 286), .ref (Z.2.2.1 + 287), .null, .null, .null, .null, .null, .null, .null, .null])))
  refine J_aload_n E dX1_init_23 rfl ?_
  refine J_new (ci := 0) (fs := [.null, .int 0]) E dX1_init_24 rfl uX0 tyX0 tyX0_ok w2_130 w2_11 w1_8 df_X0 (Nat.le_of_ble_eq_true rfl) (Nat.le_of_ble_eq_true rfl) ?_
  refine J_dup E dX1_init_27 rfl ?_
  refine G_callN (μ' := μ) (As := []) (d := 1) (ms := 24) (o := 285) (ci := 1) (q := 4) E dX1_init_28 dX1_init_31 (i_X0 sh289 va_up_s sh290 (hz 290 (by decide) (by decide)) (by rw [(hz 289 (by decide) (by decide))])) kX0_init ⟨(Nat.le_of_ble_eq_true rfl), (Nat.le_of_ble_eq_true rfl)⟩ rfl (by decide) w2_131 w2_13 rfl rfl fs_X1_22 ff_X1_4 rfl (Nat.le_of_ble_eq_true rfl) (Nat.le_of_ble_eq_true rfl) (fun a h _ => by exact BS_ge (by omega)) (Nat.le_of_ble_eq_true rfl) (Nat.le_of_ble_eq_true rfl) ?_
  show J Z X 291 5 58 34 [(0, .ref (Z.2.2.1 + 285)), (1, .ref (Z.2.2.1 + 1)), (2, .ref (Z.2.2.1 + 92))] [] (va_up (BS Z μ M 285) 285 (.inr (1, [.null, .null, .ref (Z.2.2.1 + 286), .ref (Z.2.2.1 + 287), .ref (Z.2.2.1 + 289), .null, .null, .null, .null, .null, .null, .null])))
  refine J_aload_n E dX1_init_34 rfl ?_
  refine J_new (ci := 0) (fs := [.null, .int 0]) E dX1_init_35 rfl uX0 tyX0 tyX0_ok w2_130 w2_11 w1_8 df_X0 (Nat.le_of_ble_eq_true rfl) (Nat.le_of_ble_eq_true rfl) ?_
  refine J_dup E dX1_init_38 rfl ?_
  refine G_callN (μ' := μ) (As := []) (d := 1) (ms := 24) (o := 285) (ci := 1) (q := 5) E dX1_init_39 dX1_init_42 (i_X0 sh291 va_up_s sh292 (hz 292 (by decide) (by decide)) (by rw [(hz 291 (by decide) (by decide))])) kX0_init ⟨(Nat.le_of_ble_eq_true rfl), (Nat.le_of_ble_eq_true rfl)⟩ rfl (by decide) w2_131 w2_13 rfl rfl fs_X1_25 ff_X1_5 rfl (Nat.le_of_ble_eq_true rfl) (Nat.le_of_ble_eq_true rfl) (fun a h _ => by exact BS_ge (by omega)) (Nat.le_of_ble_eq_true rfl) (Nat.le_of_ble_eq_true rfl) ?_
  show J Z X 293 7 84 45 [(0, .ref (Z.2.2.1 + 285)), (1, .ref (Z.2.2.1 + 1)), (2, .ref (Z.2.2.1 + 92))] [] (va_up (BS Z μ M 285) 285 (.inr (1, [.null, .null, .ref (Z.2.2.1 + 286), .ref (Z.2.2.1 + 287), .ref (Z.2.2.1 + 289), .ref (Z.2.2.1 + 291), .null, .null, .null, .null, .null, .null])))
  refine J_aload_n E dX1_init_45 rfl ?_
  refine J_bipush (v := nI 6) E dX1_init_46 (by decide +kernel) ?_
  refine G_int (N := 6) (o := 285) (ci := 1) (q := 6) E dX1_init_48 dX1_init_50 wac_int (by decide) fs_X1_28 ff_X1_6 rfl (Nat.le_of_ble_eq_true rfl) (Nat.le_of_ble_eq_true rfl) (BS_int (Nat.le_of_ble_eq_true rfl) sh293 (hz 293 (by decide) (by decide))) (Nat.le_of_ble_eq_true rfl) (Nat.le_of_ble_eq_true rfl) ?_
  show J Z X 294 8 90 53 [(0, .ref (Z.2.2.1 + 285)), (1, .ref (Z.2.2.1 + 1)), (2, .ref (Z.2.2.1 + 92))] [] (va_up (BS Z μ M 285) 285 (.inr (1, [.null, .null, .ref (Z.2.2.1 + 286), .ref (Z.2.2.1 + 287), .ref (Z.2.2.1 + 289), .ref (Z.2.2.1 + 291), .ref (Z.2.2.1 + 293), .null, .null, .null, .null, .null])))
  refine J_aload_n E dX1_init_53 rfl ?_
  refine J_bipush (v := nI 24) E dX1_init_54 (by decide +kernel) ?_
  refine G_refs (N := 24) (o := 285) (ci := 1) (q := 7) E dX1_init_56 dX1_init_59 w2_130 (by decide) fs_X1_31 ff_X1_7 rfl (Nat.le_of_ble_eq_true rfl) (Nat.le_of_ble_eq_true rfl) (Nat.le_of_ble_eq_true rfl) (Nat.le_of_ble_eq_true rfl) ?_
  rw [← Fl_0 (Z := Z) (a := 294)]
  show J Z X 295 9 114 62 [(0, .ref (Z.2.2.1 + 285)), (1, .ref (Z.2.2.1 + 1)), (2, .ref (Z.2.2.1 + 92))] [] (va_up (va_up (BS Z μ M 285) 294 (rfs Z 24 (Fl Z 294 0))) 285 (.inr (1, [.null, .null, .ref (Z.2.2.1 + 286), .ref (Z.2.2.1 + 287), .ref (Z.2.2.1 + 289), .ref (Z.2.2.1 + 291), .ref (Z.2.2.1 + 293), .ref (Z.2.2.1 + 294), .null, .null, .null, .null])))
  refine J_aload_n E dX1_init_62 rfl ?_
  refine J_sipush (v := nI 144) E dX1_init_63 (by decide +kernel) ?_
  refine G_int (N := 144) (o := 285) (ci := 1) (q := 8) E dX1_init_66 dX1_init_68 wac_int (by decide) fs_X1_35 ff_X1_8 rfl (Nat.le_of_ble_eq_true rfl) (Nat.le_of_ble_eq_true rfl) (by rw [va_up_n (by decide)]; exact BS_int (Nat.le_of_ble_eq_true rfl) sh295 (hz 295 (by decide) (by decide))) (Nat.le_of_ble_eq_true rfl) (Nat.le_of_ble_eq_true rfl) ?_
  show J Z X 296 10 258 71 [(0, .ref (Z.2.2.1 + 285)), (1, .ref (Z.2.2.1 + 1)), (2, .ref (Z.2.2.1 + 92))] [] (va_up (va_up (BS Z μ M 285) 294 (rfs Z 24 (Fl Z 294 0))) 285 (.inr (1, [.null, .null, .ref (Z.2.2.1 + 286), .ref (Z.2.2.1 + 287), .ref (Z.2.2.1 + 289), .ref (Z.2.2.1 + 291), .ref (Z.2.2.1 + 293), .ref (Z.2.2.1 + 294), .ref (Z.2.2.1 + 295), .null, .null, .null])))
  refine J_aload_n E dX1_init_71 rfl ?_
  refine J_bipush (v := nI 7) E dX1_init_72 (by decide +kernel) ?_
  refine G_refs (N := 7) (o := 285) (ci := 1) (q := 9) E dX1_init_74 dX1_init_77 w2_130 (by decide) fs_X1_38 ff_X1_9 rfl (Nat.le_of_ble_eq_true rfl) (Nat.le_of_ble_eq_true rfl) (Nat.le_of_ble_eq_true rfl) (Nat.le_of_ble_eq_true rfl) ?_
  rw [← Fl_0 (Z := Z) (a := 296)]
  show J Z X 297 11 265 80 [(0, .ref (Z.2.2.1 + 285)), (1, .ref (Z.2.2.1 + 1)), (2, .ref (Z.2.2.1 + 92))] [] (va_up (va_up (va_up (BS Z μ M 285) 294 (rfs Z 24 (Fl Z 294 0))) 296 (rfs Z 7 (Fl Z 296 0))) 285 (.inr (1, [.null, .null, .ref (Z.2.2.1 + 286), .ref (Z.2.2.1 + 287), .ref (Z.2.2.1 + 289), .ref (Z.2.2.1 + 291), .ref (Z.2.2.1 + 293), .ref (Z.2.2.1 + 294), .ref (Z.2.2.1 + 295), .ref (Z.2.2.1 + 296), .null, .null])))
  refine J_aload_n E dX1_init_80 rfl ?_
  refine J_bipush (v := nI 42) E dX1_init_81 (by decide +kernel) ?_
  refine G_refs (N := 42) (o := 285) (ci := 1) (q := 10) E dX1_init_83 dX1_init_86 w2_130 (by decide) fs_X1_41 ff_X1_10 rfl (Nat.le_of_ble_eq_true rfl) (Nat.le_of_ble_eq_true rfl) (Nat.le_of_ble_eq_true rfl) (Nat.le_of_ble_eq_true rfl) ?_
  rw [← Fl_0 (Z := Z) (a := 297)]
  show J Z X 298 12 307 89 [(0, .ref (Z.2.2.1 + 285)), (1, .ref (Z.2.2.1 + 1)), (2, .ref (Z.2.2.1 + 92))] [] (va_up (va_up (va_up (va_up (BS Z μ M 285) 294 (rfs Z 24 (Fl Z 294 0))) 296 (rfs Z 7 (Fl Z 296 0))) 297 (rfs Z 42 (Fl Z 297 0))) 285 (.inr (1, [.null, .null, .ref (Z.2.2.1 + 286), .ref (Z.2.2.1 + 287), .ref (Z.2.2.1 + 289), .ref (Z.2.2.1 + 291), .ref (Z.2.2.1 + 293), .ref (Z.2.2.1 + 294), .ref (Z.2.2.1 + 295), .ref (Z.2.2.1 + 296), .ref (Z.2.2.1 + 297), .null])))
  refine J_aload_n E dX1_init_89 rfl ?_
  refine J_new (ci := 0) (fs := [.null, .int 0]) E dX1_init_90 rfl uX0 tyX0 tyX0_ok w2_130 w2_11 w1_8 df_X0 (Nat.le_of_ble_eq_true rfl) (Nat.le_of_ble_eq_true rfl) ?_
  refine J_dup E dX1_init_93 rfl ?_
  refine G_callN (μ' := μ) (As := []) (d := 1) (ms := 24) (o := 285) (ci := 1) (q := 11) E dX1_init_94 dX1_init_97 (i_X0 sh298 va_up_s sh299 (hz 299 (by decide) (by decide)) (by rw [(hz 298 (by decide) (by decide))])) kX0_init ⟨(Nat.le_of_ble_eq_true rfl), (Nat.le_of_ble_eq_true rfl)⟩ rfl (by decide) w2_131 w2_13 rfl rfl fs_X1_44 ff_X1_11 rfl (Nat.le_of_ble_eq_true rfl) (Nat.le_of_ble_eq_true rfl) (fun a h _ => by rw [va_up_n (by omega), va_up_n (by omega), va_up_n (by omega)]; exact BS_ge (by omega)) (Nat.le_of_ble_eq_true rfl) (Nat.le_of_ble_eq_true rfl) ?_
  show J Z X 300 14 333 100 [(0, .ref (Z.2.2.1 + 285)), (1, .ref (Z.2.2.1 + 1)), (2, .ref (Z.2.2.1 + 92))] [] (va_up (va_up (va_up (va_up (BS Z μ M 285) 294 (rfs Z 24 (Fl Z 294 0))) 296 (rfs Z 7 (Fl Z 296 0))) 297 (rfs Z 42 (Fl Z 297 0))) 285 (.inr (1, [.null, .null, .ref (Z.2.2.1 + 286), .ref (Z.2.2.1 + 287), .ref (Z.2.2.1 + 289), .ref (Z.2.2.1 + 291), .ref (Z.2.2.1 + 293), .ref (Z.2.2.1 + 294), .ref (Z.2.2.1 + 295), .ref (Z.2.2.1 + 296), .ref (Z.2.2.1 + 297), .ref (Z.2.2.1 + 298)])))
  refine J_aload_n E dX1_init_100 rfl ?_
  refine J_aload_n E dX1_init_101 rfl ?_
  refine J_putK (o := 285) (ci := 1) (q := 0) E dX1_init_102 fs_X1_47 ff_X1_0 rfl (Nat.le_of_ble_eq_true rfl) (Nat.le_of_ble_eq_true rfl) ?_
  show J Z X 300 14 333 105 [(0, .ref (Z.2.2.1 + 285)), (1, .ref (Z.2.2.1 + 1)), (2, .ref (Z.2.2.1 + 92))] [] (va_up (va_up (va_up (va_up (BS Z μ M 285) 294 (rfs Z 24 (Fl Z 294 0))) 296 (rfs Z 7 (Fl Z 296 0))) 297 (rfs Z 42 (Fl Z 297 0))) 285 (.inr (1, [.ref (Z.2.2.1 + 1), .null, .ref (Z.2.2.1 + 286), .ref (Z.2.2.1 + 287), .ref (Z.2.2.1 + 289), .ref (Z.2.2.1 + 291), .ref (Z.2.2.1 + 293), .ref (Z.2.2.1 + 294), .ref (Z.2.2.1 + 295), .ref (Z.2.2.1 + 296), .ref (Z.2.2.1 + 297), .ref (Z.2.2.1 + 298)])))
  refine J_aload_n E dX1_init_105 rfl ?_
  refine J_aload_n E dX1_init_106 rfl ?_
  refine J_putK (o := 285) (ci := 1) (q := 1) E dX1_init_107 fs_X1_51 ff_X1_1 rfl (Nat.le_of_ble_eq_true rfl) (Nat.le_of_ble_eq_true rfl) ?_
  show J Z X 300 14 333 110 [(0, .ref (Z.2.2.1 + 285)), (1, .ref (Z.2.2.1 + 1)), (2, .ref (Z.2.2.1 + 92))] [] (va_up (va_up (va_up (va_up (BS Z μ M 285) 294 (rfs Z 24 (Fl Z 294 0))) 296 (rfs Z 7 (Fl Z 296 0))) 297 (rfs Z 42 (Fl Z 297 0))) 285 (.inr (1, [.ref (Z.2.2.1 + 1), .ref (Z.2.2.1 + 92), .ref (Z.2.2.1 + 286), .ref (Z.2.2.1 + 287), .ref (Z.2.2.1 + 289), .ref (Z.2.2.1 + 291), .ref (Z.2.2.1 + 293), .ref (Z.2.2.1 + 294), .ref (Z.2.2.1 + 295), .ref (Z.2.2.1 + 296), .ref (Z.2.2.1 + 297), .ref (Z.2.2.1 + 298)])))
  refine J_iconst (v := nI 0) E dX1_init_110 (by decide +kernel) ?_
  refine J_istore_n (lv' := [(0, .ref (Z.2.2.1 + 285)), (1, .ref (Z.2.2.1 + 1)), (2, .ref (Z.2.2.1 + 92)), (3, .int (nI 0))]) E dX1_init_111 (Nat.le_of_ble_eq_true rfl) rfl ?_
  refine J.mem (M' := va_up (va_up (va_up (va_up (BS Z μ M 285) 296 (rfs Z 7 (Fl Z 296 0))) 297 (rfs Z 42 (Fl Z 297 0))) 294 (rfs Z 24 (Fl Z 294 0))) 285 (.inr (1, [.ref (Z.2.2.1 + 1), .ref (Z.2.2.1 + 92), .ref (Z.2.2.1 + 286), .ref (Z.2.2.1 + 287), .ref (Z.2.2.1 + 289), .ref (Z.2.2.1 + 291), .ref (Z.2.2.1 + 293), .ref (Z.2.2.1 + 294), .ref (Z.2.2.1 + 295), .ref (Z.2.2.1 + 296), .ref (Z.2.2.1 + 297), .ref (Z.2.2.1 + 298)]))) (fun y hy => ?_) ?_
  · by_cases y0 : y = 285
    · subst y0; rw [va_up_s, va_up_s]
    · rw [va_up_n y0, va_up_n y0]
      simp only [va_up]
      split <;> (try split) <;> (try split) <;> (try split) <;> (try split) <;> (try split) <;> first | rfl | omega
  have lp : ∀ d i, i + d = 24 → J Z X (300 + 2 * i) (14 + 2 * i) (333 + 26 * i) 112 [(0, .ref (Z.2.2.1 + 285)), (1, .ref (Z.2.2.1 + 1)), (2, .ref (Z.2.2.1 + 92)), (3, .int (nI i))] [] (va_up (va_up (va_up (va_up (BS Z μ M 285) 296 (rfs Z 7 (Fl Z 296 0))) 297 (rfs Z 42 (Fl Z 297 0))) 294 (rfs Z 24 (Fl Z 294 i))) 285 (.inr (1, [.ref (Z.2.2.1 + 1), .ref (Z.2.2.1 + 92), .ref (Z.2.2.1 + 286), .ref (Z.2.2.1 + 287), .ref (Z.2.2.1 + 289), .ref (Z.2.2.1 + 291), .ref (Z.2.2.1 + 293), .ref (Z.2.2.1 + 294), .ref (Z.2.2.1 + 295), .ref (Z.2.2.1 + 296), .ref (Z.2.2.1 + 297), .ref (Z.2.2.1 + 298)]))) := by
    intro d
    induction d with
    | succ d ih =>
      intro i hi
      refine J_iload_n E dX1_init_112 rfl ?_
      refine J_bipush (v := nI 24) E dX1_init_113 (by decide +kernel) ?_
      refine J_icmp_ge (tgt := 137) E dX1_init_115 (by decide) (fun c => by rw [nI_leE (by omega) (by omega)] at c; omega) (fun _ => ?_)
      refine G_fill (lc := 0) (μ' := μ) (o := 285) (ci := 1) (q := 7) (N := 24) (a := 294) E dX1_init_118 dX1_init_119 dX1_init_122 dX1_init_123 dX1_init_126 dX1_init_127 dX1_init_130 rfl rfl fs_X1_31 rfl w2_130 w2_11 w1_8 df_X0 ⟨(Nat.le_of_ble_eq_true rfl), (Nat.le_of_ble_eq_true rfl)⟩ (Or.inr w2_131) w2_13 (by omega) (by omega) (by decide) (by omega) (by decide) (SHN_294 (by omega)) (shr_X0_0 (SHN_294 (by omega))) (hz _ (by omega) (by omega)) (hz _ (by omega) (by omega)) (fun y h1 h2 => by rw [va_up_n (by omega), va_up_n (by omega), BS_ge (by omega)]) (by omega) (by omega) ?_
      rw [Fl_up (show el 294 i = 300 + 2 * i from rfl)]
      refine J_iinc (v := nI (i + 1)) (lv' := [(0, .ref (Z.2.2.1 + 285)), (1, .ref (Z.2.2.1 + 1)), (2, .ref (Z.2.2.1 + 92)), (3, .int (nI (i + 1)))]) E dX1_init_131 rfl (nI_add i 1) (Nat.le_of_ble_eq_true rfl) rfl ?_
      refine J_goto (tgt := 112) E dX1_init_134 (by decide) ?_
      refine J.cast (by omega) (by omega) (by omega) (ih (i + 1) (by omega))
    | zero =>
      intro i hi
      obtain rfl : i = 24 := hi
      refine J_iload_n E dX1_init_112 rfl ?_
      refine J_bipush (v := nI 24) E dX1_init_113 (by decide +kernel) ?_
      refine J_icmp_ge (tgt := 137) E dX1_init_115 (by decide) (fun _ => ?_) (fun c => absurd (by decide) c)
      refine J.cast (n' := 348) (k' := 62) (sl' := 957) rfl rfl rfl ?_
      refine J.weak (lv' := [(0, .ref (Z.2.2.1 + 285)), (1, .ref (Z.2.2.1 + 1)), (2, .ref (Z.2.2.1 + 92))]) [0, 1, 2] rfl ?_
      refine J.mem (M' := va_up (va_up (va_up (va_up (BS Z μ M 285) 297 (rfs Z 42 (Fl Z 297 0))) 294 (rfs Z 24 (Fl Z 294 24))) 296 (rfs Z 7 (Fl Z 296 0))) 285 (.inr (1, [.ref (Z.2.2.1 + 1), .ref (Z.2.2.1 + 92), .ref (Z.2.2.1 + 286), .ref (Z.2.2.1 + 287), .ref (Z.2.2.1 + 289), .ref (Z.2.2.1 + 291), .ref (Z.2.2.1 + 293), .ref (Z.2.2.1 + 294), .ref (Z.2.2.1 + 295), .ref (Z.2.2.1 + 296), .ref (Z.2.2.1 + 297), .ref (Z.2.2.1 + 298)]))) (fun y hy => ?_) ?_
      · by_cases y0 : y = 285
        · subst y0; rw [va_up_s, va_up_s]
        · rw [va_up_n y0, va_up_n y0]
          simp only [va_up]
          split <;> (try split) <;> (try split) <;> (try split) <;> (try split) <;> (try split) <;> first | rfl | omega
      refine J_iconst (v := nI 0) E dX1_init_137 (by decide +kernel) ?_
      refine J_istore_n (lv' := [(0, .ref (Z.2.2.1 + 285)), (1, .ref (Z.2.2.1 + 1)), (2, .ref (Z.2.2.1 + 92)), (3, .int (nI 0))]) E dX1_init_138 (Nat.le_of_ble_eq_true rfl) rfl ?_
      have lp : ∀ d i, i + d = 7 → J Z X (348 + 2 * i) (62 + 2 * i) (957 + 26 * i) 139 [(0, .ref (Z.2.2.1 + 285)), (1, .ref (Z.2.2.1 + 1)), (2, .ref (Z.2.2.1 + 92)), (3, .int (nI i))] [] (va_up (va_up (va_up (va_up (BS Z μ M 285) 297 (rfs Z 42 (Fl Z 297 0))) 294 (rfs Z 24 (Fl Z 294 24))) 296 (rfs Z 7 (Fl Z 296 i))) 285 (.inr (1, [.ref (Z.2.2.1 + 1), .ref (Z.2.2.1 + 92), .ref (Z.2.2.1 + 286), .ref (Z.2.2.1 + 287), .ref (Z.2.2.1 + 289), .ref (Z.2.2.1 + 291), .ref (Z.2.2.1 + 293), .ref (Z.2.2.1 + 294), .ref (Z.2.2.1 + 295), .ref (Z.2.2.1 + 296), .ref (Z.2.2.1 + 297), .ref (Z.2.2.1 + 298)]))) := by
        intro d
        induction d with
        | succ d ih =>
          intro i hi
          refine J_iload_n E dX1_init_139 rfl ?_
          refine J_bipush (v := nI 6) E dX1_init_140 (by decide +kernel) ?_
          refine J_icmp_gt (tgt := 164) E dX1_init_142 (by decide) (fun c => by rw [nI_ltE (by omega) (by omega)] at c; omega) (fun _ => ?_)
          refine G_fill (lc := 0) (μ' := μ) (o := 285) (ci := 1) (q := 9) (N := 7) (a := 296) E dX1_init_145 dX1_init_146 dX1_init_149 dX1_init_150 dX1_init_153 dX1_init_154 dX1_init_157 rfl rfl fs_X1_38 rfl w2_130 w2_11 w1_8 df_X0 ⟨(Nat.le_of_ble_eq_true rfl), (Nat.le_of_ble_eq_true rfl)⟩ (Or.inr w2_131) w2_13 (by omega) (by omega) (by decide) (by omega) (by decide) (SHN_296 (by omega)) (shr_X0_0 (SHN_296 (by omega))) (hz _ (by omega) (by omega)) (hz _ (by omega) (by omega)) (fun y h1 h2 => by rw [va_up_n (by omega), va_up_n (by omega), BS_ge (by omega)]) (by omega) (by omega) ?_
          rw [Fl_up (show el 296 i = 348 + 2 * i from rfl)]
          refine J_iinc (v := nI (i + 1)) (lv' := [(0, .ref (Z.2.2.1 + 285)), (1, .ref (Z.2.2.1 + 1)), (2, .ref (Z.2.2.1 + 92)), (3, .int (nI (i + 1)))]) E dX1_init_158 rfl (nI_add i 1) (Nat.le_of_ble_eq_true rfl) rfl ?_
          refine J_goto (tgt := 139) E dX1_init_161 (by decide) ?_
          refine J.cast (by omega) (by omega) (by omega) (ih (i + 1) (by omega))
        | zero =>
          intro i hi
          obtain rfl : i = 7 := hi
          refine J_iload_n E dX1_init_139 rfl ?_
          refine J_bipush (v := nI 6) E dX1_init_140 (by decide +kernel) ?_
          refine J_icmp_gt (tgt := 164) E dX1_init_142 (by decide) (fun _ => ?_) (fun c => absurd (by decide) c)
          refine J.cast (n' := 362) (k' := 76) (sl' := 1139) rfl rfl rfl ?_
          refine J.weak (lv' := [(0, .ref (Z.2.2.1 + 285)), (1, .ref (Z.2.2.1 + 1)), (2, .ref (Z.2.2.1 + 92))]) [0, 1, 2] rfl ?_
          refine J.mem (M' := va_up (va_up (va_up (va_up (BS Z μ M 285) 294 (rfs Z 24 (Fl Z 294 24))) 296 (rfs Z 7 (Fl Z 296 7))) 297 (rfs Z 42 (Fl Z 297 0))) 285 (.inr (1, [.ref (Z.2.2.1 + 1), .ref (Z.2.2.1 + 92), .ref (Z.2.2.1 + 286), .ref (Z.2.2.1 + 287), .ref (Z.2.2.1 + 289), .ref (Z.2.2.1 + 291), .ref (Z.2.2.1 + 293), .ref (Z.2.2.1 + 294), .ref (Z.2.2.1 + 295), .ref (Z.2.2.1 + 296), .ref (Z.2.2.1 + 297), .ref (Z.2.2.1 + 298)]))) (fun y hy => ?_) ?_
          · by_cases y0 : y = 285
            · subst y0; rw [va_up_s, va_up_s]
            · rw [va_up_n y0, va_up_n y0]
              simp only [va_up]
              split <;> (try split) <;> (try split) <;> (try split) <;> (try split) <;> (try split) <;> first | rfl | omega
          refine J_iconst (v := nI 0) E dX1_init_164 (by decide +kernel) ?_
          refine J_istore_n (lv' := [(0, .ref (Z.2.2.1 + 285)), (1, .ref (Z.2.2.1 + 1)), (2, .ref (Z.2.2.1 + 92)), (3, .int (nI 0))]) E dX1_init_165 (Nat.le_of_ble_eq_true rfl) rfl ?_
          have lp : ∀ d i, i + d = 42 → J Z X (362 + 2 * i) (76 + 2 * i) (1139 + 26 * i) 166 [(0, .ref (Z.2.2.1 + 285)), (1, .ref (Z.2.2.1 + 1)), (2, .ref (Z.2.2.1 + 92)), (3, .int (nI i))] [] (va_up (va_up (va_up (va_up (BS Z μ M 285) 294 (rfs Z 24 (Fl Z 294 24))) 296 (rfs Z 7 (Fl Z 296 7))) 297 (rfs Z 42 (Fl Z 297 i))) 285 (.inr (1, [.ref (Z.2.2.1 + 1), .ref (Z.2.2.1 + 92), .ref (Z.2.2.1 + 286), .ref (Z.2.2.1 + 287), .ref (Z.2.2.1 + 289), .ref (Z.2.2.1 + 291), .ref (Z.2.2.1 + 293), .ref (Z.2.2.1 + 294), .ref (Z.2.2.1 + 295), .ref (Z.2.2.1 + 296), .ref (Z.2.2.1 + 297), .ref (Z.2.2.1 + 298)]))) := by
            intro d
            induction d with
            | succ d ih =>
              intro i hi
              refine J_iload_n E dX1_init_166 rfl ?_
              refine J_bipush (v := nI 42) E dX1_init_167 (by decide +kernel) ?_
              refine J_icmp_ge (tgt := 191) E dX1_init_169 (by decide) (fun c => by rw [nI_leE (by omega) (by omega)] at c; omega) (fun _ => ?_)
              refine G_fill (lc := 0) (μ' := μ) (o := 285) (ci := 1) (q := 10) (N := 42) (a := 297) E dX1_init_172 dX1_init_173 dX1_init_176 dX1_init_177 dX1_init_180 dX1_init_181 dX1_init_184 rfl rfl fs_X1_41 rfl w2_130 w2_11 w1_8 df_X0 ⟨(Nat.le_of_ble_eq_true rfl), (Nat.le_of_ble_eq_true rfl)⟩ (Or.inr w2_131) w2_13 (by omega) (by omega) (by decide) (by omega) (by decide) (SHN_297 (by omega)) (shr_X0_0 (SHN_297 (by omega))) (hz _ (by omega) (by omega)) (hz _ (by omega) (by omega)) (fun y h1 h2 => by rw [va_up_n (by omega), va_up_n (by omega), BS_ge (by omega)]) (by omega) (by omega) ?_
              rw [Fl_up (show el 297 i = 362 + 2 * i from rfl)]
              refine J_iinc (v := nI (i + 1)) (lv' := [(0, .ref (Z.2.2.1 + 285)), (1, .ref (Z.2.2.1 + 1)), (2, .ref (Z.2.2.1 + 92)), (3, .int (nI (i + 1)))]) E dX1_init_185 rfl (nI_add i 1) (Nat.le_of_ble_eq_true rfl) rfl ?_
              refine J_goto (tgt := 166) E dX1_init_188 (by decide) ?_
              refine J.cast (by omega) (by omega) (by omega) (ih (i + 1) (by omega))
            | zero =>
              intro i hi
              obtain rfl : i = 42 := hi
              refine J_iload_n E dX1_init_166 rfl ?_
              refine J_bipush (v := nI 42) E dX1_init_167 (by decide +kernel) ?_
              refine J_icmp_ge (tgt := 191) E dX1_init_169 (by decide) (fun _ => ?_) (fun c => absurd (by decide) c)
              refine J.cast (n' := 446) (k' := 160) (sl' := 2231) rfl rfl rfl ?_
              refine J.weak (lv' := [(0, .ref (Z.2.2.1 + 285)), (1, .ref (Z.2.2.1 + 1)), (2, .ref (Z.2.2.1 + 92))]) [0, 1, 2] rfl ?_
              refine J.memq (M' := va_up (BS Z μ M 285) 285 (.inr (1, [.ref (Z.2.2.1 + 1), .ref (Z.2.2.1 + 92), .ref (Z.2.2.1 + 286), .ref (Z.2.2.1 + 287), .ref (Z.2.2.1 + 289), .ref (Z.2.2.1 + 291), .ref (Z.2.2.1 + 293), .ref (Z.2.2.1 + 294), .ref (Z.2.2.1 + 295), .ref (Z.2.2.1 + 296), .ref (Z.2.2.1 + 297), .ref (Z.2.2.1 + 298)]))) (fun y hy => ?_) ?_
              · by_cases q1 : y = 294
                · subst q1
                  refine Or.inr ⟨Z.2.2.2.1 3, 24, Fl Z 294 24, fun i => some (Z.2.2.1 + el 294 i), ?_, ?_, fun j hj => if_pos hj⟩
                  · simp [va_up, rfs]
                  · rw [va_up_n (by decide), BS_ge (by decide), WM_ref (t := 0) sh294]
                by_cases q2 : y = 296
                · subst q2
                  refine Or.inr ⟨Z.2.2.2.1 3, 7, Fl Z 296 7, fun i => some (Z.2.2.1 + el 296 i), ?_, ?_, fun j hj => if_pos hj⟩
                  · simp [va_up, rfs]
                  · rw [va_up_n (by decide), BS_ge (by decide), WM_ref (t := 0) sh296]
                by_cases q3 : y = 297
                · subst q3
                  refine Or.inr ⟨Z.2.2.2.1 3, 42, Fl Z 297 42, fun i => some (Z.2.2.1 + el 297 i), ?_, ?_, fun j hj => if_pos hj⟩
                  · simp [va_up, rfs]
                  · rw [va_up_n (by decide), BS_ge (by decide), WM_ref (t := 0) sh297]
                refine Or.inl ?_
                by_cases q0 : y = 285
                · subst q0; rw [va_up_s, va_up_s]
                · rw [va_up_n q0, va_up_n q3, va_up_n q2, va_up_n q1, va_up_n q0]
              exact J_vret E hB dX1_init_191 rfl (K_out sh285 (by rw [hz 285 (by decide) (by decide)]; rfl))
          exact J.cast (by omega) (by omega) (by omega) (lp 42 0 (by decide))
      exact J.cast (by omega) (by omega) (by omega) (lp 7 0 (by decide))
  exact J.cast (by omega) (by omega) (by omega) (lp 24 0 (by decide))
