/-! MODEL: the constructor of the reference (by program) -/
/-- the numbers with which the reference begins -/
def muM (μ : Mu) : Mu := (stu (stu (stu (stu μ 456 201 (nI 4)) 456 202 (nI 30)) 456 203 (nI 1)) 465 27 (nI 1))
theorem i_X12 {Z : ZT} {μ : Mu} {M : Mem} (hz : ∀ a, 455 ≤ a → μ a = fun _ => 0) (hM : M 455 = .inr (12, [.null, .null, .null, .null, .int 0, .int 0, .int 0, .int 0, .int 0, .int 0, .null, .null, .int 0, .int 0, .null, .null, .null, .int 0, .null, .int 0, .null, .null, .null, .null, .null, .null, .null, .long 0])) : Ctr Z mX12_init [.ref (Z.2.2.1 + 455)] (455 + 1) (455 + 1 + 17) 9061 M (PK Z (muM μ) M 455 (455 + 1 + 17)) := by
  refine CtrK (by decide +kernel) (Nat.le_of_ble_eq_true rfl) rfl fun X E hB => ?_
  refine K_in (μ := μ) hM ?_
  refine J_aload_n E dX12_init_0 rfl ?_
  refine J_oinit (o := 455) E dX12_init_1 w5_197 w1_27 w1_28 (Nat.le_of_ble_eq_true rfl) (Nat.le_of_ble_eq_true rfl) ?_
  refine J_aload_n E dX12_init_4 rfl ?_
  refine J_sipush (v := nI 988) E dX12_init_5 (by decide +kernel) ?_
  refine G_int (N := 988) (o := 455) (ci := 12) (q := 0) E dX12_init_8 dX12_init_10 wac_int (by decide) fs_X12_7 ff_X12_0 rfl (Nat.le_of_ble_eq_true rfl) (Nat.le_of_ble_eq_true rfl) (BS_int (Nat.le_of_ble_eq_true rfl) sh456 (hz 456 (Nat.le_of_ble_eq_true rfl))) (Nat.le_of_ble_eq_true rfl) (Nat.le_of_ble_eq_true rfl) ?_
  show J Z X 457 1 988 13 [(0, .ref (Z.2.2.1 + 455))] [] (va_up (BS Z μ M 455) 455 (.inr (12, [.ref (Z.2.2.1 + 456), .null, .null, .null, .int 0, .int 0, .int 0, .int 0, .int 0, .int 0, .null, .null, .int 0, .int 0, .null, .null, .null, .int 0, .null, .int 0, .null, .null, .null, .null, .null, .null, .null, .long 0])))
  refine J_aload_n E dX12_init_13 rfl ?_
  refine J_iconst (v := nI 2) E dX12_init_14 (by decide +kernel) ?_
  refine G_bool (N := 2) (o := 455) (ci := 12) (q := 1) E dX12_init_15 dX12_init_17 wac_boolean (by decide) fs_X12_13 ff_X12_1 rfl (Nat.le_of_ble_eq_true rfl) (Nat.le_of_ble_eq_true rfl) (BS_bool (Nat.le_of_ble_eq_true rfl) sh457 (hz 457 (Nat.le_of_ble_eq_true rfl))) (Nat.le_of_ble_eq_true rfl) (Nat.le_of_ble_eq_true rfl) ?_
  show J Z X 458 2 990 20 [(0, .ref (Z.2.2.1 + 455))] [] (va_up (BS Z μ M 455) 455 (.inr (12, [.ref (Z.2.2.1 + 456), .ref (Z.2.2.1 + 457), .null, .null, .int 0, .int 0, .int 0, .int 0, .int 0, .int 0, .null, .null, .int 0, .int 0, .null, .null, .null, .int 0, .null, .int 0, .null, .null, .null, .null, .null, .null, .null, .long 0])))
  refine J_aload_n E dX12_init_20 rfl ?_
  refine J_iconst (v := nI 3) E dX12_init_21 (by decide +kernel) ?_
  refine G_int (N := 3) (o := 455) (ci := 12) (q := 2) E dX12_init_22 dX12_init_24 wac_int (by decide) fs_X12_17 ff_X12_2 rfl (Nat.le_of_ble_eq_true rfl) (Nat.le_of_ble_eq_true rfl) (BS_int (Nat.le_of_ble_eq_true rfl) sh458 (hz 458 (Nat.le_of_ble_eq_true rfl))) (Nat.le_of_ble_eq_true rfl) (Nat.le_of_ble_eq_true rfl) ?_
  show J Z X 459 3 993 27 [(0, .ref (Z.2.2.1 + 455))] [] (va_up (BS Z μ M 455) 455 (.inr (12, [.ref (Z.2.2.1 + 456), .ref (Z.2.2.1 + 457), .ref (Z.2.2.1 + 458), .null, .int 0, .int 0, .int 0, .int 0, .int 0, .int 0, .null, .null, .int 0, .int 0, .null, .null, .null, .int 0, .null, .int 0, .null, .null, .null, .null, .null, .null, .null, .long 0])))
  refine J_aload_n E dX12_init_27 rfl ?_
  refine J_sipush (v := nI 300) E dX12_init_28 (by decide +kernel) ?_
  refine G_byte (N := 300) (o := 455) (ci := 12) (q := 3) E dX12_init_31 dX12_init_33 wac_byte (by decide) fs_X12_20 ff_X12_3 rfl (Nat.le_of_ble_eq_true rfl) (Nat.le_of_ble_eq_true rfl) (BS_byte (Nat.le_of_ble_eq_true rfl) sh459 (hz 459 (Nat.le_of_ble_eq_true rfl))) (Nat.le_of_ble_eq_true rfl) (Nat.le_of_ble_eq_true rfl) ?_
  show J Z X 460 4 1293 36 [(0, .ref (Z.2.2.1 + 455))] [] (va_up (BS Z μ M 455) 455 (.inr (12, [.ref (Z.2.2.1 + 456), .ref (Z.2.2.1 + 457), .ref (Z.2.2.1 + 458), .ref (Z.2.2.1 + 459), .int 0, .int 0, .int 0, .int 0, .int 0, .int 0, .null, .null, .int 0, .int 0, .null, .null, .null, .int 0, .null, .int 0, .null, .null, .null, .null, .null, .null, .null, .long 0])))
  refine J_aload_n E dX12_init_36 rfl ?_
  refine J_iconst (v := nI 5) E dX12_init_37 (by decide +kernel) ?_
  refine G_int (N := 5) (o := 455) (ci := 12) (q := 10) E dX12_init_38 dX12_init_40 wac_int (by decide) fs_X12_24 ff_X12_10 rfl (Nat.le_of_ble_eq_true rfl) (Nat.le_of_ble_eq_true rfl) (BS_int (Nat.le_of_ble_eq_true rfl) sh460 (hz 460 (Nat.le_of_ble_eq_true rfl))) (Nat.le_of_ble_eq_true rfl) (Nat.le_of_ble_eq_true rfl) ?_
  show J Z X 461 5 1298 43 [(0, .ref (Z.2.2.1 + 455))] [] (va_up (BS Z μ M 455) 455 (.inr (12, [.ref (Z.2.2.1 + 456), .ref (Z.2.2.1 + 457), .ref (Z.2.2.1 + 458), .ref (Z.2.2.1 + 459), .int 0, .int 0, .int 0, .int 0, .int 0, .int 0, .ref (Z.2.2.1 + 460), .null, .int 0, .int 0, .null, .null, .null, .int 0, .null, .int 0, .null, .null, .null, .null, .null, .null, .null, .long 0])))
  refine J_aload_n E dX12_init_43 rfl ?_
  refine J_bipush (v := nI 100) E dX12_init_44 (by decide +kernel) ?_
  refine G_int (N := 100) (o := 455) (ci := 12) (q := 11) E dX12_init_46 dX12_init_48 wac_int (by decide) fs_X12_27 ff_X12_11 rfl (Nat.le_of_ble_eq_true rfl) (Nat.le_of_ble_eq_true rfl) (BS_int (Nat.le_of_ble_eq_true rfl) sh461 (hz 461 (Nat.le_of_ble_eq_true rfl))) (Nat.le_of_ble_eq_true rfl) (Nat.le_of_ble_eq_true rfl) ?_
  show J Z X 462 6 1398 51 [(0, .ref (Z.2.2.1 + 455))] [] (va_up (BS Z μ M 455) 455 (.inr (12, [.ref (Z.2.2.1 + 456), .ref (Z.2.2.1 + 457), .ref (Z.2.2.1 + 458), .ref (Z.2.2.1 + 459), .int 0, .int 0, .int 0, .int 0, .int 0, .int 0, .ref (Z.2.2.1 + 460), .ref (Z.2.2.1 + 461), .int 0, .int 0, .null, .null, .null, .int 0, .null, .int 0, .null, .null, .null, .null, .null, .null, .null, .long 0])))
  refine J_aload_n E dX12_init_51 rfl ?_
  refine J_bipush (v := nI 6) E dX12_init_52 (by decide +kernel) ?_
  refine G_int (N := 6) (o := 455) (ci := 12) (q := 14) E dX12_init_54 dX12_init_56 wac_int (by decide) fs_X12_30 ff_X12_14 rfl (Nat.le_of_ble_eq_true rfl) (Nat.le_of_ble_eq_true rfl) (BS_int (Nat.le_of_ble_eq_true rfl) sh462 (hz 462 (Nat.le_of_ble_eq_true rfl))) (Nat.le_of_ble_eq_true rfl) (Nat.le_of_ble_eq_true rfl) ?_
  show J Z X 463 7 1404 59 [(0, .ref (Z.2.2.1 + 455))] [] (va_up (BS Z μ M 455) 455 (.inr (12, [.ref (Z.2.2.1 + 456), .ref (Z.2.2.1 + 457), .ref (Z.2.2.1 + 458), .ref (Z.2.2.1 + 459), .int 0, .int 0, .int 0, .int 0, .int 0, .int 0, .ref (Z.2.2.1 + 460), .ref (Z.2.2.1 + 461), .int 0, .int 0, .ref (Z.2.2.1 + 462), .null, .null, .int 0, .null, .int 0, .null, .null, .null, .null, .null, .null, .null, .long 0])))
  refine J_aload_n E dX12_init_59 rfl ?_
  refine J_bipush (v := nI 6) E dX12_init_60 (by decide +kernel) ?_
  refine G_int (N := 6) (o := 455) (ci := 12) (q := 15) E dX12_init_62 dX12_init_64 wac_int (by decide) fs_X12_33 ff_X12_15 rfl (Nat.le_of_ble_eq_true rfl) (Nat.le_of_ble_eq_true rfl) (BS_int (Nat.le_of_ble_eq_true rfl) sh463 (hz 463 (Nat.le_of_ble_eq_true rfl))) (Nat.le_of_ble_eq_true rfl) (Nat.le_of_ble_eq_true rfl) ?_
  show J Z X 464 8 1410 67 [(0, .ref (Z.2.2.1 + 455))] [] (va_up (BS Z μ M 455) 455 (.inr (12, [.ref (Z.2.2.1 + 456), .ref (Z.2.2.1 + 457), .ref (Z.2.2.1 + 458), .ref (Z.2.2.1 + 459), .int 0, .int 0, .int 0, .int 0, .int 0, .int 0, .ref (Z.2.2.1 + 460), .ref (Z.2.2.1 + 461), .int 0, .int 0, .ref (Z.2.2.1 + 462), .ref (Z.2.2.1 + 463), .null, .int 0, .null, .int 0, .null, .null, .null, .null, .null, .null, .null, .long 0])))
  refine J_aload_n E dX12_init_67 rfl ?_
  refine J_bipush (v := nI 6) E dX12_init_68 (by decide +kernel) ?_
  refine G_int (N := 6) (o := 455) (ci := 12) (q := 16) E dX12_init_70 dX12_init_72 wac_int (by decide) fs_X12_36 ff_X12_16 rfl (Nat.le_of_ble_eq_true rfl) (Nat.le_of_ble_eq_true rfl) (BS_int (Nat.le_of_ble_eq_true rfl) sh464 (hz 464 (Nat.le_of_ble_eq_true rfl))) (Nat.le_of_ble_eq_true rfl) (Nat.le_of_ble_eq_true rfl) ?_
  show J Z X 465 9 1416 75 [(0, .ref (Z.2.2.1 + 455))] [] (va_up (BS Z μ M 455) 455 (.inr (12, [.ref (Z.2.2.1 + 456), .ref (Z.2.2.1 + 457), .ref (Z.2.2.1 + 458), .ref (Z.2.2.1 + 459), .int 0, .int 0, .int 0, .int 0, .int 0, .int 0, .ref (Z.2.2.1 + 460), .ref (Z.2.2.1 + 461), .int 0, .int 0, .ref (Z.2.2.1 + 462), .ref (Z.2.2.1 + 463), .ref (Z.2.2.1 + 464), .int 0, .null, .int 0, .null, .null, .null, .null, .null, .null, .null, .long 0])))
  refine J_aload_n E dX12_init_75 rfl ?_
  refine J_sipush (v := nI 7587) E dX12_init_76 (by decide +kernel) ?_
  refine G_int (N := 7587) (o := 455) (ci := 12) (q := 18) E dX12_init_79 dX12_init_81 wac_int (by decide) fs_X12_39 ff_X12_18 rfl (Nat.le_of_ble_eq_true rfl) (Nat.le_of_ble_eq_true rfl) (BS_int (Nat.le_of_ble_eq_true rfl) sh465 (hz 465 (Nat.le_of_ble_eq_true rfl))) (Nat.le_of_ble_eq_true rfl) (Nat.le_of_ble_eq_true rfl) ?_
  show J Z X 466 10 9003 84 [(0, .ref (Z.2.2.1 + 455))] [] (va_up (BS Z μ M 455) 455 (.inr (12, [.ref (Z.2.2.1 + 456), .ref (Z.2.2.1 + 457), .ref (Z.2.2.1 + 458), .ref (Z.2.2.1 + 459), .int 0, .int 0, .int 0, .int 0, .int 0, .int 0, .ref (Z.2.2.1 + 460), .ref (Z.2.2.1 + 461), .int 0, .int 0, .ref (Z.2.2.1 + 462), .ref (Z.2.2.1 + 463), .ref (Z.2.2.1 + 464), .int 0, .ref (Z.2.2.1 + 465), .int 0, .null, .null, .null, .null, .null, .null, .null, .long 0])))
  refine J_aload_n E dX12_init_84 rfl ?_
  refine J_bipush (v := nI 6) E dX12_init_85 (by decide +kernel) ?_
  refine G_int (N := 6) (o := 455) (ci := 12) (q := 20) E dX12_init_87 dX12_init_89 wac_int (by decide) fs_X12_42 ff_X12_20 rfl (Nat.le_of_ble_eq_true rfl) (Nat.le_of_ble_eq_true rfl) (BS_int (Nat.le_of_ble_eq_true rfl) sh466 (hz 466 (Nat.le_of_ble_eq_true rfl))) (Nat.le_of_ble_eq_true rfl) (Nat.le_of_ble_eq_true rfl) ?_
  show J Z X 467 11 9009 92 [(0, .ref (Z.2.2.1 + 455))] [] (va_up (BS Z μ M 455) 455 (.inr (12, [.ref (Z.2.2.1 + 456), .ref (Z.2.2.1 + 457), .ref (Z.2.2.1 + 458), .ref (Z.2.2.1 + 459), .int 0, .int 0, .int 0, .int 0, .int 0, .int 0, .ref (Z.2.2.1 + 460), .ref (Z.2.2.1 + 461), .int 0, .int 0, .ref (Z.2.2.1 + 462), .ref (Z.2.2.1 + 463), .ref (Z.2.2.1 + 464), .int 0, .ref (Z.2.2.1 + 465), .int 0, .ref (Z.2.2.1 + 466), .null, .null, .null, .null, .null, .null, .long 0])))
  refine J_aload_n E dX12_init_92 rfl ?_
  refine J_bipush (v := nI 6) E dX12_init_93 (by decide +kernel) ?_
  refine G_int (N := 6) (o := 455) (ci := 12) (q := 21) E dX12_init_95 dX12_init_97 wac_int (by decide) fs_X12_45 ff_X12_21 rfl (Nat.le_of_ble_eq_true rfl) (Nat.le_of_ble_eq_true rfl) (BS_int (Nat.le_of_ble_eq_true rfl) sh467 (hz 467 (Nat.le_of_ble_eq_true rfl))) (Nat.le_of_ble_eq_true rfl) (Nat.le_of_ble_eq_true rfl) ?_
  show J Z X 468 12 9015 100 [(0, .ref (Z.2.2.1 + 455))] [] (va_up (BS Z μ M 455) 455 (.inr (12, [.ref (Z.2.2.1 + 456), .ref (Z.2.2.1 + 457), .ref (Z.2.2.1 + 458), .ref (Z.2.2.1 + 459), .int 0, .int 0, .int 0, .int 0, .int 0, .int 0, .ref (Z.2.2.1 + 460), .ref (Z.2.2.1 + 461), .int 0, .int 0, .ref (Z.2.2.1 + 462), .ref (Z.2.2.1 + 463), .ref (Z.2.2.1 + 464), .int 0, .ref (Z.2.2.1 + 465), .int 0, .ref (Z.2.2.1 + 466), .ref (Z.2.2.1 + 467), .null, .null, .null, .null, .null, .long 0])))
  refine J_aload_n E dX12_init_100 rfl ?_
  refine J_bipush (v := nI 12) E dX12_init_101 (by decide +kernel) ?_
  refine G_int (N := 12) (o := 455) (ci := 12) (q := 22) E dX12_init_103 dX12_init_105 wac_int (by decide) fs_X12_48 ff_X12_22 rfl (Nat.le_of_ble_eq_true rfl) (Nat.le_of_ble_eq_true rfl) (BS_int (Nat.le_of_ble_eq_true rfl) sh468 (hz 468 (Nat.le_of_ble_eq_true rfl))) (Nat.le_of_ble_eq_true rfl) (Nat.le_of_ble_eq_true rfl) ?_
  show J Z X 469 13 9027 108 [(0, .ref (Z.2.2.1 + 455))] [] (va_up (BS Z μ M 455) 455 (.inr (12, [.ref (Z.2.2.1 + 456), .ref (Z.2.2.1 + 457), .ref (Z.2.2.1 + 458), .ref (Z.2.2.1 + 459), .int 0, .int 0, .int 0, .int 0, .int 0, .int 0, .ref (Z.2.2.1 + 460), .ref (Z.2.2.1 + 461), .int 0, .int 0, .ref (Z.2.2.1 + 462), .ref (Z.2.2.1 + 463), .ref (Z.2.2.1 + 464), .int 0, .ref (Z.2.2.1 + 465), .int 0, .ref (Z.2.2.1 + 466), .ref (Z.2.2.1 + 467), .ref (Z.2.2.1 + 468), .null, .null, .null, .null, .long 0])))
  refine J_aload_n E dX12_init_108 rfl ?_
  refine J_bipush (v := nI 12) E dX12_init_109 (by decide +kernel) ?_
  refine G_int (N := 12) (o := 455) (ci := 12) (q := 23) E dX12_init_111 dX12_init_113 wac_int (by decide) fs_X12_51 ff_X12_23 rfl (Nat.le_of_ble_eq_true rfl) (Nat.le_of_ble_eq_true rfl) (BS_int (Nat.le_of_ble_eq_true rfl) sh469 (hz 469 (Nat.le_of_ble_eq_true rfl))) (Nat.le_of_ble_eq_true rfl) (Nat.le_of_ble_eq_true rfl) ?_
  show J Z X 470 14 9039 116 [(0, .ref (Z.2.2.1 + 455))] [] (va_up (BS Z μ M 455) 455 (.inr (12, [.ref (Z.2.2.1 + 456), .ref (Z.2.2.1 + 457), .ref (Z.2.2.1 + 458), .ref (Z.2.2.1 + 459), .int 0, .int 0, .int 0, .int 0, .int 0, .int 0, .ref (Z.2.2.1 + 460), .ref (Z.2.2.1 + 461), .int 0, .int 0, .ref (Z.2.2.1 + 462), .ref (Z.2.2.1 + 463), .ref (Z.2.2.1 + 464), .int 0, .ref (Z.2.2.1 + 465), .int 0, .ref (Z.2.2.1 + 466), .ref (Z.2.2.1 + 467), .ref (Z.2.2.1 + 468), .ref (Z.2.2.1 + 469), .null, .null, .null, .long 0])))
  refine J_aload_n E dX12_init_116 rfl ?_
  refine J_bipush (v := nI 12) E dX12_init_117 (by decide +kernel) ?_
  refine G_int (N := 12) (o := 455) (ci := 12) (q := 24) E dX12_init_119 dX12_init_121 wac_int (by decide) fs_X12_54 ff_X12_24 rfl (Nat.le_of_ble_eq_true rfl) (Nat.le_of_ble_eq_true rfl) (BS_int (Nat.le_of_ble_eq_true rfl) sh470 (hz 470 (Nat.le_of_ble_eq_true rfl))) (Nat.le_of_ble_eq_true rfl) (Nat.le_of_ble_eq_true rfl) ?_
  show J Z X 471 15 9051 124 [(0, .ref (Z.2.2.1 + 455))] [] (va_up (BS Z μ M 455) 455 (.inr (12, [.ref (Z.2.2.1 + 456), .ref (Z.2.2.1 + 457), .ref (Z.2.2.1 + 458), .ref (Z.2.2.1 + 459), .int 0, .int 0, .int 0, .int 0, .int 0, .int 0, .ref (Z.2.2.1 + 460), .ref (Z.2.2.1 + 461), .int 0, .int 0, .ref (Z.2.2.1 + 462), .ref (Z.2.2.1 + 463), .ref (Z.2.2.1 + 464), .int 0, .ref (Z.2.2.1 + 465), .int 0, .ref (Z.2.2.1 + 466), .ref (Z.2.2.1 + 467), .ref (Z.2.2.1 + 468), .ref (Z.2.2.1 + 469), .ref (Z.2.2.1 + 470), .null, .null, .long 0])))
  refine J_aload_n E dX12_init_124 rfl ?_
  refine J_iconst (v := nI 2) E dX12_init_125 (by decide +kernel) ?_
  refine G_int (N := 2) (o := 455) (ci := 12) (q := 25) E dX12_init_126 dX12_init_128 wac_int (by decide) fs_X12_57 ff_X12_25 rfl (Nat.le_of_ble_eq_true rfl) (Nat.le_of_ble_eq_true rfl) (BS_int (Nat.le_of_ble_eq_true rfl) sh471 (hz 471 (Nat.le_of_ble_eq_true rfl))) (Nat.le_of_ble_eq_true rfl) (Nat.le_of_ble_eq_true rfl) ?_
  show J Z X 472 16 9053 131 [(0, .ref (Z.2.2.1 + 455))] [] (va_up (BS Z μ M 455) 455 (.inr (12, [.ref (Z.2.2.1 + 456), .ref (Z.2.2.1 + 457), .ref (Z.2.2.1 + 458), .ref (Z.2.2.1 + 459), .int 0, .int 0, .int 0, .int 0, .int 0, .int 0, .ref (Z.2.2.1 + 460), .ref (Z.2.2.1 + 461), .int 0, .int 0, .ref (Z.2.2.1 + 462), .ref (Z.2.2.1 + 463), .ref (Z.2.2.1 + 464), .int 0, .ref (Z.2.2.1 + 465), .int 0, .ref (Z.2.2.1 + 466), .ref (Z.2.2.1 + 467), .ref (Z.2.2.1 + 468), .ref (Z.2.2.1 + 469), .ref (Z.2.2.1 + 470), .ref (Z.2.2.1 + 471), .null, .long 0])))
  refine J_aload_n E dX12_init_131 rfl ?_
  refine J_bipush (v := nI 8) E dX12_init_132 (by decide +kernel) ?_
  refine G_int (N := 8) (o := 455) (ci := 12) (q := 26) E dX12_init_134 dX12_init_136 wac_int (by decide) fs_X12_60 ff_X12_26 rfl (Nat.le_of_ble_eq_true rfl) (Nat.le_of_ble_eq_true rfl) (BS_int (Nat.le_of_ble_eq_true rfl) sh472 (hz 472 (Nat.le_of_ble_eq_true rfl))) (Nat.le_of_ble_eq_true rfl) (Nat.le_of_ble_eq_true rfl) ?_
  show J Z X 473 17 9061 139 [(0, .ref (Z.2.2.1 + 455))] [] (va_up (BS Z μ M 455) 455 (.inr (12, [.ref (Z.2.2.1 + 456), .ref (Z.2.2.1 + 457), .ref (Z.2.2.1 + 458), .ref (Z.2.2.1 + 459), .int 0, .int 0, .int 0, .int 0, .int 0, .int 0, .ref (Z.2.2.1 + 460), .ref (Z.2.2.1 + 461), .int 0, .int 0, .ref (Z.2.2.1 + 462), .ref (Z.2.2.1 + 463), .ref (Z.2.2.1 + 464), .int 0, .ref (Z.2.2.1 + 465), .int 0, .ref (Z.2.2.1 + 466), .ref (Z.2.2.1 + 467), .ref (Z.2.2.1 + 468), .ref (Z.2.2.1 + 469), .ref (Z.2.2.1 + 470), .ref (Z.2.2.1 + 471), .ref (Z.2.2.1 + 472), .long 0])))
  refine J_aload_n E dX12_init_139 rfl ?_
  refine J_getK (o := 455) (ci := 12) (q := 0) (a := 456) E dX12_init_140 fs_X12_7 (Nat.le_of_ble_eq_true rfl) rfl ?_
  refine J_sipush (v := nI 201) E dX12_init_143 (by decide +kernel) ?_
  refine J_iconst (v := nI 4) E dX12_init_146 (by decide +kernel) ?_
  refine G_ist (μ' := stu μ 456 201 (nI 4)) E dX12_init_147 sh456 (Nat.le_of_ble_eq_true rfl) (by decide) (Nat.le_of_ble_eq_true rfl) (by decide) (by decide) rfl ?_
  refine J_aload_n E dX12_init_148 rfl ?_
  refine J_getK (o := 455) (ci := 12) (q := 0) (a := 456) E dX12_init_149 fs_X12_7 (Nat.le_of_ble_eq_true rfl) rfl ?_
  refine J_sipush (v := nI 202) E dX12_init_152 (by decide +kernel) ?_
  refine J_bipush (v := nI 30) E dX12_init_155 (by decide +kernel) ?_
  refine G_ist (μ' := stu (stu μ 456 201 (nI 4)) 456 202 (nI 30)) E dX12_init_157 sh456 (Nat.le_of_ble_eq_true rfl) (by decide) (Nat.le_of_ble_eq_true rfl) (by decide) (by decide) rfl ?_
  refine J_aload_n E dX12_init_158 rfl ?_
  refine J_getK (o := 455) (ci := 12) (q := 0) (a := 456) E dX12_init_159 fs_X12_7 (Nat.le_of_ble_eq_true rfl) rfl ?_
  refine J_sipush (v := nI 203) E dX12_init_162 (by decide +kernel) ?_
  refine J_iconst (v := nI 1) E dX12_init_165 (by decide +kernel) ?_
  refine G_ist (μ' := stu (stu (stu μ 456 201 (nI 4)) 456 202 (nI 30)) 456 203 (nI 1)) E dX12_init_166 sh456 (Nat.le_of_ble_eq_true rfl) (by decide) (Nat.le_of_ble_eq_true rfl) (by decide) (by decide) rfl ?_
  refine J_aload_n E dX12_init_167 rfl ?_
  refine J_getK (o := 455) (ci := 12) (q := 18) (a := 465) E dX12_init_168 fs_X12_39 (Nat.le_of_ble_eq_true rfl) rfl ?_
  refine J_bipush (v := nI 27) E dX12_init_171 (by decide +kernel) ?_
  refine J_iconst (v := nI 1) E dX12_init_173 (by decide +kernel) ?_
  refine G_ist (μ' := stu (stu (stu (stu μ 456 201 (nI 4)) 456 202 (nI 30)) 456 203 (nI 1)) 465 27 (nI 1)) E dX12_init_174 sh465 (Nat.le_of_ble_eq_true rfl) (by decide) (Nat.le_of_ble_eq_true rfl) (by decide) (by decide) rfl ?_
  refine J_vret E hB dX12_init_175 rfl (K_out (μ := muM μ) sh455 ?_)
  have e : muM μ 455 = fun _ => 0 := by unfold muM; rw [stu_n (by decide), stu_n (by decide), stu_n (by decide), stu_n (by decide)]; exact hz 455 (Nat.le_of_ble_eq_true rfl)
  rw [e]
  simp only [fieldsOf, mkL_0]
