/-! ROWS: constructors that fill rows of references (by program) -/
/-- a row of references -/
def rfs (Z : ZT) (N : Nat) (f : Nat → Option Nat) : va_E := .inl (Z.2.2.2.1 3, N, .inr (.inr (.inr (.inr f))))
/-- its first i elements are there -/
def Fl (Z : ZT) (a i : Nat) : Nat → Option Nat := fun j => if j < i then some (Z.2.2.1 + el a j) else none
theorem Fl_0 {Z : ZT} {a : Nat} : Fl Z a 0 = fun _ => none := funext fun j => if_neg (Nat.not_lt_zero j)
theorem Fl_up {Z : ZT} {a i n : Nat} (h : el a i = n) : va_up (Fl Z a i) i (some (Z.2.2.1 + n)) = Fl Z a (i + 1) := funext fun j => by
  subst h
  unfold Fl
  by_cases h : j = i
  · subst h; rw [va_up_s, if_pos (Nat.lt_succ_self j)]
  · rw [va_up_n h]
    by_cases h2 : j < i
    · rw [if_pos h2, if_pos (by omega)]
    · rw [if_neg h2, if_neg (by omega)]
theorem va_up_c {α : Type} {f : Nat → α} {a b : Nat} {x y : α} (h : a ≠ b) : va_up (va_up f a x) b y = va_up (va_up f b y) a x := funext fun z => by
  by_cases z1 : z = b
  · subst z1; rw [va_up_s, va_up_n (Ne.symm h), va_up_s]
  · rw [va_up_n z1]
    by_cases z2 : z = a
    · subst z2; rw [va_up_s, va_up_s]
    · rw [va_up_n z2, va_up_n z2, va_up_n z1]
theorem SHN_106 {i : Nat} (h : i < 37) : SH (111 + 4 * i) = .inl 0 := (show ∀ i, i < 37 → SH (111 + 4 * i) = .inl 0 by decide +kernel) i h
theorem SHN_107 {i : Nat} (h : i < 37) : SH (113 + 4 * i) = .inl 0 := (show ∀ i, i < 37 → SH (113 + 4 * i) = .inl 0 by decide +kernel) i h
theorem SHN_108 {i : Nat} (h : i < 7) : SH (259 + 2 * i) = .inl 0 := (show ∀ i, i < 7 → SH (259 + 2 * i) = .inl 0 by decide +kernel) i h
theorem i_X8 {Z : ZT} {μ : Mu} {M : Mem} (hz : ∀ a, 73 ≤ a → a ≠ 105 → μ a = fun _ => 0) (hm : μ 105 = fun q => if q = 2 then nI 106 else if q = 3 then nI 107 else 0) (hM : M 105 = .inr (8, [.int 0, .int 0, .null, .null, .null, .null])) : Ctr Z mX8_init [.ref (Z.2.2.1 + 105)] (105 + 1) (105 + 1 + 167) 2213 M (PK Z μ M 105 (105 + 1 + 167)) := by
  refine CtrK (by decide +kernel) (Nat.le_of_ble_eq_true rfl) rfl fun X E hB => ?_
  refine K_in (μ := μ) hM ?_
  refine J_aload_n E dX8_init_0 rfl ?_
  refine J_oinit (o := 105) E dX8_init_1 w2_64 w1_27 w1_28 (Nat.le_of_ble_eq_true rfl) (Nat.le_of_ble_eq_true rfl) ?_
  refine J_aload_n E dX8_init_4 rfl ?_
  refine J_bipush (v := nI 37) E dX8_init_5 (by decide +kernel) ?_
  refine G_refs (N := 37) (o := 105) (ci := 8) (q := 2) E dX8_init_7 dX8_init_10 w2_65 (by decide) fs_X8_13 ff_X8_2 rfl (Nat.le_of_ble_eq_true rfl) (Nat.le_of_ble_eq_true rfl) (Nat.le_of_ble_eq_true rfl) (Nat.le_of_ble_eq_true rfl) ?_
  rw [← Fl_0 (Z := Z) (a := 106)]
  show J Z X 107 1 37 13 [(0, .ref (Z.2.2.1 + 105))] [] (va_up (va_up (BS Z μ M 105) 106 (rfs Z 37 (Fl Z 106 0))) 105 (.inr (8, [.int 0, .int 0, .ref (Z.2.2.1 + 106), .null, .null, .null])))
  refine J_aload_n E dX8_init_13 rfl ?_
  refine J_bipush (v := nI 37) E dX8_init_14 (by decide +kernel) ?_
  refine G_refs (N := 37) (o := 105) (ci := 8) (q := 3) E dX8_init_16 dX8_init_19 w2_65 (by decide) fs_X8_17 ff_X8_3 rfl (Nat.le_of_ble_eq_true rfl) (Nat.le_of_ble_eq_true rfl) (Nat.le_of_ble_eq_true rfl) (Nat.le_of_ble_eq_true rfl) ?_
  rw [← Fl_0 (Z := Z) (a := 107)]
  show J Z X 108 2 74 22 [(0, .ref (Z.2.2.1 + 105))] [] (va_up (va_up (va_up (BS Z μ M 105) 106 (rfs Z 37 (Fl Z 106 0))) 107 (rfs Z 37 (Fl Z 107 0))) 105 (.inr (8, [.int 0, .int 0, .ref (Z.2.2.1 + 106), .ref (Z.2.2.1 + 107), .null, .null])))
  refine J_aload_n E dX8_init_22 rfl ?_
  refine J_bipush (v := nI 7) E dX8_init_23 (by decide +kernel) ?_
  refine G_refs (N := 7) (o := 105) (ci := 8) (q := 4) E dX8_init_25 dX8_init_28 w2_65 (by decide) fs_X8_20 ff_X8_4 rfl (Nat.le_of_ble_eq_true rfl) (Nat.le_of_ble_eq_true rfl) (Nat.le_of_ble_eq_true rfl) (Nat.le_of_ble_eq_true rfl) ?_
  rw [← Fl_0 (Z := Z) (a := 108)]
  show J Z X 109 3 81 31 [(0, .ref (Z.2.2.1 + 105))] [] (va_up (va_up (va_up (va_up (BS Z μ M 105) 106 (rfs Z 37 (Fl Z 106 0))) 107 (rfs Z 37 (Fl Z 107 0))) 108 (rfs Z 7 (Fl Z 108 0))) 105 (.inr (8, [.int 0, .int 0, .ref (Z.2.2.1 + 106), .ref (Z.2.2.1 + 107), .ref (Z.2.2.1 + 108), .null])))
  refine J_aload_n E dX8_init_31 rfl ?_
  refine J_new (ci := 0) (fs := [.null, .int 0]) E dX8_init_32 rfl uX0 tyX0 tyX0_ok w2_65 w2_11 w1_8 df_X0 (Nat.le_of_ble_eq_true rfl) (Nat.le_of_ble_eq_true rfl) ?_
  refine J_dup E dX8_init_35 rfl ?_
  refine G_callN (μ' := μ) (As := []) (d := 1) (ms := 24) (o := 105) (ci := 8) (q := 5) E dX8_init_36 dX8_init_39 (i_X0 sh109 va_up_s sh110 (hz 110 (by decide) (by decide)) (by rw [(hz 109 (by decide) (by decide))])) kX0_init ⟨(Nat.le_of_ble_eq_true rfl), (Nat.le_of_ble_eq_true rfl)⟩ rfl (by decide) w2_67 w2_13 rfl rfl fs_X8_24 ff_X8_5 rfl (Nat.le_of_ble_eq_true rfl) (Nat.le_of_ble_eq_true rfl) (fun a h _ => by rw [va_up_n (by omega), va_up_n (by omega), va_up_n (by omega)]; exact BS_ge (by omega)) (Nat.le_of_ble_eq_true rfl) (Nat.le_of_ble_eq_true rfl) ?_
  show J Z X 111 5 107 42 [(0, .ref (Z.2.2.1 + 105))] [] (va_up (va_up (va_up (va_up (BS Z μ M 105) 106 (rfs Z 37 (Fl Z 106 0))) 107 (rfs Z 37 (Fl Z 107 0))) 108 (rfs Z 7 (Fl Z 108 0))) 105 (.inr (8, [.int 0, .int 0, .ref (Z.2.2.1 + 106), .ref (Z.2.2.1 + 107), .ref (Z.2.2.1 + 108), .ref (Z.2.2.1 + 109)])))
  refine J_iconst (v := nI 0) E dX8_init_42 (by decide +kernel) ?_
  refine J_istore_n (lv' := [(0, .ref (Z.2.2.1 + 105)), (1, .int (nI 0))]) E dX8_init_43 (Nat.le_of_ble_eq_true rfl) rfl ?_
  have lp : ∀ d i, i + d = 37 → J Z X (111 + 4 * i) (5 + 4 * i) (107 + 52 * i) 44 [(0, .ref (Z.2.2.1 + 105)), (1, .int (nI i))] [] (va_up (va_up (va_up (va_up (BS Z μ M 105) 108 (rfs Z 7 (Fl Z 108 0))) 107 (rfs Z 37 (Fl Z 107 i))) 106 (rfs Z 37 (Fl Z 106 i))) 105 (.inr (8, [.int 0, .int 0, .ref (Z.2.2.1 + 106), .ref (Z.2.2.1 + 107), .ref (Z.2.2.1 + 108), .ref (Z.2.2.1 + 109)]))) := by
    intro d
    induction d with
    | succ d ih =>
      intro i hi
      refine J_iload_n E dX8_init_44 rfl ?_
      refine J_bipush (v := nI 36) E dX8_init_45 (by decide +kernel) ?_
      refine J_icmp_gt (tgt := 82) E dX8_init_47 (by decide) (fun c => by rw [nI_ltE (by omega) (by omega)] at c; omega) (fun _ => ?_)
      refine G_fill (lc := 0) (μ' := μ) (o := 105) (ci := 8) (q := 2) (N := 37) (a := 106) E dX8_init_50 dX8_init_51 dX8_init_54 dX8_init_55 dX8_init_58 dX8_init_59 dX8_init_62 rfl rfl fs_X8_13 rfl w2_65 w2_11 w1_8 df_X0 ⟨(Nat.le_of_ble_eq_true rfl), (Nat.le_of_ble_eq_true rfl)⟩ (Or.inr w2_67) w2_13 (by omega) (by omega) (by decide) (by omega) (by decide) (SHN_106 (by omega)) (shr_X0_0 (SHN_106 (by omega))) (hz _ (by omega) (by omega)) (hz _ (by omega) (by omega)) (fun y h1 h2 => by rw [va_up_n (by omega), va_up_n (by omega), BS_ge (by omega)]) (by omega) (by omega) ?_
      rw [Fl_up (show el 106 i = 111 + 4 * i from rfl)]
      refine J.mem (fun y _ => congrFun (congrArg (fun m => va_up m 105 _) (va_up_c (by decide))) y) ?_
      refine J.cast (n' := 113 + 4 * i) (k' := 7 + 4 * i) (sl' := 133 + 52 * i) (by omega) (by omega) (by omega) ?_
      refine G_fill (lc := 0) (μ' := μ) (o := 105) (ci := 8) (q := 3) (N := 37) (a := 107) E dX8_init_63 dX8_init_64 dX8_init_67 dX8_init_68 dX8_init_71 dX8_init_72 dX8_init_75 rfl rfl fs_X8_17 rfl w2_65 w2_11 w1_8 df_X0 ⟨(Nat.le_of_ble_eq_true rfl), (Nat.le_of_ble_eq_true rfl)⟩ (Or.inr w2_67) w2_13 (by omega) (by omega) (by decide) (by omega) (by decide) (SHN_107 (by omega)) (shr_X0_0 (SHN_107 (by omega))) (hz _ (by omega) (by omega)) (hz _ (by omega) (by omega)) (fun y h1 h2 => by rw [va_up_n (by omega), va_up_n (by omega), BS_ge (by omega)]) (by omega) (by omega) ?_
      rw [Fl_up (show el 107 i = 113 + 4 * i from rfl)]
      refine J.mem (fun y _ => congrFun (congrArg (fun m => va_up m 105 _) (va_up_c (by decide))) y) ?_
      refine J_iinc (v := nI (i + 1)) (lv' := [(0, .ref (Z.2.2.1 + 105)), (1, .int (nI (i + 1)))]) E dX8_init_76 rfl (nI_add i 1) (Nat.le_of_ble_eq_true rfl) rfl ?_
      refine J_goto (tgt := 44) E dX8_init_79 (by decide) ?_
      refine J.cast (by omega) (by omega) (by omega) (ih (i + 1) (by omega))
    | zero =>
      intro i hi
      obtain rfl : i = 37 := hi
      refine J_iload_n E dX8_init_44 rfl ?_
      refine J_bipush (v := nI 36) E dX8_init_45 (by decide +kernel) ?_
      refine J_icmp_gt (tgt := 82) E dX8_init_47 (by decide) (fun _ => ?_) (fun c => absurd (by decide) c)
      refine J.cast (n' := 259) (k' := 153) (sl' := 2031) rfl rfl rfl ?_
      refine J.weak (lv' := [(0, .ref (Z.2.2.1 + 105))]) [0] rfl ?_
      refine J.mem (M' := va_up (va_up (va_up (va_up (BS Z μ M 105) 107 (rfs Z 37 (Fl Z 107 37))) 106 (rfs Z 37 (Fl Z 106 37))) 108 (rfs Z 7 (Fl Z 108 0))) 105 (.inr (8, [.int 0, .int 0, .ref (Z.2.2.1 + 106), .ref (Z.2.2.1 + 107), .ref (Z.2.2.1 + 108), .ref (Z.2.2.1 + 109)]))) (fun y hy => ?_) ?_
      · by_cases y0 : y = 105
        · subst y0; rw [va_up_s, va_up_s]
        · rw [va_up_n y0, va_up_n y0]
          simp only [va_up]
          split <;> (try split) <;> (try split) <;> (try split) <;> (try split) <;> (try split) <;> first | rfl | omega
      refine J_iconst (v := nI 0) E dX8_init_82 (by decide +kernel) ?_
      refine J_istore_n (lv' := [(0, .ref (Z.2.2.1 + 105)), (1, .int (nI 0))]) E dX8_init_83 (Nat.le_of_ble_eq_true rfl) rfl ?_
      have lp : ∀ d i, i + d = 7 → J Z X (259 + 2 * i) (153 + 2 * i) (2031 + 26 * i) 84 [(0, .ref (Z.2.2.1 + 105)), (1, .int (nI i))] [] (va_up (va_up (va_up (va_up (BS Z μ M 105) 107 (rfs Z 37 (Fl Z 107 37))) 106 (rfs Z 37 (Fl Z 106 37))) 108 (rfs Z 7 (Fl Z 108 i))) 105 (.inr (8, [.int 0, .int 0, .ref (Z.2.2.1 + 106), .ref (Z.2.2.1 + 107), .ref (Z.2.2.1 + 108), .ref (Z.2.2.1 + 109)]))) := by
        intro d
        induction d with
        | succ d ih =>
          intro i hi
          refine J_iload_n E dX8_init_84 rfl ?_
          refine J_bipush (v := nI 6) E dX8_init_85 (by decide +kernel) ?_
          refine J_icmp_gt (tgt := 109) E dX8_init_87 (by decide) (fun c => by rw [nI_ltE (by omega) (by omega)] at c; omega) (fun _ => ?_)
          refine G_fill (lc := 0) (μ' := μ) (o := 105) (ci := 8) (q := 4) (N := 7) (a := 108) E dX8_init_90 dX8_init_91 dX8_init_94 dX8_init_95 dX8_init_98 dX8_init_99 dX8_init_102 rfl rfl fs_X8_20 rfl w2_65 w2_11 w1_8 df_X0 ⟨(Nat.le_of_ble_eq_true rfl), (Nat.le_of_ble_eq_true rfl)⟩ (Or.inr w2_67) w2_13 (by omega) (by omega) (by decide) (by omega) (by decide) (SHN_108 (by omega)) (shr_X0_0 (SHN_108 (by omega))) (hz _ (by omega) (by omega)) (hz _ (by omega) (by omega)) (fun y h1 h2 => by rw [va_up_n (by omega), va_up_n (by omega), BS_ge (by omega)]) (by omega) (by omega) ?_
          rw [Fl_up (show el 108 i = 259 + 2 * i from rfl)]
          refine J_iinc (v := nI (i + 1)) (lv' := [(0, .ref (Z.2.2.1 + 105)), (1, .int (nI (i + 1)))]) E dX8_init_103 rfl (nI_add i 1) (Nat.le_of_ble_eq_true rfl) rfl ?_
          refine J_goto (tgt := 84) E dX8_init_106 (by decide) ?_
          refine J.cast (by omega) (by omega) (by omega) (ih (i + 1) (by omega))
        | zero =>
          intro i hi
          obtain rfl : i = 7 := hi
          refine J_iload_n E dX8_init_84 rfl ?_
          refine J_bipush (v := nI 6) E dX8_init_85 (by decide +kernel) ?_
          refine J_icmp_gt (tgt := 109) E dX8_init_87 (by decide) (fun _ => ?_) (fun c => absurd (by decide) c)
          refine J.cast (n' := 273) (k' := 167) (sl' := 2213) rfl rfl rfl ?_
          refine J.weak (lv' := [(0, .ref (Z.2.2.1 + 105))]) [0] rfl ?_
          refine J.memq (M' := va_up (BS Z μ M 105) 105 (.inr (8, [.int 0, .int 0, .ref (Z.2.2.1 + 106), .ref (Z.2.2.1 + 107), .ref (Z.2.2.1 + 108), .ref (Z.2.2.1 + 109)]))) (fun y hy => ?_) ?_
          · by_cases q1 : y = 106
            · subst q1
              refine Or.inr ⟨Z.2.2.2.1 3, 37, Fl Z 106 37, fun i => some (Z.2.2.1 + el 106 i), ?_, ?_, fun j hj => if_pos hj⟩
              · simp [va_up, rfs]
              · rw [va_up_n (by decide), BS_ge (by decide), WM_ref (t := 0) sh106]
            by_cases q2 : y = 107
            · subst q2
              refine Or.inr ⟨Z.2.2.2.1 3, 37, Fl Z 107 37, fun i => some (Z.2.2.1 + el 107 i), ?_, ?_, fun j hj => if_pos hj⟩
              · simp [va_up, rfs]
              · rw [va_up_n (by decide), BS_ge (by decide), WM_ref (t := 0) sh107]
            by_cases q3 : y = 108
            · subst q3
              refine Or.inr ⟨Z.2.2.2.1 3, 7, Fl Z 108 7, fun i => some (Z.2.2.1 + el 108 i), ?_, ?_, fun j hj => if_pos hj⟩
              · simp [va_up, rfs]
              · rw [va_up_n (by decide), BS_ge (by decide), WM_ref (t := 0) sh108]
            refine Or.inl ?_
            by_cases q0 : y = 105
            · subst q0; rw [va_up_s, va_up_s]
            · rw [va_up_n q0, va_up_n q3, va_up_n q1, va_up_n q2, va_up_n q0]
          exact J_vret E hB dX8_init_109 rfl (K_out sh105 (by rw [hm]; rfl))
      exact J.cast (by omega) (by omega) (by omega) (lp 7 0 (by decide))
  exact J.cast (by omega) (by omega) (by omega) (lp 37 0 (by decide))
