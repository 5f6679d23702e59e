/-! FRACTION: its constructor, that sets a Big to 1 -/
/-- a Big at o with its digits f and u of them used -/
def BG (Z : ZT) (Mo : Mem) (o : Nat) (f : Nat → Int32) (u : Int32) : Mem := va_up (va_up Mo (o + 1) (.inl (Z.2.2.2.1 0, 24, .inl f))) o (.inr (0, [.ref (Z.2.2.1 + (o + 1)), .int u]))
section FRACI
variable {Z : ZT} {Mo M : Mem} {o n : Nat} {f : Nat → Int32} {u : Int32} {μ : Mu}
theorem BG_o : BG Z Mo o f u o = .inr (0, [.ref (Z.2.2.1 + (o + 1)), .int u]) := va_up_s
theorem BG_1 : BG Z Mo o f u (o + 1) = .inl (Z.2.2.2.1 0, 24, .inl f) := by unfold BG; rw [va_up_n (by omega), va_up_s]
theorem BG_n {a : Nat} (h0 : a ≠ o) (h1 : a ≠ o + 1) : BG Z Mo o f u a = Mo a := by unfold BG; rw [va_up_n h0, va_up_n h1]
theorem BG_u {v : Int32} : va_up (BG Z Mo o f u) o (.inr (0, [.ref (Z.2.2.1 + (o + 1)), .int v])) = BG Z Mo o f v := funext fun a => by
  by_cases h : a = o
  · subst h; rw [va_up_s, BG_o]
  · rw [va_up_n h]
    by_cases h1 : a = o + 1
    · subst h1; rw [BG_1, BG_1]
    · rw [BG_n h h1, BG_n h h1]
theorem BG_f {f' : Nat → Int32} : va_up (BG Z Mo o f u) (o + 1) (.inl (Z.2.2.2.1 0, 24, .inl f')) = BG Z Mo o f' u := funext fun a => by
  by_cases h1 : a = o + 1
  · subst h1; rw [va_up_s, BG_1]
  · rw [va_up_n h1]
    by_cases h : a = o
    · subst h; rw [BG_o, BG_o]
    · rw [BG_n h h1, BG_n h h1]
theorem c_trimB (hn : o + 2 ≤ n) (h0 : ¬ f 0 = 0) : Ctr Z mX0_trim [.ref (Z.2.2.1 + o), .int (nI 1)] n (n + 0) 0 (BG Z Mo o f u) (fun r M' => r = none ∧ M' = BG Z Mo o f (nI 1)) := by
  refine CtrK (by decide +kernel) (Nat.le_of_ble_eq_true rfl) rfl fun X E hB => ?_
  refine J_aload_n E dX0_trim_0 rfl ?_
  refine J_iload_n E dX0_trim_1 rfl ?_
  refine J_bipush (v := nI 24) E dX0_trim_2 rfl ?_
  refine J_mmin E dX0_trim_4 w2_188 w2_189 w1_13 w2_190 (Nat.le_of_ble_eq_true rfl) (Nat.le_of_ble_eq_true rfl) (Nat.le_refl 0) (Nat.le_refl 0) ?_
  rw [show (if nI 24 < nI 1 then nI 24 else nI 1) = nI 1 from by decide]
  obtain ⟨C, T, NN, h1, h2, h3, h4, h5⟩ := fs_X0_13
  cases h1
  refine J_put E dX0_trim_7 (by omega) BG_o rfl uX0 tyX0 tyX0_ok nmX0 1 (by decide) h4 rfl rfl (tyX0_ok 1 (by decide)) rfl rfl (Nat.le_of_ble_eq_true rfl) ?_
  refine J.mem (M' := BG Z Mo o f (nI 1)) (fun a _ => congrFun BG_u a) ?_
  refine J_aload_n E dX0_trim_10 rfl ?_
  refine J_get E dX0_trim_11 (by omega) BG_o rfl uX0 1 (by decide) h4 rfl rfl ?_
  refine J_istore_n (lv' := [(0, .ref (Z.2.2.1 + o)), (1, .int (nI 1)), (2, .int (nI 1))]) E dX0_trim_14 (Nat.le_of_ble_eq_true rfl) rfl ?_
  refine J_iload_n E dX0_trim_15 rfl ?_
  refine J_if_le (tgt := 43) E dX0_trim_16 (by decide) (fun c => absurd c (by decide)) (fun _ => ?_)
  refine J_aload_n E dX0_trim_19 rfl ?_
  obtain ⟨C, T, NN, g1, g2, g3, g4, g5⟩ := fs_X0_9
  cases g1
  refine J_get E dX0_trim_20 (by omega) BG_o rfl uX0 0 (by decide) g4 rfl rfl ?_
  refine J_iload_n E dX0_trim_23 rfl ?_
  refine J_iconst (v := nI 1) E dX0_trim_24 rfl ?_
  refine J_isub E dX0_trim_25 ?_
  rw [show nI 1 - nI 1 = nI 0 from by decide]
  refine J_iald E dX0_trim_26 (by omega) BG_1 (vin (by decide) (by decide)) ?_
  refine J_if_ne (tgt := 43) E dX0_trim_27 (by decide) (fun _ => ?_) (fun c => absurd c h0)
  exact J_vret E hB dX0_trim_43 rfl ⟨rfl, rfl⟩
theorem c_setB (hn : o + 2 ≤ n) : Ctr Z mX0_set [.ref (Z.2.2.1 + o), .int (nI 1)] n (n + 0) 0 (BG Z Mo o f (nI 0)) (fun r M' => r = none ∧ M' = BG Z Mo o (upd f 0 (nI 1)) (nI 1)) := by
  refine CtrK (by decide +kernel) (Nat.le_of_ble_eq_true rfl) rfl fun X E hB => ?_
  obtain ⟨C, T, NN, h1, h2, h3, h4, h5⟩ := fs_X0_13
  cases h1
  obtain ⟨C, T, NN, g1, g2, g3, g4, g5⟩ := fs_X0_9
  cases g1
  refine J_iconst (v := nI 0) E dX0_set_0 rfl ?_
  refine J_istore_n (lv' := [(0, .ref (Z.2.2.1 + o)), (1, .int (nI 1)), (2, .int (nI 0))]) E dX0_set_1 (Nat.le_of_ble_eq_true rfl) rfl ?_
  refine J_iload_n E dX0_set_2 rfl ?_
  refine J_aload_n E dX0_set_3 rfl ?_
  refine J_get E dX0_set_4 (by omega) BG_o rfl uX0 1 (by decide) h4 rfl rfl ?_
  refine J_icmp_ge (tgt := 23) E dX0_set_7 (by decide) (fun _ => ?_) (fun c => absurd (by decide) c)
  refine J_aload_n E dX0_set_23 rfl ?_
  refine J_get E dX0_set_24 (by omega) BG_o rfl uX0 0 (by decide) g4 rfl rfl ?_
  refine J_iconst (v := nI 0) E dX0_set_27 rfl ?_
  refine J_iload_n E dX0_set_28 rfl ?_
  refine J_ldc (v := nI 1073741823) E dX0_set_29 w2_183 ?_
  refine J_iand E dX0_set_31 ?_
  rw [show nI 1 &&& nI 1073741823 = nI 1 from by decide]
  refine J_iast E dX0_set_32 (by omega) BG_1 (vin (by decide) (by decide)) ?_
  refine J.mem (M' := BG Z Mo o (upd f 0 (nI 1)) (nI 0)) (fun a _ => congrFun BG_f a) ?_
  refine J_aload_n E dX0_set_33 rfl ?_
  refine J_iconst (v := nI 1) E dX0_set_34 rfl ?_
  refine J_callV (As := [.int (nI 1)]) (rest := []) E dX0_set_35 (c_trimB hn (by rw [show upd f 0 (nI 1) 0 = nI 1 from if_pos rfl]; decide)) kX0_trim ⟨Nat.le_of_ble_eq_true rfl, Nat.le_of_ble_eq_true rfl⟩ rfl (Nat.le_of_ble_eq_true rfl) (by omega) (by omega) (by omega) (by omega) BG_o rfl w2_184 w2_186 wp_0 (fun r M' hp => ?_)
  obtain ⟨rfl, rfl⟩ := hp
  refine J.cast (n' := n) (k' := 0) (sl' := 0) rfl (by omega) rfl ?_
  exact J_vret E hB dX0_set_38 rfl ⟨rfl, rfl⟩
end FRACI
