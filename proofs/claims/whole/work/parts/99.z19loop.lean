/-! LOOP: the law's loop (by program) -/
section LLOOP
variable {Z : ZT} {X : XT} {nm : String} {b L i : Nat} {μ : Mu} {xs : Nat → Int32}
theorem and63 (x : Int32) : ∃ j, j < 64 ∧ x &&& nI 63 = nI j := by
  refine ⟨(x &&& nI 63).toBitVec.toNat, ?_, ?_⟩
  · rw [Int32.toBitVec_and, BitVec.toNat_and]
    exact Nat.lt_of_le_of_lt Nat.and_le_right (by decide)
  · apply Int32.toBitVec_inj.mp
    show (x &&& nI 63).toBitVec = BitVec.ofNat 32 (x &&& nI 63).toBitVec.toNat
    rw [BitVec.ofNat_toNat, BitVec.setWidth_eq]
theorem law_switch (E : Ent Z X (mL nm) 600000 7302249) (S : Scr Z X b L xs) (hi : i + 6 ≤ L) (V : Inv μ) (kk : ∀ μ', Inv μ' → LJ Z X 1311 (LV Z b i) [] μ') : ∀ j, j < 64 → LJ Z X 33 (LV Z b i) [.int (nI j)] μ := by
  intro j hj
  match j, hj with
  | 0, _ => exact J_tableIn (off := 167) (tgt := 200) E dL_law_33 (by decide) (by decide) (by decide +kernel) (by decide) (lc_0 E S hi V kk)
  | 1, _ => exact J_tableIn (off := 180) (tgt := 213) E dL_law_33 (by decide) (by decide) (by decide +kernel) (by decide) (lc_1 E S hi V kk)
  | 2, _ => exact J_tableIn (off := 223) (tgt := 256) E dL_law_33 (by decide) (by decide) (by decide +kernel) (by decide) (lc_2 E S hi V kk)
  | 3, _ => exact J_tableIn (off := 256) (tgt := 289) E dL_law_33 (by decide) (by decide) (by decide +kernel) (by decide) (lc_3 E S hi V kk)
  | 4, _ => exact J_tableIn (off := 335) (tgt := 368) E dL_law_33 (by decide) (by decide) (by decide +kernel) (by decide) (lc_4 E S hi V kk)
  | 5, _ => exact J_tableIn (off := 368) (tgt := 401) E dL_law_33 (by decide) (by decide) (by decide +kernel) (by decide) (lc_5 E S hi V kk)
  | 6, _ => exact J_tableIn (off := 401) (tgt := 434) E dL_law_33 (by decide) (by decide) (by decide +kernel) (by decide) (lc_6 E S hi V kk)
  | 7, _ => exact J_tableIn (off := 434) (tgt := 467) E dL_law_33 (by decide) (by decide) (by decide +kernel) (by decide) (lc_7 E S hi V kk)
  | 8, _ => exact J_tableIn (off := 457) (tgt := 490) E dL_law_33 (by decide) (by decide) (by decide +kernel) (by decide) (lc_8 E S hi V kk)
  | 9, _ => exact J_tableIn (off := 490) (tgt := 523) E dL_law_33 (by decide) (by decide) (by decide +kernel) (by decide) (lc_9 E S hi V kk)
  | 10, _ => exact J_tableIn (off := 523) (tgt := 556) E dL_law_33 (by decide) (by decide) (by decide +kernel) (by decide) (lc_10 E S hi V kk)
  | 11, _ => exact J_tableIn (off := 546) (tgt := 579) E dL_law_33 (by decide) (by decide) (by decide +kernel) (by decide) (lc_11 E S hi V kk)
  | 12, _ => exact J_tableIn (off := 579) (tgt := 612) E dL_law_33 (by decide) (by decide) (by decide +kernel) (by decide) (lc_12 E S hi V kk)
  | 13, _ => exact J_tableIn (off := 642) (tgt := 675) E dL_law_33 (by decide) (by decide) (by decide +kernel) (by decide) (lc_13 E S hi V kk)
  | 14, _ => exact J_tableIn (off := 655) (tgt := 688) E dL_law_33 (by decide) (by decide) (by decide +kernel) (by decide) (lc_14 E S hi V kk)
  | 15, _ => exact J_tableIn (off := 668) (tgt := 701) E dL_law_33 (by decide) (by decide) (by decide +kernel) (by decide) (lc_15 E S hi V kk)
  | 16, _ => exact J_tableIn (off := 701) (tgt := 734) E dL_law_33 (by decide) (by decide) (by decide +kernel) (by decide) (lc_16 E S hi V kk)
  | 17, _ => exact J_tableIn (off := 734) (tgt := 767) E dL_law_33 (by decide) (by decide) (by decide +kernel) (by decide) (lc_17 E S hi V kk)
  | 18, _ => exact J_tableIn (off := 767) (tgt := 800) E dL_law_33 (by decide) (by decide) (by decide +kernel) (by decide) (lc_18 E S hi V kk)
  | 19, _ => exact J_tableIn (off := 810) (tgt := 843) E dL_law_33 (by decide) (by decide) (by decide +kernel) (by decide) (lc_19 E S hi V kk)
  | 20, _ => exact J_tableIn (off := 833) (tgt := 866) E dL_law_33 (by decide) (by decide) (by decide +kernel) (by decide) (lc_20 E S hi V kk)
  | 21, _ => exact J_tableIn (off := 856) (tgt := 889) E dL_law_33 (by decide) (by decide) (by decide +kernel) (by decide) (lc_21 E S hi V kk)
  | 22, _ => exact J_tableIn (off := 889) (tgt := 922) E dL_law_33 (by decide) (by decide) (by decide +kernel) (by decide) (lc_22 E S hi V kk)
  | 23, _ => exact J_tableIn (off := 922) (tgt := 955) E dL_law_33 (by decide) (by decide) (by decide +kernel) (by decide) (lc_23 E S hi V kk)
  | 24, _ => exact J_tableIn (off := 935) (tgt := 968) E dL_law_33 (by decide) (by decide) (by decide +kernel) (by decide) (lc_24 E S hi V kk)
  | 25, _ => exact J_tableIn (off := 958) (tgt := 991) E dL_law_33 (by decide) (by decide) (by decide +kernel) (by decide) (lc_25 E S hi V kk)
  | 26, _ => exact J_tableIn (off := 981) (tgt := 1014) E dL_law_33 (by decide) (by decide) (by decide +kernel) (by decide) (lc_26 E S hi V kk)
  | 27, _ => exact J_tableIn (off := 1004) (tgt := 1037) E dL_law_33 (by decide) (by decide) (by decide +kernel) (by decide) (lc_27 E S hi V kk)
  | 28, _ => exact J_tableIn (off := 1027) (tgt := 1060) E dL_law_33 (by decide) (by decide) (by decide +kernel) (by decide) (lc_28 E S hi V kk)
  | 29, _ => exact J_tableIn (off := 1050) (tgt := 1083) E dL_law_33 (by decide) (by decide) (by decide +kernel) (by decide) (lc_29 E S hi V kk)
  | 30, _ => exact J_tableIn (off := 1083) (tgt := 1116) E dL_law_33 (by decide) (by decide) (by decide +kernel) (by decide) (lc_30 E S hi V kk)
  | 31, _ => exact J_tableIn (off := 1116) (tgt := 1149) E dL_law_33 (by decide) (by decide) (by decide +kernel) (by decide) (lc_31 E S hi V kk)
  | 32, _ => exact J_tableIn (off := 1139) (tgt := 1172) E dL_law_33 (by decide) (by decide) (by decide +kernel) (by decide) (lc_32 E S hi V kk)
  | 33, _ => exact J_tableIn (off := 1172) (tgt := 1205) E dL_law_33 (by decide) (by decide) (by decide +kernel) (by decide) (lc_33 E S hi V kk)
  | 34, _ => exact J_tableIn (off := 1195) (tgt := 1228) E dL_law_33 (by decide) (by decide) (by decide +kernel) (by decide) (lc_34 E S hi V kk)
  | 35, _ => exact J_tableIn (off := 1218) (tgt := 1251) E dL_law_33 (by decide) (by decide) (by decide +kernel) (by decide) (lc_35 E S hi V kk)
  | 36, _ => exact J_tableIn (off := 1241) (tgt := 1274) E dL_law_33 (by decide) (by decide) (by decide +kernel) (by decide) (lc_36 E S hi V kk)
  | 37, _ => exact J_tableIn (off := 1264) (tgt := 1297) E dL_law_33 (by decide) (by decide) (by decide +kernel) (by decide) (lc_37 E S hi V kk)
  | j + 38, hj =>
    refine J_tableOut (tgt := 1311) E dL_law_33 (Or.inr ?_) (by decide) (kk μ V)
    rw [nI_toInt (by omega)]
    omega
theorem law_head (E : Ent Z X (mL nm) 600000 7302249) (S : Scr Z X b L xs) (hiL : i ≤ 3072) (hx : LJ Z X 1317 (LV Z b i) [] μ) (hb : i + 6 ≤ L → LJ Z X 27 (LV Z b i) [] μ) : LJ Z X 18 (LV Z b i) [] μ := by
  have hL : L ≤ 3072 := S.2.2.2
  refine J_iload_n E dL_law_18 rfl ?_
  refine J_aload_n E dL_law_19 rfl ?_
  refine J_slen E S dL_law_20 ?_
  refine J_bipush (v := nI 6) E dL_law_21 (by decide +kernel) ?_
  refine J_isub E dL_law_23 ?_
  refine J_icmp_gt (tgt := 1317) E dL_law_24 (by decide) (fun _ => hx) (fun c => hb ?_)
  rcases Nat.lt_or_ge L 6 with h | h
  · have h1 : nI L - nI 6 < 0 := (show ∀ L, L < 6 → nI L - nI 6 < 0 by decide) L h
    exact absurd (Int32.lt_of_lt_of_le h1 (nI_pos' (by omega))) c
  · rw [nI_sub h] at c
    have : ¬ (L - 6 < i) := fun g => c ((nI_ltI (a := L - 6) (b := i) (by omega) (by omega)).mpr g)
    omega
theorem law_loop (E : Ent Z X (mL nm) 600000 7302249) (S : Scr Z X b L xs) (fin : ∀ i μ, LJ Z X 1317 (LV Z b i) [] μ) : ∀ d i μ, L ≤ i + d → i ≤ 3072 → Inv μ → LJ Z X 18 (LV Z b i) [] μ := by
  have hL : L ≤ 3072 := S.2.2.2
  intro d
  induction d with
  | zero =>
    intro i μ h hi V
    exact law_head E S hi (fin i μ) (fun g => by have h : L ≤ i := h; omega)
  | succ d ih =>
    intro i μ h hi V
    refine law_head E S hi (fin i μ) (fun g => ?_)
    refine J_aload_n E dL_law_27 rfl ?_
    refine J_iload_n E dL_law_28 rfl ?_
    refine J_sld E S (vin (by omega) (by omega)) dL_law_29 ?_
    refine J_bipush (v := nI 63) E dL_law_30 (by decide +kernel) ?_
    refine J_iand E dL_law_32 ?_
    obtain ⟨j, hj, ej⟩ := and63 (xs (nI i).toNatClampNeg)
    rw [ej]
    refine law_switch E S g V (fun μ' V' => ?_) j hj
    refine J_iinc (v := nI (i + 6)) (lv' := LV Z b (i + 6)) E dL_law_1311 rfl (nI_add i 6) (Nat.le_of_ble_eq_true rfl) rfl ?_
    refine J_goto (tgt := 18) E dL_law_1314 (by decide) ?_
    exact ih (i + 6) μ' (by omega) (by omega) V'
end LLOOP
