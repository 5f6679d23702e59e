/-! SELF: the constructor of the class (by program) -/
/-- the numbers with which all begins -/
def mu0 : Mu := fun _ _ => 0
def vN : Nat → Int32 := upd (upd (upd (upd (upd (fun _ => 0) 0 (nI 4)) 1 (nI 30)) 2 (nI 1)) 3 (nI 0)) 4 (nI 0)
def v8 : Nat → Int32 := fun q => if q = 2 then nI 106 else if q = 3 then nI 107 else 0
def mu8 : Mu := fun a => if a = 105 then v8 else fun _ => 0
def muX : Mu := fun a => if a = 28 ∨ a = 51 ∨ a = 68 then vN else if a = 105 then v8 else if a = 449 then upd (fun _ => 0) 1 (nI 1) else if a = 450 then upd (fun _ => 0) 0 (nI 1) else fun _ => 0
theorem muX_0 {a : Nat} (h1 : a ≠ 28) (h2 : a ≠ 51) (h3 : a ≠ 68) (h4 : a ≠ 105) (h5 : a ≠ 449) (h6 : a ≠ 450) : muX a = fun _ => 0 := by
  unfold muX
  rw [if_neg (by omega), if_neg h4, if_neg h5, if_neg h6]
theorem muX_N {a : Nat} (h : a = 28 ∨ a = 51 ∨ a = 68) : muX a = vN := if_pos h
theorem muN_1 {o : Nat} : muN mu0 o (o + 1) = vN := by
  unfold muN stu
  simp only [uR_s]
  rfl
theorem muN_n {o a : Nat} (h : a ≠ o + 1) : muN mu0 o a = fun _ => 0 := by
  unfold muN
  rw [stu_n h, stu_n h, stu_n h, stu_n h, stu_n h]
  rfl
theorem muF_0 {a : Nat} (h1 : 446 ≤ a) (h2 : a < 451) : muF mu0 a = muX a := by
  unfold muF
  rcases (show a = 446 ∨ a = 447 ∨ a = 448 ∨ a = 449 ∨ a = 450 by omega) with rfl | rfl | rfl | rfl | rfl
  · rw [stu_n (by decide), stu_n (by decide), muX_0 (by decide) (by decide) (by decide) (by decide) (by decide) (by decide)]; rfl
  · rw [stu_n (by decide), stu_n (by decide), muX_0 (by decide) (by decide) (by decide) (by decide) (by decide) (by decide)]; rfl
  · rw [stu_n (by decide), stu_n (by decide), muX_0 (by decide) (by decide) (by decide) (by decide) (by decide) (by decide)]; rfl
  · unfold stu
    rw [uR_s, uR_n (by decide)]
    rfl
  · unfold stu
    rw [uR_n (by decide), uR_s]
    rfl
theorem mu8_0 {a : Nat} (h1 : 105 ≤ a) (h2 : a < 446) : mu8 a = muX a := by
  unfold mu8
  by_cases h : a = 105
  · subst h; rfl
  · rw [if_neg h, muX_0 (by omega) (by omega) (by omega) h (by omega) (by omega)]
theorem muX_n {a : Nat} (h1 : a ≠ 28) (h2 : a ≠ 51) (h3 : a ≠ 68) (h4 : a ≠ 105) (h5 : a ≠ 449) (h6 : a ≠ 450) : mu0 a = muX a := (muX_0 h1 h2 h3 h4 h5 h6).symm
theorem muN_0 {o a : Nat} (ho : o = 27 ∨ o = 50 ∨ o = 67) (h1 : o ≤ a) (h2 : a < o + 1 + 3) : muN mu0 o a = muX a := by
  by_cases h : a = o + 1
  · subst h; rw [muN_1, muX_N (by omega)]
  · rw [muN_n h, muX_0 (by omega) (by omega) (by omega) (by omega) (by omega) (by omega)]
theorem WM_congr {Z : ZT} {μ μ' : Mu} {a : Nat} (h : μ a = μ' a) : WM Z μ a = WM Z μ' a := by
  show WMr Z a (μ a) = WMr Z a (μ' a)
  rw [h]
theorem PK.congr {Z : ZT} {μ μ' : Mu} {M : Mem} {o n : Nat} (h : ∀ a, o ≤ a → a < n → μ a = μ' a) : ∀ (r : Option Value) (M' : Mem), PK Z μ M o n r M' → PK Z μ' M o n r M' := fun _ _ hp =>
  ⟨hp.1, hp.2.1, fun a h1 h2 => (hp.2.2 a h1 h2).trans (WM_congr (h a h1 h2))⟩
/-- a row of references whose first i elements are there (defined again for the two rows of images) -/
def Fq (Z : ZT) (a i : Nat) : Nat → Option Nat := fun j => if j < i then some (Z.2.2.1 + el a j) else none
theorem Fq_0 {Z : ZT} {a : Nat} : Fq Z a 0 = fun _ => none := funext fun j => if_neg (Nat.not_lt_zero j)
theorem Fq_up {Z : ZT} {a i n : Nat} (h : el a i = n) : va_up (Fq Z a i) i (some (Z.2.2.1 + n)) = Fq Z a (i + 1) := funext fun j => by
  subst h
  unfold Fq
  by_cases h : j = i
  · subst h; rw [va_up_s, if_pos (Nat.lt_succ_self j)]
  · rw [va_up_n h]
    by_cases h2 : j < i
    · rw [if_pos h2, if_pos (by omega)]
    · rw [if_neg h2, if_neg (by omega)]
/-- the world while it is made: the two rows of images hold i and j -/
def MI (Z : ZT) (M : Mem) (i j : Nat) : Mem := va_up (va_up (BS Z muX M 0) 35 (.inl (Z.2.2.2.1 4, 2, .inr (.inr (.inr (.inr (Fq Z 35 i))))))) 36 (.inl (Z.2.2.2.1 5, 2, .inr (.inr (.inr (.inr (Fq Z 36 j))))))
theorem MI_n {Z : ZT} {M : Mem} {i j a : Nat} (h1 : a ≠ 35) (h2 : a ≠ 36) : MI Z M i j a = WM Z muX a := by
  unfold MI
  rw [va_up_n h2, va_up_n h1, BS_ge (Nat.zero_le a)]
theorem MI_35 {Z : ZT} {M : Mem} {i j : Nat} : MI Z M i j 35 = .inl (Z.2.2.2.1 4, 2, .inr (.inr (.inr (.inr (Fq Z 35 i))))) := by
  unfold MI
  rw [va_up_n (by decide), va_up_s]
theorem MI_36 {Z : ZT} {M : Mem} {i j : Nat} : MI Z M i j 36 = .inl (Z.2.2.2.1 5, 2, .inr (.inr (.inr (.inr (Fq Z 36 j))))) := by
  unfold MI
  rw [va_up_s]
section SELF
variable {Z : ZT} {X : XT} {mt : MT} {rc rs n k sl pc : Nat} {lv : List (Nat × Value)} {st : List Value} {M Mo : Mem}
theorem J_getM (E : Ent Z X mt rc rs) {i o ci q : Nat} {v : Value} {fs : List Value} (hd : decode mt.2.1 pc = .ok (.getfield i, 3)) (f : FS mt.1.cls i ci q) (ho : o < n) (hM : M o = .inr (ci, fs)) (hq : fs[q]? = some v) (kk : J Z X n k sl (pc + 3) lv (v :: st) M) : J Z X n k sl pc lv (.ref (Z.2.2.1 + o) :: st) M := by
  obtain ⟨C, T, NN, h1, h2, h3, h4, h5⟩ := f
  exact J_get E hd ho hM h1 h2 q h3 h4 h5 hq kk
/-- a new object, its constructor done, into a row of references -/
theorem G_fillC (E : Ent Z X mt rc rs) {μ' : Mu} {j a ci2 d ms t N i : Nat} {fs2 : List Value} {m2 : MT} {r : vw_C} {f : Nat → Option Nat} (hd1 : decode mt.2.1 pc = .ok (.invokespecial j, 3)) (hd : decode mt.2.1 (pc + 3) = .ok (.aastore, 1))
    (hC : Ctr Z m2 [.ref (Z.2.2.1 + n)] (n + 1) (n + 1 + d) ms (va_up Mo n (.inr (ci2, fs2))) (PK Z μ' (va_up Mo n (.inr (ci2, fs2))) n (n + 1 + d)))
    (ok : okM m2 0) (rm : okR mt m2) {host : String} (hw : (mt.1.cls, j, m2.1, host) ∈ NESTS) (hi : Cond.instanceMethod m2.1 ∈ ALL) (hI2 : m2.1.name = "<init>") (hv : m2.2.2.2.1 = none)
    (ha : a < n) (hMa : Mo a = .inl (Z.2.2.2.1 t, N, .inr (.inr (.inr (.inr f))))) (ht : (tysZ Z.2.2.2.1)[t]? = some (Z.2.2.2.1 t, .object r.1)) (hcl : vwCl[ci2]? = some r) (hs : SH n = .inl ci2) (hiN : i < N) (hN : N ≤ 100000) (hMo : ∀ y, n ≤ y → y < n + 1 + d → Mo y = WM Z μ' y) (hrc : k + d ≤ rc) (hrs : sl + ms ≤ rs)
    (kk : J Z X (n + 1 + d) (k + d) (sl + ms) (pc + 3 + 1) lv [] (va_up Mo a (.inl (Z.2.2.2.1 t, N, .inr (.inr (.inr (.inr (va_up f i (some (Z.2.2.1 + n))))))))))
    : J Z X (n + 1) k sl pc lv [.ref (Z.2.2.1 + n), .ref (Z.2.2.1 + n), .int (nI i), .ref (Z.2.2.1 + a)] (va_up Mo n (.inr (ci2, fs2))) := by
  refine J_callIN (As := []) (rest := [.ref (Z.2.2.1 + n), .int (nI i), .ref (Z.2.2.1 + a)]) E hd1 hC ok rm rfl (by simp only [List.map_cons, List.map_nil, List.sum_cons, List.sum_nil, show ∀ x, (Value.ref x).category = 1 from fun _ => rfl, show ∀ x, (Value.int x).category = 1 from fun _ => rfl]; omega) (by rw [Nat.add_sub_cancel_left]; exact hrc) hrs (by omega) hw hi hI2 hv fun r' M' hp => ?_
  obtain ⟨rfl, h1, h2⟩ := hp
  rw [Nat.add_sub_cancel_left]
  have e1 : M' a = .inl (Z.2.2.2.1 t, N, .inr (.inr (.inr (.inr f)))) := by rw [h1 a ha, va_up_n (by omega)]; exact hMa
  have e2 : M' n = .inr (ci2, fieldsOf Z ci2 n (μ' n)) := by rw [h2 n (Nat.le_refl _) (by omega), WM_obj hs]
  refine J_astq (r := r) (t := t) E hd (by omega) e1 ht (by omega) e2 hcl (vin hiN (by omega)) ?_
  rw [ix_n (by omega)]
  refine J.mem (fun y hy => ?_) kk
  by_cases y1 : y = a
  · subst y1; rw [va_up_s, va_up_s]
  · rw [va_up_n y1, va_up_n y1]
    rcases Nat.lt_or_ge y n with y3 | y3
    · rw [h1 y y3, va_up_n (by omega)]
    · rw [h2 y y3 hy, hMo y y3 hy]
end SELF
theorem w1_26 : Cond.methodLink RX11 1 Lib.objectInit ∈ ALL := all_tbl (tb1 (List.mem_of_getElem? (i := 26) rfl)) rfl
theorem w1_29 : Cond.classLink RX11 7 RX3 ∈ ALL := all_tbl (tb1 (List.mem_of_getElem? (i := 29) rfl)) rfl
theorem w1_30 : Cond.instantiable RX3 15 ∈ ALL := all_tbl (tb1 (List.mem_of_getElem? (i := 30) rfl)) rfl
theorem w1_31 : (RX11, 9, yX3_init, RX11) ∈ NESTS := List.mem_of_getElem? (i := 0) rfl
theorem w1_32 : Cond.instanceMethod yX3_init ∈ ALL := all_tbl (tb1 (List.mem_of_getElem? (i := 32) rfl)) rfl
theorem w1_100 : Cond.classLink RX11 19 RX6 ∈ ALL := all_tbl (tb1 (List.mem_of_getElem? (i := 100) rfl)) rfl
theorem w1_101 : Cond.instantiable RX6 4 ∈ ALL := all_tbl (tb1 (List.mem_of_getElem? (i := 101) rfl)) rfl
theorem w1_102 : (RX11, 21, yX6_init, RX11) ∈ NESTS := List.mem_of_getElem? (i := 1) rfl
theorem w1_103 : Cond.instanceMethod yX6_init ∈ ALL := all_tbl (tb1 (List.mem_of_getElem? (i := 103) rfl)) rfl
theorem w1_125 : Cond.classLink RX11 26 RX9 ∈ ALL := all_tbl (tb1 (List.mem_of_getElem? (i := 125) rfl)) rfl
theorem w1_126 : Cond.instantiable RX9 6 ∈ ALL := all_tbl (tb1 (List.mem_of_getElem? (i := 126) rfl)) rfl
theorem w1_127 : (RX11, 28, yX9_init, RX11) ∈ NESTS := List.mem_of_getElem? (i := 2) rfl
theorem w1_128 : Cond.instanceMethod yX9_init ∈ ALL := all_tbl (tb1 (List.mem_of_getElem? (i := 128) rfl)) rfl
theorem w1_154 : Cond.classLink RX11 49 RX10 ∈ ALL := all_tbl (tb1 (List.mem_of_getElem? (i := 154) rfl)) rfl
theorem w1_155 : Cond.instantiable RX10 5 ∈ ALL := all_tbl (tb1 (List.mem_of_getElem? (i := 155) rfl)) rfl
theorem w1_156 : Cond.methodLink RX11 51 yX10_init ∈ ALL := all_tbl (tb1 (List.mem_of_getElem? (i := 156) rfl)) rfl
theorem w1_157 : Cond.instanceMethod yX10_init ∈ ALL := all_tbl (tb1 (List.mem_of_getElem? (i := 157) rfl)) rfl
theorem w1_177 : Cond.classLink RX11 58 RX4 ∈ ALL := all_tbl (tb1 (List.mem_of_getElem? (i := 177) rfl)) rfl
theorem w1_178 : Cond.instantiable RX4 13 ∈ ALL := all_tbl (tb1 (List.mem_of_getElem? (i := 178) rfl)) rfl
theorem w1_179 : Cond.methodLink RX11 60 yX4_init ∈ ALL := all_tbl (tb1 (List.mem_of_getElem? (i := 179) rfl)) rfl
theorem w1_180 : Cond.instanceMethod yX4_init ∈ ALL := all_tbl (tb1 (List.mem_of_getElem? (i := 180) rfl)) rfl
theorem w2_4 : Cond.classLink RX11 70 RX5 ∈ ALL := all_tbl (tb2 (List.mem_of_getElem? (i := 4) rfl)) rfl
theorem w2_5 : Cond.instantiable RX5 9 ∈ ALL := all_tbl (tb2 (List.mem_of_getElem? (i := 5) rfl)) rfl
theorem w2_6 : Cond.methodLink RX11 72 yX5_init ∈ ALL := all_tbl (tb2 (List.mem_of_getElem? (i := 6) rfl)) rfl
theorem w2_7 : Cond.instanceMethod yX5_init ∈ ALL := all_tbl (tb2 (List.mem_of_getElem? (i := 7) rfl)) rfl
theorem w2_59 : Cond.classLink RX11 79 RX8 ∈ ALL := all_tbl (tb2 (List.mem_of_getElem? (i := 59) rfl)) rfl
theorem w2_60 : Cond.instantiable RX8 6 ∈ ALL := all_tbl (tb2 (List.mem_of_getElem? (i := 60) rfl)) rfl
theorem w2_61 : Cond.methodLink RX11 81 yX8_init ∈ ALL := all_tbl (tb2 (List.mem_of_getElem? (i := 61) rfl)) rfl
theorem w2_62 : Cond.instanceMethod yX8_init ∈ ALL := all_tbl (tb2 (List.mem_of_getElem? (i := 62) rfl)) rfl
theorem w2_88 : Cond.classLink RX11 86 RX7 ∈ ALL := all_tbl (tb2 (List.mem_of_getElem? (i := 88) rfl)) rfl
theorem w2_89 : Cond.instantiable RX7 8 ∈ ALL := all_tbl (tb2 (List.mem_of_getElem? (i := 89) rfl)) rfl
theorem w2_90 : Cond.methodLink RX11 88 yX7_init ∈ ALL := all_tbl (tb2 (List.mem_of_getElem? (i := 90) rfl)) rfl
theorem w2_91 : Cond.instanceMethod yX7_init ∈ ALL := all_tbl (tb2 (List.mem_of_getElem? (i := 91) rfl)) rfl
theorem w2_124 : Cond.classLink RX11 95 RX1 ∈ ALL := all_tbl (tb2 (List.mem_of_getElem? (i := 124) rfl)) rfl
theorem w2_125 : Cond.instantiable RX1 12 ∈ ALL := all_tbl (tb2 (List.mem_of_getElem? (i := 125) rfl)) rfl
theorem w2_126 : Cond.methodLink RX11 97 yX1_init ∈ ALL := all_tbl (tb2 (List.mem_of_getElem? (i := 126) rfl)) rfl
theorem w2_127 : Cond.instanceMethod yX1_init ∈ ALL := all_tbl (tb2 (List.mem_of_getElem? (i := 127) rfl)) rfl
theorem w2_171 : Cond.classLink RX11 104 RX2 ∈ ALL := all_tbl (tb2 (List.mem_of_getElem? (i := 171) rfl)) rfl
theorem w2_172 : Cond.instantiable RX2 2 ∈ ALL := all_tbl (tb2 (List.mem_of_getElem? (i := 172) rfl)) rfl
theorem w2_173 : Cond.methodLink RX11 106 yX2_init ∈ ALL := all_tbl (tb2 (List.mem_of_getElem? (i := 173) rfl)) rfl
theorem w2_174 : Cond.instanceMethod yX2_init ∈ ALL := all_tbl (tb2 (List.mem_of_getElem? (i := 174) rfl)) rfl
theorem w2_200 : Cond.classLink RX11 111 RX0 ∈ ALL := all_tbl (tb2 (List.mem_of_getElem? (i := 200) rfl)) rfl
theorem w2_201 : (RX11, 113, yX0_init, RX11) ∈ NESTS := List.mem_of_getElem? (i := 8) rfl
theorem ff_X11_0 : FF RX11 11 0 := fun C T N h => by cases h; exact ⟨rfl, ⟨tyX11, tyX11_ok⟩, nmX11, _, tyX11_ok 0 (by decide), fun a => ⟨rfl, rfl⟩⟩
theorem ff_X11_1 : FF RX11 11 1 := fun C T N h => by cases h; exact ⟨rfl, ⟨tyX11, tyX11_ok⟩, nmX11, _, tyX11_ok 1 (by decide), fun a => ⟨rfl, rfl⟩⟩
theorem ff_X11_2 : FF RX11 11 2 := fun C T N h => by cases h; exact ⟨rfl, ⟨tyX11, tyX11_ok⟩, nmX11, _, tyX11_ok 2 (by decide), fun a => ⟨rfl, rfl⟩⟩
theorem ff_X11_3 : FF RX11 11 3 := fun C T N h => by cases h; exact ⟨rfl, ⟨tyX11, tyX11_ok⟩, nmX11, _, tyX11_ok 3 (by decide), fun a => ⟨rfl, rfl⟩⟩
theorem ff_X11_4 : FF RX11 11 4 := fun C T N h => by cases h; exact ⟨rfl, ⟨tyX11, tyX11_ok⟩, nmX11, _, tyX11_ok 4 (by decide), fun a => ⟨rfl, rfl⟩⟩
theorem ff_X11_5 : FF RX11 11 5 := fun C T N h => by cases h; exact ⟨rfl, ⟨tyX11, tyX11_ok⟩, nmX11, _, tyX11_ok 5 (by decide), fun a => ⟨rfl, rfl⟩⟩
theorem ff_X11_6 : FF RX11 11 6 := fun C T N h => by cases h; exact ⟨rfl, ⟨tyX11, tyX11_ok⟩, nmX11, _, tyX11_ok 6 (by decide), fun a => ⟨rfl, rfl⟩⟩
theorem ff_X11_7 : FF RX11 11 7 := fun C T N h => by cases h; exact ⟨rfl, ⟨tyX11, tyX11_ok⟩, nmX11, _, tyX11_ok 7 (by decide), fun a => ⟨rfl, rfl⟩⟩
theorem ff_X11_8 : FF RX11 11 8 := fun C T N h => by cases h; exact ⟨rfl, ⟨tyX11, tyX11_ok⟩, nmX11, _, tyX11_ok 8 (by decide), fun a => ⟨rfl, rfl⟩⟩
theorem ff_X11_9 : FF RX11 11 9 := fun C T N h => by cases h; exact ⟨rfl, ⟨tyX11, tyX11_ok⟩, nmX11, _, tyX11_ok 9 (by decide), fun a => ⟨rfl, rfl⟩⟩
theorem ff_X11_10 : FF RX11 11 10 := fun C T N h => by cases h; exact ⟨rfl, ⟨tyX11, tyX11_ok⟩, nmX11, _, tyX11_ok 10 (by decide), fun a => ⟨rfl, rfl⟩⟩
theorem ff_X11_11 : FF RX11 11 11 := fun C T N h => by cases h; exact ⟨rfl, ⟨tyX11, tyX11_ok⟩, nmX11, _, tyX11_ok 11 (by decide), fun a => ⟨rfl, rfl⟩⟩
theorem ff_X11_12 : FF RX11 11 12 := fun C T N h => by cases h; exact ⟨rfl, ⟨tyX11, tyX11_ok⟩, nmX11, _, tyX11_ok 12 (by decide), fun a => ⟨rfl, rfl⟩⟩
theorem ff_X11_13 : FF RX11 11 13 := fun C T N h => by cases h; exact ⟨rfl, ⟨tyX11, tyX11_ok⟩, nmX11, _, tyX11_ok 13 (by decide), fun a => ⟨rfl, rfl⟩⟩
theorem ff_X11_14 : FF RX11 11 14 := fun C T N h => by cases h; exact ⟨rfl, ⟨tyX11, tyX11_ok⟩, nmX11, _, tyX11_ok 14 (by decide), fun a => ⟨rfl, rfl⟩⟩
theorem ff_X11_15 : FF RX11 11 15 := fun C T N h => by cases h; exact ⟨rfl, ⟨tyX11, tyX11_ok⟩, nmX11, _, tyX11_ok 15 (by decide), fun a => ⟨rfl, rfl⟩⟩
theorem ff_X11_16 : FF RX11 11 16 := fun C T N h => by cases h; exact ⟨rfl, ⟨tyX11, tyX11_ok⟩, nmX11, _, tyX11_ok 16 (by decide), fun a => ⟨rfl, rfl⟩⟩
theorem ff_X11_17 : FF RX11 11 17 := fun C T N h => by cases h; exact ⟨rfl, ⟨tyX11, tyX11_ok⟩, nmX11, _, tyX11_ok 17 (by decide), fun a => ⟨rfl, rfl⟩⟩
theorem df_X3 : ∀ j, j < 15 → defaultValue (tyX3 j) = vp_V [.int 0, .null, .null, .int 0, .null, .null, .null, .null, .int 0, .null, .null, .null, .null, .null, .null] j := fun j hj => by
  match j, hj with
  | 0, _ => rfl
  | 1, _ => rfl
  | 2, _ => rfl
  | 3, _ => rfl
  | 4, _ => rfl
  | 5, _ => rfl
  | 6, _ => rfl
  | 7, _ => rfl
  | 8, _ => rfl
  | 9, _ => rfl
  | 10, _ => rfl
  | 11, _ => rfl
  | 12, _ => rfl
  | 13, _ => rfl
  | 14, _ => rfl
theorem df_X6 : ∀ j, j < 4 → defaultValue (tyX6 j) = vp_V [.null, .int 0, .null, .null] j := fun j hj => by
  match j, hj with
  | 0, _ => rfl
  | 1, _ => rfl
  | 2, _ => rfl
  | 3, _ => rfl
theorem df_X9 : ∀ j, j < 6 → defaultValue (tyX9 j) = vp_V [.null, .int 0, .int 0, .null, .null, .int 0] j := fun j hj => by
  match j, hj with
  | 0, _ => rfl
  | 1, _ => rfl
  | 2, _ => rfl
  | 3, _ => rfl
  | 4, _ => rfl
  | 5, _ => rfl
theorem df_X10 : ∀ j, j < 5 → defaultValue (tyX10 j) = vp_V [.null, .null, .null, .null, .null] j := fun j hj => by
  match j, hj with
  | 0, _ => rfl
  | 1, _ => rfl
  | 2, _ => rfl
  | 3, _ => rfl
  | 4, _ => rfl
theorem df_X4 : ∀ j, j < 13 → defaultValue (tyX4 j) = vp_V [.null, .null, .null, .int 0, .int 0, .null, .null, .null, .null, .null, .null, .int 0, .int 0] j := fun j hj => by
  match j, hj with
  | 0, _ => rfl
  | 1, _ => rfl
  | 2, _ => rfl
  | 3, _ => rfl
  | 4, _ => rfl
  | 5, _ => rfl
  | 6, _ => rfl
  | 7, _ => rfl
  | 8, _ => rfl
  | 9, _ => rfl
  | 10, _ => rfl
  | 11, _ => rfl
  | 12, _ => rfl
theorem df_X5 : ∀ j, j < 9 → defaultValue (tyX5 j) = vp_V [.null, .null, .int 0, .null, .null, .null, .null, .null, .null] j := fun j hj => by
  match j, hj with
  | 0, _ => rfl
  | 1, _ => rfl
  | 2, _ => rfl
  | 3, _ => rfl
  | 4, _ => rfl
  | 5, _ => rfl
  | 6, _ => rfl
  | 7, _ => rfl
  | 8, _ => rfl
theorem df_X8 : ∀ j, j < 6 → defaultValue (tyX8 j) = vp_V [.int 0, .int 0, .null, .null, .null, .null] j := fun j hj => by
  match j, hj with
  | 0, _ => rfl
  | 1, _ => rfl
  | 2, _ => rfl
  | 3, _ => rfl
  | 4, _ => rfl
  | 5, _ => rfl
theorem df_X7 : ∀ j, j < 8 → defaultValue (tyX7 j) = vp_V [.null, .null, .int 0, .null, .null, .null, .null, .null] j := fun j hj => by
  match j, hj with
  | 0, _ => rfl
  | 1, _ => rfl
  | 2, _ => rfl
  | 3, _ => rfl
  | 4, _ => rfl
  | 5, _ => rfl
  | 6, _ => rfl
  | 7, _ => rfl
theorem df_X1 : ∀ j, j < 12 → defaultValue (tyX1 j) = vp_V [.null, .null, .null, .null, .null, .null, .null, .null, .null, .null, .null, .null] j := fun j hj => by
  match j, hj with
  | 0, _ => rfl
  | 1, _ => rfl
  | 2, _ => rfl
  | 3, _ => rfl
  | 4, _ => rfl
  | 5, _ => rfl
  | 6, _ => rfl
  | 7, _ => rfl
  | 8, _ => rfl
  | 9, _ => rfl
  | 10, _ => rfl
  | 11, _ => rfl
theorem df_X2 : ∀ j, j < 2 → defaultValue (tyX2 j) = vp_V [.null, .null] j := fun j hj => by
  match j, hj with
  | 0, _ => rfl
  | 1, _ => rfl
theorem i_X11 {Z : ZT} {M : Mem} (hM : M 0 = .inr (11, [.null, .null, .null, .null, .null, .null, .null, .null, .null, .null, .null, .null, .null, .null, .null, .null, .null, .null])) : Ctr Z mX11_init [.ref (Z.2.2.1 + 0)] (0 + 1) (0 + 1 + 454) 8394 M (PK Z muX M 0 (0 + 1 + 454)) := by
  refine CtrK (by decide +kernel) (Nat.le_of_ble_eq_true rfl) rfl fun X E hB => ?_
  refine J_aload_n E dX11_init_0 rfl ?_
  refine J_oinit (o := 0) E dX11_init_1 w1_26 w1_27 w1_28 (Nat.le_of_ble_eq_true rfl) (Nat.le_of_ble_eq_true rfl) ?_
  refine J.mem (M' := va_up (MI Z M 0 0) 0 (.inr (11, [.null, .null, .null, .null, .null, .null, .null, .null, .null, .null, .null, .null, .null, .null, .null, .null, .null, .null]))) (fun a ha => ?_) ?_
  · obtain rfl : a = 0 := by omega
    rw [va_up_s, hM]
  refine J_aload_n E dX11_init_4 rfl ?_
  refine J_new (ci := 3) (fs := [.int 0, .null, .null, .int 0, .null, .null, .null, .null, .int 0, .null, .null, .null, .null, .null, .null]) E dX11_init_5 rfl uX3 tyX3 tyX3_ok w1_29 w1_30 w1_2 df_X3 (Nat.le_of_ble_eq_true rfl) (Nat.le_of_ble_eq_true rfl) ?_
  refine J_dup E dX11_init_8 rfl ?_
  refine G_callN (μ' := muX) (As := []) (d := 12) (ms := 198) (o := 0) (ci := 11) (q := 0) E dX11_init_9 dX11_init_12 (Ctr.mono (i_X3 (μ := mu0) (o := 1) sh1 va_up_s sh2 rfl sh3 rfl sh4 rfl sh5 rfl sh6 rfl sh7 rfl sh8 rfl sh9 rfl sh10 rfl sh11 rfl sh12 rfl sh13 rfl rfl rfl rfl) (PK.congr fun a h1 h2 => muX_n (by omega) (by omega) (by omega) (by omega) (by omega) (by omega))) kX3_init ⟨(Nat.le_of_ble_eq_true rfl), (Nat.le_of_ble_eq_true rfl)⟩ rfl (by decide) w1_31 w1_32 rfl rfl fs_X11_10 ff_X11_0 rfl (Nat.le_of_ble_eq_true rfl) (Nat.le_of_ble_eq_true rfl) (fun a h h2 => MI_n (by omega) (by omega)) (Nat.le_of_ble_eq_true rfl) (Nat.le_of_ble_eq_true rfl) ?_
  show J Z X 14 13 213 15 [(0, .ref (Z.2.2.1 + 0))] [] (va_up (MI Z M 0 0) 0 (.inr (11, [.ref (Z.2.2.1 + 1), .null, .null, .null, .null, .null, .null, .null, .null, .null, .null, .null, .null, .null, .null, .null, .null, .null])))
  refine J_aload_n E dX11_init_15 rfl ?_
  refine J_new (ci := 3) (fs := [.int 0, .null, .null, .int 0, .null, .null, .null, .null, .int 0, .null, .null, .null, .null, .null, .null]) E dX11_init_16 rfl uX3 tyX3 tyX3_ok w1_29 w1_30 w1_2 df_X3 (Nat.le_of_ble_eq_true rfl) (Nat.le_of_ble_eq_true rfl) ?_
  refine J_dup E dX11_init_19 rfl ?_
  refine G_callN (μ' := muX) (As := []) (d := 12) (ms := 198) (o := 0) (ci := 11) (q := 1) E dX11_init_20 dX11_init_23 (Ctr.mono (i_X3 (μ := mu0) (o := 14) sh14 va_up_s sh15 rfl sh16 rfl sh17 rfl sh18 rfl sh19 rfl sh20 rfl sh21 rfl sh22 rfl sh23 rfl sh24 rfl sh25 rfl sh26 rfl rfl rfl rfl) (PK.congr fun a h1 h2 => muX_n (by omega) (by omega) (by omega) (by omega) (by omega) (by omega))) kX3_init ⟨(Nat.le_of_ble_eq_true rfl), (Nat.le_of_ble_eq_true rfl)⟩ rfl (by decide) w1_31 w1_32 rfl rfl fs_X11_16 ff_X11_1 rfl (Nat.le_of_ble_eq_true rfl) (Nat.le_of_ble_eq_true rfl) (fun a h h2 => MI_n (by omega) (by omega)) (Nat.le_of_ble_eq_true rfl) (Nat.le_of_ble_eq_true rfl) ?_
  show J Z X 27 26 426 26 [(0, .ref (Z.2.2.1 + 0))] [] (va_up (MI Z M 0 0) 0 (.inr (11, [.ref (Z.2.2.1 + 1), .ref (Z.2.2.1 + 14), .null, .null, .null, .null, .null, .null, .null, .null, .null, .null, .null, .null, .null, .null, .null, .null])))
  refine J_aload_n E dX11_init_26 rfl ?_
  refine J_new (ci := 6) (fs := [.null, .int 0, .null, .null]) E dX11_init_27 rfl uX6 tyX6 tyX6_ok w1_100 w1_101 w1_3 df_X6 (Nat.le_of_ble_eq_true rfl) (Nat.le_of_ble_eq_true rfl) ?_
  refine J_dup E dX11_init_30 rfl ?_
  refine G_callN (μ' := muX) (As := []) (d := 3) (ms := 45) (o := 0) (ci := 11) (q := 2) E dX11_init_31 dX11_init_34 (Ctr.mono (i_X6 (μ := mu0) (o := 27) sh27 va_up_s sh28 sh29 sh30 rfl rfl rfl rfl) (PK.congr fun a h1 h2 => muN_0 (by decide) h1 h2)) kX6_init ⟨(Nat.le_of_ble_eq_true rfl), (Nat.le_of_ble_eq_true rfl)⟩ rfl (by decide) w1_102 w1_103 rfl rfl fs_X11_22 ff_X11_2 rfl (Nat.le_of_ble_eq_true rfl) (Nat.le_of_ble_eq_true rfl) (fun a h h2 => MI_n (by omega) (by omega)) (Nat.le_of_ble_eq_true rfl) (Nat.le_of_ble_eq_true rfl) ?_
  show J Z X 31 30 475 37 [(0, .ref (Z.2.2.1 + 0))] [] (va_up (MI Z M 0 0) 0 (.inr (11, [.ref (Z.2.2.1 + 1), .ref (Z.2.2.1 + 14), .ref (Z.2.2.1 + 27), .null, .null, .null, .null, .null, .null, .null, .null, .null, .null, .null, .null, .null, .null, .null])))
  refine J_aload_n E dX11_init_37 rfl ?_
  refine J_new (ci := 9) (fs := [.null, .int 0, .int 0, .null, .null, .int 0]) E dX11_init_38 rfl uX9 tyX9 tyX9_ok w1_125 w1_126 w1_4 df_X9 (Nat.le_of_ble_eq_true rfl) (Nat.le_of_ble_eq_true rfl) ?_
  refine J_dup E dX11_init_41 rfl ?_
  refine G_callN (μ' := muX) (As := []) (d := 3) (ms := 600) (o := 0) (ci := 11) (q := 3) E dX11_init_42 dX11_init_45 (Ctr.mono (i_X9 (μ := mu0) (o := 31) rfl sh31 va_up_s sh32 rfl sh33 rfl sh34 rfl rfl rfl rfl) (PK.congr fun a h1 h2 => muX_n (by omega) (by omega) (by omega) (by omega) (by omega) (by omega))) kX9_init ⟨(Nat.le_of_ble_eq_true rfl), (Nat.le_of_ble_eq_true rfl)⟩ rfl (by decide) w1_127 w1_128 rfl rfl fs_X11_29 ff_X11_3 rfl (Nat.le_of_ble_eq_true rfl) (Nat.le_of_ble_eq_true rfl) (fun a h h2 => MI_n (by omega) (by omega)) (Nat.le_of_ble_eq_true rfl) (Nat.le_of_ble_eq_true rfl) ?_
  show J Z X 35 34 1081 48 [(0, .ref (Z.2.2.1 + 0))] [] (va_up (MI Z M 0 0) 0 (.inr (11, [.ref (Z.2.2.1 + 1), .ref (Z.2.2.1 + 14), .ref (Z.2.2.1 + 27), .ref (Z.2.2.1 + 31), .null, .null, .null, .null, .null, .null, .null, .null, .null, .null, .null, .null, .null, .null])))
  refine J_aload_n E dX11_init_48 rfl ?_
  refine J_iconst (v := nI 2) E dX11_init_49 (by decide +kernel) ?_
  refine J_newq4 (N := 2) E dX11_init_50 w1_29 (by decide) (by decide) (by decide) (Nat.le_of_ble_eq_true rfl) (Nat.le_of_ble_eq_true rfl) ?_
  refine J.mem (M' := va_up (MI Z M 0 0) 0 (.inr (11, [.ref (Z.2.2.1 + 1), .ref (Z.2.2.1 + 14), .ref (Z.2.2.1 + 27), .ref (Z.2.2.1 + 31), .null, .null, .null, .null, .null, .null, .null, .null, .null, .null, .null, .null, .null, .null]))) (fun y hy => ?_) ?_
  · by_cases y1 : y = 35
    · subst y1; rw [va_up_s, va_up_n (by decide), MI_35, Fq_0]
    · rw [va_up_n y1]
  refine J_putK (o := 0) (ci := 11) (q := 4) E dX11_init_53 fs_X11_33 ff_X11_4 rfl (Nat.le_of_ble_eq_true rfl) (Nat.le_of_ble_eq_true rfl) ?_
  show J Z X 36 35 1083 56 [(0, .ref (Z.2.2.1 + 0))] [] (va_up (MI Z M 0 0) 0 (.inr (11, [.ref (Z.2.2.1 + 1), .ref (Z.2.2.1 + 14), .ref (Z.2.2.1 + 27), .ref (Z.2.2.1 + 31), .ref (Z.2.2.1 + 35), .null, .null, .null, .null, .null, .null, .null, .null, .null, .null, .null, .null, .null])))
  refine J_aload_n E dX11_init_56 rfl ?_
  refine J_iconst (v := nI 2) E dX11_init_57 (by decide +kernel) ?_
  refine J_newq5 (N := 2) E dX11_init_58 w1_100 (by decide) (by decide) (by decide) (Nat.le_of_ble_eq_true rfl) (Nat.le_of_ble_eq_true rfl) ?_
  refine J.mem (M' := va_up (MI Z M 0 0) 0 (.inr (11, [.ref (Z.2.2.1 + 1), .ref (Z.2.2.1 + 14), .ref (Z.2.2.1 + 27), .ref (Z.2.2.1 + 31), .ref (Z.2.2.1 + 35), .null, .null, .null, .null, .null, .null, .null, .null, .null, .null, .null, .null, .null]))) (fun y hy => ?_) ?_
  · by_cases y1 : y = 36
    · subst y1; rw [va_up_s, va_up_n (by decide), MI_36, Fq_0]
    · rw [va_up_n y1]
  refine J_putK (o := 0) (ci := 11) (q := 5) E dX11_init_61 fs_X11_37 ff_X11_5 rfl (Nat.le_of_ble_eq_true rfl) (Nat.le_of_ble_eq_true rfl) ?_
  show J Z X 37 36 1085 64 [(0, .ref (Z.2.2.1 + 0))] [] (va_up (MI Z M 0 0) 0 (.inr (11, [.ref (Z.2.2.1 + 1), .ref (Z.2.2.1 + 14), .ref (Z.2.2.1 + 27), .ref (Z.2.2.1 + 31), .ref (Z.2.2.1 + 35), .ref (Z.2.2.1 + 36), .null, .null, .null, .null, .null, .null, .null, .null, .null, .null, .null, .null])))
  refine J_iconst (v := nI 0) E dX11_init_64 (by decide +kernel) ?_
  refine J_istore_n (lv' := [(0, .ref (Z.2.2.1 + 0)), (1, .int (nI 0))]) E dX11_init_65 (Nat.le_of_ble_eq_true rfl) rfl ?_
  refine J_iload_n E dX11_init_66 rfl ?_
  refine J_iconst (v := nI 2) E dX11_init_67 (by decide +kernel) ?_
  refine J_icmp_ge (tgt := 103) E dX11_init_68 (by decide) (fun c => absurd c (by decide)) (fun _ => ?_)
  refine J_aload_n E dX11_init_71 rfl ?_
  refine J_getM (o := 0) E dX11_init_72 fs_X11_33 (Nat.le_of_ble_eq_true rfl) va_up_s rfl ?_
  refine J_iload_n E dX11_init_75 rfl ?_
  refine J_new (ci := 3) (fs := [.int 0, .null, .null, .int 0, .null, .null, .null, .null, .int 0, .null, .null, .null, .null, .null, .null]) E dX11_init_76 rfl uX3 tyX3 tyX3_ok w1_29 w1_30 w1_2 df_X3 (Nat.le_of_ble_eq_true rfl) (Nat.le_of_ble_eq_true rfl) ?_
  refine J_dup E dX11_init_79 rfl ?_
  refine G_fillC (μ' := muX) (a := 35) (ci2 := 3) (d := 12) (ms := 198) (t := 4) (N := 2) (i := 0) (f := Fq Z 35 0) (r := (RX3, TX3, 15)) E dX11_init_80 dX11_init_83 (Ctr.mono (i_X3 (μ := mu0) (o := 37) sh37 va_up_s sh38 rfl sh39 rfl sh40 rfl sh41 rfl sh42 rfl sh43 rfl sh44 rfl sh45 rfl sh46 rfl sh47 rfl sh48 rfl sh49 rfl rfl rfl rfl) (PK.congr fun a h1 h2 => muX_n (by omega) (by omega) (by omega) (by omega) (by omega) (by omega))) kX3_init ⟨(Nat.le_of_ble_eq_true rfl), (Nat.le_of_ble_eq_true rfl)⟩ w1_31 w1_32 rfl rfl (Nat.le_of_ble_eq_true rfl) (by rw [va_up_n (by decide)]; exact MI_35) rfl rfl sh37 (by decide) (by decide) (fun a h h2 => by rw [va_up_n (by omega)]; exact MI_n (by omega) (by omega)) (Nat.le_of_ble_eq_true rfl) (Nat.le_of_ble_eq_true rfl) ?_
  rw [Fq_up (show el 35 0 = 37 from rfl)]
  refine J.mem (M' := va_up (MI Z M 1 0) 0 (.inr (11, [.ref (Z.2.2.1 + 1), .ref (Z.2.2.1 + 14), .ref (Z.2.2.1 + 27), .ref (Z.2.2.1 + 31), .ref (Z.2.2.1 + 35), .ref (Z.2.2.1 + 36), .null, .null, .null, .null, .null, .null, .null, .null, .null, .null, .null, .null]))) (fun y _ => ?_) ?_
  · unfold MI
    simp only [va_up]
    repeat' split
    all_goals first | rfl | omega
  show J Z X 50 49 1298 84 [(0, .ref (Z.2.2.1 + 0)), (1, .int (nI 0))] [] (va_up (MI Z M 1 0) 0 (.inr (11, [.ref (Z.2.2.1 + 1), .ref (Z.2.2.1 + 14), .ref (Z.2.2.1 + 27), .ref (Z.2.2.1 + 31), .ref (Z.2.2.1 + 35), .ref (Z.2.2.1 + 36), .null, .null, .null, .null, .null, .null, .null, .null, .null, .null, .null, .null])))
  refine J_aload_n E dX11_init_84 rfl ?_
  refine J_getM (o := 0) E dX11_init_85 fs_X11_37 (Nat.le_of_ble_eq_true rfl) va_up_s rfl ?_
  refine J_iload_n E dX11_init_88 rfl ?_
  refine J_new (ci := 6) (fs := [.null, .int 0, .null, .null]) E dX11_init_89 rfl uX6 tyX6 tyX6_ok w1_100 w1_101 w1_3 df_X6 (Nat.le_of_ble_eq_true rfl) (Nat.le_of_ble_eq_true rfl) ?_
  refine J_dup E dX11_init_92 rfl ?_
  refine G_fillC (μ' := muX) (a := 36) (ci2 := 6) (d := 3) (ms := 45) (t := 5) (N := 2) (i := 0) (f := Fq Z 36 0) (r := (RX6, TX6, 4)) E dX11_init_93 dX11_init_96 (Ctr.mono (i_X6 (μ := mu0) (o := 50) sh50 va_up_s sh51 sh52 sh53 rfl rfl rfl rfl) (PK.congr fun a h1 h2 => muN_0 (by decide) h1 h2)) kX6_init ⟨(Nat.le_of_ble_eq_true rfl), (Nat.le_of_ble_eq_true rfl)⟩ w1_102 w1_103 rfl rfl (Nat.le_of_ble_eq_true rfl) (by rw [va_up_n (by decide)]; exact MI_36) rfl rfl sh50 (by decide) (by decide) (fun a h h2 => by rw [va_up_n (by omega)]; exact MI_n (by omega) (by omega)) (Nat.le_of_ble_eq_true rfl) (Nat.le_of_ble_eq_true rfl) ?_
  rw [Fq_up (show el 36 0 = 50 from rfl)]
  refine J.mem (M' := va_up (MI Z M 1 1) 0 (.inr (11, [.ref (Z.2.2.1 + 1), .ref (Z.2.2.1 + 14), .ref (Z.2.2.1 + 27), .ref (Z.2.2.1 + 31), .ref (Z.2.2.1 + 35), .ref (Z.2.2.1 + 36), .null, .null, .null, .null, .null, .null, .null, .null, .null, .null, .null, .null]))) (fun y _ => ?_) ?_
  · unfold MI
    simp only [va_up]
    repeat' split
    all_goals first | rfl | omega
  show J Z X 54 53 1347 97 [(0, .ref (Z.2.2.1 + 0)), (1, .int (nI 0))] [] (va_up (MI Z M 1 1) 0 (.inr (11, [.ref (Z.2.2.1 + 1), .ref (Z.2.2.1 + 14), .ref (Z.2.2.1 + 27), .ref (Z.2.2.1 + 31), .ref (Z.2.2.1 + 35), .ref (Z.2.2.1 + 36), .null, .null, .null, .null, .null, .null, .null, .null, .null, .null, .null, .null])))
  refine J_iinc (v := nI 1) (lv' := [(0, .ref (Z.2.2.1 + 0)), (1, .int (nI 1))]) E dX11_init_97 rfl (nI_add 0 1) (Nat.le_of_ble_eq_true rfl) rfl ?_
  refine J_goto (tgt := 66) E dX11_init_100 (by decide) ?_
  refine J_iload_n E dX11_init_66 rfl ?_
  refine J_iconst (v := nI 2) E dX11_init_67 (by decide +kernel) ?_
  refine J_icmp_ge (tgt := 103) E dX11_init_68 (by decide) (fun c => absurd c (by decide)) (fun _ => ?_)
  refine J_aload_n E dX11_init_71 rfl ?_
  refine J_getM (o := 0) E dX11_init_72 fs_X11_33 (Nat.le_of_ble_eq_true rfl) va_up_s rfl ?_
  refine J_iload_n E dX11_init_75 rfl ?_
  refine J_new (ci := 3) (fs := [.int 0, .null, .null, .int 0, .null, .null, .null, .null, .int 0, .null, .null, .null, .null, .null, .null]) E dX11_init_76 rfl uX3 tyX3 tyX3_ok w1_29 w1_30 w1_2 df_X3 (Nat.le_of_ble_eq_true rfl) (Nat.le_of_ble_eq_true rfl) ?_
  refine J_dup E dX11_init_79 rfl ?_
  refine G_fillC (μ' := muX) (a := 35) (ci2 := 3) (d := 12) (ms := 198) (t := 4) (N := 2) (i := 1) (f := Fq Z 35 1) (r := (RX3, TX3, 15)) E dX11_init_80 dX11_init_83 (Ctr.mono (i_X3 (μ := mu0) (o := 54) sh54 va_up_s sh55 rfl sh56 rfl sh57 rfl sh58 rfl sh59 rfl sh60 rfl sh61 rfl sh62 rfl sh63 rfl sh64 rfl sh65 rfl sh66 rfl rfl rfl rfl) (PK.congr fun a h1 h2 => muX_n (by omega) (by omega) (by omega) (by omega) (by omega) (by omega))) kX3_init ⟨(Nat.le_of_ble_eq_true rfl), (Nat.le_of_ble_eq_true rfl)⟩ w1_31 w1_32 rfl rfl (Nat.le_of_ble_eq_true rfl) (by rw [va_up_n (by decide)]; exact MI_35) rfl rfl sh54 (by decide) (by decide) (fun a h h2 => by rw [va_up_n (by omega)]; exact MI_n (by omega) (by omega)) (Nat.le_of_ble_eq_true rfl) (Nat.le_of_ble_eq_true rfl) ?_
  rw [Fq_up (show el 35 1 = 54 from rfl)]
  refine J.mem (M' := va_up (MI Z M 2 1) 0 (.inr (11, [.ref (Z.2.2.1 + 1), .ref (Z.2.2.1 + 14), .ref (Z.2.2.1 + 27), .ref (Z.2.2.1 + 31), .ref (Z.2.2.1 + 35), .ref (Z.2.2.1 + 36), .null, .null, .null, .null, .null, .null, .null, .null, .null, .null, .null, .null]))) (fun y _ => ?_) ?_
  · unfold MI
    simp only [va_up]
    repeat' split
    all_goals first | rfl | omega
  show J Z X 67 66 1560 84 [(0, .ref (Z.2.2.1 + 0)), (1, .int (nI 1))] [] (va_up (MI Z M 2 1) 0 (.inr (11, [.ref (Z.2.2.1 + 1), .ref (Z.2.2.1 + 14), .ref (Z.2.2.1 + 27), .ref (Z.2.2.1 + 31), .ref (Z.2.2.1 + 35), .ref (Z.2.2.1 + 36), .null, .null, .null, .null, .null, .null, .null, .null, .null, .null, .null, .null])))
  refine J_aload_n E dX11_init_84 rfl ?_
  refine J_getM (o := 0) E dX11_init_85 fs_X11_37 (Nat.le_of_ble_eq_true rfl) va_up_s rfl ?_
  refine J_iload_n E dX11_init_88 rfl ?_
  refine J_new (ci := 6) (fs := [.null, .int 0, .null, .null]) E dX11_init_89 rfl uX6 tyX6 tyX6_ok w1_100 w1_101 w1_3 df_X6 (Nat.le_of_ble_eq_true rfl) (Nat.le_of_ble_eq_true rfl) ?_
  refine J_dup E dX11_init_92 rfl ?_
  refine G_fillC (μ' := muX) (a := 36) (ci2 := 6) (d := 3) (ms := 45) (t := 5) (N := 2) (i := 1) (f := Fq Z 36 1) (r := (RX6, TX6, 4)) E dX11_init_93 dX11_init_96 (Ctr.mono (i_X6 (μ := mu0) (o := 67) sh67 va_up_s sh68 sh69 sh70 rfl rfl rfl rfl) (PK.congr fun a h1 h2 => muN_0 (by decide) h1 h2)) kX6_init ⟨(Nat.le_of_ble_eq_true rfl), (Nat.le_of_ble_eq_true rfl)⟩ w1_102 w1_103 rfl rfl (Nat.le_of_ble_eq_true rfl) (by rw [va_up_n (by decide)]; exact MI_36) rfl rfl sh67 (by decide) (by decide) (fun a h h2 => by rw [va_up_n (by omega)]; exact MI_n (by omega) (by omega)) (Nat.le_of_ble_eq_true rfl) (Nat.le_of_ble_eq_true rfl) ?_
  rw [Fq_up (show el 36 1 = 67 from rfl)]
  refine J.mem (M' := va_up (MI Z M 2 2) 0 (.inr (11, [.ref (Z.2.2.1 + 1), .ref (Z.2.2.1 + 14), .ref (Z.2.2.1 + 27), .ref (Z.2.2.1 + 31), .ref (Z.2.2.1 + 35), .ref (Z.2.2.1 + 36), .null, .null, .null, .null, .null, .null, .null, .null, .null, .null, .null, .null]))) (fun y _ => ?_) ?_
  · unfold MI
    simp only [va_up]
    repeat' split
    all_goals first | rfl | omega
  show J Z X 71 70 1609 97 [(0, .ref (Z.2.2.1 + 0)), (1, .int (nI 1))] [] (va_up (MI Z M 2 2) 0 (.inr (11, [.ref (Z.2.2.1 + 1), .ref (Z.2.2.1 + 14), .ref (Z.2.2.1 + 27), .ref (Z.2.2.1 + 31), .ref (Z.2.2.1 + 35), .ref (Z.2.2.1 + 36), .null, .null, .null, .null, .null, .null, .null, .null, .null, .null, .null, .null])))
  refine J_iinc (v := nI 2) (lv' := [(0, .ref (Z.2.2.1 + 0)), (1, .int (nI 2))]) E dX11_init_97 rfl (nI_add 1 1) (Nat.le_of_ble_eq_true rfl) rfl ?_
  refine J_goto (tgt := 66) E dX11_init_100 (by decide) ?_
  refine J_iload_n E dX11_init_66 rfl ?_
  refine J_iconst (v := nI 2) E dX11_init_67 (by decide +kernel) ?_
  refine J_icmp_ge (tgt := 103) E dX11_init_68 (by decide) (fun _ => ?_) (fun c => absurd (by decide) c)
  refine J.weak (lv' := [(0, .ref (Z.2.2.1 + 0))]) [0] rfl ?_
  show J Z X 71 70 1609 103 [(0, .ref (Z.2.2.1 + 0))] [] (va_up (MI Z M 2 2) 0 (.inr (11, [.ref (Z.2.2.1 + 1), .ref (Z.2.2.1 + 14), .ref (Z.2.2.1 + 27), .ref (Z.2.2.1 + 31), .ref (Z.2.2.1 + 35), .ref (Z.2.2.1 + 36), .null, .null, .null, .null, .null, .null, .null, .null, .null, .null, .null, .null])))
  refine J_aload_n E dX11_init_103 rfl ?_
  refine J_iconst (v := nI 2) E dX11_init_104 (by decide +kernel) ?_
  refine G_bool (N := 2) (o := 0) (ci := 11) (q := 6) E dX11_init_105 dX11_init_107 wac_boolean (by decide) fs_X11_41 ff_X11_6 rfl (Nat.le_of_ble_eq_true rfl) (Nat.le_of_ble_eq_true rfl) (by rw [MI_n (by decide) (by decide), WM_bool sh71, muX_0 (by decide) (by decide) (by decide) (by decide) (by decide) (by decide)]) (Nat.le_of_ble_eq_true rfl) (Nat.le_of_ble_eq_true rfl) ?_
  show J Z X 72 71 1611 110 [(0, .ref (Z.2.2.1 + 0))] [] (va_up (MI Z M 2 2) 0 (.inr (11, [.ref (Z.2.2.1 + 1), .ref (Z.2.2.1 + 14), .ref (Z.2.2.1 + 27), .ref (Z.2.2.1 + 31), .ref (Z.2.2.1 + 35), .ref (Z.2.2.1 + 36), .ref (Z.2.2.1 + 71), .null, .null, .null, .null, .null, .null, .null, .null, .null, .null, .null])))
  refine J_aload_n E dX11_init_110 rfl ?_
  refine J_iconst (v := nI 3) E dX11_init_111 (by decide +kernel) ?_
  refine G_int (N := 3) (o := 0) (ci := 11) (q := 7) E dX11_init_112 dX11_init_114 wac_int (by decide) fs_X11_45 ff_X11_7 rfl (Nat.le_of_ble_eq_true rfl) (Nat.le_of_ble_eq_true rfl) (by rw [MI_n (by decide) (by decide), WM_int sh72, muX_0 (by decide) (by decide) (by decide) (by decide) (by decide) (by decide)]) (Nat.le_of_ble_eq_true rfl) (Nat.le_of_ble_eq_true rfl) ?_
  show J Z X 73 72 1614 117 [(0, .ref (Z.2.2.1 + 0))] [] (va_up (MI Z M 2 2) 0 (.inr (11, [.ref (Z.2.2.1 + 1), .ref (Z.2.2.1 + 14), .ref (Z.2.2.1 + 27), .ref (Z.2.2.1 + 31), .ref (Z.2.2.1 + 35), .ref (Z.2.2.1 + 36), .ref (Z.2.2.1 + 71), .ref (Z.2.2.1 + 72), .null, .null, .null, .null, .null, .null, .null, .null, .null, .null])))
  refine J_aload_n E dX11_init_117 rfl ?_
  refine J_new (ci := 10) (fs := [.null, .null, .null, .null, .null]) E dX11_init_118 rfl uX10 tyX10 tyX10_ok w1_154 w1_155 w1_5 df_X10 (Nat.le_of_ble_eq_true rfl) (Nat.le_of_ble_eq_true rfl) ?_
  refine J_dup E dX11_init_121 rfl ?_
  refine J_aload_n E dX11_init_122 rfl ?_
  refine J_getM (o := 0) E dX11_init_123 fs_X11_10 (Nat.le_of_ble_eq_true rfl) (by rw [va_up_n (by decide), va_up_s]) rfl ?_
  refine G_call (μ' := muX) (As := [.ref (Z.2.2.1 + 1)]) (d := 4) (ms := 1800) (o := 0) (ci := 11) (q := 8) E dX11_init_126 dX11_init_129 (Ctr.mono (i_X10 (μ := mu0) (o := 73) rfl sh73 va_up_s sh74 rfl sh75 rfl sh76 rfl sh77 rfl ) (PK.congr fun a h1 h2 => muX_n (by omega) (by omega) (by omega) (by omega) (by omega) (by omega))) kX10_init ⟨(Nat.le_of_ble_eq_true rfl), (Nat.le_of_ble_eq_true rfl)⟩ rfl (by decide) w1_156 w1_157 rfl rfl fs_X11_54 ff_X11_8 rfl (Nat.le_of_ble_eq_true rfl) (Nat.le_of_ble_eq_true rfl) (fun a h h2 => MI_n (by omega) (by omega)) (Nat.le_of_ble_eq_true rfl) (Nat.le_of_ble_eq_true rfl) ?_
  show J Z X 78 77 3419 132 [(0, .ref (Z.2.2.1 + 0))] [] (va_up (MI Z M 2 2) 0 (.inr (11, [.ref (Z.2.2.1 + 1), .ref (Z.2.2.1 + 14), .ref (Z.2.2.1 + 27), .ref (Z.2.2.1 + 31), .ref (Z.2.2.1 + 35), .ref (Z.2.2.1 + 36), .ref (Z.2.2.1 + 71), .ref (Z.2.2.1 + 72), .ref (Z.2.2.1 + 73), .null, .null, .null, .null, .null, .null, .null, .null, .null])))
  refine J_aload_n E dX11_init_132 rfl ?_
  refine J_new (ci := 4) (fs := [.null, .null, .null, .int 0, .int 0, .null, .null, .null, .null, .null, .null, .int 0, .int 0]) E dX11_init_133 rfl uX4 tyX4 tyX4_ok w1_177 w1_178 w1_6 df_X4 (Nat.le_of_ble_eq_true rfl) (Nat.le_of_ble_eq_true rfl) ?_
  refine J_dup E dX11_init_136 rfl ?_
  refine J_aload_n E dX11_init_137 rfl ?_
  refine J_getM (o := 0) E dX11_init_138 fs_X11_10 (Nat.le_of_ble_eq_true rfl) (by rw [va_up_n (by decide), va_up_s]) rfl ?_
  refine J_aload_n E dX11_init_141 rfl ?_
  refine J_getM (o := 0) E dX11_init_142 fs_X11_22 (Nat.le_of_ble_eq_true rfl) (by rw [va_up_n (by decide), va_up_s]) rfl ?_
  refine J_aload_n E dX11_init_145 rfl ?_
  refine J_getM (o := 0) E dX11_init_146 fs_X11_54 (Nat.le_of_ble_eq_true rfl) (by rw [va_up_n (by decide), va_up_s]) rfl ?_
  refine G_call (μ' := muX) (As := [.ref (Z.2.2.1 + 1), .ref (Z.2.2.1 + 27), .ref (Z.2.2.1 + 73)]) (d := 6) (ms := 36) (o := 0) (ci := 11) (q := 9) E dX11_init_149 dX11_init_152 (Ctr.mono (i_X4 (μ := mu0) (o := 78) sh78 va_up_s sh79 rfl sh80 rfl sh81 rfl sh82 rfl sh83 rfl sh84 rfl rfl rfl rfl rfl) (PK.congr fun a h1 h2 => muX_n (by omega) (by omega) (by omega) (by omega) (by omega) (by omega))) kX4_init ⟨(Nat.le_of_ble_eq_true rfl), (Nat.le_of_ble_eq_true rfl)⟩ rfl (by decide) w1_179 w1_180 rfl rfl fs_X11_63 ff_X11_9 rfl (Nat.le_of_ble_eq_true rfl) (Nat.le_of_ble_eq_true rfl) (fun a h h2 => MI_n (by omega) (by omega)) (Nat.le_of_ble_eq_true rfl) (Nat.le_of_ble_eq_true rfl) ?_
  show J Z X 85 84 3468 155 [(0, .ref (Z.2.2.1 + 0))] [] (va_up (MI Z M 2 2) 0 (.inr (11, [.ref (Z.2.2.1 + 1), .ref (Z.2.2.1 + 14), .ref (Z.2.2.1 + 27), .ref (Z.2.2.1 + 31), .ref (Z.2.2.1 + 35), .ref (Z.2.2.1 + 36), .ref (Z.2.2.1 + 71), .ref (Z.2.2.1 + 72), .ref (Z.2.2.1 + 73), .ref (Z.2.2.1 + 78), .null, .null, .null, .null, .null, .null, .null, .null])))
  refine J_aload_n E dX11_init_155 rfl ?_
  refine J_new (ci := 4) (fs := [.null, .null, .null, .int 0, .int 0, .null, .null, .null, .null, .null, .null, .int 0, .int 0]) E dX11_init_156 rfl uX4 tyX4 tyX4_ok w1_177 w1_178 w1_6 df_X4 (Nat.le_of_ble_eq_true rfl) (Nat.le_of_ble_eq_true rfl) ?_
  refine J_dup E dX11_init_159 rfl ?_
  refine J_aload_n E dX11_init_160 rfl ?_
  refine J_getM (o := 0) E dX11_init_161 fs_X11_10 (Nat.le_of_ble_eq_true rfl) (by rw [va_up_n (by decide), va_up_s]) rfl ?_
  refine J_aload_n E dX11_init_164 rfl ?_
  refine J_getM (o := 0) E dX11_init_165 fs_X11_22 (Nat.le_of_ble_eq_true rfl) (by rw [va_up_n (by decide), va_up_s]) rfl ?_
  refine J_aload_n E dX11_init_168 rfl ?_
  refine J_getM (o := 0) E dX11_init_169 fs_X11_54 (Nat.le_of_ble_eq_true rfl) (by rw [va_up_n (by decide), va_up_s]) rfl ?_
  refine G_call (μ' := muX) (As := [.ref (Z.2.2.1 + 1), .ref (Z.2.2.1 + 27), .ref (Z.2.2.1 + 73)]) (d := 6) (ms := 36) (o := 0) (ci := 11) (q := 10) E dX11_init_172 dX11_init_175 (Ctr.mono (i_X4 (μ := mu0) (o := 85) sh85 va_up_s sh86 rfl sh87 rfl sh88 rfl sh89 rfl sh90 rfl sh91 rfl rfl rfl rfl rfl) (PK.congr fun a h1 h2 => muX_n (by omega) (by omega) (by omega) (by omega) (by omega) (by omega))) kX4_init ⟨(Nat.le_of_ble_eq_true rfl), (Nat.le_of_ble_eq_true rfl)⟩ rfl (by decide) w1_179 w1_180 rfl rfl fs_X11_67 ff_X11_10 rfl (Nat.le_of_ble_eq_true rfl) (Nat.le_of_ble_eq_true rfl) (fun a h h2 => MI_n (by omega) (by omega)) (Nat.le_of_ble_eq_true rfl) (Nat.le_of_ble_eq_true rfl) ?_
  show J Z X 92 91 3517 178 [(0, .ref (Z.2.2.1 + 0))] [] (va_up (MI Z M 2 2) 0 (.inr (11, [.ref (Z.2.2.1 + 1), .ref (Z.2.2.1 + 14), .ref (Z.2.2.1 + 27), .ref (Z.2.2.1 + 31), .ref (Z.2.2.1 + 35), .ref (Z.2.2.1 + 36), .ref (Z.2.2.1 + 71), .ref (Z.2.2.1 + 72), .ref (Z.2.2.1 + 73), .ref (Z.2.2.1 + 78), .ref (Z.2.2.1 + 85), .null, .null, .null, .null, .null, .null, .null])))
  refine J_aload_n E dX11_init_178 rfl ?_
  refine J_new (ci := 5) (fs := [.null, .null, .int 0, .null, .null, .null, .null, .null, .null]) E dX11_init_179 rfl uX5 tyX5 tyX5_ok w2_4 w2_5 w1_7 df_X5 (Nat.le_of_ble_eq_true rfl) (Nat.le_of_ble_eq_true rfl) ?_
  refine J_dup E dX11_init_182 rfl ?_
  refine J_aload_n E dX11_init_183 rfl ?_
  refine J_getM (o := 0) E dX11_init_184 fs_X11_10 (Nat.le_of_ble_eq_true rfl) (by rw [va_up_n (by decide), va_up_s]) rfl ?_
  refine J_aload_n E dX11_init_187 rfl ?_
  refine J_getM (o := 0) E dX11_init_188 fs_X11_22 (Nat.le_of_ble_eq_true rfl) (by rw [va_up_n (by decide), va_up_s]) rfl ?_
  refine G_call (μ' := muX) (As := [.ref (Z.2.2.1 + 1), .ref (Z.2.2.1 + 27)]) (d := 12) (ms := 156) (o := 0) (ci := 11) (q := 11) E dX11_init_191 dX11_init_194 (Ctr.mono (i_X5 (μ := mu0) (fun _ _ _ => rfl) va_up_s) (PK.congr fun a h1 h2 => muX_n (by omega) (by omega) (by omega) (by omega) (by omega) (by omega))) kX5_init ⟨(Nat.le_of_ble_eq_true rfl), (Nat.le_of_ble_eq_true rfl)⟩ rfl (by decide) w2_6 w2_7 rfl rfl fs_X11_75 ff_X11_11 rfl (Nat.le_of_ble_eq_true rfl) (Nat.le_of_ble_eq_true rfl) (fun a h h2 => MI_n (by omega) (by omega)) (Nat.le_of_ble_eq_true rfl) (Nat.le_of_ble_eq_true rfl) ?_
  show J Z X 105 104 3682 197 [(0, .ref (Z.2.2.1 + 0))] [] (va_up (MI Z M 2 2) 0 (.inr (11, [.ref (Z.2.2.1 + 1), .ref (Z.2.2.1 + 14), .ref (Z.2.2.1 + 27), .ref (Z.2.2.1 + 31), .ref (Z.2.2.1 + 35), .ref (Z.2.2.1 + 36), .ref (Z.2.2.1 + 71), .ref (Z.2.2.1 + 72), .ref (Z.2.2.1 + 73), .ref (Z.2.2.1 + 78), .ref (Z.2.2.1 + 85), .ref (Z.2.2.1 + 92), .null, .null, .null, .null, .null, .null])))
  refine J_aload_n E dX11_init_197 rfl ?_
  refine J_new (ci := 8) (fs := [.int 0, .int 0, .null, .null, .null, .null]) E dX11_init_198 rfl uX8 tyX8 tyX8_ok w2_59 w2_60 w1_9 df_X8 (Nat.le_of_ble_eq_true rfl) (Nat.le_of_ble_eq_true rfl) ?_
  refine J_dup E dX11_init_201 rfl ?_
  refine G_call (μ' := muX) (As := []) (d := 167) (ms := 2213) (o := 0) (ci := 11) (q := 12) E dX11_init_202 dX11_init_205 (Ctr.mono (i_X8 (μ := mu8) (fun a _ h => if_neg h) (if_pos rfl) va_up_s) (PK.congr fun a h1 h2 => mu8_0 h1 (by omega))) kX8_init ⟨(Nat.le_of_ble_eq_true rfl), (Nat.le_of_ble_eq_true rfl)⟩ rfl (by decide) w2_61 w2_62 rfl rfl fs_X11_82 ff_X11_12 rfl (Nat.le_of_ble_eq_true rfl) (Nat.le_of_ble_eq_true rfl) (fun a h h2 => MI_n (by omega) (by omega)) (Nat.le_of_ble_eq_true rfl) (Nat.le_of_ble_eq_true rfl) ?_
  show J Z X 273 272 5901 208 [(0, .ref (Z.2.2.1 + 0))] [] (va_up (MI Z M 2 2) 0 (.inr (11, [.ref (Z.2.2.1 + 1), .ref (Z.2.2.1 + 14), .ref (Z.2.2.1 + 27), .ref (Z.2.2.1 + 31), .ref (Z.2.2.1 + 35), .ref (Z.2.2.1 + 36), .ref (Z.2.2.1 + 71), .ref (Z.2.2.1 + 72), .ref (Z.2.2.1 + 73), .ref (Z.2.2.1 + 78), .ref (Z.2.2.1 + 85), .ref (Z.2.2.1 + 92), .ref (Z.2.2.1 + 105), .null, .null, .null, .null, .null])))
  refine J_aload_n E dX11_init_208 rfl ?_
  refine J_new (ci := 7) (fs := [.null, .null, .int 0, .null, .null, .null, .null, .null]) E dX11_init_209 rfl uX7 tyX7 tyX7_ok w2_88 w2_89 w1_10 df_X7 (Nat.le_of_ble_eq_true rfl) (Nat.le_of_ble_eq_true rfl) ?_
  refine J_dup E dX11_init_212 rfl ?_
  refine J_aload_n E dX11_init_213 rfl ?_
  refine J_getM (o := 0) E dX11_init_214 fs_X11_75 (Nat.le_of_ble_eq_true rfl) (by rw [va_up_n (by decide), va_up_s]) rfl ?_
  refine G_call (μ' := muX) (As := [.ref (Z.2.2.1 + 92)]) (d := 11) (ms := 136) (o := 0) (ci := 11) (q := 13) E dX11_init_217 dX11_init_220 (Ctr.mono (i_X7 (μ := mu0) (fun _ _ _ => rfl) va_up_s) (PK.congr fun a h1 h2 => muX_n (by omega) (by omega) (by omega) (by omega) (by omega) (by omega))) kX7_init ⟨(Nat.le_of_ble_eq_true rfl), (Nat.le_of_ble_eq_true rfl)⟩ rfl (by decide) w2_90 w2_91 rfl rfl fs_X11_91 ff_X11_13 rfl (Nat.le_of_ble_eq_true rfl) (Nat.le_of_ble_eq_true rfl) (fun a h h2 => MI_n (by omega) (by omega)) (Nat.le_of_ble_eq_true rfl) (Nat.le_of_ble_eq_true rfl) ?_
  show J Z X 285 284 6045 223 [(0, .ref (Z.2.2.1 + 0))] [] (va_up (MI Z M 2 2) 0 (.inr (11, [.ref (Z.2.2.1 + 1), .ref (Z.2.2.1 + 14), .ref (Z.2.2.1 + 27), .ref (Z.2.2.1 + 31), .ref (Z.2.2.1 + 35), .ref (Z.2.2.1 + 36), .ref (Z.2.2.1 + 71), .ref (Z.2.2.1 + 72), .ref (Z.2.2.1 + 73), .ref (Z.2.2.1 + 78), .ref (Z.2.2.1 + 85), .ref (Z.2.2.1 + 92), .ref (Z.2.2.1 + 105), .ref (Z.2.2.1 + 273), .null, .null, .null, .null])))
  refine J_aload_n E dX11_init_223 rfl ?_
  refine J_new (ci := 1) (fs := [.null, .null, .null, .null, .null, .null, .null, .null, .null, .null, .null, .null]) E dX11_init_224 rfl uX1 tyX1 tyX1_ok w2_124 w2_125 w1_11 df_X1 (Nat.le_of_ble_eq_true rfl) (Nat.le_of_ble_eq_true rfl) ?_
  refine J_dup E dX11_init_227 rfl ?_
  refine J_aload_n E dX11_init_228 rfl ?_
  refine J_getM (o := 0) E dX11_init_229 fs_X11_10 (Nat.le_of_ble_eq_true rfl) (by rw [va_up_n (by decide), va_up_s]) rfl ?_
  refine J_aload_n E dX11_init_232 rfl ?_
  refine J_getM (o := 0) E dX11_init_233 fs_X11_75 (Nat.le_of_ble_eq_true rfl) (by rw [va_up_n (by decide), va_up_s]) rfl ?_
  refine G_call (μ' := muX) (As := [.ref (Z.2.2.1 + 1), .ref (Z.2.2.1 + 92)]) (d := 160) (ms := 2231) (o := 0) (ci := 11) (q := 14) E dX11_init_236 dX11_init_239 (Ctr.mono (i_X1 (μ := mu0) (fun _ _ _ => rfl) va_up_s) (PK.congr fun a h1 h2 => muX_n (by omega) (by omega) (by omega) (by omega) (by omega) (by omega))) kX1_init ⟨(Nat.le_of_ble_eq_true rfl), (Nat.le_of_ble_eq_true rfl)⟩ rfl (by decide) w2_126 w2_127 rfl rfl fs_X11_100 ff_X11_14 rfl (Nat.le_of_ble_eq_true rfl) (Nat.le_of_ble_eq_true rfl) (fun a h h2 => MI_n (by omega) (by omega)) (Nat.le_of_ble_eq_true rfl) (Nat.le_of_ble_eq_true rfl) ?_
  show J Z X 446 445 8288 242 [(0, .ref (Z.2.2.1 + 0))] [] (va_up (MI Z M 2 2) 0 (.inr (11, [.ref (Z.2.2.1 + 1), .ref (Z.2.2.1 + 14), .ref (Z.2.2.1 + 27), .ref (Z.2.2.1 + 31), .ref (Z.2.2.1 + 35), .ref (Z.2.2.1 + 36), .ref (Z.2.2.1 + 71), .ref (Z.2.2.1 + 72), .ref (Z.2.2.1 + 73), .ref (Z.2.2.1 + 78), .ref (Z.2.2.1 + 85), .ref (Z.2.2.1 + 92), .ref (Z.2.2.1 + 105), .ref (Z.2.2.1 + 273), .ref (Z.2.2.1 + 285), .null, .null, .null])))
  refine J_aload_n E dX11_init_242 rfl ?_
  refine J_new (ci := 2) (fs := [.null, .null]) E dX11_init_243 rfl uX2 tyX2 tyX2_ok w2_171 w2_172 w1_12 df_X2 (Nat.le_of_ble_eq_true rfl) (Nat.le_of_ble_eq_true rfl) ?_
  refine J_dup E dX11_init_246 rfl ?_
  refine G_call (μ' := muX) (As := []) (d := 4) (ms := 52) (o := 0) (ci := 11) (q := 15) E dX11_init_247 dX11_init_250 (Ctr.mono (i_X2 (μ := mu0) (fun _ _ _ => rfl) va_up_s) (PK.congr fun a h1 h2 => muF_0 h1 h2)) kX2_init ⟨(Nat.le_of_ble_eq_true rfl), (Nat.le_of_ble_eq_true rfl)⟩ rfl (by decide) w2_173 w2_174 rfl rfl fs_X11_107 ff_X11_15 rfl (Nat.le_of_ble_eq_true rfl) (Nat.le_of_ble_eq_true rfl) (fun a h h2 => MI_n (by omega) (by omega)) (Nat.le_of_ble_eq_true rfl) (Nat.le_of_ble_eq_true rfl) ?_
  show J Z X 451 450 8342 253 [(0, .ref (Z.2.2.1 + 0))] [] (va_up (MI Z M 2 2) 0 (.inr (11, [.ref (Z.2.2.1 + 1), .ref (Z.2.2.1 + 14), .ref (Z.2.2.1 + 27), .ref (Z.2.2.1 + 31), .ref (Z.2.2.1 + 35), .ref (Z.2.2.1 + 36), .ref (Z.2.2.1 + 71), .ref (Z.2.2.1 + 72), .ref (Z.2.2.1 + 73), .ref (Z.2.2.1 + 78), .ref (Z.2.2.1 + 85), .ref (Z.2.2.1 + 92), .ref (Z.2.2.1 + 105), .ref (Z.2.2.1 + 273), .ref (Z.2.2.1 + 285), .ref (Z.2.2.1 + 446), .null, .null])))
  refine J_aload_n E dX11_init_253 rfl ?_
  refine J_new (ci := 0) (fs := [.null, .int 0]) E dX11_init_254 rfl uX0 tyX0 tyX0_ok w2_200 w2_11 w1_8 df_X0 (Nat.le_of_ble_eq_true rfl) (Nat.le_of_ble_eq_true rfl) ?_
  refine J_dup E dX11_init_257 rfl ?_
  refine G_callN (μ' := muX) (As := []) (d := 1) (ms := 24) (o := 0) (ci := 11) (q := 16) E dX11_init_258 dX11_init_261 (Ctr.mono (i_X0 (μ := mu0) (o := 451) sh451 va_up_s sh452 rfl rfl ) (PK.congr fun a h1 h2 => muX_n (by omega) (by omega) (by omega) (by omega) (by omega) (by omega))) kX0_init ⟨(Nat.le_of_ble_eq_true rfl), (Nat.le_of_ble_eq_true rfl)⟩ rfl (by decide) w2_201 w2_13 rfl rfl fs_X11_114 ff_X11_16 rfl (Nat.le_of_ble_eq_true rfl) (Nat.le_of_ble_eq_true rfl) (fun a h h2 => MI_n (by omega) (by omega)) (Nat.le_of_ble_eq_true rfl) (Nat.le_of_ble_eq_true rfl) ?_
  show J Z X 453 452 8368 264 [(0, .ref (Z.2.2.1 + 0))] [] (va_up (MI Z M 2 2) 0 (.inr (11, [.ref (Z.2.2.1 + 1), .ref (Z.2.2.1 + 14), .ref (Z.2.2.1 + 27), .ref (Z.2.2.1 + 31), .ref (Z.2.2.1 + 35), .ref (Z.2.2.1 + 36), .ref (Z.2.2.1 + 71), .ref (Z.2.2.1 + 72), .ref (Z.2.2.1 + 73), .ref (Z.2.2.1 + 78), .ref (Z.2.2.1 + 85), .ref (Z.2.2.1 + 92), .ref (Z.2.2.1 + 105), .ref (Z.2.2.1 + 273), .ref (Z.2.2.1 + 285), .ref (Z.2.2.1 + 446), .ref (Z.2.2.1 + 451), .null])))
  refine J_aload_n E dX11_init_264 rfl ?_
  refine J_new (ci := 0) (fs := [.null, .int 0]) E dX11_init_265 rfl uX0 tyX0 tyX0_ok w2_200 w2_11 w1_8 df_X0 (Nat.le_of_ble_eq_true rfl) (Nat.le_of_ble_eq_true rfl) ?_
  refine J_dup E dX11_init_268 rfl ?_
  refine G_callN (μ' := muX) (As := []) (d := 1) (ms := 24) (o := 0) (ci := 11) (q := 17) E dX11_init_269 dX11_init_272 (Ctr.mono (i_X0 (μ := mu0) (o := 453) sh453 va_up_s sh454 rfl rfl ) (PK.congr fun a h1 h2 => muX_n (by omega) (by omega) (by omega) (by omega) (by omega) (by omega))) kX0_init ⟨(Nat.le_of_ble_eq_true rfl), (Nat.le_of_ble_eq_true rfl)⟩ rfl (by decide) w2_201 w2_13 rfl rfl fs_X11_118 ff_X11_17 rfl (Nat.le_of_ble_eq_true rfl) (Nat.le_of_ble_eq_true rfl) (fun a h h2 => MI_n (by omega) (by omega)) (Nat.le_of_ble_eq_true rfl) (Nat.le_of_ble_eq_true rfl) ?_
  show J Z X 455 454 8394 275 [(0, .ref (Z.2.2.1 + 0))] [] (va_up (MI Z M 2 2) 0 (.inr (11, [.ref (Z.2.2.1 + 1), .ref (Z.2.2.1 + 14), .ref (Z.2.2.1 + 27), .ref (Z.2.2.1 + 31), .ref (Z.2.2.1 + 35), .ref (Z.2.2.1 + 36), .ref (Z.2.2.1 + 71), .ref (Z.2.2.1 + 72), .ref (Z.2.2.1 + 73), .ref (Z.2.2.1 + 78), .ref (Z.2.2.1 + 85), .ref (Z.2.2.1 + 92), .ref (Z.2.2.1 + 105), .ref (Z.2.2.1 + 273), .ref (Z.2.2.1 + 285), .ref (Z.2.2.1 + 446), .ref (Z.2.2.1 + 451), .ref (Z.2.2.1 + 453)])))
  refine J.memq (M' := va_up (BS Z muX M 0) 0 (.inr (11, [.ref (Z.2.2.1 + 1), .ref (Z.2.2.1 + 14), .ref (Z.2.2.1 + 27), .ref (Z.2.2.1 + 31), .ref (Z.2.2.1 + 35), .ref (Z.2.2.1 + 36), .ref (Z.2.2.1 + 71), .ref (Z.2.2.1 + 72), .ref (Z.2.2.1 + 73), .ref (Z.2.2.1 + 78), .ref (Z.2.2.1 + 85), .ref (Z.2.2.1 + 92), .ref (Z.2.2.1 + 105), .ref (Z.2.2.1 + 273), .ref (Z.2.2.1 + 285), .ref (Z.2.2.1 + 446), .ref (Z.2.2.1 + 451), .ref (Z.2.2.1 + 453)]))) (fun y hy => ?_) ?_
  · by_cases y0 : y = 0
    · subst y0; exact Or.inl (by rw [va_up_s, va_up_s])
    · by_cases y1 : y = 35
      · subst y1
        refine Or.inr ⟨Z.2.2.2.1 4, 2, Fq Z 35 2, fun i => some (Z.2.2.1 + el 35 i), ?_, ?_, fun j hj => if_pos hj⟩
        · rw [va_up_n (by decide), MI_35]
        · rw [va_up_n (by decide), BS_ge (Nat.zero_le _), WM_ref (t := 1) sh35]
      · by_cases y2 : y = 36
        · subst y2
          refine Or.inr ⟨Z.2.2.2.1 5, 2, Fq Z 36 2, fun i => some (Z.2.2.1 + el 36 i), ?_, ?_, fun j hj => if_pos hj⟩
          · rw [va_up_n (by decide), MI_36]
          · rw [va_up_n (by decide), BS_ge (Nat.zero_le _), WM_ref (t := 2) sh36]
        · exact Or.inl (by rw [va_up_n y0, va_up_n y0, MI_n y1 y2, BS_ge (Nat.zero_le _)])
  exact J_vret E hB dX11_init_275 rfl (K_out (μ := muX) sh0 rfl)
