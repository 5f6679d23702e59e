/-! START: what the start of the law gives; the law, from its entry (by program) -/
def R_law : String := "SlipHuntLaw"
def lw_P (b : Addr) (xs : List Int32) (args : Array Value) (s : State) : Prop := args = #[.ref b] ∧ s.IntsAt b xs ∧ xs.length ≤ 3072 ∧ (Jvm.Cond.and given_1 narrow_1).before args s = true
def lw_Q (_ : Array Value) (s : State) (o : Outcome) (t : State) : Prop := o = .returned (some (.int 1)) ∧ Framed s o t [] 600000 7302249
def lw_Z (below : List Frame) (a : Array Value) (s : State) : State → Prop := fun t => ∃ o, t.status = .running ∧ Ended t below o ∧ lw_Q a s o t
/-- the law's own end, with 1 on the stack, nothing written that was there before, its room as the claim has it -/
theorem lw_ret {p : Program} {l : Launch} {e : Env} {s : State} {m : MethodId} {below : List Frame} {meth : Method} {c : Code} {b : Nat} (hx : p.tables.exec = Jvm.exec) (hb : c.code = code) (hr : meth.sig.returnType = ret) (hlocks : meth.locks = false) {pc : Nat} {H : Heap} {ls : Array Slot} (hdg : decode code pc = .ok (.ireturn, 1)) : W p l e room_1 s m #[Value.ref b] below meth c H [] 600000 7302249 (lw_Z below #[Value.ref b] s) (F0 m pc ls [.int 1]) := by
  intro T hT X
  obtain ⟨fs, hret, hrun, hended, hW, hframe⟩ := X.leave (v := some (.int 1)) (hlocks := hlocks) (fun h => by rw [hr] at h; cases h)
  have hmeth' : T.vm.method? m = some meth := X.method'
  refine ⟨T.setFrames fs, ?_, .returned (some (.int 1)), hrun, hended, rfl, ⟨_, rfl⟩, hW, hframe⟩
  jvm_step X.here [X.here.top, hx, hb, hdg, hmeth', hr, ret, narrow_b1]
  (try refine ⟨rfl, ?_⟩); (try refine ⟨rfl, ?_⟩)
  first | (intro acts; rw [hret _ acts rfl rfl rfl]) | rw [hret _ _ rfl rfl rfl]
  exact Steps.refl _
/-- what holds at the law's entry: the machine, the code, the tables' words (any of lw_tbl by 'hts w (by decide +kernel)'), the script of L ints xs at the cell b, what the Statement gives of the start (any of its parts by flat_of_before) -/
def lw_At (p : Program) (s : State) (m : MethodId) (meth : Method) (c : Code) (b L : Nat) (xs : Nat → Int32) : Prop :=
  p.tables.exec = Jvm.exec ∧ c.code = code ∧ meth.sig.returnType = ret ∧ c.maxLocals = 4 ∧ s.vm.findClass R_law = some m.cls ∧ (∀ w ∈ lw_tbl, w.before #[Value.ref b] s = true) ∧ va_X b L xs s s.heap ∧ b < s.heap.size ∧ meth.locks = false ∧ (Jvm.Cond.and given_1 narrow_1).before #[Value.ref b] s = true
theorem w1_22 : Cond.instantiable RX11 18 ∈ ALL := all_tbl (tb1 (List.mem_of_getElem? (i := 22) rfl)) rfl
theorem w5_193 : Cond.instantiable RX12 28 ∈ ALL := all_tbl (tb5 (List.mem_of_getElem? (i := 193) rfl)) rfl
theorem w1_21 : Cond.classLink RL 7 RX11 ∈ ALL := all_tbl (tb1 (List.mem_of_getElem? (i := 21) rfl)) rfl
theorem w1_23 : Cond.methodLink RL 9 yX11_init ∈ ALL := all_tbl (tb1 (List.mem_of_getElem? (i := 23) rfl)) rfl
theorem w1_24 : Cond.instanceMethod yX11_init ∈ ALL := all_tbl (tb1 (List.mem_of_getElem? (i := 24) rfl)) rfl
theorem w5_192 : Cond.classLink RL 10 RX12 ∈ ALL := all_tbl (tb5 (List.mem_of_getElem? (i := 192) rfl)) rfl
theorem w5_194 : Cond.methodLink RL 12 yX12_init ∈ ALL := all_tbl (tb5 (List.mem_of_getElem? (i := 194) rfl)) rfl
theorem w5_195 : Cond.instanceMethod yX12_init ∈ ALL := all_tbl (tb5 (List.mem_of_getElem? (i := 195) rfl)) rfl
theorem df_X11 : ∀ j, j < 18 → defaultValue (tyX11 j) = vp_V [.null, .null, .null, .null, .null, .null, .null, .null, .null, .null, .null, .null, .null, .null, .null, .null, .null, .null] j := fun j hj => by
  match j, hj with
  | 0, _ => rfl
  | 1, _ => rfl
  | 2, _ => rfl
  | 3, _ => rfl
  | 4, _ => rfl
  | 5, _ => rfl
  | 6, _ => rfl
  | 7, _ => rfl
  | 8, _ => rfl
  | 9, _ => rfl
  | 10, _ => rfl
  | 11, _ => rfl
  | 12, _ => rfl
  | 13, _ => rfl
  | 14, _ => rfl
  | 15, _ => rfl
  | 16, _ => rfl
  | 17, _ => rfl
  | j + 18, hj => exact absurd hj (by omega)
theorem df_X12 : ∀ j, j < 28 → defaultValue (tyX12 j) = vp_V [.null, .null, .null, .null, .int 0, .int 0, .int 0, .int 0, .int 0, .int 0, .null, .null, .int 0, .int 0, .null, .null, .null, .int 0, .null, .int 0, .null, .null, .null, .null, .null, .null, .null, .long 0] j := fun j hj => by
  match j, hj with
  | 0, _ => rfl
  | 1, _ => rfl
  | 2, _ => rfl
  | 3, _ => rfl
  | 4, _ => rfl
  | 5, _ => rfl
  | 6, _ => rfl
  | 7, _ => rfl
  | 8, _ => rfl
  | 9, _ => rfl
  | 10, _ => rfl
  | 11, _ => rfl
  | 12, _ => rfl
  | 13, _ => rfl
  | 14, _ => rfl
  | 15, _ => rfl
  | 16, _ => rfl
  | 17, _ => rfl
  | 18, _ => rfl
  | 19, _ => rfl
  | 20, _ => rfl
  | 21, _ => rfl
  | 22, _ => rfl
  | 23, _ => rfl
  | 24, _ => rfl
  | 25, _ => rfl
  | 26, _ => rfl
  | 27, _ => rfl
  | j + 28, hj => exact absurd hj (by omega)
theorem classes_known {s : State} {args : Array Value} (hts : ∀ w ∈ ALL, w.before args s = true) : ∃ (dC : Nat → ClassId) (dI : Nat → Nat → Nat), ∀ (k : Nat) (q : vw_C), vwCl[k]? = some q → u_Kn s q.1 q.2.1 q.2.2 (dC k) (dI k) := by
  have h : ∀ k : Nat, ∃ y : ClassId × (Nat → Nat), ∀ q : vw_C, vwCl[k]? = some q → u_Kn s q.1 q.2.1 q.2.2 y.1 y.2 := by
    intro k
    match k with
    | 0 => obtain ⟨c, i, g⟩ := u_known (C := RX0) (T := TX0) (N := 2) (n := 2) hts uX0 (hts _ w2_11); exact ⟨(c, i), fun q hq => by cases hq; exact g⟩
    | 1 => obtain ⟨c, i, g⟩ := u_known (C := RX1) (T := TX1) (N := 12) (n := 12) hts uX1 (hts _ w2_125); exact ⟨(c, i), fun q hq => by cases hq; exact g⟩
    | 2 => obtain ⟨c, i, g⟩ := u_known (C := RX2) (T := TX2) (N := 2) (n := 2) hts uX2 (hts _ w2_172); exact ⟨(c, i), fun q hq => by cases hq; exact g⟩
    | 3 => obtain ⟨c, i, g⟩ := u_known (C := RX3) (T := TX3) (N := 15) (n := 15) hts uX3 (hts _ w1_30); exact ⟨(c, i), fun q hq => by cases hq; exact g⟩
    | 4 => obtain ⟨c, i, g⟩ := u_known (C := RX4) (T := TX4) (N := 13) (n := 13) hts uX4 (hts _ w1_178); exact ⟨(c, i), fun q hq => by cases hq; exact g⟩
    | 5 => obtain ⟨c, i, g⟩ := u_known (C := RX5) (T := TX5) (N := 9) (n := 9) hts uX5 (hts _ w2_5); exact ⟨(c, i), fun q hq => by cases hq; exact g⟩
    | 6 => obtain ⟨c, i, g⟩ := u_known (C := RX6) (T := TX6) (N := 4) (n := 4) hts uX6 (hts _ w1_101); exact ⟨(c, i), fun q hq => by cases hq; exact g⟩
    | 7 => obtain ⟨c, i, g⟩ := u_known (C := RX7) (T := TX7) (N := 8) (n := 8) hts uX7 (hts _ w2_89); exact ⟨(c, i), fun q hq => by cases hq; exact g⟩
    | 8 => obtain ⟨c, i, g⟩ := u_known (C := RX8) (T := TX8) (N := 6) (n := 6) hts uX8 (hts _ w2_60); exact ⟨(c, i), fun q hq => by cases hq; exact g⟩
    | 9 => obtain ⟨c, i, g⟩ := u_known (C := RX9) (T := TX9) (N := 6) (n := 6) hts uX9 (hts _ w1_126); exact ⟨(c, i), fun q hq => by cases hq; exact g⟩
    | 10 => obtain ⟨c, i, g⟩ := u_known (C := RX10) (T := TX10) (N := 5) (n := 5) hts uX10 (hts _ w1_155); exact ⟨(c, i), fun q hq => by cases hq; exact g⟩
    | 11 => obtain ⟨c, i, g⟩ := u_known (C := RX11) (T := TX11) (N := 18) (n := 18) hts uX11 (hts _ w1_22); exact ⟨(c, i), fun q hq => by cases hq; exact g⟩
    | 12 => obtain ⟨c, i, g⟩ := u_known (C := RX12) (T := TX12) (N := 28) (n := 28) hts uX12 (hts _ w5_193); exact ⟨(c, i), fun q hq => by cases hq; exact g⟩
    | k + 13 => exact ⟨((0 : Nat), fun _ => 0), fun q hq => by simp [vwCl] at hq⟩
  exact ⟨fun k => (h k).choose.1, fun k => (h k).choose.2, fun k => (h k).choose_spec⟩
theorem prim_known {s : State} {args : Array Value} {ty : FieldType} (h : (Cond.arrayClass ty).before args s = true) : ∃ c : ClassId, ArrOfT s c ty ∧ s.vm.findClass ("[" ++ ty.toString) = some c := by
  obtain ⟨c, k, comp, h1, h2, h3⟩ := Cond.arrayClass_spec h
  exact ⟨c, fun N z => ⟨fun k h => (by cases h), k, h2, comp, h3⟩, h1⟩
theorem refs_known {s : State} {args : Array Value} {C : String} (h : (Cond.arrayOver (.object C)).before args s = true) : ∃ c : ClassId, ArrOfT s c (.object C) ∧ va_RA s c (.object C) := by
  obtain ⟨comp, c, k, h1, h2, h3, h4, h5⟩ := Cond.arrayOver_spec h
  exact ⟨c, fun N z => ⟨fun k h => (by cases h), k, h3, comp, h4⟩, k, comp, h3, h4, h1, h5⟩
theorem arrays_known {s : State} {args : Array Value} (hts : ∀ w ∈ lw_tbl, w.before args s = true) : ∃ f : Nat → ClassId, ∀ (k : Nat) (q : ClassId × FieldType), (tysZ f)[k]? = some q → ArrOfT s q.1 q.2 ∧ va_RA s q.1 q.2 := by
  obtain ⟨c0, a0, b0⟩ := prim_known (ty := .int) (hts _ (List.mem_append_right _ (tb1 (List.mem_of_getElem? (i := 99) rfl))))
  obtain ⟨c1, a1, b1⟩ := prim_known (ty := .boolean) (hts _ (List.mem_append_right _ (tb1 (List.mem_of_getElem? (i := 176) rfl))))
  obtain ⟨c2, a2, b2⟩ := prim_known (ty := .byte) (hts _ (List.mem_append_right _ (tb4 (List.mem_of_getElem? (i := 38) rfl))))
  obtain ⟨c3, a3, b3⟩ := refs_known (C := "SlipHunt$Big") (hts _ (List.mem_append_right _ (tb2 (List.mem_of_getElem? (i := 66) rfl))))
  obtain ⟨c4, a4, b4⟩ := refs_known (C := "SlipHunt$House") (hts _ (List.mem_append_right _ (tb1 (List.mem_of_getElem? (i := 152) rfl))))
  obtain ⟨c5, a5, b5⟩ := refs_known (C := "SlipHunt$Notes") (hts _ (List.mem_append_right _ (tb1 (List.mem_of_getElem? (i := 153) rfl))))
  refine ⟨fun k => if k = 0 then c0 else if k = 1 then c1 else if k = 2 then c2 else if k = 3 then c3 else if k = 4 then c4 else c5, fun k q hq => ?_⟩
  match k, hq with
  | 0, hq => cases hq; exact ⟨a0, b0⟩
  | 1, hq => cases hq; exact ⟨a1, b1⟩
  | 2, hq => cases hq; exact ⟨a2, b2⟩
  | 3, hq => cases hq; exact ⟨a3, b3⟩
  | 4, hq => cases hq; exact ⟨a4, b4⟩
  | 5, hq => cases hq; exact ⟨a5, b5⟩
  | k + 6, hq => simp [tysZ] at hq
theorem nests_known {s : State} {args : Array Value} (hts : ∀ w ∈ lw_tbl, w.before args s = true) : NE s := List.forall_mem_cons.mpr ⟨va_Nw.of rfl (hts _ (List.mem_append_right _ (tb1 (List.mem_of_getElem? (i := 31) rfl)))), List.forall_mem_cons.mpr ⟨va_Nw.of rfl (hts _ (List.mem_append_right _ (tb1 (List.mem_of_getElem? (i := 102) rfl)))), List.forall_mem_cons.mpr ⟨va_Nw.of rfl (hts _ (List.mem_append_right _ (tb1 (List.mem_of_getElem? (i := 127) rfl)))), List.forall_mem_cons.mpr ⟨va_Nw.of rfl (hts _ (List.mem_append_right _ (tb2 (List.mem_of_getElem? (i := 12) rfl)))), List.forall_mem_cons.mpr ⟨va_Nw.of rfl (hts _ (List.mem_append_right _ (tb2 (List.mem_of_getElem? (i := 67) rfl)))), List.forall_mem_cons.mpr ⟨va_Nw.of rfl (hts _ (List.mem_append_right _ (tb2 (List.mem_of_getElem? (i := 95) rfl)))), List.forall_mem_cons.mpr ⟨va_Nw.of rfl (hts _ (List.mem_append_right _ (tb2 (List.mem_of_getElem? (i := 131) rfl)))), List.forall_mem_cons.mpr ⟨va_Nw.of rfl (hts _ (List.mem_append_right _ (tb2 (List.mem_of_getElem? (i := 178) rfl)))), List.forall_mem_cons.mpr ⟨va_Nw.of rfl (hts _ (List.mem_append_right _ (tb2 (List.mem_of_getElem? (i := 201) rfl)))), List.forall_mem_cons.mpr ⟨va_Nw.of rfl (hts _ (List.mem_append_right _ (tb3 (List.mem_of_getElem? (i := 45) rfl)))), List.forall_mem_cons.mpr ⟨va_Nw.of rfl (hts _ (List.mem_append_right _ (tb3 (List.mem_of_getElem? (i := 131) rfl)))), List.forall_mem_cons.mpr ⟨va_Nw.of rfl (hts _ (List.mem_append_right _ (tb4 (List.mem_of_getElem? (i := 16) rfl)))), List.forall_mem_cons.mpr ⟨va_Nw.of rfl (hts _ (List.mem_append_right _ (tb4 (List.mem_of_getElem? (i := 80) rfl)))), List.forall_mem_cons.mpr ⟨va_Nw.of rfl (hts _ (List.mem_append_right _ (tb4 (List.mem_of_getElem? (i := 107) rfl)))), List.forall_mem_cons.mpr ⟨va_Nw.of rfl (hts _ (List.mem_append_right _ (tb4 (List.mem_of_getElem? (i := 217) rfl)))), fun _ h => absurd h List.not_mem_nil⟩⟩⟩⟩⟩⟩⟩⟩⟩⟩⟩⟩⟩⟩⟩
abbrev FL : List Cond := flatC (Jvm.Cond.and given_1 narrow_1)
abbrev tmS (i : Nat) : Term := .string "SlipHunt$Told" (strK.getD i 0)
theorem strL_lt : ∀ i : Nat, i < 10 → strL.getD i 0 < 2 ^ 31 := by decide +kernel
theorem str_ex : ∀ i : Nat, i < 10 → Cond.exactly (tmS i) "java/lang/String" ∈ FL := by decide +kernel
theorem str_co : ∀ i : Nat, i < 10 → Cond.eq (.field (tmS i) "java/lang/String" "coder" "B") (.int 0) ∈ FL := by decide +kernel
theorem str_ar : ∀ i : Nat, i < 10 → Cond.arrayOf (.field (tmS i) "java/lang/String" "value" "[B") .byte ∈ FL := by decide +kernel
theorem str_le : ∀ i : Nat, i < 10 → Cond.eq (.length (.field (tmS i) "java/lang/String" "value" "[B")) (.int (Int32.ofNat (strL.getD i 0))) ∈ FL := by decide +kernel
theorem str_el : ∀ i : Nat, i < 10 → ∀ j : Nat, j < strL.getD i 0 → Cond.eq (.elem (.field (tmS i) "java/lang/String" "value" "[B") (.int (Int32.ofNat j))) (.int ((strB.getD i []).getD j 0)) ∈ FL := by decide +kernel
theorem str_ne : ∀ i : Nat, i < 10 → ∀ j : Nat, j < 10 → i < j → Cond.not (Cond.eq (tmS i) (tmS j)) ∈ FL := by decide +kernel
def row_el (C n : String) (N : Nat) (r : List Int32) : Prop := ∀ j : Nat, j < N → Cond.eq (.elem (.static C n "[I") (.int (Int32.ofNat j))) (.int (r.getD j 0)) ∈ FL
theorem row_0 : row_el "SlipHunt$Told" "NUMBERS_OF" 10 [0, 3, 2, 5, 2, 2, 2, 1, 2, 2] := by unfold row_el; decide +kernel
theorem row_1 : row_el "SlipHunt$Notes" "LEAST" 5 [1, 0, 0, 0, 0] := by unfold row_el; decide +kernel
theorem row_2 : row_el "SlipHunt$Notes" "GREATEST" 5 [6, 200, 10, 9, 9] := by unfold row_el; decide +kernel
/-- a static row of numbers -/
theorem row_known {s : State} {args : Array Value} {C n : String} {N : Nat} {r : List Int32} {A : Nat → Prop} (hF : ∀ w ∈ FL, w.before args s = true) (hN : N < 2 ^ 31) (h1 : Cond.arrayOf (.static C n "[I") .int ∈ FL) (h2 : Cond.eq (.length (.static C n "[I")) (.int (Int32.ofNat N)) ∈ FL) (h3 : row_el C n N r) (hl : (Cond.laysStatic C n "[I").before args s = true) (hi : (Cond.initialized C).before args s = true) (hA : ∀ a : Nat, a < s.heap.size → ¬ A a) :
    ∃ t : Nat, va_Z C n "[I" (.ref t) A s s.heap ∧ va_T .int t N (fun j => .int (r.getD j 0)) A s s.heap := by
  obtain ⟨t, e, g⟩ := va_Tof (f := fun j => .int (r.getD j 0)) (A := A) hN (hF _ h1) (va_eqt (hF _ h2)) (fun j hj => va_eqt (hF _ (h3 j hj))) hA
  exact ⟨t, va_Zref hl hi e hA, g⟩
/-- all that the world holds of old -/
theorem SF_known {s : State} {args : Array Value} (l : Launch) (D : va_G) (f : Nat → ClassId) (hts : ∀ w ∈ lw_tbl, w.before args s = true) (hF : ∀ w ∈ FL, w.before args s = true) : ∃ g : Nat → Nat, SF (l, D, s.heap.size, f, g) s s.heap := by
  have hA : ∀ a : Nat, a < s.heap.size → ¬ (fun q : Nat => s.heap.size ≤ q) a := fun a h h2 => Nat.not_le.mpr h h2
  obtain ⟨t0, z0, w0⟩ := row_known (A := fun q : Nat => s.heap.size ≤ q) hF (by decide) (by decide +kernel) (by decide +kernel) row_0 (hts _ (List.mem_append_right _ (tb4 (List.mem_of_getElem? (i := 0) rfl)))) (hts _ (List.mem_append_right _ (tb1 (List.mem_of_getElem? (i := 4) rfl)))) hA
  obtain ⟨t1, z1, w1⟩ := row_known (A := fun q : Nat => s.heap.size ≤ q) hF (by decide) (by decide +kernel) (by decide +kernel) row_1 (hts _ (List.mem_append_right _ (tb3 (List.mem_of_getElem? (i := 133) rfl)))) (hts _ (List.mem_append_right _ (tb1 (List.mem_of_getElem? (i := 3) rfl)))) hA
  obtain ⟨t2, z2, w2⟩ := row_known (A := fun q : Nat => s.heap.size ≤ q) hF (by decide) (by decide +kernel) (by decide +kernel) row_2 (hts _ (List.mem_append_right _ (tb3 (List.mem_of_getElem? (i := 135) rfl)))) (hts _ (List.mem_append_right _ (tb1 (List.mem_of_getElem? (i := 3) rfl)))) hA
  obtain ⟨adK, adV, k1, k3⟩ := vk_Sof (tm := tmS) (len := strL) (byt := strB) (A := fun q : Nat => s.heap.size ≤ q) strL_lt (fun i hi => hF _ (str_ex i hi)) (fun i hi => hF _ (str_co i hi)) (fun i hi => hF _ (str_ar i hi)) (fun i hi => hF _ (str_le i hi)) (fun i hi j hj => hF _ (str_el i hi j hj)) (fun i j hi hj hij => by
    rcases Nat.lt_or_gt_of_ne hij with h | h
    · exact Or.inl (hF _ (str_ne i hi j hj h))
    · exact Or.inr (hF _ (str_ne j hj i hi h))) hA
  have kz : va_Z "java/lang/String" "COMPACT_STRINGS" "Z" (.int 1) (fun q : Nat => s.heap.size ≤ q) s s.heap := va_Zof (hts _ (List.mem_append_right _ (tb3 (List.mem_of_getElem? (i := 191) rfl)))) (hts _ (List.mem_append_right _ (tb1 (List.mem_of_getElem? (i := 15) rfl)))) (va_eqt (hF _ (by decide +kernel))) hA
  have kq : va_Zq "jdk/internal/util/Preconditions" "SIOOBE_FORMATTER" "Ljava/util/function/BiFunction;" (fun q : Nat => s.heap.size ≤ q) s s.heap := va_Zqof (hts _ (List.mem_append_right _ (tb3 (List.mem_of_getElem? (i := 207) rfl)))) (hts _ (List.mem_append_right _ (tb1 (List.mem_of_getElem? (i := 17) rfl)))) (hF _ (by decide +kernel)) hA
  refine ⟨fun k => if k = 0 then t0 else if k = 1 then t1 else if k = 2 then t2 else if k < 20 then adK (k - 10) else adV (k - 20), ⟨z0, w0⟩, ⟨z1, w1⟩, ⟨z2, w2⟩, nests_known hts, kz, ⟨fun i hi => ?_, fun i j hi hj e => ?_⟩, fun i hi => ?_, kq, va_AO.of (hts _ (List.mem_append_right _ (tb2 (List.mem_of_getElem? (i := 66) rfl)))), va_AO.of (hts _ (List.mem_append_right _ (tb1 (List.mem_of_getElem? (i := 152) rfl)))), va_AO.of (hts _ (List.mem_append_right _ (tb1 (List.mem_of_getElem? (i := 153) rfl))))⟩
  · have e1 : (if 10 + i = 0 then t0 else if 10 + i = 1 then t1 else if 10 + i = 2 then t2 else if 10 + i < 20 then adK (10 + i - 10) else adV (10 + i - 20)) = adK i := by
      rw [if_neg (by omega), if_neg (by omega), if_neg (by omega), if_pos (by omega), Nat.add_sub_cancel_left]
    have e2 : (if 20 + i = 0 then t0 else if 20 + i = 1 then t1 else if 20 + i = 2 then t2 else if 20 + i < 20 then adK (20 + i - 10) else adV (20 + i - 20)) = adV i := by
      rw [if_neg (by omega), if_neg (by omega), if_neg (by omega), if_neg (by omega), Nat.add_sub_cancel_left]
    have := k1.1 i hi
    dsimp only
    rw [e1, e2]
    exact this
  · refine k1.2 i j hi hj ?_
    dsimp only at e
    rw [if_neg (by omega), if_neg (by omega), if_neg (by omega), if_pos (by omega), Nat.add_sub_cancel_left, if_neg (by omega), if_neg (by omega), if_neg (by omega), if_pos (by omega), Nat.add_sub_cancel_left] at e
    exact e
  · have e1 : (if 10 + i = 0 then t0 else if 10 + i = 1 then t1 else if 10 + i = 2 then t2 else if 10 + i < 20 then adK (10 + i - 10) else adV (10 + i - 20)) = adK i := by
      rw [if_neg (by omega), if_neg (by omega), if_neg (by omega), if_pos (by omega), Nat.add_sub_cancel_left]
    dsimp only
    rw [e1]
    exact match i, hi with
    | 0, _ => vk_R.of (hts _ (List.mem_append_right _ (tb3 (List.mem_of_getElem? (i := 177) rfl)))) (k3 0 (by decide))
    | 1, _ => vk_R.of (hts _ (List.mem_append_right _ (tb3 (List.mem_of_getElem? (i := 230) rfl)))) (k3 1 (by decide))
    | 2, _ => vk_R.of (hts _ (List.mem_append_right _ (tb3 (List.mem_of_getElem? (i := 231) rfl)))) (k3 2 (by decide))
    | 3, _ => vk_R.of (hts _ (List.mem_append_right _ (tb3 (List.mem_of_getElem? (i := 232) rfl)))) (k3 3 (by decide))
    | 4, _ => vk_R.of (hts _ (List.mem_append_right _ (tb3 (List.mem_of_getElem? (i := 233) rfl)))) (k3 4 (by decide))
    | 5, _ => vk_R.of (hts _ (List.mem_append_right _ (tb3 (List.mem_of_getElem? (i := 234) rfl)))) (k3 5 (by decide))
    | 6, _ => vk_R.of (hts _ (List.mem_append_right _ (tb3 (List.mem_of_getElem? (i := 235) rfl)))) (k3 6 (by decide))
    | 7, _ => vk_R.of (hts _ (List.mem_append_right _ (tb3 (List.mem_of_getElem? (i := 236) rfl)))) (k3 7 (by decide))
    | 8, _ => vk_R.of (hts _ (List.mem_append_right _ (tb3 (List.mem_of_getElem? (i := 237) rfl)))) (k3 8 (by decide))
    | 9, _ => vk_R.of (hts _ (List.mem_append_right _ (tb3 (List.mem_of_getElem? (i := 238) rfl)))) (k3 9 (by decide))
theorem L_end {Z : ZT} {p : Program} {e : Env} {s : State} {m : MethodId} {below : List Frame} {meth : Method} {c : Code} {b : Nat} (hx : p.tables.exec = Jvm.exec) (hb : c.code = code) (hr : meth.sig.returnType = ret) (hlocks : meth.locks = false) (hZ : Z.2.2.1 = s.heap.size) {lv : List (Nat × Value)} {μ : Mu} : LJ Z (p, e, room_1, s, m, #[Value.ref b], below, meth, c, lw_Z below #[Value.ref b] s, 4) 1318 lv [.int 1] μ := by
  intro H locs ls h1 h2 h3 h4
  refine va_forget (fun q hq => ?_) (W.widen (k := 600000) (n := 7302249) (Nat.le_of_ble_eq_true rfl) (Nat.le_of_ble_eq_true rfl) (lw_ret hx hb hr hlocks dL_law_1318))
  rw [← hZ]
  exact h4.2.2 q hq
/-- the law's body, from its entry -/
theorem law_main {Z : ZT} {X : XT} {nm : String} {b L : Nat} {M : Mem} {xs : Nat → Int32} (E : Ent Z X (mL nm) 600000 7302249) (S : Scr Z X b L xs) (fin : ∀ i μ, LJ Z X 1317 (LV Z b i) [] μ) : J Z X 0 0 0 0 [(0, .ref b)] [] M := by
  have hL : L ≤ 3072 := S.2.2.2
  refine J_new (ci := 11) (fs := [.null, .null, .null, .null, .null, .null, .null, .null, .null, .null, .null, .null, .null, .null, .null, .null, .null, .null]) E dL_law_0 rfl uX11 tyX11 tyX11_ok w1_21 w1_22 w1_1 df_X11 (Nat.le_of_ble_eq_true rfl) (Nat.le_of_ble_eq_true rfl) ?_
  refine J_dup E dL_law_3 rfl ?_
  refine J_callI (As := []) (rest := [.ref (Z.2.2.1 + 0)]) E dL_law_4 (i_X11 va_up_s) kX11_init ⟨(Nat.le_of_ble_eq_true rfl), (Nat.le_of_ble_eq_true rfl)⟩ rfl (Nat.le_of_ble_eq_true rfl) (Nat.le_of_ble_eq_true rfl) (Nat.le_of_ble_eq_true rfl) (Nat.le_of_ble_eq_true rfl) w1_23 w1_24 rfl rfl (fun r M' hp => ?_)
  obtain ⟨rfl, -, h2⟩ := hp
  refine J.cast (n' := 455) (k' := 455) (sl' := 8412) rfl rfl rfl ?_
  refine J.mem (M' := WM Z muX) (fun a ha => h2 a (Nat.zero_le _) ha) ?_
  refine J_astore_n (lv' := [(0, .ref b), (1, xrf Z)]) E dL_law_7 (Nat.le_of_ble_eq_true rfl) rfl ?_
  refine J_new (ci := 12) (fs := [.null, .null, .null, .null, .int 0, .int 0, .int 0, .int 0, .int 0, .int 0, .null, .null, .int 0, .int 0, .null, .null, .null, .int 0, .null, .int 0, .null, .null, .null, .null, .null, .null, .null, .long 0]) E dL_law_8 rfl uX12 tyX12 tyX12_ok w5_192 w5_193 w1_14 df_X12 (Nat.le_of_ble_eq_true rfl) (Nat.le_of_ble_eq_true rfl) ?_
  refine J_dup E dL_law_11 rfl ?_
  refine J_callI (As := []) (rest := [.ref (Z.2.2.1 + 455)]) E dL_law_12 (i_X12 (μ := muX) (fun a h => muX_0 (by omega) (by omega) (by omega) (by omega) (by omega) (by omega)) va_up_s) kX12_init ⟨(Nat.le_of_ble_eq_true rfl), (Nat.le_of_ble_eq_true rfl)⟩ rfl (Nat.le_of_ble_eq_true rfl) (Nat.le_of_ble_eq_true rfl) (Nat.le_of_ble_eq_true rfl) (Nat.le_of_ble_eq_true rfl) w5_194 w5_195 rfl rfl (fun r M' hp => ?_)
  obtain ⟨rfl, h1, h3⟩ := hp
  refine J.cast (n' := 473) (k' := 473) (sl' := 17501) rfl rfl rfl ?_
  refine J.mem (M' := WM Z muI) (fun a ha => ?_) ?_
  · rcases Nat.lt_or_ge a 455 with h | h
    · rw [h1 a h, va_up_n (by omega)]
      exact WM_congr (muI_n (by omega) (by omega)).symm
    · exact h3 a h ha
  refine J_astore_n (lv' := [(0, .ref b), (1, xrf Z), (2, mrf Z)]) E dL_law_15 (Nat.le_of_ble_eq_true rfl) rfl ?_
  refine J_iconst (v := nI 0) E dL_law_16 (by decide +kernel) ?_
  refine J_istore_n (lv' := LV Z b 0) E dL_law_17 (Nat.le_of_ble_eq_true rfl) rfl ?_
  exact law_loop E S fin L 0 muI (by omega) (by omega) invI
