/-! CORE: the words of the tables that are good; worlds by offsets; contracts; the judgement J of a method's body -/
def ALL : List Cond := lw_tbl.filter goodWord
theorem all_good {w : Cond} (h : w ∈ ALL) : goodWord w = true := (List.mem_filter.mp h).2
theorem all_in {w : Cond} (h : w ∈ lw_tbl) (hg : goodWord w = true) : w ∈ ALL := List.mem_filter.mpr ⟨h, hg⟩
theorem all_tbl {w : Cond} (h : w ∈ tables_1) (hg : goodWord w = true) : w ∈ ALL := all_in (List.mem_append_right _ h) hg
theorem all_GoodIn : GoodIn ALL ALL := fun _ h => ⟨h, good_of_word (all_good h)⟩
theorem all_GoodInC {w : Cond} (h : w ∈ ALL) : GoodIn ALL (w :: ALL) := fun v hv => by
  rcases List.mem_cons.mp hv with rfl | hv
  · exact all_GoodIn _ h
  · exact all_GoodIn _ hv
theorem tb1 {w : Cond} (h : w ∈ tables_1_1) : w ∈ tables_1 := List.mem_append_left _ h
theorem tb2 {w : Cond} (h : w ∈ tables_1_2) : w ∈ tables_1 := List.mem_append_right _ (List.mem_append_left _ h)
theorem tb3 {w : Cond} (h : w ∈ tables_1_3) : w ∈ tables_1 := List.mem_append_right _ (List.mem_append_right _ (List.mem_append_left _ h))
theorem tb4 {w : Cond} (h : w ∈ tables_1_4) : w ∈ tables_1 := List.mem_append_right _ (List.mem_append_right _ (List.mem_append_right _ (List.mem_append_left _ h)))
theorem tb5 {w : Cond} (h : w ∈ tables_1_5) : w ∈ tables_1 := List.mem_append_right _ (List.mem_append_right _ (List.mem_append_right _ (List.mem_append_right _ (List.mem_append_left _ h))))
theorem tb6 {w : Cond} (h : w ∈ tables_1_6) : w ∈ tables_1 := List.mem_append_right _ (List.mem_append_right _ (List.mem_append_right _ (List.mem_append_right _ (List.mem_append_right _ (List.mem_append_left _ h)))))
theorem tb7 {w : Cond} (h : w ∈ tables_1_7) : w ∈ tables_1 := List.mem_append_right _ (List.mem_append_right _ (List.mem_append_right _ (List.mem_append_right _ (List.mem_append_right _ (List.mem_append_right _ h)))))
/-- the run: the launch, the classes' numbers and slots, where the world begins, the arrays' classes, where statics' arrays and texts lie -/
abbrev ZT : Type := Launch × va_G × Nat × (Nat → ClassId) × (Nat → Nat)
abbrev tysZ (f : Nat → ClassId) : List (ClassId × FieldType) := [(f 0, .int), (f 1, .boolean), (f 2, .byte), (f 3, .object "SlipHunt$Big"), (f 4, .object "SlipHunt$House"), (f 5, .object "SlipHunt$Notes")]
/-- a method: name, code, words of locals, return type, frames and locals that it needs -/
abbrev MT : Type := MethodName × ByteArray × Nat × Option FieldType × Nat × Nat
abbrev Mem : Type := Nat → va_E
def Aof (Z : ZT) : Nat → Prop := fun q => Z.2.2.1 ≤ q
def wsO (B n : Nat) (M : Mem) : va_W := (List.range n).map fun o => (B + o, M o)
theorem wsO_get {B n : Nat} {M : Mem} {o : Nat} (h : o < n) : (wsO B n M)[o]? = some (B + o, M o) := by
  simp [wsO, h]
theorem wsO_of {B n : Nat} {M : Mem} {k : Nat} {q : Nat × va_E} (h : (wsO B n M)[k]? = some q) : k < n ∧ q = (B + k, M k) := by
  simp only [wsO, List.getElem?_map, Option.map_eq_some_iff] at h
  obtain ⟨a, h1, h2⟩ := h
  obtain ⟨h3, h4⟩ := List.getElem?_eq_some_iff.mp h1
  rw [List.getElem_range] at h4
  subst h4
  exact ⟨by simpa using h3, h2.symm⟩
theorem wsO_len {B n : Nat} {M : Mem} : (wsO B n M).length = n := by simp [wsO]
theorem wsO_set {B n : Nat} {M : Mem} {o : Nat} {e : va_E} (h : o < n) : (wsO B n M).set o (B + o, e) = wsO B n (va_up M o e) := by
  apply List.ext_getElem?
  intro k
  rw [List.getElem?_set]
  by_cases hk : o = k
  · subst hk
    rw [if_pos rfl, wsO_len, if_pos h, wsO_get h]
    simp [va_up]
  · rw [if_neg hk]
    by_cases hn : k < n
    · rw [wsO_get hn, wsO_get hn]
      simp [va_up, Ne.symm hk]
    · rw [List.getElem?_eq_none (by rw [wsO_len]; omega), List.getElem?_eq_none (by rw [wsO_len]; omega)]
theorem wsO_push {B n : Nat} {M : Mem} {e : va_E} : wsO B n M ++ [(B + n, e)] = wsO B (n + 1) (va_up M n e) := by
  unfold wsO
  rw [List.range_succ, List.map_append]
  congr 1
  · apply List.map_congr_left
    intro a ha
    have : a ≠ n := Nat.ne_of_lt (List.mem_range.mp ha)
    simp [va_up, this]
  · simp [va_up]
theorem wsO_D {Z : ZT} {n : Nat} {M : Mem} : va_D (Aof Z) (wsO Z.2.2.1 n M) := by
  refine ⟨fun i j p q hi hj e => ?_, fun k q hk => ?_⟩
  · obtain ⟨-, rfl⟩ := wsO_of hi
    obtain ⟨-, rfl⟩ := wsO_of hj
    simpa using e
  · obtain ⟨-, rfl⟩ := wsO_of hk
    exact Nat.le_add_right _ _
def NESTS : List (String × Nat × MethodName × String) := [(RX11, 9, yX3_init, RX11), (RX11, 21, yX6_init, RX11), (RX11, 28, yX9_init, RX11), (RX5, 11, yX0_init, RX11), (RX8, 23, yX0_init, RX11), (RX7, 17, yX0_init, RX11), (RX1, 17, yX0_init, RX11), (RX2, 9, yX0_init, RX11), (RX11, 113, yX0_init, RX11), (RX3, 80, yX11_within, RX11), (RX6, 31, yX11_within, RX11), (RX9, 87, yX11_within, RX11), (RX4, 46, yX11_within, RX11), (RX10, 69, yX11_within, RX11), (RX5, 81, yX11_within, RX11)]
def NE (U : State) : Prop := ∀ q ∈ NESTS, va_Nw (.methodLinkNest q.1 q.2.1 q.2.2.1 q.2.2.2) U
theorem NE.warm {s U : State} (hW : s.WarmedH U.vm) (h : NE s) : NE U := fun q hq => va_Nw.warmM hW (h q hq)
theorem NE.same {u U : State} (hv : u.vm = U.vm) (h : NE u) : NE U := fun q hq => va_Nw.same rfl hv (h q hq)
/-- the texts in the code: where they stand, how long they are, their bytes -/
def strK : List Nat := [54, 60, 62, 64, 66, 68, 70, 72, 74, 76]
def strT : List String := ["place", "way", "sees", "child", "bar", "join", "slip", "spare", "means", "row"]
def strL : List Nat := [5, 3, 4, 5, 3, 4, 4, 5, 5, 3]
def strB : List (List Int32) := [[112, 108, 97, 99, 101], [119, 97, 121], [115, 101, 101, 115], [99, 104, 105, 108, 100], [98, 97, 114], [106, 111, 105, 110], [115, 108, 105, 112], [115, 112, 97, 114, 101], [109, 101, 97, 110, 115], [114, 111, 119]]
def SX (Z : ZT) (U : State) (H : Heap) : Prop :=
  va_Z "java/lang/String" "COMPACT_STRINGS" "Z" (.int 1) (Aof Z) U H ∧ vk_S 10 strL strB (fun i => Z.2.2.2.2 (10 + i)) (fun i => Z.2.2.2.2 (20 + i)) (Aof Z) U H ∧
  (∀ i, i < 10 → vk_R "SlipHunt$Told" (strK.getD i 0) (strT.getD i "") (Z.2.2.2.2 (10 + i)) U) ∧
  va_Zq "jdk/internal/util/Preconditions" "SIOOBE_FORMATTER" "Ljava/util/function/BiFunction;" (Aof Z) U H ∧
  va_AO "SlipHunt$Big" U ∧ va_AO "SlipHunt$House" U ∧ va_AO "SlipHunt$Notes" U
theorem SX.warm {Z : ZT} {s U : State} {H : Heap} (hW : s.WarmedH U.vm) (h : SX Z s H) : SX Z U H :=
  ⟨va_Z.moved hW.alike h.1, vk_S.moved hW.alike h.2.1, fun i hi => vk_R.warm hW (h.2.2.1 i hi), va_Zq.moved hW.alike h.2.2.2.1, h.2.2.2.2.1.moved hW.alike, h.2.2.2.2.2.1.moved hW.alike, h.2.2.2.2.2.2.moved hW.alike⟩
theorem SX.same {Z : ZT} {u U : State} {H : Heap} (hv : u.vm = U.vm) (h : SX Z u H) : SX Z U H :=
  ⟨va_Z.moved (hv ▸ Vm.Alike.refl u.vm) h.1, vk_S.moved (hv ▸ Vm.Alike.refl u.vm) h.2.1, fun i hi => vk_R.same hv.symm (h.2.2.1 i hi), va_Zq.moved (hv ▸ Vm.Alike.refl u.vm) h.2.2.2.1, h.2.2.2.2.1.moved (hv ▸ Vm.Alike.refl u.vm), h.2.2.2.2.2.1.moved (hv ▸ Vm.Alike.refl u.vm), h.2.2.2.2.2.2.moved (hv ▸ Vm.Alike.refl u.vm)⟩
theorem SX.kept {Z : ZT} {U : State} {H H1 : Heap} (h : SX Z U H) (hq : ∀ a : Nat, a < H.size → ¬ Aof Z a → H1[a]? = H[a]?) : SX Z U H1 :=
  ⟨va_Z.kept h.1 hq, vk_S.kept h.2.1 hq, h.2.2.1, va_Zq.kept h.2.2.2.1 hq, h.2.2.2.2⟩
/-- what the old heap holds that nobody writes: static arrays, texts -/
def SF (Z : ZT) (U : State) (H : Heap) : Prop :=
  (va_Z "SlipHunt$Told" "NUMBERS_OF" "[I" (.ref (Z.2.2.2.2 0)) (Aof Z) U H ∧ va_T .int (Z.2.2.2.2 0) 10 (fun j => .int (([0, 3, 2, 5, 2, 2, 2, 1, 2, 2] : List Int32).getD j 0)) (Aof Z) U H) ∧
  (va_Z "SlipHunt$Notes" "LEAST" "[I" (.ref (Z.2.2.2.2 1)) (Aof Z) U H ∧ va_T .int (Z.2.2.2.2 1) 5 (fun j => .int (([1, 0, 0, 0, 0] : List Int32).getD j 0)) (Aof Z) U H) ∧
  (va_Z "SlipHunt$Notes" "GREATEST" "[I" (.ref (Z.2.2.2.2 2)) (Aof Z) U H ∧ va_T .int (Z.2.2.2.2 2) 5 (fun j => .int (([6, 200, 10, 9, 9] : List Int32).getD j 0)) (Aof Z) U H) ∧ NE U ∧ SX Z U H
theorem SF.warm {Z : ZT} {s U : State} {H : Heap} (hW : s.WarmedH U.vm) (h : SF Z s H) : SF Z U H :=
  ⟨⟨va_Z.moved hW.alike h.1.1, va_T.moved hW.alike h.1.2⟩, ⟨va_Z.moved hW.alike h.2.1.1, va_T.moved hW.alike h.2.1.2⟩, ⟨va_Z.moved hW.alike h.2.2.1.1, va_T.moved hW.alike h.2.2.1.2⟩, h.2.2.2.1.warm hW, h.2.2.2.2.warm hW⟩
theorem SF.same {Z : ZT} {u U : State} {H : Heap} (hv : u.vm = U.vm) (h : SF Z u H) : SF Z U H :=
  ⟨⟨va_Z.moved (hv ▸ Vm.Alike.refl u.vm) h.1.1, va_T.moved (hv ▸ Vm.Alike.refl u.vm) h.1.2⟩, ⟨va_Z.moved (hv ▸ Vm.Alike.refl u.vm) h.2.1.1, va_T.moved (hv ▸ Vm.Alike.refl u.vm) h.2.1.2⟩, ⟨va_Z.moved (hv ▸ Vm.Alike.refl u.vm) h.2.2.1.1, va_T.moved (hv ▸ Vm.Alike.refl u.vm) h.2.2.1.2⟩, h.2.2.2.1.same hv, h.2.2.2.2.same hv⟩
theorem SF.kept {Z : ZT} {U : State} {H H1 : Heap} (h : SF Z U H) (hq : ∀ a : Nat, a < H.size → ¬ Aof Z a → H1[a]? = H[a]?) : SF Z U H1 :=
  ⟨⟨va_Z.kept h.1.1 hq, va_T.kept h.1.2 hq⟩, ⟨va_Z.kept h.2.1.1 hq, va_T.kept h.2.1.2 hq⟩, ⟨va_Z.kept h.2.2.1.1 hq, va_T.kept h.2.2.1.2 hq⟩, h.2.2.2.1, h.2.2.2.2.kept hq⟩
def World (Z : ZT) (n : Nat) (M : Mem) (U : State) : Prop := U.heap.size = Z.2.2.1 + n ∧ va_P Z.2.1 vwCl (wsO Z.2.2.1 n M) U.heap ∧ va_K Z.2.1 vwCl (tysZ Z.2.2.2.1) U ∧ SF Z U U.heap
def rmOf (m : MT) (k ms : Nat) : Room := { frames := m.2.2.2.2.1, cells := k, slots := ms, locals := m.2.2.2.2.2 }
def QcOf (Z : ZT) (n' : Nat) (Post : Option Value → Mem → Prop) : Array Value → State → Outcome → State → Prop := fun _ st oc t => (∃ (r : Option Value) (M' : Mem), oc = .returned r ∧ Post r M' ∧ World Z n' M' t) ∧ va_F (Aof Z) st t
/-- a contract: from a world of n cells that holds M, the method comes back with a world of n' cells, and Post holds -/
def Ctr (Z : ZT) (m : MT) (as : List Value) (n n' ms : Nat) (M : Mem) (Post : Option Value → Mem → Prop) : Prop :=
  Met Z.1 m.1 (Cond.code m.1 m.2.1 m.2.2.1 m.2.2.2.1 :: ALL) (rmOf m (n' - n) ms) (va_Pc as (World Z n M)) (QcOf Z n' Post) (n' - n) ms (Aof Z)
abbrev XT : Type := Program × Env × Room × State × MethodId × Array Value × List Frame × Method × Code × (State → Prop) × Nat
def J (Z : ZT) (X : XT) (n k sl : Nat) (pc : Nat) (lv : List (Nat × Value)) (st : List Value) (M : Mem) : Prop :=
  match X with
  | (p, e, R, s, m, args, below, meth, c, Q, nL) => ∀ (H : Heap) (locs : List Loc) (ls : Array Slot), lv_has ls nL lv → (Z.2.2.1 ≤ s.heap.size ∧ s.heap.size + k = Z.2.2.1 + n) → va_P Z.2.1 vwCl (wsO Z.2.2.1 n M) H → va_S (Aof Z) s.heap H locs →
    W p Z.1 e R s m args below meth c H locs k sl Q (F0 m pc ls st)
/-- what a body may use everywhere: the machine, the code, the tables, the statics; the room -/
def Ent (Z : ZT) (X : XT) (m : MT) (rc rs : Nat) : Prop :=
  match X with
  | (p, _, R, s, mi, args, _, meth, c, _, nL) => p.tables.exec = Jvm.exec ∧ c.code = m.2.1 ∧ c.maxLocals = nL ∧ s.vm.findClass m.1.cls = some mi.cls ∧ (∀ w ∈ ALL, w.before args s = true) ∧ va_K Z.2.1 vwCl (tysZ Z.2.2.2.1) s ∧ SF Z s s.heap ∧ Z.2.2.1 ≤ s.heap.size ∧
    R.frames = m.2.2.2.2.1 ∧ R.locals = m.2.2.2.2.2 ∧ R.cells = rc ∧ R.slots = rs ∧ nL = m.2.2.1 ∧ meth.sig.returnType = m.2.2.2.1 ∧ meth.locks = false ∧ meth.name = m.1.name
/-- the body of a method (not the law's own) -/
def Bod (Z : ZT) (X : XT) (n' : Nat) (k sl : Nat) (Post : Option Value → Mem → Prop) : Prop :=
  match X with
  | (_, _, _, s, _, args, below, _, _, Q, _) => Q = MQ below (QcOf Z n' Post) args s k sl (Aof Z)
theorem wsO_size {D : va_G} {cl : List vw_C} {B n : Nat} {M : Mem} {H : Heap} (h : va_P D cl (wsO B n M) H) (hn : 0 < n) : B + n ≤ H.size := by
  have h1 := (h (n - 1) _ (wsO_get (by omega))).lt
  have : B + (n - 1) < H.size := h1
  omega
/-- the heap's size, out of what has been made -/
theorem W_size {Z : ZT} {p : Program} {e : Env} {R : Room} {s : State} {m : MethodId} {args : Array Value} {below : List Frame} {meth : Method} {c : Code} {H : Heap} {locs : List Loc} {k sl n : Nat} {Q : State → Prop} {g : JFrame} {M : Mem} {B : Nat}
    (h2 : B ≤ s.heap.size ∧ s.heap.size + k = B + n) (h3 : va_P Z.2.1 vwCl (wsO B n M) H) (h4 : va_S (Aof Z) s.heap H locs) (kk : H.size = B + n → W p Z.1 e R s m args below meth c H locs k sl Q g) : W p Z.1 e R s m args below meth c H locs k sl Q g := by
  intro T hT X
  have hs : T.heap.size ≤ s.heap.size + k := X.same.2.2.1
  refine kk ?_ T hT X
  rw [hT] at hs
  have h5 := h4.1
  rcases Nat.eq_zero_or_pos n with h6 | h6
  · omega
  · have := wsO_size h3 h6
    omega
section CTR
variable {Z : ZT} {X : XT} {mt : MT} {rc rs n n' k sl pc ms : Nat} {lv : List (Nat × Value)} {st : List Value} {M : Mem} {Post : Option Value → Mem → Prop}
theorem J.weak {lv' : List (Nat × Value)} (ks : List Nat) (hl : lv_pick lv ks = lv') (h : J Z X n k sl pc lv' st M) : J Z X n k sl pc lv st M := by
  obtain ⟨p, e, R, s, m, args, below, meth, c, Q, nL⟩ := X
  intro H locs ls h1 h2 h3 h4
  exact h H locs ls (lv_sub h1 ks hl) h2 h3 h4
theorem J.mem {M' : Mem} (hM : ∀ o, o < n → M o = M' o) (h : J Z X n k sl pc lv st M') : J Z X n k sl pc lv st M := by
  obtain ⟨p, e, R, s, m, args, below, meth, c, Q, nL⟩ := X
  intro H locs ls h1 h2 h3 h4
  refine h H locs ls h1 h2 ?_ h4
  have : wsO Z.2.2.1 n M' = wsO Z.2.2.1 n M := by
    unfold wsO
    apply List.map_congr_left
    intro a ha
    rw [hM a (List.mem_range.mp ha)]
  rw [this]
  exact h3
theorem Ctr.mono {as : List Value} {Post' : Option Value → Mem → Prop} (h : Ctr Z mt as n n' ms M Post) (hP : ∀ r M', Post r M' → Post' r M') : Ctr Z mt as n n' ms M Post' := by
  intro p e ha hc hk s m args below hf happ hp ht
  obtain ⟨t, o, h1, h2, h3, ⟨⟨r, M', e1, e2, e3⟩, e4⟩, h5⟩ := h p e ha hc hk s m args below hf happ hp ht
  exact ⟨t, o, h1, h2, h3, ⟨⟨r, M', e1, hP _ _ e2, e3⟩, e4⟩, h5⟩
/-- a contract out of its body -/
theorem Ctr.intro {as : List Value} (hpl : plainName mt.1.cls = true) (hlen : (lg_sl as).length ≤ mt.2.2.1)
    (body : ∀ X : XT, Ent Z X mt (n' - n) ms → Bod Z X n' (n' - n) ms Post → J Z X n 0 0 0 (lv_args 0 as) [] M) : Ctr Z mt as n n' ms M Post := by
  refine Met.ofW (cc := mt.2.1) (maxL := mt.2.2.1) (ret := mt.2.2.2.1) hpl rfl ?_
  intro p e s m args below meth c s₁ B hml hv
  obtain ⟨rfl, hsz, hP, hK, hSF⟩ := hv
  have hts := atoms_spec (ws := Cond.code mt.1 mt.2.1 mt.2.2.1 mt.2.2.2.1 :: ALL) B.pre
  have hb := body (p, e, rmOf mt (n' - n) ms, s, m, as.toArray, below, meth, c, _, mt.2.2.1)
    ⟨B.exec, B.bytes, hml, findClass_of_methodNamed B.named, fun w hw => hts w (List.mem_cons_of_mem _ hw), hK, hSF, by rw [hsz]; exact Nat.le_add_right _ _, rfl, rfl, rfl, rfl, rfl, B.returns, B.notSynchronized, (name_of_methodNamed B.named B.method).1⟩ rfl
  have hl := lv_entry as (n := mt.2.2.1) hlen
  rw [lg_entry_eq]
  exact hb s.heap [] _ hl ⟨by rw [hsz]; exact Nat.le_add_right _ _, hsz⟩ hP va_S.rf
theorem Ent.exec (E : Ent Z X mt rc rs) : X.1.tables.exec = Jvm.exec := by
  obtain ⟨p, e, R, s, m, args, below, meth, c, Q, nL⟩ := X
  exact E.1
end CTR
