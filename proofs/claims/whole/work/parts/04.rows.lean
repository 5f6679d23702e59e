def lins : List (Nat × Value) → Nat → Value → List (Nat × Value)
  | [], i, v => [(i, v)]
  | (j, w) :: t, i, v => if Nat.blt j i = true then (j, w) :: lins t i v else (i, v) :: (j, w) :: t
def lset1 (lv : List (Nat × Value)) (i : Nat) (v : Value) : List (Nat × Value) := lins (lv.filter (fun q => !(q.1 == i) && !(q.1 + 1 == i && q.2.category == 2))) i v
def lset2 (lv : List (Nat × Value)) (i : Nat) (v : Value) : List (Nat × Value) := lins (lv.filter (fun q => !(q.1 == i) && (!(q.1 == i + 1) && !(q.1 + 1 == i && q.2.category == 2)))) i v
def lk : List (Nat × Value) → Nat → Option Value
  | [], _ => none
  | (j, w) :: t, i => if Nat.beq j i = true then some w else lk t i
/-! ROWS: an instruction each, over J -/
theorem lins_mem {l : List (Nat × Value)} {i : Nat} {v : Value} {q : Nat × Value} (h : q ∈ lins l i v) : q = (i, v) ∨ q ∈ l := by
  induction l with
  | nil => exact Or.inl (by simpa [lins] using h)
  | cons a t ih =>
    unfold lins at h
    split at h
    · rcases List.mem_cons.mp h with h | h
      · exact Or.inr (h ▸ List.mem_cons_self)
      · rcases ih h with h | h
        · exact Or.inl h
        · exact Or.inr (List.mem_cons_of_mem _ h)
    · rcases List.mem_cons.mp h with h | h
      · exact Or.inl h
      · exact Or.inr h
theorem lset1_has {ls : Array Slot} {nL i : Nat} {lv : List (Nat × Value)} {v : Value} (h : lv_has ls nL ((i, v) :: lv.filter (fun q => !(q.1 == i) && !(q.1 + 1 == i && q.2.category == 2)))) : lv_has ls nL (lset1 lv i v) :=
  ⟨h.1, h.2.1, fun q hq => h.2.2 q (by rcases lins_mem hq with e | e; exact e ▸ List.mem_cons_self; exact List.mem_cons_of_mem _ e)⟩
theorem lset2_has {ls : Array Slot} {nL i : Nat} {lv : List (Nat × Value)} {v : Value} (h : lv_has ls nL ((i, v) :: lv.filter (fun q => !(q.1 == i) && (!(q.1 == i + 1) && !(q.1 + 1 == i && q.2.category == 2))))) : lv_has ls nL (lset2 lv i v) :=
  ⟨h.1, h.2.1, fun q hq => h.2.2 q (by rcases lins_mem hq with e | e; exact e ▸ List.mem_cons_self; exact List.mem_cons_of_mem _ e)⟩
theorem lk_mem {lv : List (Nat × Value)} {i : Nat} {v : Value} (h : lk lv i = some v) : (i, v) ∈ lv := by
  induction lv with
  | nil => cases h
  | cons a t ih =>
    obtain ⟨j, w⟩ := a
    unfold lk at h
    split at h
    · rename_i e
      cases h
      have := Nat.eq_of_beq_eq_true e
      subst this
      exact List.mem_cons_self
    · exact List.mem_cons_of_mem _ (ih h)
theorem lk_at {ls : Array Slot} {nL i : Nat} {lv : List (Nat × Value)} {v : Value} (h : lv_has ls nL lv) (hk : lk lv i = some v) : ls[i]? = some (.val v) := h.2.2 (i, v) (lk_mem hk)
section ROWS
variable {Z : ZT} {X : XT} {mt : MT} {rc rs n k sl pc : Nat} {lv lv' : List (Nat × Value)} {st : List Value} {M : Mem}
theorem J_iconst (E : Ent Z X mt rc rs) {i : Int} {v : Int32} (hd : decode mt.2.1 pc = .ok (.iconst i, 1)) (hv : Int32.ofInt i = v) (kk : J Z X n k sl (pc + 1) lv (.int v :: st) M) : J Z X n k sl pc lv st M := by
  obtain ⟨p, e, R, s, m, args, below, meth, c, Q, nL⟩ := X
  intro H locs ls h1 h2 h3 h4
  exact lv_iconst E.1 E.2.1 hd hv (kk H locs ls h1 h2 h3 h4)
theorem J_bipush (E : Ent Z X mt rc rs) {i : Int} {v : Int32} (hd : decode mt.2.1 pc = .ok (.bipush i, 2)) (hv : (Int8.ofInt i).toInt32 = v) (kk : J Z X n k sl (pc + 2) lv (.int v :: st) M) : J Z X n k sl pc lv st M := by
  obtain ⟨p, e, R, s, m, args, below, meth, c, Q, nL⟩ := X
  intro H locs ls h1 h2 h3 h4
  exact lv_bipush E.1 E.2.1 hd hv (kk H locs ls h1 h2 h3 h4)
theorem J_sipush (E : Ent Z X mt rc rs) {i : Int} {v : Int32} (hd : decode mt.2.1 pc = .ok (.sipush i, 3)) (hv : (Int16.ofInt i).toInt32 = v) (kk : J Z X n k sl (pc + 3) lv (.int v :: st) M) : J Z X n k sl pc lv st M := by
  obtain ⟨p, e, R, s, m, args, below, meth, c, Q, nL⟩ := X
  intro H locs ls h1 h2 h3 h4
  exact lv_sipush E.1 E.2.1 hd hv (kk H locs ls h1 h2 h3 h4)
theorem J_lconst (E : Ent Z X mt rc rs) {i : Fin 2} {v : Int64} (hd : decode mt.2.1 pc = .ok (.lconst i, 1)) (hv : Int64.ofNat (i : Nat) = v) (kk : J Z X n k sl (pc + 1) lv (.long v :: st) M) : J Z X n k sl pc lv st M := by
  obtain ⟨p, e, R, s, m, args, below, meth, c, Q, nL⟩ := X
  intro H locs ls h1 h2 h3 h4
  exact lv_lconst E.1 E.2.1 hd hv (kk H locs ls h1 h2 h3 h4)
theorem J_null (E : Ent Z X mt rc rs)  (hd : decode mt.2.1 pc = .ok (.aconst_null, 1))  (kk : J Z X n k sl (pc + 1) lv (.null :: st) M) : J Z X n k sl pc lv st M := by
  obtain ⟨p, e, R, s, m, args, below, meth, c, Q, nL⟩ := X
  intro H locs ls h1 h2 h3 h4
  exact lv_null E.1 E.2.1 hd (kk H locs ls h1 h2 h3 h4)
theorem J_ldc (E : Ent Z X mt rc rs) {i : Nat} {v : Int32} (hd : decode mt.2.1 pc = .ok (.ldc i, 2)) (hw : Cond.constant mt.1.cls i v ∈ ALL) (kk : J Z X n k sl (pc + 2) lv (.int v :: st) M) : J Z X n k sl pc lv st M := by
  obtain ⟨p, e, R, s, m, args, below, meth, c, Q, nL⟩ := X
  intro H locs ls h1 h2 h3 h4
  exact lv_ldc E.1 E.2.1 E.2.2.2.1 (E.2.2.2.2.1 _ hw) hd (kk H locs ls h1 h2 h3 h4)
theorem J_ldc2 (E : Ent Z X mt rc rs) {i : Nat} {v : Int64} (hd : decode mt.2.1 pc = .ok (.ldc2_w i, 3)) (hw : Cond.constantLong mt.1.cls i v ∈ ALL) (kk : J Z X n k sl (pc + 3) lv (.long v :: st) M) : J Z X n k sl pc lv st M := by
  obtain ⟨p, e, R, s, m, args, below, meth, c, Q, nL⟩ := X
  intro H locs ls h1 h2 h3 h4
  exact lv_ldc2 E.1 E.2.1 E.2.2.2.1 (E.2.2.2.2.1 _ hw) hd (kk H locs ls h1 h2 h3 h4)
theorem J_iload_n (E : Ent Z X mt rc rs) {i : Fin 4} {x : Int32} (hd : decode mt.2.1 pc = .ok (.iload_n i, 1)) (hl : lk lv (i : Nat) = some (.int x)) (kk : J Z X n k sl (pc + 1) lv (.int x :: st) M) : J Z X n k sl pc lv st M := by
  obtain ⟨p, e, R, s, m, args, below, meth, c, Q, nL⟩ := X
  intro H locs ls h1 h2 h3 h4
  exact lv_iload_n E.1 E.2.1 hd rfl (lk_at h1 hl) (kk H locs ls h1 h2 h3 h4)
theorem J_iload (E : Ent Z X mt rc rs) {i : Nat} {x : Int32} (hd : decode mt.2.1 pc = .ok (.iload i, 2)) (hl : lk lv i = some (.int x)) (kk : J Z X n k sl (pc + 2) lv (.int x :: st) M) : J Z X n k sl pc lv st M := by
  obtain ⟨p, e, R, s, m, args, below, meth, c, Q, nL⟩ := X
  intro H locs ls h1 h2 h3 h4
  exact lv_iload E.1 E.2.1 hd (lk_at h1 hl) (kk H locs ls h1 h2 h3 h4)
theorem J_lload_n (E : Ent Z X mt rc rs) {i : Fin 4} {x : Int64} (hd : decode mt.2.1 pc = .ok (.lload_n i, 1)) (hl : lk lv (i : Nat) = some (.long x)) (kk : J Z X n k sl (pc + 1) lv (.long x :: st) M) : J Z X n k sl pc lv st M := by
  obtain ⟨p, e, R, s, m, args, below, meth, c, Q, nL⟩ := X
  intro H locs ls h1 h2 h3 h4
  exact lv_lload_n E.1 E.2.1 hd rfl (lk_at h1 hl) (kk H locs ls h1 h2 h3 h4)
theorem J_lload (E : Ent Z X mt rc rs) {i : Nat} {x : Int64} (hd : decode mt.2.1 pc = .ok (.lload i, 2)) (hl : lk lv i = some (.long x)) (kk : J Z X n k sl (pc + 2) lv (.long x :: st) M) : J Z X n k sl pc lv st M := by
  obtain ⟨p, e, R, s, m, args, below, meth, c, Q, nL⟩ := X
  intro H locs ls h1 h2 h3 h4
  exact lv_lload E.1 E.2.1 hd (lk_at h1 hl) (kk H locs ls h1 h2 h3 h4)
theorem J_aload_n (E : Ent Z X mt rc rs) {i : Fin 4} {x : Nat} (hd : decode mt.2.1 pc = .ok (.aload_n i, 1)) (hl : lk lv (i : Nat) = some (.ref x)) (kk : J Z X n k sl (pc + 1) lv (.ref x :: st) M) : J Z X n k sl pc lv st M := by
  obtain ⟨p, e, R, s, m, args, below, meth, c, Q, nL⟩ := X
  intro H locs ls h1 h2 h3 h4
  exact lv_aload_n E.1 E.2.1 hd rfl (lk_at h1 hl) (kk H locs ls h1 h2 h3 h4)
theorem J_aload (E : Ent Z X mt rc rs) {i : Nat} {x : Nat} (hd : decode mt.2.1 pc = .ok (.aload i, 2)) (hl : lk lv i = some (.ref x)) (kk : J Z X n k sl (pc + 2) lv (.ref x :: st) M) : J Z X n k sl pc lv st M := by
  obtain ⟨p, e, R, s, m, args, below, meth, c, Q, nL⟩ := X
  intro H locs ls h1 h2 h3 h4
  exact lv_aload E.1 E.2.1 hd (lk_at h1 hl) (kk H locs ls h1 h2 h3 h4)
theorem J_istore_n (E : Ent Z X mt rc rs) {i : Fin 4} {x : Int32} (hd : decode mt.2.1 pc = .ok (.istore_n i, 1)) (hn : (i : Nat) < mt.2.2.1) (hs : lset1 lv (i : Nat) (.int x) = lv') (kk : J Z X n k sl (pc + 1) lv' st M) : J Z X n k sl pc lv (.int x :: st) M := by
  obtain ⟨p, e, R, s, m, args, below, meth, c, Q, nL⟩ := X
  intro H locs ls h1 h2 h3 h4
  exact lv_istore_n E.1 E.2.1 hd rfl h1 (by rw [E.2.2.2.2.2.2.2.2.2.2.2.2.1]; exact hn) rfl (fun ls' h => kk H locs ls' (hs ▸ lset1_has h) h2 h3 h4)
theorem J_istore (E : Ent Z X mt rc rs) {i : Nat} {x : Int32} (hd : decode mt.2.1 pc = .ok (.istore i, 2)) (hn : (i : Nat) < mt.2.2.1) (hs : lset1 lv (i : Nat) (.int x) = lv') (kk : J Z X n k sl (pc + 2) lv' st M) : J Z X n k sl pc lv (.int x :: st) M := by
  obtain ⟨p, e, R, s, m, args, below, meth, c, Q, nL⟩ := X
  intro H locs ls h1 h2 h3 h4
  exact lv_istore E.1 E.2.1 hd h1 (by rw [E.2.2.2.2.2.2.2.2.2.2.2.2.1]; exact hn) rfl (fun ls' h => kk H locs ls' (hs ▸ lset1_has h) h2 h3 h4)
theorem J_lstore_n (E : Ent Z X mt rc rs) {i : Fin 4} {x : Int64} (hd : decode mt.2.1 pc = .ok (.lstore_n i, 1)) (hn : (i : Nat) + 1 < mt.2.2.1) (hs : lset2 lv (i : Nat) (.long x) = lv') (kk : J Z X n k sl (pc + 1) lv' st M) : J Z X n k sl pc lv (.long x :: st) M := by
  obtain ⟨p, e, R, s, m, args, below, meth, c, Q, nL⟩ := X
  intro H locs ls h1 h2 h3 h4
  exact lv_lstore_n E.1 E.2.1 hd rfl h1 (by rw [E.2.2.2.2.2.2.2.2.2.2.2.2.1]; exact hn) rfl (fun ls' h => kk H locs ls' (hs ▸ lset2_has h) h2 h3 h4)
theorem J_lstore (E : Ent Z X mt rc rs) {i : Nat} {x : Int64} (hd : decode mt.2.1 pc = .ok (.lstore i, 2)) (hn : (i : Nat) + 1 < mt.2.2.1) (hs : lset2 lv (i : Nat) (.long x) = lv') (kk : J Z X n k sl (pc + 2) lv' st M) : J Z X n k sl pc lv (.long x :: st) M := by
  obtain ⟨p, e, R, s, m, args, below, meth, c, Q, nL⟩ := X
  intro H locs ls h1 h2 h3 h4
  exact lv_lstore E.1 E.2.1 hd h1 (by rw [E.2.2.2.2.2.2.2.2.2.2.2.2.1]; exact hn) rfl (fun ls' h => kk H locs ls' (hs ▸ lset2_has h) h2 h3 h4)
theorem J_astore_n (E : Ent Z X mt rc rs) {i : Fin 4} {x : Nat} (hd : decode mt.2.1 pc = .ok (.astore_n i, 1)) (hn : (i : Nat) < mt.2.2.1) (hs : lset1 lv (i : Nat) (.ref x) = lv') (kk : J Z X n k sl (pc + 1) lv' st M) : J Z X n k sl pc lv (.ref x :: st) M := by
  obtain ⟨p, e, R, s, m, args, below, meth, c, Q, nL⟩ := X
  intro H locs ls h1 h2 h3 h4
  exact lv_astore_n E.1 E.2.1 hd rfl h1 (by rw [E.2.2.2.2.2.2.2.2.2.2.2.2.1]; exact hn) rfl (fun ls' h => kk H locs ls' (hs ▸ lset1_has h) h2 h3 h4)
theorem J_astore (E : Ent Z X mt rc rs) {i : Nat} {x : Nat} (hd : decode mt.2.1 pc = .ok (.astore i, 2)) (hn : (i : Nat) < mt.2.2.1) (hs : lset1 lv (i : Nat) (.ref x) = lv') (kk : J Z X n k sl (pc + 2) lv' st M) : J Z X n k sl pc lv (.ref x :: st) M := by
  obtain ⟨p, e, R, s, m, args, below, meth, c, Q, nL⟩ := X
  intro H locs ls h1 h2 h3 h4
  exact lv_astore E.1 E.2.1 hd h1 (by rw [E.2.2.2.2.2.2.2.2.2.2.2.2.1]; exact hn) rfl (fun ls' h => kk H locs ls' (hs ▸ lset1_has h) h2 h3 h4)
theorem J_iinc (E : Ent Z X mt rc rs) {i : Nat} {z : Int} {x v : Int32} (hd : decode mt.2.1 pc = .ok (.iinc i z, 3)) (hl : lk lv i = some (.int x)) (hv : x + Int32.ofInt z = v) (hn : i < mt.2.2.1) (hs : lset1 lv i (.int v) = lv') (kk : J Z X n k sl (pc + 3) lv' st M) : J Z X n k sl pc lv st M := by
  obtain ⟨p, e, R, s, m, args, below, meth, c, Q, nL⟩ := X
  intro H locs ls h1 h2 h3 h4
  obtain ⟨q, hq⟩ := List.mem_iff_getElem?.mp (lk_mem hl)
  exact lv_iinc E.1 E.2.1 hd h1 hq hv (by rw [E.2.2.2.2.2.2.2.2.2.2.2.2.1]; exact hn) rfl (fun ls' h => kk H locs ls' (hs ▸ lset1_has h) h2 h3 h4)
theorem J_iadd (E : Ent Z X mt rc rs) {x y : Int32} (hd : decode mt.2.1 pc = .ok (.iadd, 1))  (kk : J Z X n k sl (pc + 1) lv (.int (x + y) :: st) M) : J Z X n k sl pc lv (.int y :: .int x :: st) M := by
  obtain ⟨p, e, R, s, m, args, below, meth, c, Q, nL⟩ := X
  intro H locs ls h1 h2 h3 h4
  exact lv_iadd E.1 E.2.1 hd (kk H locs ls h1 h2 h3 h4)
theorem J_isub (E : Ent Z X mt rc rs) {x y : Int32} (hd : decode mt.2.1 pc = .ok (.isub, 1))  (kk : J Z X n k sl (pc + 1) lv (.int (x - y) :: st) M) : J Z X n k sl pc lv (.int y :: .int x :: st) M := by
  obtain ⟨p, e, R, s, m, args, below, meth, c, Q, nL⟩ := X
  intro H locs ls h1 h2 h3 h4
  exact lv_isub E.1 E.2.1 hd (kk H locs ls h1 h2 h3 h4)
theorem J_imul (E : Ent Z X mt rc rs) {x y : Int32} (hd : decode mt.2.1 pc = .ok (.imul, 1))  (kk : J Z X n k sl (pc + 1) lv (.int (x * y) :: st) M) : J Z X n k sl pc lv (.int y :: .int x :: st) M := by
  obtain ⟨p, e, R, s, m, args, below, meth, c, Q, nL⟩ := X
  intro H locs ls h1 h2 h3 h4
  exact lv_imul E.1 E.2.1 hd (kk H locs ls h1 h2 h3 h4)
theorem J_iand (E : Ent Z X mt rc rs) {x y : Int32} (hd : decode mt.2.1 pc = .ok (.iand, 1))  (kk : J Z X n k sl (pc + 1) lv (.int (x &&& y) :: st) M) : J Z X n k sl pc lv (.int y :: .int x :: st) M := by
  obtain ⟨p, e, R, s, m, args, below, meth, c, Q, nL⟩ := X
  intro H locs ls h1 h2 h3 h4
  exact lv_iand E.1 E.2.1 hd (kk H locs ls h1 h2 h3 h4)
theorem J_ior (E : Ent Z X mt rc rs) {x y : Int32} (hd : decode mt.2.1 pc = .ok (.ior, 1))  (kk : J Z X n k sl (pc + 1) lv (.int (x ||| y) :: st) M) : J Z X n k sl pc lv (.int y :: .int x :: st) M := by
  obtain ⟨p, e, R, s, m, args, below, meth, c, Q, nL⟩ := X
  intro H locs ls h1 h2 h3 h4
  exact lv_ior E.1 E.2.1 hd (kk H locs ls h1 h2 h3 h4)
theorem J_ixor (E : Ent Z X mt rc rs) {x y : Int32} (hd : decode mt.2.1 pc = .ok (.ixor, 1))  (kk : J Z X n k sl (pc + 1) lv (.int (x ^^^ y) :: st) M) : J Z X n k sl pc lv (.int y :: .int x :: st) M := by
  obtain ⟨p, e, R, s, m, args, below, meth, c, Q, nL⟩ := X
  intro H locs ls h1 h2 h3 h4
  exact lv_ixor E.1 E.2.1 hd (kk H locs ls h1 h2 h3 h4)
theorem J_ishl (E : Ent Z X mt rc rs) {x y : Int32} (hd : decode mt.2.1 pc = .ok (.ishl, 1))  (kk : J Z X n k sl (pc + 1) lv (.int (x <<< (y &&& 31)) :: st) M) : J Z X n k sl pc lv (.int y :: .int x :: st) M := by
  obtain ⟨p, e, R, s, m, args, below, meth, c, Q, nL⟩ := X
  intro H locs ls h1 h2 h3 h4
  exact lv_ishl E.1 E.2.1 hd (kk H locs ls h1 h2 h3 h4)
theorem J_ishr (E : Ent Z X mt rc rs) {x y : Int32} (hd : decode mt.2.1 pc = .ok (.ishr, 1))  (kk : J Z X n k sl (pc + 1) lv (.int (x >>> (y &&& 31)) :: st) M) : J Z X n k sl pc lv (.int y :: .int x :: st) M := by
  obtain ⟨p, e, R, s, m, args, below, meth, c, Q, nL⟩ := X
  intro H locs ls h1 h2 h3 h4
  exact lv_ishr E.1 E.2.1 hd (kk H locs ls h1 h2 h3 h4)
theorem J_ladd (E : Ent Z X mt rc rs) {x y : Int64} (hd : decode mt.2.1 pc = .ok (.ladd, 1))  (kk : J Z X n k sl (pc + 1) lv (.long (x + y) :: st) M) : J Z X n k sl pc lv (.long y :: .long x :: st) M := by
  obtain ⟨p, e, R, s, m, args, below, meth, c, Q, nL⟩ := X
  intro H locs ls h1 h2 h3 h4
  exact lv_ladd E.1 E.2.1 hd (kk H locs ls h1 h2 h3 h4)
theorem J_lsub (E : Ent Z X mt rc rs) {x y : Int64} (hd : decode mt.2.1 pc = .ok (.lsub, 1))  (kk : J Z X n k sl (pc + 1) lv (.long (x - y) :: st) M) : J Z X n k sl pc lv (.long y :: .long x :: st) M := by
  obtain ⟨p, e, R, s, m, args, below, meth, c, Q, nL⟩ := X
  intro H locs ls h1 h2 h3 h4
  exact lv_lsub E.1 E.2.1 hd (kk H locs ls h1 h2 h3 h4)
theorem J_lmul (E : Ent Z X mt rc rs) {x y : Int64} (hd : decode mt.2.1 pc = .ok (.lmul, 1))  (kk : J Z X n k sl (pc + 1) lv (.long (x * y) :: st) M) : J Z X n k sl pc lv (.long y :: .long x :: st) M := by
  obtain ⟨p, e, R, s, m, args, below, meth, c, Q, nL⟩ := X
  intro H locs ls h1 h2 h3 h4
  exact lv_lmul E.1 E.2.1 hd (kk H locs ls h1 h2 h3 h4)
theorem J_land (E : Ent Z X mt rc rs) {x y : Int64} (hd : decode mt.2.1 pc = .ok (.land, 1))  (kk : J Z X n k sl (pc + 1) lv (.long (x &&& y) :: st) M) : J Z X n k sl pc lv (.long y :: .long x :: st) M := by
  obtain ⟨p, e, R, s, m, args, below, meth, c, Q, nL⟩ := X
  intro H locs ls h1 h2 h3 h4
  exact lv_land E.1 E.2.1 hd (kk H locs ls h1 h2 h3 h4)
theorem J_lor (E : Ent Z X mt rc rs) {x y : Int64} (hd : decode mt.2.1 pc = .ok (.lor, 1))  (kk : J Z X n k sl (pc + 1) lv (.long (x ||| y) :: st) M) : J Z X n k sl pc lv (.long y :: .long x :: st) M := by
  obtain ⟨p, e, R, s, m, args, below, meth, c, Q, nL⟩ := X
  intro H locs ls h1 h2 h3 h4
  exact lv_lor E.1 E.2.1 hd (kk H locs ls h1 h2 h3 h4)
theorem J_lxor (E : Ent Z X mt rc rs) {x y : Int64} (hd : decode mt.2.1 pc = .ok (.lxor, 1))  (kk : J Z X n k sl (pc + 1) lv (.long (x ^^^ y) :: st) M) : J Z X n k sl pc lv (.long y :: .long x :: st) M := by
  obtain ⟨p, e, R, s, m, args, below, meth, c, Q, nL⟩ := X
  intro H locs ls h1 h2 h3 h4
  exact lv_lxor E.1 E.2.1 hd (kk H locs ls h1 h2 h3 h4)
theorem J_idiv (E : Ent Z X mt rc rs) {x y : Int32} (hd : decode mt.2.1 pc = .ok (.idiv, 1)) (hne : ¬ y = 0) (kk : J Z X n k sl (pc + 1) lv (.int (x / y) :: st) M) : J Z X n k sl pc lv (.int y :: .int x :: st) M := by
  obtain ⟨p, e, R, s, m, args, below, meth, c, Q, nL⟩ := X
  intro H locs ls h1 h2 h3 h4
  exact lv_idiv E.1 E.2.1 hd hne (kk H locs ls h1 h2 h3 h4)
theorem J_irem (E : Ent Z X mt rc rs) {x y : Int32} (hd : decode mt.2.1 pc = .ok (.irem, 1)) (hne : ¬ y = 0) (kk : J Z X n k sl (pc + 1) lv (.int (x - x / y * y) :: st) M) : J Z X n k sl pc lv (.int y :: .int x :: st) M := by
  obtain ⟨p, e, R, s, m, args, below, meth, c, Q, nL⟩ := X
  intro H locs ls h1 h2 h3 h4
  exact lv_irem E.1 E.2.1 hd hne (kk H locs ls h1 h2 h3 h4)
theorem J_ldiv (E : Ent Z X mt rc rs) {x y : Int64} (hd : decode mt.2.1 pc = .ok (.ldiv, 1)) (hne : ¬ y = 0) (kk : J Z X n k sl (pc + 1) lv (.long (x / y) :: st) M) : J Z X n k sl pc lv (.long y :: .long x :: st) M := by
  obtain ⟨p, e, R, s, m, args, below, meth, c, Q, nL⟩ := X
  intro H locs ls h1 h2 h3 h4
  exact lv_ldiv E.1 E.2.1 hd hne (kk H locs ls h1 h2 h3 h4)
theorem J_lrem (E : Ent Z X mt rc rs) {x y : Int64} (hd : decode mt.2.1 pc = .ok (.lrem, 1)) (hne : ¬ y = 0) (kk : J Z X n k sl (pc + 1) lv (.long (x - x / y * y) :: st) M) : J Z X n k sl pc lv (.long y :: .long x :: st) M := by
  obtain ⟨p, e, R, s, m, args, below, meth, c, Q, nL⟩ := X
  intro H locs ls h1 h2 h3 h4
  exact lv_lrem E.1 E.2.1 hd hne (kk H locs ls h1 h2 h3 h4)
theorem J_ineg (E : Ent Z X mt rc rs) {x : Int32} (hd : decode mt.2.1 pc = .ok (.ineg, 1))  (kk : J Z X n k sl (pc + 1) lv (.int (-x) :: st) M) : J Z X n k sl pc lv (.int x :: st) M := by
  obtain ⟨p, e, R, s, m, args, below, meth, c, Q, nL⟩ := X
  intro H locs ls h1 h2 h3 h4
  exact lv_ineg E.1 E.2.1 hd (kk H locs ls h1 h2 h3 h4)
theorem J_lshl (E : Ent Z X mt rc rs) {x : Int64} {y : Int32} (hd : decode mt.2.1 pc = .ok (.lshl, 1))  (kk : J Z X n k sl (pc + 1) lv (.long (x <<< (y.toInt64 &&& 63)) :: st) M) : J Z X n k sl pc lv (.int y :: .long x :: st) M := by
  obtain ⟨p, e, R, s, m, args, below, meth, c, Q, nL⟩ := X
  intro H locs ls h1 h2 h3 h4
  exact lv_lshl E.1 E.2.1 hd rfl (kk H locs ls h1 h2 h3 h4)
theorem J_lshr (E : Ent Z X mt rc rs) {x : Int64} {y : Int32} (hd : decode mt.2.1 pc = .ok (.lshr, 1))  (kk : J Z X n k sl (pc + 1) lv (.long (x >>> (y.toInt64 &&& 63)) :: st) M) : J Z X n k sl pc lv (.int y :: .long x :: st) M := by
  obtain ⟨p, e, R, s, m, args, below, meth, c, Q, nL⟩ := X
  intro H locs ls h1 h2 h3 h4
  exact lv_lshr E.1 E.2.1 hd rfl (kk H locs ls h1 h2 h3 h4)
theorem J_lushr (E : Ent Z X mt rc rs) {x : Int64} {y : Int32} (hd : decode mt.2.1 pc = .ok (.lushr, 1))  (kk : J Z X n k sl (pc + 1) lv (.long ((x.toUInt64 >>> (y.toInt64.toUInt64 &&& Int64.toUInt64 63)).toInt64) :: st) M) : J Z X n k sl pc lv (.int y :: .long x :: st) M := by
  obtain ⟨p, e, R, s, m, args, below, meth, c, Q, nL⟩ := X
  intro H locs ls h1 h2 h3 h4
  exact lv_lushr E.1 E.2.1 hd rfl (kk H locs ls h1 h2 h3 h4)
theorem J_iushr (E : Ent Z X mt rc rs) {x y : Int32} (hd : decode mt.2.1 pc = .ok (.iushr, 1))  (kk : J Z X n k sl (pc + 1) lv (.int ((x.toUInt32 >>> (y.toUInt32 &&& Int32.toUInt32 31)).toInt32) :: st) M) : J Z X n k sl pc lv (.int y :: .int x :: st) M := by
  obtain ⟨p, e, R, s, m, args, below, meth, c, Q, nL⟩ := X
  intro H locs ls h1 h2 h3 h4
  exact lv_iushr E.1 E.2.1 hd rfl (kk H locs ls h1 h2 h3 h4)
theorem J_i2l (E : Ent Z X mt rc rs) {x : Int32} (hd : decode mt.2.1 pc = .ok (.i2l, 1))  (kk : J Z X n k sl (pc + 1) lv (.long x.toInt64 :: st) M) : J Z X n k sl pc lv (.int x :: st) M := by
  obtain ⟨p, e, R, s, m, args, below, meth, c, Q, nL⟩ := X
  intro H locs ls h1 h2 h3 h4
  exact lv_i2l E.1 E.2.1 hd rfl (kk H locs ls h1 h2 h3 h4)
theorem J_l2i (E : Ent Z X mt rc rs) {x : Int64} (hd : decode mt.2.1 pc = .ok (.l2i, 1))  (kk : J Z X n k sl (pc + 1) lv (.int x.toInt32 :: st) M) : J Z X n k sl pc lv (.long x :: st) M := by
  obtain ⟨p, e, R, s, m, args, below, meth, c, Q, nL⟩ := X
  intro H locs ls h1 h2 h3 h4
  exact lv_l2i E.1 E.2.1 hd rfl (kk H locs ls h1 h2 h3 h4)
theorem J_i2b (E : Ent Z X mt rc rs) {x : Int32} (hd : decode mt.2.1 pc = .ok (.i2b, 1))  (kk : J Z X n k sl (pc + 1) lv (.int x.toInt8.toInt32 :: st) M) : J Z X n k sl pc lv (.int x :: st) M := by
  obtain ⟨p, e, R, s, m, args, below, meth, c, Q, nL⟩ := X
  intro H locs ls h1 h2 h3 h4
  exact lv_i2b E.1 E.2.1 hd rfl (kk H locs ls h1 h2 h3 h4)
theorem J_i2c (E : Ent Z X mt rc rs) {x : Int32} (hd : decode mt.2.1 pc = .ok (.i2c, 1))  (kk : J Z X n k sl (pc + 1) lv (.int (x.toUInt32 % 65536).toInt32 :: st) M) : J Z X n k sl pc lv (.int x :: st) M := by
  obtain ⟨p, e, R, s, m, args, below, meth, c, Q, nL⟩ := X
  intro H locs ls h1 h2 h3 h4
  exact lv_i2c E.1 E.2.1 hd rfl (kk H locs ls h1 h2 h3 h4)
theorem J_lcmp (E : Ent Z X mt rc rs) {x y : Int64} (hd : decode mt.2.1 pc = .ok (.lcmp, 1))  (kk : J Z X n k sl (pc + 1) lv (.int (lg_cmp x y) :: st) M) : J Z X n k sl pc lv (.long y :: .long x :: st) M := by
  obtain ⟨p, e, R, s, m, args, below, meth, c, Q, nL⟩ := X
  intro H locs ls h1 h2 h3 h4
  exact W.lcmp E.1 E.2.1 hd (kk H locs ls h1 h2 h3 h4)
theorem J_dup (E : Ent Z X mt rc rs) {va : Value} (hd : decode mt.2.1 pc = .ok (.dup, 1)) (ha : va.category = 1) (kk : J Z X n k sl (pc + 1) lv (va :: va :: st) M) : J Z X n k sl pc lv (va :: st) M := by
  obtain ⟨p, e, R, s, m, args, below, meth, c, Q, nL⟩ := X
  intro H locs ls h1 h2 h3 h4
  exact lv_dup E.1 E.2.1 hd ha (kk H locs ls h1 h2 h3 h4)
theorem J_pop (E : Ent Z X mt rc rs) {va : Value} (hd : decode mt.2.1 pc = .ok (.pop, 1)) (ha : va.category = 1) (kk : J Z X n k sl (pc + 1) lv st M) : J Z X n k sl pc lv (va :: st) M := by
  obtain ⟨p, e, R, s, m, args, below, meth, c, Q, nL⟩ := X
  intro H locs ls h1 h2 h3 h4
  exact lv_pop E.1 E.2.1 hd ha (kk H locs ls h1 h2 h3 h4)
theorem J_dup_x1 (E : Ent Z X mt rc rs) {va vb : Value} (hd : decode mt.2.1 pc = .ok (.dup_x1, 1)) (ha : va.category = 1) (hb : vb.category = 1) (kk : J Z X n k sl (pc + 1) lv (va :: vb :: va :: st) M) : J Z X n k sl pc lv (va :: vb :: st) M := by
  obtain ⟨p, e, R, s, m, args, below, meth, c, Q, nL⟩ := X
  intro H locs ls h1 h2 h3 h4
  exact lv_dup_x1 E.1 E.2.1 hd ha hb (kk H locs ls h1 h2 h3 h4)
theorem J_dup2_11 (E : Ent Z X mt rc rs) {va vb : Value} (hd : decode mt.2.1 pc = .ok (.dup2, 1)) (ha : va.category = 1) (hb : vb.category = 1) (kk : J Z X n k sl (pc + 1) lv (va :: vb :: va :: vb :: st) M) : J Z X n k sl pc lv (va :: vb :: st) M := by
  obtain ⟨p, e, R, s, m, args, below, meth, c, Q, nL⟩ := X
  intro H locs ls h1 h2 h3 h4
  exact lv_dup2_11 E.1 E.2.1 hd ha hb (kk H locs ls h1 h2 h3 h4)
theorem J_dup2_2 (E : Ent Z X mt rc rs) {va : Value} (hd : decode mt.2.1 pc = .ok (.dup2, 1)) (ha : va.category = 2) (kk : J Z X n k sl (pc + 1) lv (va :: va :: st) M) : J Z X n k sl pc lv (va :: st) M := by
  obtain ⟨p, e, R, s, m, args, below, meth, c, Q, nL⟩ := X
  intro H locs ls h1 h2 h3 h4
  exact lv_dup2_2 E.1 E.2.1 hd ha (kk H locs ls h1 h2 h3 h4)
theorem J_dup2_x1_2 (E : Ent Z X mt rc rs) {va vb : Value} (hd : decode mt.2.1 pc = .ok (.dup2_x1, 1)) (ha : va.category = 2) (hb : vb.category = 1) (kk : J Z X n k sl (pc + 1) lv (va :: vb :: va :: st) M) : J Z X n k sl pc lv (va :: vb :: st) M := by
  obtain ⟨p, e, R, s, m, args, below, meth, c, Q, nL⟩ := X
  intro H locs ls h1 h2 h3 h4
  exact lv_dup2_x1_2 E.1 E.2.1 hd ha hb (kk H locs ls h1 h2 h3 h4)
theorem J_if_eq (E : Ent Z X mt rc rs) {x : Int32} {off : Int} {tgt : Nat} (hd : decode mt.2.1 pc = .ok (.ifCond .eq off, 3)) (ht : (pc : Int) + off = (tgt : Int)) (kt : x = 0 → J Z X n k sl tgt lv st M) (kf : ¬ (x = 0) → J Z X n k sl (pc + 3) lv st M) : J Z X n k sl pc lv (.int x :: st) M := by
  obtain ⟨p, e, R, s, m, args, below, meth, c, Q, nL⟩ := X
  intro H locs ls h1 h2 h3 h4
  exact lv_if_eq E.1 E.2.1 hd ht (fun h => kt (by simpa using h) H locs ls h1 h2 h3 h4) (fun h => kf (by simpa using h) H locs ls h1 h2 h3 h4)
theorem J_icmp_eq (E : Ent Z X mt rc rs) {x y : Int32} {off : Int} {tgt : Nat} (hd : decode mt.2.1 pc = .ok (.if_icmp .eq off, 3)) (ht : (pc : Int) + off = (tgt : Int)) (kt : x = y → J Z X n k sl tgt lv st M) (kf : ¬ (x = y) → J Z X n k sl (pc + 3) lv st M) : J Z X n k sl pc lv (.int y :: .int x :: st) M := by
  obtain ⟨p, e, R, s, m, args, below, meth, c, Q, nL⟩ := X
  intro H locs ls h1 h2 h3 h4
  exact lv_icmp_eq E.1 E.2.1 hd ht (fun h => kt (by simpa using h) H locs ls h1 h2 h3 h4) (fun h => kf (by simpa using h) H locs ls h1 h2 h3 h4)
theorem J_if_ne (E : Ent Z X mt rc rs) {x : Int32} {off : Int} {tgt : Nat} (hd : decode mt.2.1 pc = .ok (.ifCond .ne off, 3)) (ht : (pc : Int) + off = (tgt : Int)) (kt : ¬ x = 0 → J Z X n k sl tgt lv st M) (kf : x = 0 → J Z X n k sl (pc + 3) lv st M) : J Z X n k sl pc lv (.int x :: st) M := by
  obtain ⟨p, e, R, s, m, args, below, meth, c, Q, nL⟩ := X
  intro H locs ls h1 h2 h3 h4
  exact lv_if_ne E.1 E.2.1 hd ht (fun h => kt (by simpa using h) H locs ls h1 h2 h3 h4) (fun h => kf (by simpa using h) H locs ls h1 h2 h3 h4)
theorem J_icmp_ne (E : Ent Z X mt rc rs) {x y : Int32} {off : Int} {tgt : Nat} (hd : decode mt.2.1 pc = .ok (.if_icmp .ne off, 3)) (ht : (pc : Int) + off = (tgt : Int)) (kt : ¬ x = y → J Z X n k sl tgt lv st M) (kf : x = y → J Z X n k sl (pc + 3) lv st M) : J Z X n k sl pc lv (.int y :: .int x :: st) M := by
  obtain ⟨p, e, R, s, m, args, below, meth, c, Q, nL⟩ := X
  intro H locs ls h1 h2 h3 h4
  exact lv_icmp_ne E.1 E.2.1 hd ht (fun h => kt (by simpa using h) H locs ls h1 h2 h3 h4) (fun h => kf (by simpa using h) H locs ls h1 h2 h3 h4)
theorem J_if_lt (E : Ent Z X mt rc rs) {x : Int32} {off : Int} {tgt : Nat} (hd : decode mt.2.1 pc = .ok (.ifCond .lt off, 3)) (ht : (pc : Int) + off = (tgt : Int)) (kt : x < 0 → J Z X n k sl tgt lv st M) (kf : ¬ (x < 0) → J Z X n k sl (pc + 3) lv st M) : J Z X n k sl pc lv (.int x :: st) M := by
  obtain ⟨p, e, R, s, m, args, below, meth, c, Q, nL⟩ := X
  intro H locs ls h1 h2 h3 h4
  exact lv_if_lt E.1 E.2.1 hd ht (fun h => kt (by simpa using h) H locs ls h1 h2 h3 h4) (fun h => kf (by simpa using h) H locs ls h1 h2 h3 h4)
theorem J_icmp_lt (E : Ent Z X mt rc rs) {x y : Int32} {off : Int} {tgt : Nat} (hd : decode mt.2.1 pc = .ok (.if_icmp .lt off, 3)) (ht : (pc : Int) + off = (tgt : Int)) (kt : x < y → J Z X n k sl tgt lv st M) (kf : ¬ (x < y) → J Z X n k sl (pc + 3) lv st M) : J Z X n k sl pc lv (.int y :: .int x :: st) M := by
  obtain ⟨p, e, R, s, m, args, below, meth, c, Q, nL⟩ := X
  intro H locs ls h1 h2 h3 h4
  exact lv_icmp_lt E.1 E.2.1 hd ht (fun h => kt (by simpa using h) H locs ls h1 h2 h3 h4) (fun h => kf (by simpa using h) H locs ls h1 h2 h3 h4)
theorem J_if_ge (E : Ent Z X mt rc rs) {x : Int32} {off : Int} {tgt : Nat} (hd : decode mt.2.1 pc = .ok (.ifCond .ge off, 3)) (ht : (pc : Int) + off = (tgt : Int)) (kt : 0 ≤ x → J Z X n k sl tgt lv st M) (kf : ¬ (0 ≤ x) → J Z X n k sl (pc + 3) lv st M) : J Z X n k sl pc lv (.int x :: st) M := by
  obtain ⟨p, e, R, s, m, args, below, meth, c, Q, nL⟩ := X
  intro H locs ls h1 h2 h3 h4
  exact lv_if_ge E.1 E.2.1 hd ht (fun h => kt (by simpa using h) H locs ls h1 h2 h3 h4) (fun h => kf (by simpa using h) H locs ls h1 h2 h3 h4)
theorem J_icmp_ge (E : Ent Z X mt rc rs) {x y : Int32} {off : Int} {tgt : Nat} (hd : decode mt.2.1 pc = .ok (.if_icmp .ge off, 3)) (ht : (pc : Int) + off = (tgt : Int)) (kt : y ≤ x → J Z X n k sl tgt lv st M) (kf : ¬ (y ≤ x) → J Z X n k sl (pc + 3) lv st M) : J Z X n k sl pc lv (.int y :: .int x :: st) M := by
  obtain ⟨p, e, R, s, m, args, below, meth, c, Q, nL⟩ := X
  intro H locs ls h1 h2 h3 h4
  exact lv_icmp_ge E.1 E.2.1 hd ht (fun h => kt (by simpa using h) H locs ls h1 h2 h3 h4) (fun h => kf (by simpa using h) H locs ls h1 h2 h3 h4)
theorem J_if_gt (E : Ent Z X mt rc rs) {x : Int32} {off : Int} {tgt : Nat} (hd : decode mt.2.1 pc = .ok (.ifCond .gt off, 3)) (ht : (pc : Int) + off = (tgt : Int)) (kt : 0 < x → J Z X n k sl tgt lv st M) (kf : ¬ (0 < x) → J Z X n k sl (pc + 3) lv st M) : J Z X n k sl pc lv (.int x :: st) M := by
  obtain ⟨p, e, R, s, m, args, below, meth, c, Q, nL⟩ := X
  intro H locs ls h1 h2 h3 h4
  exact lv_if_gt E.1 E.2.1 hd ht (fun h => kt (by simpa using h) H locs ls h1 h2 h3 h4) (fun h => kf (by simpa using h) H locs ls h1 h2 h3 h4)
theorem J_icmp_gt (E : Ent Z X mt rc rs) {x y : Int32} {off : Int} {tgt : Nat} (hd : decode mt.2.1 pc = .ok (.if_icmp .gt off, 3)) (ht : (pc : Int) + off = (tgt : Int)) (kt : y < x → J Z X n k sl tgt lv st M) (kf : ¬ (y < x) → J Z X n k sl (pc + 3) lv st M) : J Z X n k sl pc lv (.int y :: .int x :: st) M := by
  obtain ⟨p, e, R, s, m, args, below, meth, c, Q, nL⟩ := X
  intro H locs ls h1 h2 h3 h4
  exact lv_icmp_gt E.1 E.2.1 hd ht (fun h => kt (by simpa using h) H locs ls h1 h2 h3 h4) (fun h => kf (by simpa using h) H locs ls h1 h2 h3 h4)
theorem J_if_le (E : Ent Z X mt rc rs) {x : Int32} {off : Int} {tgt : Nat} (hd : decode mt.2.1 pc = .ok (.ifCond .le off, 3)) (ht : (pc : Int) + off = (tgt : Int)) (kt : x ≤ 0 → J Z X n k sl tgt lv st M) (kf : ¬ (x ≤ 0) → J Z X n k sl (pc + 3) lv st M) : J Z X n k sl pc lv (.int x :: st) M := by
  obtain ⟨p, e, R, s, m, args, below, meth, c, Q, nL⟩ := X
  intro H locs ls h1 h2 h3 h4
  exact lv_if_le E.1 E.2.1 hd ht (fun h => kt (by simpa using h) H locs ls h1 h2 h3 h4) (fun h => kf (by simpa using h) H locs ls h1 h2 h3 h4)
theorem J_icmp_le (E : Ent Z X mt rc rs) {x y : Int32} {off : Int} {tgt : Nat} (hd : decode mt.2.1 pc = .ok (.if_icmp .le off, 3)) (ht : (pc : Int) + off = (tgt : Int)) (kt : x ≤ y → J Z X n k sl tgt lv st M) (kf : ¬ (x ≤ y) → J Z X n k sl (pc + 3) lv st M) : J Z X n k sl pc lv (.int y :: .int x :: st) M := by
  obtain ⟨p, e, R, s, m, args, below, meth, c, Q, nL⟩ := X
  intro H locs ls h1 h2 h3 h4
  exact lv_icmp_le E.1 E.2.1 hd ht (fun h => kt (by simpa using h) H locs ls h1 h2 h3 h4) (fun h => kf (by simpa using h) H locs ls h1 h2 h3 h4)
theorem J_goto (E : Ent Z X mt rc rs) {off : Int} {tgt : Nat} (hd : decode mt.2.1 pc = .ok (.goto off, 3)) (ht : (pc : Int) + off = (tgt : Int)) (kk : J Z X n k sl tgt lv st M) : J Z X n k sl pc lv st M := by
  obtain ⟨p, e, R, s, m, args, below, meth, c, Q, nL⟩ := X
  intro H locs ls h1 h2 h3 h4
  exact lv_goto E.1 E.2.1 hd ht (kk H locs ls h1 h2 h3 h4)
theorem J_tableIn (E : Ent Z X mt rc rs) {dflt lo hi : Int} {offs : Array Int} {len : Nat} {x : Int32} {off : Int} {tgt : Nat} (hd : decode mt.2.1 pc = .ok (.tableswitch dflt lo hi offs, len)) (g1 : ¬ x.toInt < lo) (g2 : ¬ hi < x.toInt) (ho : offs[(x.toInt - lo).toNat]? = some off) (ht : (pc : Int) + off = (tgt : Int)) (kk : J Z X n k sl tgt lv st M) : J Z X n k sl pc lv (.int x :: st) M := by
  obtain ⟨p, e, R, s, m, args, below, meth, c, Q, nL⟩ := X
  intro H locs ls h1 h2 h3 h4
  exact lv_tableIn E.1 E.2.1 hd g1 g2 ho ht (kk H locs ls h1 h2 h3 h4)
theorem J_tableOut (E : Ent Z X mt rc rs) {dflt lo hi : Int} {offs : Array Int} {len : Nat} {x : Int32} {tgt : Nat} (hd : decode mt.2.1 pc = .ok (.tableswitch dflt lo hi offs, len)) (g : x.toInt < lo ∨ hi < x.toInt) (ht : (pc : Int) + dflt = (tgt : Int)) (kk : J Z X n k sl tgt lv st M) : J Z X n k sl pc lv (.int x :: st) M := by
  obtain ⟨p, e, R, s, m, args, below, meth, c, Q, nL⟩ := X
  intro H locs ls h1 h2 h3 h4
  exact lv_tableOut E.1 E.2.1 hd g ht (kk H locs ls h1 h2 h3 h4)
theorem J_lookup (E : Ent Z X mt rc rs) {dflt : Int} {ps : Array (Int × Int)} {len : Nat} {x : Int32} {off : Int} {tgt : Nat} (hd : decode mt.2.1 pc = .ok (.lookupswitch dflt ps, len)) (hp : (ps.toList.zip (ps.toList.drop 1)).all (fun (a, next) => a.1 < next.1) = true) (ho : Op.lookupswitch.offset ps.toList dflt x.toInt = off) (ht : (pc : Int) + off = (tgt : Int)) (kk : J Z X n k sl tgt lv st M) : J Z X n k sl pc lv (.int x :: st) M := by
  obtain ⟨p, e, R, s, m, args, below, meth, c, Q, nL⟩ := X
  intro H locs ls h1 h2 h3 h4
  exact lv_lookup E.1 E.2.1 hd hp ho ht (kk H locs ls h1 h2 h3 h4)
theorem J_get (E : Ent Z X mt rc rs) {i o ci N : Nat} {fs : List Value} {C : String} {T : u_T} {v : Value} (hd : decode mt.2.1 pc = .ok (.getfield i, 3)) (ho : o < n) (hM : M o = .inr (ci, fs)) (hc : vwCl[ci]? = some (C, T, N)) (hin : ∀ w ∈ u_ws C T N, w ∈ ALL) (q : Nat) (hq : q < N) (hw : Cond.fieldLink mt.1.cls i C (T q).2.1 (T q).2.2.1 ∈ ALL) (hC : (T q).1 = C) (hv : fs[q]? = some v) (kk : J Z X n k sl (pc + 3) lv (v :: st) M) : J Z X n k sl pc lv (.ref (Z.2.2.1 + o) :: st) M := by
  obtain ⟨p, e, R, s, m, args, below, meth, c, Q, nL⟩ := X
  intro H locs ls h1 h2 h3 h4
  exact va_get E.1 E.2.1 E.2.2.2.2.1 hin E.2.2.2.1 E.2.2.2.2.2.1 h3 o (by rw [wsO_get ho, hM]) hc q hq (E.2.2.2.2.1 _ hw) (fun x hx => by rw [← hC]; exact hx) hv hd (kk H locs ls h1 h2 h3 h4)
theorem J_put (E : Ent Z X mt rc rs) {i o ci N : Nat} {fs : List Value} {C : String} {T : u_T} {v : Value} (hd : decode mt.2.1 pc = .ok (.putfield i, 3)) (ho : o < n) (hM : M o = .inr (ci, fs)) (hc : vwCl[ci]? = some (C, T, N)) (hin : ∀ w ∈ u_ws C T N, w ∈ ALL) (ty0 : Nat → FieldType) (hty : ∀ k, k < N → parseFieldDescriptor (T k).2.2.1 = some (ty0 k)) (hnm : ∀ a, a < N → ∀ b, b < N → a ≠ b → (T a).2.1 ≠ (T b).2.1) (q : Nat) (hq : q < N) (hw : Cond.fieldLink mt.1.cls i C (T q).2.1 (T q).2.2.1 ∈ ALL) (hC : (T q).1 = C) (hf : (T q).2.2.2 = false) {ty : FieldType} (ht : parseFieldDescriptor (T q).2.2.1 = some ty) (hna : narrow ty v = v) (hfi : fits ty v = true) (hl : q < fs.length) (kk : J Z X n k sl (pc + 3) lv st (va_up M o (.inr (ci, fs.set q v)))) : J Z X n k sl pc lv (v :: .ref (Z.2.2.1 + o) :: st) M := by
  obtain ⟨p, e, R, s, m, args, below, meth, c, Q, nL⟩ := X
  intro H locs ls h1 h2 h3 h4
  refine va_put E.1 E.2.1 E.2.2.2.2.1 hin ty0 hty hnm E.2.2.2.1 E.2.2.2.2.2.1 h3 wsO_D h4 o (by rw [wsO_get ho, hM]) hc q hq (E.2.2.2.2.1 _ hw) (fun x hx => by rw [← hC]; exact hx) hf ht hna hfi hl hd fun H1 l1 p1 _ p3 => ?_
  rw [wsO_set ho] at p1
  exact kk H1 l1 ls h1 h2 p1 p3
end ROWS
