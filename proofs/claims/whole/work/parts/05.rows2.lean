/-! ROWS 2: arrays, what is made, the library, ends, calls -/
section ROWS2
variable {Z : ZT} {X : XT} {mt : MT} {rc rs n k sl pc : Nat} {lv lv' : List (Nat × Value)} {st : List Value} {M : Mem}
theorem J_iald (E : Ent Z X mt rc rs) {o N : Nat} {f : Nat → Int32} {i : Int32} (hd : decode mt.2.1 pc = .ok (.iaload, 1)) (ho : o < n) (hM : M o = .inl (Z.2.2.2.1 0, N, .inl f)) (hin : vp_in i N) (kk : J Z X n k sl (pc + 1) lv (.int (f i.toNatClampNeg) :: st) M) : J Z X n k sl pc lv (.int i :: .ref (Z.2.2.1 + o) :: st) M := by
  obtain ⟨p, e, R, s, m, args, below, meth, c, Q, nL⟩ := X
  intro H locs ls h1 h2 h3 h4
  exact va_iald E.1 E.2.1 E.2.2.2.2.2.1 h3 o 0 (by rw [wsO_get ho, hM]) rfl hin hd (kk H locs ls h1 h2 h3 h4)
theorem J_bald (E : Ent Z X mt rc rs) {o N : Nat} {f : Nat → Int32} {i : Int32} (hd : decode mt.2.1 pc = .ok (.baload, 1)) (ho : o < n) (hM : M o = .inl (Z.2.2.2.1 2, N, .inl f)) (hin : vp_in i N) (kk : J Z X n k sl (pc + 1) lv (.int (f i.toNatClampNeg) :: st) M) : J Z X n k sl pc lv (.int i :: .ref (Z.2.2.1 + o) :: st) M := by
  obtain ⟨p, e, R, s, m, args, below, meth, c, Q, nL⟩ := X
  intro H locs ls h1 h2 h3 h4
  exact va_bald E.1 E.2.1 E.2.2.2.2.2.1 h3 o 2 (by rw [wsO_get ho, hM]) rfl hin hd (kk H locs ls h1 h2 h3 h4)
theorem J_zald (E : Ent Z X mt rc rs) {o N : Nat} {f : Nat → Int32} {i : Int32} (hd : decode mt.2.1 pc = .ok (.baload, 1)) (ho : o < n) (hM : M o = .inl (Z.2.2.2.1 1, N, .inl f)) (hin : vp_in i N) (kk : J Z X n k sl (pc + 1) lv (.int (f i.toNatClampNeg) :: st) M) : J Z X n k sl pc lv (.int i :: .ref (Z.2.2.1 + o) :: st) M := by
  obtain ⟨p, e, R, s, m, args, below, meth, c, Q, nL⟩ := X
  intro H locs ls h1 h2 h3 h4
  exact va_zald E.1 E.2.1 E.2.2.2.2.2.1 h3 o 1 (by rw [wsO_get ho, hM]) rfl hin hd (kk H locs ls h1 h2 h3 h4)
theorem J_iast (E : Ent Z X mt rc rs) {o N : Nat} {f : Nat → Int32} {i x : Int32} (hd : decode mt.2.1 pc = .ok (.iastore, 1)) (ho : o < n) (hM : M o = .inl (Z.2.2.2.1 0, N, .inl f)) (hin : vp_in i N) (kk : J Z X n k sl (pc + 1) lv st (va_up M o (.inl (Z.2.2.2.1 0, N, .inl (upd f i.toNatClampNeg x))))) : J Z X n k sl pc lv (.int x :: .int i :: .ref (Z.2.2.1 + o) :: st) M := by
  obtain ⟨p, e, R, s, m, args, below, meth, c, Q, nL⟩ := X
  intro H locs ls h1 h2 h3 h4
  refine va_iast E.1 E.2.1 E.2.2.2.2.2.1 h3 wsO_D h4 o 0 (by rw [wsO_get ho, hM]) rfl hin hd fun H1 l1 p1 _ p3 => ?_
  rw [wsO_set ho] at p1
  exact kk H1 l1 ls h1 h2 p1 p3
theorem J_bast (E : Ent Z X mt rc rs) {o N : Nat} {f : Nat → Int32} {i x : Int32} (hd : decode mt.2.1 pc = .ok (.bastore, 1)) (ho : o < n) (hM : M o = .inl (Z.2.2.2.1 2, N, .inl f)) (hin : vp_in i N) (kk : J Z X n k sl (pc + 1) lv st (va_up M o (.inl (Z.2.2.2.1 2, N, .inl (upd f i.toNatClampNeg (vp_nar .byte x)))))) : J Z X n k sl pc lv (.int x :: .int i :: .ref (Z.2.2.1 + o) :: st) M := by
  obtain ⟨p, e, R, s, m, args, below, meth, c, Q, nL⟩ := X
  intro H locs ls h1 h2 h3 h4
  refine va_bast E.1 E.2.1 E.2.2.2.2.2.1 h3 wsO_D h4 o 2 (by rw [wsO_get ho, hM]) rfl hin hd fun H1 l1 p1 _ p3 => ?_
  rw [wsO_set ho] at p1
  exact kk H1 l1 ls h1 h2 p1 p3
theorem J_zast (E : Ent Z X mt rc rs) {o N : Nat} {f : Nat → Int32} {i x : Int32} (hd : decode mt.2.1 pc = .ok (.bastore, 1)) (ho : o < n) (hM : M o = .inl (Z.2.2.2.1 1, N, .inl f)) (hin : vp_in i N) (kk : J Z X n k sl (pc + 1) lv st (va_up M o (.inl (Z.2.2.2.1 1, N, .inl (upd f i.toNatClampNeg (vp_nar .boolean x)))))) : J Z X n k sl pc lv (.int x :: .int i :: .ref (Z.2.2.1 + o) :: st) M := by
  obtain ⟨p, e, R, s, m, args, below, meth, c, Q, nL⟩ := X
  intro H locs ls h1 h2 h3 h4
  refine va_zast E.1 E.2.1 E.2.2.2.2.2.1 h3 wsO_D h4 o 1 (by rw [wsO_get ho, hM]) rfl hin hd fun H1 l1 p1 _ p3 => ?_
  rw [wsO_set ho] at p1
  exact kk H1 l1 ls h1 h2 p1 p3
theorem J_aldq (E : Ent Z X mt rc rs) {o N t a : Nat} {C : String} {f : Nat → Option Nat} {i : Int32} (hd : decode mt.2.1 pc = .ok (.aaload, 1)) (ho : o < n) (hM : M o = .inl (Z.2.2.2.1 t, N, .inr (.inr (.inr (.inr f))))) (ht : (tysZ Z.2.2.2.1)[t]? = some (Z.2.2.2.1 t, .object C)) (hin : vp_in i N) (hf : f i.toNatClampNeg = some a) (kk : J Z X n k sl (pc + 1) lv (.ref a :: st) M) : J Z X n k sl pc lv (.int i :: .ref (Z.2.2.1 + o) :: st) M := by
  obtain ⟨p, e, R, s, m, args, below, meth, c, Q, nL⟩ := X
  intro H locs ls h1 h2 h3 h4
  refine va_aldq E.1 E.2.1 E.2.2.2.2.2.1 h3 o t (by rw [wsO_get ho, hM]) ht hin hd ?_
  rw [hf]
  exact kk H locs ls h1 h2 h3 h4
theorem J_astq (E : Ent Z X mt rc rs) {o N t v ci : Nat} {r : vw_C} {vs : List Value} {f : Nat → Option Nat} {i : Int32} (hd : decode mt.2.1 pc = .ok (.aastore, 1)) (ho : o < n) (hM : M o = .inl (Z.2.2.2.1 t, N, .inr (.inr (.inr (.inr f))))) (ht : (tysZ Z.2.2.2.1)[t]? = some (Z.2.2.2.1 t, .object r.1)) (hv : v < n) (hMv : M v = .inr (ci, vs)) (hc : vwCl[ci]? = some r) (hin : vp_in i N) (kk : J Z X n k sl (pc + 1) lv st (va_up M o (.inl (Z.2.2.2.1 t, N, .inr (.inr (.inr (.inr (va_up f i.toNatClampNeg (some (Z.2.2.1 + v)))))))))) : J Z X n k sl pc lv (.ref (Z.2.2.1 + v) :: .int i :: .ref (Z.2.2.1 + o) :: st) M := by
  obtain ⟨p, e, R, s, m, args, below, meth, c, Q, nL⟩ := X
  intro H locs ls h1 h2 h3 h4
  refine va_astq E.1 E.2.1 E.2.2.2.2.2.1 h3 wsO_D h4 o t v ci (by rw [wsO_get ho, hM]) ht (by rw [wsO_get hv, hMv]) hc hin hd fun H1 l1 p1 _ p3 => ?_
  rw [wsO_set ho] at p1
  exact kk H1 l1 ls h1 h2 p1 p3
theorem J_alen (E : Ent Z X mt rc rs) {o t : Nat} {cA : ClassId} {x : vp_A} {ty : FieldType} {v : Int32} (hd : decode mt.2.1 pc = .ok (.arraylength, 1)) (ho : o < n) (hM : M o = .inl (cA, x)) (ht : (tysZ Z.2.2.2.1)[t]? = some (cA, ty)) (hv : Int32.ofNat x.1 = v) (kk : J Z X n k sl (pc + 1) lv (.int v :: st) M) : J Z X n k sl pc lv (.ref (Z.2.2.1 + o) :: st) M := by
  obtain ⟨p, e, R, s, m, args, below, meth, c, Q, nL⟩ := X
  intro H locs ls h1 h2 h3 h4
  exact va_alen E.1 E.2.1 E.2.2.2.2.2.1 h3 o t (by rw [wsO_get ho, hM]) ht hv hd (kk H locs ls h1 h2 h3 h4)
theorem J_putF (E : Ent Z X mt rc rs) {i o ci N : Nat} {fs : List Value} {C : String} {T : u_T} {v : Value} (hd : decode mt.2.1 pc = .ok (.putfield i, 3)) (ho : o < n) (hM : M o = .inr (ci, fs)) (hc : vwCl[ci]? = some (C, T, N)) (hin : ∀ w ∈ u_ws C T N, w ∈ ALL) (ty0 : Nat → FieldType) (hty : ∀ k, k < N → parseFieldDescriptor (T k).2.2.1 = some (ty0 k)) (hnm : ∀ a, a < N → ∀ b, b < N → a ≠ b → (T a).2.1 ≠ (T b).2.1) (q : Nat) (hq : q < N) (hw : Cond.fieldLink mt.1.cls i C (T q).2.1 (T q).2.2.1 ∈ ALL) (hC : (T q).1 = C) (hO : mt.1.cls = C) (hI : mt.1.name = "<init>") (hf : (T q).2.2.2 = true) {ty : FieldType} (ht : parseFieldDescriptor (T q).2.2.1 = some ty) (hna : narrow ty v = v) (hfi : fits ty v = true) (hl : q < fs.length) (kk : J Z X n k sl (pc + 3) lv st (va_up M o (.inr (ci, fs.set q v)))) : J Z X n k sl pc lv (v :: .ref (Z.2.2.1 + o) :: st) M := by
  obtain ⟨p, e, R, s, m, args, below, meth, c, Q, nL⟩ := X
  intro H locs ls h1 h2 h3 h4
  refine va_putF E.1 E.2.1 E.2.2.2.2.1 hin ty0 hty hnm E.2.2.2.1 E.2.2.2.2.2.1 h3 wsO_D h4 o (by rw [wsO_get ho, hM]) hc q hq (E.2.2.2.2.1 _ hw) (fun x hx => by rw [← hC]; exact hx) hf (by rw [E.2.2.2.2.2.2.2.2.2.2.2.2.2.2.2]; exact hI) (by rw [hC, hO]) ht hna hfi hl hd fun H1 l1 p1 _ p3 => ?_
  rw [wsO_set ho] at p1
  exact kk H1 l1 ls h1 h2 p1 p3
theorem wsO_new {B n : Nat} {M : Mem} {Z : ZT} {D : va_G} {cl : List vw_C} {H : Heap} {q : Nat} {e : va_E} (hB : Z.2.2.1 = B) (hz : H.size ≤ B + n + 1) (hP : va_P D cl (wsO B n M ++ [(q, e)]) H) (hD : va_D (Aof Z) (wsO B n M ++ [(q, e)])) : q = B + n := by
  have hg : (wsO B n M ++ [(q, e)])[n]? = some (q, e) := by rw [List.getElem?_append_right (by rw [wsO_len]; exact Nat.le_refl _), wsO_len]; simp
  have h1 : B ≤ q := by rw [← hB]; exact hD.2 n _ hg
  have h2 : q < H.size := (hP n _ hg).lt
  rcases Nat.lt_or_ge q (B + n) with h3 | h3
  · have hk : (wsO B n M ++ [(q, e)])[q - B]? = some (q, M (q - B)) := by
      rw [List.getElem?_append_left (by rw [wsO_len]; omega), wsO_get (by omega)]
      have : B + (q - B) = q := by omega
      rw [this]
    have := hD.1 _ _ _ _ hk hg rfl
    omega
  · omega
/-- the heap's size, out of what has been made, one cell more -/
theorem W_size1 {Z : ZT} {p : Program} {e : Env} {R : Room} {s : State} {m : MethodId} {args : Array Value} {below : List Frame} {meth : Method} {c : Code} {H : Heap} {locs : List Loc} {k sl : Nat} {Q : State → Prop} {g : JFrame} {N : Nat}
    (h2 : s.heap.size + k = N) (kk : H.size ≤ N → W p Z.1 e R s m args below meth c H locs k sl Q g) : W p Z.1 e R s m args below meth c H locs k sl Q g := by
  intro T hT X
  have hs : T.heap.size ≤ s.heap.size + k := X.same.2.2.1
  refine kk ?_ T hT X
  rw [hT] at hs
  omega
theorem J_new (E : Ent Z X mt rc rs) {i ci N : Nat} {C : String} {T : u_T} (hd : decode mt.2.1 pc = .ok (.new i, 3)) (hc : vwCl[ci]? = some (C, T, N)) (hin : ∀ w ∈ u_ws C T N, w ∈ ALL) (ty0 : Nat → FieldType) (hty : ∀ k, k < N → parseFieldDescriptor (T k).2.2.1 = some (ty0 k)) (hl : Cond.classLink mt.1.cls i C ∈ ALL) (hi : Cond.instantiable C N ∈ ALL) (hn : Cond.initialized C ∈ ALL) {fs : List Value} (hfs : ∀ j, j < N → defaultValue (ty0 j) = vp_V fs j) (hrc : k + 1 ≤ rc) (hrs : sl + N ≤ rs) (kk : J Z X (n + 1) (k + 1) (sl + N) (pc + 3) lv (.ref (Z.2.2.1 + n) :: st) (va_up M n (.inr (ci, fs)))) : J Z X n k sl pc lv st M := by
  obtain ⟨p, e, R, s, m, args, below, meth, c, Q, nL⟩ := X
  intro H locs ls h1 h2 h3 h4
  refine va_new E.1 E.2.1 E.2.2.2.2.1 hin ty0 hty E.2.2.2.1 (E.2.2.2.2.1 _ hl) (E.2.2.2.2.1 _ hi) (E.2.2.2.2.1 _ hn) E.2.2.2.2.2.1 h3 wsO_D h4 (fun q hq => Nat.le_trans h2.1 hq) hc hfs (by rw [E.2.2.2.2.2.2.2.2.2.2.1]; exact hrc) (by rw [E.2.2.2.2.2.2.2.2.2.2.2.1]; exact hrs) hd fun q H1 p1 p2 p3 => ?_
  refine W_size1 (N := Z.2.2.1 + n + 1) (by omega) fun hz => ?_
  have hq := wsO_new rfl hz p1 p2
  subst hq
  rw [wsO_push] at p1
  exact kk H1 locs ls h1 ⟨h2.1, by omega⟩ p1 p3
theorem J_newa_int (E : Ent Z X mt rc rs) {x : Int32} {N : Nat} (hd : decode mt.2.1 pc = .ok (.newarray .int, 2)) (hw : Cond.arrayClass .int ∈ ALL) (hn : ¬ x < 0) (hN : x.toNatClampNeg = N) (hb : N ≤ 100000) (hrc : k + 1 ≤ rc) (hrs : sl + N ≤ rs) (kk : J Z X (n + 1) (k + 1) (sl + N) (pc + 2) lv (.ref (Z.2.2.1 + n) :: st) (va_up M n (.inl (Z.2.2.2.1 0, N, .inl (fun _ => 0))))) : J Z X n k sl pc lv (.int x :: st) M := by
  obtain ⟨p, e, R, s, m, args, below, meth, c, Q, nL⟩ := X
  intro H locs ls h1 h2 h3 h4
  refine va_newa (atype := .int) E.1 E.2.1 (E.2.2.2.2.1 _ hw) rfl E.2.2.2.2.2.1 h3 wsO_D h4 (fun q hq => Nat.le_trans h2.1 hq) (a0 := (N, .inl (fun _ => 0))) (fun cA => rfl) hn hN (by show N * componentBytes .int ≤ 536870912; exact Nat.le_trans (Nat.mul_le_mul hb (show componentBytes .int ≤ 4 by decide)) (by decide)) (by rw [E.2.2.2.2.2.2.2.2.2.2.1]; exact hrc) (by rw [E.2.2.2.2.2.2.2.2.2.2.2.1]; exact hrs) hd fun q cA H1 pK p1 p2 p3 => ?_
  refine W_size1 (N := Z.2.2.1 + n + 1) (by omega) fun hz => ?_
  have hq := wsO_new rfl hz p1 p2
  subst hq
  rw [wsO_push] at p1
  have e1 := (pK.2 6 _ rfl).2
  have e2 := (pK.2 0 _ rfl).2
  have hc : cA = Z.2.2.2.1 0 := Option.some.inj (Eq.trans (Eq.symm e1) e2)
  subst hc
  exact kk H1 locs ls h1 ⟨h2.1, by omega⟩ p1 p3
theorem J_newa_boolean (E : Ent Z X mt rc rs) {x : Int32} {N : Nat} (hd : decode mt.2.1 pc = .ok (.newarray .boolean, 2)) (hw : Cond.arrayClass .boolean ∈ ALL) (hn : ¬ x < 0) (hN : x.toNatClampNeg = N) (hb : N ≤ 100000) (hrc : k + 1 ≤ rc) (hrs : sl + N ≤ rs) (kk : J Z X (n + 1) (k + 1) (sl + N) (pc + 2) lv (.ref (Z.2.2.1 + n) :: st) (va_up M n (.inl (Z.2.2.2.1 1, N, .inl (fun _ => 0))))) : J Z X n k sl pc lv (.int x :: st) M := by
  obtain ⟨p, e, R, s, m, args, below, meth, c, Q, nL⟩ := X
  intro H locs ls h1 h2 h3 h4
  refine va_newa (atype := .boolean) E.1 E.2.1 (E.2.2.2.2.1 _ hw) rfl E.2.2.2.2.2.1 h3 wsO_D h4 (fun q hq => Nat.le_trans h2.1 hq) (a0 := (N, .inl (fun _ => 0))) (fun cA => rfl) hn hN (by show N * componentBytes .boolean ≤ 536870912; exact Nat.le_trans (Nat.mul_le_mul hb (show componentBytes .boolean ≤ 4 by decide)) (by decide)) (by rw [E.2.2.2.2.2.2.2.2.2.2.1]; exact hrc) (by rw [E.2.2.2.2.2.2.2.2.2.2.2.1]; exact hrs) hd fun q cA H1 pK p1 p2 p3 => ?_
  refine W_size1 (N := Z.2.2.1 + n + 1) (by omega) fun hz => ?_
  have hq := wsO_new rfl hz p1 p2
  subst hq
  rw [wsO_push] at p1
  have e1 := (pK.2 6 _ rfl).2
  have e2 := (pK.2 1 _ rfl).2
  have hc : cA = Z.2.2.2.1 1 := Option.some.inj (Eq.trans (Eq.symm e1) e2)
  subst hc
  exact kk H1 locs ls h1 ⟨h2.1, by omega⟩ p1 p3
theorem J_newa_byte (E : Ent Z X mt rc rs) {x : Int32} {N : Nat} (hd : decode mt.2.1 pc = .ok (.newarray .byte, 2)) (hw : Cond.arrayClass .byte ∈ ALL) (hn : ¬ x < 0) (hN : x.toNatClampNeg = N) (hb : N ≤ 100000) (hrc : k + 1 ≤ rc) (hrs : sl + N ≤ rs) (kk : J Z X (n + 1) (k + 1) (sl + N) (pc + 2) lv (.ref (Z.2.2.1 + n) :: st) (va_up M n (.inl (Z.2.2.2.1 2, N, .inl (fun _ => 0))))) : J Z X n k sl pc lv (.int x :: st) M := by
  obtain ⟨p, e, R, s, m, args, below, meth, c, Q, nL⟩ := X
  intro H locs ls h1 h2 h3 h4
  refine va_newa (atype := .byte) E.1 E.2.1 (E.2.2.2.2.1 _ hw) rfl E.2.2.2.2.2.1 h3 wsO_D h4 (fun q hq => Nat.le_trans h2.1 hq) (a0 := (N, .inl (fun _ => 0))) (fun cA => rfl) hn hN (by show N * componentBytes .byte ≤ 536870912; exact Nat.le_trans (Nat.mul_le_mul hb (show componentBytes .byte ≤ 4 by decide)) (by decide)) (by rw [E.2.2.2.2.2.2.2.2.2.2.1]; exact hrc) (by rw [E.2.2.2.2.2.2.2.2.2.2.2.1]; exact hrs) hd fun q cA H1 pK p1 p2 p3 => ?_
  refine W_size1 (N := Z.2.2.1 + n + 1) (by omega) fun hz => ?_
  have hq := wsO_new rfl hz p1 p2
  subst hq
  rw [wsO_push] at p1
  have e1 := (pK.2 6 _ rfl).2
  have e2 := (pK.2 2 _ rfl).2
  have hc : cA = Z.2.2.2.1 2 := Option.some.inj (Eq.trans (Eq.symm e1) e2)
  subst hc
  exact kk H1 locs ls h1 ⟨h2.1, by omega⟩ p1 p3
theorem J_newq3 (E : Ent Z X mt rc rs) {i : Nat} {x : Int32} {N : Nat} (hd : decode mt.2.1 pc = .ok (.anewarray i, 3)) (hl : Cond.classLink mt.1.cls i "SlipHunt$Big" ∈ ALL) (hn : ¬ x < 0) (hN : x.toNatClampNeg = N) (hb : N ≤ 100000) (hrc : k + 1 ≤ rc) (hrs : sl + N ≤ rs) (kk : J Z X (n + 1) (k + 1) (sl + N) (pc + 3) lv (.ref (Z.2.2.1 + n) :: st) (va_up M n (.inl (Z.2.2.2.1 3, N, .inr (.inr (.inr (.inr (fun _ => none)))))))) : J Z X n k sl pc lv (.int x :: st) M := by
  obtain ⟨p, e, R, s, m, args, below, meth, c, Q, nL⟩ := X
  intro H locs ls h1 h2 h3 h4
  refine va_newq E.1 E.2.1 E.2.2.2.1 (E.2.2.2.2.1 _ hl) ((E.2.2.2.2.2.2.1).2.2.2.2.2.2.2.2.1) E.2.2.2.2.2.1 h3 wsO_D h4 (fun q hq => Nat.le_trans h2.1 hq) hn hN (by omega) (by rw [E.2.2.2.2.2.2.2.2.2.2.1]; exact hrc) (by rw [E.2.2.2.2.2.2.2.2.2.2.2.1]; exact hrs) hd fun q cA H1 pK p1 p2 p3 => ?_
  refine W_size1 (N := Z.2.2.1 + n + 1) (by omega) fun hz => ?_
  have hq := wsO_new rfl hz p1 p2
  subst hq
  rw [wsO_push] at p1
  obtain ⟨_, _, _, _, _, e1⟩ := (pK.2 6 _ rfl).2
  obtain ⟨_, _, _, _, _, e2⟩ := (pK.2 3 _ rfl).2
  have hc : cA = Z.2.2.2.1 3 := Option.some.inj (Eq.trans (Eq.symm e1) e2)
  subst hc
  exact kk H1 locs ls h1 ⟨h2.1, by omega⟩ p1 p3
theorem J_newq4 (E : Ent Z X mt rc rs) {i : Nat} {x : Int32} {N : Nat} (hd : decode mt.2.1 pc = .ok (.anewarray i, 3)) (hl : Cond.classLink mt.1.cls i "SlipHunt$House" ∈ ALL) (hn : ¬ x < 0) (hN : x.toNatClampNeg = N) (hb : N ≤ 100000) (hrc : k + 1 ≤ rc) (hrs : sl + N ≤ rs) (kk : J Z X (n + 1) (k + 1) (sl + N) (pc + 3) lv (.ref (Z.2.2.1 + n) :: st) (va_up M n (.inl (Z.2.2.2.1 4, N, .inr (.inr (.inr (.inr (fun _ => none)))))))) : J Z X n k sl pc lv (.int x :: st) M := by
  obtain ⟨p, e, R, s, m, args, below, meth, c, Q, nL⟩ := X
  intro H locs ls h1 h2 h3 h4
  refine va_newq E.1 E.2.1 E.2.2.2.1 (E.2.2.2.2.1 _ hl) ((E.2.2.2.2.2.2.1).2.2.2.2.2.2.2.2.2.1) E.2.2.2.2.2.1 h3 wsO_D h4 (fun q hq => Nat.le_trans h2.1 hq) hn hN (by omega) (by rw [E.2.2.2.2.2.2.2.2.2.2.1]; exact hrc) (by rw [E.2.2.2.2.2.2.2.2.2.2.2.1]; exact hrs) hd fun q cA H1 pK p1 p2 p3 => ?_
  refine W_size1 (N := Z.2.2.1 + n + 1) (by omega) fun hz => ?_
  have hq := wsO_new rfl hz p1 p2
  subst hq
  rw [wsO_push] at p1
  obtain ⟨_, _, _, _, _, e1⟩ := (pK.2 6 _ rfl).2
  obtain ⟨_, _, _, _, _, e2⟩ := (pK.2 4 _ rfl).2
  have hc : cA = Z.2.2.2.1 4 := Option.some.inj (Eq.trans (Eq.symm e1) e2)
  subst hc
  exact kk H1 locs ls h1 ⟨h2.1, by omega⟩ p1 p3
theorem J_newq5 (E : Ent Z X mt rc rs) {i : Nat} {x : Int32} {N : Nat} (hd : decode mt.2.1 pc = .ok (.anewarray i, 3)) (hl : Cond.classLink mt.1.cls i "SlipHunt$Notes" ∈ ALL) (hn : ¬ x < 0) (hN : x.toNatClampNeg = N) (hb : N ≤ 100000) (hrc : k + 1 ≤ rc) (hrs : sl + N ≤ rs) (kk : J Z X (n + 1) (k + 1) (sl + N) (pc + 3) lv (.ref (Z.2.2.1 + n) :: st) (va_up M n (.inl (Z.2.2.2.1 5, N, .inr (.inr (.inr (.inr (fun _ => none)))))))) : J Z X n k sl pc lv (.int x :: st) M := by
  obtain ⟨p, e, R, s, m, args, below, meth, c, Q, nL⟩ := X
  intro H locs ls h1 h2 h3 h4
  refine va_newq E.1 E.2.1 E.2.2.2.1 (E.2.2.2.2.1 _ hl) ((E.2.2.2.2.2.2.1).2.2.2.2.2.2.2.2.2.2) E.2.2.2.2.2.1 h3 wsO_D h4 (fun q hq => Nat.le_trans h2.1 hq) hn hN (by omega) (by rw [E.2.2.2.2.2.2.2.2.2.2.1]; exact hrc) (by rw [E.2.2.2.2.2.2.2.2.2.2.2.1]; exact hrs) hd fun q cA H1 pK p1 p2 p3 => ?_
  refine W_size1 (N := Z.2.2.1 + n + 1) (by omega) fun hz => ?_
  have hq := wsO_new rfl hz p1 p2
  subst hq
  rw [wsO_push] at p1
  obtain ⟨_, _, _, _, _, e1⟩ := (pK.2 6 _ rfl).2
  obtain ⟨_, _, _, _, _, e2⟩ := (pK.2 5 _ rfl).2
  have hc : cA = Z.2.2.2.1 5 := Option.some.inj (Eq.trans (Eq.symm e1) e2)
  subst hc
  exact kk H1 locs ls h1 ⟨h2.1, by omega⟩ p1 p3
theorem J_oinit (E : Ent Z X mt rc rs) {i o : Nat} (hd : decode mt.2.1 pc = .ok (.invokespecial i, 3)) (hw : Cond.methodLink mt.1.cls i Lib.objectInit ∈ ALL) (hi : Cond.instanceMethod Lib.objectInit ∈ ALL) (hc : Cond.code Lib.objectInit ⟨#[0xb1]⟩ 1 none ∈ ALL) (hf : 1 ≤ mt.2.2.2.2.1) (hlo : (st.map fun v => v.category).sum + 12 ≤ mt.2.2.2.2.2) (kk : J Z X n k sl (pc + 3) lv st M) : J Z X n k sl pc lv (.ref (Z.2.2.1 + o) :: st) M := by
  obtain ⟨p, e, R, s, m, args, below, meth, c, Q, nL⟩ := X
  intro H locs ls h1 h2 h3 h4
  exact W.objInit E.1 E.2.1 E.2.2.2.1 (E.2.2.2.2.1 _ hw) (E.2.2.2.2.1 _ hi) (E.2.2.2.2.1 _ hc) (g := F0 m pc ls (.ref (Z.2.2.1 + o) :: st)) rfl (by rw [E.2.2.1]; exact h1.1) rfl hd (by rw [E.2.2.2.2.2.2.2.2.1]; exact hf) (by rw [E.2.2.2.2.2.2.2.2.2.1]; show 2 * 0 + _ + 12 ≤ _; omega) (kk H locs ls h1 h2 h3 h4)
theorem J_mmin (E : Ent Z X mt rc rs) {i : Nat} {x y : Int32} (hd : decode mt.2.1 pc = .ok (.invokestatic i, 3)) (hw : Cond.methodLink mt.1.cls i Lib.Math.min.name ∈ ALL) (hs : Cond.static Lib.Math.min.name ∈ ALL) (hi : Cond.initialized "java/lang/Math" ∈ ALL) (hc : Cond.code Lib.Math.min.name Lib.Math.min.code 2 (some .int) ∈ ALL) (hf : 1 ≤ mt.2.2.2.2.1) (hlo : (st.map fun v => v.category).sum + 13 ≤ mt.2.2.2.2.2) (hk : k ≤ rc) (hsl : sl ≤ rs) (kk : J Z X n k sl (pc + 3) lv (.int (if y < x then y else x) :: st) M) : J Z X n k sl pc lv (.int y :: .int x :: st) M := by
  obtain ⟨p, e, R, s, m, args, below, meth, c, Q, nL⟩ := X
  intro H locs ls h1 h2 h3 h4
  exact va_mmin E.1 E.2.1 (by rw [E.2.2.1]; exact h1.1.symm) E.2.2.2.1 (E.2.2.2.2.1 _ hw) (E.2.2.2.2.1 _ hs) (E.2.2.2.2.1 _ hi) (E.2.2.2.2.1 _ hc) (by rw [E.2.2.2.2.2.2.2.2.1]; exact hf) (by rw [E.2.2.2.2.2.2.2.2.2.1]; exact hlo) (by rw [E.2.2.2.2.2.2.2.2.2.2.1]; exact hk) (by rw [E.2.2.2.2.2.2.2.2.2.2.2.1]; exact hsl) hd (kk H locs ls h1 h2 h3 h4)
theorem J_mmax (E : Ent Z X mt rc rs) {i : Nat} {x y : Int32} (hd : decode mt.2.1 pc = .ok (.invokestatic i, 3)) (hw : Cond.methodLink mt.1.cls i Lib.Math.max.name ∈ ALL) (hs : Cond.static Lib.Math.max.name ∈ ALL) (hi : Cond.initialized "java/lang/Math" ∈ ALL) (hc : Cond.code Lib.Math.max.name Lib.Math.max.code 2 (some .int) ∈ ALL) (hf : 1 ≤ mt.2.2.2.2.1) (hlo : (st.map fun v => v.category).sum + 13 ≤ mt.2.2.2.2.2) (hk : k ≤ rc) (hsl : sl ≤ rs) (kk : J Z X n k sl (pc + 3) lv (.int (if x < y then y else x) :: st) M) : J Z X n k sl pc lv (.int y :: .int x :: st) M := by
  obtain ⟨p, e, R, s, m, args, below, meth, c, Q, nL⟩ := X
  intro H locs ls h1 h2 h3 h4
  exact va_mmax E.1 E.2.1 (by rw [E.2.2.1]; exact h1.1.symm) E.2.2.2.1 (E.2.2.2.2.1 _ hw) (E.2.2.2.2.1 _ hs) (E.2.2.2.2.1 _ hi) (E.2.2.2.2.1 _ hc) (by rw [E.2.2.2.2.2.2.2.2.1]; exact hf) (by rw [E.2.2.2.2.2.2.2.2.2.1]; exact hlo) (by rw [E.2.2.2.2.2.2.2.2.2.2.1]; exact hk) (by rw [E.2.2.2.2.2.2.2.2.2.2.2.1]; exact hsl) hd (kk H locs ls h1 h2 h3 h4)
theorem J_copyi (E : Ent Z X mt rc rs) {i o0 o1 n0 n1 : Nat} {f g : Nat → Int32} {sp dp len : Int32} (hd : decode mt.2.1 pc = .ok (.invokestatic i, 3)) (hw : Cond.methodLink mt.1.cls i arraycopyName ∈ ALL) (hna : Cond.native arraycopyName ∈ ALL) (hs : Cond.static arraycopyName ∈ ALL) (hi : Cond.initialized "java/lang/System" ∈ ALL) (ho : o0 < n) (ho1 : o1 < n) (hM0 : M o0 = .inl (Z.2.2.2.1 0, n0, .inl f)) (hM1 : M o1 = .inl (Z.2.2.2.1 0, n1, .inl g)) (g1 : ¬ sp < 0) (g2 : ¬ dp < 0) (g3 : ¬ len < 0) (g4 : sp.toNatClampNeg + len.toNatClampNeg ≤ n0) (g5 : dp.toNatClampNeg + len.toNatClampNeg ≤ n1) (hf : 1 ≤ mt.2.2.2.2.1) (hlo : (st.map fun v => v.category).sum + (nativeFrameWords "java/lang/System" "arraycopy" 5 + 11) ≤ mt.2.2.2.2.2) (kk : J Z X n k sl (pc + 3) lv st (va_up M o1 (.inl (Z.2.2.2.1 0, n1, .inl (va_cpy f g sp.toNatClampNeg dp.toNatClampNeg len.toNatClampNeg))))) : J Z X n k sl pc lv (.int len :: .int dp :: .ref (Z.2.2.1 + o1) :: .int sp :: .ref (Z.2.2.1 + o0) :: st) M := by
  obtain ⟨p, e, R, s, m, args, below, meth, c, Q, nL⟩ := X
  intro H locs ls h1 h2 h3 h4
  refine va_copyi E.1 E.2.1 (by rw [E.2.2.1]; exact h1.1.symm) E.2.2.2.1 (E.2.2.2.2.1 _ hw) (E.2.2.2.2.1 _ hna) (E.2.2.2.2.1 _ hs) (E.2.2.2.2.1 _ hi) E.2.2.2.2.2.1 h3 wsO_D h4 o0 o1 0 0 (by rw [wsO_get ho, hM0]) (by rw [wsO_get ho1, hM1]) rfl rfl rfl g1 g2 g3 g4 g5 (fun _ _ => rfl) (by rw [E.2.2.2.2.2.2.2.2.1]; exact hf) (by rw [E.2.2.2.2.2.2.2.2.2.1]; exact hlo) hd fun H1 l1 p1 _ p3 => ?_
  rw [wsO_set ho1] at p1
  exact kk H1 l1 ls h1 h2 p1 p3
theorem J_gets_tnum (E : Ent Z X mt rc rs) {i : Nat} (hd : decode mt.2.1 pc = .ok (.getstatic i, 3)) (hw : Cond.fieldLink mt.1.cls i "SlipHunt$Told" "NUMBERS_OF" "[I" ∈ ALL) (kk : J Z X n k sl (pc + 3) lv (.ref (Z.2.2.2.2 0) :: st) M) : J Z X n k sl pc lv st M := by
  obtain ⟨p, e, R, s, m, args, below, meth, c, Q, nL⟩ := X
  intro H locs ls h1 h2 h3 h4
  exact va_gets E.1 E.2.1 ((E.2.2.2.2.2.2.1).1.1) h4 E.2.2.2.1 (E.2.2.2.2.1 _ hw) (fun _ h => h) hd (kk H locs ls h1 h2 h3 h4)
theorem J_ld_tnum (E : Ent Z X mt rc rs) {i : Int32} (hd : decode mt.2.1 pc = .ok (.iaload, 1)) (hin : vp_in i 10) (kk : J Z X n k sl (pc + 1) lv (.int (([0, 3, 2, 5, 2, 2, 2, 1, 2, 2] : List Int32).getD i.toNatClampNeg 0) :: st) M) : J Z X n k sl pc lv (.int i :: .ref (Z.2.2.2.2 0) :: st) M := by
  obtain ⟨p, e, R, s, m, args, below, meth, c, Q, nL⟩ := X
  intro H locs ls h1 h2 h3 h4
  exact va_ti E.1 E.2.1 ((E.2.2.2.2.2.2.1).1.2) h4 hin rfl hd (kk H locs ls h1 h2 h3 h4)
theorem J_gets_tlea (E : Ent Z X mt rc rs) {i : Nat} (hd : decode mt.2.1 pc = .ok (.getstatic i, 3)) (hw : Cond.fieldLink mt.1.cls i "SlipHunt$Notes" "LEAST" "[I" ∈ ALL) (kk : J Z X n k sl (pc + 3) lv (.ref (Z.2.2.2.2 1) :: st) M) : J Z X n k sl pc lv st M := by
  obtain ⟨p, e, R, s, m, args, below, meth, c, Q, nL⟩ := X
  intro H locs ls h1 h2 h3 h4
  exact va_gets E.1 E.2.1 ((E.2.2.2.2.2.2.1).2.1.1) h4 E.2.2.2.1 (E.2.2.2.2.1 _ hw) (fun _ h => h) hd (kk H locs ls h1 h2 h3 h4)
theorem J_ld_tlea (E : Ent Z X mt rc rs) {i : Int32} (hd : decode mt.2.1 pc = .ok (.iaload, 1)) (hin : vp_in i 5) (kk : J Z X n k sl (pc + 1) lv (.int (([1, 0, 0, 0, 0] : List Int32).getD i.toNatClampNeg 0) :: st) M) : J Z X n k sl pc lv (.int i :: .ref (Z.2.2.2.2 1) :: st) M := by
  obtain ⟨p, e, R, s, m, args, below, meth, c, Q, nL⟩ := X
  intro H locs ls h1 h2 h3 h4
  exact va_ti E.1 E.2.1 ((E.2.2.2.2.2.2.1).2.1.2) h4 hin rfl hd (kk H locs ls h1 h2 h3 h4)
theorem J_gets_tgre (E : Ent Z X mt rc rs) {i : Nat} (hd : decode mt.2.1 pc = .ok (.getstatic i, 3)) (hw : Cond.fieldLink mt.1.cls i "SlipHunt$Notes" "GREATEST" "[I" ∈ ALL) (kk : J Z X n k sl (pc + 3) lv (.ref (Z.2.2.2.2 2) :: st) M) : J Z X n k sl pc lv st M := by
  obtain ⟨p, e, R, s, m, args, below, meth, c, Q, nL⟩ := X
  intro H locs ls h1 h2 h3 h4
  exact va_gets E.1 E.2.1 ((E.2.2.2.2.2.2.1).2.2.1.1) h4 E.2.2.2.1 (E.2.2.2.2.1 _ hw) (fun _ h => h) hd (kk H locs ls h1 h2 h3 h4)
theorem J_ld_tgre (E : Ent Z X mt rc rs) {i : Int32} (hd : decode mt.2.1 pc = .ok (.iaload, 1)) (hin : vp_in i 5) (kk : J Z X n k sl (pc + 1) lv (.int (([6, 200, 10, 9, 9] : List Int32).getD i.toNatClampNeg 0) :: st) M) : J Z X n k sl pc lv (.int i :: .ref (Z.2.2.2.2 2) :: st) M := by
  obtain ⟨p, e, R, s, m, args, below, meth, c, Q, nL⟩ := X
  intro H locs ls h1 h2 h3 h4
  exact va_ti E.1 E.2.1 ((E.2.2.2.2.2.2.1).2.2.1.2) h4 hin rfl hd (kk H locs ls h1 h2 h3 h4)
theorem J_iret (E : Ent Z X mt k sl) {Post : Option Value → Mem → Prop} (hB : Bod Z X n k sl Post) {v : Int32} (hd : decode mt.2.1 pc = .ok (.ireturn, 1)) (hr : mt.2.2.2.1 = some .int)  (hp : Post (some (.int v)) M) : J Z X n k sl pc lv [.int v] M := by
  obtain ⟨p, e, R, s, m, args, below, meth, c, Q, nL⟩ := X
  intro H locs ls h1 h2 h3 h4
  subst hB
  refine W_size h2 h3 h4 fun hsz => ?_
  exact W.iret E.1 E.2.1 (by rw [E.2.2.2.2.2.2.2.2.2.2.2.2.2.1]; exact hr)  (fun t ht hW => ⟨⟨_, M, rfl, hp, by rw [ht]; exact hsz, by rw [ht]; exact h3, va_K.moved hW.alike E.2.2.2.2.2.1, by rw [ht]; exact ((E.2.2.2.2.2.2.1).kept (fun a ha hA => h4.2.1 a ha hA)).warm hW⟩, h4.F ht⟩) h4.2.2 hd E.2.2.2.2.2.2.2.2.2.2.2.2.2.2.1
theorem J_zret (E : Ent Z X mt k sl) {Post : Option Value → Mem → Prop} (hB : Bod Z X n k sl Post) {v : Int32} (hd : decode mt.2.1 pc = .ok (.ireturn, 1)) (hr : mt.2.2.2.1 = some .boolean) (hz : narrow .boolean (.int v) = .int v) (hp : Post (some (.int v)) M) : J Z X n k sl pc lv [.int v] M := by
  obtain ⟨p, e, R, s, m, args, below, meth, c, Q, nL⟩ := X
  intro H locs ls h1 h2 h3 h4
  subst hB
  refine W_size h2 h3 h4 fun hsz => ?_
  exact W.zret E.1 E.2.1 (by rw [E.2.2.2.2.2.2.2.2.2.2.2.2.2.1]; exact hr) hz (fun t ht hW => ⟨⟨_, M, rfl, hp, by rw [ht]; exact hsz, by rw [ht]; exact h3, va_K.moved hW.alike E.2.2.2.2.2.1, by rw [ht]; exact ((E.2.2.2.2.2.2.1).kept (fun a ha hA => h4.2.1 a ha hA)).warm hW⟩, h4.F ht⟩) h4.2.2 hd E.2.2.2.2.2.2.2.2.2.2.2.2.2.2.1
theorem J_lret (E : Ent Z X mt k sl) {Post : Option Value → Mem → Prop} (hB : Bod Z X n k sl Post) {v : Int64} (hd : decode mt.2.1 pc = .ok (.lreturn, 1)) (hr : mt.2.2.2.1 = some .long)  (hp : Post (some (.long v)) M) : J Z X n k sl pc lv [.long v] M := by
  obtain ⟨p, e, R, s, m, args, below, meth, c, Q, nL⟩ := X
  intro H locs ls h1 h2 h3 h4
  subst hB
  refine W_size h2 h3 h4 fun hsz => ?_
  exact W.lret E.1 E.2.1 (by rw [E.2.2.2.2.2.2.2.2.2.2.2.2.2.1]; exact hr)  (fun t ht hW => ⟨⟨_, M, rfl, hp, by rw [ht]; exact hsz, by rw [ht]; exact h3, va_K.moved hW.alike E.2.2.2.2.2.1, by rw [ht]; exact ((E.2.2.2.2.2.2.1).kept (fun a ha hA => h4.2.1 a ha hA)).warm hW⟩, h4.F ht⟩) h4.2.2 hd E.2.2.2.2.2.2.2.2.2.2.2.2.2.2.1
theorem J_vret (E : Ent Z X mt k sl) {Post : Option Value → Mem → Prop} (hB : Bod Z X n k sl Post)  (hd : decode mt.2.1 pc = .ok (.return_, 1)) (hr : mt.2.2.2.1 = none)  (hp : Post none M) : J Z X n k sl pc lv [] M := by
  obtain ⟨p, e, R, s, m, args, below, meth, c, Q, nL⟩ := X
  intro H locs ls h1 h2 h3 h4
  subst hB
  refine W_size h2 h3 h4 fun hsz => ?_
  exact W.vret E.1 E.2.1 (by rw [E.2.2.2.2.2.2.2.2.2.2.2.2.2.1]; exact hr)  (fun t ht hW => ⟨⟨_, M, rfl, hp, by rw [ht]; exact hsz, by rw [ht]; exact h3, va_K.moved hW.alike E.2.2.2.2.2.1, by rw [ht]; exact ((E.2.2.2.2.2.2.1).kept (fun a ha hA => h4.2.1 a ha hA)).warm hW⟩, h4.F ht⟩) h4.2.2 hd E.2.2.2.2.2.2.2.2.2.2.2.2.2.2.1
theorem J_aret (E : Ent Z X mt k sl) {Post : Option Value → Mem → Prop} (hB : Bod Z X n k sl Post) {v : Nat} {C : String} (hd : decode mt.2.1 pc = .ok (.areturn, 1)) (hr : mt.2.2.2.1 = some (.object C))  (hp : Post (some (.ref v)) M) : J Z X n k sl pc lv [.ref v] M := by
  obtain ⟨p, e, R, s, m, args, below, meth, c, Q, nL⟩ := X
  intro H locs ls h1 h2 h3 h4
  subst hB
  refine W_size h2 h3 h4 fun hsz => ?_
  exact W.aret E.1 E.2.1 (by rw [E.2.2.2.2.2.2.2.2.2.2.2.2.2.1]; exact hr) (Or.inl ⟨_, rfl⟩) (Or.inr ⟨_, rfl⟩) (fun t ht hW => ⟨⟨_, M, rfl, hp, by rw [ht]; exact hsz, by rw [ht]; exact h3, va_K.moved hW.alike E.2.2.2.2.2.1, by rw [ht]; exact ((E.2.2.2.2.2.2.1).kept (fun a ha hA => h4.2.1 a ha hA)).warm hW⟩, h4.F ht⟩) h4.2.2 hd E.2.2.2.2.2.2.2.2.2.2.2.2.2.2.1
theorem World_blind {Z : ZT} {as : List Value} {n : Nat} {M : Mem} : FrameBlind (va_Pc as (World Z n M)) := fun a U g mk q => by
  obtain ⟨q1, q2, q3, q4, q5⟩ := q
  exact ⟨q1, q2, q3, va_K.moved (u := U) (U := U.calling g mk a) (Vm.Alike.refl U.vm) q4, SF.same (u := U) (U := U.calling g mk a) rfl q5⟩
theorem J_after {Z : ZT} {p : Program} {e : Env} {R : Room} {s : State} {m : MethodId} {args : Array Value} {below : List Frame} {meth : Method} {c : Code} {H : Heap} {locs : List Loc} {k sl mc ms n' pc : Nat} {Q : State → Prop} {ls : Array Slot} {st0 rest : List Value} {a : Array Value} {Post : Option Value → Mem → Prop}
    (hr : va_Run p Z.1 e R s m args below meth c H locs k sl mc ms (F0 m pc ls st0) rest (QcOf Z n' Post a) (Aof Z)) (h4 : va_S (Aof Z) s.heap H locs)
    (kk : ∀ (r : Option Value) (M' : Mem) (H1 : Heap) (locs1 : List Loc), Post r M' → va_P Z.2.1 vwCl (wsO Z.2.2.1 n' M') H1 → va_S (Aof Z) s.heap H1 locs1 → W p Z.1 e R s m args below meth c H1 locs1 (k + mc) (sl + ms) Q (F0 m (pc + 3) ls (r.toList ++ rest))) :
    W p Z.1 e R s m args below meth c H locs k sl Q (F0 m pc ls st0) := by
  intro T hT X
  obtain ⟨v, st₀, t, T', L, h0, X', hL, e1, e2, ⟨⟨r, M', hv, hp, hw⟩, hz, hk⟩, g⟩ := hr T hT X
  cases hv
  rw [h0] at hz hk
  obtain ⟨t2, a1, b1⟩ := kk v M' T'.heap (locs ++ L) hp (by rw [e1]; exact hw.2.1)
    ⟨Nat.le_trans h4.1 (by rw [e1]; exact hz), fun q g1 g2 => by rw [e1, hk q (Nat.lt_of_lt_of_le g1 h4.1) g2]; exact h4.2.1 q g1 g2, fun q hq => by
      rcases List.mem_append.mp hq with h | h
      · exact h4.2.2 q h
      · exact hL q h⟩ T' rfl X'
  exact ⟨t2, g t2 a1, b1⟩
/-- a callee's own facts: its code is among the words, its class is ready, its name, its number of arguments -/
def okM (m2 : MT) (na : Nat) : Prop := Cond.code m2.1 m2.2.1 m2.2.2.1 m2.2.2.2.1 ∈ ALL ∧ Cond.initialized m2.1.cls ∈ ALL ∧ m2.1.cls ≠ "java/lang/invoke/MethodHandle" ∧ m2.1.cls ≠ "java/lang/invoke/VarHandle" ∧ (parseMethodDescriptor m2.1.desc).map (fun d => d.parameters.length) = some na
/-- room for the callee in the caller's -/
def okR (m1 m2 : MT) : Prop := m2.2.2.2.2.1 + 1 ≤ m1.2.2.2.2.1 ∧ 8 + (m2.2.2.1 + 11) + m2.2.2.2.2.2 ≤ m1.2.2.2.2.2
theorem gd {w : Cond} (h : w ∈ ALL) : w ∈ ALL ∧ ((w.onTables && w.keeps) = true ∨ ∃ ty, w = .arrayClass ty) := ⟨h, good_of_word (all_good h)⟩
theorem J_callV (E : Ent Z X mt rc rs) {n' ms na : Nat} {m2 : MT} {As rest : List Value} {P : Option Value → Mem → Prop} {i o ci N : Nat} {fs : List Value} {T : u_T} (hd : decode mt.2.1 pc = .ok (.invokevirtual i, 3)) (hC : Ctr Z m2 (.ref (Z.2.2.1 + o) :: As) n n' ms M P) (ok : okM m2 na) (rm : okR mt m2) (hn : As.length = na) (hW : (rest.map fun v => v.category).sum ≤ 8) (hrc : k + (n' - n) ≤ rc) (hrs : sl + ms ≤ rs) (hnn : n ≤ n') (ho : o < n) (hM : M o = .inr (ci, fs)) (hcl : vwCl[ci]? = some (m2.1.cls, T, N)) (hw : Cond.methodLink mt.1.cls i m2.1 ∈ ALL) (hi : Cond.instanceMethod m2.1 ∈ ALL) (hse : Cond.selects m2.1.cls m2.1 m2.1 ∈ ALL) (kk : ∀ (r : Option Value) (M' : Mem), P r M' → J Z X n' (k + (n' - n)) (sl + ms) (pc + 3) lv (r.toList ++ rest) M') : J Z X n k sl pc lv (As.reverse ++ .ref (Z.2.2.1 + o) :: rest) M := by
  obtain ⟨p, e, R, s, m, args, below, meth, c, Q, nL⟩ := X
  intro H locs ls h1 h2 h3 h4
  refine W_size h2 h3 h4 fun hsz => ?_
  refine J_after (va_runV ⟨E.1, E.2.1, E.2.2.1, E.2.2.2.1, E.2.2.2.2.1⟩ hC (cwV na E.2.2.2.2.1 (fun w hw' => by
      unfold wsV at hw'
      rcases List.mem_append.mp hw' with h | h
      · simp only [List.mem_cons, List.not_mem_nil, or_false] at h
        rcases h with rfl | rfl | rfl | rfl
        · exact gd hw
        · exact gd hi
        · exact gd hse
        · exact gd ok.2.1
      · exact all_GoodInC ok.1 _ h) rfl rfl rfl ⟨rfl, ok.2.2⟩ (by rw [E.2.2.2.2.2.2.2.2.1, E.2.2.2.2.2.2.2.2.2.1]; exact rm)) ⟨World_blind, (va_recv E.2.2.2.2.2.1 h3 hcl (by rw [wsO_get ho, hM])), (fun U hU hW => ⟨rfl, by rw [hU]; exact hsz, by rw [hU]; exact h3, va_K.moved hW.alike E.2.2.2.2.2.1, by rw [hU]; exact ((E.2.2.2.2.2.2.1).kept (fun a ha hA => h4.2.1 a ha hA)).warm hW⟩)⟩ rfl hn h1.1 rfl (by show 2 * 0 + _ ≤ 8; omega) hd ⟨by rw [E.2.2.2.2.2.2.2.2.2.2.1]; exact hrc, by rw [E.2.2.2.2.2.2.2.2.2.2.2.1]; exact hrs⟩) h4 fun r M' H1 l1 hp p1 p3 => kk r M' hp H1 l1 ls h1 ⟨h2.1, by omega⟩ p1 p3
theorem J_callN (E : Ent Z X mt rc rs) {n' ms na : Nat} {m2 : MT} {As rest : List Value} {P : Option Value → Mem → Prop} {i o ci N : Nat} {fs : List Value} {T : u_T} (hd : decode mt.2.1 pc = .ok (.invokevirtual i, 3)) (hC : Ctr Z m2 (.ref (Z.2.2.1 + o) :: As) n n' ms M P) (ok : okM m2 na) (rm : okR mt m2) (hn : As.length = na) (hW : (rest.map fun v => v.category).sum ≤ 8) (hrc : k + (n' - n) ≤ rc) (hrs : sl + ms ≤ rs) (hnn : n ≤ n') (ho : o < n) (hM : M o = .inr (ci, fs)) (hcl : vwCl[ci]? = some (m2.1.cls, T, N)) {host : String} (hw : (mt.1.cls, i, m2.1, host) ∈ NESTS) (hi : Cond.instanceMethod m2.1 ∈ ALL) (hse : Cond.selects m2.1.cls m2.1 m2.1 ∈ ALL) (kk : ∀ (r : Option Value) (M' : Mem), P r M' → J Z X n' (k + (n' - n)) (sl + ms) (pc + 3) lv (r.toList ++ rest) M') : J Z X n k sl pc lv (As.reverse ++ .ref (Z.2.2.1 + o) :: rest) M := by
  obtain ⟨p, e, R, s, m, args, below, meth, c, Q, nL⟩ := X
  intro H locs ls h1 h2 h3 h4
  refine W_size h2 h3 h4 fun hsz => ?_
  refine J_after (va_runVN ⟨E.1, E.2.1, E.2.2.1, E.2.2.2.1, E.2.2.2.2.1⟩ hC ⟨va_cnB na E.2.2.2.2.1 (all_GoodInC ok.1) rfl rfl rfl ((E.2.2.2.2.2.2.1).2.2.2.1 _ hw) (E.2.2.2.2.1 _ ok.2.1) ok.2.2 (by rw [E.2.2.2.2.2.2.2.2.1, E.2.2.2.2.2.2.2.2.2.1]; exact rm), E.2.2.2.2.1 _ hi, E.2.2.2.2.1 _ hse⟩ ⟨World_blind, (va_recv E.2.2.2.2.2.1 h3 hcl (by rw [wsO_get ho, hM])), (fun U hU hW => ⟨rfl, by rw [hU]; exact hsz, by rw [hU]; exact h3, va_K.moved hW.alike E.2.2.2.2.2.1, by rw [hU]; exact ((E.2.2.2.2.2.2.1).kept (fun a ha hA => h4.2.1 a ha hA)).warm hW⟩)⟩ rfl hn h1.1 rfl (by show 2 * 0 + _ ≤ 8; omega) hd ⟨by rw [E.2.2.2.2.2.2.2.2.2.2.1]; exact hrc, by rw [E.2.2.2.2.2.2.2.2.2.2.2.1]; exact hrs⟩) h4 fun r M' H1 l1 hp p1 p3 => kk r M' hp H1 l1 ls h1 ⟨h2.1, by omega⟩ p1 p3
theorem J_callS (E : Ent Z X mt rc rs) {n' ms na : Nat} {m2 : MT} {As rest : List Value} {P : Option Value → Mem → Prop} {i : Nat} (hd : decode mt.2.1 pc = .ok (.invokestatic i, 3)) (hC : Ctr Z m2 As n n' ms M P) (ok : okM m2 na) (rm : okR mt m2) (hn : As.length = na) (hW : (rest.map fun v => v.category).sum ≤ 8) (hrc : k + (n' - n) ≤ rc) (hrs : sl + ms ≤ rs) (hnn : n ≤ n') (hw : Cond.methodLink mt.1.cls i m2.1 ∈ ALL) (hi : Cond.static m2.1 ∈ ALL) (kk : ∀ (r : Option Value) (M' : Mem), P r M' → J Z X n' (k + (n' - n)) (sl + ms) (pc + 3) lv (r.toList ++ rest) M') : J Z X n k sl pc lv (As.reverse ++ rest) M := by
  obtain ⟨p, e, R, s, m, args, below, meth, c, Q, nL⟩ := X
  intro H locs ls h1 h2 h3 h4
  refine W_size h2 h3 h4 fun hsz => ?_
  refine J_after (va_runS ⟨E.1, E.2.1, E.2.2.1, E.2.2.2.1, E.2.2.2.2.1⟩ hC (va_cwS na E.2.2.2.2.1 (fun w hw' => by
      unfold va_wsS at hw'
      rcases List.mem_append.mp hw' with h | h
      · simp only [List.mem_cons, List.not_mem_nil, or_false] at h
        rcases h with rfl | rfl | rfl
        · exact gd hw
        · exact gd hi
        · exact gd ok.2.1
      · exact all_GoodInC ok.1 _ h) rfl rfl rfl ok.2.2 (by rw [E.2.2.2.2.2.2.2.2.1, E.2.2.2.2.2.2.2.2.2.1]; exact rm)) ⟨World_blind, (fun U hU hW => ⟨rfl, by rw [hU]; exact hsz, by rw [hU]; exact h3, va_K.moved hW.alike E.2.2.2.2.2.1, by rw [hU]; exact ((E.2.2.2.2.2.2.1).kept (fun a ha hA => h4.2.1 a ha hA)).warm hW⟩)⟩ rfl hn h1.1 rfl (by show 2 * 0 + _ ≤ 8; omega) hd ⟨by rw [E.2.2.2.2.2.2.2.2.2.2.1]; exact hrc, by rw [E.2.2.2.2.2.2.2.2.2.2.2.1]; exact hrs⟩) h4 fun r M' H1 l1 hp p1 p3 => kk r M' hp H1 l1 ls h1 ⟨h2.1, by omega⟩ p1 p3
theorem J_callSN (E : Ent Z X mt rc rs) {n' ms na : Nat} {m2 : MT} {As rest : List Value} {P : Option Value → Mem → Prop} {i : Nat} (hd : decode mt.2.1 pc = .ok (.invokestatic i, 3)) (hC : Ctr Z m2 As n n' ms M P) (ok : okM m2 na) (rm : okR mt m2) (hn : As.length = na) (hW : (rest.map fun v => v.category).sum ≤ 8) (hrc : k + (n' - n) ≤ rc) (hrs : sl + ms ≤ rs) (hnn : n ≤ n') {host : String} (hw : (mt.1.cls, i, m2.1, host) ∈ NESTS) (hi : Cond.static m2.1 ∈ ALL) (kk : ∀ (r : Option Value) (M' : Mem), P r M' → J Z X n' (k + (n' - n)) (sl + ms) (pc + 3) lv (r.toList ++ rest) M') : J Z X n k sl pc lv (As.reverse ++ rest) M := by
  obtain ⟨p, e, R, s, m, args, below, meth, c, Q, nL⟩ := X
  intro H locs ls h1 h2 h3 h4
  refine W_size h2 h3 h4 fun hsz => ?_
  refine J_after (va_runSN ⟨E.1, E.2.1, E.2.2.1, E.2.2.2.1, E.2.2.2.2.1⟩ hC ⟨va_cnB na E.2.2.2.2.1 (all_GoodInC ok.1) rfl rfl rfl ((E.2.2.2.2.2.2.1).2.2.2.1 _ hw) (E.2.2.2.2.1 _ ok.2.1) ok.2.2 (by rw [E.2.2.2.2.2.2.2.2.1, E.2.2.2.2.2.2.2.2.2.1]; exact rm), E.2.2.2.2.1 _ hi, trivial⟩ ⟨World_blind, (fun U hU hW => ⟨rfl, by rw [hU]; exact hsz, by rw [hU]; exact h3, va_K.moved hW.alike E.2.2.2.2.2.1, by rw [hU]; exact ((E.2.2.2.2.2.2.1).kept (fun a ha hA => h4.2.1 a ha hA)).warm hW⟩)⟩ rfl hn h1.1 rfl (by show 2 * 0 + _ ≤ 8; omega) hd ⟨by rw [E.2.2.2.2.2.2.2.2.2.2.1]; exact hrc, by rw [E.2.2.2.2.2.2.2.2.2.2.2.1]; exact hrs⟩) h4 fun r M' H1 l1 hp p1 p3 => kk r M' hp H1 l1 ls h1 ⟨h2.1, by omega⟩ p1 p3
theorem J_callI (E : Ent Z X mt rc rs) {n' ms na : Nat} {m2 : MT} {As rest : List Value} {P : Option Value → Mem → Prop} {i o : Nat} (hd : decode mt.2.1 pc = .ok (.invokespecial i, 3)) (hC : Ctr Z m2 (.ref (Z.2.2.1 + o) :: As) n n' ms M P) (ok : okM m2 na) (rm : okR mt m2) (hn : As.length = na) (hW : (rest.map fun v => v.category).sum ≤ 8) (hrc : k + (n' - n) ≤ rc) (hrs : sl + ms ≤ rs) (hnn : n ≤ n') (hw : Cond.methodLink mt.1.cls i m2.1 ∈ ALL) (hi : Cond.instanceMethod m2.1 ∈ ALL) (hI : m2.1.name = "<init>") (hv : m2.2.2.2.1 = none) (kk : ∀ (r : Option Value) (M' : Mem), P r M' → J Z X n' (k + (n' - n)) (sl + ms) (pc + 3) lv (r.toList ++ rest) M') : J Z X n k sl pc lv (As.reverse ++ .ref (Z.2.2.1 + o) :: rest) M := by
  obtain ⟨p, e, R, s, m, args, below, meth, c, Q, nL⟩ := X
  intro H locs ls h1 h2 h3 h4
  refine W_size h2 h3 h4 fun hsz => ?_
  refine J_after (va_runI ⟨E.1, E.2.1, E.2.2.1, E.2.2.2.1, E.2.2.2.2.1⟩ hC (cwI na E.2.2.2.2.1 (all_GoodInC ok.1) (by rw [hv]) rfl rfl (E.2.2.2.2.1 _ ok.2.1) (E.2.2.2.2.1 _ hw) (E.2.2.2.2.1 _ hi) hI ok.2.2 (by rw [E.2.2.2.2.2.2.2.2.1, E.2.2.2.2.2.2.2.2.2.1]; exact rm)) ⟨World_blind, (fun U hU hW => ⟨rfl, by rw [hU]; exact hsz, by rw [hU]; exact h3, va_K.moved hW.alike E.2.2.2.2.2.1, by rw [hU]; exact ((E.2.2.2.2.2.2.1).kept (fun a ha hA => h4.2.1 a ha hA)).warm hW⟩)⟩ rfl hn h1.1 rfl (by show 2 * 0 + _ ≤ 8; omega) hd ⟨by rw [E.2.2.2.2.2.2.2.2.2.2.1]; exact hrc, by rw [E.2.2.2.2.2.2.2.2.2.2.2.1]; exact hrs⟩) h4 fun r M' H1 l1 hp p1 p3 => kk r M' hp H1 l1 ls h1 ⟨h2.1, by omega⟩ p1 p3
theorem J_callIN (E : Ent Z X mt rc rs) {n' ms na : Nat} {m2 : MT} {As rest : List Value} {P : Option Value → Mem → Prop} {i o : Nat} (hd : decode mt.2.1 pc = .ok (.invokespecial i, 3)) (hC : Ctr Z m2 (.ref (Z.2.2.1 + o) :: As) n n' ms M P) (ok : okM m2 na) (rm : okR mt m2) (hn : As.length = na) (hW : (rest.map fun v => v.category).sum ≤ 8) (hrc : k + (n' - n) ≤ rc) (hrs : sl + ms ≤ rs) (hnn : n ≤ n') {host : String} (hw : (mt.1.cls, i, m2.1, host) ∈ NESTS) (hi : Cond.instanceMethod m2.1 ∈ ALL) (hI : m2.1.name = "<init>") (hv : m2.2.2.2.1 = none) (kk : ∀ (r : Option Value) (M' : Mem), P r M' → J Z X n' (k + (n' - n)) (sl + ms) (pc + 3) lv (r.toList ++ rest) M') : J Z X n k sl pc lv (As.reverse ++ .ref (Z.2.2.1 + o) :: rest) M := by
  obtain ⟨p, e, R, s, m, args, below, meth, c, Q, nL⟩ := X
  intro H locs ls h1 h2 h3 h4
  refine W_size h2 h3 h4 fun hsz => ?_
  refine J_after (va_runIN ⟨E.1, E.2.1, E.2.2.1, E.2.2.2.1, E.2.2.2.2.1⟩ hC ⟨va_cnB na E.2.2.2.2.1 (all_GoodInC ok.1) (by rw [hv]) rfl rfl ((E.2.2.2.2.2.2.1).2.2.2.1 _ hw) (E.2.2.2.2.1 _ ok.2.1) ok.2.2 (by rw [E.2.2.2.2.2.2.2.2.1, E.2.2.2.2.2.2.2.2.2.1]; exact rm), hI, E.2.2.2.2.1 _ hi⟩ ⟨World_blind, (fun U hU hW => ⟨rfl, by rw [hU]; exact hsz, by rw [hU]; exact h3, va_K.moved hW.alike E.2.2.2.2.2.1, by rw [hU]; exact ((E.2.2.2.2.2.2.1).kept (fun a ha hA => h4.2.1 a ha hA)).warm hW⟩)⟩ rfl hn h1.1 rfl (by show 2 * 0 + _ ≤ 8; omega) hd ⟨by rw [E.2.2.2.2.2.2.2.2.2.2.1]; exact hrc, by rw [E.2.2.2.2.2.2.2.2.2.2.2.1]; exact hrs⟩) h4 fun r M' H1 l1 hp p1 p3 => kk r M' hp H1 l1 ls h1 ⟨h2.1, by omega⟩ p1 p3
end ROWS2
