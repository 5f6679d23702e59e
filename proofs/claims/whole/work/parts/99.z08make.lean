/-! MAKE: what a constructor does, in steps; worlds that grow -/
/-- J by its numbers -/
theorem J.cast {Z : ZT} {X : XT} {n n' k k' sl sl' pc : Nat} {lv : List (Nat × Value)} {st : List Value} {M : Mem} (hn : n = n') (hk : k = k') (hs : sl = sl') (h : J Z X n' k' sl' pc lv st M) : J Z X n k sl pc lv st M := by subst hn; subst hk; subst hs; exact h
/-- below b as M; from b on as the static world -/
def BS (Z : ZT) (μ : Mu) (M : Mem) (b : Nat) : Mem := fun a => if a < b then M a else WM Z μ a
/-- what a constructor of the object o leaves: all below o as it was, from o to n as the static world -/
def PK (Z : ZT) (μ : Mu) (M : Mem) (o n : Nat) : Option Value → Mem → Prop := fun r M' => r = none ∧ (∀ a, a < o → M' a = M a) ∧ ∀ a, o ≤ a → a < n → M' a = WM Z μ a
/-- a final field, of references, of a class that makes itself -/
def FF (own : String) (ci q : Nat) : Prop := ∀ (C : String) (T : u_T) (N : Nat), vwCl[ci]? = some (C, T, N) → own = C ∧ (∃ ty0 : Nat → FieldType, ∀ k, k < N → parseFieldDescriptor (T k).2.2.1 = some (ty0 k)) ∧ (∀ a, a < N → ∀ b, b < N → a ≠ b → (T a).2.1 ≠ (T b).2.1) ∧ ∃ ty : FieldType, parseFieldDescriptor (T q).2.2.1 = some ty ∧ ∀ a : Nat, narrow ty (.ref a) = .ref a ∧ fits ty (.ref a) = true
/-- a number in a row -/
def stu (μ : Mu) (a i : Nat) (x : Int32) : Mu := uR μ a (upd (μ a) i x)
theorem stu_n {μ : Mu} {a i b : Nat} {x : Int32} (h : b ≠ a) : stu μ a i x b = μ b := uR_n h
section MAKE
variable {Z : ZT} {X : XT} {mt : MT} {rc rs n k sl pc : Nat} {lv : List (Nat × Value)} {st : List Value} {μ : Mu} {M Mo : Mem}
theorem va_up_s {α : Type} {f : Nat → α} {o : Nat} {e : α} : va_up f o e o = e := by simp [va_up]
theorem va_up_n {α : Type} {f : Nat → α} {o a : Nat} {e : α} (h : a ≠ o) : va_up f o e a = f a := by simp [va_up, h]
theorem BS_lt {b a : Nat} (h : a < b) : BS Z μ M b a = M a := if_pos h
theorem BS_ge {b a : Nat} (h : b ≤ a) : BS Z μ M b a = WM Z μ a := if_neg (by omega)
theorem CtrK {as : List Value} {d ms : Nat} {Post : Option Value → Mem → Prop} (hpl : plainName mt.1.cls = true) (hlen : (lg_sl as).length ≤ mt.2.2.1) {lv0 : List (Nat × Value)} (hlv : lv_args 0 as = lv0)
    (body : ∀ X : XT, Ent Z X mt d ms → Bod Z X (n + d) d ms Post → J Z X n 0 0 0 lv0 [] M) : Ctr Z mt as n (n + d) ms M Post :=
  Ctr.intro hpl hlen fun X E hB => by
    rw [Nat.add_sub_cancel_left] at E hB
    rw [hlv]
    exact body X E hB
theorem J_putK (E : Ent Z X mt rc rs) {i o ci q a : Nat} {fs : List Value} (hd : decode mt.2.1 pc = .ok (.putfield i, 3)) (f : FS mt.1.cls i ci q) (g : FF mt.1.cls ci q) (hI : mt.1.name = "<init>") (ho : o < n) (hl : q < fs.length) (kk : J Z X n k sl (pc + 3) lv st (va_up Mo o (.inr (ci, fs.set q (.ref a))))) : J Z X n k sl pc lv (.ref a :: .ref (Z.2.2.1 + o) :: st) (va_up Mo o (.inr (ci, fs))) := by
  obtain ⟨C, T, N, h1, h2, h3, h4, h5⟩ := f
  obtain ⟨g1, ⟨ty0, g2⟩, g3, ty, g5, g6⟩ := g C T N h1
  have e : va_up (va_up Mo o (.inr (ci, fs))) o (.inr (ci, fs.set q (.ref a))) = va_up Mo o (.inr (ci, fs.set q (.ref a))) := funext fun x => by
    by_cases h : x = o
    · subst h; rw [va_up_s, va_up_s]
    · rw [va_up_n h, va_up_n h, va_up_n h]
  rw [← e] at kk
  cases g4 : (T q).2.2.2 with
  | true => exact J_putF E hd ho va_up_s h1 h2 ty0 g2 g3 q h3 h4 h5 g1 hI g4 g5 (g6 a).1 (g6 a).2 hl kk
  | false => exact J_put E hd ho va_up_s h1 h2 ty0 g2 g3 q h3 h4 h5 g4 g5 (g6 a).1 (g6 a).2 hl kk
theorem J_getK (E : Ent Z X mt rc rs) {i o ci q a : Nat} {fs : List Value} (hd : decode mt.2.1 pc = .ok (.getfield i, 3)) (f : FS mt.1.cls i ci q) (ho : o < n) (hq : fs[q]? = some (.ref (Z.2.2.1 + a))) (kk : J Z X n k sl (pc + 3) lv (.ref (Z.2.2.1 + a) :: st) (va_up Mo o (.inr (ci, fs)))) : J Z X n k sl pc lv (.ref (Z.2.2.1 + o) :: st) (va_up Mo o (.inr (ci, fs))) := by
  obtain ⟨C, T, NN, h1, h2, h3, h4, h5⟩ := f
  exact J_get E hd ho va_up_s h1 h2 q h3 h4 h5 hq kk
/-- a new array of numbers, put into a field -/
theorem G_int (E : Ent Z X mt rc rs) {i o ci q N : Nat} {fs : List Value} (hd1 : decode mt.2.1 pc = .ok (.newarray .int, 2)) (hd : decode mt.2.1 (pc + 2) = .ok (.putfield i, 3)) (hw : Cond.arrayClass .int ∈ ALL) (hb : N ≤ 100000) (f : FS mt.1.cls i ci q) (g : FF mt.1.cls ci q) (hI : mt.1.name = "<init>") (ho : o < n) (hl : q < fs.length) (hn : Mo n = .inl (Z.2.2.2.1 0, N, .inl fun _ => 0)) (hrc : k + 1 ≤ rc) (hrs : sl + N ≤ rs)
    (kk : J Z X (n + 1) (k + 1) (sl + N) (pc + 2 + 3) lv st (va_up Mo o (.inr (ci, fs.set q (.ref (Z.2.2.1 + n)))))) : J Z X n k sl pc lv (.int (nI N) :: .ref (Z.2.2.1 + o) :: st) (va_up Mo o (.inr (ci, fs))) := by
  refine J_newa_int E hd1 hw (by rw [nI_lt0 (by omega)]; exact not_false) (ix_n (by omega)) hb hrc hrs ?_
  refine J.mem (M' := va_up Mo o (.inr (ci, fs))) (fun a ha => ?_) (J_putK E hd f g hI (by omega) hl kk)
  by_cases h : a = n
  · subst h; rw [va_up_s, va_up_n (by omega), hn]
  · rw [va_up_n h]
theorem G_bool (E : Ent Z X mt rc rs) {i o ci q N : Nat} {fs : List Value} (hd1 : decode mt.2.1 pc = .ok (.newarray .boolean, 2)) (hd : decode mt.2.1 (pc + 2) = .ok (.putfield i, 3)) (hw : Cond.arrayClass .boolean ∈ ALL) (hb : N ≤ 100000) (f : FS mt.1.cls i ci q) (g : FF mt.1.cls ci q) (hI : mt.1.name = "<init>") (ho : o < n) (hl : q < fs.length) (hn : Mo n = .inl (Z.2.2.2.1 1, N, .inl fun _ => 0)) (hrc : k + 1 ≤ rc) (hrs : sl + N ≤ rs)
    (kk : J Z X (n + 1) (k + 1) (sl + N) (pc + 2 + 3) lv st (va_up Mo o (.inr (ci, fs.set q (.ref (Z.2.2.1 + n)))))) : J Z X n k sl pc lv (.int (nI N) :: .ref (Z.2.2.1 + o) :: st) (va_up Mo o (.inr (ci, fs))) := by
  refine J_newa_boolean E hd1 hw (by rw [nI_lt0 (by omega)]; exact not_false) (ix_n (by omega)) hb hrc hrs ?_
  refine J.mem (M' := va_up Mo o (.inr (ci, fs))) (fun a ha => ?_) (J_putK E hd f g hI (by omega) hl kk)
  by_cases h : a = n
  · subst h; rw [va_up_s, va_up_n (by omega), hn]
  · rw [va_up_n h]
theorem G_byte (E : Ent Z X mt rc rs) {i o ci q N : Nat} {fs : List Value} (hd1 : decode mt.2.1 pc = .ok (.newarray .byte, 2)) (hd : decode mt.2.1 (pc + 2) = .ok (.putfield i, 3)) (hw : Cond.arrayClass .byte ∈ ALL) (hb : N ≤ 100000) (f : FS mt.1.cls i ci q) (g : FF mt.1.cls ci q) (hI : mt.1.name = "<init>") (ho : o < n) (hl : q < fs.length) (hn : Mo n = .inl (Z.2.2.2.1 2, N, .inl fun _ => 0)) (hrc : k + 1 ≤ rc) (hrs : sl + N ≤ rs)
    (kk : J Z X (n + 1) (k + 1) (sl + N) (pc + 2 + 3) lv st (va_up Mo o (.inr (ci, fs.set q (.ref (Z.2.2.1 + n)))))) : J Z X n k sl pc lv (.int (nI N) :: .ref (Z.2.2.1 + o) :: st) (va_up Mo o (.inr (ci, fs))) := by
  refine J_newa_byte E hd1 hw (by rw [nI_lt0 (by omega)]; exact not_false) (ix_n (by omega)) hb hrc hrs ?_
  refine J.mem (M' := va_up Mo o (.inr (ci, fs))) (fun a ha => ?_) (J_putK E hd f g hI (by omega) hl kk)
  by_cases h : a = n
  · subst h; rw [va_up_s, va_up_n (by omega), hn]
  · rw [va_up_n h]
/-- the world with which a constructor begins -/
theorem K_in {o ci : Nat} {fs : List Value} (hM : M o = .inr (ci, fs)) (h : J Z X (o + 1) k sl pc lv st (va_up (BS Z μ M o) o (.inr (ci, fs)))) : J Z X (o + 1) k sl pc lv st M :=
  J.mem (fun a ha => by
    by_cases e : a = o
    · subst e; rw [va_up_s, hM]
    · rw [va_up_n e, BS_lt (by omega)]) h
/-- and with which it ends -/
theorem K_out {o n ci : Nat} {fs : List Value} (hs : SH o = .inl ci) (hf : fieldsOf Z ci o (μ o) = fs) : PK Z μ M o n none (va_up (BS Z μ M o) o (.inr (ci, fs))) :=
  ⟨rfl, fun a ha => by rw [va_up_n (by omega), BS_lt ha], fun a h1 h2 => by
    by_cases e : a = o
    · subst e; rw [va_up_s, WM_obj hs, hf]
    · rw [va_up_n e, BS_ge h1]⟩
theorem BS_int {b a N : Nat} (h : b ≤ a) (hs : SH a = .inr (0, N)) (hz : μ a = fun _ => 0) : BS Z μ M b a = .inl (Z.2.2.2.1 0, N, .inl fun _ => 0) := by rw [BS_ge h, WM_int hs, hz]
theorem BS_bool {b a N : Nat} (h : b ≤ a) (hs : SH a = .inr (1, N)) (hz : μ a = fun _ => 0) : BS Z μ M b a = .inl (Z.2.2.2.1 1, N, .inl fun _ => 0) := by rw [BS_ge h, WM_bool hs, hz]
theorem BS_byte {b a N : Nat} (h : b ≤ a) (hs : SH a = .inr (2, N)) (hz : μ a = fun _ => 0) : BS Z μ M b a = .inl (Z.2.2.2.1 2, N, .inl fun _ => 0) := by rw [BS_ge h, WM_byte hs, hz]
/-- a world may be told otherwise: arrays of references count only within -/
theorem J.memq {M' : Mem} (hM : ∀ o, o < n → M o = M' o ∨ ∃ (c : ClassId) (N : Nat) (f f' : Nat → Option Nat), M o = .inl (c, N, .inr (.inr (.inr (.inr f)))) ∧ M' o = .inl (c, N, .inr (.inr (.inr (.inr f')))) ∧ ∀ j, j < N → f j = f' j) (h : J Z X n k sl pc lv st M') : J Z X n k sl pc lv st M := by
  obtain ⟨p, e, R, s, m, args, below, meth, c, Q, nL⟩ := X
  intro H locs ls h1 h2 h3 h4
  refine h H locs ls h1 h2 (fun q x hx => ?_) h4
  obtain ⟨hq, rfl⟩ := wsO_of hx
  have h5 := h3 q _ (wsO_get hq)
  rcases hM q hq with g | ⟨cA, N, f, f', g1, g2, g3⟩
  · rw [← g]; exact h5
  · rw [g1] at h5
    rw [g2]
    have h6 : H[Z.2.2.1 + q]? = some (vp_cell cA (N, .inr (.inr (.inr (.inr f))))) := h5
    show H[Z.2.2.1 + q]? = some (vp_cell cA (N, .inr (.inr (.inr (.inr f')))))
    rw [h6, vp_cell_q, vp_cell_q]
    unfold arrV
    congr 2
    congr 1
    funext j
    show va_rf (f j.val) = va_rf (f' j.val)
    rw [g3 j.val j.isLt]
theorem K_newi (E : Ent Z X mt rc rs) {o N : Nat} {e : va_E} (hd1 : decode mt.2.1 pc = .ok (.newarray .int, 2)) (hw : Cond.arrayClass .int ∈ ALL) (hb : N ≤ 100000) (ho : o < n) (hn : Mo n = .inl (Z.2.2.2.1 0, N, .inl fun _ => 0)) (hrc : k + 1 ≤ rc) (hrs : sl + N ≤ rs)
    (kk : J Z X (n + 1) (k + 1) (sl + N) (pc + 2) lv (.ref (Z.2.2.1 + n) :: st) (va_up Mo o e)) : J Z X n k sl pc lv (.int (nI N) :: st) (va_up Mo o e) := by
  refine J_newa_int E hd1 hw (by rw [nI_lt0 (by omega)]; exact not_false) (ix_n (by omega)) hb hrc hrs ?_
  refine J.mem (M' := va_up Mo o e) (fun a ha => ?_) kk
  by_cases h : a = n
  · subst h; rw [va_up_s, va_up_n (by omega), hn]
  · rw [va_up_n h]
/-- a number into a row that is made -/
theorem G_ist (E : Ent Z X mt rc rs) {o b a N i : Nat} {x : Int32} {e : va_E} (hd : decode mt.2.1 pc = .ok (.iastore, 1)) (hs : SH a = .inr (0, N)) (hba : b ≤ a) (hao : a ≠ o) (han : a < n) (hi : i < N) (hN : N ≤ 100000) {μ' : Mu} (hm : uR μ a (upd (μ a) i x) = μ')
    (kk : J Z X n k sl (pc + 1) lv st (va_up (BS Z μ' M b) o e)) : J Z X n k sl pc lv (.int x :: .int (nI i) :: .ref (Z.2.2.1 + a) :: st) (va_up (BS Z μ M b) o e) := by
  subst hm
  refine J_iast E hd han (by rw [va_up_n hao, BS_ge hba, WM_int hs]) (vin hi (by omega)) (J.mem (fun y hy => ?_) kk)
  rw [ix_n (by omega)]
  by_cases h1 : y = a
  · subst h1
    rw [va_up_s, va_up_n hao, BS_ge hba, WM_int hs, uR_s]
  · rw [va_up_n h1]
    by_cases h2 : y = o
    · subst h2; rw [va_up_s, va_up_s]
    · rw [va_up_n h2, va_up_n h2]
      unfold BS
      split
      · rfl
      · show WMr Z y (μ y) = WMr Z y (uR μ a _ y)
        rw [uR_n h1]
/-- a new row of references, put into a field: it stays open -/
theorem G_refs (E : Ent Z X mt rc rs) {i ix0 o ci q N : Nat} {fs : List Value} (hd1 : decode mt.2.1 pc = .ok (.anewarray ix0, 3)) (hd : decode mt.2.1 (pc + 3) = .ok (.putfield i, 3)) (hlk : Cond.classLink mt.1.cls ix0 RX0 ∈ ALL) (hb : N ≤ 100000) (f : FS mt.1.cls i ci q) (g : FF mt.1.cls ci q) (hI : mt.1.name = "<init>") (ho : o < n) (hl : q < fs.length) (hrc : k + 1 ≤ rc) (hrs : sl + N ≤ rs)
    (kk : J Z X (n + 1) (k + 1) (sl + N) (pc + 3 + 3) lv st (va_up (va_up Mo n (.inl (Z.2.2.2.1 3, N, .inr (.inr (.inr (.inr (fun _ => none))))))) o (.inr (ci, fs.set q (.ref (Z.2.2.1 + n)))))) : J Z X n k sl pc lv (.int (nI N) :: .ref (Z.2.2.1 + o) :: st) (va_up Mo o (.inr (ci, fs))) := by
  refine J_newq3 E hd1 hlk (by rw [nI_lt0 (by omega)]; exact not_false) (ix_n (by omega)) hb hrc hrs ?_
  refine J.mem (M' := va_up (va_up Mo n (.inl (Z.2.2.2.1 3, N, .inr (.inr (.inr (.inr (fun _ => none))))))) o (.inr (ci, fs))) (fun a ha => ?_) (J_putK E hd f g hI (by omega) hl kk)
  by_cases h : a = n
  · subst h; rw [va_up_s, va_up_n (by omega), va_up_s]
  · rw [va_up_n h]
    by_cases h2 : a = o
    · subst h2; rw [va_up_s, va_up_s]
    · rw [va_up_n h2, va_up_n h2, va_up_n h]
/-- a new object, its constructor done, put into a field -/
theorem G_call (E : Ent Z X mt rc rs) {μ' : Mu} {i j o ci q ci2 d ms na : Nat} {fs fs2 As : List Value} {m2 : MT} (hd1 : decode mt.2.1 pc = .ok (.invokespecial j, 3)) (hd : decode mt.2.1 (pc + 3) = .ok (.putfield i, 3))
    (hC : Ctr Z m2 (.ref (Z.2.2.1 + n) :: As) (n + 1) (n + 1 + d) ms (va_up (va_up Mo o (.inr (ci, fs))) n (.inr (ci2, fs2))) (PK Z μ' (va_up (va_up Mo o (.inr (ci, fs))) n (.inr (ci2, fs2))) n (n + 1 + d)))
    (ok : okM m2 na) (rm : okR mt m2) (hna : As.length = na) (hst : (st.map fun v => v.category).sum ≤ 6) (hw : Cond.methodLink mt.1.cls j m2.1 ∈ ALL) (hi : Cond.instanceMethod m2.1 ∈ ALL) (hI2 : m2.1.name = "<init>") (hv : m2.2.2.2.1 = none)
    (f : FS mt.1.cls i ci q) (g : FF mt.1.cls ci q) (hI : mt.1.name = "<init>") (ho : o < n) (hl : q < fs.length) (hMo : ∀ a, n ≤ a → a < n + 1 + d → Mo a = WM Z μ' a) (hrc : k + d ≤ rc) (hrs : sl + ms ≤ rs)
    (kk : J Z X (n + 1 + d) (k + d) (sl + ms) (pc + 3 + 3) lv st (va_up Mo o (.inr (ci, fs.set q (.ref (Z.2.2.1 + n)))))) :
    J Z X (n + 1) k sl pc lv (As.reverse ++ .ref (Z.2.2.1 + n) :: .ref (Z.2.2.1 + n) :: .ref (Z.2.2.1 + o) :: st) (va_up (va_up Mo o (.inr (ci, fs))) n (.inr (ci2, fs2))) := by
  refine J_callI (rest := .ref (Z.2.2.1 + n) :: .ref (Z.2.2.1 + o) :: st) E hd1 hC ok rm hna (by simp only [List.map_cons, List.sum_cons, show ∀ x, (Value.ref x).category = 1 from fun _ => rfl]; omega) (by rw [Nat.add_sub_cancel_left]; exact hrc) hrs (by omega) hw hi hI2 hv fun r M' hp => ?_
  obtain ⟨rfl, h1, h2⟩ := hp
  rw [Nat.add_sub_cancel_left]
  refine J.mem (M' := va_up Mo o (.inr (ci, fs))) (fun a ha => ?_) (J_putK E hd f g hI (by omega) hl kk)
  rcases Nat.lt_or_ge a n with h | h
  · rw [h1 a h, va_up_n (by omega)]
  · rw [h2 a h ha, va_up_n (by omega), hMo a h ha]
theorem G_callN (E : Ent Z X mt rc rs) {μ' : Mu} {i j o ci q ci2 d ms na : Nat} {fs fs2 As : List Value} {m2 : MT} (hd1 : decode mt.2.1 pc = .ok (.invokespecial j, 3)) (hd : decode mt.2.1 (pc + 3) = .ok (.putfield i, 3))
    (hC : Ctr Z m2 (.ref (Z.2.2.1 + n) :: As) (n + 1) (n + 1 + d) ms (va_up (va_up Mo o (.inr (ci, fs))) n (.inr (ci2, fs2))) (PK Z μ' (va_up (va_up Mo o (.inr (ci, fs))) n (.inr (ci2, fs2))) n (n + 1 + d)))
    (ok : okM m2 na) (rm : okR mt m2) (hna : As.length = na) (hst : (st.map fun v => v.category).sum ≤ 6) {host : String} (hw : (mt.1.cls, j, m2.1, host) ∈ NESTS) (hi : Cond.instanceMethod m2.1 ∈ ALL) (hI2 : m2.1.name = "<init>") (hv : m2.2.2.2.1 = none)
    (f : FS mt.1.cls i ci q) (g : FF mt.1.cls ci q) (hI : mt.1.name = "<init>") (ho : o < n) (hl : q < fs.length) (hMo : ∀ a, n ≤ a → a < n + 1 + d → Mo a = WM Z μ' a) (hrc : k + d ≤ rc) (hrs : sl + ms ≤ rs)
    (kk : J Z X (n + 1 + d) (k + d) (sl + ms) (pc + 3 + 3) lv st (va_up Mo o (.inr (ci, fs.set q (.ref (Z.2.2.1 + n)))))) :
    J Z X (n + 1) k sl pc lv (As.reverse ++ .ref (Z.2.2.1 + n) :: .ref (Z.2.2.1 + n) :: .ref (Z.2.2.1 + o) :: st) (va_up (va_up Mo o (.inr (ci, fs))) n (.inr (ci2, fs2))) := by
  refine J_callIN (rest := .ref (Z.2.2.1 + n) :: .ref (Z.2.2.1 + o) :: st) E hd1 hC ok rm hna (by simp only [List.map_cons, List.sum_cons, show ∀ x, (Value.ref x).category = 1 from fun _ => rfl]; omega) (by rw [Nat.add_sub_cancel_left]; exact hrc) hrs (by omega) hw hi hI2 hv fun r M' hp => ?_
  obtain ⟨rfl, h1, h2⟩ := hp
  rw [Nat.add_sub_cancel_left]
  refine J.mem (M' := va_up Mo o (.inr (ci, fs))) (fun a ha => ?_) (J_putK E hd f g hI (by omega) hl kk)
  rcases Nat.lt_or_ge a n with h | h
  · rw [h1 a h, va_up_n (by omega)]
  · rw [h2 a h ha, va_up_n (by omega), hMo a h ha]
end MAKE
