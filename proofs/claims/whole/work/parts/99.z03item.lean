/-! ITEMS: the class reads THE TEXT, and does to a HOUSE what it tells -/
/-- what lies in the class' rows of ITEMS -/
def IT (μ : Mu) (A : List (Nat × List Nat)) : Prop := ∀ i kl, A[i]? = some kl → μ 33 i = nI kl.1 ∧ ∀ t, t < nOf kl.1 → μ 34 (i * 5 + t) = nI (kl.2.getD t 0)
/-- the numbers of the c-th ITEM are being read -/
def Num (c : Nat) (μ μ' : Mu) : Prop := (∀ a, a ≠ 31 → a ≠ 34 → μ' a = μ a) ∧ (∀ i, i ≠ 5 → μ' 31 i = μ 31 i) ∧ ∀ j, j < c * 5 → μ' 34 j = μ 34 j
def RdC (μ μ' : Mu) : Prop := (∀ a, a ≠ 31 → a ≠ 33 → a ≠ 34 → μ' a = μ a) ∧ μ' 31 1 = μ 31 1
section ITEM
variable {Z : ZT} {μ : Mu} {g : Nat → Nat} {e : Nat}
theorem AtC.num {c x : Nat} {μ' : Mu} (h : AtC μ μ' x) : Num c μ μ' := ⟨fun a h1 _ => h.1 a h1, h.2.1, fun j _ => by rw [h.1 34 (by decide)]⟩
theorem Num.trans {c : Nat} {μ1 μ2 : Mu} (h : Num c μ μ1) (k : Num c μ1 μ2) : Num c μ μ2 :=
  ⟨fun a h1 h2 => by rw [k.1 a h1 h2, h.1 a h1 h2], fun i hi => by rw [k.2.1 i hi, h.2.1 i hi], fun j hj => by rw [k.2.2 j hj, h.2.2 j hj]⟩
theorem TXC.num {c : Nat} {μ1 : Mu} (h : TXC μ g e) (k : Num c μ μ1) : TXC μ1 g e :=
  ⟨by rw [k.2.1 1 (by decide)]; exact h.1, h.2.1, by rw [k.1 32 (by decide) (by decide)]; exact h.2.2.1, h.2.2.2⟩
theorem TXC.rd {μ1 : Mu} (h : TXC μ g e) (k : RdC μ μ1) : TXC μ1 g e :=
  ⟨by rw [k.2]; exact h.1, h.2.1, by rw [k.1 32 (by decide) (by decide) (by decide)]; exact h.2.2.1, h.2.2.2⟩
theorem RdC.trans {μ1 μ2 : Mu} (h : RdC μ μ1) (k : RdC μ1 μ2) : RdC μ μ2 := ⟨fun a h1 h2 h3 => by rw [k.1 a h1 h2 h3, h.1 a h1 h2 h3], by rw [k.2, h.2]⟩
theorem Num.rd {c : Nat} {μ1 : Mu} (h : Num c μ μ1) : RdC μ μ1 := ⟨fun a h1 _ h3 => h.1 a h1 h3, h.2.1 1 (by decide)⟩
theorem nOf_I : ∀ k, k < 10 → ([0, 3, 2, 5, 2, 2, 2, 1, 2, 2] : List Int32).getD k 0 = nI (nOf k) := by decide +kernel
theorem nmL {X : XT} {P : Option Value → Mu → Prop} {k c : Nat} (E : Ent Z X mX9_readItem 0 0) (hB : BodS Z X P) (hk : k < 10) (hc : c < 50) : ∀ (n i : Nat) (μ : Mu) (p : Nat) (l0 : List Nat), l0.length = i → i + n = nOf k → TXC μ g e → μ 31 2 = nI c → μ 31 5 = nI p → p ≤ e →
    (∀ t, t < i → μ 34 (c * 5 + t) = nI (l0.getD t 0)) →
    (∀ μ' x, nm g e n p = .inl x → Num c μ μ' → μ' 31 5 = nI x → P (some (.int (nI 0))) μ') →
    (∀ μ' r l, nm g e n p = .inr (r, l) → Num c μ μ' → μ' 31 5 = nI r → (∀ t, t < nOf k → μ' 34 (c * 5 + t) = nI ((l0 ++ l).getD t 0)) → JS Z X 109 [(0, .ref (Z.2.2.1 + 31)), (2, .int (nI k))] [] μ') →
    JS Z X 38 [(0, .ref (Z.2.2.1 + 31)), (2, .int (nI k)), (3, .int (nI i))] [] μ := by
  have hn5 := (len_n k hk).2.1
  intro n
  induction n with
  | zero =>
    intro i μ p l0 hl hin T hc2 ha hp hs kf kg
    refine bX9_readItem_38 E (vin hk (by decide)) (fun _ => ?_) (fun c1 => ?_)
    · exact kg μ p [] rfl ⟨fun _ _ _ => rfl, fun _ _ => rfl, fun _ _ => rfl⟩ ha (fun t ht => by rw [List.append_nil]; exact hs t (by omega))
    · rw [ix_nI (by omega), nOf_I k hk, nI_leE (by omega) (by omega)] at c1
      omega
  | succ n ih =>
    intro i μ p l0 hl hin T hc2 ha hp hs kf kg
    have he := T.2.1
    refine bX9_readItem_38 E (vin hk (by decide)) (fun c1 => ?_) (fun _ => ?_)
    · rw [ix_nI (by omega), nOf_I k hk, nI_leE (by omega) (by omega)] at c1
      omega
    refine bX9_readItem_47 E (c_skipBlanks T ha hp) fun μ1 h1 => ?_
    have T1 := T.at h1
    have b1 := sk_le (g := g) (e := e) (p := p)
    have b2 := sk_e (g := g) hp
    have b3 := rn_le (g := g) (e := e) (lo := 48) (hi := 57) (p := sk g e p)
    have b4 := rn_e (g := g) (lo := 48) (hi := 57) b2
    have hx : ∀ y, nm g e (n + 1) p = y → (if rn g e 48 57 (sk g e p) = sk g e p ∨ sk g e p + 3 < rn g e 48 57 (sk g e p) then (.inl (sk g e p) : Nat ⊕ Nat × List Nat)
      else match nm g e n (rn g e 48 57 (sk g e p)) with
        | .inl x => .inl x
        | .inr (r, l) => .inr (r, vl g (rn g e 48 57 (sk g e p)) (sk g e p) 0 :: l)) = y := fun y h => by rw [← h]; rfl
    have bad : (rn g e 48 57 (sk g e p) = sk g e p ∨ sk g e p + 3 < rn g e 48 57 (sk g e p)) → P (some (.int (nI 0))) μ1 := fun w =>
      kf μ1 (sk g e p) (by show (if _ then _ else _) = _; rw [if_pos w]) h1.num h1.2.2
    refine bX9_readItem_51 E (c_endOfRun (lo := 48) (hi := 57) T1 h1.2.2 b2 (by decide) (by decide)) fun v μ2 h2 => ?_
    obtain ⟨rfl, rfl⟩ := h2
    refine bX9_readItem_59 E (fun w => ?_) (fun w => ?_)
    · rw [h1.2.2, nI_eqE (by omega) (by omega)] at w
      exact bX9_readItem_78 E hB (bad (Or.inl w))
    rw [h1.2.2, nI_eqE (by omega) (by omega)] at w
    refine bX9_readItem_68 E (fun w2 => ?_) (fun w2 => ?_)
    · rw [h1.2.2, nI_add, nI_leE (by omega) (by omega)] at w2
      have hne : ¬ (rn g e 48 57 (sk g e p) = sk g e p ∨ sk g e p + 3 < rn g e 48 57 (sk g e p)) := by omega
      refine bX9_readItem_80 E (c_valueTo T1 h1.2.2 b3 b4 fun q q1 q2 => (rn_in q1 q2).1) fun v μ3 h3 => ?_
      obtain ⟨rfl, rfl⟩ := h3
      rw [h1.2.1 2 (by decide), hc2, nI_mul, nI_add]
      refine bX9_readItem_97 E sh34 (vin (by omega) (by decide)) ?_
      rw [ix_nI (by omega)]
      refine bX9_readItem_98 E (bX9_readItem_103 E ?_)
      rw [nI_add]
      generalize hv : vl g (rn g e 48 57 (sk g e p)) (sk g e p) 0 = v at *
      generalize hq : rn g e 48 57 (sk g e p) = q at *
      have h4 : Num c μ (uR μ3 34 (upd (μ3 34) (c * 5 + i) (nI v))) := h1.num.trans ⟨fun a _ h => uR_n h, fun j _ => by rw [uR_n (by decide)], fun j hj => by rw [uR_s]; exact if_neg (by omega)⟩
      have h5 := AtC.up (μ := uR μ3 34 (upd (μ3 34) (c * 5 + i) (nI v))) (v := nI q) (x := q) rfl
      have h6 := h4.trans (h5.num (c := c))
      refine ih (i + 1) _ q (l0 ++ [v]) (by simp [hl]) (by omega) (T.num h6) (by rw [h6.2.1 2 (by decide)]; exact hc2) h5.2.2 b4 (fun t ht => ?_) (fun μ' x hx1 h7 h8 => ?_) (fun μ' r l hx1 h7 h8 h9 => ?_)
      · rw [h5.1 34 (by decide), uR_s]
        by_cases et : t = i
        · subst et
          rw [show upd (μ3 34) (c * 5 + t) (nI v) (c * 5 + t) = nI v from if_pos rfl, List.getD_eq_getElem?_getD, List.getElem?_append_right (by omega), hl, Nat.sub_self]
          rfl
        · rw [show upd (μ3 34) (c * 5 + i) (nI v) (c * 5 + t) = μ3 34 (c * 5 + t) from if_neg (by omega), h1.1 34 (by decide), hs t (by omega), List.getD_eq_getElem?_getD, List.getD_eq_getElem?_getD, List.getElem?_append_left (by omega)]
      · refine kf μ' x ?_ (h6.trans h7) h8
        show (if _ then _ else _) = _
        rw [hq, if_neg hne, hx1]
      · refine kg μ' r (v :: l) ?_ (h6.trans h7) h8 fun t ht => ?_
        · show (if _ then _ else _) = _
          rw [hq, if_neg hne, hx1]
          simp only [hv]
        · rw [h9 t ht, List.append_assoc]
          rfl
    · rw [h1.2.2, nI_add, nI_leE (by omega) (by omega)] at w2
      exact bX9_readItem_78 E hB (bad (Or.inr (by omega)))
theorem c_readItem {p : Nat} {A : List (Nat × List Nat)} (T : TXC μ g e) (ha : μ 31 5 = nI p) (hp : p < e) (hc : μ 31 2 = nI A.length) (h50 : A.length < 50) (I : IT μ A) : CtrS Z mX9_readItem [.ref (Z.2.2.1 + 31)] μ (rI fun r μ' => RdC μ μ' ∧
    match itm g e p with
    | .inl x => r = nI 0 ∧ μ' 31 5 = nI x
    | .inr (q, k, l) => r = nI 1 ∧ μ' 31 5 = nI q ∧ μ' 31 2 = nI (A.length + 1) ∧ IT μ' (A ++ [(k, l)])) := by
  have he := T.2.1
  have b3 := rn_le (g := g) (e := e) (lo := 97) (hi := 122) (p := p)
  have b4 := rn_e (g := g) (lo := 97) (hi := 122) (Nat.le_of_lt hp)
  refine CtrS.intro (by decide +kernel) (Nat.le_of_ble_eq_true rfl) rfl fun X E hB => ?_
  refine bX9_readItem_0 E (c_endOfRun (lo := 97) (hi := 122) T ha (Nat.le_of_lt hp) (by decide) (by decide)) fun v μ1 h1 => ?_
  obtain ⟨rfl, rfl⟩ := h1
  refine bX9_readItem_8 E (c_kind T ha b3 b4) fun v μ1 h1 => ?_
  obtain ⟨rfl, rfl⟩ := h1
  by_cases hk : kd g p (rn g e 97 122 p) < 10
  · rw [if_pos hk]
    refine bX9_readItem_14 E (fun c => ?_) (fun _ => ?_)
    · exact absurd c (by
        have d : ∀ k, k < 10 → ¬ nI k = -1 := by decide +kernel
        exact d _ hk)
    refine bX9_readItem_20 E (fun _ => ?_) (fun c => absurd (by rw [hc, nI_ltE (by omega) (by decide)]; exact h50) c)
    refine bX9_readItem_31 E (bX9_readItem_36 E ?_)
    have h1 := AtC.up (μ := μ1) (v := nI (rn g e 97 122 p)) rfl
    have hi : ∀ y, (match nm g e (nOf (kd g p (rn g e 97 122 p))) (rn g e 97 122 p) with
      | .inl x => (.inl x : Nat ⊕ Nat × Nat × List Nat)
      | .inr (r, l) => if sk g e r < e ∧ g (sk g e r) = 59 then .inr (sk g e r + 1, kd g p (rn g e 97 122 p), l) else .inl (sk g e r)) = y → itm g e p = y := fun y h => by
        unfold itm
        rw [if_pos hk]
        exact h
    refine nmL E hB hk h50 _ 0 _ (rn g e 97 122 p) [] rfl (Nat.zero_add _) (T.at h1) (by rw [h1.2.1 2 (by decide)]; exact hc) h1.2.2 b4 (fun t ht => absurd ht (Nat.not_lt_zero t)) (fun μ' x hx h2 h3 => ?_) (fun μ' r l hx h2 h3 h4 => ?_)
    · refine ⟨_, rfl, (h1.num.trans h2).rd, ?_⟩
      rw [hi (.inl x) (by rw [hx])]
      exact ⟨rfl, h3⟩
    · have h5 := h1.num.trans h2
      have b5 := nm_b _ b4 hx
      refine bX9_readItem_109 E (c_skipBlanks ((T.at h1).num h2) h3 b5.2.1) fun μ2 h6 => ?_
      have T2 := ((T.at h1).num h2).at h6
      have h7 := h5.trans (h6.num (c := A.length))
      have b6 := sk_e (g := g) b5.2.1
      have bad : ¬ (sk g e r < e ∧ g (sk g e r) = 59) → rI (fun v μ' => RdC μ1 μ' ∧
          match itm g e p with
          | .inl x => v = nI 0 ∧ μ' 31 5 = nI x
          | .inr (q, k, l) => v = nI 1 ∧ μ' 31 5 = nI q ∧ μ' 31 2 = nI (A.length + 1) ∧ IT μ' (A ++ [(k, l)])) (some (.int (nI 0))) μ2 := fun w => by
        refine ⟨_, rfl, h7.rd, ?_⟩
        rw [hi (.inl (sk g e r)) (by rw [hx]; exact if_neg w)]
        exact ⟨rfl, h6.2.2⟩
      refine bX9_readItem_113 E (fun c => ?_) (fun c => ?_)
      · rw [T2.1, h6.2.2, nI_leE (by omega) (by omega)] at c
        exact bX9_readItem_138 E hB (bad (by omega))
      rw [T2.1, h6.2.2, nI_leE (by omega) (by omega)] at c
      refine bX9_readItem_124 E (by rw [h6.2.2]; exact vin (by omega) (by decide)) (fun c2 => ?_) (fun c2 => ?_)
      · rw [h6.2.2, ix_nI (by omega), T2.2.2.1 _ (by omega), nI_eqE (by have := T2.2.2.2 (sk g e r) (by omega); omega) (by decide)] at c2
        refine bX9_readItem_140 E ?_
        have h8 := AtC.up (μ := μ2) (v := μ2 31 5 + nI 1) (x := sk g e r + 1) (by rw [h6.2.2, nI_add])
        generalize hm : uR μ2 31 (upd (μ2 31) 5 (μ2 31 5 + nI 1)) = μ3 at *
        have h9 := h7.trans (h8.num (c := A.length))
        have hc3 : μ3 31 2 = nI A.length := by rw [h9.2.1 2 (by decide)]; exact hc
        refine bX9_readItem_150 E (by rw [hc3]; exact vin h50 (by decide)) ?_
        rw [hc3, ix_nI (by omega)]
        refine bX9_readItem_160 E (bX9_readItem_170 E hB ⟨_, rfl, ⟨fun a a1 a2 a3 => by rw [uR_n a1, uR_n a2, h9.1 a a1 a3], by rw [uR_s, uR_n (by decide)]; show (if _ then _ else _) = _; rw [if_neg (by decide)]; exact h9.2.1 1 (by decide)⟩, ?_⟩)
        rw [hi (.inr (sk g e r + 1, kd g p (rn g e 97 122 p), l)) (by rw [hx]; exact if_pos ⟨by omega, c2⟩)]
        refine ⟨rfl, ?_, ?_, fun i kl hkl => ?_⟩
        · rw [uR_s, uR_n (by decide)]
          show (if _ then _ else _) = _
          rw [if_neg (by decide)]
          exact h8.2.2
        · rw [uR_s, uR_n (by decide), hc3, nI_add]
          exact if_pos rfl
        · rw [uR_n (by decide), uR_s, uR_n (by decide), uR_n (by decide)]
          rcases Nat.lt_or_ge i A.length with hl | hl
          · rw [List.getElem?_append_left hl] at hkl
            have := I i kl hkl
            refine ⟨by rw [show upd (μ3 33) A.length (nI (kd g p (rn g e 97 122 p))) i = μ3 33 i from if_neg (by omega), h9.1 33 (by decide) (by decide)]; exact this.1, fun t ht => ?_⟩
            have hk5 : nOf kl.1 ≤ 5 := by
              rcases Nat.lt_or_ge kl.1 10 with g1 | g1
              · exact (len_n _ g1).2.1
              · unfold nOf; rw [List.getD_eq_getElem?_getD, List.getElem?_eq_none (by simpa using g1)]; exact Nat.zero_le _
            rw [h9.2.2 _ (by omega)]
            exact this.2 t ht
          · rw [List.getElem?_append_right hl] at hkl
            have h0 : i = A.length := by
              rcases Nat.eq_or_lt_of_le hl with h0 | h0
              · exact h0.symm
              · rw [List.getElem?_eq_none (by simp; omega)] at hkl
                cases hkl
            subst h0
            rw [Nat.sub_self] at hkl
            cases hkl
            refine ⟨if_pos rfl, fun t ht => ?_⟩
            rw [h8.1 34 (by decide), h6.1 34 (by decide)]
            exact h4 t ht
      · rw [h6.2.2, ix_nI (by omega), T2.2.2.1 _ (by omega), nI_eqE (by have := T2.2.2.2 (sk g e r) (by omega); omega) (by decide)] at c2
        exact bX9_readItem_138 E hB (bad fun w => c2 w.2)
  · rw [if_neg hk]
    refine bX9_readItem_14 E (fun _ => bX9_readItem_29 E hB ⟨_, rfl, ⟨fun _ _ _ _ => rfl, rfl⟩, ?_⟩) (fun c => absurd rfl c)
    unfold itm
    rw [if_neg hk]
    exact ⟨rfl, ha⟩
theorem ffL {X : XT} {P : Option Value → Mu → Prop} (E : Ent Z X mX9_findFault 0 0) (hB : BodS Z X P) : ∀ (n : Nat) (μ : Mu) (p : Nat) (A : List (Nat × List Nat)), A.length + n = 51 → A.length * 6 ≤ p → TXC μ g e → μ 31 2 = nI A.length → μ 31 5 = nI p → p ≤ e → IT μ A →
    (∀ μ' x, prs g e n p = .inl x → RdC μ μ' → P (some (.int (nI x))) μ') →
    (∀ μ' L, prs g e n p = .inr L → RdC μ μ' → μ' 31 2 = nI (A ++ L).length → IT μ' (A ++ L) → P (some (.int (-1))) μ') →
    JS Z X 12 [(0, .ref (Z.2.2.1 + 31)), (1, .int (nI A.length))] [] μ := by
  intro n
  induction n with
  | zero =>
    intro μ p A hn h6 T hc ha hp I kf kg
    have he := T.2.1
    omega
  | succ n ih =>
    intro μ p A hn h6 T hc ha hp I kf kg
    have he := T.2.1
    refine bX9_findFault_12 E (fun c => by rw [nI_ltE (by omega) (by omega)] at c; omega) (fun _ => ?_)
    refine bX9_findFault_18 E (c_skipBlanks T ha hp) fun μ1 h1 => ?_
    have T1 := T.at h1
    have b1 := sk_le (g := g) (e := e) (p := p)
    have b2 := sk_e (g := g) hp
    refine bX9_findFault_22 E (fun c => ?_) (fun c => ?_)
    · rw [h1.2.2, T1.1, nI_ltE (by omega) (by omega)] at c
      have hI : IT μ1 A := fun i kl hkl => by rw [h1.1 33 (by decide), h1.1 34 (by decide)]; exact I i kl hkl
      refine bX9_findFault_35 E (c_readItem T1 h1.2.2 c (by rw [h1.2.1 2 (by decide)]; exact hc) (by omega) hI) fun v μ2 h2 => ?_
      obtain ⟨h2, h3⟩ := h2
      have h4 := (h1.num (c := 0)).rd.trans h2
      have hx : prs g e (n + 1) p = (match itm g e (sk g e p) with
        | .inl x => .inl x
        | .inr (r, k, l) => match prs g e n r with
          | .inl x => .inl x
          | .inr L => .inr ((k, l) :: L)) := by
        show (if _ then _ else _) = _
        rw [if_pos c]
        rfl
      cases hi : itm g e (sk g e p) with
      | inl x =>
        rw [hi] at h3 hx
        obtain ⟨rfl, h3⟩ := h3
        refine bX9_findFault_39 E (fun c => absurd rfl c) (fun _ => bX9_findFault_42 E hB ?_)
        rw [h3]
        exact kf μ2 x hx h4
      | inr q =>
        obtain ⟨q, k, l⟩ := q
        rw [hi] at h3 hx
        obtain ⟨rfl, h3, h5, h7⟩ := h3
        have b3 := itm_b (Nat.le_of_lt c) hi
        refine bX9_findFault_39 E (fun _ => bX9_findFault_47 E ?_) (fun c => absurd c (by decide))
        rw [nI_add]
        have hl : (A ++ [(k, l)]).length = A.length + 1 := by simp
        rw [← hl]
        refine ih μ2 q (A ++ [(k, l)]) (by omega) (by omega) (T.rd h4) (by rw [hl]; exact h5) h3 b3.2.1 h7 (fun μ' x hx1 h8 => ?_) (fun μ' L hx1 h8 h9 h10 => ?_)
        · exact kf μ' x (by rw [hx]; simp only [hx1]) (h4.trans h8)
        · rw [List.append_assoc] at h9 h10
          exact kg μ' ((k, l) :: L) (by rw [hx]; simp only [hx1]) (h4.trans h8) h9 h10
    · rw [h1.2.2, T1.1, nI_ltE (by omega) (by omega)] at c
      refine bX9_findFault_33 E hB (kg μ1 [] (by show (if _ then _ else _) = _; rw [if_neg c]) (h1.num (c := 0)).rd ?_ ?_)
      · rw [List.append_nil, h1.2.1 2 (by decide)]; exact hc
      · rw [List.append_nil]; exact fun i kl hkl => by rw [h1.1 33 (by decide), h1.1 34 (by decide)]; exact I i kl hkl
theorem c_findFault (T : TXC μ g e) : CtrS Z mX9_findFault [.ref (Z.2.2.1 + 31)] μ (rI fun r μ' => RdC μ μ' ∧
    match prs g e 51 0 with
    | .inl x => r = nI x
    | .inr L => r = -1 ∧ μ' 31 2 = nI L.length ∧ IT μ' L) := by
  refine CtrS.intro (by decide +kernel) (Nat.le_of_ble_eq_true rfl) rfl fun X E hB => ?_
  refine bX9_findFault_0 E (bX9_findFault_5 E (bX9_findFault_10 E ?_))
  have h1 : RdC μ (uR (uR μ 31 (upd (μ 31) 2 (nI 0))) 31 (upd ((uR μ 31 (upd (μ 31) 2 (nI 0))) 31) 5 (nI 0))) := by
    refine ⟨fun a h _ _ => by rw [uR_n h, uR_n h], ?_⟩
    rw [uR_s, uR_s]
    show (if _ then _ else if _ then _ else _) = _
    rw [if_neg (by decide), if_neg (by decide)]
  refine ffL E hB 51 _ 0 [] rfl (Nat.le_refl _) (T.rd h1) ?_ ?_ (Nat.zero_le _) (fun i kl h => by cases h) (fun μ' x hx h => ?_) (fun μ' L hx h h2 h3 => ?_)
  · rw [uR_s, uR_s]
    show (if _ then _ else if _ then _ else _) = _
    rw [if_neg (by decide), if_pos rfl]
    rfl
  · rw [uR_s]
    exact if_pos rfl
  · refine ⟨_, rfl, h1.trans h, ?_⟩
    rw [hx]
  · refine ⟨_, rfl, h1.trans h, ?_⟩
    rw [hx]
    exact ⟨rfl, h2, h3⟩
end ITEM
