/-! HOUSE of THE TEXT: the reference's call -/
def FH (μ μ' : Mu) : Prop := (∀ a, a ≠ 455 → a ≠ 456 → a ≠ 460 → μ' a = μ a) ∧ (∀ i, i < 5 ∨ 9 < i → μ' 455 i = μ 455 i) ∧ ∀ i, i < 741 → μ' 456 i = μ 456 i
/-- what the draft is: the first refused ITEM, or a HOUSE -/
def DS (B : Nat ⊕ DD) (a : Int32) (μ : Mu) : Prop := match B with
  | .inl i => a = nI i ∧ i ≤ 50
  | .inr D => a = -1 ∧ HM (μ 456) 741 D ∧ WF D
def tB (B : Nat ⊕ DD) (c : Nat) (L : List (Nat × List Nat)) : Nat ⊕ DD := match B with
  | .inl i => .inl i
  | .inr D => tF L c D
section MHOUSE
variable {Z : ZT} {μ : Mu} {D : DD} {im : Nat → Option DD} {tx : TX} {s : Nat → Int32} {f : Nat × Nat} {g : Nat → Nat} {e : Nat}
theorem FH.rf : FH μ μ := ⟨fun _ _ _ _ => rfl, fun _ _ => rfl, fun _ _ => rfl⟩
theorem FH.tr {μ1 μ2 : Mu} (h : FH μ μ1) (k : FH μ1 μ2) : FH μ μ2 := ⟨fun a h1 h2 h3 => by rw [k.1 a h1 h2 h3, h.1 a h1 h2 h3], fun i hi => by rw [k.2.1 i hi, h.2.1 i hi], fun i hi => by rw [k.2.2 i hi, h.2.2 i hi]⟩
theorem NxM.fh {μ1 : Mu} (h : NxM μ μ1) : FH μ μ1 := ⟨fun a h1 _ _ => h.1 a h1, fun i hi => h.2 i (by omega), fun i _ => by rw [h.1 456 (by decide)]⟩
theorem FrA.fh {μ1 : Mu} (h : FrA 741 μ μ1) : FH μ μ1 := ⟨fun a _ h2 _ => h.1 a h2, fun i _ => by rw [h.1 455 (by decide)], fun i hi => h.2 i (by omega)⟩
theorem FH.num {r : Nat → Int32} : FH μ (uR μ 460 r) := ⟨fun a _ _ h => uR_n h, fun i _ => by rw [uR_n (by decide)], fun i _ => by rw [uR_n (by decide)]⟩
theorem FH.f9 {v : Int32} : FH μ (uR μ 455 (upd (μ 455) 9 v)) := ⟨fun a h _ _ => uR_n h, fun i hi => u4n (by omega), fun i _ => by rw [uR_n (by decide)]⟩
theorem TXM.fh {μ1 : Mu} (h : TXM μ g e) (k : FH μ μ1) : TXM μ1 g e := ⟨by rw [k.2.1 4 (by omega)]; exact h.1, h.2.1, by rw [k.1 459 (by decide) (by decide) (by decide)]; exact h.2.2.1, h.2.2.2⟩
theorem TK.c {p : Nat} {μ1 : Mu} (h : TK g e p μ) (k : μ1 455 = μ 455) : TK g e p μ1 := by
  unfold TK at h ⊢
  rw [k]
  exact h
theorem neg_c : ∀ x, x ≤ 300 → ¬ nI x = -1 := by decide +kernel
theorem TKn {q : Nat} (T : TXM μ g e) (h : TK g e q μ) (hq : q ≤ e) : (μ 455 7 = nI 1 ↔ ¬ (rn g e 48 57 (sk g e q) = sk g e q ∨ sk g e q + 3 < rn g e 48 57 (sk g e q))) ∧
    (μ 455 7 = nI 1 → μ 455 5 = nI (rn g e 48 57 (sk g e q)) ∧ μ 455 8 = nI (vl g (rn g e 48 57 (sk g e q)) (sk g e q) 0)) := by
  obtain ⟨h1, h2, h3, h4, h5⟩ := h
  generalize sk g e q = p at *
  by_cases c : p < e
  · by_cases c1 : 97 ≤ g p ∧ g p ≤ 122
    · have hr : rn g e 48 57 p = p := rn_n (by omega)
      have h7 := (h3 c c1.1 c1.2).2
      have hne : ¬ μ 455 7 = nI 1 := by
        rw [h7]
        split
        · rw [nI_eqE (by omega) (by decide)]; omega
        · decide
      exact ⟨⟨fun w => absurd w hne, fun w => absurd (Or.inl hr) w⟩, fun w => absurd w hne⟩
    · by_cases c2 : 48 ≤ g p ∧ g p ≤ 57
      · obtain ⟨i5, i7, i8⟩ := h4 c c2.1 c2.2
        have hr : p < rn g e 48 57 p := rn_gt ⟨c, c2⟩
        by_cases c3 : rn g e 48 57 p ≤ p + 3
        · rw [if_pos c3] at i7
          exact ⟨⟨fun _ => by omega, fun _ => i7⟩, fun _ => ⟨i5, i8 c3⟩⟩
        · rw [if_neg c3] at i7
          have hne : ¬ μ 455 7 = nI 1 := by rw [i7]; decide
          exact ⟨⟨fun w => absurd w hne, fun w => by omega⟩, fun w => absurd w hne⟩
      · have hr : rn g e 48 57 p = p := rn_n (by omega)
        have h7 := (h5 c c1 c2).2
        have hne : ¬ μ 455 7 = nI 1 := by
          rw [h7]
          split <;> decide
        exact ⟨⟨fun w => absurd w hne, fun w => absurd (Or.inl hr) w⟩, fun w => absurd w hne⟩
  · have hr : rn g e 48 57 p = p := rn_n (by omega)
    have hne : ¬ μ 455 7 = nI 1 := by rw [h2 (by omega)]; decide
    exact ⟨⟨fun w => absurd w hne, fun w => absurd (Or.inl hr) w⟩, fun w => absurd w hne⟩
theorem TKs {q : Nat} (h : TK g e q μ) : (μ 455 7 = nI 2 ↔ (sk g e q < e ∧ g (sk g e q) = 59)) ∧ (μ 455 7 = nI 2 → μ 455 5 = nI (sk g e q + 1)) := by
  obtain ⟨h1, h2, h3, h4, h5⟩ := h
  generalize sk g e q = p at *
  by_cases c : p < e
  · by_cases c1 : 97 ≤ g p ∧ g p ≤ 122
    · have h7 := (h3 c c1.1 c1.2).2
      have hne : ¬ μ 455 7 = nI 2 := by
        rw [h7]
        split
        · rw [nI_eqE (by omega) (by decide)]; omega
        · decide
      exact ⟨⟨fun w => absurd w hne, fun w => by omega⟩, fun w => absurd w hne⟩
    · by_cases c2 : 48 ≤ g p ∧ g p ≤ 57
      · have h7 := (h4 c c2.1 c2.2).2.1
        have hne : ¬ μ 455 7 = nI 2 := by
          rw [h7]
          split <;> decide
        exact ⟨⟨fun w => absurd w hne, fun w => by omega⟩, fun w => absurd w hne⟩
      · obtain ⟨i5, i7⟩ := h5 c c1 c2
        by_cases c3 : g p = 59
        · rw [if_pos c3] at i7
          exact ⟨⟨fun _ => ⟨c, c3⟩, fun _ => i7⟩, fun _ => i5⟩
        · rw [if_neg c3] at i7
          have hne : ¬ μ 455 7 = nI 2 := by rw [i7]; decide
          exact ⟨⟨fun w => absurd w hne, fun w => absurd w.2 c3⟩, fun w => absurd w hne⟩
  · have hne : ¬ μ 455 7 = nI 2 := by rw [h2 (by omega)]; decide
    exact ⟨⟨fun w => absurd w hne, fun w => absurd w.1 c⟩, fun w => absurd w hne⟩
theorem TKw {q : Nat} (h : TK g e q μ) (c : sk g e q < e) : (kd g (sk g e q) (rn g e 97 122 (sk g e q)) < 10 → μ 455 7 = nI (10 + kd g (sk g e q) (rn g e 97 122 (sk g e q))) ∧ μ 455 5 = nI (rn g e 97 122 (sk g e q))) ∧
    (¬ kd g (sk g e q) (rn g e 97 122 (sk g e q)) < 10 → μ 455 7 = nI 1 ∨ μ 455 7 = nI 2 ∨ μ 455 7 = nI 3) := by
  obtain ⟨h1, h2, h3, h4, h5⟩ := h
  generalize sk g e q = p at *
  by_cases c1 : 97 ≤ g p ∧ g p ≤ 122
  · obtain ⟨i5, i7⟩ := h3 c c1.1 c1.2
    exact ⟨fun w => by rw [if_pos w] at i7; exact ⟨i7, i5⟩, fun w => by rw [if_neg w] at i7; exact Or.inr (Or.inr i7)⟩
  · have hr : rn g e 97 122 p = p := rn_n (by omega)
    rw [hr]
    have hk : ¬ kd g p p < 10 := fun w => by
      have := (kd_ww w).1
      have := (len_n _ w).2.2
      omega
    refine ⟨fun w => absurd w hk, fun _ => ?_⟩
    by_cases c2 : 48 ≤ g p ∧ g p ≤ 57
    · have h7 := (h4 c c2.1 c2.2).2.1
      by_cases c3 : rn g e 48 57 p ≤ p + 3
      · rw [if_pos c3] at h7; exact Or.inl h7
      · rw [if_neg c3] at h7; exact Or.inr (Or.inr h7)
    · have h7 := (h5 c c1 c2).2
      by_cases c3 : g p = 59
      · rw [if_pos c3] at h7; exact Or.inr (Or.inl h7)
      · rw [if_neg c3] at h7; exact Or.inr (Or.inr h7)
theorem flt63 {X : XT} {P : Option Value → Mu → Prop} {a1 a2 : Int32} {x : Nat} (E : Ent Z X mX12_house 0 0) (hB : BodS Z X P) (hx : x ≤ 300) (h9 : μ 455 9 = nI x) (k : P (some (.int (-10 - nI x))) μ) : JS Z X 63 [(0, .ref (Z.2.2.1 + 455)), (1, .int a1), (2, .int a2)] [] μ := by
  have hne : ¬ μ 455 9 = -1 := by rw [h9]; exact neg_c x hx
  refine bX12_house_63 E (fun _ => bX12_house_204 E (fun c => absurd c hne) (fun _ => bX12_house_212 E hB ?_)) (fun c => absurd c hne)
  rw [h9]
  exact k
theorem flt153 {X : XT} {P : Option Value → Mu → Prop} {a1 a2 a3 : Int32} {x : Nat} (E : Ent Z X mX12_house 0 0) (hB : BodS Z X P) (hx : x ≤ 300) (h9 : μ 455 9 = nI x) (k : P (some (.int (-10 - nI x))) μ) : JS Z X 153 [(0, .ref (Z.2.2.1 + 455)), (1, .int a1), (2, .int a2), (3, .int a3)] [] μ := by
  have hne : ¬ μ 455 9 = -1 := by rw [h9]; exact neg_c x hx
  have z : ∀ s1, JS Z X 167 [(0, .ref (Z.2.2.1 + 455)), (1, .int a1), (2, .int a2), (3, .int a3)] [.int s1, .ref (Z.2.2.1 + 455)] μ := fun s1 => by
    refine bX12_house_167 E (m_dueF hne) fun v μ1 h => ?_
    obtain rfl : μ1 = μ := h
    exact bX12_house_170 E (fun _ => bX12_house_201 E (flt63 E hB hx h9 k)) (fun c => absurd c hne)
  exact bX12_house_153 E (fun _ => bX12_house_166 E (z _)) (fun _ => bX12_house_162 E (z _))
theorem flt108 {X : XT} {P : Option Value → Mu → Prop} {a1 a2 a3 a4 a5 : Int32} {x : Nat} (E : Ent Z X mX12_house 0 0) (hB : BodS Z X P) (hx : x ≤ 300) (h9 : μ 455 9 = nI x) (k : P (some (.int (-10 - nI x))) μ) : JS Z X 108 [(0, .ref (Z.2.2.1 + 455)), (1, .int a1), (2, .int a2), (3, .int a3), (4, .int a4), (5, .int a5)] [] μ := by
  have hne : ¬ μ 455 9 = -1 := by rw [h9]; exact neg_c x hx
  exact bX12_house_108 E (fun _ => flt153 E hB hx h9 k) (fun _ => bX12_house_115 E (fun _ => flt153 E hB hx h9 k) (fun c => absurd c hne))
theorem nuL {X : XT} {P : Option Value → Mu → Prop} {a1 a2 a3 : Int32} {k : Nat} (E : Ent Z X mX12_house 0 0) (hB : BodS Z X P) (hk : k < 10) : ∀ (n i : Nat) (μ : Mu) (q : Nat) (l0 : List Nat), l0.length = i → i + n = nOf k → TXM μ g e → TK g e q μ → μ 455 9 = -1 → q ≤ e →
    (∀ t, t < i → μ 460 t = nI (l0.getD t 0)) →
    (∀ μ' x, nm g e n q = .inl x → FH μ μ' → P (some (.int (-10 - nI x))) μ') →
    (∀ μ' r l, nm g e n q = .inr (r, l) → FH μ μ' → μ' 456 = μ 456 → μ' 455 9 = -1 → TK g e r μ' → (∀ t, t < nOf k → μ' 460 t = nI ((l0 ++ l).getD t 0)) → JS Z X 153 [(0, .ref (Z.2.2.1 + 455)), (1, .int a1), (2, .int a2), (3, .int a3)] [] μ') →
    JS Z X 108 [(0, .ref (Z.2.2.1 + 455)), (1, .int a1), (2, .int a2), (3, .int a3), (4, .int (nI (nOf k))), (5, .int (nI i))] [] μ := by
  have hn5 := (len_n k hk).2.1
  intro n
  induction n with
  | zero =>
    intro i μ q l0 hl hin T K h9 hq hs kf kg
    refine bX12_house_108 E (fun _ => kg μ q [] rfl FH.rf rfl h9 K fun t ht => by rw [List.append_nil]; exact hs t (by omega)) (fun c => absurd (by rw [nI_leE (by omega) (by omega)]; omega) c)
  | succ n ih =>
    intro i μ q l0 hl hin T K h9 hq hs kf kg
    have he := T.2.1
    have b1 := sk_le (g := g) (e := e) (p := q)
    have b2 := sk_e (g := g) hq
    have b3 := rn_le (g := g) (e := e) (lo := 48) (hi := 57) (p := sk g e q)
    have b4 := rn_e (g := g) (lo := 48) (hi := 57) b2
    have hK := TKn T K hq
    refine bX12_house_108 E (fun c => by rw [nI_leE (by omega) (by omega)] at c; omega) (fun _ => ?_)
    refine bX12_house_115 E (fun c => absurd h9 c) (fun _ => ?_)
    refine bX12_house_123 E (fun c => ?_) (fun c => ?_)
    · have w : rn g e 48 57 (sk g e q) = sk g e q ∨ sk g e q + 3 < rn g e 48 57 (sk g e q) := Classical.not_not.mp fun w => c (hK.1.mpr w)
      refine bX12_house_142 E sh460 (bX12_house_143 E sh460 (m_due0 h9) fun v μ1 h => ?_)
      obtain rfl : μ1 = _ := h
      refine bX12_house_146 E sh460 (vin (by omega) (by decide)) (bX12_house_147 E ?_)
      refine flt108 E hB (x := sk g e q) (by omega) ?_ (kf _ (sk g e q) (by show (if _ then _ else _) = _; rw [if_pos w]) (FH.f9.tr FH.num))
      rw [uR_n (by decide), u4s]
      exact K.1
    · have w := hK.1.mp c
      obtain ⟨k5, k8⟩ := hK.2 c
      refine bX12_house_138 E sh460 (bX12_house_143 E sh460 (m_due1 T k5 b4 h9) fun v μ1 h => ?_)
      obtain ⟨rfl, h1, h2⟩ := h
      refine bX12_house_146 E sh460 (vin (by omega) (by decide)) (bX12_house_147 E ?_)
      rw [nI_add, ix_nI (by omega), k8]
      have h3 : FH μ (uR μ1 460 (upd (μ1 460) i (nI (vl g (rn g e 48 57 (sk g e q)) (sk g e q) 0)))) := h1.fh.tr FH.num
      refine ih (i + 1) _ (rn g e 48 57 (sk g e q)) (l0 ++ [vl g (rn g e 48 57 (sk g e q)) (sk g e q) 0]) (by simp [hl]) (by omega) (T.fh h3) (h2.c (uR_n (by decide))) ?_ b4 (fun t ht => ?_) (fun μ' x hx h4 => ?_) (fun μ' r l hx h4 h5 h6 h7 h8 => ?_)
      · rw [uR_n (by decide), h1.2 9 (by omega)]; exact h9
      · rw [uR_s]
        by_cases et : t = i
        · subst et
          rw [show upd (μ1 460) t (nI (vl g (rn g e 48 57 (sk g e q)) (sk g e q) 0)) t = nI (vl g (rn g e 48 57 (sk g e q)) (sk g e q) 0) from if_pos rfl, List.getD_eq_getElem?_getD, List.getElem?_append_right (by omega), hl, Nat.sub_self]
          rfl
        · rw [show upd (μ1 460) i (nI (vl g (rn g e 48 57 (sk g e q)) (sk g e q) 0)) t = μ1 460 t from if_neg et, h1.1 460 (by decide), hs t (by omega), List.getD_eq_getElem?_getD, List.getD_eq_getElem?_getD, List.getElem?_append_left (by omega)]
      · refine kf μ' x ?_ (h3.tr h4)
        show (if _ then _ else _) = _
        rw [if_neg w, hx]
      · refine kg μ' r (vl g (rn g e 48 57 (sk g e q)) (sk g e q) 0 :: l) ?_ (h3.tr h4) ?_ h6 h7 fun t ht => ?_
        · show (if _ then _ else _) = _
          rw [if_neg w, hx]
        · rw [h5, uR_n (by decide), h1.1 456 (by decide)]
        · rw [h8 t ht, List.append_assoc]
          rfl
theorem hmL {X : XT} {P : Option Value → Mu → Prop} (E : Ent Z X mX12_house 0 0) (hB : BodS Z X P) : ∀ (n : Nat) (μ : Mu) (p c : Nat) (B : Nat ⊕ DD) (a2 : Int32), TXM μ g e → TK g e p μ → μ 455 9 = -1 → p ≤ e → e < p + 6 * n → c * 6 ≤ p → DS B a2 μ →
    (∀ μ' x, prs g e n p = .inl x → FH μ μ' → P (some (.int (-10 - nI x))) μ') →
    (∀ μ' L i, prs g e n p = .inr L → tB B c L = .inl i → FH μ μ' → P (some (.int (-1000 - nI i))) μ') →
    (∀ μ' L D, prs g e n p = .inr L → tB B c L = .inr D → HM (μ' 456) 741 D → FH μ μ' → JS Z X 231 [(0, .ref (Z.2.2.1 + 455)), (1, .int (nI (c + L.length)))] [] μ') →
    JS Z X 63 [(0, .ref (Z.2.2.1 + 455)), (1, .int (nI c)), (2, .int a2)] [] μ := by
  intro n
  induction n with
  | zero =>
    intro μ p c B a2 T K h9 hp hn hc S kf kb kg
    omega
  | succ n ih =>
    intro μ p c B a2 T K h9 hp hn hc S kf kb kg
    have he := T.2.1
    have b1 := sk_le (g := g) (e := e) (p := p)
    have b2 := sk_e (g := g) hp
    by_cases hend : sk g e p < e
    · have hx : ∀ y, (match itm g e (sk g e p) with
        | .inl x => (.inl x : Nat ⊕ List (Nat × List Nat))
        | .inr (r, k, l) => match prs g e n r with
          | .inl x => .inl x
          | .inr L => .inr ((k, l) :: L)) = y → prs g e (n + 1) p = y := fun y h => by
        rw [← h]
        show (if _ then _ else _) = _
        rw [if_pos hend]
        rfl
      have hW := TKw K hend
      have b3 := rn_le (g := g) (e := e) (lo := 97) (hi := 122) (p := sk g e p)
      have b4 := rn_e (g := g) (lo := 97) (hi := 122) b2
      by_cases hk : kd g (sk g e p) (rn g e 97 122 (sk g e p)) < 10
      · obtain ⟨k7, k5⟩ := hW.1 hk
        have hi : ∀ y, (match nm g e (nOf (kd g (sk g e p) (rn g e 97 122 (sk g e p)))) (rn g e 97 122 (sk g e p)) with
          | .inl x => (.inl x : Nat ⊕ Nat × Nat × List Nat)
          | .inr (r, l) => if sk g e r < e ∧ g (sk g e r) = 59 then .inr (sk g e r + 1, kd g (sk g e p) (rn g e 97 122 (sk g e p)), l) else .inl (sk g e r)) = y → itm g e (sk g e p) = y := fun y h => by
            unfold itm
            rw [if_pos hk]
            exact h
        generalize kd g (sk g e p) (rn g e 97 122 (sk g e p)) = k at *
        generalize rn g e 97 122 (sk g e p) = q at *
        refine bX12_house_63 E (fun w => absurd h9 w) (fun _ => ?_)
        refine bX12_house_71 E (fun w => ?_) (fun _ => ?_)
        · rw [k7, nI_eq0 (by omega)] at w; omega
        refine bX12_house_78 E (fun w => ?_) (fun _ => ?_)
        · rw [k7, nI_ltE (by omega) (by decide)] at w; omega
        rw [k7]
        refine bX12_house_90 E (bX12_house_95 E (m_due1 T k5 b4 h9) fun v μ1 h => ?_)
        obtain ⟨-, h1, h2⟩ := h
        have T1 := T.nx h1
        have h91 : μ1 455 9 = -1 := by rw [h1.2 9 (by omega)]; exact h9
        refine bX12_house_98 E m_numbersOf fun v μ2 h => ?_
        obtain ⟨rfl, h3⟩ := h
        rw [h3 k hk rfl]
        refine bX12_house_103 E ?_
        refine nuL E hB hk _ 0 μ2 q [] rfl (Nat.zero_add _) T1 h2 h91 b4 (fun t ht => absurd ht (Nat.not_lt_zero t)) (fun μ' x hx1 h4 => ?_) (fun μ' r l hx1 h4 h5 h6 h7 h8 => ?_)
        · refine kf μ' x (hx _ ?_) (h1.fh.tr h4)
          rw [hi (.inl x) (by rw [hx1])]
        · have hm := nm_b _ b4 hx1
          have hv := getD_b (nm_v _ hx1)
          have T' := T1.fh h4
          have hs := TKs h7
          have b5 := sk_le (g := g) (e := e) (p := r)
          have b6 := sk_e (g := g) hm.2.1
          refine bX12_house_153 E (fun w => ?_) (fun w => ?_)
          · have w2 : ¬ (sk g e r < e ∧ g (sk g e r) = 59) := fun w3 => w (hs.1.mpr w3)
            refine bX12_house_166 E (bX12_house_167 E (m_due0 h6) fun v μ3 h => ?_)
            obtain rfl : μ3 = _ := h
            have z9 : uR μ' 455 (upd (μ' 455) 9 (μ' 455 6)) 455 9 = nI (sk g e r) := by rw [u4s]; exact h7.1
            refine bX12_house_170 E (fun _ => bX12_house_201 E (flt63 E hB (x := sk g e r) (by omega) z9 (kf _ (sk g e r) (hx _ ?_) ((h1.fh.tr h4).tr FH.f9)))) (fun w3 => absurd (z9.symm.trans w3) (neg_c _ (by omega)))
            rw [hi (.inl (sk g e r)) (by rw [hx1]; exact if_neg w2)]
          · have w2 := hs.1.mp w
            have k51 := hs.2 w
            have hi1 := hi (.inr (sk g e r + 1, k, l)) (by rw [hx1]; exact if_pos w2)
            have hib := itm_b (Nat.le_of_lt hend) hi1
            refine bX12_house_162 E (bX12_house_167 E (m_due1 T' k51 (by omega) h6) fun v μ3 h => ?_)
            obtain ⟨-, i1, i2⟩ := h
            have i9 : μ3 455 9 = -1 := by rw [i1.2 9 (by omega)]; exact h6
            have iF : FH μ μ3 := (h1.fh.tr h4).tr i1.fh
            have i456 : μ3 456 = μ 456 := by rw [i1.1 456 (by decide), h5, h1.1 456 (by decide)]
            have i460 : ∀ t, t < nOf k → μ3 460 t = nI (l.getD t 0) := fun t ht => by rw [i1.1 460 (by decide)]; exact h8 t ht
            -- the rest, from any later world
            have rest : ∀ (μ4 : Mu) (B' : Nat ⊕ DD) (a : Int32), FH μ3 μ4 → μ4 455 = μ3 455 → DS B' a μ4 → (∀ L, tB B' (c + 1) L = tB B c ((k, l) :: L)) → JS Z X 197 [(0, .ref (Z.2.2.1 + 455)), (1, .int (nI c))] [.int a] μ4 := fun μ4 B' a j1 j2 j3 j4 => by
              refine bX12_house_197 E (bX12_house_201 E ?_)
              rw [nI_add]
              refine ih μ4 (sk g e r + 1) (c + 1) B' a ((T'.nx i1).fh j1) (i2.c j2) (by rw [j2]; exact i9) (by omega) (by omega) (by omega) j3 (fun μ' x hp1 j5 => ?_) (fun μ' L i hp1 j6 j5 => ?_) (fun μ' L D hp1 j6 j7 j5 => ?_)
              · exact kf μ' x (hx _ (by rw [hi1]; simp only [hp1])) ((iF.tr j1).tr j5)
              · exact kb μ' ((k, l) :: L) i (hx _ (by rw [hi1]; simp only [hp1])) (by rw [← j4]; exact j6) ((iF.tr j1).tr j5)
              · have := kg μ' ((k, l) :: L) D (hx _ (by rw [hi1]; simp only [hp1])) (by rw [← j4]; exact j6) j7 ((iF.tr j1).tr j5)
                rw [List.length_cons, show c + (L.length + 1) = c + 1 + L.length by omega] at this
                exact this
            refine bX12_house_170 E (fun w3 => absurd i9 w3) (fun _ => ?_)
            cases B with
            | inl i =>
              obtain ⟨rfl, hi50⟩ := S
              refine bX12_house_179 E (fun _ => bX12_house_196 E ?_) (fun w3 => absurd w3 (neg_c i (by omega)))
              exact rest μ3 (.inl i) _ FH.rf rfl ⟨rfl, hi50⟩ fun L => rfl
            | inr D =>
              obtain ⟨rfl, S1, S2⟩ := S
              refine bX12_house_179 E (fun w3 => absurd rfl w3) (fun _ => ?_)
              refine bX12_house_184 E (m_build hk i460 hv (by rw [i456]; exact S1) S2) fun v μ4 h => ?_
              obtain ⟨j1, j2, j3⟩ := h
              refine bX12_house_189 E (fun w3 => bX12_house_196 E ?_) (fun w3 => bX12_house_192 E ?_)
              · refine rest μ4 (.inr (tl D k l).2) _ j3.fh (j3.1 455 (by decide)) ⟨rfl, j2, WF_tl S2⟩ fun L => ?_
                show tF L (c + 1) (tl D k l).2 = (if _ then _ else _)
                rw [if_pos (j1.mp w3)]
              · refine rest μ4 (.inl c) _ j3.fh (j3.1 455 (by decide)) ⟨rfl, by omega⟩ fun L => ?_
                show _ = (if _ then _ else _)
                rw [if_neg fun w4 => w3 (j1.mpr w4)]
                rfl
      · have h7 := hW.2 hk
        have hlt : μ 455 7 < nI 10 ∧ ¬ μ 455 7 = 0 := by rcases h7 with h | h | h <;> rw [h] <;> decide
        have hi1 : itm g e (sk g e p) = .inl (sk g e p) := by unfold itm; rw [if_neg hk]
        refine bX12_house_63 E (fun w => absurd h9 w) (fun _ => ?_)
        refine bX12_house_71 E (fun w => absurd w hlt.2) (fun _ => ?_)
        refine bX12_house_78 E (fun _ => ?_) (fun w => absurd hlt.1 w)
        refine bX12_house_94 E (bX12_house_95 E (m_due0 h9) fun v μ1 h => ?_)
        obtain rfl : μ1 = _ := h
        refine bX12_house_98 E m_numbersOf fun v μ2 h => ?_
        obtain ⟨rfl, -⟩ := h
        refine bX12_house_103 E (flt108 E hB (x := sk g e p) (by omega) (by rw [u4s]; exact K.1) (kf _ (sk g e p) (hx _ (by rw [hi1])) FH.f9))
    · have hx : prs g e (n + 1) p = .inr [] := by
        show (if _ then _ else _) = _
        rw [if_neg hend]
      have k7 : μ 455 7 = 0 := K.2.1 (by omega)
      refine bX12_house_63 E (fun w => absurd h9 w) (fun _ => ?_)
      refine bX12_house_71 E (fun _ => ?_) (fun w => absurd k7 w)
      refine bX12_house_204 E (fun _ => ?_) (fun w => absurd h9 w)
      cases B with
      | inl i =>
        obtain ⟨rfl, hi50⟩ := S
        exact bX12_house_220 E (fun w3 => absurd w3 (neg_c i (by omega))) (fun _ => bX12_house_225 E hB (kb μ [] i hx rfl FH.rf))
      | inr D =>
        obtain ⟨rfl, S1, S2⟩ := S
        exact bX12_house_220 E (fun _ => kg μ [] D hx rfl S1 FH.rf) (fun w3 => absurd rfl w3)
theorem cpL {X : XT} {P : Option Value → Mu → Prop} {a1 : Int32} (E : Ent Z X mX12_house 0 0) (hB : BodS Z X P) : ∀ (d i : Nat) (μ : Mu), i + d = 201 →
    (∀ μ', (∀ a, a ≠ 456 → μ' a = μ a) → (∀ j, i ≤ j → j < 201 → μ' 456 j = μ 456 (741 + j)) → (∀ j, j < i ∨ 201 ≤ j → μ' 456 j = μ 456 j) → P (some (.int a1)) μ') →
    JS Z X 233 [(0, .ref (Z.2.2.1 + 455)), (1, .int a1), (3, .int (nI i))] [] μ := by
  intro d
  induction d with
  | zero =>
    intro i μ hi k
    exact bX12_house_233 E (fun _ => bX12_house_262 E hB (k μ (fun _ _ => rfl) (fun j h1 h2 => by omega) fun _ _ => rfl)) (fun c => absurd (by rw [nI_leE (by decide) (by omega)]; omega) c)
  | succ d ih =>
    intro i μ hi k
    refine bX12_house_233 E (fun c => by rw [nI_leE (by decide) (by omega)] at c; omega) (fun _ => ?_)
    refine bX12_house_240 E (by rw [nI_add]; exact vin (by omega) (by decide)) (vin (by omega) (by decide)) (bX12_house_256 E ?_)
    rw [nI_add, nI_add, ix_nI (by omega), ix_nI (by omega)]
    have un : ∀ j, j ≠ i → uR μ 456 (upd (μ 456) i (μ 456 (741 + i))) 456 j = μ 456 j := fun j hj => by rw [uR_s]; exact if_neg hj
    refine ih (i + 1) _ (by omega) fun μ' h1 h2 h3 => k μ' (fun a ha => by rw [h1 a ha, uR_n ha]) (fun j j1 j2 => ?_) (fun j hj => by rw [h3 j (by omega), un j (by omega)])
    rcases Nat.eq_or_lt_of_le j1 with rfl | j3
    · rw [h3 i (by omega), uR_s]
      exact if_pos rfl
    · rw [h2 j j3 j2, un _ (by omega)]
theorem y_house (R : RepM μ D im tx s f) (O : OkS D im tx) : CtrS Z mX12_house [mrf Z] μ (rI fun v μ' => v = (oHouse D tx).1 ∧ RepM μ' (oHouse D tx).2 im tx s f ∧ FrY μ μ') := by
  refine CtrS.intro (by decide +kernel) (Nat.le_of_ble_eq_true rfl) rfl fun X E hB => ?_
  refine bX12_house_0 E (bX12_house_5 E ?_)
  have f0 : FH μ (uR (uR μ 455 (upd (μ 455) 5 (nI 0))) 455 (upd (uR μ 455 (upd (μ 455) 5 (nI 0)) 455) 9 (-1))) := (NxM.up (by decide)).fh.tr FH.f9
  have f5 : uR (uR μ 455 (upd (μ 455) 5 (nI 0))) 455 (upd (uR μ 455 (upd (μ 455) 5 (nI 0)) 455) 9 (-1)) 455 5 = nI 0 := by rw [u4n (by decide), u4s]
  have f9 : uR (uR μ 455 (upd (μ 455) 5 (nI 0))) 455 (upd (uR μ 455 (upd (μ 455) 5 (nI 0)) 455) 9 (-1)) 455 9 = -1 := u4s
  generalize uR (uR μ 455 (upd (μ 455) 5 (nI 0))) 455 (upd (uR μ 455 (upd (μ 455) 5 (nI 0)) 455) 9 (-1)) = μ0 at *
  refine bX12_house_10 E (vin (by decide) (by decide)) (bX12_house_19 E (vin (by decide) (by decide)) (bX12_house_28 E (vin (by decide) (by decide)) (bX12_house_37 E (vin (by decide) (by decide)) (bX12_house_46 E (vin (by decide) (by decide)) ?_))))
  simp only [ix_nI (show 741 < 2147483648 by decide), ix_nI (show 852 < 2147483648 by decide), ix_nI (show 895 < 2147483648 by decide), ix_nI (show 928 < 2147483648 by decide), ix_nI (show 929 < 2147483648 by decide), uR_s, uR_uR]
  have g1 : ∀ a, a ≠ 456 → uR μ0 456 (upd (upd (upd (upd (upd (μ0 456) 741 (nI 0)) 852 (nI 0)) 895 (nI 0)) 928 (nI 0)) 929 (nI 0)) a = μ0 a := fun a ha => uR_n ha
  have g2 : ∀ j, j < 741 → uR μ0 456 (upd (upd (upd (upd (upd (μ0 456) 741 (nI 0)) 852 (nI 0)) 895 (nI 0)) 928 (nI 0)) 929 (nI 0)) 456 j = μ0 456 j := fun j hj => by
    rw [uR_s]
    show (if _ then _ else if _ then _ else if _ then _ else if _ then _ else if _ then _ else _) = _
    rw [if_neg (by omega), if_neg (by omega), if_neg (by omega), if_neg (by omega), if_neg (by omega)]
  have g3 : HM (uR μ0 456 (upd (upd (upd (upd (upd (μ0 456) 741 (nI 0)) 852 (nI 0)) 895 (nI 0)) 928 (nI 0)) 929 (nI 0)) 456) 741 D0 := by
    rw [uR_s]
    refine ⟨rfl, rfl, rfl, fun p q hp => absurd hp (Nat.not_lt_zero p), fun p hp => absurd hp (Nat.not_lt_zero p), fun p hp => absurd hp (Nat.not_lt_zero p), fun p hp => absurd hp (Nat.not_lt_zero p), fun l hl => ?_⟩
    match l, hl with
    | 0, _ => exact ⟨rfl, fun i hi => absurd hi (Nat.not_lt_zero i)⟩
    | 1, _ => exact ⟨rfl, fun i hi => absurd hi (Nat.not_lt_zero i)⟩
  generalize uR μ0 456 (upd (upd (upd (upd (upd (μ0 456) 741 (nI 0)) 852 (nI 0)) 895 (nI 0)) 928 (nI 0)) 929 (nI 0)) = μ1 at *
  have F1 : FH μ μ1 := f0.tr ⟨fun a _ h _ => g1 a h, fun i _ => by rw [g1 455 (by decide)], g2⟩
  have T : TXM μ tx.2 tx.1 := ⟨R.2.2.2.1.1, O.2.2.1, R.2.2.2.1.2, O.2.2.2⟩
  have he := O.2.2.1
  refine bX12_house_55 E (m_next (p := 0) (T.fh F1) (by rw [g1 455 (by decide)]; exact f5) (Nat.zero_le _)) fun μ2 h => ?_
  obtain ⟨h1, h2⟩ := h
  have F2 := F1.tr h1.fh
  have W := O.1.1
  have step : ∀ μ', FH μ μ' → RepM μ' D im tx s f := fun μ' F => by
    obtain ⟨r1, r2, r3, r4, r5, r6⟩ := R
    have ef : ∀ a, a ≠ 455 → a ≠ 456 → a ≠ 460 → μ' a = μ a := F.1
    refine ⟨r1.fr W fun i _ hi => F.2.2 i (by omega), r2.fr O.1.2.2.1 fun i _ hi => F.2.2 i (by omega), by rw [ef _ (by decide) (by decide) (by decide)]; exact r3, ⟨by rw [F.2.1 4 (by omega)]; exact r4.1, by rw [ef _ (by decide) (by decide) (by decide)]; exact r4.2⟩, ⟨⟨r5.1.1, fun k hk => by rw [ef _ (by decide) (by decide) (by decide)]; exact r5.1.2 k hk⟩, ⟨r5.2.1.1, fun k hk => by rw [ef _ (by decide) (by decide) (by decide)]; exact r5.2.1.2 k hk⟩, ?_⟩, fun i hi => ?_⟩
    · have q := r5.2.2
      first
        | (rw [F.2.1 _ (by decide)]; exact q)
        | (rw [ef _ (by decide) (by decide) (by decide)]; exact q)
    · rw [ef _ (by decide) (by decide) (by decide)]
      refine ⟨(r6 i hi).1, fun E hE => ?_⟩
      have := (r6 i hi).2 E hE
      have o := O.2.1 i E hi hE
      exact ⟨this.1.fr o.1 fun j j1 j2 => F.2.2 j (by omega), this.2.fr o.2.2.1 fun j j1 j2 => F.2.2 j (by omega)⟩
  have fy : ∀ μ', FH μ μ' → FrY μ μ' := fun μ' F a ha => F.1 a (by omega) (by omega) (by omega)
  refine hmL E hB 51 μ2 0 0 (.inr D0) (-1) (T.fh F2) h2 (by rw [h1.2 9 (by omega), g1 455 (by decide)]; exact f9) (Nat.zero_le _) (by omega) (Nat.le_refl _) ⟨rfl, by rw [h1.1 456 (by decide)]; exact g3, WF_0⟩ (fun μ' x hx F => ?_) (fun μ' L i hx ht F => ?_) (fun μ' L E' hx ht hH F => ?_)
  · have F' := F2.tr F
    refine ⟨_, rfl, ?_, ?_, fy _ F'⟩
    · unfold oHouse; rw [hx]
    · unfold oHouse; rw [hx]; exact step _ F'
  · have F' := F2.tr F
    have ht : tF L 0 D0 = .inl i := ht
    refine ⟨_, rfl, ?_, ?_, fy _ F'⟩
    · unfold oHouse; rw [hx]; simp only [ht]
    · unfold oHouse; rw [hx]; simp only [ht]; exact step _ F'
  · have F' := F2.tr F
    have ht : tF L 0 D0 = .inr E' := ht
    have WE := WF_tF L 0 D0 E' WF_0 ht
    rw [Nat.zero_add]
    refine bX12_house_231 E (cpL E hB 201 0 μ' rfl fun μ3 c1 c2 c3 => ?_)
    have R' := step _ F'
    refine ⟨_, rfl, ?_, ?_, fun a ha => by rw [c1 a (by omega), fy _ F' a ha]⟩
    · unfold oHouse; rw [hx]; simp only [ht]
    · unfold oHouse
      rw [hx]
      simp only [ht]
      refine R'.step O.2.1 (fun a h _ => c1 a h) (fun i j1 j2 => c3 i (by omega)) ?_ ?_ (by rw [c1 _ (by decide)]; exact R'.2.2.1)
      · exact (hH.mv WE fun i hi => by rw [Nat.zero_add]; exact c2 i (Nat.zero_le _) hi).congrD fun k hk => if_pos hk
      · exact (R'.2.1.fr O.1.2.2.1 fun i j1 j2 => c3 i (by omega)).congrD fun k j1 j2 => if_neg (by omega)
end MHOUSE
