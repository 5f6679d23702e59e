/-! TEXT: what THE TEXT says: blanks, runs, numbers, ITEMS; the class' readers of them -/
def sk (g : Nat → Nat) (e p : Nat) : Nat := if p < e ∧ g p = 32 then sk g e (p + 1) else p
termination_by e - p
def rn (g : Nat → Nat) (e lo hi p : Nat) : Nat := if p < e ∧ lo ≤ g p ∧ g p ≤ hi then rn g e lo hi (p + 1) else p
termination_by e - p
def vl (g : Nat → Nat) (q p v : Nat) : Nat := if p < q then vl g q (p + 1) (v * 10 + g p - 48) else v
termination_by q - p
section PURE
variable {g : Nat → Nat} {e lo hi p q v : Nat}
theorem sk_y (h : p < e ∧ g p = 32) : sk g e p = sk g e (p + 1) := by rw [sk]; exact if_pos h
theorem sk_n (h : ¬ (p < e ∧ g p = 32)) : sk g e p = p := by rw [sk]; exact if_neg h
theorem rn_y (h : p < e ∧ lo ≤ g p ∧ g p ≤ hi) : rn g e lo hi p = rn g e lo hi (p + 1) := by rw [rn]; exact if_pos h
theorem rn_n (h : ¬ (p < e ∧ lo ≤ g p ∧ g p ≤ hi)) : rn g e lo hi p = p := by rw [rn]; exact if_neg h
theorem vl_y (h : p < q) : vl g q p v = vl g q (p + 1) (v * 10 + g p - 48) := by rw [vl]; exact if_pos h
theorem vl_n (h : ¬ p < q) : vl g q p v = v := by rw [vl]; exact if_neg h
theorem sk_b : ∀ (d : Nat) {p : Nat}, e - p = d → p ≤ sk g e p ∧ (p ≤ e → sk g e p ≤ e)
  | 0, p, hd => by rw [sk_n (by omega)]; exact ⟨Nat.le_refl _, id⟩
  | d + 1, p, hd => by
    by_cases h : p < e ∧ g p = 32
    · rw [sk_y h]
      have := sk_b d (p := p + 1) (by omega)
      exact ⟨by omega, fun _ => this.2 (by omega)⟩
    · rw [sk_n h]; exact ⟨Nat.le_refl _, id⟩
theorem sk_le : p ≤ sk g e p := (sk_b _ rfl).1
theorem sk_e (h : p ≤ e) : sk g e p ≤ e := (sk_b _ rfl).2 h
theorem rn_b : ∀ (d : Nat) {p : Nat}, e - p = d → (p ≤ rn g e lo hi p ∧ (p ≤ e → rn g e lo hi p ≤ e)) ∧ ∀ q, p ≤ q → q < rn g e lo hi p → lo ≤ g q ∧ g q ≤ hi
  | 0, p, hd => by rw [rn_n (by omega)]; exact ⟨⟨Nat.le_refl _, id⟩, fun q h1 h2 => by omega⟩
  | d + 1, p, hd => by
    by_cases h : p < e ∧ lo ≤ g p ∧ g p ≤ hi
    · rw [rn_y h]
      have := rn_b d (p := p + 1) (by omega)
      refine ⟨⟨by omega, fun _ => this.1.2 (by omega)⟩, fun q h1 h2 => ?_⟩
      rcases Nat.eq_or_lt_of_le h1 with rfl | h3
      · exact h.2
      · exact this.2 q h3 h2
    · rw [rn_n h]; exact ⟨⟨Nat.le_refl _, id⟩, fun q h1 h2 => by omega⟩
theorem rn_le : p ≤ rn g e lo hi p := (rn_b _ rfl).1.1
theorem rn_e (h : p ≤ e) : rn g e lo hi p ≤ e := (rn_b _ rfl).1.2 h
theorem rn_in (h1 : p ≤ q) (h2 : q < rn g e lo hi p) : lo ≤ g q ∧ g q ≤ hi := (rn_b _ rfl).2 q h1 h2
theorem rn_gt (h : p < e ∧ lo ≤ g p ∧ g p ≤ hi) : p < rn g e lo hi p := by rw [rn_y h]; exact rn_le
end PURE
/-- the words -/
def strN : List (List Nat) := [[112, 108, 97, 99, 101], [119, 97, 121], [115, 101, 101, 115], [99, 104, 105, 108, 100], [98, 97, 114], [106, 111, 105, 110], [115, 108, 105, 112], [115, 112, 97, 114, 101], [109, 101, 97, 110, 115], [114, 111, 119]]
abbrev WW (g : Nat → Nat) (a b j : Nat) : Prop := b = a + strL.getD j 0 ∧ ∀ i, i < strL.getD j 0 → g (a + i) = (strN.getD j []).getD i 0
def kd (g : Nat → Nat) (a b : Nat) : Nat := if WW g a b 0 then 0 else if WW g a b 1 then 1 else if WW g a b 2 then 2 else if WW g a b 3 then 3 else if WW g a b 4 then 4 else if WW g a b 5 then 5 else if WW g a b 6 then 6 else if WW g a b 7 then 7 else if WW g a b 8 then 8 else if WW g a b 9 then 9 else 10
def nOf (k : Nat) : Nat := [0, 3, 2, 5, 2, 2, 2, 1, 2, 2].getD k 0
/-- n numbers from p on: where they end, or the place of the FAULT -/
def nm (g : Nat → Nat) (e : Nat) : Nat → Nat → Nat ⊕ Nat × List Nat
  | 0, p => .inr (p, [])
  | n + 1, p => if rn g e 48 57 (sk g e p) = sk g e p ∨ sk g e p + 3 < rn g e 48 57 (sk g e p) then .inl (sk g e p)
    else match nm g e n (rn g e 48 57 (sk g e p)) with
      | .inl x => .inl x
      | .inr (r, l) => .inr (r, vl g (rn g e 48 57 (sk g e p)) (sk g e p) 0 :: l)
/-- an ITEM that begins at p -/
def itm (g : Nat → Nat) (e p : Nat) : Nat ⊕ Nat × Nat × List Nat :=
  if kd g p (rn g e 97 122 p) < 10 then
    match nm g e (nOf (kd g p (rn g e 97 122 p))) (rn g e 97 122 p) with
    | .inl x => .inl x
    | .inr (r, l) => if sk g e r < e ∧ g (sk g e r) = 59 then .inr (sk g e r + 1, kd g p (rn g e 97 122 p), l) else .inl (sk g e r)
  else .inl p
/-- the ITEMS from p on -/
def prs (g : Nat → Nat) (e : Nat) : Nat → Nat → Nat ⊕ List (Nat × List Nat)
  | 0, _ => .inr []
  | n + 1, p => if sk g e p < e then
      match itm g e (sk g e p) with
      | .inl x => .inl x
      | .inr (r, k, l) => match prs g e n r with
        | .inl x => .inl x
        | .inr L => .inr ((k, l) :: L)
    else .inr []
section PURE2
variable {g : Nat → Nat} {e : Nat}
theorem kd_ww {a b : Nat} (h : kd g a b < 10) : WW g a b (kd g a b) := by
  unfold kd at h ⊢
  by_cases h0 : WW g a b 0
  · rw [if_pos h0]; exact h0
  by_cases h1 : WW g a b 1
  · rw [if_neg h0, if_pos h1]; exact h1
  by_cases h2 : WW g a b 2
  · rw [if_neg h0, if_neg h1, if_pos h2]; exact h2
  by_cases h3 : WW g a b 3
  · rw [if_neg h0, if_neg h1, if_neg h2, if_pos h3]; exact h3
  by_cases h4 : WW g a b 4
  · rw [if_neg h0, if_neg h1, if_neg h2, if_neg h3, if_pos h4]; exact h4
  by_cases h5 : WW g a b 5
  · rw [if_neg h0, if_neg h1, if_neg h2, if_neg h3, if_neg h4, if_pos h5]; exact h5
  by_cases h6 : WW g a b 6
  · rw [if_neg h0, if_neg h1, if_neg h2, if_neg h3, if_neg h4, if_neg h5, if_pos h6]; exact h6
  by_cases h7 : WW g a b 7
  · rw [if_neg h0, if_neg h1, if_neg h2, if_neg h3, if_neg h4, if_neg h5, if_neg h6, if_pos h7]; exact h7
  by_cases h8 : WW g a b 8
  · rw [if_neg h0, if_neg h1, if_neg h2, if_neg h3, if_neg h4, if_neg h5, if_neg h6, if_neg h7, if_pos h8]; exact h8
  by_cases h9 : WW g a b 9
  · rw [if_neg h0, if_neg h1, if_neg h2, if_neg h3, if_neg h4, if_neg h5, if_neg h6, if_neg h7, if_neg h8, if_pos h9]; exact h9
  rw [if_neg h0, if_neg h1, if_neg h2, if_neg h3, if_neg h4, if_neg h5, if_neg h6, if_neg h7, if_neg h8, if_neg h9] at h
  exact absurd h (by decide)
theorem len_n : ∀ k, k < 10 → 6 ≤ strL.getD k 0 + nOf k + 1 ∧ nOf k ≤ 5 ∧ 0 < strL.getD k 0 := by decide +kernel
theorem nm_b : ∀ (n : Nat) {p r : Nat} {l : List Nat}, p ≤ e → nm g e n p = .inr (r, l) → p + n ≤ r ∧ r ≤ e ∧ l.length = n
  | 0, p, r, l, hp, h => by
    cases h
    exact ⟨Nat.le_refl _, hp, rfl⟩
  | n + 1, p, r, l, hp, h => by
    unfold nm at h
    have h1 := sk_le (g := g) (e := e) (p := p)
    have h2 := sk_e (g := g) hp
    have h3 := rn_le (g := g) (e := e) (lo := 48) (hi := 57) (p := sk g e p)
    have h4 := rn_e (g := g) (lo := 48) (hi := 57) h2
    by_cases c : rn g e 48 57 (sk g e p) = sk g e p ∨ sk g e p + 3 < rn g e 48 57 (sk g e p)
    · rw [if_pos c] at h; cases h
    · rw [if_neg c] at h
      cases hn : nm g e n (rn g e 48 57 (sk g e p)) with
      | inl x => rw [hn] at h; cases h
      | inr q =>
        obtain ⟨r1, l1⟩ := q
        rw [hn] at h
        cases h
        have := nm_b n h4 hn
        exact ⟨by omega, this.2.1, by rw [List.length_cons, this.2.2]⟩
theorem itm_b {p r k : Nat} {l : List Nat} (hp : p ≤ e) (h : itm g e p = .inr (r, k, l)) : p + 6 ≤ r ∧ r ≤ e ∧ k < 10 ∧ l.length = nOf k := by
  unfold itm at h
  have h3 := rn_le (g := g) (e := e) (lo := 97) (hi := 122) (p := p)
  have h4 := rn_e (g := g) (lo := 97) (hi := 122) hp
  by_cases c : kd g p (rn g e 97 122 p) < 10
  · rw [if_pos c] at h
    cases hn : nm g e (nOf (kd g p (rn g e 97 122 p))) (rn g e 97 122 p) with
    | inl x => rw [hn] at h; cases h
    | inr q =>
      obtain ⟨r1, l1⟩ := q
      rw [hn] at h
      simp only [] at h
      by_cases c2 : sk g e r1 < e ∧ g (sk g e r1) = 59
      · rw [if_pos c2] at h
        cases h
        have h5 := nm_b _ h4 hn
        have h6 := sk_le (g := g) (e := e) (p := r1)
        have h7 := (kd_ww c).1
        have h8 := len_n _ c
        exact ⟨by omega, by omega, c, h5.2.2⟩
      · rw [if_neg c2] at h; cases h
  · rw [if_neg c] at h; cases h
theorem prs_b : ∀ (n : Nat) {p : Nat} {L : List (Nat × List Nat)}, p ≤ e → prs g e n p = .inr L → p + 6 * L.length ≤ e ∧ ∀ kl, kl ∈ L → kl.1 < 10 ∧ kl.2.length = nOf kl.1
  | 0, p, L, hp, h => by cases h; exact ⟨by simpa using hp, fun kl hk => by cases hk⟩
  | n + 1, p, L, hp, h => by
    unfold prs at h
    have h1 := sk_le (g := g) (e := e) (p := p)
    by_cases c : sk g e p < e
    · rw [if_pos c] at h
      cases hi : itm g e (sk g e p) with
      | inl x => rw [hi] at h; cases h
      | inr q =>
        obtain ⟨r, k, l⟩ := q
        rw [hi] at h
        simp only [] at h
        have h2 := itm_b (Nat.le_of_lt c) hi
        cases hr : prs g e n r with
        | inl x => rw [hr] at h; cases h
        | inr L1 =>
          rw [hr] at h
          cases h
          have h3 := prs_b n h2.2.1 hr
          refine ⟨by rw [List.length_cons]; omega, fun kl hk => ?_⟩
          rcases List.mem_cons.mp hk with rfl | hk
          · exact h2.2.2
          · exact h3.2 kl hk
    · rw [if_neg c] at h
      cases h
      exact ⟨by simpa using hp, fun kl hk => by cases hk⟩
theorem nm_x : ∀ (n : Nat) {p x : Nat}, p ≤ e → nm g e n p = .inl x → x ≤ e
  | 0, p, x, hp, h => by cases h
  | n + 1, p, x, hp, h => by
    unfold nm at h
    have h2 := sk_e (g := g) hp
    by_cases c : rn g e 48 57 (sk g e p) = sk g e p ∨ sk g e p + 3 < rn g e 48 57 (sk g e p)
    · rw [if_pos c] at h; cases h; exact h2
    · rw [if_neg c] at h
      cases hn : nm g e n (rn g e 48 57 (sk g e p)) with
      | inl y =>
        rw [hn] at h
        cases h
        exact nm_x n (rn_e h2) hn
      | inr q => rw [hn] at h; cases h
theorem itm_x {p x : Nat} (hp : p ≤ e) (h : itm g e p = .inl x) : x ≤ e := by
  unfold itm at h
  have h4 := rn_e (g := g) (lo := 97) (hi := 122) hp
  by_cases c : kd g p (rn g e 97 122 p) < 10
  · rw [if_pos c] at h
    cases hn : nm g e (nOf (kd g p (rn g e 97 122 p))) (rn g e 97 122 p) with
    | inl y =>
      rw [hn] at h
      cases h
      exact nm_x _ h4 hn
    | inr q =>
      obtain ⟨r1, l1⟩ := q
      rw [hn] at h
      simp only [] at h
      by_cases c2 : sk g e r1 < e ∧ g (sk g e r1) = 59
      · rw [if_pos c2] at h; cases h
      · rw [if_neg c2] at h
        cases h
        exact sk_e (nm_b _ h4 hn).2.1
  · rw [if_neg c] at h; cases h; exact hp
theorem prs_x : ∀ (n : Nat) {p x : Nat}, p ≤ e → prs g e n p = .inl x → x ≤ e
  | 0, p, x, hp, h => by cases h
  | n + 1, p, x, hp, h => by
    unfold prs at h
    by_cases c : sk g e p < e
    · rw [if_pos c] at h
      cases hi : itm g e (sk g e p) with
      | inl y =>
        rw [hi] at h
        cases h
        exact itm_x (Nat.le_of_lt c) hi
      | inr q =>
        obtain ⟨r, k, l⟩ := q
        rw [hi] at h
        simp only [] at h
        cases hr : prs g e n r with
        | inl y =>
          rw [hr] at h
          cases h
          exact prs_x n (itm_b (Nat.le_of_lt c) hi).2.1 hr
        | inr L1 => rw [hr] at h; cases h
    · rw [if_neg c] at h; cases h
end PURE2
/-- THE TEXT in the class' world -/
def TXC (μ : Mu) (g : Nat → Nat) (e : Nat) : Prop := μ 31 1 = nI e ∧ e ≤ 300 ∧ (∀ i, i < e → μ 32 i = nI (g i)) ∧ ∀ i, i < e → g i < 256
/-- only where the class reads has moved, to x -/
def AtC (μ μ' : Mu) (x : Nat) : Prop := (∀ a, a ≠ 31 → μ' a = μ a) ∧ (∀ i, i ≠ 5 → μ' 31 i = μ 31 i) ∧ μ' 31 5 = nI x
section READ
variable {Z : ZT} {μ : Mu} {g : Nat → Nat} {e : Nat}
theorem AtC.up {x : Nat} {v : Int32} (hv : v = nI x) : AtC μ (uR μ 31 (upd (μ 31) 5 v)) x := by
  subst hv
  refine ⟨fun a ha => uR_n ha, fun i hi => by rw [uR_s]; simp [upd, hi], by rw [uR_s]; simp [upd]⟩
theorem AtC.trans {μ1 μ2 : Mu} {x y : Nat} (h : AtC μ μ1 x) (k : AtC μ1 μ2 y) : AtC μ μ2 y :=
  ⟨fun a ha => by rw [k.1 a ha, h.1 a ha], fun i hi => by rw [k.2.1 i hi, h.2.1 i hi], k.2.2⟩
theorem TXC.at {μ1 : Mu} {x : Nat} (h : TXC μ g e) (k : AtC μ μ1 x) : TXC μ1 g e :=
  ⟨by rw [k.2.1 1 (by decide)]; exact h.1, h.2.1, by rw [k.1 32 (by decide)]; exact h.2.2.1, h.2.2.2⟩
theorem skL {X : XT} {P : Option Value → Mu → Prop} (E : Ent Z X mX9_skipBlanks 0 0) (hB : BodS Z X P) : ∀ (d : Nat) {μ : Mu} {p : Nat}, TXC μ g e → μ 31 5 = nI p → e - p = d → p ≤ e →
    (∀ μ', AtC μ μ' (sk g e p) → P none μ') → JS Z X 0 [(0, .ref (Z.2.2.1 + 31))] [] μ := by
  intro d
  induction d with
  | zero =>
    intro μ p T ha hd hp k
    have he := T.2.1
    have h0 : AtC μ μ p := ⟨fun _ _ => rfl, fun _ _ => rfl, ha⟩
    refine bX9_skipBlanks_0 E (fun _ => bX9_skipBlanks_38 E hB (k μ (by rw [sk_n (by omega)]; exact h0))) (fun c => absurd (by rw [T.1, ha, nI_leE (by omega) (by omega)]; omega) c)
  | succ d ih =>
    intro μ p T ha hd hp k
    have he := T.2.1
    have h0 : AtC μ μ p := ⟨fun _ _ => rfl, fun _ _ => rfl, ha⟩
    refine bX9_skipBlanks_0 E (fun c => by rw [T.1, ha, nI_leE (by omega) (by omega)] at c; omega) (fun _ => ?_)
    have ht := T.2.2.1 p (by omega)
    have hg := T.2.2.2 p (by omega)
    refine bX9_skipBlanks_11 E (by rw [ha]; exact vin (by omega) (by decide)) (fun c => ?_) (fun c => ?_)
    · rw [ha, ix_nI (by omega), ht, nI_eqE (by omega) (by decide)] at c
      exact bX9_skipBlanks_38 E hB (k μ (by rw [sk_n fun q => c q.2]; exact h0))
    · rw [ha, ix_nI (by omega), ht, nI_eqE (by omega) (by decide)] at c
      refine bX9_skipBlanks_25 E (bX9_skipBlanks_35 E ?_)
      have h1 : AtC μ (uR μ 31 (upd (μ 31) 5 (μ 31 5 + nI 1))) (p + 1) := AtC.up (by rw [ha, nI_add])
      exact ih (T.at h1) h1.2.2 (by omega) (by omega) fun μ' h2 => k μ' (by rw [sk_y ⟨by omega, c⟩]; exact h1.trans h2)
theorem c_skipBlanks {p : Nat} (T : TXC μ g e) (ha : μ 31 5 = nI p) (hp : p ≤ e) : CtrS Z mX9_skipBlanks [.ref (Z.2.2.1 + 31)] μ (rV fun μ' => AtC μ μ' (sk g e p)) := by
  refine CtrS.intro (by decide +kernel) (Nat.le_of_ble_eq_true rfl) rfl fun X E hB => ?_
  exact skL E hB _ T ha rfl hp fun μ' h => ⟨rfl, h⟩
theorem rnL {X : XT} {P : Option Value → Mu → Prop} {lo hi : Nat} (E : Ent Z X mX9_endOfRun 0 0) (hB : BodS Z X P) (T : TXC μ g e) (hlo : lo < 256) (hhi : hi < 256) : ∀ (d : Nat) {p : Nat}, e - p = d → p ≤ e →
    P (some (.int (nI (rn g e lo hi p)))) μ → JS Z X 5 [(0, .ref (Z.2.2.1 + 31)), (1, .int (nI lo)), (2, .int (nI hi)), (3, .int (nI p))] [] μ := by
  have he := T.2.1
  intro d
  induction d with
  | zero =>
    intro p hd hp k
    refine bX9_endOfRun_5 E (fun _ => bX9_endOfRun_39 E hB (by rw [rn_n (by omega)] at k; exact k)) (fun c => absurd (by rw [T.1, nI_leE (by omega) (by omega)]; omega) c)
  | succ d ih =>
    intro p hd hp k
    refine bX9_endOfRun_5 E (fun c => by rw [T.1, nI_leE (by omega) (by omega)] at c; omega) (fun _ => ?_)
    have ht := T.2.2.1 p (by omega)
    have hg := T.2.2.2 p (by omega)
    refine bX9_endOfRun_13 E (vin (by omega) (by decide)) (fun c => ?_) (fun c => ?_)
    · rw [ix_nI (by omega), ht, nI_ltE (by omega) (by omega)] at c
      exact bX9_endOfRun_39 E hB (by rw [rn_n (by omega)] at k; exact k)
    · rw [ix_nI (by omega), ht, nI_ltE (by omega) (by omega)] at c
      refine bX9_endOfRun_23 E (vin (by omega) (by decide)) (fun c2 => ?_) (fun c2 => ?_)
      · rw [ix_nI (by omega), ht, nI_ltE (by omega) (by omega)] at c2
        exact bX9_endOfRun_39 E hB (by rw [rn_n (by omega)] at k; exact k)
      · rw [ix_nI (by omega), ht, nI_ltE (by omega) (by omega)] at c2
        refine bX9_endOfRun_33 E ?_
        rw [nI_add]
        exact ih (by omega) (by omega) (by rw [rn_y ⟨by omega, by omega, by omega⟩] at k; exact k)
theorem c_endOfRun {p lo hi : Nat} (T : TXC μ g e) (ha : μ 31 5 = nI p) (hp : p ≤ e) (hlo : lo < 256) (hhi : hi < 256) : CtrS Z mX9_endOfRun [.ref (Z.2.2.1 + 31), .int (nI lo), .int (nI hi)] μ (rI fun r μ' => μ' = μ ∧ r = nI (rn g e lo hi p)) := by
  refine CtrS.intro (by decide +kernel) (Nat.le_of_ble_eq_true rfl) rfl fun X E hB => ?_
  refine bX9_endOfRun_0 E ?_
  rw [ha]
  exact rnL E hB T hlo hhi _ rfl hp ⟨_, rfl, rfl, rfl⟩
theorem vlL {X : XT} {P : Option Value → Mu → Prop} {q : Nat} (E : Ent Z X mX9_valueTo 0 0) (hB : BodS Z X P) (T : TXC μ g e) (hq : q ≤ e) : ∀ (d : Nat) {p v : Nat}, q - p = d → (∀ i, p ≤ i → i < q → 48 ≤ g i) → p ≤ q →
    P (some (.int (nI (vl g q p v)))) μ → JS Z X 7 [(0, .ref (Z.2.2.1 + 31)), (1, .int (nI q)), (2, .int (nI v)), (3, .int (nI p))] [] μ := by
  have he := T.2.1
  intro d
  induction d with
  | zero =>
    intro p v hd hi hp k
    refine bX9_valueTo_7 E (fun _ => bX9_valueTo_33 E hB (by rw [vl_n (by omega)] at k; exact k)) (fun c => absurd (by rw [nI_leE (by omega) (by omega)]; omega) c)
  | succ d ih =>
    intro p v hd hi hp k
    refine bX9_valueTo_7 E (fun c => by rw [nI_leE (by omega) (by omega)] at c; omega) (fun _ => ?_)
    have ht := T.2.2.1 p (by omega)
    have hg := hi p (Nat.le_refl _) (by omega)
    refine bX9_valueTo_12 E (vin (by omega) (by decide)) ?_
    rw [ix_nI (by omega), ht, nI_mul, nI_add, nI_sub (by omega), nI_add]
    exact ih (by omega) (fun i h1 h2 => hi i (by omega) h2) (by omega) (by rw [vl_y (by omega)] at k; exact k)
theorem c_valueTo {p q : Nat} (T : TXC μ g e) (ha : μ 31 5 = nI p) (hp : p ≤ q) (hq : q ≤ e) (hi : ∀ i, p ≤ i → i < q → 48 ≤ g i) : CtrS Z mX9_valueTo [.ref (Z.2.2.1 + 31), .int (nI q)] μ (rI fun r μ' => μ' = μ ∧ r = nI (vl g q p 0)) := by
  refine CtrS.intro (by decide +kernel) (Nat.le_of_ble_eq_true rfl) rfl fun X E hB => ?_
  refine bX9_valueTo_0 E ?_
  rw [ha]
  exact vlL E hB T hq _ rfl hi hp ⟨_, rfl, rfl, rfl⟩
theorem s_BN : ∀ j, j < 10 → ∀ i, i < strL.getD j 0 → (strB.getD j []).getD i 0 = nI ((strN.getD j []).getD i 0) ∧ (strN.getD j []).getD i 0 < 256 := by decide +kernel
theorem WS_WW {a b j : Nat} (hj : j < 10) (T : TXC μ g e) (hb : b ≤ e) : WS (μ 32) a b j ↔ WW g a b j := by
  have he := T.2.1
  refine ⟨fun w => ⟨w.1, fun i hi => ?_⟩, fun w => ⟨w.1, fun i hi => ?_⟩⟩
  · have h1 := w.2 i hi
    have h0 := w.1
    have h2 := s_BN j hj i hi
    rw [T.2.2.1 (a + i) (by omega), h2.1] at h1
    have h3 := T.2.2.2 (a + i) (by omega)
    exact nI_inj (by omega) (by omega) h1
  · have h0 := w.1
    rw [T.2.2.1 (a + i) (by omega), w.2 i hi, (s_BN j hj i hi).1]
theorem kw_kd {a b : Nat} (T : TXC μ g e) (hb : b ≤ e) : kw (μ 32) a b = kd g a b := by
  have h : ∀ j, j < 10 → ((WS (μ 32) a b j) = (WW g a b j)) := fun j hj => propext (WS_WW hj T hb)
  unfold kw kd
  simp only [h 0 (by decide), h 1 (by decide), h 2 (by decide), h 3 (by decide), h 4 (by decide), h 5 (by decide), h 6 (by decide), h 7 (by decide), h 8 (by decide), h 9 (by decide)]
theorem c_kind {p q : Nat} (T : TXC μ g e) (ha : μ 31 5 = nI p) (hp : p ≤ q) (hq : q ≤ e) : CtrS Z mX9_kindTo [.ref (Z.2.2.1 + 31), .int (nI q)] μ (rI fun r μ' => μ' = μ ∧ r = (if kd g p q < 10 then nI (kd g p q) else -1)) := by
  have he := T.2.1
  have := c_kindTo (Z := Z) ha hp (by omega)
  rw [kw_kd T hq] at this
  exact this
end READ
