/-! ORDERS: the next one, the sorted one, as pure functions; after 720 there is none -/
def uN (q : Nat → Nat) (a v : Nat) : Nat → Nat := fun j => if j = a then v else q j
theorem uN_s {q : Nat → Nat} {a v : Nat} : uN q a v a = v := if_pos rfl
theorem uN_n {q : Nat → Nat} {a v j : Nat} (h : j ≠ a) : uN q a v j = q j := if_neg h
def swp (q : Nat → Nat) (a b : Nat) : Nat → Nat := uN (uN q a (q b)) b (q a)
theorem swp_j {q : Nat → Nat} {a b j : Nat} : swp q a b j = if j = b then q a else if j = a then q b else q j := rfl
def riseF (q : Nat → Nat) : Nat → Nat
  | 0 => 0
  | k + 1 => if q k ≤ q (k + 1) then k + 1 else riseF q k
def nxF (q : Nat → Nat) (r : Nat) : Nat → Nat
  | 0 => 0
  | j + 1 => if q r ≤ q (j + 1) then j + 1 else nxF q r j
def rvF : Nat → (Nat → Nat) → Nat → Nat → (Nat → Nat)
  | 0, q, _, _ => q
  | k + 1, q, a, b => if a < b then rvF k (swp q a b) (a + 1) (b - 1) else q
def nxt (q : Nat → Nat) (n : Nat) : Option (Nat → Nat) := match riseF q (n - 1) with
  | 0 => none
  | r + 1 => some (rvF 6 (swp q r (nxF q r (n - 1))) (r + 1) (n - 1))
def fo {β : Type} (step : β → (Nat → Nat) → β) (n : Nat) : Nat → (Nat → Nat) → β → β
  | 0, _, st => st
  | k + 1, q, st => match nxt q n with
    | none => step st q
    | some q' => fo step n k q' (step st q)
def ends (n : Nat) : Nat → (Nat → Nat) → Bool
  | 0, _ => false
  | k + 1, q => match nxt q n with
    | none => true
    | some q' => ends n k q'
theorem riseF_le {q : Nat → Nat} : ∀ k, riseF q k ≤ k
  | 0 => Nat.le_refl 0
  | k + 1 => by have := riseF_le (q := q) k; unfold riseF; split <;> omega
theorem riseF_ok {q : Nat → Nat} : ∀ k r, riseF q k = r + 1 → q r ≤ q (r + 1)
  | 0, r, h => by unfold riseF at h; omega
  | k + 1, r, h => by
    unfold riseF at h
    by_cases c : q k ≤ q (k + 1)
    · rw [if_pos c] at h
      obtain rfl : k = r := by omega
      exact c
    · rw [if_neg c] at h; exact riseF_ok k r h
theorem nxF_le {q : Nat → Nat} {r : Nat} : ∀ j, nxF q r j ≤ j
  | 0 => Nat.le_refl 0
  | j + 1 => by have := nxF_le (q := q) (r := r) j; unfold nxF; split <;> omega
theorem nxF_ge {q : Nat → Nat} {r : Nat} (h : q r ≤ q (r + 1)) : ∀ j, r + 1 ≤ j → r + 1 ≤ nxF q r j
  | 0, hj => by omega
  | j + 1, hj => by
    unfold nxF
    by_cases c : q r ≤ q (j + 1)
    · rw [if_pos c]; exact hj
    · rw [if_neg c]
      have : r ≠ j := fun e => c (e ▸ h)
      exact nxF_ge h j (by omega)
/-- one order is another one behind a map that keeps what is less -/
def ORel (n : Nat) (S q p : Nat → Nat) : Prop := ∀ j, j < n → q j = S (p j) ∧ p j < n
def MonS (n : Nat) (S : Nat → Nat) : Prop := ∀ a b, a < n → b < n → (S a ≤ S b ↔ a ≤ b)
theorem ORel.swap {n a b : Nat} {S q p : Nat → Nat} (h : ORel n S q p) (ha : a < n) (hb : b < n) : ORel n S (swp q a b) (swp p a b) := fun j hj => by
  rw [swp_j, swp_j]
  by_cases c : j = b
  · rw [if_pos c, if_pos c]; exact h a ha
  · rw [if_neg c, if_neg c]
    by_cases d : j = a
    · rw [if_pos d, if_pos d]; exact h b hb
    · rw [if_neg d, if_neg d]; exact h j hj
theorem ORel.rise {n : Nat} {S q p : Nat → Nat} (h : ORel n S q p) (m : MonS n S) : ∀ k, k < n → riseF q k = riseF p k
  | 0, _ => rfl
  | k + 1, hk => by
    unfold riseF
    rw [(h k (by omega)).1, (h (k + 1) hk).1, ORel.rise h m k (by omega)]
    simp only [m _ _ (h k (by omega)).2 (h (k + 1) hk).2]
theorem ORel.nx {n r : Nat} {S q p : Nat → Nat} (h : ORel n S q p) (m : MonS n S) (hr : r < n) : ∀ j, j < n → nxF q r j = nxF p r j
  | 0, _ => rfl
  | j + 1, hj => by
    unfold nxF
    rw [(h r hr).1, (h (j + 1) hj).1, ORel.nx h m hr j (by omega)]
    simp only [m _ _ (h r hr).2 (h (j + 1) hj).2]
theorem ORel.rv {n : Nat} {S : Nat → Nat} : ∀ k (q p : Nat → Nat) a b, ORel n S q p → b < n → ORel n S (rvF k q a b) (rvF k p a b)
  | 0, _, _, _, _, h, _ => h
  | k + 1, q, p, a, b, h, hb => by
    unfold rvF
    by_cases c : a < b
    · rw [if_pos c, if_pos c]; exact ORel.rv k _ _ _ _ (h.swap (by omega) hb) (by omega)
    · rw [if_neg c, if_neg c]; exact h
theorem ORel.next {n : Nat} {S q p : Nat → Nat} (h : ORel n S q p) (m : MonS n S) (hn : 0 < n) : (nxt q n = none ∧ nxt p n = none) ∨ ∃ q' p', nxt q n = some q' ∧ nxt p n = some p' ∧ ORel n S q' p' := by
  unfold nxt
  rw [h.rise m (n - 1) (by omega)]
  have le := riseF_le (q := p) (n - 1)
  cases hr : riseF p (n - 1) with
  | zero => exact Or.inl ⟨rfl, rfl⟩
  | succ r =>
    rw [hr] at le
    refine Or.inr ⟨_, _, rfl, rfl, ?_⟩
    have l2 := nxF_le (q := p) (r := r) (n - 1)
    rw [h.nx m (show r < n by omega) (n - 1) (by omega)]
    exact ORel.rv 6 _ _ _ _ (h.swap (by omega) (by omega)) (by omega)
/-- orders as numbers -/
def dec (c j : Nat) : Nat := c / 8 ^ j % 8
def enc (q : Nat → Nat) : Nat → Nat
  | 0 => 0
  | n + 1 => enc q n + q n * 8 ^ n
theorem enc_lt {q : Nat → Nat} : ∀ n, (∀ j, j < n → q j < 8) → enc q n < 8 ^ n
  | 0, _ => (by decide : 0 < 1)
  | n + 1, h => by
    have a := enc_lt n fun j hj => h j (by omega)
    have b : q n * 8 ^ n ≤ 7 * 8 ^ n := Nat.mul_le_mul_right _ (by have := h n (by omega); omega)
    rw [enc, Nat.pow_succ]
    omega
theorem dec_enc {q : Nat → Nat} : ∀ n, (∀ j, j < n → q j < 8) → ∀ j, j < n → dec (enc q n) j = q j
  | 0, _, j, hj => by omega
  | n + 1, h, j, hj => by
    have a := enc_lt n fun j hj => h j (by omega)
    unfold dec
    rw [enc]
    by_cases c : j = n
    · subst c
      rw [Nat.add_mul_div_right _ _ (Nat.pow_pos (by decide)), Nat.div_eq_of_lt a, Nat.zero_add, Nat.mod_eq_of_lt (h j (by omega))]
    · have e : 8 ^ n = 8 ^ j * (8 * 8 ^ (n - 1 - j)) := by
        rw [show 8 * 8 ^ (n - 1 - j) = 8 ^ (n - 1 - j + 1) by rw [Nat.pow_succ, Nat.mul_comm], ← Nat.pow_add]
        congr 1; omega
      have ih := dec_enc n (fun j hj => h j (by omega)) j (by omega)
      unfold dec at ih
      rw [e, ← Nat.mul_assoc, Nat.mul_comm (q n), Nat.mul_assoc, Nat.add_mul_div_left _ _ (Nat.pow_pos (by decide)), Nat.mul_left_comm, Nat.add_mul_mod_self_left]
      exact ih
def nxC (n c : Nat) : Nat := match nxt (dec c) n with
  | none => 0
  | some q => enc q n + 1
def endC (n : Nat) : Nat → Nat → Bool
  | 0, _ => false
  | k + 1, c => match nxC n c with
    | 0 => true
    | c' + 1 => endC n k c'
theorem endC_ok {n : Nat} {S : Nat → Nat} (m : MonS n S) (hn : 0 < n) (h6 : n ≤ 6) : ∀ k c q, ORel n S q (dec c) → endC n k c = true → ends n k q = true
  | 0, _, _, _, h => by unfold endC at h; exact absurd h (by decide)
  | k + 1, c, q, hR, h => by
    unfold endC nxC at h
    unfold ends
    rcases hR.next m hn with ⟨e1, e2⟩ | ⟨q', p', e1, e2, e3⟩
    · rw [e1]
    · rw [e2] at h
      rw [e1]
      refine endC_ok m hn h6 k (enc p' n) q' (fun j hj => ?_) h
      rw [dec_enc n (fun j hj => by have := (e3 j hj).2; omega) j hj]
      exact e3 j hj
theorem end720 : ∀ n, n < 7 → endC n 720 (enc (fun j => j) n) = true := by decide +kernel
theorem ends_sorted {n : Nat} {q : Nat → Nat} (h6 : n ≤ 6) (h : ∀ a b, a < b → b < n → q a < q b) : ends n 720 q = true := by
  rcases Nat.eq_zero_or_pos n with e | hn
  · subst e; rfl
  · refine endC_ok (S := q) (fun a b ha hb => ⟨fun hab => ?_, fun hab => ?_⟩) hn h6 720 _ q (fun j hj => ?_) (end720 n (by omega))
    · rcases Nat.lt_or_ge b a with c | c
      · have := h b a c ha; omega
      · exact c
    · rcases Nat.lt_or_ge a b with c | c
      · exact Nat.le_of_lt (h a b c hb)
      · obtain rfl : a = b := by omega
        exact Nat.le_refl _
    · rw [dec_enc n (fun j hj => by omega) j hj]
      exact ⟨rfl, hj⟩
/-! what stays along the orders: slips, and sums over them -/
def Sm (φ : Nat → Nat) (q : Nat → Nat) : Nat → Nat
  | 0 => 0
  | n + 1 => Sm φ q n + φ (q n)
theorem Sm_c {φ q q' : Nat → Nat} : ∀ n, (∀ j, j < n → q j = q' j) → Sm φ q n = Sm φ q' n
  | 0, _ => rfl
  | n + 1, h => by rw [Sm, Sm, Sm_c n (fun j hj => h j (by omega)), h n (by omega)]
theorem Sm_u {φ q : Nat → Nat} {a v : Nat} : ∀ n, a < n → Sm φ (uN q a v) n + φ (q a) = Sm φ q n + φ v
  | 0, h => by omega
  | n + 1, h => by
    rw [Sm, Sm]
    by_cases c : n = a
    · subst c
      rw [uN_s, Sm_c (q := uN q n v) (q' := q) n (fun j hj => uN_n (by omega))]; omega
    · have := Sm_u (φ := φ) (q := q) (v := v) n (show a < n by omega)
      rw [uN_n c]; omega
theorem Sm_swp {φ q : Nat → Nat} {a b n : Nat} (ha : a < n) (hb : b < n) : Sm φ (swp q a b) n = Sm φ q n := by
  unfold swp
  have h1 := Sm_u (φ := φ) (q := uN q a (q b)) (v := q a) n hb
  have h2 := Sm_u (φ := φ) (q := q) (v := q b) n ha
  by_cases c : b = a
  · subst c
    rw [uN_s] at h1; omega
  · rw [uN_n c] at h1; omega
theorem Sm_rv {φ : Nat → Nat} {n : Nat} : ∀ k q a b, b < n → Sm φ (rvF k q a b) n = Sm φ q n
  | 0, _, _, _, _ => rfl
  | k + 1, q, a, b, hb => by
    unfold rvF
    by_cases c : a < b
    · rw [if_pos c, Sm_rv k _ _ _ (by omega), Sm_swp (by omega) hb]
    · rw [if_neg c]
theorem Sm_nxt {φ q q' : Nat → Nat} {n : Nat} (h : nxt q n = some q') : Sm φ q' n = Sm φ q n := by
  unfold nxt at h
  have le := riseF_le (q := q) (n - 1)
  cases hr : riseF q (n - 1) with
  | zero => rw [hr] at h; exact nomatch h
  | succ r =>
    rw [hr] at h le
    obtain rfl := Option.some.inj h
    have l2 := nxF_le (q := q) (r := r) (n - 1)
    rw [Sm_rv _ _ _ _ (by omega), Sm_swp (by omega) (by omega)]
theorem QO.swap {D : DD} {q : Nat → Nat} {n a b : Nat} (Q : QO D q n) (ha : a < n) (hb : b < n) : QO D (swp q a b) n := ⟨Q.1, fun j hj => by
  rw [swp_j]
  split
  · exact Q.2 a ha
  · split
    · exact Q.2 b hb
    · exact Q.2 j hj⟩
theorem QO.rv {D : DD} {n : Nat} : ∀ k q a b, QO D q n → b < n → QO D (rvF k q a b) n
  | 0, _, _, _, h, _ => h
  | k + 1, q, a, b, h, hb => by
    unfold rvF
    by_cases c : a < b
    · rw [if_pos c]; exact QO.rv k _ _ _ (h.swap (by omega) hb) (by omega)
    · rw [if_neg c]; exact h
theorem QO.next {D : DD} {q q' : Nat → Nat} {n : Nat} (Q : QO D q n) (h : nxt q n = some q') : QO D q' n := by
  unfold nxt at h
  have le := riseF_le (q := q) (n - 1)
  cases hr : riseF q (n - 1) with
  | zero => rw [hr] at h; exact nomatch h
  | succ r =>
    rw [hr] at h le
    obtain rfl := Option.some.inj h
    have l2 := nxF_le (q := q) (r := r) (n - 1)
    exact QO.rv _ _ _ _ (Q.swap (by omega) (by omega)) (by omega)
/-! sorted: one slip behind another put in -/
def insF : Nat → (Nat → Nat) → Nat → (Nat → Nat)
  | 0, a, v => uN a 0 v
  | j + 1, a, v => if a j ≤ v then uN a (j + 1) v else insF j (uN a (j + 1) (a j)) v
def sF (q : Nat → Nat) : Nat → (Nat → Nat)
  | 0 => q
  | i + 1 => insF i (sF q i) (sF q i i)
theorem sF_1 {q : Nat → Nat} : sF q 1 = q := by
  funext j
  show uN q 0 (q 0) j = q j
  by_cases c : j = 0
  · subst c; exact uN_s
  · exact uN_n c
theorem insF_hi {v : Nat} : ∀ j a x, j < x → insF j a v x = a x
  | 0, a, x, h => uN_n (by omega)
  | j + 1, a, x, h => by
    unfold insF
    split
    · exact uN_n (by omega)
    · rw [insF_hi j _ x (by omega), uN_n (by omega)]
theorem insF_in {v i : Nat} : ∀ j a, j ≤ i → ∀ x, x ≤ i → insF j a v x = v ∨ ∃ y, y ≤ i ∧ y ≠ j ∧ insF j a v x = a y
  | 0, a, hj, x, hx => by
    unfold insF
    by_cases c : x = 0
    · exact Or.inl (c ▸ uN_s)
    · exact Or.inr ⟨x, hx, c, uN_n c⟩
  | j + 1, a, hj, x, hx => by
    unfold insF
    by_cases d : a j ≤ v
    · rw [if_pos d]
      by_cases c : x = j + 1
      · exact Or.inl (c ▸ uN_s)
      · exact Or.inr ⟨x, hx, c, uN_n c⟩
    · rw [if_neg d]
      rcases insF_in j (uN a (j + 1) (a j)) (by omega) x hx with h | ⟨y, h1, h2, h3⟩
      · exact Or.inl h
      · by_cases c : y = j + 1
        · subst c
          exact Or.inr ⟨j, by omega, by omega, h3.trans uN_s⟩
        · exact Or.inr ⟨y, h1, c, h3.trans (uN_n c)⟩
theorem insF_lt {v i : Nat} : ∀ j a, j ≤ i → (∀ x y, x < y → y ≤ i → x ≠ j → y ≠ j → a x < a y) → (∀ y, j < y → y ≤ i → v < a y) → (∀ x, x < j → a x ≠ v) → ∀ x y, x < y → y ≤ i → insF j a v x < insF j a v y
  | 0, a, _, h1, h2, _, x, y, hxy, hy => by
    unfold insF
    rw [uN_n (show y ≠ 0 by omega)]
    by_cases c : x = 0
    · subst c; rw [uN_s]; exact h2 y hxy hy
    · rw [uN_n c]; exact h1 x y hxy hy c (by omega)
  | j + 1, a, hj, h1, h2, h3, x, y, hxy, hy => by
    unfold insF
    have n3 := h3 j (by omega)
    by_cases d : a j ≤ v
    · rw [if_pos d]
      by_cases c : y = j + 1
      · subst c
        rw [uN_s, uN_n (by omega)]
        by_cases e : x = j
        · subst e; omega
        · have := h1 x j (by omega) (by omega) (by omega) (by omega); omega
      · rw [uN_n c]
        by_cases e : x = j + 1
        · subst e; rw [uN_s]; exact h2 y hxy hy
        · rw [uN_n e]; exact h1 x y hxy hy e c
    · rw [if_neg d]
      refine insF_lt j _ (by omega) (fun x y hxy hy hx hy' => ?_) (fun y h hy => ?_) (fun x hx => ?_) x y hxy hy
      · by_cases c : y = j + 1
        · subst c
          rw [uN_s, uN_n (by omega)]
          exact h1 x j (by omega) (by omega) (by omega) (by omega)
        · rw [uN_n c]
          by_cases e : x = j + 1
          · subst e
            rw [uN_s]
            exact h1 j y (by omega) hy (by omega) c
          · rw [uN_n e]
            exact h1 x y hxy hy e c
      · by_cases c : y = j + 1
        · subst c; rw [uN_s]; omega
        · rw [uN_n c]; exact h2 y (by omega) hy
      · rw [uN_n (by omega)]; exact h3 x (by omega)
theorem sF_hi {q : Nat → Nat} : ∀ i x, i ≤ x → sF q i x = q x
  | 0, _, _ => rfl
  | i + 1, x, h => by rw [sF, insF_hi i _ x (by omega), sF_hi i x (by omega)]
theorem sF_in {q : Nat → Nat} : ∀ i x, x < i → ∃ y, y < i ∧ sF q i x = q y
  | 0, x, h => by omega
  | i + 1, x, h => by
    rw [sF]
    rcases insF_in (v := sF q i i) (i := i) i (sF q i) (Nat.le_refl i) x (by omega) with g | ⟨y, g1, g2, g3⟩
    · exact ⟨i, by omega, g.trans (sF_hi i i (Nat.le_refl i))⟩
    · obtain ⟨z, z1, z2⟩ := sF_in (q := q) i y (by omega)
      exact ⟨z, by omega, g3.trans z2⟩
theorem sF_lt {q : Nat → Nat} {n : Nat} (inj : ∀ a b, a < b → b < n → q a ≠ q b) : ∀ i, i ≤ n → ∀ x y, x < y → y < i → sF q i x < sF q i y
  | 0, _, x, y, _, h => by omega
  | i + 1, hi, x, y, hxy, hy => by
    have ih := sF_lt inj i (by omega)
    rw [sF]
    refine insF_lt (i := i) i _ (Nat.le_refl i) (fun x y hxy hy hx hy' => ih x y hxy (by omega)) (fun y h hy => by omega) (fun x hx => ?_) x y hxy (by omega)
    obtain ⟨z, z1, z2⟩ := sF_in (q := q) i x hx
    rw [z2, sF_hi i i (Nat.le_refl i)]
    exact inj z i z1 (by omega)
theorem QO.srt {D : DD} {q : Nat → Nat} {n : Nat} (Q : QO D q n) : ∀ i, i ≤ n → QO D (sF q i) n := fun i hi => ⟨Q.1, fun x hx => by
  by_cases c : x < i
  · obtain ⟨y, h1, h2⟩ := sF_in (q := q) i x c
    rw [h2]; exact Q.2 y (by omega)
  · rw [sF_hi i x (by omega)]; exact Q.2 x hx⟩
theorem sorted_ends {D : DD} (W : WF D) {l : Nat} (hl : l < 2) : ends (D 11 l) 720 (sF (ro D l) (D 11 l)) = true := by
  have w := W.2.2.2.2.2.2.2 l hl
  exact ends_sorted w.1 (sF_lt (fun a b hab hb => (w.2 b hb).2 a hab) _ (Nat.le_refl _))
