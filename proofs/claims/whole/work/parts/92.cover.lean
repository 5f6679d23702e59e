/-! APART: every slip comes to be the first in some order; whether a hunt can be walked hangs on the first slip alone -/
def dst (n c : Nat) : Nat → Bool
  | 0 => true
  | j + 1 => dst n c j && (j == 0 || decide (dec c j ≠ dec c 0))
def hitC (n v : Nat) : Nat → Nat → Bool
  | 0, _ => false
  | k + 1, c => (decide (dec c 0 = v) && dst n c n) || match nxC n c with
    | 0 => false
    | c' + 1 => hitC n v k c'
theorem hit720 : ∀ n, n < 7 → ∀ v, v < n → hitC n v 720 (enc (fun j => j) n) = true := by decide +kernel
theorem dst_ok {n c : Nat} : ∀ k j, dst n c k = true → 0 < j → j < k → dec c j ≠ dec c 0
  | 0, _, _, _, h => by omega
  | k + 1, j, h, h0, hj => by
    rw [dst, Bool.and_eq_true] at h
    by_cases e : j = k
    · subst e
      have := h.2
      simp only [Bool.or_eq_true, beq_iff_eq, decide_eq_true_eq] at this
      rcases this with g | g
      · omega
      · exact g
    · exact dst_ok k j h.1 h0 (by omega)
/-- along the orders there is one that starts with a given slip -/
def hit (n : Nat) (P : (Nat → Nat) → Prop) : Nat → (Nat → Nat) → Prop
  | 0, _ => False
  | k + 1, q => P q ∨ match nxt q n with
    | none => False
    | some q' => hit n P k q'
theorem hitC_ok {n v : Nat} {S : Nat → Nat} (m : MonS n S) (hn : 0 < n) (h6 : n ≤ 6) : ∀ k c q, ORel n S q (dec c) → hitC n v k c = true → hit n (fun q => q 0 = S v ∧ ∀ j, j < n → (∃ y, y < n ∧ q j = S y) ∧ (0 < j → q j ≠ q 0)) k q
  | 0, _, _, _, h => by unfold hitC at h; exact absurd h (by decide)
  | k + 1, c, q, hR, h => by
    unfold hitC at h
    rw [Bool.or_eq_true] at h
    unfold hit
    rcases h with h | h
    · rw [Bool.and_eq_true, decide_eq_true_eq] at h
      have r0 := hR 0 hn
      refine Or.inl ⟨by rw [r0.1, h.1], fun j hj => ?_⟩
      have rj := hR j hj
      refine ⟨⟨_, rj.2, rj.1⟩, fun h0 e => ?_⟩
      have ne := dst_ok n j h.2 h0 hj
      rw [rj.1, r0.1] at e
      have a := (m _ _ rj.2 r0.2).mp (by omega)
      have b := (m _ _ r0.2 rj.2).mp (by omega)
      omega
    · refine Or.inr ?_
      unfold nxC at h
      rcases hR.next m hn with ⟨e1, e2⟩ | ⟨q', p', e1, e2, e3⟩
      · rw [e2] at h; exact absurd (show false = true from h) (by decide)
      · rw [e2] at h
        rw [e1]
        refine hitC_ok m hn h6 k (enc p' n) q' (fun j hj => ?_) h
        rw [dec_enc n (fun j hj => by have := (e3 j hj).2; omega) j hj]
        exact e3 j hj
theorem insF_out {v i : Nat} : ∀ j a, j ≤ i → (∃ x, x ≤ i ∧ insF j a v x = v) ∧ ∀ y, y ≤ i → y ≠ j → ∃ x, x ≤ i ∧ insF j a v x = a y
  | 0, a, hj => ⟨⟨0, by omega, uN_s⟩, fun y hy hn => ⟨y, hy, uN_n hn⟩⟩
  | j + 1, a, hj => by
    unfold insF
    by_cases d : a j ≤ v
    · rw [if_pos d]
      exact ⟨⟨j + 1, hj, uN_s⟩, fun y hy hn => ⟨y, hy, uN_n hn⟩⟩
    · rw [if_neg d]
      obtain ⟨h1, h2⟩ := insF_out (v := v) (i := i) j (uN a (j + 1) (a j)) (by omega)
      refine ⟨h1, fun y hy hn => ?_⟩
      by_cases c : y = j
      · subst c
        obtain ⟨x, x1, x2⟩ := h2 (y + 1) hj (by omega)
        exact ⟨x, x1, x2.trans uN_s⟩
      · obtain ⟨x, x1, x2⟩ := h2 y hy c
        exact ⟨x, x1, x2.trans (uN_n hn)⟩
theorem sF_out {q : Nat → Nat} : ∀ i y, y < i → ∃ x, x < i ∧ sF q i x = q y
  | 0, y, h => by omega
  | i + 1, y, h => by
    obtain ⟨h1, h2⟩ := insF_out (v := sF q i i) (i := i) i (sF q i) (Nat.le_refl i)
    by_cases c : y = i
    · subst c
      obtain ⟨x, x1, x2⟩ := h1
      exact ⟨x, by omega, x2.trans (sF_hi y y (Nat.le_refl y))⟩
    · obtain ⟨z, z1, z2⟩ := sF_out (q := q) i y (by omega)
      obtain ⟨x, x1, x2⟩ := h2 z (by omega) (by omega)
      exact ⟨x, by omega, x2.trans z2⟩
/-- a leg can be walked if there is a walk -/
theorem hLg_some {D : DD} (W : WF D) {q : Nat → Nat} {n i : Nat} (Q : QO D q n) (h3 : D 13 3 < D 0 0) (h4 : D 13 4 < D 0 0) (hi : i < n) : (hLg D q n i).isSome = true ↔ mn D (hAt D q i) (hNx D q n i) < 10000 := by
  have hn := W.1
  have ha := hAt_lt W Q h3 hi
  have hx := hNx_lt W (n := n) (i := i) Q h4
  unfold hLg legR goR
  by_cases c : mn D (hAt D q i) (hNx D q n i) < 10000
  · have tb : (D 10 (q i) ||| 2 ^ hNx D q n i).testBit (hNx D q n i) = true := by rw [Nat.testBit_or, Nat.testBit_two_pow]; simp
    obtain ⟨r, hr⟩ := go_some W hx 10 _ _ ha tb c (Nat.le_trans (pc_le _) hn)
    rw [hr]
    simp [c]
  · rw [go_none W hx 10 _ _ ha c]
    simp [c]
theorem lgOk_iff {D : DD} (W : WF D) {q : Nat → Nat} {n : Nat} (Q : QO D q n) (h3 : D 13 3 < D 0 0) (h4 : D 13 4 < D 0 0) : ∀ k, k ≤ n → (lgOk D q n k = true ↔ ∀ i, i < k → mn D (hAt D q i) (hNx D q n i) < 10000)
  | 0, _ => ⟨fun _ i hi => by omega, fun _ => rfl⟩
  | k + 1, hk => by
    rw [lgOk, Bool.and_eq_true, lgOk_iff W Q h3 h4 k (by omega), hLg_some W Q h3 h4 (by omega)]
    refine ⟨fun h i hi => ?_, fun h => ⟨fun i hi => h i (by omega), h k (by omega)⟩⟩
    by_cases e : i = k
    · subst e; exact h.2
    · exact h.1 i (by omega)
theorem reach_to {D : DD} (W : WF D) {q : Nat → Nat} {n : Nat} (Q : QO D q n) (h3 : D 13 3 < D 0 0) (h : ∀ i, i < n → mn D (hAt D q i) (hNx D q n i) < 10000) : ∀ i, i < n → mn D (D 13 3) (hAt D q i) < 10000
  | 0, _ => by show mn D (D 13 3) (D 13 3) < 10000; rw [mn_d]; omega
  | i + 1, hi => by
    have hn := W.1
    have a := reach_to W Q h3 h i (by omega)
    have b := h i (by omega)
    rw [hNx_at hi] at b
    have l := hAt_lt W Q h3 (show i < n by omega)
    have l2 := hAt_lt W Q h3 hi
    exact mn_trans W (by omega) (by omega) l a b
theorem hOk_first {D : DD} (W : WF D) {q p : Nat → Nat} {n : Nat} (Q : QO D q n) (P : QO D p n) (hq : hOk D q n = true) (hp : ∀ j, 0 < j → j < n → ∃ y, 0 < y ∧ y < n ∧ p j = q y) : hOk D p n = true := by
  have hn := W.1
  obtain ⟨h3, h4, n0, hl⟩ := hOk_3 hq
  rw [lgOk_iff W Q h3 h4 n (Nat.le_refl n)] at hl
  have rq := reach_to W Q h3 hl
  have rc : mn D (D 13 3) (D 13 4) < 10000 := by
    have a := rq (n - 1) (by omega)
    have b := hl (n - 1) (by omega)
    have l := hAt_lt W Q h3 (show n - 1 < n by omega)
    rw [show hNx D q n (n - 1) = D 13 4 from if_neg (by omega)] at b
    exact mn_trans W (by omega) (by omega) l a b
  have rp : ∀ i, i < n → mn D (D 13 3) (hAt D p i) < 10000 := fun i hi => by
    cases i with
    | zero => exact rq 0 n0
    | succ i =>
      obtain ⟨y, y0, y1, y2⟩ := hp (i + 1) (by omega) hi
      obtain ⟨z, rfl⟩ : ∃ z, y = z + 1 := ⟨y - 1, by omega⟩
      have := rq (z + 1) y1
      show mn D (D 13 3) (D 7 (p (i + 1))) < 10000
      rw [y2]; exact this
  have lp : lgOk D p n n = true := by
    rw [lgOk_iff W P h3 h4 n (Nat.le_refl n)]
    intro i hi
    have a := rp i hi
    have la := hAt_lt W P h3 hi
    rw [mn_sym W (by omega) (by omega)] at a
    have b : mn D (D 13 3) (hNx D p n i) < 10000 := by
      by_cases c : i + 1 < n
      · rw [hNx_at c]; exact rp (i + 1) c
      · rw [show hNx D p n i = D 13 4 from if_neg c]; exact rc
    have lx := hNx_lt W (n := n) (i := i) P h4
    exact mn_trans W (by omega) (by omega) h3 a b
  unfold hOk
  rw [decide_eq_true h3, decide_eq_true h4, decide_eq_true n0, lp]
  rfl
theorem hit_fo {n : Nat} {β : Type} {step : β → (Nat → Nat) → β} {A : β → Prop} (keep : ∀ st q, A st → A (step st q)) {P : (Nat → Nat) → Prop} (get : ∀ st q, P q → A (step st q)) : ∀ k q st, hit n P k q → A (fo step n k q st) := by
  have hold : ∀ k q st, A st → A (fo step n k q st) := by
    intro k
    induction k with
    | zero => exact fun _ _ h => h
    | succ k ih =>
      intro q st h
      unfold fo
      cases nxt q n with
      | none => exact keep st q h
      | some q' => exact ih q' _ (keep st q h)
  intro k
  induction k with
  | zero => exact fun _ _ h => absurd h id
  | succ k ih =>
    intro q st h
    unfold hit at h
    unfold fo
    rcases h with h | h
    · cases nxt q n with
      | none => exact get st q h
      | some q' => exact hold k q' _ (get st q h)
    · cases hx : nxt q n with
      | none => rw [hx] at h; exact absurd h id
      | some q' => rw [hx] at h; exact ih q' _ h
theorem hit_mono {n : Nat} {P P' : (Nat → Nat) → Prop} (h : ∀ q, P q → P' q) : ∀ k q, hit n P k q → hit n P' k q
  | 0, _, g => g
  | k + 1, q, g => by
    unfold hit at g ⊢
    rcases g with g | g
    · exact Or.inl (h q g)
    · refine Or.inr ?_
      cases hx : nxt q n with
      | none => rw [hx] at g; exact g
      | some q' => rw [hx] at g; exact hit_mono h k q' g
/-- what holds of the first holds of all -/
theorem hit_and {n : Nat} {P I : (Nat → Nat) → Prop} (hI : ∀ q q', I q → nxt q n = some q' → I q') : ∀ k q, I q → hit n P k q → hit n (fun q => P q ∧ I q) k q
  | 0, _, _, g => g
  | k + 1, q, hi, g => by
    unfold hit at g ⊢
    rcases g with g | g
    · exact Or.inl ⟨g, hi⟩
    · refine Or.inr ?_
      cases hx : nxt q n with
      | none => rw [hx] at g; exact g
      | some q' => rw [hx] at g; exact hit_and hI k q' (hI q q' hi hx) g
/-- if the row can be walked as it is, one of the orders can -/
theorem walked_hit {D : DD} (W : WF D) {l : Nat} (hl : l < 2) (h : hOk D (ro D l) (D 11 l) = true) : hit (D 11 l) (fun q => hOk D q (D 11 l) = true) 720 (sF (ro D l) (D 11 l)) := by
  have w := W.2.2.2.2.2.2.2 l hl
  have Q := QO.row W hl
  have n0 := (hOk_3 h).2.2.1
  have inj : ∀ a b, a < b → b < D 11 l → ro D l a ≠ ro D l b := fun a b hab hb => (w.2 b hb).2 a hab
  have lt := sF_lt inj (D 11 l) (Nat.le_refl _)
  have m : MonS (D 11 l) (sF (ro D l) (D 11 l)) := fun a b ha hb => ⟨fun hab => by
    rcases Nat.lt_or_ge b a with c | c
    · have := lt b a c ha; omega
    · exact c, fun hab => by
    rcases Nat.lt_or_ge a b with c | c
    · exact Nat.le_of_lt (lt a b c hb)
    · obtain rfl : a = b := by omega
      exact Nat.le_refl _⟩
  obtain ⟨v, v1, v2⟩ := sF_out (q := ro D l) (D 11 l) 0 n0
  have g := hitC_ok (v := v) (q := sF (ro D l) (D 11 l)) m n0 w.1 720 (enc (fun j => j) (D 11 l)) (fun j hj => by
    rw [dec_enc (D 11 l) (fun j hj => by have := w.1; omega) j hj]
    exact ⟨rfl, hj⟩) (hit720 (D 11 l) (by have := w.1; omega) v v1)
  have g2 := hit_and (I := fun q => QO D q (D 11 l)) (fun q q' hq hx => hq.next hx) 720 _ (Q.srt _ (Nat.le_refl _)) g
  refine hit_mono (fun p hp => ?_) 720 _ g2
  obtain ⟨⟨p0, pj⟩, P⟩ := hp
  refine hOk_first W Q P h (fun j j0 hj => ?_)
  obtain ⟨⟨y, y1, y2⟩, ne⟩ := pj j hj
  obtain ⟨z, z1, z2⟩ := sF_in (q := ro D l) (D 11 l) y y1
  refine ⟨z, ?_, z1, y2.trans z2⟩
  rcases Nat.eq_zero_or_pos z with e | e
  · exact absurd (by rw [y2, z2, e, p0, v2]) (ne j0)
  · exact e
/-! both lots in turn -/
def cT (c : Nat → Nat → Bool) (i : Nat) : Nat → Nat
  | 0 => 0
  | j + 1 => cT c i j + if c i j = true then 1 else 0
def cS (c : Nat → Nat → Bool) (n : Nat) : Nat → Nat
  | 0 => 0
  | i + 1 => cS c n i + cT c i n
theorem cS_r {c : Nat → Nat → Bool} {n : Nat} : ∀ m, cS c (n + 1) m = cS c n m + cT (fun j i => c i j) n m
  | 0 => rfl
  | m + 1 => by
    rw [cS, cS_r m, cS, cT, cT]; omega
theorem cS_t {c : Nat → Nat → Bool} : ∀ n m, cS c n m = cS (fun j i => c i j) m n
  | 0, m => by
    show cS c 0 m = 0
    induction m with
    | zero => rfl
    | succ m ih => rw [cS, ih]; rfl
  | n + 1, m => by rw [cS_r, cS_t n m, cS]
theorem mt2_c {D : DD} {A B : HN} {i : Nat} : ∀ j, mt2 D A B i j = cT (mtc D A B) i j
  | 0 => rfl
  | j + 1 => by rw [mt2, cT, mt2_c j]
theorem mt_c {D : DD} {A B : HN} : ∀ i, mt D A B i = cS (mtc D A B) B.2.2 i
  | 0 => rfl
  | i + 1 => by rw [mt, cS, mt_c i, mt2_c]
theorem mt_sym {D : DD} {A B : HN} : mt D A B A.2.2 = mt D B A B.2.2 := by
  rw [mt_c, mt_c, cS_t]
  have e : (fun j i => mtc D A B i j) = mtc D B A := by
    funext j i
    unfold mtc
    rw [show decide (hAt D A.2.1 i = hAt D B.2.1 j) = decide (hAt D B.2.1 j = hAt D A.2.1 i) from decide_eq_decide.mpr ⟨Eq.symm, Eq.symm⟩, Bool.and_assoc, Bool.and_comm (decide (hS0 D A.1 A.2.1 A.2.2 i ≤ hE0 D B.2.1 B.2.2 j)), ← Bool.and_assoc]
  rw [e]
