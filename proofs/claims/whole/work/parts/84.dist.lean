/-! LENGTHS: how likely each is, as pure numbers -/
def wt (ms h m : Nat) : Nat := if m < h then ms ^ (m - 1) * (1000000 - ms) * 1000000 ^ (h - 1 - m) else ms ^ (h - 1)
def wr (ms h m : Nat) : Nat := ms ^ (m - 1) * (if m < h then 1000000 - ms else 1000000) * 1000000 ^ (h - m)
theorem wt_le {ms h m : Nat} (hm : ms ≤ 1000000) (h1 : 1 ≤ m) (h2 : m ≤ h) : wt ms h m ≤ 1000000 ^ (h - 1) := by
  unfold wt
  split
  · rename_i c
    have p := Nat.mul_le_mul_right (1000000 ^ (h - 1 - m)) (Nat.mul_le_mul (pow_six hm (m - 1)) (show 1000000 - ms ≤ 1000000 by omega))
    refine Nat.le_trans p (Nat.le_of_eq ?_)
    rw [show 1000000 ^ (m - 1) * 1000000 = 1000000 ^ (m - 1 + 1) from rfl, ← Nat.pow_add]
    congr 1; omega
  · exact pow_six hm _
theorem wr_wt {ms h m : Nat} (h1 : 1 ≤ m) (h2 : m ≤ h) : wr ms h m = wt ms h m * 1000000 := by
  unfold wr wt
  by_cases c : m < h
  · rw [if_pos c, if_pos c, show h - m = (h - 1 - m) + 1 by omega, Nat.pow_succ, ← Nat.mul_assoc]
  · rw [if_neg c, if_neg c]
    obtain rfl : m = h := by omega
    rw [Nat.sub_self, Nat.pow_zero, Nat.mul_one]
def gu1 (F w : Nat → Nat) (t k u : Nat) : Nat := if t + 1 ≤ u ∧ u ≤ t + k then F t * w (u - t) else 0
def gT (F w : Nat → Nat) (h : Nat) : Nat → Nat → Nat
  | 0, _ => 0
  | T + 1, u => gT F w h T u + gu1 F w T h u
theorem gu1_0 {F w : Nat → Nat} {t u : Nat} : gu1 F w t 0 u = 0 := if_neg (by omega)
theorem gu1_z {F w : Nat → Nat} {t k u : Nat} (h : F t = 0) : gu1 F w t k u = 0 := by unfold gu1; rw [h, Nat.zero_mul]; split <;> rfl
theorem gu1_at {F w : Nat → Nat} {t k : Nat} : gu1 F w t (k + 1) (t + (k + 1)) = gu1 F w t k (t + (k + 1)) + F t * w (k + 1) := by
  unfold gu1
  rw [if_pos (by omega), if_neg (by omega), Nat.zero_add, show t + (k + 1) - t = k + 1 by omega]
theorem gu1_ne {F w : Nat → Nat} {t k u : Nat} (h : u ≠ t + (k + 1)) : gu1 F w t (k + 1) u = gu1 F w t k u := by
  unfold gu1
  by_cases c : t + 1 ≤ u ∧ u ≤ t + k
  · rw [if_pos c, if_pos (by omega)]
  · rw [if_neg c, if_neg (by omega)]
theorem gT_0 {F w : Nat → Nat} {h T0 u : Nat} (hF : ∀ t, T0 ≤ t → F t = 0) : ∀ k, gT F w h (T0 + k) u = gT F w h T0 u
  | 0 => rfl
  | k + 1 => by rw [← Nat.add_assoc, gT, gT_0 hF k, gu1_z (hF _ (by omega)), Nat.add_zero]
theorem gu1_b {F w : Nat → Nat} {B V t k u : Nat} (hF : ∀ t, F t ≤ B) (hw : ∀ m, 1 ≤ m → m ≤ k → w m ≤ V) : gu1 F w t k u ≤ B * V := by
  unfold gu1
  split
  · exact Nat.mul_le_mul (hF t) (hw _ (by omega) (by omega))
  · exact Nat.zero_le _
theorem gT_b {F w : Nat → Nat} {B V h u : Nat} (hF : ∀ t, F t ≤ B) (hw : ∀ m, 1 ≤ m → m ≤ h → w m ≤ V) : ∀ T, gT F w h T u ≤ T * (B * V)
  | 0 => Nat.zero_le _
  | T + 1 => by
    rw [gT, Nat.add_mul, Nat.one_mul]
    exact Nat.add_le_add (gT_b hF hw T) (gu1_b hF hw)
theorem gT_s {F w : Nat → Nat} {h a u : Nat} (hF : ∀ t, a < t → F t = 0) (hu : a + h < u) : ∀ T, gT F w h T u = 0
  | 0 => rfl
  | T + 1 => by
    rw [gT, gT_s hF hu T, Nat.zero_add]
    unfold gu1
    split
    · rw [hF T (by omega), Nat.zero_mul]
    · rfl
theorem gT_m {F w w' : Nat → Nat} {S h u : Nat} (hw : ∀ m, 1 ≤ m → m ≤ h → w' m = w m * 1000000) : ∀ T, gT (fun t => F t * S) w' h T u = gT F w h T u * (S * 1000000)
  | 0 => (Nat.zero_mul _).symm
  | T + 1 => by
    rw [gT, gT, gT_m hw T, Nat.add_mul]
    congr 1
    unfold gu1
    split
    · rw [hw _ (by omega) (by omega)]; dsimp only; ac_rfl
    · exact (Nat.zero_mul _).symm
theorem gT_e {F F' w : Nat → Nat} {h u : Nat} (hF : ∀ t, F t = F' t) (T : Nat) : gT F w h T u = gT F' w h T u := by rw [funext hF]
def shf (F : Nat → Nat) (t : Nat) : Nat := if t < 1 then 0 else F (t - 1)
theorem gT_sh {F w : Nat → Nat} {h u : Nat} : ∀ T, gT (shf F) w h (T + 1) u = shf (gT F w h T) u
  | 0 => by
    rw [gT, gT, gu1_z (show shf F 0 = 0 from rfl)]
    unfold shf
    split <;> rfl
  | T + 1 => by
    rw [gT, gT_sh T]
    unfold shf
    by_cases c : u < 1
    · rw [if_pos c, if_pos c, Nat.zero_add, gu1, if_neg (by omega)]
    · rw [if_neg c, if_neg c, gT]
      congr 1
      unfold gu1
      by_cases d : T + 1 ≤ u - 1 ∧ u - 1 ≤ T + h
      · rw [if_pos d, if_pos (by omega)]
        dsimp only
        rw [if_neg (by omega), Nat.add_sub_cancel, show u - (T + 1) = u - 1 - T by omega]
      · rw [if_neg d, if_neg (by omega)]
theorem gT_1 {F w : Nat → Nat} {u : Nat} : ∀ T, gT F w 1 T u = if 1 ≤ u ∧ u ≤ T then F (u - 1) * w 1 else 0
  | 0 => by rw [gT, if_neg (by omega)]
  | T + 1 => by
    rw [gT, gT_1 T, gu1]
    by_cases c : u = T + 1
    · subst c
      rw [if_neg (by omega), if_pos (by omega), if_pos (by omega), Nat.zero_add, Nat.add_sub_cancel, show T + 1 - T = 1 by omega]
    · rw [if_neg (show ¬ (T + 1 ≤ u ∧ u ≤ T + 1) by omega), Nat.add_zero]
      by_cases d : 1 ≤ u ∧ u ≤ T
      · rw [if_pos d, if_pos (by omega)]
      · rw [if_neg d, if_neg (by omega)]
/-- the minutes of the first i riddles, but that at place x: the class', the reference's -/
def ds (D : DD) (l : Nat) (q : Nat → Nat) (x : Nat) : Nat → Nat → Nat
  | 0, t => if t = 0 then 1 else 0
  | i + 1, u => if i = x then ds D l q x i u else gT (ds D l q x i) (wt (hMs D l q i) (D 13 0)) (D 13 0) 40 u
def hx (D : DD) (x i : Nat) : Nat := if i = x then 1 else D 13 0
def dr (D : DD) (l : Nat) (q : Nat → Nat) (x : Nat) : Nat → Nat → Nat
  | 0, t => if t = 0 then 1 else 0
  | i + 1, u => gT (dr D l q x i) (wr (hMs D l q i) (hx D x i)) (hx D x i) 40 u
def mo (D : DD) (x : Nat) : Nat → Nat
  | 0 => 0
  | i + 1 => if i = x then mo D x i else mo D x i + D 13 0
theorem mo_le {D : DD} (WW : WN D) {x : Nat} : ∀ i, mo D x i ≤ 6 * i
  | 0 => Nat.le_refl 0
  | i + 1 => by
    have := mo_le WW (x := x) i
    have := WW.1.2.1
    unfold mo; split <;> omega
theorem ds_z {D : DD} {l x : Nat} {q : Nat → Nat} : ∀ i t, mo D x i < t → ds D l q x i t = 0
  | 0, t, h => if_neg (by unfold mo at h; omega)
  | i + 1, t, h => by
    unfold mo at h
    unfold ds
    by_cases c : i = x
    · rw [if_pos c] at h ⊢; exact ds_z i t h
    · rw [if_neg c] at h ⊢; exact gT_s (fun t ht => ds_z i t ht) h 40
theorem wt_le30 {D : DD} (WW : WN D) {ms m : Nat} (hm : ms ≤ 1000000) (h1 : 1 ≤ m) (h2 : m ≤ D 13 0) : wt ms (D 13 0) m ≤ 10 ^ 30 := Nat.le_trans (wt_le hm h1 h2) (mil_le WW)
theorem ds_b {D : DD} (WW : WN D) {l x : Nat} {q : Nat → Nat} : ∀ i t, ds D l q x i t ≤ (40 * 10 ^ 30) ^ i
  | 0, t => by
    unfold ds
    split
    · exact Nat.le_refl 1
    · exact Nat.zero_le _
  | i + 1, t => by
    unfold ds
    split
    · exact Nat.le_trans (ds_b WW i t) (Nat.pow_le_pow_right (by decide) (by omega))
    · refine Nat.le_trans (gT_b (B := (40 * 10 ^ 30) ^ i) (V := 10 ^ 30) (fun t => ds_b WW i t) (fun m h1 h2 => wt_le30 WW hMs_le h1 h2) 40) (Nat.le_of_eq ?_)
      rw [Nat.mul_left_comm]
      exact (Nat.pow_succ _ _).symm
theorem dr_ds {D : DD} (WW : WN D) {l x : Nat} {q : Nat → Nat} : ∀ i, i ≤ 6 → ∀ t, dr D l q x i t = if x < i then shf (fun u => ds D l q x i u * 1000000 ^ i) t else ds D l q x i t * 1000000 ^ i
  | 0, _, t => by rw [if_neg (by omega)]; unfold dr ds; rw [Nat.pow_zero, Nat.mul_one]
  | i + 1, hi, t => by
    have ih := dr_ds WW (l := l) (x := x) (q := q) i (by omega)
    have m6 := mo_le WW (x := x) i
    unfold dr
    by_cases c : i = x
    · have e : ∀ t, dr D l q x i t = ds D l q x i t * 1000000 ^ i := fun t => by rw [ih t, if_neg (by omega)]
      rw [if_pos (by omega), hx, if_pos c, gT_1, show ds D l q x (i + 1) = ds D l q x i from funext fun u => if_pos c]
      unfold shf
      have w1 : wr (hMs D l q i) 1 1 = 1000000 := by
        unfold wr
        rw [if_neg (by omega)]
        simp
      by_cases u : 1 ≤ t ∧ t ≤ 40
      · rw [if_pos u, if_neg (by omega), e, w1, Nat.pow_succ, Nat.mul_assoc]
      · rw [if_neg u]
        by_cases v : t < 1
        · rw [if_pos v]
        · rw [if_neg v]
          dsimp only
          rw [ds_z (l := l) (q := q) i (t - 1) (by omega), Nat.zero_mul]
    · rw [hx, if_neg c]
      have we : ∀ m, 1 ≤ m → m ≤ D 13 0 → wr (hMs D l q i) (D 13 0) m = wt (hMs D l q i) (D 13 0) m * 1000000 := fun m h1 h2 => wr_wt h1 h2
      have dse : ∀ u, ds D l q x (i + 1) u = gT (ds D l q x i) (wt (hMs D l q i) (D 13 0)) (D 13 0) 40 u := fun u => if_neg c
      by_cases d : x < i
      · rw [if_pos (by omega), gT_e (F' := shf (fun u => ds D l q x i u * 1000000 ^ i)) (fun t => by rw [ih t, if_pos d]), gT_sh 39]
        unfold shf
        split
        · rfl
        · dsimp only
          rw [gT_m we, dse, ← gT_0 (T0 := 39) (fun t ht => ds_z i t (by omega)) 1, Nat.pow_succ]
      · rw [if_neg (by omega), gT_e (F' := fun u => ds D l q x i u * 1000000 ^ i) (fun t => by rw [ih t, if_neg d]), gT_m we, dse, Nat.pow_succ]
theorem dr_b {D : DD} (WW : WN D) {l x : Nat} {q : Nat → Nat} (i : Nat) (hi : i ≤ 6) (t : Nat) : dr D l q x i t ≤ (40 * 10 ^ 36) ^ i := by
  have e : ∀ t, ds D l q x i t * 1000000 ^ i ≤ (40 * 10 ^ 36) ^ i := fun t => by
    refine Nat.le_trans (Nat.mul_le_mul_right _ (ds_b WW i t)) (Nat.le_of_eq ?_)
    rw [← Nat.mul_pow]
  rw [dr_ds WW i hi t]
  split
  · unfold shf
    split
    · exact Nat.zero_le _
    · exact e _
  · exact e t
/-- sums -/
def pS (F : Nat → Nat) (P : Nat → Bool) : Nat → Nat
  | 0 => 0
  | T + 1 => pS F P T + if P T = true then F T else 0
theorem pS_e {F F' : Nat → Nat} {P P' : Nat → Bool} : ∀ T, (∀ t, t < T → (if P t = true then F t else 0) = (if P' t = true then F' t else 0)) → pS F P T = pS F' P' T
  | 0, _ => rfl
  | T + 1, h => by rw [pS, pS, pS_e T (fun t ht => h t (by omega)), h T (by omega)]
theorem pS_c {F : Nat → Nat} {P : Nat → Bool} {a : Nat} : ∀ k, pS F P a = pS F (fun t => P t && decide (t < a)) (a + k)
  | 0 => pS_e a fun t ht => by simp [ht]
  | k + 1 => by
    rw [← Nat.add_assoc, pS, ← pS_c k, if_neg (by simp), Nat.add_zero]
theorem pS_b {F : Nat → Nat} {P : Nat → Bool} {B : Nat} (h : ∀ t, F t ≤ B) : ∀ T, pS F P T ≤ T * B
  | 0 => Nat.zero_le _
  | T + 1 => by
    rw [pS, Nat.add_mul, Nat.one_mul]
    refine Nat.add_le_add (pS_b h T) ?_
    split
    · exact h T
    · exact Nat.zero_le _
theorem pS_m {F : Nat → Nat} {P : Nat → Bool} {S : Nat} : ∀ T, pS (fun t => F t * S) P T = pS F P T * S
  | 0 => (Nat.zero_mul _).symm
  | T + 1 => by
    rw [pS, pS, pS_m T, Nat.add_mul]
    congr 1
    split
    · rfl
    · exact (Nat.zero_mul _).symm
theorem pS_sh {F : Nat → Nat} {P : Nat → Bool} : ∀ T, pS (shf F) P (T + 1) = pS F (fun t => P (t + 1)) T
  | 0 => by
    rw [pS, pS, pS]
    simp [shf]
  | T + 1 => by
    rw [pS, pS_sh T, pS]
    congr 1
theorem pS_z {F : Nat → Nat} {lo : Nat} : ∀ T, T ≤ lo → pS F (fun t => decide (lo ≤ t)) T = 0
  | 0, _ => rfl
  | T + 1, h => by rw [pS, pS_z T (by omega), if_neg (by simp; omega)]
/-- ENDS; SOONER's chance -/
def eN (D : DD) (l : Nat) (q : Nat → Nat) (n w a b : Nat) : Nat := pS (ds D l q 100 n) (fun t => decide (a ≤ w + t ∧ w + t ≤ b)) 40
def sN (D : DD) (l : Nat) (q : Nat → Nat) (n w x : Nat) : Nat := pS (ds D l q x n) (fun t => decide (D 13 1 ≤ w + t)) 40
theorem eN_c {D : DD} (WW : WN D) {l n w a b : Nat} {q : Nat → Nat} (hn : n ≤ 6) : pS (ds D l q 100 n) (fun t => decide (a - w ≤ t)) (min (b + 1 - w) (mo D 100 n + 1)) = eN D l q n w a b := by
  have m6 := mo_le WW (x := 100) n
  unfold eN
  rw [pS_c (40 - min (b + 1 - w) (mo D 100 n + 1)), show min (b + 1 - w) (mo D 100 n + 1) + (40 - min (b + 1 - w) (mo D 100 n + 1)) = 40 by omega]
  refine pS_e 40 fun t ht => ?_
  by_cases c : t ≤ mo D 100 n
  · have e : (decide (a - w ≤ t) && decide (t < min (b + 1 - w) (mo D 100 n + 1))) = decide (a ≤ w + t ∧ w + t ≤ b) := by
      rw [Bool.eq_iff_iff]
      simp only [Bool.and_eq_true, decide_eq_true_eq]
      omega
    rw [e]
  · rw [ds_z n t (by omega)]
    simp
theorem sN_c {D : DD} (WW : WN D) {l n w x : Nat} {q : Nat → Nat} (hn : n ≤ 6) : pS (ds D l q x n) (fun t => decide (D 13 1 - w ≤ t)) (mo D x n + 1) = sN D l q n w x := by
  have m6 := mo_le WW (x := x) n
  unfold sN
  rw [pS_c (40 - (mo D x n + 1)), show mo D x n + 1 + (40 - (mo D x n + 1)) = 40 by omega]
  refine pS_e 40 fun t ht => ?_
  by_cases c : t ≤ mo D x n
  · have e : (decide (D 13 1 - w ≤ t) && decide (t < mo D x n + 1)) = decide (D 13 1 ≤ w + t) := by
      rw [Bool.eq_iff_iff]
      simp only [Bool.and_eq_true, decide_eq_true_eq]
      omega
    rw [e]
  · rw [ds_z n t (by omega)]
    simp
theorem eN_r {D : DD} (WW : WN D) {l n w a b : Nat} {q : Nat → Nat} (hn : n ≤ 6) : pS (dr D l q 100 n) (fun t => decide (a ≤ w + t ∧ w + t ≤ b)) 40 = eN D l q n w a b * 1000000 ^ n := by
  rw [show dr D l q 100 n = fun t => ds D l q 100 n t * 1000000 ^ n from funext fun t => by rw [dr_ds WW n hn t, if_neg (by omega)], pS_m]
  rfl
theorem sN_r {D : DD} (WW : WN D) {l n w x : Nat} {q : Nat → Nat} (hn : n ≤ 6) (hx : x < n) : pS (dr D l q x n) (fun t => decide (D 13 1 < w + t)) 40 = sN D l q n w x * 1000000 ^ n := by
  have m6 := mo_le WW (x := x) n
  rw [show dr D l q x n = shf (fun u => ds D l q x n u * 1000000 ^ n) from funext fun t => by rw [dr_ds WW n hn t, if_pos hx], pS_sh 39, pS_m]
  congr 1
  have e40 : sN D l q n w x = pS (ds D l q x n) (fun t => decide (D 13 1 ≤ w + t)) 39 := by
    unfold sN
    rw [pS, ds_z (l := l) (q := q) n 39 (by omega), ite_self, Nat.add_zero]
  rw [e40]
  refine pS_e 39 fun t ht => ?_
  rw [show decide (D 13 1 < w + (t + 1)) = decide (D 13 1 ≤ w + t) from decide_eq_decide.mpr (by omega)]
