/-! KINDS: the class' choice -/
theorem cmp_gt {x y : Nat} : (0 < cmpV x y) = (y < x) := by
  unfold cmpV
  by_cases h : x < y
  · rw [if_pos h, eq_false (show ¬ y < x by omega)]; exact eq_false (by decide)
  · rw [if_neg h]
    by_cases e : x = y
    · rw [if_pos e, eq_false (show ¬ y < x by omega)]; exact eq_false (by decide)
    · rw [if_neg e, eq_true (show y < x by omega)]; exact eq_true (by decide)
theorem d4_next {n t j : Nat} (hj : j < n) (h : t % 4 ^ (n - 1 - j) = 4 ^ (n - 1 - j) - 1) (hd : d4 n t j < 3) (ht : t < 4 ^ n) : t + 1 < 4 ^ n ∧ (∀ i, i < j → d4 n (t + 1) i = d4 n t i) ∧ d4 n (t + 1) j = d4 n t j + 1 ∧ ∀ i, j < i → i < n → d4 n (t + 1) i = 0 := by
  have a := nx_at h
  have hd' : t / 4 ^ (n - 1 - j) % 4 < 3 := hd
  refine ⟨?_, fun i hi => nx_hi h hd (by omega), ?_, fun i h1 h2 => nx_lo h (by omega)⟩
  · rcases Nat.lt_or_ge (t + 1) (4 ^ n) with g | g
    · exact g
    · have e : t + 1 = 4 ^ n := by omega
      rw [e, show 4 ^ n = 4 ^ (n - 1 - j) * (4 * 4 ^ j) by rw [← Nat.pow_succ', ← Nat.pow_add]; congr 1; omega, Nat.mul_div_cancel_left _ (Nat.pow_pos (by decide))] at a
      omega
  · unfold d4
    rw [a]; omega
section CHOICE
variable {Z : ZT} {μ : Mu} {D : DD} {im : Nat → Option DD} {tx : TX} {s : Nat → Int32} {f : Nat × Nat}
theorem c_nextChoice {n t : Nat} (hn : n ≤ 6) (hnow : ∀ i, i < n → μ 293 i = nI (d4 n t i)) (ht : t < 4 ^ n) : CtrS Z mX1_nextChoice [rf Z 285, .int (nI n)] μ (rI fun v μ' => ((v = -1 ∧ t + 1 = 4 ^ n) ∨ (∃ j, v = nI j ∧ j < n ∧ t + 1 < 4 ^ n ∧ (∀ i, i < j → d4 n (t + 1) i = d4 n t i) ∧ ∀ i, i < n → μ' 293 i = nI (d4 n (t + 1) i))) ∧ Fr [293] μ μ') := by
  refine CtrS.intro (by decide +kernel) (Nat.le_of_ble_eq_true rfl) rfl fun X E hB => ?_
  have loop : ∀ i μ1, i ≤ n → t % 4 ^ (n - i) = 4 ^ (n - i) - 1 → (∀ j, j < i → μ1 293 j = nI (d4 n t j)) → (∀ j, i ≤ j → j < n → μ1 293 j = nI 0) → Fr [293] μ μ1 → JS Z X 4 [(0, rf Z 285), (2, .int (nI i + (-1)))] [] μ1 := by
    intro i
    induction i with
    | zero =>
      intro μ1 _ h _ _ hF
      rw [Nat.sub_zero, Nat.mod_eq_of_lt ht] at h
      exact bX1_nextChoice_4 E (fun _ => bX1_nextChoice_45 E hB ⟨_, rfl, Or.inl ⟨rfl, by have := Nat.pow_pos (n := n) (show 0 < 4 by decide); omega⟩, hF⟩) (fun c => absurd (by decide) c)
    | succ j ih =>
      intro μ1 hi h h1 h2 hF
      have dl := d4_lt (n := n) (t := t) (i := j)
      rw [show n - (j + 1) = n - 1 - j by omega] at h
      rw [nI_suc_m1]
      refine bX1_nextChoice_4 E (fun c => absurd c (Int32.not_lt.mpr (nI_pos' (by omega)))) (fun _ => ?_)
      refine bX1_nextChoice_8 E (vin (by omega) (by omega)) (fun c => ?_) (fun c => ?_)
      · rw [ix_nI (by omega), h1 j (by omega), nI_add, nI_leE (by omega) (by omega)] at c
        refine bX1_nextChoice_32 E (vin (by omega) (by omega)) (bX1_nextChoice_39 E ?_)
        rw [ix_nI (by omega)]
        refine ih _ (by omega) (by rw [show n - j = n - 1 - j + 1 by omega]; exact nx_3 h (show d4 n t j = 3 by omega)) (fun x hx => by rw [uR_s, pk_un (by omega)]; exact h1 x (by omega)) (fun x hx hxn => ?_) (hF.tr (Fr.uR (by simp)))
        rw [uR_s]
        exact upd_at (fun _ => rfl) (fun e => h2 x (by omega) hxn)
      · rw [ix_nI (by omega), h1 j (by omega), nI_add, nI_leE (by omega) (by omega)] at c
        obtain ⟨k1, k2, k3, k4⟩ := d4_next (by omega) h (by omega) ht
        refine bX1_nextChoice_20 E (vin (by omega) (by omega)) (vin (by omega) (by omega)) (bX1_nextChoice_30 E hB ⟨_, rfl, Or.inr ⟨j, rfl, by omega, k1, k2, fun x hx => ?_⟩, hF.tr (Fr.uR (by simp))⟩)
        rw [ix_nI (by omega), h1 j (by omega), nI_add, uR_s]
        by_cases e : x = j
        · subst e; rw [pk_us, k3]
        · rw [pk_un e]
          by_cases l : x < j
          · rw [k2 x l]; exact h1 x (by omega)
          · rw [k4 x (by omega) hx]; exact h2 x (by omega) hx
  refine bX1_nextChoice_0 E ?_
  rw [nI_pre]
  exact loop n μ (Nat.le_refl n) (by rw [Nat.sub_self]; simp [Nat.mod_one]) hnow (fun j h1 h2 => by omega) Fr.rf
def FrCh (μ μ' : Mu) : Prop := ∀ a, a < 285 ∨ 446 ≤ a → a ≠ 82 → a ≠ 97 → a ≠ 98 → μ' a = μ a
theorem c_prepare {l n : Nat} {q : Nat → Nat} (H : HC μ 1 D) (N : NC μ 27 D) (W : WF D) (WW : WN D) (sc : SC μ) (B : MB μ D) (hl : l < 2) (Q : QO D q n) (h3 : D 13 3 < D 0 0) (T : HQ μ 78 l q n) (L : HLd μ 78 D l q n n) : CtrS Z mX1_prepare [rf Z 285, rf Z 78] μ (rV fun μ' => (∀ i, i < n → μ' 293 i = nI 0) ∧ KTb μ' D l q n ∧ BigV μ' (el 296 0) (1000000 ^ (D 13 0 - 1) * hWk D q n n) ∧ SC μ' ∧ FrCh μ μ') := by
  refine CtrS.intro (by decide +kernel) (Nat.le_of_ble_eq_true rfl) rfl fun X E hB => ?_
  have n6 := Q.1
  have hn := W.1
  have ho : SH 78 = .inl 4 := rfl
  -- what all keep
  have I : ∀ (P : Nat → Mu → Prop), P = (fun m μ1 => (∀ x, x < m → BigV μ1 (el 294 x) (kR D l q (x / 4) (x % 4)) ∧ ∀ c, c < 6 → μ1 295 (x * 6 + c) = nI (kG D l q (x / 4) (x % 4) c)) ∧ SC μ1 ∧ FrCh μ μ1) → JS Z X 2 [(0, rf Z 285), (1, rf Z 78), (2, .int (nI 0))] [] μ := by
    intro P hP
    have Pe : ∀ m μ1, P m μ1 = ((∀ x, x < m → BigV μ1 (el 294 x) (kR D l q (x / 4) (x % 4)) ∧ ∀ c, c < 6 → μ1 295 (x * 6 + c) = nI (kG D l q (x / 4) (x % 4) c)) ∧ SC μ1 ∧ FrCh μ μ1) := fun m μ1 => by rw [hP]
    have fin : ∀ μ1, P (4 * n) μ1 → (∀ i, i < n → μ1 293 i = nI 0) → JS Z X 99 [(0, rf Z 285), (1, rf Z 78)] [] μ1 := fun μ1 hp hz => by
      rw [Pe] at hp
      obtain ⟨p1, p2, p3⟩ := hp
      have wl := hWk_le (D := D) (q := q) (n := n) n
      have b := Nat.mul_le_mul (mil_le WW) (show hWk D q n n ≤ 600000 by omega)
      refine bX1_prepare_99 E ho (vin (by omega) (by omega)) (by rw [ix_nI (by omega)]; exact q_set p2 (GB296 (by decide)) (by decide)) fun μ2 g => ?_
      obtain ⟨g1, g2, g3⟩ := g
      have f2 : ∀ a, a ≠ 348 → a ≠ 349 → μ2 a = μ1 a := fun a h1 h2 => g3 a (by rw [e296]; simp; omega)
      have u2 : BigV μ2 93 (1000000 ^ (D 13 0 - 1)) := B.2.1.congr (by rw [f2 _ (by decide) (by decide), p3 _ (by decide) (by decide) (by decide) (by decide)]) (by rw [f2 _ (by decide) (by decide), p3 _ (by decide) (by decide) (by decide) (by decide)])
      refine bX1_prepare_109 E ho (vin (by omega) (by omega)) (by rw [ix_nI (by omega), f2 _ (by decide) (by decide), p3 _ (by decide) (by decide) (by decide) (by decide), L.1]; exact q_addTimes g2 (GB296 (by decide)) g1 u2 (by decide) (by omega) (by rw [Nat.zero_add]; exact Nat.lt_of_le_of_lt b (by decide))) fun μ3 k => ?_
      obtain ⟨k1, k2, k3⟩ := k
      rw [Nat.zero_add] at k1
      have f3 : ∀ a, a ≠ 348 → a ≠ 349 → μ3 a = μ1 a := fun a h1 h2 => by rw [k3 a (by rw [e296]; simp; omega), f2 a h1 h2]
      refine bX1_prepare_129 E hB ⟨rfl, fun i hi => by rw [f3 _ (by decide) (by decide)]; exact hz i hi, ⟨fun i k hi hk => ?_, fun i k c hi hk hc => ?_⟩, k1, k2, fun a h1 h2 h3 h4 => by rw [f3 a (by omega) (by omega)]; exact p3 a h1 h2 h3 h4⟩
      · have := (p1 (4 * i + k) (by omega)).1
        rw [show (4 * i + k) / 4 = i by omega, show (4 * i + k) % 4 = k by omega] at this
        exact this.congr (f3 _ (by rw [e294]; omega) (by rw [e294]; omega)) (f3 _ (by rw [e294]; omega) (by rw [e294]; omega))
      · have := (p1 (4 * i + k) (by omega)).2 c hc
        rw [show (4 * i + k) / 4 = i by omega, show (4 * i + k) % 4 = k by omega] at this
        rw [f3 _ (by decide) (by decide)]; exact this
    have loop : ∀ k i μ1, i + k = n → P (4 * i) μ1 → (∀ j, j < i → μ1 293 j = nI 0) → JS Z X 2 [(0, rf Z 285), (1, rf Z 78), (2, .int (nI i))] [] μ1 := by
      intro k
      induction k with
      | zero =>
        intro i μ1 hi hp hz
        have hi : i = n := hi
        subst hi
        refine bX1_prepare_2 E ho (fun _ => fin μ1 hp hz) (fun c => absurd (by rw [Pe] at hp; rw [hp.2.2 _ (by decide) (by decide) (by decide) (by decide), T.2.1, nI_leE (by omega) (by omega)]; omega) c)
      | succ k ih =>
        intro i μ1 hi hp hz
        have hp0 := hp
        rw [Pe] at hp
        obtain ⟨p1, p2, p3⟩ := hp
        refine bX1_prepare_2 E ho (fun c => absurd c (by rw [p3 _ (by decide) (by decide) (by decide) (by decide), T.2.1, nI_leE (by omega) (by omega)]; omega)) (fun _ => ?_)
        refine bX1_prepare_10 E ho (vin (by omega) (by omega)) (bX1_prepare_17 E ho ?_)
        rw [ix_nI (by omega)]
        have inner : ∀ k' kk μ2, kk + k' = 4 → P (4 * i + kk) μ2 → (∀ j, j < i + 1 → μ2 293 j = nI 0) → JS Z X 19 [(0, rf Z 285), (1, rf Z 78), (2, .int (nI i)), (3, .int (nI kk))] [] μ2 := by
          intro k'
          induction k' with
          | zero =>
            intro kk μ2 hkk hp2 hz2
            have hkk : kk = 4 := hkk
            subst hkk
            refine bX1_prepare_19 E ho (fun _ => bX1_prepare_93 E ho ?_) (fun c => absurd (by decide) c)
            rw [nI_add]
            exact ih (i + 1) μ2 (by omega) hp2 hz2
          | succ k' ihk =>
            intro kk μ2 hkk hp2 hz2
            rw [Pe] at hp2
            obtain ⟨r1, r2, r3⟩ := hp2
            have H2 : HC μ2 1 D := H.fr fun x hx => r3 _ (by omega) (by omega) (by omega) (by omega)
            have T2 : HQ μ2 78 l q n := T.congr (r3 _ (by decide) (by decide) (by decide) (by decide)) (r3 _ (by decide) (by decide) (by decide) (by decide))
            have a2 : μ2 80 i = nI (hAt D q i) := by rw [r3 _ (by decide) (by decide) (by decide) (by decide)]; exact (L.2.2 i (by omega)).1
            have at1 := hAt_lt W Q h3 (show i < n by omega)
            have ek : nI i * nI 4 + nI kk = nI (4 * i + kk) := by rw [nI_mul, nI_add, Nat.mul_comm]
            refine bX1_prepare_19 E ho (fun c => absurd c (by rw [nI_leE (by omega) (by omega)]; omega)) (fun _ => ?_)
            refine bX1_prepare_24 E ho (by rw [ek]; exact vin (by omega) (by omega)) (c_weigh (p := hAt D q i) ho (by decide) H2 W (by omega) hl (by omega) (by omega) T2.1 a2) fun v μ3 g => ?_
            obtain ⟨rfl, g1, g2⟩ := g
            have N3 : NC μ3 27 D := (N.fr (μ' := μ2) fun x hx => r3 _ (by omega) (by omega) (by omega) (by omega)).fr fun x hx => g2 _ (by simp; omega)
            have q3 : SC μ3 := r2.fr fun a h1 h2 => g2 a (by simp; omega)
            have me : miss D (l + 1) kk (hAt D q i) 6 = kM D l q i kk := rfl
            have gb : GB (el 294 (4 * i + kk)) := GB294 (by omega)
            rw [ek, ix_nI (by omega), me]
            refine bX1_prepare_48 E ho gb.1 (c_ofRiddle gb (by rw [e294]; omega) N3 WW (by rw [e294]; omega) q3 kM_le) fun μ4 j => bX1_prepare_51 E ho ?_
            obtain ⟨j1, j2, j3⟩ := j
            have j1 : BigV μ4 (el 294 (4 * i + kk)) (kR D l q i kk) := j1
            have f4 : ∀ a, a ≠ 82 → a ≠ 97 → a ≠ 98 → a ≠ 300 + 2 * (4 * i + kk) → a ≠ 301 + 2 * (4 * i + kk) → μ4 a = μ2 a := fun a h1 h2 h3 h4 h5 => by rw [j3 a (by rw [e294]; simp; omega), g2 a (by simp; omega)]
            have x4 : ∀ x, x < 4 * i + kk → BigV μ4 (el 294 x) (kR D l q (x / 4) (x % 4)) ∧ ∀ c, c < 6 → μ4 295 (x * 6 + c) = nI (kG D l q (x / 4) (x % 4) c) := fun x hx => ⟨(r1 x hx).1.congr (f4 _ (by rw [e294]; omega) (by rw [e294]; omega) (by rw [e294]; omega) (by rw [e294]; omega) (by rw [e294]; omega)) (f4 _ (by rw [e294]; omega) (by rw [e294]; omega) (by rw [e294]; omega) (by rw [e294]; omega) (by rw [e294]; omega)), fun c hc => by rw [f4 _ (by decide) (by decide) (by decide) (by omega) (by omega)]; exact (r1 x hx).2 c hc⟩
            have F4 : FrCh μ μ4 := fun a h1 h2 h3 h4 => by
              have h1 : a < 285 ∨ 446 ≤ a := h1
              rw [f4 a h2 h3 h4 (by omega) (by omega)]; exact r3 a h1 h2 h3 h4
            have z4 : ∀ j, j < i + 1 → μ4 293 j = nI 0 := fun j hj => by rw [f4 _ (by decide) (by decide) (by decide) (by omega) (by omega)]; exact hz2 j hj
            have gs4 : ∀ c, c < 6 → μ4 82 c = nI (kG D l q i kk c) := fun c hc => by rw [j3 82 (by rw [e294]; simp; omega)]; exact g1 c hc
            have copy : ∀ k'' c μ5, c + k'' = 6 → BigV μ5 (el 294 (4 * i + kk)) (kR D l q i kk) → (∀ c', c' < c → μ5 295 ((4 * i + kk) * 6 + c') = nI (kG D l q i kk c')) → (∀ x, x < 4 * i + kk → BigV μ5 (el 294 x) (kR D l q (x / 4) (x % 4)) ∧ ∀ c, c < 6 → μ5 295 (x * 6 + c) = nI (kG D l q (x / 4) (x % 4) c)) → SC μ5 → (∀ a, a ≠ 295 → μ5 a = μ4 a) → JS Z X 54 [(0, rf Z 285), (1, rf Z 78), (2, .int (nI i)), (3, .int (nI kk)), (4, .int (nI (4 * i + kk))), (5, .int (nI c))] [] μ5 := by
              intro k''
              induction k'' with
              | zero =>
                intro c μ5 hc s1 s2 s3 s4 s5
                have hc : c = 6 := hc
                subst hc
                refine bX1_prepare_54 E ho (fun _ => bX1_prepare_87 E ho ?_) (fun c => absurd (by decide) c)
                rw [nI_add]
                refine ihk (kk + 1) μ5 (by omega) ?_ (fun j hj => by rw [s5 _ (by decide)]; exact z4 j hj)
                rw [Pe]
                refine ⟨fun x hx => ?_, s4, fun a h1 h2 h3 h4 => by
                  have h1 : a < 285 ∨ 446 ≤ a := h1
                  rw [s5 a (by omega)]; exact F4 a h1 h2 h3 h4⟩
                by_cases e : x = 4 * i + kk
                · subst e
                  rw [show (4 * i + kk) / 4 = i by omega, show (4 * i + kk) % 4 = kk by omega]
                  exact ⟨s1, s2⟩
                · exact s3 x (by omega)
              | succ k'' ihc =>
                intro c μ5 hc s1 s2 s3 s4 s5
                have ec : nI (4 * i + kk) * nI 6 + nI c = nI ((4 * i + kk) * 6 + c) := by rw [nI_mul, nI_add]
                have fr : Fr [295] μ5 (uR μ5 295 (upd (μ5 295) ((4 * i + kk) * 6 + c) (nI (kG D l q i kk c)))) := Fr.uR (by simp)
                refine bX1_prepare_54 E ho (fun c => absurd c (by rw [nI_leE (by omega) (by omega)]; omega)) (fun _ => ?_)
                refine bX1_prepare_61 E ho (vin (by omega) (by omega)) (by rw [ec]; exact vin (by omega) (by omega)) (bX1_prepare_81 E ho ?_)
                rw [ec, ix_nI (show (4 * i + kk) * 6 + c < 2147483648 by omega), ix_nI (show c < 2147483648 by omega), show μ5 (78 + 4) c = nI (kG D l q i kk c) from (by rw [s5 (78 + 4) (by decide)]; exact gs4 c (by omega)), nI_add]
                refine ihc (c + 1) _ (by omega) (s1.row (o := 295) (by omega) fr) (fun c' hc' => ?_) (fun x hx => ⟨(s3 x hx).1.row (o := 295) (by omega) fr, fun c' hc' => ?_⟩) (s4.row (o := 295) (by omega) fr) (fun a ha => by rw [uR_n ha]; exact s5 a ha)
                · rw [uR_s]
                  exact upd_at (fun e => by rw [show c' = c by omega]) (fun e => s2 c' (by omega))
                · rw [uR_s, pk_un (by omega)]; exact (s3 x hx).2 c' hc'
            exact copy 6 0 μ4 (by omega) j1 (fun c' hc' => absurd hc' (Nat.not_lt_zero c')) x4 j2 (fun _ _ => rfl)
        have fr : Fr [293] μ1 (uR μ1 293 (upd (μ1 293) i (nI 0))) := Fr.uR (by simp)
        refine inner 4 0 _ (by omega) ?_ (fun j hj => ?_)
        · rw [Pe]
          refine ⟨fun x hx => ⟨(p1 x (by omega)).1.row (by omega) fr, fun c hc => by rw [uR_n (by decide)]; exact (p1 x (by omega)).2 c hc⟩, p2.row (by omega) fr, fun a h1 h2 h3 h4 => ?_⟩
          have h1 : a < 285 ∨ 446 ≤ a := h1
          rw [uR_n (by omega)]; exact p3 a h1 h2 h3 h4
        · rw [uR_s]
          exact upd_at (fun _ => rfl) (fun e => hz j (by omega))
    exact loop n 0 μ (by omega) (by rw [Pe]; exact ⟨fun x hx => absurd hx (by omega), sc, fun _ _ _ _ _ => rfl⟩) (fun j hj => absurd hj (Nat.not_lt_zero j))
  exact bX1_prepare_0 E ho (I _ rfl)
/-- what was best so far -/
def KO (μ : Mu) (n : Nat) (st : KT4) : Prop := st.1 = true → BigV μ 287 st.2.2.1 ∧ BigV μ 289 st.2.2.2 ∧ ∀ i, i < n → μ 286 i = nI (d4 n st.2.1 i)
theorem KO.fr {n : Nat} {st : KT4} {μ' : Mu} (h : KO μ n st) (e : ∀ a, 286 ≤ a → a ≤ 290 → μ' a = μ a) : KO μ' n st := fun c => ⟨(h c).1.congr (e _ (by decide) (by decide)) (e _ (by decide) (by decide)), (h c).2.1.congr (e _ (by decide) (by decide)) (e _ (by decide) (by decide)), fun i hi => by rw [e _ (by decide) (by decide)]; exact (h c).2.2 i hi⟩
theorem c_judge {l n t : Nat} {q : Nat → Nat} (H : HC μ 1 D) (W : WF D) (sc : SC μ) (hl : l < 2) (hn : n ≤ 6) (T : HQ μ 78 l q n) (A : KA μ D l q n (d4 n t) n) (B : MB μ D) (hnow : ∀ i, i < n → μ 293 i = nI (d4 n t i)) (O : KO μ n (kX D l q n t)) : CtrS Z mX1_judge [rf Z 285, rf Z 78, .int (if (kX D l q n t).1 = true then nI 0 else nI 1)] μ (rV fun μ' => KO μ' n (kX D l q n (t + 1)) ∧ SC μ' ∧ ∀ a, a < 286 ∨ 293 ≤ a → μ' a = μ a) := by
  refine CtrS.intro (by decide +kernel) (Nat.le_of_ble_eq_true rfl) rfl fun X E hB => ?_
  have ho : SH 78 = .inl 4 := rfl
  have kx : kX D l q n (t + 1) = if (kX D l q n t).1 = false ∨ (kX D l q n t).2.2.1 < kV D l q n (d4 n t) ∨ (kV D l q n (d4 n t) = (kX D l q n t).2.2.1 ∧ kF D l q n (d4 n t) < (kX D l q n t).2.2.2) then (true, t, kV D l q n (d4 n t), kF D l q n (d4 n t)) else kX D l q n t := rfl
  rw [kx] at hB
  generalize hst : kX D l q n t = st at *
  clear kx
  refine bX1_judge_0 E ho (c_leastGuessed ho H W sc hl hn T A) fun o μ1 g => ?_
  obtain ⟨g1, g2, rfl⟩ := g
  -- it is better, or alike so far
  have r30 : ∀ b : Int32, (0 ≤ b) → ((0 < b) = (st.1 = false ∨ st.2.2.1 < kV D l q n (d4 n t))) → (¬ 0 < b → st.1 = true ∧ kV D l q n (d4 n t) = st.2.2.1) → JS Z X 30 [(0, rf Z 285), (1, rf Z 78), (3, rf Z o), (4, .int b)] [] μ1 := fun b b0 b1 b2 => by
    refine bX1_judge_30 E ho g1.1 (by rw [T.2.1]; exact vin (by omega) (by omega)) (by rw [T.2.1, ix_nI (by omega)]; exact q_setDifference sc (GB.of rfl (by decide)) (A n (Nat.le_refl n)).1 B.2.2) fun μ2 k => ?_
    obtain ⟨k1, k2, k3⟩ := k
    have k1 : BigV μ2 291 (kF D l q n (d4 n t)) := k1
    have f2 : ∀ a, a ≠ 291 → a ≠ 292 → μ2 a = μ1 a := fun a h1 h2 => k3 a (by simp; omega)
    have o2 : BigV μ2 o (kV D l q n (d4 n t)) := g1.fr k3 (by simp; omega) (by simp; omega)
    have r72 : ∀ μ3, μ3 = μ2 → (st.1 = false ∨ st.2.2.1 < kV D l q n (d4 n t) ∨ (kV D l q n (d4 n t) = st.2.2.1 ∧ kF D l q n (d4 n t) < st.2.2.2)) → JS Z X 72 [(0, rf Z 285), (1, rf Z 78), (3, rf Z o)] [] μ3 := fun μ3 e y => by
      subst e
      rw [if_pos y] at hB
      refine bX1_judge_72 E ho g1.1 (q_copy k2 (GB.of rfl (by decide)) o2) fun μ4 j => ?_
      obtain ⟨j1, j2, j3⟩ := j
      refine bX1_judge_80 E ho (q_copy j2 (GB.of rfl (by decide)) (k1.ot j3 rfl (by decide))) fun μ5 z => bX1_judge_91 E ho ?_
      obtain ⟨z1, z2, z3⟩ := z
      have f5 : ∀ a, a < 287 ∨ 293 ≤ a → μ5 a = μ1 a := fun a ha => by rw [z3 a (by simp; omega), j3 a (by simp; omega), f2 a (by omega) (by omega)]
      have b5 : BigV μ5 287 (kV D l q n (d4 n t)) := j1.ot z3 rfl (by decide)
      have loop : ∀ k i μ6, i + k = n → BigV μ6 287 (kV D l q n (d4 n t)) → BigV μ6 289 (kF D l q n (d4 n t)) → SC μ6 → (∀ j, j < i → μ6 286 j = nI (d4 n t j)) → (∀ a, a ≠ 286 → μ6 a = μ5 a) → JS Z X 94 [(0, rf Z 285), (1, rf Z 78), (5, .int (nI i))] [] μ6 := by
        intro k
        induction k with
        | zero =>
          intro i μ6 hi s1 s2 s3 s4 s5
          have hi : i = n := hi
          subst hi
          exact bX1_judge_94 E ho (fun _ => bX1_judge_123 E hB ⟨rfl, fun _ => ⟨s1, s2, s4⟩, s3, fun a ha => by rw [s5 a (by omega), f5 a (by omega)]⟩) (fun d => absurd (by rw [s5 _ (by decide), f5 _ (by decide), T.2.1, nI_leE (by omega) (by omega)]; omega) d)
        | succ k ih =>
          intro i μ6 hi s1 s2 s3 s4 s5
          have fr : Fr [286] μ6 (uR μ6 286 (upd (μ6 286) i (nI (d4 n t i)))) := Fr.uR (by simp)
          refine bX1_judge_94 E ho (fun d => absurd d (by rw [s5 _ (by decide), f5 _ (by decide), T.2.1, nI_leE (by omega) (by omega)]; omega)) (fun _ => ?_)
          refine bX1_judge_103 E ho (vin (by omega) (by omega)) (vin (by omega) (by omega)) (bX1_judge_117 E ho ?_)
          rw [ix_nI (by omega), s5 293 (by decide), f5 293 (by decide), hnow i (by omega), nI_add]
          refine ih (i + 1) _ (by omega) (s1.row (by omega) fr) (s2.row (by omega) fr) (s3.row (by omega) fr) (fun j hj => ?_) (fun a ha => by rw [uR_n ha]; exact s5 a ha)
          rw [uR_s]
          exact upd_at (fun e => by rw [e]) (fun e => s4 j (by omega))
      exact loop n 0 μ5 (by omega) b5 z1 z2 (fun j hj => absurd hj (Nat.not_lt_zero j)) (fun _ _ => rfl)
    refine bX1_judge_53 E ho g1.1 (fun c => ?_) (fun c => ?_)
    · have c := b1.mp c
      refine r72 μ2 rfl ?_
      rcases c with c | c
      · exact Or.inl c
      · exact Or.inr (Or.inl c)
    · obtain ⟨c1, c2⟩ := b2 c
      have O2 := O.fr (μ' := μ2) (fun a h1 h2 => f2 a (by omega) (by omega))
      refine bX1_judge_58 E ho g1.1 (c_compare k1 (O2 c1).2.1) fun v μ3 j => ?_
      obtain ⟨rfl, e3⟩ := j
      rw [e3]
      refine bX1_judge_69 E ho g1.1 (fun y => ?_) (fun y => ?_)
      · rw [cmp_ge] at y
        have nb : ¬ (st.1 = false ∨ st.2.2.1 < kV D l q n (d4 n t) ∨ (kV D l q n (d4 n t) = st.2.2.1 ∧ kF D l q n (d4 n t) < st.2.2.2)) := fun g => by
          rcases g with g | g | g
          · rw [c1] at g; exact absurd g (by decide)
          · omega
          · omega
        rw [if_neg nb] at hB
        exact bX1_judge_123 E hB ⟨rfl, O2, k2, fun a ha => f2 a (by omega) (by omega)⟩
      · rw [cmp_ge] at y
        exact r72 μ2 rfl (Or.inr (Or.inr ⟨c2, by omega⟩))
  cases hs : st.1 with
  | false =>
    rw [if_neg (by decide)]
    refine bX1_judge_5 E ho g1.1 (fun c => absurd c (by decide)) (fun _ => bX1_judge_10 E ho g1.1 ?_)
    refine bX1_judge_22 E ho g1.1 (fun _ => ?_) (fun c => absurd (by decide) c)
    exact r30 (nI 1) (by decide) (propext ⟨fun _ => Or.inl hs, fun _ => by decide⟩) (fun c => absurd (by decide) c)
  | true =>
    rw [if_pos rfl]
    refine bX1_judge_5 E ho g1.1 (fun _ => ?_) (fun c => absurd rfl c)
    refine bX1_judge_14 E ho g1.1 (c_compare g1 (O hs).1) fun v μ2 j => ?_
    obtain ⟨rfl, e2⟩ := j
    rw [e2]
    refine bX1_judge_22 E ho g1.1 (fun c => ?_) (fun c => ?_)
    · have c0 := c
      rw [cmp_ge] at c
      refine r30 _ c0 ?_ (fun d => ⟨hs, ?_⟩)
      · rw [cmp_gt]
        exact propext ⟨fun h => Or.inr h, fun h => Or.elim h (fun h => by rw [hs] at h; exact absurd h (by decide)) id⟩
      · rw [cmp_gt] at d; omega
    · rw [cmp_ge] at c
      have nb : ¬ (st.1 = false ∨ st.2.2.1 < kV D l q n (d4 n t) ∨ (kV D l q n (d4 n t) = st.2.2.1 ∧ kF D l q n (d4 n t) < st.2.2.2)) := fun g => by
        rcases g with g | g | g
        · rw [hs] at g; exact absurd g (by decide)
        · omega
        · omega
      rw [if_neg nb] at hB
      exact bX1_judge_29 E hB ⟨rfl, O, sc, fun _ _ => rfl⟩
end CHOICE
