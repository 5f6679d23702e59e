/-! LENGTHS: the class' spread -/
def TW (μ : Mu) (a b : Nat) : Prop := μ 105 2 = nI a ∧ μ 105 3 = nI b ∧ ((a = 106 ∧ b = 107) ∨ (a = 107 ∧ b = 106))
def FrSp (μ μ' : Mu) : Prop := ∀ a, a < 105 ∨ 273 ≤ a → μ' a = μ a
section SPREAD
variable {Z : ZT} {μ : Mu} {D : DD} {im : Nat → Option DD} {tx : TX} {s : Nat → Int32} {f : Nat × Nat}
theorem FrSp.rf : FrSp μ μ := fun _ _ => rfl
theorem FrSp.tr {μ1 μ2 : Mu} (h1 : FrSp μ μ1) (h2 : FrSp μ1 μ2) : FrSp μ μ2 := fun a ha => (h2 a ha).trans (h1 a ha)
theorem FrSp.p {μ' : Mu} (h : FrSp μ μ') : FrP μ μ' := fun a ha => h a (by omega)
theorem SC.tw (q : SC μ) : ∃ a b, TW μ a b := by
  rcases q.2.1 with ⟨h1, h2⟩ | ⟨h1, h2⟩
  · exact ⟨106, 107, h1, h2, Or.inl ⟨rfl, rfl⟩⟩
  · exact ⟨107, 106, h1, h2, Or.inr ⟨rfl, rfl⟩⟩
theorem SC.sp {μ' : Mu} {a b : Nat} (q : SC μ) (hF : Fr [105] μ μ') (t : TW μ' a b) : SC μ' := by
  obtain ⟨q1, q2, q3, q4⟩ := q
  have n : ∀ o v, BigV μ o v → BigV μ' o v := fun o v hv => hv.fr hF (by simp; intro e; have := hv.1; rw [e] at this; exact absurd this (by decide)) (by simp; intro e; have := shr_X0_0 hv.1; rw [e] at this; exact absurd this (by decide))
  refine ⟨fun o ho => ?_, ?_, n _ _ q3, fun c hc => n _ _ (q4 c hc)⟩
  · obtain ⟨v, hv⟩ := q1 o ho
    exact ⟨v, n o v hv⟩
  · obtain ⟨h1, h2, ⟨rfl, rfl⟩ | ⟨rfl, rfl⟩⟩ := t
    · exact Or.inl ⟨h1, h2⟩
    · exact Or.inr ⟨h1, h2⟩
theorem BigV.sp {μ' : Mu} {o v : Nat} (hv : BigV μ o v) (hF : Fr [105] μ μ') : BigV μ' o v := hv.fr hF (by simp; intro e; have := hv.1; rw [e] at this; exact absurd this (by decide)) (by simp; intro e; have := shr_X0_0 hv.1; rw [e] at this; exact absurd this (by decide))
theorem elv {a b t u : Nat} (h : (a = 106 ∧ b = 107) ∨ (a = 107 ∧ b = 106)) : el a t ≠ el b u := by
  rcases h with ⟨rfl, rfl⟩ | ⟨rfl, rfl⟩
  · show 111 + 4 * t ≠ 113 + 4 * u; omega
  · show 113 + 4 * t ≠ 111 + 4 * u; omega
theorem elw {a t u : Nat} (h : a = 106 ∨ a = 107) (e : t ≠ u) : el a t ≠ el a u := by
  rcases h with rfl | rfl
  · show 111 + 4 * t ≠ 111 + 4 * u; omega
  · show 113 + 4 * t ≠ 113 + 4 * u; omega
theorem el_r {a t : Nat} (h : a = 106 ∨ a = 107) (ht : t < 37) : 111 ≤ el a t ∧ el a t < 258 := by
  rcases h with rfl | rfl
  · show 111 ≤ 111 + 4 * t ∧ 111 + 4 * t < 258; omega
  · show 111 ≤ 113 + 4 * t ∧ 113 + 4 * t < 258; omega
theorem GBv {a t : Nat} (h : a = 106 ∨ a = 107) (ht : t < 37) : GB (el a t) := GB.of (she_var h ht) (Or.inl (by have := el_r h ht; omega))
theorem GB8 {m : Nat} (hm : m < 7) : GB (el 108 m) := GB.of (she108 hm) (Or.inl (by show 259 + 2 * m < 298; omega))
theorem c_sweigh {ms h : Nat} (sc : SC μ) (hm : ms ≤ 1000000) (h1 : 1 ≤ h) (h6 : h ≤ 6) : CtrS Z mX8_weigh [rf Z 105, .int (nI ms), .int (nI h)] μ (rV fun μ' => (∀ m, 1 ≤ m → m ≤ h → BigV μ' (el 108 m) (wt ms h m)) ∧ SC μ' ∧ ∀ a, a ≠ 109 → a ≠ 110 → (a < 259 ∨ 273 ≤ a) → μ' a = μ a) := by
  refine CtrS.intro (by decide +kernel) (Nat.le_of_ble_eq_true rfl) rfl fun X E hB => ?_
  have g9 : GB 109 := GB.of rfl (by decide)
  have e8 : ∀ m, el 108 m = 259 + 2 * m := fun m => rfl
  have m5 : ∀ k, k ≤ 6 → (1000000 : Nat) ^ k ≤ 1000000 ^ 6 := fun k hk => Nat.pow_le_pow_right (by decide) hk
  have b6 : (1000000 : Nat) ^ 6 < 1073741824 ^ 24 := by decide
  have loop : ∀ k m μ1, m + 1 + k = h → BigV μ1 109 (ms ^ m) → (∀ m', 1 ≤ m' → m' ≤ m → BigV μ1 (el 108 m') (wt ms h m')) → SC μ1 → (∀ a, a ≠ 109 → a ≠ 110 → (a < 259 ∨ 273 ≤ a) → μ1 a = μ a) → JS Z X 10 [(0, rf Z 105), (1, .int (nI ms)), (2, .int (nI h)), (3, .int (nI (m + 1)))] [] μ1 := by
    intro k
    induction k with
    | zero =>
      intro m μ1 hm1 hp hw q1 hF
      have hm1 : m + 1 = h := hm1
      refine bX8_weigh_10 E (fun _ => ?_) (fun c => absurd (by rw [nI_leE (by omega) (by omega)]; omega) c)
      refine bX8_weigh_83 E (vin (by omega) (by omega)) (by rw [ix_nI (by omega)]; exact q_copy q1 (GB8 (by omega)) hp) fun μ2 g => ?_
      obtain ⟨g1, g2, g3⟩ := g
      refine bX8_weigh_96 E hB ⟨rfl, fun m' k1 k2 => ?_, g2, fun a ha hb hc => by rw [g3 a (by rw [e8]; simp; omega)]; exact hF a ha hb hc⟩
      by_cases c : m' = h
      · subst c
        rw [wt, if_neg (by omega), show m' - 1 = m by omega]
        exact g1
      · exact (hw m' k1 (by omega)).ot g3 (she108 (by omega)) (by rw [e8, e8]; omega)
    | succ k ih =>
      intro m μ1 hm1 hp hw q1 hF
      have gm : GB (el 108 (m + 1)) := GB8 (by omega)
      refine bX8_weigh_10 E (fun c => absurd c (by rw [nI_leE (by omega) (by omega)]; omega)) (fun _ => ?_)
      refine bX8_weigh_15 E (vin (by omega) (by omega)) (by rw [ix_nI (by omega)]; exact q_copy q1 gm hp) fun μ2 g => ?_
      obtain ⟨g1, g2, g3⟩ := g
      have F2 : ∀ a, a ≠ 109 → a ≠ 110 → (a < 259 ∨ 273 ≤ a) → μ2 a = μ a := fun a ha hb hc => by rw [g3 a (by rw [e8]; simp; omega)]; exact hF a ha hb hc
      have p2 := hp.ot g3 gm.1 (by rw [e8]; omega)
      have w2 : ∀ m', 1 ≤ m' → m' ≤ m → BigV μ2 (el 108 m') (wt ms h m') := fun m' k1 k2 => (hw m' k1 k2).ot g3 gm.1 (by rw [e8, e8]; omega)
      have pm := pow_six hm m
      have l1 := Nat.mul_le_mul pm (show 1000000 - ms ≤ 1000000 by omega)
      rw [show (1000000 : Nat) ^ m * 1000000 = 1000000 ^ (m + 1) from rfl] at l1
      refine bX8_weigh_28 E (vin (by omega) (by omega)) (by rw [ix_nI (by omega), nI_sub hm]; exact q_times g2 gm g1 (by omega) (Nat.lt_of_le_of_lt (Nat.le_trans l1 (m5 _ (by omega))) b6)) fun μ3 j => bX8_weigh_41 E ?_
      obtain ⟨j1, j2, j3⟩ := j
      rw [nI_add]
      have inner : ∀ k' r μ4, m + 2 + r + k' = h → BigV μ4 (el 108 (m + 1)) (ms ^ m * (1000000 - ms) * 1000000 ^ r) → BigV μ4 109 (ms ^ m) → (∀ m', 1 ≤ m' → m' ≤ m → BigV μ4 (el 108 m') (wt ms h m')) → SC μ4 → (∀ a, a ≠ 109 → a ≠ 110 → (a < 259 ∨ 273 ≤ a) → μ4 a = μ a) → JS Z X 46 [(0, rf Z 105), (1, .int (nI ms)), (2, .int (nI h)), (3, .int (nI (m + 1))), (4, .int (nI (m + 2 + r)))] [] μ4 := by
        intro k'
        induction k' with
        | zero =>
          intro r μ4 hr k1 k2 k3 k4 k5
          have hr : m + 2 + r = h := hr
          refine bX8_weigh_46 E (fun _ => ?_) (fun c => absurd (by rw [nI_leE (by omega) (by omega)]; omega) c)
          have l2 := pow_six hm (m + 1)
          refine bX8_weigh_69 E (q_times k4 g9 k2 (by omega) (by rw [show ms ^ m * ms = ms ^ (m + 1) from rfl]; exact Nat.lt_of_le_of_lt (Nat.le_trans l2 (m5 _ (by omega))) b6)) fun μ5 i => bX8_weigh_77 E ?_
          obtain ⟨i1, i2, i3⟩ := i
          rw [nI_add]
          refine ih (m + 1) μ5 (by omega) i1 (fun m' z1 z2 => ?_) i2 (fun a ha hb hc => by rw [i3 a (by simp; omega)]; exact k5 a ha hb hc)
          by_cases c : m' = m + 1
          · subst c
            rw [wt, if_pos (by omega), Nat.add_sub_cancel, show h - 1 - (m + 1) = r by omega]
            exact k1.ot i3 rfl (by rw [e8]; omega)
          · exact (k3 m' z1 (by omega)).ot i3 rfl (by rw [e8]; omega)
        | succ k' ihk =>
          intro r μ4 hr k1 k2 k3 k4 k5
          have l2 := Nat.mul_le_mul_right (1000000 ^ (r + 1)) l1
          rw [← Nat.pow_add] at l2
          have eP : ms ^ m * (1000000 - ms) * 1000000 ^ r * 1000000 = ms ^ m * (1000000 - ms) * 1000000 ^ (r + 1) := by rw [Nat.mul_assoc]; rfl
          refine bX8_weigh_46 E (fun c => absurd c (by rw [nI_leE (by omega) (by omega)]; omega)) (fun _ => ?_)
          refine bX8_weigh_52 E (vin (by omega) (by omega)) (by rw [ix_nI (by omega)]; exact q_times k4 gm k1 (by decide) (by rw [eP]; exact Nat.lt_of_le_of_lt (Nat.le_trans l2 (m5 _ (by omega))) b6)) fun μ5 i => bX8_weigh_63 E ?_
          obtain ⟨i1, i2, i3⟩ := i
          rw [nI_add]
          rw [eP] at i1
          exact ihk (r + 1) μ5 (by omega) i1 (k2.ot i3 gm.1 (by rw [e8]; omega)) (fun m' z1 z2 => (k3 m' z1 z2).ot i3 gm.1 (by rw [e8, e8]; omega)) i2 (fun a ha hb hc => by rw [i3 a (by rw [e8]; simp; omega)]; exact k5 a ha hb hc)
      exact inner (h - (m + 2)) 0 μ3 (by omega) (by rw [Nat.pow_zero, Nat.mul_one]; exact j1) (p2.ot j3 gm.1 (by rw [e8]; omega)) (fun m' k1 k2 => (w2 m' k1 k2).ot j3 gm.1 (by rw [e8, e8]; omega)) j2 (fun a ha hb hc => by rw [j3 a (by rw [e8]; simp; omega)]; exact F2 a ha hb hc)
  refine bX8_weigh_0 E (q_set sc g9 (by decide)) fun μ1 g => bX8_weigh_8 E ?_
  obtain ⟨g1, g2, g3⟩ := g
  exact loop (h - 1) 0 μ1 (by omega) g1 (fun m' k1 k2 => absurd k1 (by omega)) g2 (fun a ha hb _ => g3 a (by simp; omega))
/-- the spread of some riddles: how long at most, by how many tens, the row -/
def DSp (μ : Mu) (a b mx tn : Nat) (F : Nat → Nat) : Prop := TW μ a b ∧ μ 105 1 = nI mx ∧ μ 105 0 = nI tn ∧ ∀ t, t ≤ mx → BigV μ (el a t) (F t)
theorem c_addRiddle {ms h a b mx tn B : Nat} {F : Nat → Nat} (sc : SC μ) (S : DSp μ a b mx tn F) (hm : ms ≤ 1000000) (h1 : 1 ≤ h) (h6 : h ≤ 6) (hx : mx + h ≤ 36) (ht : tn ≤ 1000) (hF : ∀ t, F t ≤ B) (hb : 37 * (B * 10 ^ 30) < 1073741824 ^ 24) : CtrS Z mX8_addRiddle [rf Z 105, .int (nI ms), .int (nI h)] μ (rV fun μ' => DSp μ' b a (mx + h) (tn + 6 * (h - 1)) (gT F (wt ms h) h (mx + 1)) ∧ SC μ' ∧ FrSp μ μ') := by
  refine CtrS.intro (by decide +kernel) (Nat.le_of_ble_eq_true rfl) rfl fun X E hB => ?_
  obtain ⟨T, s1, s0, hv⟩ := S
  have T2 := T.2.2
  have ha : a = 106 ∨ a = 107 := by omega
  have hbb : b = 106 ∨ b = 107 := by omega
  have e8 : ∀ m, el 108 m = 259 + 2 * m := fun m => rfl
  have ia : ix (μ 105 2) = a := by rw [T.1, ix_nI (by omega)]
  have ib : ix (μ 105 3) = b := by rw [T.2.1, ix_nI (by omega)]
  have hw : ∀ m, 1 ≤ m → m ≤ h → wt ms h m ≤ 10 ^ 30 := fun m k1 k2 => Nat.le_trans (wt_le hm k1 k2) (Nat.le_trans (Nat.pow_le_pow_right (by decide) (show h - 1 ≤ 5 by omega)) (by decide))
  refine bX8_addRiddle_0 E (fun c => absurd c (by rw [nI_ltE (by omega) (by omega)]; omega)) (fun _ => ?_)
  refine bX8_addRiddle_5 E (fun c => absurd c (by rw [nI_ltE (by omega) (by omega)]; omega)) (fun _ => ?_)
  refine bX8_addRiddle_11 E (fun _ => ?_) (fun c => absurd (by rw [s1, nI_add, nI_leE (by omega) (by omega)]; omega) c)
  refine bX8_addRiddle_23 E (c_sweigh sc hm h1 h6) fun μ1 g => bX8_addRiddle_29 E ?_
  obtain ⟨g1, g2, g3⟩ := g
  -- what stays all along
  have INVd : ∀ (P : Mu → Prop), P = (fun μ2 => (∀ t, t ≤ mx → BigV μ2 (el a t) (F t)) ∧ (∀ m, 1 ≤ m → m ≤ h → BigV μ2 (el 108 m) (wt ms h m)) ∧ SC μ2 ∧ FrSp μ μ2 ∧ μ2 105 = μ 105) → JS Z X 31 [(0, rf Z 105), (2, .int (nI h)), (3, .int (nI 0))] [] μ1 := by
    intro P hP
    have Pe : ∀ μ2, P μ2 = ((∀ t, t ≤ mx → BigV μ2 (el a t) (F t)) ∧ (∀ m, 1 ≤ m → m ≤ h → BigV μ2 (el 108 m) (wt ms h m)) ∧ SC μ2 ∧ FrSp μ μ2 ∧ μ2 105 = μ 105) := fun μ2 => by rw [hP]
    have step : ∀ μ2 μ3 u v, P μ2 → u ≤ 36 → Fr [el b u, el b u + 1] μ2 μ3 → BigV μ3 (el b u) v → SC μ3 → P μ3 := fun μ2 μ3 u v hp hu hF3 hbv hq => by
      rw [Pe] at hp ⊢
      obtain ⟨p1, p2, p3, p4, p5⟩ := hp
      have er := el_r hbb (show u < 37 by omega)
      have eb := she_var hbb (show u < 37 by omega)
      exact ⟨fun t ht => (p1 t ht).ot hF3 eb (elv T2), fun m k1 k2 => (p2 m k1 k2).ot hF3 eb (by rw [e8]; omega), hq, p4.tr (fun x hx => hF3 x (by simp; omega)), by rw [hF3 105 (by simp; omega)]; exact p5⟩
    have P1 : P μ1 := by
      rw [Pe]
      refine ⟨fun t ht => ?_, g1, g2, fun x hx => g3 x (by omega) (by omega) (by omega), g3 _ (by decide) (by decide) (by decide)⟩
      have er := el_r ha (show t < 37 by omega)
      have := hv t ht
      have nl := big_ne this.1 (show SH 109 = .inl 0 from rfl)
      exact this.congr (g3 _ (by omega) (fun e => absurd (big_ne (show SH 109 = .inl 0 from rfl) this.1) (by rw [e]; exact fun h => h rfl)) (by omega)) (g3 _ nl (fun e => by
        have e : el a t = 109 := by omega
        omega) (by omega))
    have b105 : ∀ μ2, P μ2 → μ2 105 = μ 105 := fun μ2 hp => by rw [Pe] at hp; exact hp.2.2.2.2
    have qSC : ∀ μ2, P μ2 → SC μ2 := fun μ2 hp => by rw [Pe] at hp; exact hp.2.2.1
    -- the end
    have fin : ∀ μ2, P μ2 → (∀ u, u ≤ mx + h → BigV μ2 (el b u) (gT F (wt ms h) h (mx + 1) u)) → JS Z X 113 [(0, rf Z 105), (2, .int (nI h))] [] μ2 := fun μ2 hp hu => by
      have e5 := b105 μ2 hp
      have q2 := qSC μ2 hp
      rw [Pe] at hp
      have ia2 : ix (μ2 105 2) = a := by rw [e5]; exact ia
      have ib2 : ix (μ2 105 3) = b := by rw [e5]; exact ib
      refine bX8_addRiddle_113 E (by rw [ia2]; exact ha) (by rw [ib2]; exact hbb) (by rw [ib2]; omega) (bX8_addRiddle_126 E (by rw [ia2]; exact sha_var ha) (by rw [ia2]; omega) ?_)
      rw [ia2, ib2, e5, uR_s, uR_uR]
      refine bX8_addRiddle_131 E (bX8_addRiddle_141 E (bX8_addRiddle_156 E hB ?_))
      simp only [uR_s, uR_uR]
      rw [pk_un (show (1 : Nat) ≠ 3 by decide), pk_un (show (1 : Nat) ≠ 2 by decide), s1, nI_add, pk_un (show (0 : Nat) ≠ 1 by decide), pk_un (show (0 : Nat) ≠ 3 by decide), pk_un (show (0 : Nat) ≠ 2 by decide), s0, nI_sub (by omega), nI_mul, nI_add]
      generalize hr : upd (upd (upd (upd (μ 105) 2 (nI b)) 3 (nI a)) 1 (nI (mx + h))) 0 (nI (tn + 6 * (h - 1))) = r
      have r2 : r 2 = nI b := by rw [← hr, pk_un (by decide), pk_un (by decide), pk_un (by decide), pk_us]
      have r3 : r 3 = nI a := by rw [← hr, pk_un (by decide), pk_un (by decide), pk_us]
      have r1 : r 1 = nI (mx + h) := by rw [← hr, pk_un (by decide), pk_us]
      have r0 : r 0 = nI (tn + 6 * (h - 1)) := by rw [← hr, pk_us]
      have tw : TW (uR μ2 105 r) b a := ⟨by rw [uR_s]; exact r2, by rw [uR_s]; exact r3, by omega⟩
      have fr : Fr [105] μ2 (uR μ2 105 r) := Fr.uR (by simp)
      exact ⟨rfl, ⟨tw, by rw [uR_s]; exact r1, by rw [uR_s]; exact r0, fun t ht => (hu t ht).sp fr⟩, q2.sp fr tw, hp.2.2.2.1.tr fun x hx => fr x (by simp; omega)⟩
    -- riddle by minutes
    have double : ∀ k t μ2, t + k = mx + 1 → P μ2 → (∀ u, u ≤ mx + h → BigV μ2 (el b u) (gT F (wt ms h) h t u)) → JS Z X 59 [(0, rf Z 105), (2, .int (nI h)), (3, .int (nI t))] [] μ2 := by
      intro k
      induction k with
      | zero =>
        intro t μ2 hk hp hu
        have hk : t = mx + 1 := hk
        subst hk
        exact bX8_addRiddle_59 E (fun _ => fin μ2 hp hu) (fun c => absurd (by rw [b105 μ2 hp, s1, nI_ltE (by omega) (by omega)]; omega) c)
      | succ k ih =>
        intro t μ2 hk hp hu
        refine bX8_addRiddle_59 E (fun c => absurd c (by rw [b105 μ2 hp, s1, nI_ltE (by omega) (by omega)]; omega)) (fun _ => bX8_addRiddle_67 E ?_)
        have inner : ∀ k' m μ3, m + k' = h → P μ3 → (∀ u, u ≤ mx + h → BigV μ3 (el b u) (gT F (wt ms h) h t u + gu1 F (wt ms h) t m u)) → JS Z X 70 [(0, rf Z 105), (2, .int (nI h)), (3, .int (nI t)), (4, .int (nI (m + 1)))] [] μ3 := by
          intro k'
          induction k' with
          | zero =>
            intro m μ3 hk' hp3 hu3
            have hk' : m = h := hk'
            subst hk'
            refine bX8_addRiddle_70 E (fun _ => bX8_addRiddle_107 E ?_) (fun c => absurd (by rw [nI_ltE (by omega) (by omega)]; omega) c)
            rw [nI_add]
            exact ih (t + 1) μ3 (by omega) hp3 hu3
          | succ k' ihk =>
            intro m μ3 hk' hp3 hu3
            have e5 := b105 μ3 hp3
            have ia3 : ix (μ3 105 2) = a := by rw [e5]; exact ia
            have ib3 : ix (μ3 105 3) = b := by rw [e5]; exact ib
            have hp3' := hp3
            rw [Pe] at hp3'
            obtain ⟨p1, p2, p3, p4, p5⟩ := hp3'
            have u0 : t + (m + 1) ≤ mx + h := by omega
            have now := hu3 (t + (m + 1)) u0
            have z1 : gu1 F (wt ms h) t m (t + (m + 1)) = 0 := if_neg (by omega)
            rw [z1, Nat.add_zero] at now
            have bd : gT F (wt ms h) h t (t + (m + 1)) + F t * wt ms h (m + 1) < 1073741824 ^ 24 := by
              have b1 := gT_b (u := t + (m + 1)) hF hw t
              have b2 := Nat.mul_le_mul (hF t) (hw (m + 1) (by omega) (by omega))
              have b3 := Nat.mul_le_mul_right (B * 10 ^ 30) (show t + 1 ≤ 37 by omega)
              rw [Nat.add_mul, Nat.one_mul] at b3
              exact Nat.lt_of_le_of_lt (Nat.le_trans (Nat.add_le_add b1 b2) b3) hb
            have er := el_r hbb (show t + (m + 1) < 37 by omega)
            refine bX8_addRiddle_70 E (fun c => absurd c (by rw [nI_ltE (by omega) (by omega)]; omega)) (fun _ => ?_)
            refine bX8_addRiddle_76 E (by rw [ib3]; exact hbb) (by rw [nI_add]; exact vin (by omega) (by omega)) (by rw [ia3]; exact ha) (vin (by omega) (by omega)) (vin (by omega) (by omega)) (by rw [ib3, ia3, nI_add, ix_nI (by omega), ix_nI (show t < 2147483648 by omega), ix_nI (show m + 1 < 2147483648 by omega)]; exact q_addProduct p3 (GBv hbb (by omega)) now (p1 t (by omega)) (p2 (m + 1) (by omega) (by omega)) (fun e => elv T2 e.symm) (by rw [e8]; omega) bd) fun μ4 j => bX8_addRiddle_101 E ?_
            obtain ⟨j1, j2, j3⟩ := j
            rw [nI_add]
            refine ihk (m + 1) μ4 (by omega) (step μ3 μ4 _ _ hp3 (by omega) j3 j1 j2) fun u hu' => ?_
            by_cases c : u = t + (m + 1)
            · subst c
              rw [gu1_at, z1, Nat.zero_add]
              exact j1
            · rw [gu1_ne c]
              exact (hu3 u hu').ot j3 (she_var hbb (by omega)) (elw hbb c)
        exact inner h 0 μ2 (by omega) hp (fun u hu' => by rw [gu1_0, Nat.add_zero]; exact hu u hu')
    -- the new row is 0 first
    have zero : ∀ k u μ2, u + k = mx + h + 1 → P μ2 → (∀ u', u' < u → BigV μ2 (el b u') 0) → JS Z X 31 [(0, rf Z 105), (2, .int (nI h)), (3, .int (nI u))] [] μ2 := by
      intro k
      induction k with
      | zero =>
        intro u μ2 hk hp hu
        have hk : u = mx + h + 1 := hk
        subst hk
        refine bX8_addRiddle_31 E (fun _ => bX8_addRiddle_57 E ?_) (fun c => absurd (by rw [b105 μ2 hp, s1, nI_add, nI_ltE (by omega) (by omega)]; omega) c)
        exact double (mx + 1) 0 μ2 (by omega) hp (fun u hu' => hu u (by omega))
      | succ k ih =>
        intro u μ2 hk hp hu
        have e5 := b105 μ2 hp
        have ib2 : ix (μ2 105 3) = b := by rw [e5]; exact ib
        refine bX8_addRiddle_31 E (fun c => absurd c (by rw [e5, s1, nI_add, nI_ltE (by omega) (by omega)]; omega)) (fun _ => ?_)
        refine bX8_addRiddle_41 E (by rw [ib2]; exact hbb) (vin (by omega) (by omega)) (by rw [ib2, ix_nI (by omega)]; exact q_set (qSC μ2 hp) (GBv hbb (by omega)) (by decide)) fun μ3 j => bX8_addRiddle_51 E ?_
        obtain ⟨j1, j2, j3⟩ := j
        rw [nI_add]
        refine ih (u + 1) μ3 (by omega) (step μ2 μ3 _ _ hp (by omega) j3 j1 j2) fun u' hu' => ?_
        by_cases c : u' = u
        · subst c; exact j1
        · exact (hu u' (by omega)).ot j3 (she_var hbb (by omega)) (elw hbb c)
    exact zero (mx + h + 1) 0 μ1 (by omega) P1 (fun u hu => absurd hu (Nat.not_lt_zero u))
  exact INVd _ rfl
def tnn (D : DD) (x : Nat) : Nat → Nat
  | 0 => 0
  | i + 1 => if i = x then tnn D x i else tnn D x i + 6 * (D 13 0 - 1)
theorem tnn_le (WW : WN D) {x : Nat} : ∀ i, tnn D x i ≤ 30 * i
  | 0 => Nat.le_refl 0
  | i + 1 => by
    have := tnn_le WW (x := x) i
    have := WW.1.2.1
    unfold tnn; split <;> omega
theorem c_ofHunt {o l n x : Nat} {q : Nat → Nat} {xI : Int32} (ho : SH o = .inl 4) (WW : WN D) (sc : SC μ) (Q : QO D q n) (T : HQ μ o l q n) (L : HLd μ o D l q n n) (hx : ∀ i, i < n → (nI i = xI) = (i = x)) : CtrS Z mX8_ofHunt [rf Z 105, rf Z o, .int xI, .int (nI (D 13 0))] μ (rV fun μ' => (∃ a b, DSp μ' a b (mo D x n) (tnn D x n) (ds D l q x n)) ∧ SC μ' ∧ FrSp μ μ') := by
  refine CtrS.intro (by decide +kernel) (Nat.le_of_ble_eq_true rfl) rfl fun X E hB => ?_
  have n6 := Q.1
  have h1 := WW.1.1
  have h6 := WW.1.2.1
  have hh2 := hun_le ho
  have loop : ∀ k i μ1, i + k = n → (∃ a b, DSp μ1 a b (mo D x i) (tnn D x i) (ds D l q x i)) → SC μ1 → FrSp μ μ1 → JS Z X 23 [(0, rf Z 105), (1, rf Z o), (2, .int xI), (3, .int (nI (D 13 0))), (4, .int (nI i))] [] μ1 := by
    intro k
    induction k with
    | zero =>
      intro i μ1 hi hS hq hF
      have : i = n := hi
      subst this
      exact bX8_ofHunt_23 E ho (fun _ => bX8_ofHunt_56 E hB ⟨rfl, hS, hq, hF⟩) (fun c => absurd (by rw [hF o (by omega), T.2.1, nI_leE (by omega) (by omega)]; omega) c)
    | succ k ih =>
      intro i μ1 hi hS hq hF
      refine bX8_ofHunt_23 E ho (fun c => absurd c (by rw [hF o (by omega), T.2.1, nI_leE (by omega) (by omega)]; omega)) (fun _ => ?_)
      have nx := ih (i + 1)
      have r50 : ∀ μ2, (∃ a b, DSp μ2 a b (mo D x (i + 1)) (tnn D x (i + 1)) (ds D l q x (i + 1))) → SC μ2 → FrSp μ μ2 → JS Z X 50 [(0, rf Z 105), (1, rf Z o), (2, .int xI), (3, .int (nI (D 13 0))), (4, .int (nI i))] [] μ2 := fun μ2 k1 k2 k3 => by
        refine bX8_ofHunt_50 E ho ?_
        rw [nI_add]
        exact nx μ2 (by omega) k1 k2 k3
      refine bX8_ofHunt_32 E ho (fun c => ?_) (fun c => ?_)
      · rw [hx i (by omega)] at c
        refine r50 μ1 ?_ hq hF
        rw [mo, tnn, if_pos c, if_pos c, show ds D l q x (i + 1) = ds D l q x i from funext fun u => if_pos c]
        exact hS
      rw [hx i (by omega)] at c
      obtain ⟨a, b, S⟩ := hS
      have m6 := mo_le WW (x := x) i
      have t6 := tnn_le WW (x := x) i
      have bd : 37 * ((40 * 10 ^ 30) ^ i * 10 ^ 30) < 1073741824 ^ 24 := Nat.lt_of_le_of_lt (Nat.mul_le_mul_left _ (Nat.mul_le_mul_right _ (Nat.pow_le_pow_right (by decide) (show i ≤ 5 by omega)))) (by decide)
      refine bX8_ofHunt_38 E ho (vin (by omega) (by omega)) (by rw [ix_nI (by omega), hF (o + 3) (by omega), (L.2.2 i (by omega)).2.1]; exact c_addRiddle hq S hMs_le h1 h6 (by omega) (by omega) (fun t => ds_b WW i t) bd) fun μ2 j => ?_
      obtain ⟨j1, j2, j3⟩ := j
      refine r50 μ2 ⟨b, a, ?_⟩ j2 (hF.tr j3)
      rw [mo, tnn, if_neg c, if_neg c]
      refine ⟨j1.1, j1.2.1, j1.2.2.1, fun t ht => ?_⟩
      have e : ds D l q x (i + 1) t = gT (ds D l q x i) (wt (hMs D l q i) (D 13 0)) (D 13 0) (mo D x i + 1) t := by
        rw [show ds D l q x (i + 1) t = _ from if_neg c, ← gT_0 (T0 := mo D x i + 1) (fun t ht => ds_z i t (by omega)) (39 - mo D x i), show mo D x i + 1 + (39 - mo D x i) = 40 by omega]
      rw [e]
      exact j1.2.2.2 t ht
  obtain ⟨a, b, tw⟩ := sc.tw
  have ha : a = 106 ∨ a = 107 := by have := tw.2.2; omega
  refine bX8_ofHunt_0 E ho (bX8_ofHunt_5 E ho ?_)
  rw [uR_s, uR_uR]
  generalize hr : upd (upd (μ 105) 1 (nI 0)) 0 (nI 0) = r
  have r0 : r 0 = nI 0 := by rw [← hr, pk_us]
  have r1 : r 1 = nI 0 := by rw [← hr, pk_un (by decide), pk_us]
  have r2 : r 2 = nI a := by rw [← hr, pk_un (by decide), pk_un (by decide)]; exact tw.1
  have r3 : r 3 = nI b := by rw [← hr, pk_un (by decide), pk_un (by decide)]; exact tw.2.1
  have tw2 : TW (uR μ 105 r) a b := ⟨by rw [uR_s]; exact r2, by rw [uR_s]; exact r3, tw.2.2⟩
  have fr : Fr [105] μ (uR μ 105 r) := Fr.uR (by simp)
  have q1 := sc.sp fr tw2
  have ia : ix (uR μ 105 r 105 2) = a := by rw [tw2.1, ix_nI (by omega)]
  refine bX8_ofHunt_10 E ho (by rw [ia]; exact ha) (vin (by omega) (by omega)) (by rw [ia, ix_nI (by omega)]; exact q_set q1 (GBv ha (by decide)) (by decide)) fun μ2 j => bX8_ofHunt_20 E ho ?_
  obtain ⟨j1, j2, j3⟩ := j
  have er := el_r ha (show 0 < 37 by decide)
  have e5 : μ2 105 = r := by rw [j3 105 (by simp; omega), uR_s]
  refine loop n 0 μ2 (by omega) ⟨a, b, ⟨by rw [e5]; exact r2, by rw [e5]; exact r3, tw.2.2⟩, by rw [e5]; exact r1, by rw [e5]; exact r0, fun t ht => ?_⟩ j2 (fun y hy => by rw [j3 y (by simp; omega), uR_n (by omega)])
  obtain rfl : t = 0 := Nat.le_zero.mp ht
  exact j1
theorem c_gather {o a b mx tn B lo hi1 : Nat} {F : Nat → Nat} {a2 a3 : Int32} (ho : GB o) (hd : 273 < o) (sc : SC μ) (S : DSp μ a b mx tn F) (hm : mx ≤ 36) (hF : ∀ t, F t ≤ B) (hb : 40 * B < 1073741824 ^ 24) (hlo : (if a2 < nI 0 then nI 0 else a2) = nI lo) (hlo2 : lo < 1000000) (hh : hi1 ≤ mx + 1) (hc : ∀ t, t < 1000000 → ((if nI mx < a3 then nI mx else a3) < nI t) = (hi1 ≤ t)) : CtrS Z mX8_gather [rf Z 105, rf Z o, .int a2, .int a3] μ (rV fun μ' => BigV μ' o (pS F (fun t => decide (lo ≤ t)) hi1) ∧ SC μ' ∧ Fr [o, o + 1] μ μ') := by
  refine CtrS.intro (by decide +kernel) (Nat.le_of_ble_eq_true rfl) rfl fun X E hB => ?_
  obtain ⟨T, s1, s0, hv⟩ := S
  have ha : a = 106 ∨ a = 107 := by have := T.2.2; omega
  have loop : ∀ k t μ1, lo ≤ t → (t = lo ∨ t ≤ hi1) → hi1 ≤ t + k → BigV μ1 o (pS F (fun t => decide (lo ≤ t)) t) → SC μ1 → Fr [o, o + 1] μ μ1 → JS Z X 12 [(0, rf Z 105), (1, rf Z o), (3, .int a3), (4, .int (nI t))] [] μ1 := by
    intro k
    induction k with
    | zero =>
      intro t μ1 h1 h2 h3 hbv hq hFr
      have h3 : hi1 ≤ t := h3
      refine bX8_gather_12 E ho.1 (fun _ => bX8_gather_43 E hB ⟨rfl, ?_, hq, hFr⟩) (fun c => absurd (by rw [hFr 105 (by simp; omega), s1, hc t (by omega)]; omega) c)
      by_cases e : t = hi1
      · subst e; exact hbv
      · obtain rfl : t = lo := by omega
        rw [pS_z _ (Nat.le_refl _)] at hbv
        rw [pS_z _ h3]; exact hbv
    | succ k ih =>
      intro t μ1 h1 h2 h3 hbv hq hFr
      by_cases d : hi1 ≤ t
      · refine bX8_gather_12 E ho.1 (fun _ => bX8_gather_43 E hB ⟨rfl, ?_, hq, hFr⟩) (fun c => absurd (by rw [hFr 105 (by simp; omega), s1, hc t (by omega)]; omega) c)
        by_cases e : t = hi1
        · subst e; exact hbv
        · obtain rfl : t = lo := by omega
          rw [pS_z _ (Nat.le_refl _)] at hbv
          rw [pS_z _ d]; exact hbv
      · have e5 : μ1 105 = μ 105 := hFr 105 (by simp; omega)
        have ia : ix (μ1 105 2) = a := by rw [e5, T.1, ix_nI (by omega)]
        have er := el_r ha (show t < 37 by omega)
        have fv := (hv t (by omega)).fr hFr (by simp; omega) (by simp; omega)
        have pe : pS F (fun t => decide (lo ≤ t)) (t + 1) = pS F (fun t => decide (lo ≤ t)) t + F t * 1 := by rw [pS, if_pos (by simpa using h1), Nat.mul_one]
        have pb := pS_b (P := fun t => decide (lo ≤ t)) hF (t + 1)
        refine bX8_gather_12 E ho.1 (fun c => absurd c (by rw [e5, s1, hc t (by omega)]; exact d)) (fun _ => ?_)
        refine bX8_gather_25 E ho.1 (by rw [ia]; exact ha) (vin (by omega) (by omega)) (by rw [ia, ix_nI (by omega)]; exact q_addTimes hq ho hbv fv (by omega) (by decide) (by rw [← pe]; exact Nat.lt_of_le_of_lt (Nat.le_trans pb (Nat.mul_le_mul_right _ (show t + 1 ≤ 40 by omega))) hb)) fun μ2 j => bX8_gather_37 E ho.1 ?_
        obtain ⟨j1, j2, j3⟩ := j
        rw [← pe] at j1
        rw [nI_add]
        exact ih (t + 1) μ2 (by omega) (by omega) (by omega) j1 j2 (hFr.tr j3)
  refine bX8_gather_0 E ho.1 (q_set sc ho (by decide)) fun μ1 g => bX8_gather_5 E ho.1 ?_
  obtain ⟨g1, g2, g3⟩ := g
  rw [hlo]
  exact loop hi1 lo μ1 (Nat.le_refl _) (Or.inl rfl) (by omega) (by rw [pS_z _ (Nat.le_refl _)]; exact g1) g2 g3
end SPREAD
