/-! SOON: what is seen on the way -/
theorem bo_tb : ∀ (l : List Nat) (j : Nat), (bo l).testBit j = decide (j ∈ l)
  | [], j => by simp [bo]
  | a :: l, j => by
    rw [bo, Nat.testBit_or, Nat.testBit_two_pow, bo_tb l j]
    by_cases e : a = j
    · subst e; simp
    · simp [e, Ne.symm e]
theorem sn_tb {D : DD} : ∀ (l : List Nat) (j : Nat), (sn D l).testBit j = true ↔ ∃ a ∈ l, (D 2 a).testBit j = true ∨ a = j
  | [], j => by simp [sn]
  | a :: l, j => by
    rw [sn, Nat.testBit_or, Nat.testBit_or, Nat.testBit_two_pow, Bool.or_eq_true, Bool.or_eq_true, sn_tb l j]
    simp
theorem seenAny_tb {D : DD} {b : Nat} : ∀ (n j : Nat), (seenAny D b n).testBit j = true ↔ b.testBit j = true ∨ ∃ i, i < n ∧ b.testBit i = true ∧ (D 2 i).testBit j = true
  | 0, j => by simp [seenAny]
  | n + 1, j => by
    unfold seenAny
    by_cases e : b.testBit n = true
    · rw [if_pos e, Nat.testBit_or, Bool.or_eq_true, seenAny_tb n j]
      refine ⟨fun h => ?_, fun h => ?_⟩
      · rcases h with (h | ⟨i, h1, h2⟩) | h
        · exact Or.inl h
        · exact Or.inr ⟨i, by omega, h2⟩
        · exact Or.inr ⟨n, by omega, e, h⟩
      · rcases h with h | ⟨i, h1, h2, h3⟩
        · exact Or.inl (Or.inl h)
        · by_cases c : i = n
          · subst c; exact Or.inr h3
          · exact Or.inl (Or.inr ⟨i, by omega, h2, h3⟩)
    · rw [if_neg e, seenAny_tb n j]
      refine ⟨fun h => ?_, fun h => ?_⟩
      · rcases h with h | ⟨i, h1, h2⟩
        · exact Or.inl h
        · exact Or.inr ⟨i, by omega, h2⟩
      · rcases h with h | ⟨i, h1, h2, h3⟩
        · exact Or.inl h
        · by_cases c : i = n
          · subst c; exact absurd h2 e
          · exact Or.inr ⟨i, by omega, h2, h3⟩
theorem seen_eq {D : DD} {L : List Nat} {p n : Nat} (hp : p ∈ L) (hL : ∀ a ∈ L, a < n) : seenAny D (2 ^ p ||| bo L) n = sn D L := by
  have e : 2 ^ p ||| bo L = bo L := by
    apply Nat.eq_of_testBit_eq
    intro j
    rw [Nat.testBit_or, Nat.testBit_two_pow, bo_tb]
    by_cases c : p = j
    · subst c; simp [hp]
    · simp [c]
  rw [e]
  apply Nat.eq_of_testBit_eq
  intro j
  rw [Bool.eq_iff_iff, seenAny_tb, sn_tb]
  refine ⟨fun h => ?_, fun h => ?_⟩
  · rcases h with h | ⟨i, h1, h2, h3⟩
    · rw [bo_tb, decide_eq_true_eq] at h
      exact ⟨j, h, Or.inr rfl⟩
    · rw [bo_tb, decide_eq_true_eq] at h2
      exact ⟨i, h2, Or.inl h3⟩
  · obtain ⟨a, h1, h2⟩ := h
    rcases h2 with h2 | h2
    · exact Or.inr ⟨a, hL a h1, by rw [bo_tb, decide_eq_true_eq]; exact h1, h2⟩
    · subst h2
      exact Or.inl (by rw [bo_tb, decide_eq_true_eq]; exact h1)
theorem go_path {D : DD} (W : WF D) {to : Nat} : ∀ k p left r, p < D 0 0 → go D to k p left = some r → p ∈ r.2 ∧ ∀ a ∈ r.2, a < D 0 0
  | 0, _, _, r, _, h => nomatch h
  | k + 1, p, left, r, hp, h => by
    rw [go] at h
    have nl := nr_le (D := D) (p := p) (left := left) (D 0 0)
    have ok := nr_ok (D := D) (p := p) (left := left) (D 0 0)
    cases hq : nr D p left (D 0 0) with
    | zero => rw [hq] at h; exact nomatch h
    | succ q =>
      rw [hq] at h ok nl
      have ok := (ok (Nat.succ_ne_zero q)).2
      rw [Nat.add_sub_cancel] at ok
      dsimp only at h
      have hd : p ∈ pth D q 10 p := by
        obtain ⟨l, hl⟩ := pth_hd (D := D) (b := q) (k := 10) (a := p)
        rw [hl]; simp
      have lt := pth_lt W (show q < D 0 0 by omega) 10 p hp ok
      by_cases c : q = to
      · rw [if_pos c] at h
        obtain rfl := Option.some.inj h
        exact ⟨hd, lt⟩
      · rw [if_neg c] at h
        cases hg : go D to k q (clr left q) with
        | none => rw [hg] at h; exact nomatch h
        | some r2 =>
          rw [hg] at h
          have ih := go_path W k q (clr left q) r2 (by omega) hg
          obtain rfl := Option.some.inj h
          dsimp only
          refine ⟨List.mem_append_left _ hd, fun a ha => ?_⟩
          rcases List.mem_append.mp ha with h1 | h1
          · exact lt a h1
          · exact ih.2 a h1
/-- what is seen on a leg of a hunt -/
def hSn (D : DD) (q : Nat → Nat) (n i : Nat) : Nat := match hLg D q n i with
  | none => 0
  | some r => seenAny D r.2 (D 0 0)
def sj (D : DD) (q : Nat → Nat) (n i acc : Nat) : Nat → Nat
  | 0 => acc
  | k + 1 => sj D q n i acc k ||| (hSn D q n i / 2 ^ hAt D q (i + 2 + k) % 2) * 2 ^ (i + 2 + k)
def so (D : DD) (q : Nat → Nat) (n : Nat) : Nat → Nat
  | 0 => 0
  | i + 1 => sj D q n i (so D q n i) (n - (i + 2))
theorem bit_lt64 {v j : Nat} (hv : v < 2) (hj : j < 6) : v * 2 ^ j < 2 ^ 6 := by
  have h1 : (2 : Nat) ^ j ≤ 2 ^ 5 := Nat.pow_le_pow_right (by decide) (by omega)
  have h2 : v * 2 ^ j ≤ 1 * 2 ^ j := Nat.mul_le_mul_right _ (by omega)
  omega
theorem sj_lt {D : DD} {q : Nat → Nat} {n i acc : Nat} (ha : acc < 2 ^ 6) : ∀ k, i + 2 + k ≤ 6 → sj D q n i acc k < 2 ^ 6
  | 0, _ => ha
  | k + 1, h => Nat.or_lt_two_pow (sj_lt ha k (by omega)) (bit_lt64 (Nat.mod_lt _ (by decide)) (by omega))
theorem so_lt {D : DD} {q : Nat → Nat} {n : Nat} (hn : n ≤ 6) : ∀ i, so D q n i < 2 ^ 6
  | 0 => (by decide : 0 < 2 ^ 6)
  | i + 1 => by
    rw [so]
    by_cases c : i + 2 ≤ n
    · exact sj_lt (so_lt hn i) _ (by omega)
    · rw [show n - (i + 2) = 0 by omega]; exact so_lt hn i
theorem bit_shl {v p : Nat} (hv : v < 2) (hp : p < 30) : nI v <<< (nI p &&& 31) = nI (v * 2 ^ p) := by
  have : 2 ^ p < 2 ^ 30 := Nat.pow_lt_pow_right (by decide) hp
  have h2 : v * 2 ^ p ≤ 1 * 2 ^ p := Nat.mul_le_mul_right _ (by omega)
  rw [shm5 (by omega), pk_shlN _ p (sm5 (by omega)) (by omega)]
theorem hOk_3 {D : DD} {q : Nat → Nat} {n : Nat} (h : hOk D q n = true) : D 13 3 < D 0 0 ∧ D 13 4 < D 0 0 ∧ 0 < n ∧ lgOk D q n n = true := by
  unfold hOk at h
  simp only [Bool.and_eq_true, decide_eq_true_eq] at h
  exact ⟨h.1.1.1, h.1.1.2, h.1.2, h.2⟩
def oSoon (D : DD) (s : Nat → Int32) (a : Int32) : Int32 × (Nat → Int32) := if inN a 2 then (if hOk D (ro D (ix a)) (D 11 (ix a)) = true then (nI (so D (ro D (ix a)) (D 11 (ix a)) (D 11 (ix a) - 1)), s) else (-3, cnt s (-3))) else (-2, cnt s (-2))
section SOON
variable {Z : ZT} {μ : Mu} {D : DD} {im : Nat → Option DD} {tx : TX} {s : Nat → Int32} {f : Nat × Nat}
theorem hSn_lt (W : WF D) {q : Nat → Nat} {n i : Nat} (Q : QO D q n) (h3 : D 13 3 < D 0 0) (hi : i < n) : hSn D q n i < 1024 := by
  unfold hSn
  cases hR : hLg D q n i with
  | none => exact (by decide : 0 < 1024)
  | some r =>
    unfold hLg legR goR at hR
    cases hg : go D (hNx D q n i) 10 (hAt D q i) (D 10 (q i) ||| 2 ^ hNx D q n i) with
    | none => rw [hg] at hR; exact nomatch hR
    | some r' =>
      rw [hg] at hR
      have hR : (r'.1, 2 ^ hAt D q i ||| bo r'.2) = r := Option.some.inj hR
      have g := go_path W 10 _ _ r' (hAt_lt W Q h3 hi) hg
      rw [← hR]
      dsimp only
      rw [seen_eq g.1 g.2]
      exact sn_lt W _ fun p hp => Nat.lt_of_lt_of_le (g.2 p hp) W.1
theorem x_soon {a : Int32} (R : RepC μ D im tx s f) (O : OkS D im tx) : CtrS Z mX11_soon [xrf Z, .int a] μ (rI fun v μ' => v = (oSoon D s a).1 ∧ RepC μ' D im tx (oSoon D s a).2 f ∧ FrX μ μ') := by
  refine CtrS.intro (by decide +kernel) (Nat.le_of_ble_eq_true rfl) rfl fun X E hB => ?_
  refine bX11_soon_0 E (c_within (n := 2) (by decide)) fun v μ1 g => ?_
  obtain ⟨rfl, rfl⟩ := g
  refine bX11_soon_5 E (fun c => ?_) (fun c => ?_)
  rotate_left
  · rw [bz] at c
    have e : oSoon D s a = (-2, cnt s (-2)) := if_neg c
    rw [e] at hB
    exact bX11_soon_8 E (x_ref R) fun v μ2 h => bX11_soon_14 E hB ⟨_, rfl, h⟩
  rw [bz] at c
  have c := Decidable.not_not.mp c
  have e : oSoon D s a = _ := if_pos c
  rw [e] at hB
  obtain ⟨ha, ea⟩ := inN_of c (by decide)
  have w6 := (O.1.1.2.2.2.2.2.2.2 _ ha).1
  clear c e
  generalize ix a = l at ha ea hB w6
  subst ea
  refine bX11_soon_15 E (x_canHunt (o := 78) rfl (by decide) (by decide) R O ha) fun v μ3 g => ?_
  obtain ⟨rfl, g1, g2, g3, g4, R3, gF⟩ := g
  have fx : FrX μ1 μ3 := fun x hx => gF x (by simp; omega)
  refine bX11_soon_24 E (fun c => ?_) (fun c => ?_)
  rotate_left
  · rw [bz] at c
    rw [if_neg c] at hB
    exact bX11_soon_27 E (x_ref R3) fun v μ4 h => bX11_soon_33 E hB ⟨_, rfl, h.1, h.2.1, fx.tr h.2.2⟩
  rw [bz] at c
  have c := Decidable.not_not.mp c
  rw [if_pos c] at hB
  have L := g1 c
  obtain ⟨o3, o4, on, ol⟩ := hOk_3 c
  have W := O.1.1
  have hn := W.1
  generalize hq : ro D l = q at *
  have Q : QO D q (D 11 l) := hq ▸ QO.row W ha
  generalize hnn : D 11 l = n at *
  have loop : ∀ k i μ4, i + k + 1 = n → KL μ4 D → Fr [76, 77] μ3 μ4 → JS Z X 38 [(0, xrf Z), (2, .int (nI (so D q n i))), (3, .int (nI i))] [] μ4 := by
    intro k
    induction k with
    | zero =>
      intro i μ4 hi K4 F4
      have hi : i + 1 = n := hi
      refine bX11_soon_38 E (fun _ => ?_) (fun c => absurd (by rw [F4 _ (by decide), g2.2.1, nI_add, nI_leE (by omega) (by omega)]; omega) c)
      rw [show n - 1 = i by omega] at hB
      have P4 : FrP μ3 μ4 := FrP.ofFr F4 (by decide)
      exact bX11_soon_146 E hB ⟨_, rfl, rfl, P4.rep R3 (R3.2.2.2.2.2.2.fr fun a h1 h2 => F4 a (by simp; omega)), fx.tr P4.x⟩
    | succ k ih =>
      intro i μ4 hi K4 F4
      have P4 : FrP μ3 μ4 := FrP.ofFr F4 (by decide)
      have R4 := P4.rep R3 (R3.2.2.2.2.2.2.fr fun a h1 h2 => F4 a (by simp; omega))
      by_cases last : n ≤ i + 2
      · refine bX11_soon_38 E (fun _ => ?_) (fun c => absurd (by rw [F4 _ (by decide), g2.2.1, nI_add, nI_leE (by omega) (by omega)]; omega) c)
        have e : so D q n (n - 1) = so D q n i := by rw [show n - 1 = i + 1 by omega, so, show n - (i + 2) = 0 by omega]; rfl
        rw [e] at hB
        exact bX11_soon_146 E hB ⟨_, rfl, rfl, R4, fx.tr P4.x⟩
      · obtain ⟨r, hr⟩ := lgOk_at ol (show i < n by omega)
        have hr' : legR D (q i) (hAt D q i) (hAt D q (i + 1)) = some r := by rw [← hNx_at (n := n) (by omega)]; exact hr
        have sE : hSn D q n i = seenAny D r.2 (D 0 0) := by unfold hSn; rw [hr]
        have slt := hSn_lt W Q o3 (show i < n by omega)
        have r2 : r.2 < 1024 := by
          have hR := hr
          unfold hLg legR goR at hR
          cases hg : go D (hNx D q n i) 10 (hAt D q i) (D 10 (q i) ||| 2 ^ hNx D q n i) with
          | none => rw [hg] at hR; exact nomatch hR
          | some r' =>
            rw [hg] at hR
            have hR : (r'.1, 2 ^ hAt D q i ||| bo r'.2) = r := Option.some.inj hR
            have g := go_path W 10 _ _ r' (hAt_lt W Q o3 (by omega)) hg
            have := hAt_lt W Q o3 (show i < n by omega)
            rw [← hR]
            exact or_lt10 (two_lt (by omega)) (bo_lt _ fun p hp => Nat.lt_of_lt_of_le (g.2 p hp) hn)
        have a1 := L.2.2 i (by omega)
        have a2 := L.2.2 (i + 1) (by omega)
        refine bX11_soon_38 E (fun c => absurd c (by rw [F4 _ (by decide), g2.2.1, nI_add, nI_leE (by omega) (by omega)]; omega)) (fun _ => ?_)
        refine bX11_soon_51 E (vin (by omega) (by omega)) (vin (by omega) (by omega)) (by rw [nI_add]; exact vin (by omega) (by omega)) (by rw [nI_add, ix_nI (show i < 2147483648 by omega), ix_nI (by omega), F4 79 (by decide), F4 80 (by decide), show μ3 79 i = _ from g2.2.2 i (by omega), show μ3 80 i = _ from a1.1, show μ3 80 (i + 1) = _ from a2.1]; exact c_passed R4.1 W (g3.congr (F4 _ (by decide)) (F4 _ (by decide))) K4 (Q.2 i (by omega)) (hAt_lt W Q o3 (by omega)) (hAt_lt W Q o3 (by omega)) hr') fun v μ5 g => ?_
        obtain ⟨rfl, K5, F5⟩ := g
        have F45 := F4.tr F5
        have H5 : HC μ5 1 D := R3.1.fr fun x hx => F45 _ (by simp; omega)
        refine bX11_soon_91 E rfl (c_seenFromAny H5 W r2) fun v μ6 g => bX11_soon_94 E ?_
        obtain ⟨rfl, rfl⟩ := g
        rw [← sE, nI_add]
        have inner : ∀ k' m, i + 2 + m + k' = n → JS Z X 101 [(0, xrf Z), (2, .int (nI (sj D q n i (so D q n i) m))), (3, .int (nI i)), (4, .int (nI (hSn D q n i))), (5, .int (nI (i + 2 + m)))] [] μ6 := by
          intro k'
          induction k' with
          | zero =>
            intro m hm
            have hm : i + 2 + m = n := hm
            refine bX11_soon_101 E (fun _ => bX11_soon_140 E ?_) (fun c => absurd (by rw [F45 _ (by decide), g2.2.1, nI_leE (by omega) (by omega)]; omega) c)
            rw [nI_add]
            have := ih (i + 1) μ6 (by omega) K5 F45
            rw [so, show n - (i + 2) = m by omega] at this
            exact this
          | succ k' ihk =>
            intro m hm
            have a3 := (L.2.2 (i + 2 + m) (by omega)).1
            have at3 := hAt_lt W Q o3 (show i + 2 + m < n by omega)
            have b1 := Nat.mod_lt (hSn D q n i / 2 ^ hAt D q (i + 2 + m)) (show 0 < 2 by decide)
            have b2 := bit_lt64 b1 (show i + 2 + m < 6 by omega)
            have b3 := sj_lt (D := D) (q := q) (n := n) (i := i) (so_lt (D := D) (q := q) w6 i) m (by omega)
            refine bX11_soon_101 E (fun c => absurd c (by rw [F45 _ (by decide), g2.2.1, nI_leE (by omega) (by omega)]; omega)) (fun _ => ?_)
            refine bX11_soon_113 E (vin (by omega) (by omega)) ?_
            rw [ix_nI (by omega), F45 80 (by decide), show μ3 80 (i + 2 + m) = _ from a3, bit_get (by omega) (by omega), bit_shl b1 (by omega), nI_or (by omega) (by omega), nI_add]
            exact ihk (m + 1) (by omega)
        exact inner (n - (i + 2)) 0 (by omega)
  exact bX11_soon_34 E (loop (n - 1) 0 μ3 (by omega) g4 Fr.rf)
theorem y_soon {a : Int32} (R : RepM μ D im tx s f) (O : OkS D im tx) : CtrS Z mX12_soon [mrf Z, .int a] μ (rI fun v μ' => v = (oSoon D s a).1 ∧ RepM μ' D im tx (oSoon D s a).2 f ∧ FrY μ μ') := by
  refine CtrS.intro (by decide +kernel) (Nat.le_of_ble_eq_true rfl) rfl fun X E hB => ?_
  refine bX12_soon_0 E m_isLot fun v μ1 g => ?_
  obtain ⟨rfl, rfl⟩ := g
  refine bX12_soon_4 E (fun c => ?_) (fun c => ?_)
  rotate_left
  · rw [bz] at c
    have e : oSoon D s a = (-2, cnt s (-2)) := if_neg c
    rw [e] at hB
    exact bX12_soon_7 E (y_ref R O) fun v μ2 h => bX12_soon_13 E hB ⟨_, rfl, h⟩
  rw [bz] at c
  have c := Decidable.not_not.mp c
  have e : oSoon D s a = _ := if_pos c
  rw [e] at hB
  obtain ⟨ha, ea⟩ := inN_of c (by decide)
  have w6 := (O.1.1.2.2.2.2.2.2.2 _ ha).1
  clear c e
  generalize ix a = l at ha ea hB w6
  subst ea
  refine bX12_soon_14 E (m_isHunt R O ha) fun v μ3 g => ?_
  obtain ⟨rfl, g1, g2, g3, R3, gF, -⟩ := g
  refine bX12_soon_19 E (fun c => ?_) (fun c => ?_)
  rotate_left
  · rw [bz] at c
    rw [if_neg c] at hB
    exact bX12_soon_22 E (y_ref R3 O) fun v μ4 h => bX12_soon_28 E hB ⟨_, rfl, h.1, h.2.1, gF.y.tr h.2.2⟩
  rw [bz] at c
  have c := Decidable.not_not.mp c
  rw [if_pos c] at hB
  have Y := g1 c
  obtain ⟨o3, o4, on, ol⟩ := hOk_3 c
  have W := O.1.1
  have hn := W.1
  generalize hq : ro D l = q at *
  have Q : QO D q (D 11 l) := hq ▸ QO.row W ha
  generalize hnn : D 11 l = n at *
  have loop : ∀ k i μ4, i + k + 1 = n → FrN μ3 μ4 → JS Z X 33 [(0, mrf Z), (2, .int (nI (so D q n i))), (3, .int (nI i))] [] μ4 := by
    intro k
    induction k with
    | zero =>
      intro i μ4 hi F4
      have hi : i + 1 = n := hi
      have q4 : FrQ μ3 μ4 := (FrHy.n F4).q
      refine bX12_soon_33 E (fun _ => ?_) (fun c => absurd (by rw [F4.2 _ (by decide), g2.1, nI_add, nI_leE (by omega) (by omega)]; omega) c)
      rw [show n - 1 = i by omega] at hB
      exact bX12_soon_114 E hB ⟨_, rfl, rfl, q4.rep R3, gF.y.tr q4.y⟩
    | succ k ih =>
      intro i μ4 hi F4
      have q4 : FrQ μ3 μ4 := (FrHy.n F4).q
      have R4 := q4.rep R3
      have T4 : RowQ μ4 q n := (FrHy.n F4).row g2
      have M4 : FM μ4 D := g3.fr (F4.1 _ (by decide))
      have y1 := (Y.2 i (by omega)).1
      have y2 := (Y.2 (i + 1) (by omega)).1
      refine bX12_soon_33 E (fun c => absurd c (by rw [F4.2 _ (by decide), g2.1, nI_add, nI_leE (by omega) (by omega)]; omega)) (fun _ => ?_)
      refine bX12_soon_43 E (vin (by omega) (by omega)) (vin (by omega) (by omega)) (by rw [nI_add]; exact vin (by omega) (by omega)) (by rw [nI_add, ix_nI (show i < 2147483648 by omega), ix_nI (by omega), T4.2 i (by omega), F4.1 463 (by decide), y1, y2]; exact m_searchFor R4.1 W M4 (hAt_lt W Q o3 (by omega)) (Q.2 i (by omega)) (hAt_lt W Q o3 (by omega))) fun v μ5 g => bX12_soon_67 E ?_
      obtain ⟨gv, F5⟩ := g
      obtain ⟨r, hr⟩ := lgOk_at ol (show i < n by omega)
      have F45 : FrN μ3 μ5 := F4.tr F5
      have e12 : μ5 455 12 = nI (hSn D q n i) := by
        have hR := hr
        unfold hLg legR goR at hR
        rw [hNx_at (n := n) (by omega)] at hR
        unfold hSn
        rw [hr]
        cases hg : go D (hAt D q (i + 1)) 10 (hAt D q i) (D 10 (q i) ||| 2 ^ hAt D q (i + 1)) with
        | none => rw [hg] at hR; exact nomatch hR
        | some r' =>
          rw [hg] at hR gv
          have hR : (r'.1, 2 ^ hAt D q i ||| bo r'.2) = r := Option.some.inj hR
          have g := go_path W 10 _ _ r' (hAt_lt W Q o3 (by omega)) hg
          rw [← hR]
          dsimp only
          rw [seen_eq g.1 g.2]
          exact gv.2
      have slt := hSn_lt W Q o3 (show i < n by omega)
      rw [nI_add]
      have inner : ∀ k' m, i + 2 + m + k' = n → JS Z X 73 [(0, mrf Z), (2, .int (nI (sj D q n i (so D q n i) m))), (3, .int (nI i)), (4, .int (nI (i + 2 + m)))] [] μ5 := by
        intro k'
        induction k' with
        | zero =>
          intro m hm
          have hm : i + 2 + m = n := hm
          refine bX12_soon_73 E (fun _ => bX12_soon_108 E ?_) (fun c => absurd (by rw [F45.2 _ (by decide), g2.1, nI_leE (by omega) (by omega)]; omega) c)
          rw [nI_add]
          have := ih (i + 1) μ5 (by omega) F45
          rw [so, show n - (i + 2) = m by omega] at this
          exact this
        | succ k' ihk =>
          intro m hm
          have a3 := (Y.2 (i + 2 + m) (by omega)).1
          have at3 := hAt_lt W Q o3 (show i + 2 + m < n by omega)
          have b1 := Nat.mod_lt (hSn D q n i / 2 ^ hAt D q (i + 2 + m)) (show 0 < 2 by decide)
          have b2 := bit_lt64 b1 (show i + 2 + m < 6 by omega)
          have b3 := sj_lt (D := D) (q := q) (n := n) (i := i) (so_lt (D := D) (q := q) w6 i) m (by omega)
          refine bX12_soon_73 E (fun c => absurd c (by rw [F45.2 _ (by decide), g2.1, nI_leE (by omega) (by omega)]; omega)) (fun _ => ?_)
          refine bX12_soon_82 E (vin (by omega) (by omega)) ?_
          rw [ix_nI (by omega), F45.1 463 (by decide), a3, e12, bit_get (by omega) (by omega), bit_shl b1 (by omega), nI_or (by omega) (by omega), nI_add]
          exact ihk (m + 1) (by omega)
      exact inner (n - (i + 2)) 0 (by omega)
  exact bX12_soon_29 E (loop (n - 1) 0 μ3 (by omega) ⟨fun _ _ => rfl, fun _ _ => rfl⟩)
end SOON
