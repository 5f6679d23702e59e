/-! KINDS: the search, the public call of the class -/
theorem p4_le {n : Nat} (hn : n ≤ 6) : 4 ^ n ≤ 4096 := Nat.pow_le_pow_right (n := 4) (by decide) hn
def oKinds (D : DD) (s : Nat → Int32) (f : Nat × Nat) (a i : Int32) : Int32 × (Nat → Int32) × (Nat × Nat) := if inN a 2 ∧ inN i 6 then (if hOk D (ro D (ix a)) (D 11 (ix a)) = true then (if ix i < D 11 (ix a) then nI (d4 (D 11 (ix a)) (kX D (ix a) (ro D (ix a)) (D 11 (ix a)) (4 ^ D 11 (ix a))).2.1 (ix i)) else -5, s, lowF (kX D (ix a) (ro D (ix a)) (D 11 (ix a)) (4 ^ D 11 (ix a))).2.2.1 (6 * (D 13 0 - 1) + 6)) else (-3, cnt s (-3), f)) else (-2, cnt s (-2), f)
section KINDS
variable {Z : ZT} {μ : Mu} {D : DD} {im : Nat → Option DD} {tx : TX} {s : Nat → Int32} {f : Nat × Nat}
theorem c_find {l n : Nat} {q : Nat → Nat} (H : HC μ 1 D) (N : NC μ 27 D) (W : WF D) (WW : WN D) (sc : SC μ) (B : MB μ D) (hl : l < 2) (Q : QO D q n) (h3 : D 13 3 < D 0 0) (T : HQ μ 78 l q n) (L : HLd μ 78 D l q n n) : CtrS Z mX1_find [rf Z 285, rf Z 78] μ (rV fun μ' => KO μ' n (kX D l q n (4 ^ n)) ∧ SC μ' ∧ FrCh μ μ') := by
  refine CtrS.intro (by decide +kernel) (Nat.le_of_ble_eq_true rfl) rfl fun X E hB => ?_
  have n6 := Q.1
  have hC := W.2.1
  have ho : SH 78 = .inl 4 := rfl
  have p4 := p4_le n6
  have loop : ∀ k t j μ1, t + k = 4 ^ n → t < 4 ^ n → j ≤ n → KTb μ1 D l q n → KA μ1 D l q n (d4 n t) j → (∀ i, i < n → μ1 293 i = nI (d4 n t i)) → KO μ1 n (kX D l q n t) → SC μ1 → FrCh μ μ1 → JS Z X 9 [(0, rf Z 285), (1, rf Z 78), (2, .int (nI j)), (3, .int (nI t))] [] μ1 := by
    intro k
    induction k with
    | zero => intro t j μ1 ht hlt; exact absurd ht (by omega)
    | succ k ih =>
      intro t j μ1 ht hlt hj hK hA hno hO hq hF
      refine bX1_find_9 E ho (fun c => absurd c (by rw [nI_leE (by omega) (by omega)]; omega)) (fun _ => bX1_find_16 E ho ?_)
      have fe : ∀ μ2, FrCh μ μ2 → ∀ a, a < 285 ∨ 446 ≤ a → a ≠ 82 → a ≠ 97 → a ≠ 98 → μ2 a = μ a := fun μ2 h => h
      have Hh : ∀ μ2, FrCh μ μ2 → HC μ2 1 D := fun μ2 h => H.fr fun x hx => h _ (by omega) (by omega) (by omega) (by omega)
      have Th : ∀ μ2, FrCh μ μ2 → HQ μ2 78 l q n := fun μ2 h => T.congr (h _ (by decide) (by decide) (by decide) (by decide)) (h _ (by decide) (by decide) (by decide) (by decide))
      have Bh : ∀ μ2, FrCh μ μ2 → MB μ2 D := fun μ2 h => B.congr fun a ha => h a (by simp at ha; omega) (by simp at ha; omega) (by simp at ha; omega) (by simp at ha; omega)
      -- all places are added; judged; the next
      have judged : ∀ μ2, KTb μ2 D l q n → KA μ2 D l q n (d4 n t) n → (∀ i, i < n → μ2 293 i = nI (d4 n t i)) → KO μ2 n (kX D l q n t) → SC μ2 → FrCh μ μ2 → JS Z X 40 [(0, rf Z 285), (1, rf Z 78), (3, .int (nI t))] [] μ2 := fun μ2 k1 k2 k3 k4 k5 k6 => by
        have r51 : ∀ b : Int32, b = (if (kX D l q n t).1 = true then nI 0 else nI 1) → JS Z X 51 [(0, rf Z 285), (1, rf Z 78), (3, .int (nI t))] [.int b, rf Z 78, rf Z 285] μ2 := fun b hb => by
          subst hb
          refine bX1_find_51 E ho rfl (c_judge (Hh μ2 k6) W k5 hl n6 (Th μ2 k6) k2 (Bh μ2 k6) k3 k4) fun μ3 z => ?_
          obtain ⟨z1, z2, z3⟩ := z
          have F3 : FrCh μ μ3 := fun a h1 h2 h3 h4 => by
            have h1' : a < 285 ∨ 446 ≤ a := h1
            rw [z3 a (by omega)]; exact k6 a h1 h2 h3 h4
          have n3 : ∀ i, i < n → μ3 293 i = nI (d4 n t i) := fun i hi => by rw [z3 _ (by decide)]; exact k3 i hi
          refine bX1_find_54 E ho (by rw [(Th μ3 F3).2.1]; exact c_nextChoice n6 n3 hlt) fun v μ4 y => ?_
          obtain ⟨y1, y2⟩ := y
          have f4 : ∀ a, a ≠ 293 → μ4 a = μ3 a := fun a ha => y2 a (by simpa using ha)
          have F4 : FrCh μ μ4 := fun a h1 h2 h3 h4 => by
            have h1' : a < 285 ∨ 446 ≤ a := h1
            rw [f4 a (by omega)]; exact F3 a h1 h2 h3 h4
          have O4 : KO μ4 n (kX D l q n (t + 1)) := z1.fr fun a h1 h2 => f4 a (by omega)
          have q4 : SC μ4 := z2.row (o := 293) (by omega) y2
          rcases y1 with ⟨rfl, e1⟩ | ⟨j', rfl, g1, g2, g3, g4⟩
          · refine bX1_find_62 E ho (fun c => absurd rfl c) (fun _ => bX1_find_68 E ?_)
            rw [e1] at O4
            exact bX1_find_77 E hB ⟨rfl, O4, q4, F4⟩
          · refine bX1_find_62 E ho (fun _ => bX1_find_71 E ho ?_) (fun c => absurd (show nI j' < 0 by rw [c]; decide) (Int32.not_lt.mpr (nI_pos' (by omega))))
            rw [nI_add]
            have K4 : KTb μ4 D l q n := (k1.fr (μ' := μ3) n6 fun a h1 h2 h3 h4 => z3 a (by omega)).fr n6 fun a h1 h2 h3 h4 => f4 a (by omega)
            have A4 : KA μ4 D l q n (d4 n t) n := (k2.fr (μ' := μ3) hC n6 fun a h1 h2 => z3 a (by omega)).fr hC n6 fun a h1 h2 => f4 a (by omega)
            refine ih (t + 1) j' μ4 (by omega) g2 (by omega) K4 (fun i hi => ?_) g4 O4 q4 F4
            have a := A4 i (by omega)
            rw [kL_c (κ' := d4 n (t + 1)) i (fun x hx => (g3 x (by omega)).symm)] at a
            exact ⟨a.1, fun c hc => by have := a.2 c hc; rw [kS_c (κ' := d4 n (t + 1)) i (fun x hx => (g3 x (by omega)).symm)] at this; exact this⟩
        refine bX1_find_40 E ho (fun c => ?_) (fun c => ?_)
        · rw [nI_eq0 (by omega)] at c
          exact bX1_find_50 E ho rfl (r51 _ (by rw [if_pos (kX_t t (by omega))]))
        · rw [nI_eq0 (by omega)] at c
          subst c
          exact bX1_find_46 E ho rfl (r51 _ rfl)
      have add : ∀ k' i μ2, i + k' = n → KTb μ2 D l q n → KA μ2 D l q n (d4 n t) i → (∀ x, x < n → μ2 293 x = nI (d4 n t x)) → KO μ2 n (kX D l q n t) → SC μ2 → FrCh μ μ2 → JS Z X 19 [(0, rf Z 285), (1, rf Z 78), (3, .int (nI t)), (4, .int (nI i))] [] μ2 := by
        intro k'
        induction k' with
        | zero =>
          intro i μ2 hi k1 k2 k3 k4 k5 k6
          have hi : i = n := hi
          subst hi
          exact bX1_find_19 E ho (fun _ => judged μ2 k1 k2 k3 k4 k5 k6) (fun c => absurd (by rw [(Th μ2 k6).2.1, nI_leE (by omega) (by omega)]; omega) c)
        | succ k' iha =>
          intro i μ2 hi k1 k2 k3 k4 k5 k6
          refine bX1_find_19 E ho (fun c => absurd c (by rw [(Th μ2 k6).2.1, nI_leE (by omega) (by omega)]; omega)) (fun _ => ?_)
          refine bX1_find_28 E ho (c_kPlace (Hh μ2 k6) W WW k5 n6 (show i < n by omega) k1 k2 (fun i => d4_lt) (k3 i (by omega))) fun μ3 z => bX1_find_34 E ho ?_
          obtain ⟨z1, z2, z3⟩ := z
          rw [nI_add]
          exact iha (i + 1) μ3 (by omega) (k1.fr n6 fun a h1 h2 h3 h4 => z3 a (by omega)) z1 (fun x hx => by rw [z3 _ (by decide)]; exact k3 x hx) (k4.fr fun a h1 h2 => z3 a (by omega)) z2 (fun a h1 h2 h3 h4 => by
            have h1' : a < 285 ∨ 446 ≤ a := h1
            rw [z3 a (by omega)]; exact k6 a h1 h2 h3 h4)
      exact add (n - j) j μ1 (by omega) hK hA hno hO hq hF
  refine bX1_find_0 E ho (c_prepare H N W WW sc B hl Q h3 T L) fun μ1 g => bX1_find_5 E ho ?_
  obtain ⟨g1, g2, g3, g4, g5⟩ := g
  have d0 : ∀ i, d4 n 0 i = 0 := fun i => by unfold d4; rw [Nat.zero_div]
  refine loop (4 ^ n) 0 0 μ1 (by omega) (Nat.pow_pos (by decide)) (Nat.zero_le n) g2 (fun i hi => ?_) (fun i hi => by rw [d0]; exact g1 i hi) (fun c => absurd (show false = true from c) (by decide)) g4 g5
  obtain rfl : i = 0 := Nat.le_zero.mp hi
  refine ⟨g3, fun c hc => ?_⟩
  have := g4.2.2.2 c (by omega)
  rw [show 6 * 0 + c = c by omega]
  exact this
theorem x_kinds {a i : Int32} (R : RepC μ D im tx s f) (O : OkS D im tx) : CtrS Z mX11_kinds [xrf Z, .int a, .int i] μ (rI fun v μ' => v = (oKinds D s f a i).1 ∧ RepC μ' D im tx (oKinds D s f a i).2.1 (oKinds D s f a i).2.2 ∧ FrX μ μ') := by
  refine CtrS.intro (by decide +kernel) (Nat.le_of_ble_eq_true rfl) rfl fun X E hB => ?_
  have no : ¬ (inN a 2 ∧ inN i 6) → JS Z X 17 [(0, xrf Z)] [] μ := fun c => by
    have e : oKinds D s f a i = _ := if_neg c
    rw [e] at hB
    exact bX11_kinds_17 E (x_ref R) fun v μ2 h => bX11_kinds_23 E hB ⟨_, rfl, h⟩
  refine bX11_kinds_0 E (c_within (n := 2) (by decide)) fun v μ1 g => ?_
  obtain ⟨rfl, rfl⟩ := g
  refine bX11_kinds_5 E (fun c => ?_) (fun c => ?_)
  · rw [bz] at c
    exact no fun g => c g.1
  rw [bz] at c
  have c := Decidable.not_not.mp c
  refine bX11_kinds_8 E (c_within (n := 6) (by decide)) fun v μ2 g => ?_
  obtain ⟨rfl, rfl⟩ := g
  refine bX11_kinds_14 E (fun d => ?_) (fun d => ?_)
  rotate_left
  · rw [bz] at d
    exact no fun g => d g.2
  rw [bz] at d
  have d := Decidable.not_not.mp d
  have e : oKinds D s f a i = _ := if_pos ⟨c, d⟩
  rw [e] at hB
  obtain ⟨ha, ea⟩ := inN_of c (by decide)
  obtain ⟨hi, ei⟩ := inN_of d (by omega)
  have W := O.1.1
  have WW := O.1.2
  have w6 := (W.2.2.2.2.2.2.2 _ ha).1
  clear no d c e
  generalize ix a = l at ha ea hB w6
  generalize ix i = k at hi ei hB
  subst ea ei
  refine bX11_kinds_24 E (x_canHunt (o := 78) rfl (by decide) (by decide) R O ha) fun v μ3 g => ?_
  obtain ⟨rfl, g1, g2, -, -, R3, gF⟩ := g
  have fx : FrX μ2 μ3 := fun x hx => gF x (by simp; omega)
  refine bX11_kinds_33 E (fun c => ?_) (fun c => ?_)
  rotate_left
  · rw [bz] at c
    rw [if_neg c] at hB
    exact bX11_kinds_36 E (x_ref R3) fun v μ4 h => bX11_kinds_42 E hB ⟨_, rfl, h.1, h.2.1, fx.tr h.2.2⟩
  rw [bz] at c
  have c := Decidable.not_not.mp c
  rw [if_pos c] at hB
  have L := g1 c
  refine bX11_kinds_43 E (c_begin R3.2.1 WW R3.2.2.2.2.2.2) fun μ4 h => ?_
  obtain ⟨h1, h2, h3⟩ := h
  have P4 : FrP μ3 μ4 := FrP.ofFr h3 (by decide)
  have R4 := P4.rep R3 h2
  have Q4 : HQ μ4 78 l (ro D l) (D 11 l) := g2.congr (h3 _ (by decide)) (h3 _ (by decide))
  have L4 : HLd μ4 78 D l (ro D l) (D 11 l) (D 11 l) := L.congr (h3 _ (by decide)) (h3 _ (by decide)) (h3 _ (by decide)) (h3 _ (by decide)) (h3 _ (by decide))
  refine bX11_kinds_50 E (c_find R4.1 R4.2.1 W WW R4.2.2.2.2.2.2 h1 ha (QO.row W ha) (hOk_3 c).1 Q4 L4) fun μ5 g => ?_
  obtain ⟨k1, k2, k3⟩ := g
  have P5 : FrP μ4 μ5 := fun a h => k3 a (by show a < 285 ∨ 446 ≤ a; omega) (by omega) (by omega) (by omega)
  have R5 := P5.rep R4 k2
  have h13 := WW.1.2.1
  have kt := kX_t (D := D) (l := l) (q := ro D l) (n := D 11 l) (4 ^ D 11 l) (Nat.pow_pos (by decide))
  have e4 : μ5 78 4 = nI (D 11 l) := by rw [k3 _ (by decide) (by decide) (by decide) (by decide)]; exact Q4.2.1
  refine bX11_kinds_61 E (by rw [k3 _ (by decide) (by decide) (by decide) (by decide), h1.1, nI_add]; exact x_tell R5 (k1 kt).1 (by decide) (by omega)) fun μ6 h6 => ?_
  have f6 : FrX μ2 μ6 := fx.tr (P4.x.tr (P5.x.tr (FRS.x h6.2)))
  refine bX11_kinds_85 E (fun d => ?_) (fun d => ?_)
  · rw [h6.2 _ (by decide), e4, nI_leE (by omega) (by omega)] at d
    rw [if_neg (by omega)] at hB
    exact bX11_kinds_108 E (bX11_kinds_110 E hB ⟨_, rfl, rfl, h6.1, f6⟩)
  · rw [h6.2 _ (by decide), e4, nI_leE (by omega) (by omega)] at d
    rw [if_pos (by omega)] at hB
    refine bX11_kinds_96 E (vin (by omega) (by omega)) (bX11_kinds_110 E hB ⟨_, rfl, ?_, h6.1, f6⟩)
    rw [ix_nI (by omega), h6.2 _ (by decide)]
    exact (k1 kt).2.2 k (by omega)
end KINDS
