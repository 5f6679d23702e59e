/-! WALKS: the places of a path, on both sides -/
/-- bits of places; what is seen from them -/
def bo : List Nat → Nat
  | [] => 0
  | a :: l => 2 ^ a ||| bo l
def sn (D : DD) : List Nat → Nat
  | [] => 0
  | a :: l => (D 2 a ||| 2 ^ a) ||| sn D l
theorem bo_app : ∀ l l' : List Nat, bo (l ++ l') = bo l ||| bo l'
  | [], _ => by simp [bo]
  | a :: l, l' => by rw [List.cons_append, bo, bo, bo_app l l', Nat.or_assoc]
theorem sn_app {D : DD} : ∀ l l' : List Nat, sn D (l ++ l') = sn D l ||| sn D l'
  | [], _ => by simp [sn]
  | a :: l, l' => by rw [List.cons_append, sn, sn, sn_app l l']; exact (Nat.or_assoc _ _ _).symm
theorem two_lt {p : Nat} (h : p < 10) : 2 ^ p < 1024 := Nat.pow_lt_pow_right (m := p) (n := 10) (a := 2) (by decide) h
theorem or_lt10 {x y : Nat} (hx : x < 1024) (hy : y < 1024) : x ||| y < 1024 := Nat.or_lt_two_pow (n := 10) hx hy
theorem see_lt {D : DD} (W : WF D) {p : Nat} (hp : p < 10) : D 2 p ||| 2 ^ p < 1024 := or_lt10 (lt10 (W.2.2.2.2.1 p hp).1 W.1) (two_lt hp)
theorem bo_lt : ∀ l : List Nat, (∀ p ∈ l, p < 10) → bo l < 1024
  | [], _ => by decide
  | a :: l, h => or_lt10 (two_lt (h a (by simp))) (bo_lt l fun p hp => h p (by simp [hp]))
theorem sn_lt {D : DD} (W : WF D) : ∀ l : List Nat, (∀ p ∈ l, p < 10) → sn D l < 1024
  | [], _ => (by decide : 0 < 1024)
  | a :: l, h => or_lt10 (see_lt W (h a (by simp))) (sn_lt W l fun p hp => h p (by simp [hp]))
theorem pth_lt {D : DD} (W : WF D) {b : Nat} (hb : b < D 0 0) : ∀ k a, a < D 0 0 → mn D a b < 10000 → ∀ p ∈ pth D b k a, p < D 0 0
  | 0, a, ha, _, p, hp => by
    rw [pth, List.mem_singleton] at hp; omega
  | k + 1, a, ha, h, p, hp => by
    rw [pth] at hp
    by_cases e : a = b
    · rw [if_pos e, List.mem_singleton] at hp; omega
    · rw [if_neg e, List.mem_cons] at hp
      obtain ⟨g1, g2, g3, -⟩ := st_spec W ha hb e h
      rcases hp with hp | hp
      · omega
      · exact pth_lt W hb k _ g1 (by omega) p hp
theorem pth_hd {D : DD} {b k a : Nat} : ∃ l, pth D b k a = a :: l := by
  cases k with
  | zero => exact ⟨[], rfl⟩
  | succ k =>
    rw [pth]
    by_cases e : a = b
    · exact ⟨[], if_pos e⟩
    · exact ⟨_, if_neg e⟩
section SEEP
variable {Z : ZT} {μ : Mu} {D : DD}
theorem c_path {a b : Nat} (W : WF D) (M : MC μ D) (ha : a < D 0 0) (hb : b < D 0 0) (h : mn D a b < 10000) : CtrS Z mX10_path [rf Z 73, .int (nI a), .int (nI b)] μ (rI fun v μ' => v = nI (bo (pth D b 10 a)) ∧ μ' = μ) := by
  refine CtrS.intro (by decide +kernel) (Nat.le_of_ble_eq_true rfl) rfl fun X E hB => ?_
  have hn := W.1
  have loop : ∀ k i p acc, i + k = 10 → p < D 0 0 → mn D p b < 10000 → acc < 1024 → acc ||| bo (pth D b k p) = bo (pth D b 10 a) → acc ||| 2 ^ p = acc → JS Z X 10 [(0, rf Z 73), (2, .int (nI b)), (3, .int (nI p)), (4, .int (nI acc)), (5, .int (nI i))] [] μ := by
    intro k
    induction k with
    | zero =>
      intro i p acc hi hp hm hacc hF hA
      have : i = 10 := hi
      subst this
      refine bX10_path_10 E (fun _ => bX10_path_48 E hB ⟨_, rfl, ?_, rfl⟩) (fun c => absurd (by decide) c)
      rw [← hF, pth, bo, bo, Nat.or_zero, hA]
    | succ k ih =>
      intro i p acc hi hp hm hacc hF hA
      refine bX10_path_10 E (fun c => absurd c (by rw [nI_leE (by omega) (by omega)]; omega)) (fun _ => ?_)
      refine bX10_path_17 E (fun c => ?_) (fun c => ?_)
      · rw [nI_eqE (by omega) (by omega)] at c
        refine bX10_path_48 E hB ⟨_, rfl, ?_, rfl⟩
        rw [← hF, pth, if_pos c, bo, bo, Nat.or_zero, hA]
      · rw [nI_eqE (by omega) (by omega)] at c
        obtain ⟨g1, g2, g3, -⟩ := st_spec W hp hb c hm
        have e := M.2 p b hp hb
        refine bX10_path_22 E (by rw [ab10]; exact vin (by omega) (by omega)) ?_
        have t := two_lt (show st D p b < 10 by omega)
        rw [ab10, ix_nI (by omega), e, bit_one (by omega), nI_or (by omega) (by omega), nI_add]
        refine ih (i + 1) _ _ (by omega) g1 (by omega) (or_lt10 hacc t) ?_ ?_
        · rw [← hF, pth, if_neg c, bo]
          obtain ⟨l, hl⟩ := pth_hd (D := D) (b := b) (k := k) (a := st D p b)
          rw [hl, bo, ← Nat.or_assoc acc, hA, Nat.or_assoc, ← Nat.or_assoc (2 ^ st D p b), Nat.or_self]
        · rw [Nat.or_assoc, Nat.or_self]
  refine bX10_path_0 E ?_
  rw [bit_one (by omega)]
  obtain ⟨l, hl⟩ := pth_hd (D := D) (b := b) (k := 10) (a := a)
  exact loop 10 0 a _ (by omega) ha h (two_lt (by omega)) (by rw [hl, bo, ← Nat.or_assoc, Nat.or_self]) (Nat.or_self _)
/-- the model's seenOn alone may have changed -/
def FrN (μ μ' : Mu) : Prop := (∀ a, a ≠ 455 → μ' a = μ a) ∧ ∀ k, k ≠ 12 → μ' 455 k = μ 455 k
theorem FrN.rf : FrN μ μ := ⟨fun _ _ => rfl, fun _ _ => rfl⟩
theorem FrN.tr {μ1 μ2 : Mu} (h1 : FrN μ μ1) (h2 : FrN μ1 μ2) : FrN μ μ2 := ⟨fun a ha => (h2.1 a ha).trans (h1.1 a ha), fun k hk => (h2.2 k hk).trans (h1.2 k hk)⟩
theorem FrN.up {x : Int32} : FrN μ (uR μ 455 (upd (μ 455) 12 x)) := ⟨fun a h1 => uR_n h1, fun k hk => by rw [uR_s, pk_un hk]⟩
theorem m_seePath {a b s0 : Nat} (H : HM (μ 456) 0 D) (W : WF D) (M : FM μ D) (ha : a < D 0 0) (hb : b < D 0 0) (h : mn D a b < 10000) (hs : μ 455 12 = nI s0) (hl : s0 < 1024) : CtrS Z mX12_seePath [mrf Z, .int (nI a), .int (nI b)] μ (rV fun μ' => μ' 455 12 = nI (s0 ||| sn D (pth D b 10 a)) ∧ FrN μ μ') := by
  refine CtrS.intro (by decide +kernel) (Nat.le_of_ble_eq_true rfl) rfl fun X E hB => ?_
  have hn := W.1
  obtain ⟨h1, h2, h3, h4, h5, -⟩ := H
  have hr := rank_lt (D := D) (b := b) ha
  have fm : ∀ μ1, FrN μ μ1 → ∀ x y, x < 10 → y < 10 → μ1 461 (10 * x + y) = nI (mn D x y) := fun μ1 hF x y hx hy => by
    rw [hF.1 _ (by decide), M _ (by omega), show (10 * x + y) / 10 = x by omega, show (10 * x + y) % 10 = y by omega]
  have loop : ∀ k p acc μ1, p < D 0 0 → mn D p b < 10000 → rank D p b ≤ k → acc < 1024 → μ1 455 12 = nI acc → acc ||| (D 2 p ||| 2 ^ p) = acc → acc ||| sn D (pth D b k p) = s0 ||| sn D (pth D b 10 a) → FrN μ μ1 → JS Z X 20 [(0, mrf Z), (2, .int (nI b)), (3, .int (nI p))] [] μ1 := by
    intro k
    induction k with
    | zero =>
      intro p acc μ1 hp hm hk hacc he hA hS hF
      by_cases e : p = b
      · refine bX12_seePath_20 E (fun _ => bX12_seePath_122 E hB ⟨rfl, ?_, hF⟩) (fun c => absurd (by rw [nI_eqE (by omega) (by omega)]; exact e) c)
        rw [he, ← hS, pth, sn, sn, Nat.or_zero, hA]
      · have := rank_st W hp hb e hm
        have hk : rank D p b ≤ 0 := hk
        omega
    | succ k ih =>
      intro p acc μ1 hp hm hk hacc he hA hS hF
      by_cases e : p = b
      · refine bX12_seePath_20 E (fun _ => bX12_seePath_122 E hB ⟨rfl, ?_, hF⟩) (fun c => absurd (by rw [nI_eqE (by omega) (by omega)]; exact e) c)
        rw [he, ← hS, pth, if_pos e, sn, sn, Nat.or_zero, hA]
      · obtain ⟨g1, g2, g3, g4⟩ := st_spec W hp hb e hm
        have gr := rank_st W hp hb e hm
        have find : ∀ j q, q + j = st D p b → JS Z X 28 [(0, mrf Z), (2, .int (nI b)), (3, .int (nI p)), (4, .int (nI q))] [] μ1 := by
          intro j
          induction j with
          | zero =>
            intro q hq
            have hq : q = st D p b := hq
            have lt := way_lt W (show p < 10 by omega) (show st D p b < 10 by omega) g2
            have w := (W.2.2.2.1 p (st D p b) (by omega) (by omega)).1
            have gg := h4 p (st D p b) hp g1
            rw [show 0 + 1 + 10 * p + st D p b = 1 + 10 * p + st D p b by omega] at gg
            have e1 : nI 1 + nI 10 * nI p + nI q = nI (1 + 10 * p + st D p b) := by rw [nI_mul, nI_add, nI_add, hq]
            have e2 : nI 10 * nI q + nI b = nI (10 * st D p b + b) := by rw [nI_mul, nI_add, hq]
            have e3 : nI 10 * nI p + nI b = nI (10 * p + b) := by rw [nI_mul, nI_add]
            have ev : μ1 456 (1 + 10 * p + st D p b) = nI (D 1 (10 * p + st D p b)) := by rw [hF.1 _ (by decide)]; exact gg
            refine bX12_seePath_28 E (fun c => absurd c (by rw [nI_eqE (by omega) (by omega)]; omega)) (fun _ => ?_)
            refine bX12_seePath_34 E (by rw [e1]; exact vin (by omega) (by omega)) (fun c => absurd c (by rw [e1, ix_nI (by omega), ev]; exact nI_ne0 g2 (by omega))) (fun _ => ?_)
            refine bX12_seePath_51 E (by rw [e1]; exact vin (by omega) (by omega)) (by rw [e2]; exact vin (by omega) (by omega)) (by rw [e3]; exact vin (by omega) (by omega)) (fun _ => ?_) (fun c => absurd ?_ c)
            · have sv := h5 (st D p b) g1
              rw [show 0 + 101 + st D p b = 101 + st D p b by omega] at sv
              have sl := see_lt W (show st D p b < 10 by omega)
              refine bX12_seePath_98 E (by rw [hq, nI_add]; exact vin (by omega) (by omega)) (bX12_seePath_119 E ?_)
              rw [hq, nI_add, ix_nI (by omega), hF.1 456 (by decide), sv, he, nI_or (by omega) (by omega)]
              refine ih _ _ _ g1 (by omega) (by omega) (or_lt10 hacc sl) (by rw [uR_s, pk_us]) (by rw [Nat.or_assoc, Nat.or_self]) ?_ (hF.tr FrN.up)
              rw [← hS, pth, if_neg e, sn]
              obtain ⟨l, hl⟩ := pth_hd (D := D) (b := b) (k := k) (a := st D p b)
              rw [hl, sn]
              generalize (D 2 (st D p b) ||| 2 ^ st D p b) = x
              generalize (D 2 p ||| 2 ^ p) = y at hA ⊢
              rw [← Nat.or_assoc acc y, hA, Nat.or_assoc acc x, ← Nat.or_assoc x x, Nat.or_self]
            · rw [e1, e2, e3, ix_nI (by omega), ix_nI (show 10 * st D p b + b < 2147483648 by omega), ix_nI (show 10 * p + b < 2147483648 by omega), ev, fm μ1 hF _ _ (by omega) (by omega), fm μ1 hF _ _ (by omega) (by omega), nI_add, g3]
          | succ j ihj =>
            intro q hq
            have nx : JS Z X 92 [(0, mrf Z), (2, .int (nI b)), (3, .int (nI p)), (4, .int (nI q))] [] μ1 := by
              refine bX12_seePath_92 E ?_
              rw [nI_add]
              exact ihj (q + 1) (by omega)
            have w := (W.2.2.2.1 p q (by omega) (by omega)).1
            have gg := h4 p q hp (by omega)
            rw [show 0 + 1 + 10 * p + q = 1 + 10 * p + q by omega] at gg
            have e1 : nI 1 + nI 10 * nI p + nI q = nI (1 + 10 * p + q) := by rw [nI_mul, nI_add, nI_add]
            have e2 : nI 10 * nI q + nI b = nI (10 * q + b) := by rw [nI_mul, nI_add]
            have e3 : nI 10 * nI p + nI b = nI (10 * p + b) := by rw [nI_mul, nI_add]
            have ev : μ1 456 (1 + 10 * p + q) = nI (D 1 (10 * p + q)) := by rw [hF.1 _ (by decide)]; exact gg
            have l1 := fw_le W (D 0 0) q b (by omega) (by omega)
            have l1' : mn D q b ≤ 100000 := l1
            refine bX12_seePath_28 E (fun _ => nx) (fun _ => ?_)
            refine bX12_seePath_34 E (by rw [e1]; exact vin (by omega) (by omega)) (fun _ => nx) (fun c => ?_)
            rw [e1, ix_nI (by omega), ev, show (0 : Int32) = nI 0 from rfl, nI_eqE (by omega) (by omega)] at c
            refine bX12_seePath_51 E (by rw [e1]; exact vin (by omega) (by omega)) (by rw [e2]; exact vin (by omega) (by omega)) (by rw [e3]; exact vin (by omega) (by omega)) (fun d => ?_) (fun _ => nx)
            rw [e1, e2, e3, ix_nI (by omega), ix_nI (show 10 * q + b < 2147483648 by omega), ix_nI (show 10 * p + b < 2147483648 by omega), ev, fm μ1 hF _ _ (by omega) (by omega), fm μ1 hF _ _ (by omega) (by omega), nI_add, nI_eqE (by omega) (by omega)] at d
            exact absurd ⟨by omega, d⟩ (g4 q (by omega))
        refine bX12_seePath_20 E (fun c => absurd c (by rw [nI_eqE (by omega) (by omega)]; exact e)) (fun _ => bX12_seePath_25 E (find (st D p b) 0 (by omega)))
  have sv := h5 a ha
  rw [show 0 + 101 + a = 101 + a by omega] at sv
  have sl := see_lt W (show a < 10 by omega)
  refine bX12_seePath_0 E (by rw [nI_add]; exact vin (by omega) (by omega)) ?_
  rw [nI_add, ix_nI (by omega), sv, hs, nI_or (by omega) (by omega)]
  refine loop 10 a _ _ ha h (by omega) (or_lt10 hl sl) (by rw [uR_s, pk_us]) (by rw [Nat.or_assoc, Nat.or_self]) ?_ FrN.up
  obtain ⟨l, hl⟩ := pth_hd (D := D) (b := b) (k := 10) (a := a)
  rw [hl, sn]
  generalize (D 2 a ||| 2 ^ a) = x
  rw [Nat.or_assoc s0 x, ← Nat.or_assoc x x, Nat.or_self]
end SEEP
