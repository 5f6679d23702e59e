/-! WALKS: the reference's search -/
/-- how many of the first n are in a set -/
def pc (left : Nat) : Nat → Nat
  | 0 => 0
  | n + 1 => pc left n + if left.testBit n = true then 1 else 0
theorem pc_le {left : Nat} : ∀ n, pc left n ≤ n
  | 0 => Nat.le_refl 0
  | n + 1 => by have := pc_le (left := left) n; unfold pc; split <;> omega
theorem pc_clr {left q : Nat} (h : left.testBit q = true) : ∀ n, pc (clr left q) n + (if q < n then 1 else 0) = pc left n
  | 0 => by simp [pc]
  | n + 1 => by
    have ih := pc_clr h n
    unfold pc
    rw [clr_tb h]
    by_cases e : q = n
    · subst e
      rw [if_neg (by omega)] at ih
      simp [h] at ih ⊢
      omega
    · rw [show (left.testBit n && !decide (q = n)) = left.testBit n by simp [e]]
      by_cases l : q < n
      · rw [if_pos l] at ih
        rw [if_pos (show q < n + 1 by omega)]; omega
      · rw [if_neg l] at ih
        rw [if_neg (show ¬ q < n + 1 by omega)]; omega
theorem pc_pos {left q : Nat} (h : left.testBit q = true) : ∀ n, q < n → 0 < pc left n
  | 0, hq => absurd hq (Nat.not_lt_zero _)
  | n + 1, hq => by
    unfold pc
    by_cases e : q = n
    · subst e; rw [if_pos h]; omega
    · have := pc_pos h n (by omega); omega
theorem go_some {D : DD} (W : WF D) {to : Nat} (ht : to < D 0 0) : ∀ k p left, p < D 0 0 → left.testBit to = true → mn D p to < 10000 → pc left (D 0 0) ≤ k → ∃ r, go D to k p left = some r
  | 0, p, left, _, hb, _, hk => by have := pc_pos hb (D 0 0) ht; omega
  | k + 1, p, left, hp, hb, hm, hk => by
    have hn := W.1
    have nl := nr_le (D := D) (p := p) (left := left) (D 0 0)
    have ok := nr_ok (D := D) (p := p) (left := left) (D 0 0)
    have ne := nr_some (D := D) (p := p) hb hm (D 0 0) ht
    rw [go]
    cases hq : nr D p left (D 0 0) with
    | zero => exact absurd hq ne
    | succ q =>
      rw [hq] at nl ok
      have ok := ok (Nat.succ_ne_zero q)
      rw [Nat.add_sub_cancel] at ok
      dsimp only
      by_cases c : q = to
      · exact ⟨_, if_pos c⟩
      · rw [if_neg c]
        have cc := pc_clr ok.1 (D 0 0)
        rw [if_pos (by omega)] at cc
        have s := mn_sym W (a := p) (b := q) (by omega) (by omega)
        obtain ⟨r, hr⟩ := go_some W ht k q (clr left q) (by omega) (by rw [clr_tb ok.1, hb]; simp [c]) (mn_trans W (by omega) (by omega) hp (by omega) hm) (by omega)
        rw [hr]
        exact ⟨_, rfl⟩
theorem go_none {D : DD} (W : WF D) {to : Nat} (ht : to < D 0 0) : ∀ k p left, p < D 0 0 → ¬ mn D p to < 10000 → go D to k p left = none
  | 0, _, _, _, _ => rfl
  | k + 1, p, left, hp, hm => by
    have hn := W.1
    have nl := nr_le (D := D) (p := p) (left := left) (D 0 0)
    have ok := nr_ok (D := D) (p := p) (left := left) (D 0 0)
    rw [go]
    cases hq : nr D p left (D 0 0) with
    | zero => rfl
    | succ q =>
      rw [hq] at nl ok
      have ok := ok (Nat.succ_ne_zero q)
      rw [Nat.add_sub_cancel] at ok
      dsimp only
      have c : ¬ q = to := fun e => hm (e ▸ ok.2)
      rw [if_neg c, go_none W ht k q (clr left q) (by omega) fun g => hm (mn_trans W (by omega) (by omega) (show q < D 0 0 by omega) ok.2 g)]
section SEARCH
variable {Z : ZT} {μ : Mu} {D : DD}
theorem m_searchFor {p s to : Nat} (H : HM (μ 456) 0 D) (W : WF D) (M : FM μ D) (hp : p < D 0 0) (hs : s < D 0 2) (ht : to < D 0 0) : CtrS Z mX12_searchFor [mrf Z, .int (nI p), .int (nI s), .int (nI to)] μ (rI fun v μ' => (match go D to 10 p (D 10 s ||| 2 ^ to) with | none => v = nI 100000 | some r => v = nI r.1 ∧ μ' 455 12 = nI (sn D r.2)) ∧ FrN μ μ') := by
  refine CtrS.intro (by decide +kernel) (Nat.le_of_ble_eq_true rfl) rfl fun X E hB => ?_
  have hn := W.1
  have hS := W.2.2.1
  have fm : ∀ μ1, FrN μ μ1 → ∀ x y, x < 10 → y < 10 → μ1 461 (10 * x + y) = nI (mn D x y) := fun μ1 hF x y hx hy => by
    rw [hF.1 _ (by decide), M _ (by omega), show (10 * x + y) / 10 = x by omega, show (10 * x + y) % 10 = y by omega]
  have ba : ∀ x y, nI 10 * nI x + nI y = nI (10 * x + y) := fun x y => by rw [nI_mul, nI_add]
  have h0 : μ 456 0 = nI (D 0 0) := H.1
  have h7 := (H.2.2.2.2.2.2.1 s hs).2.2.2
  rw [show 0 + 179 + s = 179 + s by omega] at h7
  have l10 := lt10 (W.2.2.2.2.2.2.1 s hs).2.2.2 hn
  have t2 := two_lt (show to < 10 by omega)
  have lle : ∀ x y, x < 10 → y < 10 → mn D x y ≤ 100000 := fun x y hx hy => fw_le W _ x y hx hy
  have loop : ∀ k p left sum acc μ1 r, go D to k p left = some r → p < D 0 0 → left < 1024 → acc < 1024 → μ1 455 12 = nI acc → (∀ μ2, μ2 455 12 = nI (acc ||| sn D r.2) → FrN μ μ2 → JS Z X 219 [(6, .int (nI (sum + r.1)))] [] μ2) → FrN μ μ1 → JS Z X 49 [(0, mrf Z), (3, .int (nI to)), (4, .int (nI left)), (5, .int (nI p)), (6, .int (nI sum)), (7, .int (nI 0))] [] μ1 := by
    intro k
    induction k with
    | zero => intro p left sum acc μ1 r hg; exact absurd hg (by rw [go]; exact fun e => nomatch e)
    | succ k ih =>
      intro p left sum acc μ1 r hg hp hl hacc he hfin hF
      have H1 : HM (μ1 456) 0 D := by rw [hF.1 _ (by decide)]; exact H
      have FM1 : FM μ1 D := fun j hj => by rw [hF.1 _ (by decide)]; exact M j hj
      have near : ∀ j i, i + j = D 0 0 → JS Z X 60 [(0, mrf Z), (3, .int (nI to)), (4, .int (nI left)), (5, .int (nI p)), (6, .int (nI sum)), (8, .int (lotI (nr D p left i))), (9, .int (nI i))] [] μ1 := by
        intro j
        induction j with
        | zero =>
          intro i hi
          have : i = D 0 0 := hi
          subst this
          refine bX12_searchFor_60 E (vin (by omega) (by omega)) (fun _ => ?_) (fun c => absurd (by rw [ix_nI (by omega), hF.1 456 (by decide), h0, nI_leE (by omega) (by omega)]; omega) c)
          rw [go] at hg
          have nl := nr_le (D := D) (p := p) (left := left) (D 0 0)
          have ok := nr_ok (D := D) (p := p) (left := left) (D 0 0)
          cases hq : nr D p left (D 0 0) with
          | zero => rw [hq] at hg; exact absurd hg (fun e => nomatch e)
          | succ q =>
            rw [hq] at nl ok hg
            have ok := ok (Nat.succ_ne_zero q)
            rw [Nat.add_sub_cancel] at ok
            dsimp only at hg
            have e1 : lotI (q + 1) = nI q := nI_suc_m1 q
            rw [e1]
            have hq10 : q < 10 := by omega
            refine bX12_searchFor_162 E (by rw [ba]; exact vin (by omega) (by omega)) (m_seePath H1 W FM1 hp (by omega) ok.2 he hacc) fun μ2 g => ?_
            obtain ⟨g1, g2⟩ := g
            rw [ba, ix_nI (show 10 * p + q < 2147483648 by omega), fm μ1 hF p q (by omega) hq10, nI_add]
            have sl := sn_lt W (pth D q 10 p) fun x hx => by have := pth_lt W (show q < D 0 0 by omega) 10 p hp ok.2 x hx; omega
            refine bX12_searchFor_188 E (fun c => ?_) (fun c => ?_)
            · rw [nI_eqE (by omega) (by omega)] at c
              rw [if_neg c] at hg
              rw [clr_m hl hq10 ok.1]
              refine bX12_searchFor_209 E (bX12_searchFor_210 E ?_)
              cases hg2 : go D to k q (clr left q) with
              | none => rw [hg2] at hg; exact absurd hg (fun e => nomatch e)
              | some r2 =>
                rw [hg2] at hg
                obtain rfl : (mn D p q + r2.1, pth D q 10 p ++ r2.2) = r := Option.some.inj hg
                refine ih q _ _ _ _ r2 hg2 (by omega) (clr_lt hl hq10) (or_lt10 hacc sl) g1 (fun μ3 k1 k2 => ?_) (hF.tr g2)
                rw [Nat.add_assoc]
                exact hfin μ3 (by rw [k1, sn_app, Nat.or_assoc]) k2
            · rw [nI_eqE (by omega) (by omega)] at c
              rw [if_pos c] at hg
              obtain rfl : (mn D p q, pth D q 10 p) = r := Option.some.inj hg
              refine bX12_searchFor_205 E (bX12_searchFor_210 E (bX12_searchFor_49 E (fun _ => ?_) (fun c => absurd c (by decide))))
              exact hfin μ2 g1 (hF.tr g2)
        | succ j ihj =>
          intro i hi
          have q := ihj (i + 1) (by omega)
          have li := lle p i (by omega) (by omega)
          have gap := mn_gap W (a := p) (b := i) (by omega) (by omega)
          have nl := nr_le (D := D) (p := p) (left := left) i
          have fin : ∀ v, v = lotI (nr D p left (i + 1)) → JS Z X 154 [(0, mrf Z), (3, .int (nI to)), (4, .int (nI left)), (5, .int (nI p)), (6, .int (nI sum)), (9, .int (nI i))] [.int v] μ1 := fun v hv => by
            subst hv
            refine bX12_searchFor_154 E ?_
            rw [nI_add]
            exact q
          have no : ¬ (left.testBit i = true ∧ mn D p i < 10000 ∧ (nr D p left i = 0 ∨ mn D p i < mn D p (nr D p left i - 1))) → JS Z X 152 [(0, mrf Z), (3, .int (nI to)), (4, .int (nI left)), (5, .int (nI p)), (6, .int (nI sum)), (8, .int (lotI (nr D p left i))), (9, .int (nI i))] [] μ1 := fun n =>
            bX12_searchFor_152 E (fin _ (by rw [show nr D p left (i + 1) = nr D p left i from if_neg n]))
          have yes : (left.testBit i = true ∧ mn D p i < 10000 ∧ (nr D p left i = 0 ∨ mn D p i < mn D p (nr D p left i - 1))) → JS Z X 147 [(0, mrf Z), (3, .int (nI to)), (4, .int (nI left)), (5, .int (nI p)), (6, .int (nI sum)), (9, .int (nI i))] [] μ1 := fun y =>
            bX12_searchFor_147 E (fin _ (by rw [show nr D p left (i + 1) = i + 1 from if_pos y]; exact (nI_suc_m1 i).symm))
          have may0 : ¬ (left.testBit i = true ∧ mn D p i < 10000) → JS Z X 104 [(0, mrf Z), (3, .int (nI to)), (4, .int (nI left)), (5, .int (nI p)), (6, .int (nI sum)), (8, .int (lotI (nr D p left i))), (9, .int (nI i))] [] μ1 := fun n =>
            bX12_searchFor_104 E (bX12_searchFor_105 E (fun _ => no fun g => n ⟨g.1, g.2.1⟩) (fun c => absurd rfl c))
          have fpi := fm μ1 hF p i (by omega) (by omega)
          refine bX12_searchFor_60 E (vin (by omega) (by omega)) (fun c => absurd c (by rw [ix_nI (by omega), hF.1 456 (by decide), h0, nI_leE (by omega) (by omega)]; omega)) (fun _ => ?_)
          refine bX12_searchFor_71 E (fun c => ?_) (fun c => ?_)
          · rw [bitc (by omega) (by omega)] at c
            exact may0 fun g => c g.1
          · rw [bitc (by omega) (by omega)] at c
            refine bX12_searchFor_82 E (by rw [ba]; exact vin (by omega) (by omega)) (fun d => ?_) (fun d => ?_)
            · rw [ba, ix_nI (by omega), fpi, nI_leE (by omega) (by omega)] at d
              exact may0 fun g => by omega
            · rw [ba, ix_nI (by omega), fpi, nI_leE (by omega) (by omega)] at d
              have f : mn D p i < 10000 := by omega
              refine bX12_searchFor_100 E (bX12_searchFor_105 E (fun c => absurd c (by decide)) (fun _ => ?_))
              refine bX12_searchFor_112 E (fun e => ?_) (fun e => ?_)
              · refine yes ⟨c, f, Or.inl ?_⟩
                cases hz : nr D p left i with
                | zero => rfl
                | succ z =>
                  rw [hz, show lotI (z + 1) = nI z from nI_suc_m1 z] at e
                  exact absurd (show nI z < 0 by rw [e]; decide) (Int32.not_lt.mpr (nI_pos' (by omega)))
              · cases hz : nr D p left i with
                | zero => rw [hz] at e; exact absurd (by decide) e
                | succ z =>
                  rw [hz] at nl no yes
                  rw [Nat.add_sub_cancel] at no yes
                  rw [show lotI (z + 1) = nI z from nI_suc_m1 z] at no ⊢
                  have fpz := fm μ1 hF p z (by omega) (by omega)
                  have lz := lle p z (by omega) (by omega)
                  refine bX12_searchFor_118 E (by rw [ba]; exact vin (by omega) (by omega)) (by rw [ba]; exact vin (by omega) (by omega)) (fun d2 => ?_) (fun d2 => ?_)
                  · rw [ba, ba, ix_nI (show 10 * p + i < 2147483648 by omega), ix_nI (show 10 * p + z < 2147483648 by omega), fpi, fpz, nI_leE (by omega) (by omega)] at d2
                    exact no fun g => by rcases g.2.2 with w | w <;> omega
                  · rw [ba, ba, ix_nI (show 10 * p + i < 2147483648 by omega), ix_nI (show 10 * p + z < 2147483648 by omega), fpi, fpz, nI_leE (by omega) (by omega)] at d2
                    exact yes ⟨c, f, Or.inr (by omega)⟩
      have z := near (D 0 0) 0 (by omega)
      rw [show nr D p left 0 = 0 from rfl, show lotI 0 = -1 by decide] at z
      exact bX12_searchFor_49 E (fun c => absurd rfl c) (fun _ => bX12_searchFor_54 E z)
  have lpt := lle p to (by omega) (by omega)
  have gap := mn_gap W (a := p) (b := to) (by omega) (by omega)
  refine bX12_searchFor_0 E (by rw [nI_add]; exact vin (by omega) (by omega)) ?_
  rw [nI_add, ix_nI (by omega), h7, bit_one (by omega), nI_or (by omega) (by omega)]
  refine bX12_searchFor_27 E (by rw [ba]; exact vin (by omega) (by omega)) (fun c => ?_) (fun c => ?_)
  · rw [ba, ix_nI (by omega), fm _ FrN.up p to (by omega) (by omega), nI_ltE (by omega) (by omega)] at c
    have tb : (D 10 s ||| 2 ^ to).testBit to = true := by rw [Nat.testBit_or, Nat.testBit_two_pow]; simp
    obtain ⟨r, hr⟩ := go_some W ht 10 p (D 10 s ||| 2 ^ to) hp tb (by omega) (Nat.le_trans (pc_le _) hn)
    rw [hr] at hB
    refine bX12_searchFor_46 E (loop 10 p _ 0 0 _ r hr hp (or_lt10 l10 t2) (by decide) (by rw [uR_s, pk_us]) (fun μ2 k1 k2 => ?_) FrN.up)
    rw [Nat.zero_add]
    rw [Nat.zero_or] at k1
    exact bX12_searchFor_219 E hB ⟨_, rfl, ⟨rfl, k1⟩, k2⟩
  · rw [ba, ix_nI (by omega), fm _ FrN.up p to (by omega) (by omega), nI_ltE (by omega) (by omega)] at c
    rw [go_none W ht 10 p _ hp (by omega)] at hB
    exact bX12_searchFor_43 E hB ⟨_, rfl, rfl, FrN.up⟩
end SEARCH
