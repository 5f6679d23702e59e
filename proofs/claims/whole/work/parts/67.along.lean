/-! WALKS: the class goes along; what it keeps of it -/
def goR (D : DD) (to p left : Nat) : Option (Nat × Nat) := (go D to 10 p left).map fun r => (r.1, 2 ^ p ||| bo r.2)
/-- one leg alone may have changed -/
def FrL (key : Nat) (μ μ' : Mu) : Prop := (∀ a, a ≠ 76 → a ≠ 77 → μ' a = μ a) ∧ ∀ i, i ≠ key → μ' 76 i = μ 76 i ∧ μ' 77 i = μ 77 i
/-- what is kept of one leg -/
def LK (μ : Mu) (key : Nat) (R : Option (Nat × Nat)) : Prop := match R with
  | none => μ 76 key = -1
  | some r => μ 76 key = nI r.1 ∧ μ 77 key = nI r.2
theorem FrL.tr {key : Nat} {μ μ1 μ2 : Mu} (h1 : FrL key μ μ1) (h2 : FrL key μ1 μ2) : FrL key μ μ2 := ⟨fun a ha hb => (h2.1 a ha hb).trans (h1.1 a ha hb), fun i hi => ⟨(h2.2 i hi).1.trans (h1.2 i hi).1, (h2.2 i hi).2.trans (h1.2 i hi).2⟩⟩
theorem FrL.leg {key : Nat} {μ : Mu} {x : Int32} : FrL key μ (uR μ 76 (upd (μ 76) key x)) := ⟨fun a h1 h2 => uR_n h1, fun i hi => ⟨by rw [uR_s, pk_un hi], by rw [uR_n (by decide)]⟩⟩
theorem FrL.trail {key : Nat} {μ : Mu} {x : Int32} : FrL key μ (uR μ 77 (upd (μ 77) key x)) := ⟨fun a h1 h2 => uR_n h2, fun i hi => ⟨by rw [uR_n (by decide)], by rw [uR_s, pk_un hi]⟩⟩
theorem FrL.p {key : Nat} {μ μ' : Mu} (h : FrL key μ μ') : FrP μ μ' := fun a ha => h.1 a (by omega) (by omega)
theorem FrL.mc {key : Nat} {μ μ' : Mu} {D : DD} (h : FrL key μ μ') (M : MC μ D) : MC μ' D := ⟨fun a b ha hb => by rw [h.1 _ (by decide) (by decide)]; exact M.1 a b ha hb, fun a b ha hb => by rw [h.1 _ (by decide) (by decide)]; exact M.2 a b ha hb⟩
section ALONG
variable {Z : ZT} {μ : Mu} {D : DD}
theorem c_goAlong {key p left to : Nat} (H : HC μ 1 D) (W : WF D) (M : MC μ D) (hk : key < 800) (hp : p < D 0 0) (ht : to < D 0 0) (hl : left < 1024) : CtrS Z mX10_goAlong [rf Z 73, .int (nI key), .int (nI p), .int (nI left), .int (nI to)] μ (rV fun μ' => LK μ' key (goR D to p left) ∧ FrL key μ μ') := by
  refine CtrS.intro (by decide +kernel) (Nat.le_of_ble_eq_true rfl) rfl fun X E hB => ?_
  have hn := W.1
  have kv : vp_in (nI key) 800 := vin (by omega) (by omega)
  have ek : ix (nI key) = key := ix_nI (by omega)
  generalize hR : goR D to p left = R at hB
  have loop : ∀ k i p left took acc μ1, i + k = 10 → p < D 0 0 → left < 1024 → acc < 1024 → μ1 77 key = nI acc → μ1 76 key = -1 → ((go D to k p left).map fun r => (took + r.1, acc ||| bo r.2)) = R → FrL key μ μ1 → JS Z X 28 [(0, rf Z 73), (1, .int (nI key)), (4, .int (nI to)), (5, .int (nI p)), (6, .int (nI left)), (7, .int (nI took)), (8, .int (nI i))] [] μ1 := by
    intro k
    induction k with
    | zero =>
      intro i p left took acc μ1 hi hp hl hacc h7 h6 hR hF
      have : i = 10 := hi
      subst this
      have hR : none = R := hR
      subst hR
      exact bX10_goAlong_28 E (fun _ => bX10_goAlong_124 E hB ⟨rfl, h6, hF⟩) (fun c => absurd (by decide) c)
    | succ k ih =>
      intro i p left took acc μ1 hi hp hl hacc h7 h6 hR hF
      have M1 := hF.mc M
      have H1 : HC μ1 1 D := H.fr fun k hk => hF.1 _ (by omega) (by omega)
      refine bX10_goAlong_28 E (fun c => absurd c (by rw [nI_leE (by omega) (by omega)]; omega)) (fun _ => ?_)
      refine bX10_goAlong_35 E (c_nearest H1 W M1 hp hl) fun v μ2 g => ?_
      obtain ⟨rfl, rfl⟩ := g
      have nl := nr_le (D := D) (p := p) (left := left) (D 0 0)
      have ok := nr_ok (D := D) (p := p) (left := left) (D 0 0)
      cases hq : nr D p left (D 0 0) with
      | zero =>
        have hR : none = R := by rw [← hR, go, hq]; rfl
        subst hR
        exact bX10_goAlong_43 E (fun c => absurd (by decide) c) (fun _ => bX10_goAlong_51 E hB ⟨rfl, h6, hF⟩)
      | succ q =>
        rw [hq] at nl ok
        have ok := ok (Nat.succ_ne_zero q)
        rw [Nat.add_sub_cancel] at ok
        have e1 : lotI (q + 1) = nI q := nI_suc_m1 q
        rw [e1]
        have nm : ¬ nI q = -1 := fun e => absurd (show nI q < 0 by rw [e]; decide) (Int32.not_lt.mpr (nI_pos' (by omega)))
        have m := M1.1 p q hp (by omega)
        rw [cm_fin ok.2] at m
        have bl := bo_lt (pth D q 10 p) fun x hx => by have := pth_lt W (show q < D 0 0 by omega) 10 p hp ok.2 x hx; omega
        refine bX10_goAlong_43 E (fun _ => ?_) (fun c => absurd c nm)
        refine bX10_goAlong_52 E (by rw [ab10]; exact vin (by omega) (by omega)) kv (c_path W M1 hp (by omega) ok.2) fun v μ3 g => ?_
        obtain ⟨rfl, rfl⟩ := g
        refine bX10_goAlong_85 E (by decide) kv ?_
        rw [ek, h7, ab10, ix_nI (show 10 * p + q < 2147483648 by omega), m, nI_add, nI_or (by omega) (by omega)]
        have al := or_lt10 hacc bl
        refine bX10_goAlong_87 E (fun c => ?_) (fun c => ?_)
        · rw [nI_eqE (by omega) (by omega)] at c
          rw [clr_m hl (by omega) ok.1]
          refine bX10_goAlong_118 E ?_
          rw [nI_add]
          refine ih (i + 1) q _ _ _ _ (by omega) (by omega) (clr_lt hl (by omega)) al (by rw [uR_s, pk_us]) (by rw [uR_n (by decide)]; exact h6) ?_ (hF.tr FrL.trail)
          rw [← hR, go, hq]
          dsimp only
          rw [if_neg c]
          cases go D to k q (clr left q) with
          | none => rfl
          | some r =>
            simp only [Option.map_some]
            rw [bo_app, Nat.add_assoc, Nat.or_assoc]
        · rw [nI_eqE (by omega) (by omega)] at c
          refine bX10_goAlong_109 E kv (bX10_goAlong_117 E hB ?_)
          have hR : some (took + mn D p q, acc ||| bo (pth D q 10 p)) = R := by
            rw [← hR, go, hq]
            dsimp only
            rw [if_pos c]; rfl
          subst hR
          refine ⟨rfl, ⟨?_, ?_⟩, (hF.tr FrL.trail).tr (by rw [ek]; exact FrL.leg)⟩
          · rw [ek, uR_s, pk_us]
          · rw [uR_n (by decide), uR_s, pk_us]
  refine bX10_goAlong_0 E kv (bX10_goAlong_16 E kv (bX10_goAlong_25 E ?_))
  rw [ek, bit_one (by omega)]
  refine loop 10 0 p left 0 (2 ^ p) _ (by omega) hp hl (two_lt (by omega)) (by rw [uR_s, pk_us]) (by rw [uR_n (by decide), uR_s, pk_us]) ?_ (FrL.leg.tr FrL.trail)
  rw [← hR, goR]
  cases go D to 10 p left with
  | none => rfl
  | some r => simp only [Option.map_some, Nat.zero_add]
end ALONG
