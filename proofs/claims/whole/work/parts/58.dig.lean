/-! PUBLIC calls: digest -/
def sgn (f : Nat × Nat) (k : Nat) : Int32 := if k = 0 then (if f.1 = 0 then nI 0 else nI 1) else nI (ln (if k = 1 then f.1 else f.2) 24)
def flist (f : Nat × Nat) : List Int32 := (List.range 3).map (sgn f) ++ ((List.range (ln f.1 24)).map (fun i => nI (dg f.1 i)) ++ (List.range (ln f.2 24)).map (fun i => nI (dg f.2 i)))
def dlist (D : DD) (tx : TX) (f : Nat × Nat) : List Int32 := (List.range 7).map (fun k => nI (cv D tx k)) ++ (hlist D ++ (nlist D ++ flist f))
theorem dgF_dgs (g : Nat → Int32) (s : Int64) : ∀ k, dgF g s k = dgs s ((List.range k).map g)
  | 0 => rfl
  | k + 1 => by rw [mp_succ, dgs_app, dgF, dgF_dgs g s k, dgs_1]
section DIG
variable {Z : ZT} {μ : Mu} {D : DD} {im : Nat → Option DD} {tx : TX} {s : Nat → Int32} {f : Nat × Nat}
theorem c_signOrSize {k : Nat} (h : FrV μ f.1 f.2) (hk : k < 3) : CtrS Z mX2_signOrSize [rf Z 446, .int (nI k)] μ (rI fun v μ' => v = sgn f k ∧ μ' = μ) := by
  refine CtrS.intro (by decide +kernel) (Nat.le_of_ble_eq_true rfl) rfl fun X E hB => ?_
  obtain ⟨⟨a1, a2, a3, a4⟩, ⟨b1, b2, b3, b4⟩⟩ := h
  have w := ln_le f.1 24
  rcases (show k = 0 ∨ k = 1 ∨ k = 2 by omega) with rfl | rfl | rfl
  · refine bX2_signOrSize_0 E (fun c => absurd rfl c) (fun _ => ?_)
    have lp := ln_pos a2
    refine bX2_signOrSize_4 E (fun d => ?_) (fun d => ?_)
    · rw [a4, nI_le0 (by omega)] at d
      exact bX2_signOrSize_18 E (bX2_signOrSize_19 E hB ⟨_, rfl, by rw [sgn, if_pos rfl, if_pos (by omega)], rfl⟩)
    · rw [a4, nI_le0 (by omega)] at d
      exact bX2_signOrSize_14 E (bX2_signOrSize_19 E hB ⟨_, rfl, by rw [sgn, if_pos rfl, if_neg (by omega)], rfl⟩)
  · refine bX2_signOrSize_0 E (fun _ => ?_) (fun c => absurd c (by decide))
    exact bX2_signOrSize_20 E (fun c => absurd rfl c) (fun _ => bX2_signOrSize_25 E (bX2_signOrSize_42 E hB ⟨_, rfl, a4, rfl⟩))
  · refine bX2_signOrSize_0 E (fun _ => ?_) (fun c => absurd c (by decide))
    exact bX2_signOrSize_20 E (fun _ => bX2_signOrSize_35 E (bX2_signOrSize_42 E hB ⟨_, rfl, b4, rfl⟩)) (fun c => absurd c (by decide))
theorem c_fdigest {s : Int64} (h : FrV μ f.1 f.2) : CtrS Z mX2_digestOnto [rf Z 446, .long s] μ (rJ fun v μ' => v = dgs s (flist f) ∧ μ' = μ) := by
  refine CtrS.intro (by decide +kernel) (Nat.le_of_ble_eq_true rfl) rfl fun X E hB => ?_
  have loop : ∀ k i, i + k = 3 → JS Z X 5 [(0, rf Z 446), (3, .long (dgs s ((List.range i).map (sgn f)))), (5, .int (nI i))] [] μ := by
    intro k
    induction k with
    | zero =>
      intro i hi
      have : i = 3 := by omega
      subst this
      refine bX2_digestOnto_5 E (fun _ => ?_) (fun c => absurd (by decide) c)
      refine bX2_digestOnto_31 E (c_digestOnto h.1) fun v μ1 g => ?_
      obtain ⟨rfl, rfl⟩ := g
      refine bX2_digestOnto_43 E h.2.1 (c_digestOnto h.2) fun v μ1 g => ?_
      obtain ⟨rfl, rfl⟩ := g
      exact bX2_digestOnto_46 E hB ⟨_, rfl, by rw [flist, dgs_app, dgs_app, dgF_dgs, dgF_dgs], rfl⟩
    | succ k ih =>
      intro i hi
      refine bX2_digestOnto_5 E (fun c => absurd c (by rw [nI_leE (by omega) (by omega)]; omega)) (fun _ => ?_)
      refine bX2_digestOnto_11 E (c_signOrSize h (by omega)) fun v μ1 g => ?_
      obtain ⟨rfl, rfl⟩ := g
      refine bX2_digestOnto_22 E ?_
      rw [nI_add]
      have := ih (i + 1) (by omega)
      rw [mp_succ, dgs_app, dgs_1] at this
      exact this
  exact bX2_digestOnto_0 E (loop 3 0 (by omega))
theorem x_digest (R : RepC μ D im tx s f) (O : OkS D im tx) : CtrS Z mX11_digest [xrf Z] μ (rJ fun v μ' => v = dgs (lN 577) (dlist D tx f) ∧ RepC μ' D im tx s f ∧ FrX μ μ') := by
  refine CtrS.intro (by decide +kernel) (Nat.le_of_ble_eq_true rfl) rfl fun X E hB => ?_
  have loop : ∀ k i, i + k = 7 → JS Z X 6 [(0, xrf Z), (1, .long (dgs (lN 577) ((List.range i).map (fun k => nI (cv D tx k))))), (3, .int (nI i))] [] μ := by
    intro k
    induction k with
    | zero =>
      intro i hi
      have : i = 7 := by omega
      subst this
      refine bX11_digest_6 E (fun _ => ?_) (fun c => absurd (by decide) c)
      refine bX11_digest_31 E (c_hdigest R.1 O.1.1) fun v μ1 g => ?_
      obtain ⟨rfl, rfl⟩ := g
      refine bX11_digest_39 E (c_ndigest R.2.1 O.1.2.2.1) fun v μ1 g => ?_
      obtain ⟨rfl, rfl⟩ := g
      refine bX11_digest_48 E (c_fdigest R.2.2.2.2.1) fun v μ1 g => ?_
      obtain ⟨rfl, rfl⟩ := g
      exact bX11_digest_57 E hB ⟨_, rfl, by rw [dlist, dgs_app, dgs_app, dgs_app], R, fun _ _ => rfl⟩
    | succ k ih =>
      intro i hi
      have ei : ix (nI i) = i := ix_nI (by omega)
      refine bX11_digest_6 E (fun c => absurd c (by rw [nI_leE (by omega) (by omega)]; omega)) (fun _ => ?_)
      refine bX11_digest_12 E (c_howMany R (inN_nI (by omega) (by omega))) fun v μ1 g => ?_
      obtain ⟨rfl, rfl⟩ := g
      refine bX11_digest_22 E ?_
      rw [ei, nI_add]
      have := ih (i + 1) (by omega)
      rw [mp_succ, dgs_app, dgs_1] at this
      exact this
  exact bX11_digest_0 E (loop 7 0 (by omega))
/-! the model's -/
def FrH (μ μ' : Mu) : Prop := (∀ a, a ≠ 455 → μ' a = μ a) ∧ ∀ k, k ≠ 27 → k ≠ 127 → μ' 455 k = μ 455 k
def HL (μ : Mu) : Int64 := mkL (μ 455 27) (μ 455 127)
/-- what is left to mix -/
def HH (μ : Mu) (T : Int64) (r : List Int32) (μ1 : Mu) : Prop := FrH μ μ1 ∧ dgs (HL μ1) r = T
theorem FrH.to {x : Int64} : FrH μ (uR μ 455 (upd (upd (μ 455) 27 (hiL x)) 127 (loL x))) := ⟨fun a ha => uR_n ha, fun k h1 h2 => by rw [uR_s, pk_un h2, pk_un h1]⟩
theorem FrH.tr {μ1 μ2 : Mu} (h1 : FrH μ μ1) (h2 : FrH μ1 μ2) : FrH μ μ2 := ⟨fun a ha => (h2.1 a ha).trans (h1.1 a ha), fun k ha hb => (h2.2 k ha hb).trans (h1.2 k ha hb)⟩
theorem FrH.rep {μ' : Mu} (h : FrH μ μ') (R : RepM μ D im tx s f) : RepM μ' D im tx s f := by
  obtain ⟨r1, r2, r3, r4, r5, r6⟩ := R
  have e := h.1
  refine ⟨by rw [e _ (by decide)]; exact r1, by rw [e _ (by decide)]; exact r2, by rw [e _ (by decide)]; exact r3, by rw [e 459 (by decide), h.2 _ (by decide) (by decide)]; exact r4, ⟨⟨r5.1.1, fun k hk => by rw [e _ (by decide)]; exact r5.1.2 k hk⟩, ⟨r5.2.1.1, fun k hk => by rw [e _ (by decide)]; exact r5.2.1.2 k hk⟩, by rw [h.2 _ (by decide) (by decide)]; exact r5.2.2⟩, fun i hi => ?_⟩
  rw [e 457 (by decide), e 456 (by decide)]
  exact r6 i hi
theorem m_mix {T : Int64} {v : Int32} {r : List Int32} {μ1 : Mu} (h : HH μ T (v :: r) μ1) : CtrS Z mX12_mix [mrf Z, .int v] μ1 (rV (HH μ T r)) := by
  refine CtrS.intro (by decide +kernel) (Nat.le_of_ble_eq_true rfl) rfl fun X E hB => ?_
  refine bX12_mix_0 E (bX12_mix_15 E hB ⟨rfl, h.1.tr FrH.to, ?_⟩)
  rw [HL, uR_s, pk_us, pk_un (by decide), pk_us, mkL_hl]
  exact h.2
theorem r_cons (i k : Nat) : List.range' i (k + 1) = i :: List.range' (i + 1) k := rfl
theorem r_fm {α : Type} (g : Nat → List α) (i k : Nat) (r : List α) : (List.range' i (k + 1)).flatMap g ++ r = g i ++ ((List.range' (i + 1) k).flatMap g ++ r) := by
  rw [r_cons, List.flatMap_cons, List.append_assoc]
theorem r_mp {α : Type} (g : Nat → α) (i k : Nat) (r : List α) : (List.range' i (k + 1)).map g ++ r = g i :: ((List.range' (i + 1) k).map g ++ r) := by
  rw [r_cons, List.map_cons, List.cons_append]
/-- the rows from the k last of twelve -/
def rr (D : DD) : Nat → List Int32
  | 0 => []
  | k + 1 => (if (11 - k) % 6 < D 11 ((11 - k) / 6) then [nI (D 12 (11 - k))] else []) ++ rr D k
theorem rr_eq (W : WF D) : rr D 12 = (List.range 2).flatMap (hlR D) := by
  have w0 := (W.2.2.2.2.2.2.2 0 (by decide)).1
  have w1 := (W.2.2.2.2.2.2.2 1 (by decide)).1
  have a : ∀ r, (if 0 < D 11 0 then [nI (D 12 0)] else []) ++ ((if 1 < D 11 0 then [nI (D 12 1)] else []) ++ ((if 2 < D 11 0 then [nI (D 12 2)] else []) ++ ((if 3 < D 11 0 then [nI (D 12 3)] else []) ++ ((if 4 < D 11 0 then [nI (D 12 4)] else []) ++ ((if 5 < D 11 0 then [nI (D 12 5)] else []) ++ r))))) = hlR D 0 ++ r := by
    intro r
    unfold hlR
    rcases (show D 11 0 = 0 ∨ D 11 0 = 1 ∨ D 11 0 = 2 ∨ D 11 0 = 3 ∨ D 11 0 = 4 ∨ D 11 0 = 5 ∨ D 11 0 = 6 by omega) with e | e | e | e | e | e | e <;> rw [e] <;> rfl
  have b : ∀ r, (if 0 < D 11 1 then [nI (D 12 6)] else []) ++ ((if 1 < D 11 1 then [nI (D 12 7)] else []) ++ ((if 2 < D 11 1 then [nI (D 12 8)] else []) ++ ((if 3 < D 11 1 then [nI (D 12 9)] else []) ++ ((if 4 < D 11 1 then [nI (D 12 10)] else []) ++ ((if 5 < D 11 1 then [nI (D 12 11)] else []) ++ r))))) = hlR D 1 ++ r := by
    intro r
    unfold hlR
    rcases (show D 11 1 = 0 ∨ D 11 1 = 1 ∨ D 11 1 = 2 ∨ D 11 1 = 3 ∨ D 11 1 = 4 ∨ D 11 1 = 5 ∨ D 11 1 = 6 by omega) with e | e | e | e | e | e | e <;> rw [e] <;> rfl
  refine (a _).trans ?_
  rw [show rr D 6 = hlR D 1 ++ [] from b []]
  rfl
theorem unbit {x p : Nat} (hx : x < 1024) (hp : p < 10) (h : x.testBit p = false) : nI (x ||| 2 ^ p) &&& ((nI 1 <<< (nI p &&& 31)) ^^^ (-1)) = nI x := by
  rw [bit_one (by omega)]
  have hq : 2 ^ p < 2 ^ 10 := Nat.pow_lt_pow_right (by decide) hp
  have ho : x ||| 2 ^ p < 1024 := Nat.or_lt_two_pow (n := 10) hx hq
  have e : nI (2 ^ p) ^^^ (-1) = ~~~ nI (2 ^ p) := by
    apply Int32.toBitVec_inj.mp
    rw [Int32.toBitVec_xor, Int32.toBitVec_not]
    exact BitVec.xor_allOnes
  rw [e]
  apply Int32.toBitVec_inj.mp
  rw [Int32.toBitVec_and, Int32.toBitVec_not]
  show BitVec.ofNat 32 (x ||| 2 ^ p) &&& ~~~ BitVec.ofNat 32 (2 ^ p) = BitVec.ofNat 32 x
  apply BitVec.eq_of_getLsbD_eq
  intro i hi
  rw [BitVec.getLsbD_and, BitVec.getLsbD_not, BitVec.getLsbD_ofNat, BitVec.getLsbD_ofNat, BitVec.getLsbD_ofNat, Nat.testBit_or, Nat.testBit_two_pow]
  by_cases e : p = i
  · subst e; simp [h]
  · simp [e, hi]
theorem y_digest (R : RepM μ D im tx s f) (O : OkS D im tx) (hf : f.1 < 1073741824 ^ 24 ∧ f.2 < 1073741824 ^ 24) : CtrS Z mX12_digest [mrf Z] μ (rJ fun v μ' => v = dgs (lN 577) (dlist D tx f) ∧ RepM μ' D im tx s f ∧ FrY μ μ') := by
  refine CtrS.intro (by decide +kernel) (Nat.le_of_ble_eq_true rfl) rfl fun X E hB => ?_
  have W := O.1.1
  have hn := W.1
  have hC := W.2.1
  have hS := W.2.2.1
  have hN := O.1.2.2.1
  obtain ⟨h1, h2, h3, h4, h5, h6, h7, h8⟩ := R.1
  obtain ⟨k1, k2, k3⟩ := R.2.1
  have e6 : ∀ {r μ1}, HH μ (dgs (lN 577) (dlist D tx f)) r μ1 → μ1 456 = μ 456 := fun h => h.1.1 _ (by decide)
  have RR : ∀ {r μ1}, HH μ (dgs (lN 577) (dlist D tx f)) r μ1 → RepM μ1 D im tx s f := fun h => h.1.rep R
  have lf0 : ln f.1 27 = ln f.1 24 := ln_top 27 (by decide) hf.1
  have lf1 : ln f.2 27 = ln f.2 24 := ln_top 27 (by decide) hf.2
  have w0 := ln_le f.1 24
  have w1 := ln_le f.2 24
  have L9 : ∀ k i μ1, i + k = ln f.2 24 → HH μ (dgs (lN 577) (dlist D tx f)) ((List.range' i k).map (fun i => nI (dg f.2 i)) ++ []) μ1 → JS Z X 443 [(0, mrf Z), (1, .int (nI i))] [] μ1 := by
    intro k
    induction k with
    | zero =>
      intro i μ1 hi h
      refine bX12_digest_443 E (m_limbsOf (RR h).2.2.2.2.1.2.1 (by decide)) fun v μ2 g => ?_
      obtain ⟨rfl, rfl⟩ := g
      refine bX12_digest_449 E (fun _ => bX12_digest_471 E hB ⟨_, rfl, h.2, RR h, fun x hx => h.1.1 x (by omega)⟩) (fun c => absurd (by rw [lf1, nI_leE (by omega) (by omega)]; omega) c)
    | succ k ih =>
      intro i μ1 hi h
      refine bX12_digest_443 E (m_limbsOf (RR h).2.2.2.2.1.2.1 (by decide)) fun v μ2 g => ?_
      obtain ⟨rfl, rfl⟩ := g
      refine bX12_digest_449 E (fun c => absurd c (by rw [lf1, nI_leE (by omega) (by omega)]; omega)) (fun _ => ?_)
      rw [r_mp] at h
      have g := (RR h).2.2.2.2.1.2.1.2 i (by omega)
      rw [show 27 * 1 + i = 27 + i by omega] at g
      refine bX12_digest_452 E (by rw [nI_add]; exact vin (by omega) (by omega)) (by rw [nI_add, ix_nI (by omega), g]; exact m_mix h) fun μ3 h => ?_
      refine bX12_digest_465 E ?_
      rw [nI_add]
      exact ih (i + 1) _ (by omega) h
  have L8 : ∀ k i μ1, i + k = ln f.1 24 → HH μ (dgs (lN 577) (dlist D tx f)) ((List.range' i k).map (fun i => nI (dg f.1 i)) ++ ((List.range' 0 (ln f.2 24)).map (fun i => nI (dg f.2 i)) ++ [])) μ1 → JS Z X 414 [(0, mrf Z), (1, .int (nI i))] [] μ1 := by
    intro k
    induction k with
    | zero =>
      intro i μ1 hi h
      refine bX12_digest_414 E (m_limbsOf (RR h).2.2.2.2.1.1 (by decide)) fun v μ2 g => ?_
      obtain ⟨rfl, rfl⟩ := g
      refine bX12_digest_420 E (fun _ => bX12_digest_441 E (L9 _ 0 _ (by omega) h)) (fun c => absurd (by rw [lf0, nI_leE (by omega) (by omega)]; omega) c)
    | succ k ih =>
      intro i μ1 hi h
      refine bX12_digest_414 E (m_limbsOf (RR h).2.2.2.2.1.1 (by decide)) fun v μ2 g => ?_
      obtain ⟨rfl, rfl⟩ := g
      refine bX12_digest_420 E (fun c => absurd c (by rw [lf0, nI_leE (by omega) (by omega)]; omega)) (fun _ => ?_)
      rw [r_mp] at h
      have g := (RR h).2.2.2.2.1.1.2 i (by omega)
      rw [show 27 * 0 + i = 0 + i by omega] at g
      refine bX12_digest_423 E (by rw [nI_add]; exact vin (by omega) (by omega)) (by rw [nI_add, ix_nI (by omega), g]; exact m_mix h) fun μ3 h => ?_
      refine bX12_digest_435 E ?_
      rw [nI_add]
      exact ih (i + 1) _ (by omega) h
  have L7 : ∀ μ1, HH μ (dgs (lN 577) (dlist D tx f)) (flist f) μ1 → JS Z X 386 [(0, mrf Z)] [] μ1 := by
    intro μ1 h
    have h : HH μ (dgs (lN 577) (dlist D tx f)) (sgn f 0 :: sgn f 1 :: sgn f 2 :: ((List.range (ln f.1 24)).map (fun i => nI (dg f.1 i)) ++ (List.range (ln f.2 24)).map (fun i => nI (dg f.2 i)))) μ1 := h
    refine bX12_digest_386 E (by rw [(RR h).2.2.2.2.1.2.2, show nI (if f.1 = 0 then 0 else 1) = sgn f 0 by rw [sgn, if_pos rfl]; split <;> rfl]; exact m_mix h) fun μ2 h => ?_
    refine bX12_digest_394 E (m_limbsOf (RR h).2.2.2.2.1.1 (by decide)) fun v μ3 g => ?_
    obtain ⟨rfl, rfl⟩ := g
    refine bX12_digest_400 E (by rw [lf0]; exact m_mix h) fun μ4 h => ?_
    refine bX12_digest_403 E (m_limbsOf (RR h).2.2.2.2.1.2.1 (by decide)) fun v μ3 g => ?_
    obtain ⟨rfl, rfl⟩ := g
    refine bX12_digest_409 E (by rw [lf1]; exact m_mix h) fun μ4 h => ?_
    refine bX12_digest_412 E (L8 _ 0 _ (Nat.zero_add _) ?_)
    rw [← List.range_eq_range', ← List.range_eq_range', List.append_nil]
    exact h
  have L6 : ∀ k i μ1, i + k = D 14 0 → HH μ (dgs (lN 577) (dlist D tx f)) ((List.range' i k).flatMap (fun i => [nI (D 15 i), nI (D 16 i)]) ++ flist f) μ1 → JS Z X 340 [(0, mrf Z), (1, .int (nI i))] [] μ1 := by
    intro k
    induction k with
    | zero =>
      intro i μ1 hi h
      refine bX12_digest_340 E (vin (by omega) (by omega)) (fun _ => L7 _ h) (fun c => absurd ?_ c)
      rw [ix_nI (by omega), e6 h, show μ 456 206 = _ from k1, nI_leE (by omega) (by omega)]; omega
    | succ k ih =>
      intro i μ1 hi h
      refine bX12_digest_340 E (vin (by omega) (by omega)) (fun c => absurd c ?_) (fun _ => ?_)
      · rw [ix_nI (by omega), e6 h, show μ 456 206 = _ from k1, nI_leE (by omega) (by omega)]; omega
      rw [r_fm] at h
      have g := k3 i (by omega)
      rw [show 0 + 207 + i = 207 + i by omega, show 0 + 227 + i = 227 + i by omega] at g
      refine bX12_digest_352 E (by rw [nI_add]; exact vin (by omega) (by omega)) (by rw [nI_add, ix_nI (by omega), e6 h, g.1]; exact m_mix h) fun μ3 h => ?_
      refine bX12_digest_366 E (by rw [nI_add]; exact vin (by omega) (by omega)) (by rw [nI_add, ix_nI (by omega), e6 h, g.2]; exact m_mix h) fun μ4 h => ?_
      refine bX12_digest_380 E ?_
      rw [nI_add]
      exact ih (i + 1) _ (by omega) h
  have L5 : ∀ k i μ1, i + k = 5 → HH μ (dgs (lN 577) (dlist D tx f)) ((List.range' i k).map (fun k => nI (D 13 k)) ++ ((List.range' 0 (D 14 0)).flatMap (fun i => [nI (D 15 i), nI (D 16 i)]) ++ flist f)) μ1 → JS Z X 313 [(0, mrf Z), (1, .int (nI i))] [] μ1 := by
    intro k
    induction k with
    | zero =>
      intro i μ1 hi h
      have : i = 5 := by omega
      subst this
      exact bX12_digest_313 E (fun _ => bX12_digest_338 E (L6 _ 0 _ (Nat.zero_add _) h)) (fun c => absurd (by decide) c)
    | succ k ih =>
      intro i μ1 hi h
      refine bX12_digest_313 E (fun c => absurd c (by rw [nI_leE (by omega) (by omega)]; omega)) (fun _ => ?_)
      rw [r_mp] at h
      have g := k2 i (by omega)
      rw [show 0 + 201 + i = 201 + i by omega] at g
      refine bX12_digest_318 E (by rw [nI_add]; exact vin (by omega) (by omega)) (by rw [nI_add, ix_nI (by omega), e6 h, g]; exact m_mix h) fun μ3 h => ?_
      refine bX12_digest_332 E ?_
      rw [nI_add]
      exact ih (i + 1) _ (by omega) h
  have L4 : ∀ k i μ1, i + k = 12 → HH μ (dgs (lN 577) (dlist D tx f)) (rr D k ++ (nlist D ++ flist f)) μ1 → JS Z X 265 [(0, mrf Z), (1, .int (nI i))] [] μ1 := by
    intro k
    induction k with
    | zero =>
      intro i μ1 hi h
      have : i = 12 := by omega
      subst this
      refine bX12_digest_265 E (fun _ => bX12_digest_311 E (L5 _ 0 _ (Nat.zero_add _) ?_)) (fun c => absurd (by decide) c)
      rw [nlist, List.append_assoc, List.range_eq_range', List.range_eq_range'] at h
      exact h
    | succ k ih =>
      intro i μ1 hi h
      refine bX12_digest_265 E (fun c => absurd c (by rw [nI_leE (by omega) (by omega)]; omega)) (fun _ => ?_)
      have q1 : nI i / nI 6 = nI (i / 6) := pk_div (by omega) (by omega) (by omega)
      have q2 : nI i - nI (i / 6) * nI 6 = nI (i % 6) := by rw [nI_mul, nI_sub (by omega)]; congr 1; omega
      have g := h8 (i / 6) (by omega)
      have ww := (W.2.2.2.2.2.2.2 (i / 6) (by omega)).1
      have go : ∀ μ1, HH μ (dgs (lN 577) (dlist D tx f)) (rr D k ++ (nlist D ++ flist f)) μ1 → JS Z X 305 [(0, mrf Z), (1, .int (nI i))] [] μ1 := fun μ1 h => by
        refine bX12_digest_305 E ?_
        rw [nI_add]
        exact ih (i + 1) _ (by omega) h
      have g1 : μ 456 (187 + i / 6) = nI (D 11 (i / 6)) := by rw [← g.1, show 0 + 187 + i / 6 = 187 + i / 6 by omega]
      rw [rr, show 11 - k = i by omega] at h
      refine bX12_digest_271 E (by rw [q1, nI_add]; exact vin (by omega) (by omega)) (fun c => ?_) (fun c => ?_)
      · rw [q1, nI_add, ix_nI (by omega), e6 h, q2, g1, nI_leE (by omega) (by omega)] at c
        rw [if_neg (by omega)] at h
        exact go _ h
      · rw [q1, nI_add, ix_nI (by omega), e6 h, q2, g1, nI_leE (by omega) (by omega)] at c
        rw [if_pos (by omega)] at h
        have g2 := g.2 (i % 6) (by omega)
        rw [show 0 + 189 + (6 * (i / 6) + i % 6) = 189 + i by omega, show 6 * (i / 6) + i % 6 = i by omega] at g2
        exact bX12_digest_291 E (by rw [nI_add]; exact vin (by omega) (by omega)) (by rw [nI_add, ix_nI (by omega), e6 h, g2]; exact m_mix h) fun μ3 h => go _ h
  have L3 : ∀ k i μ1, i + k = D 0 2 → HH μ (dgs (lN 577) (dlist D tx f)) ((List.range' i k).flatMap (hlS D) ++ (rr D 12 ++ (nlist D ++ flist f))) μ1 → JS Z X 189 [(0, mrf Z), (1, .int (nI i))] [] μ1 := by
    intro k
    induction k with
    | zero =>
      intro i μ1 hi h
      refine bX12_digest_189 E (vin (by omega) (by omega)) (fun _ => bX12_digest_263 E (L4 _ 0 _ (Nat.zero_add _) h)) (fun c => absurd ?_ c)
      rw [ix_nI (by omega), e6 h, show μ 456 154 = _ from h3, nI_leE (by omega) (by omega)]; omega
    | succ k ih =>
      intro i μ1 hi h
      refine bX12_digest_189 E (vin (by omega) (by omega)) (fun c => absurd c ?_) (fun _ => ?_)
      · rw [ix_nI (by omega), e6 h, show μ 456 154 = _ from h3, nI_leE (by omega) (by omega)]; omega
      rw [r_fm] at h
      have g := h7 i (by omega)
      rw [show 0 + 155 + i = 155 + i by omega, show 0 + 163 + i = 163 + i by omega, show 0 + 171 + i = 171 + i by omega, show 0 + 179 + i = 179 + i by omega] at g
      refine bX12_digest_201 E (by rw [nI_add]; exact vin (by omega) (by omega)) (by rw [nI_add, ix_nI (by omega), e6 h, g.1]; exact m_mix h) fun μ3 h => ?_
      refine bX12_digest_215 E (by rw [nI_add]; exact vin (by omega) (by omega)) (by rw [nI_add, ix_nI (by omega), e6 h, g.2.1]; exact m_mix h) fun μ4 h => ?_
      refine bX12_digest_229 E (by rw [nI_add]; exact vin (by omega) (by omega)) (by rw [nI_add, ix_nI (by omega), e6 h, g.2.2.1]; exact m_mix h) fun μ4 h => ?_
      refine bX12_digest_243 E (by rw [nI_add]; exact vin (by omega) (by omega)) (by rw [nI_add, ix_nI (by omega), e6 h, g.2.2.2]; exact m_mix h) fun μ4 h => ?_
      refine bX12_digest_257 E ?_
      rw [nI_add]
      exact ih (i + 1) _ (by omega) h
  have L2 : ∀ k i μ1, i + k = D 0 1 → HH μ (dgs (lN 577) (dlist D tx f)) ((List.range' i k).flatMap (hlC D) ++ ((List.range' 0 (D 0 2)).flatMap (hlS D) ++ (rr D 12 ++ (nlist D ++ flist f)))) μ1 → JS Z X 99 [(0, mrf Z), (1, .int (nI i))] [] μ1 := by
    intro k
    induction k with
    | zero =>
      intro i μ1 hi h
      refine bX12_digest_99 E (vin (by omega) (by omega)) (fun _ => bX12_digest_187 E (L3 _ 0 _ (Nat.zero_add _) h)) (fun c => absurd ?_ c)
      rw [ix_nI (by omega), e6 h, show μ 456 111 = _ from h2, nI_leE (by omega) (by omega)]; omega
    | succ k ih =>
      intro i μ1 hi h
      refine bX12_digest_99 E (vin (by omega) (by omega)) (fun c => absurd c ?_) (fun _ => ?_)
      · rw [ix_nI (by omega), e6 h, show μ 456 111 = _ from h2, nI_leE (by omega) (by omega)]; omega
      rw [r_fm] at h
      have g := h6 i (by omega)
      rw [show 0 + 112 + i = 112 + i by omega, show 0 + 142 + i = 142 + i by omega, show 0 + 148 + i = 148 + i by omega] at g
      have h : HH μ (dgs (lN 577) (dlist D tx f)) (nI (D 3 i) :: (((List.range' 0 4).map (fun k => nI (D 4 (4 * i + k)))) ++ (nI (D 5 i) :: lotI (D 6 i) :: ((List.range' (i + 1) k).flatMap (hlC D) ++ ((List.range' 0 (D 0 2)).flatMap (hlS D) ++ (rr D 12 ++ (nlist D ++ flist f))))))) μ1 := h
      refine bX12_digest_110 E (by rw [nI_add]; exact vin (by omega) (by omega)) (by rw [nI_add, ix_nI (by omega), e6 h, g.1]; exact m_mix h) fun μ3 h => ?_
      have inner : ∀ k' j μ4, j + k' = 4 → HH μ (dgs (lN 577) (dlist D tx f)) (((List.range' j k').map (fun k => nI (D 4 (4 * i + k)))) ++ (nI (D 5 i) :: lotI (D 6 i) :: ((List.range' (i + 1) k).flatMap (hlC D) ++ ((List.range' 0 (D 0 2)).flatMap (hlS D) ++ (rr D 12 ++ (nlist D ++ flist f)))))) μ4 → JS Z X 125 [(0, mrf Z), (1, .int (nI i)), (2, .int (nI j))] [] μ4 := by
        intro k'
        induction k' with
        | zero =>
          intro j μ4 hj h
          have : j = 4 := by omega
          subst this
          refine bX12_digest_125 E (fun _ => ?_) (fun c => absurd (by decide) c)
          refine bX12_digest_153 E (by rw [nI_add]; exact vin (by omega) (by omega)) (by rw [nI_add, ix_nI (by omega), e6 h, g.2.2.1]; exact m_mix h) fun μ5 h => ?_
          refine bX12_digest_167 E (by rw [nI_add]; exact vin (by omega) (by omega)) (by rw [nI_add, ix_nI (by omega), e6 h, g.2.2.2]; exact m_mix h) fun μ6 h => ?_
          refine bX12_digest_181 E ?_
          rw [nI_add]
          exact ih (i + 1) _ (by omega) h
        | succ k' ih' =>
          intro j μ4 hj h
          refine bX12_digest_125 E (fun c => absurd c (by rw [nI_leE (by omega) (by omega)]; omega)) (fun _ => ?_)
          rw [r_mp] at h
          have g4 := g.2.1 j (by omega)
          rw [show 0 + 118 + (4 * i + j) = 118 + 4 * i + j by omega] at g4
          refine bX12_digest_130 E (by rw [nI_mul, nI_add, nI_add]; exact vin (by omega) (by omega)) (by rw [nI_mul, nI_add, nI_add, ix_nI (by omega), e6 h, g4]; exact m_mix h) fun μ5 h => ?_
          refine bX12_digest_147 E ?_
          rw [nI_add]
          exact ih' (j + 1) _ (by omega) h
      exact bX12_digest_123 E (inner 4 0 _ (by omega) h)
  have L1 : ∀ k i μ1, i + k = D 0 0 → HH μ (dgs (lN 577) (dlist D tx f)) ((List.range' i k).flatMap (hlP D) ++ ((List.range' 0 (D 0 1)).flatMap (hlC D) ++ ((List.range' 0 (D 0 2)).flatMap (hlS D) ++ (rr D 12 ++ (nlist D ++ flist f))))) μ1 → JS Z X 32 [(0, mrf Z), (1, .int (nI i))] [] μ1 := by
    intro k
    induction k with
    | zero =>
      intro i μ1 hi h
      refine bX12_digest_32 E (vin (by omega) (by omega)) (fun _ => bX12_digest_97 E (L2 _ 0 _ (Nat.zero_add _) h)) (fun c => absurd ?_ c)
      rw [ix_nI (by omega), e6 h, show μ 456 0 = _ from h1, nI_leE (by omega) (by omega)]; omega
    | succ k ih =>
      intro i μ1 hi h
      refine bX12_digest_32 E (vin (by omega) (by omega)) (fun c => absurd c ?_) (fun _ => bX12_digest_42 E ?_)
      · rw [ix_nI (by omega), e6 h, show μ 456 0 = _ from h1, nI_leE (by omega) (by omega)]; omega
      rw [r_fm, hlP, List.append_assoc] at h
      have g := h5 i (by omega)
      rw [show 0 + 101 + i = 101 + i by omega] at g
      have lt := lt10 (W.2.2.2.2.1 i (by omega)).1 hn
      have inner : ∀ k' j μ4, j + k' = i → HH μ (dgs (lN 577) (dlist D tx f)) ((List.range' j k').map (fun q => nI (D 1 (10 * i + q))) ++ (nI (D 2 i) :: ((List.range' (i + 1) k).flatMap (hlP D) ++ ((List.range' 0 (D 0 1)).flatMap (hlC D) ++ ((List.range' 0 (D 0 2)).flatMap (hlS D) ++ (rr D 12 ++ (nlist D ++ flist f))))))) μ4 → JS Z X 44 [(0, mrf Z), (1, .int (nI i)), (2, .int (nI j))] [] μ4 := by
        intro k'
        induction k' with
        | zero =>
          intro j μ4 hj h
          refine bX12_digest_44 E (fun _ => ?_) (fun c => absurd (by rw [nI_leE (by omega) (by omega)]; omega) c)
          refine bX12_digest_72 E (by rw [nI_add]; exact vin (by omega) (by omega)) (by rw [nI_add, ix_nI (by omega), e6 h, g]; exact unbit lt (by omega) (W.2.2.2.2.1 i (by omega)).2.1 ▸ m_mix h) fun μ5 h => ?_
          refine bX12_digest_91 E ?_
          rw [nI_add]
          exact ih (i + 1) _ (by omega) h
        | succ k' ih' =>
          intro j μ4 hj h
          refine bX12_digest_44 E (fun c => absurd c (by rw [nI_leE (by omega) (by omega)]; omega)) (fun _ => ?_)
          rw [r_mp] at h
          have g4 := h4 i j (by omega) (by omega)
          rw [show 0 + 1 + 10 * i + j = 1 + 10 * i + j by omega] at g4
          refine bX12_digest_49 E (by rw [nI_mul, nI_add, nI_add]; exact vin (by omega) (by omega)) (by rw [nI_mul, nI_add, nI_add, ix_nI (by omega), e6 h, g4]; exact m_mix h) fun μ5 h => ?_
          refine bX12_digest_66 E ?_
          rw [nI_add]
          exact ih' (j + 1) _ (by omega) h
      exact inner i 0 _ (by omega) (by rw [← List.range_eq_range']; exact h)
  have L0 : ∀ k i μ1, i + k = 7 → HH μ (dgs (lN 577) (dlist D tx f)) ((List.range' i k).map (fun k => nI (cv D tx k)) ++ (hlist D ++ (nlist D ++ flist f))) μ1 → JS Z X 9 [(0, mrf Z), (1, .int (nI i))] [] μ1 := by
    intro k
    induction k with
    | zero =>
      intro i μ1 hi h
      have : i = 7 := by omega
      subst this
      refine bX12_digest_9 E (fun _ => bX12_digest_30 E (L1 _ 0 _ (Nat.zero_add _) ?_)) (fun c => absurd (by decide) c)
      rw [hlist, ← rr_eq W, List.append_assoc, List.append_assoc, List.append_assoc, List.range_eq_range', List.range_eq_range', List.range_eq_range'] at h
      exact h
    | succ k ih =>
      intro i μ1 hi h
      have ei : ix (nI i) = i := ix_nI (by omega)
      refine bX12_digest_9 E (fun c => absurd c (by rw [nI_leE (by omega) (by omega)]; omega)) (fun _ => ?_)
      refine bX12_digest_15 E (m_countOf (RR h) (inN_nI (by omega) (by omega))) fun v μ2 g => ?_
      obtain ⟨rfl, rfl⟩ := g
      rw [r_mp] at h
      refine bX12_digest_21 E (by rw [ei]; exact m_mix h) fun μ3 h => ?_
      refine bX12_digest_24 E ?_
      rw [nI_add]
      exact ih (i + 1) _ (by omega) h
  refine bX12_digest_0 E (bX12_digest_7 E (L0 7 0 _ (by omega) ⟨FrH.to, ?_⟩))
  rw [HL, uR_s, pk_us, pk_un (by decide), pk_us, mkL_hl]
  rfl
end DIG
