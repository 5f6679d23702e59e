/-! APART -/
abbrev AT : Type := Bool × Nat × (Nat → Nat)
def aM (D : DD) (q : Nat → Nat) : Nat := mt D (hnL D 0) (1, q, D 11 1) (D 11 0)
def aSt (D : DD) (st : AT) (q : Nat → Nat) : AT := if hOk D q (D 11 1) = true ∧ (st.1 = false ∨ aM D q < st.2.1) then (true, aM D q, q) else st
def aFo (D : DD) : AT := fo (aSt D) (D 11 1) 720 (sF (ro D 1) (D 11 1)) (false, 0, fun _ => 0)
def oApart (D : DD) (s : Nat → Int32) (a : Int32) : Int32 × (Nat → Int32) := if a = -1 ∨ inN a 6 then (if hOk D (ro D 0) (D 11 0) = true ∧ hOk D (ro D 1) (D 11 1) = true then (if a = -1 then nI (aFo D).2.1 else if ix a < D 11 1 then nI ((aFo D).2.2 (ix a)) else -5, s) else (-20, cnt s (-3))) else (-10, cnt s (-2))
theorem aFo_t {D : DD} (W : WF D) (h : hOk D (ro D 1) (D 11 1) = true) : (aFo D).1 = true := by
  refine hit_fo (A := fun st : AT => st.1 = true) (fun st q hs => ?_) (P := fun q => hOk D q (D 11 1) = true) (fun st q hq => ?_) 720 _ _ (walked_hit W (by decide) h)
  · unfold aSt; split
    · rfl
    · exact hs
  · unfold aSt
    by_cases c : st.1 = false ∨ aM D q < st.2.1
    · rw [if_pos ⟨hq, c⟩]
    · rw [if_neg fun g => c g.2]
      cases e : st.1 with
      | false => exact absurd (Or.inl e) c
      | true => rfl
theorem aM_le {D : DD} (W : WF D) {q : Nat → Nat} : aM D q ≤ 36 := by
  have w0 := (W.2.2.2.2.2.2.2 0 (by decide)).1
  have w1 := (W.2.2.2.2.2.2.2 1 (by decide)).1
  have := mt_le (D := D) (A := hnL D 0) (B := (1, q, D 11 1)) w1 (D 11 0)
  unfold aM; omega
section APART
variable {Z : ZT} {μ : Mu} {D : DD} {im : Nat → Option DD} {tx : TX} {s : Nat → Int32} {f : Nat × Nat}
abbrev APS : List Nat := [85, 86, 87, 88, 89, 90, 91, 76, 77, 273, 274]
def OA (μ : Mu) (n : Nat) (st : AT) : Prop := st.1 = true → μ 273 2 = nI st.2.1 ∧ ∀ i, i < n → μ 274 i = nI (st.2.2 i)
theorem OA.congr {μ' : Mu} {n : Nat} {st : AT} (h : OA μ n st) (e0 : μ' 273 = μ 273) (e1 : μ' 274 = μ 274) : OA μ' n st := fun c => ⟨by rw [e0]; exact (h c).1, fun i hi => by rw [e1]; exact (h c).2 i hi⟩
theorem SC.ap {μ' : Mu} (q : SC μ) {o : Nat} (ho : o = 273 ∨ o = 274) (h : Fr [o] μ μ') : SC μ' := by
  rcases ho with rfl | rfl
  · exact q.nob h (by decide) (fun p hp hq => by have := SH_all (P := fun o => SH o = .inl 0 → o + 1 ≠ 273) (by decide +kernel) hp hp; omega) (by decide)
  · exact q.nob h (by decide) (fun p hp hq => by have := SH_all (P := fun o => SH o = .inl 0 → o + 1 ≠ 274) (by decide +kernel) hp hp; omega) (by decide)
theorem c_findApart (H : HC μ 1 D) (N : NC μ 27 D) (W : WF D) (WW : WN D) (sc : SC μ) (T : HQ μ 85 1 (ro D 1) (D 11 1)) (T0 : HQ μ 78 0 (ro D 0) (D 11 0)) (L0 : HLd μ 78 D 0 (ro D 0) (D 11 0) (D 11 0)) (h3 : D 13 3 < D 0 0) (M : MC μ D) (K : KL μ D) : CtrS Z mX7_findApart [rf Z 273, rf Z 85, rf Z 78] μ (rV fun μ' => OA μ' (D 11 1) (aFo D) ∧ μ' 85 4 = nI (D 11 1) ∧ SC μ' ∧ Fr APS μ μ') := by
  refine CtrS.intro (by decide +kernel) (Nat.le_of_ble_eq_true rfl) rfl fun X E hB => ?_
  have ho : SH 85 = .inl 4 := rfl
  have ho2 : SH 78 = .inl 4 := rfl
  have Qr := QO.row W (l := 1) (by decide)
  have Q0 := QO.row W (l := 0) (by decide)
  have w6 := Qr.1
  have hfin : fo (aSt D) (D 11 1) 720 (sF (ro D 1) (D 11 1)) (false, 0, fun _ => 0) = aFo D := rfl
  generalize aFo D = fin at hB hfin
  generalize hn : D 11 1 = n at *
  have last : ∀ μ1 st, st = fin → OA μ1 n st → μ1 85 4 = nI n → SC μ1 → Fr APS μ μ1 → JS Z X 78 [] [] μ1 := fun μ1 st e h1 h2 h3 h4 => by
    subst e
    exact bX7_findApart_78 E hB ⟨rfl, h1, h2, h3, h4⟩
  have loop : ∀ k t q st μ1, t + k = 720 → fo (aSt D) n k q st = fin → HQ μ1 85 1 q n → QO D q n → MC μ1 D → KL μ1 D → SC μ1 → OA μ1 n st → st.2.1 ≤ 36 → Fr APS μ μ1 → JS Z X 14 [(0, rf Z 273), (1, rf Z 85), (2, rf Z 78), (3, .int (bI st.1)), (4, .int (nI t))] [] μ1 := by
    intro k
    induction k with
    | zero =>
      intro t q st μ1 ht he hT hQ hM hK hq hOA h36 hF
      have ht : t = 720 := ht
      subst ht
      exact bX7_findApart_14 E ho ho2 (fun _ => last μ1 st he hOA hT.2.1 hq hF) (fun c => absurd (by decide) c)
    | succ k ih =>
      intro t q st μ1 ht he hT hQ hM hK hq hOA h36 hF
      have H1 : HC μ1 1 D := H.fr fun x hx => hF _ (by simp; omega)
      have N1 : NC μ1 27 D := N.fr fun x hx => hF _ (by simp; omega)
      refine bX7_findApart_14 E ho ho2 (fun c => absurd c (by rw [nI_leE (by omega) (by omega)]; omega)) (fun _ => ?_)
      refine bX7_findApart_22 E ho ho2 (c_lay ho (by decide) H1 N1 W WW (by decide) hT hQ hM hK) fun v μ2 g => ?_
      obtain ⟨rfl, gL, gT, gK, gF⟩ := g
      have f2 : ∀ a, a ∉ [85, 87, 88, 89, 90, 91, 76, 77] → μ2 a = μ1 a := fun a ha => gF a (by simp at ha ⊢; omega)
      have M2 : MC μ2 D := hM.congr (f2 _ (by decide)) (f2 _ (by decide))
      have q2 : SC μ2 := hq.fr fun a h1 h2 => f2 a (by simp; omega)
      have OA2 : OA μ2 n st := hOA.congr (f2 _ (by decide)) (f2 _ (by decide))
      have F2 : Fr APS μ μ2 := hF.tr (fun a ha => f2 a (by simp at ha ⊢; omega))
      have r62 : ∀ μ3 st', aSt D st q = st' → HQ μ3 85 1 q n → MC μ3 D → KL μ3 D → SC μ3 → OA μ3 n st' → st'.2.1 ≤ 36 → Fr APS μ μ3 → JS Z X 62 [(0, rf Z 273), (1, rf Z 85), (2, rf Z 78), (3, .int (bI st'.1)), (4, .int (nI t))] [] μ3 := fun μ3 st' hst h1 h2 h3 h5 h6 h36' h8 => by
        refine bX7_findApart_62 E ho ho2 (c_nextOrder ho h1 hQ W) fun v μ4 j => ?_
        obtain ⟨rfl, j1, j2⟩ := j
        have f4 : ∀ a, a ≠ 86 → μ4 a = μ3 a := fun a ha => j2 a (by simpa using ha)
        have q4 : SC μ4 := h5.fr fun a h1 h2 => f4 a (by omega)
        have OA4 : OA μ4 n st' := h6.congr (f4 _ (by decide)) (f4 _ (by decide))
        have F4 : Fr APS μ μ4 := h8.tr (j2.mo (by simp))
        unfold fo at he
        cases hnx : nxt q n with
        | none =>
          rw [hnx] at he
          refine bX7_findApart_66 E ho ho2 (fun c => absurd rfl c) (fun _ => bX7_findApart_69 E ?_)
          exact last μ4 st' (by rw [← hst]; exact he) OA4 (by rw [f4 _ (by decide)]; exact h1.2.1) q4 F4
        | some q' =>
          rw [hnx] at he
          refine bX7_findApart_66 E ho ho2 (fun _ => bX7_findApart_72 E ho ho2 ?_) (fun c => absurd c (show ¬ nI 1 = 0 by decide))
          rw [nI_add]
          exact ih (t + 1) q' st' μ4 (by omega) (by rw [← hst]; exact he) (j1 q' hnx) (hQ.next hnx) (h2.congr (f4 _ (by decide)) (f4 _ (by decide))) (h3.congr (f4 _ (by decide)) (f4 _ (by decide))) q4 OA4 h36' F4
      refine bX7_findApart_26 E ho ho2 (fun c => ?_) (fun c => ?_)
      · rw [bz] at c
        exact r62 μ2 st (by unfold aSt; rw [hn, if_neg fun g => c g.1]) gT M2 gK q2 OA2 h36 F2
      rw [bz] at c
      have c := Decidable.not_not.mp c
      have T02 : HQ μ2 78 0 (ro D 0) (D 11 0) := T0.congr (F2 _ (by decide)) (F2 _ (by decide))
      have L02 : HLd μ2 78 D 0 (ro D 0) (D 11 0) (D 11 0) := L0.congr (F2 _ (by decide)) (F2 _ (by decide)) (F2 _ (by decide)) (F2 _ (by decide)) (F2 _ (by decide))
      refine bX7_findApart_29 E ho ho2 (c_meetings ho ho2 W WW hQ Q0 h3 gT T02 (gL c) L02) fun v μ3 j => ?_
      obtain ⟨rfl, e3⟩ := j
      have ae : mt D (1, q, n) (0, ro D 0, D 11 0) n = aM D q := by
        unfold aM
        rw [hn]
        exact mt_sym (A := (1, q, n)) (B := (0, ro D 0, D 11 0))
      have al := aM_le W (q := q)
      rw [ae, e3]
      have r49 : ∀ μ4, μ4 = μ2 → (st.1 = false ∨ aM D q < st.2.1) → JS Z X 49 [(0, rf Z 273), (1, rf Z 85), (2, rf Z 78), (4, .int (nI t)), (5, .int (nI (aM D q)))] [] μ4 := fun μ4 e y => by
        subst e
        refine bX7_findApart_49 E ho ho2 ?_
        have fr : Fr [273] μ4 (uR μ4 273 (upd (μ4 273) 2 (nI (aM D q)))) := Fr.uR (by simp)
        have q5 := q2.ap (Or.inl rfl) fr
        refine bX7_findApart_57 E ho ho2 (c_keep ho (gT.congr (fr _ (by decide)) (fr _ (by decide))) w6) fun μ6 b => ?_
        have f6 : ∀ a, a ≠ 273 → a ≠ 274 → μ6 a = μ4 a := fun a h1 h2 => by rw [b.2 a (by simpa using h2), uR_n h1]
        have st' : aSt D st q = (true, aM D q, q) := by unfold aSt; rw [hn, if_pos ⟨c, y⟩]
        exact r62 μ6 _ st' (gT.congr (f6 _ (by decide) (by decide)) (f6 _ (by decide) (by decide))) (M2.congr (f6 _ (by decide) (by decide)) (f6 _ (by decide) (by decide))) (gK.congr (f6 _ (by decide) (by decide)) (f6 _ (by decide) (by decide))) (q5.ap (Or.inr rfl) b.2) (fun _ => ⟨by rw [b.2 _ (by decide), uR_s, pk_us], b.1⟩) al (F2.tr fun a ha => f6 a (by simp at ha; omega) (by simp at ha; omega))
      refine bX7_findApart_34 E ho ho2 (fun y => ?_) (fun y => ?_)
      · rw [bI0] at y
        exact r49 _ rfl (Or.inl y)
      rw [bI0] at y
      have y1 : st.1 = true := by cases h : st.1 with | false => exact absurd h y | true => rfl
      refine bX7_findApart_40 E ho ho2 (fun w => ?_) (fun w => ?_)
      · rw [(OA2 y1).1, nI_leE (by omega) (by omega)] at w
        exact r62 _ st (by unfold aSt; rw [hn, if_neg fun g => Or.elim g.2 y (fun g => by omega)]) gT M2 gK q2 OA2 h36 F2
      · rw [(OA2 y1).1, nI_leE (by omega) (by omega)] at w
        exact r49 _ rfl (Or.inr (by omega))
  refine bX7_findApart_0 E ho ho2 ?_
  have fr : Fr [273] μ (uR μ 273 (upd (μ 273) 2 (nI 0))) := Fr.uR (by simp)
  have q1 := sc.ap (Or.inl rfl) fr
  refine bX7_findApart_7 E ho ho2 (c_sortSlips ho (T.congr (fr _ (by decide)) (fr _ (by decide))) Qr W) fun μ2 g => bX7_findApart_11 E ho ho2 ?_
  obtain ⟨g1, g2⟩ := g
  have f2 : ∀ a, a ≠ 273 → a ≠ 86 → μ2 a = μ a := fun a h1 h2 => by rw [g2 a (by simpa using h2), uR_n h1]
  exact loop 720 0 (sF (ro D 1) n) (false, 0, fun _ => 0) μ2 (by omega) hfin g1 (Qr.srt n (Nat.le_refl n)) (M.congr (f2 _ (by decide) (by decide)) (f2 _ (by decide) (by decide))) (K.congr (f2 _ (by decide) (by decide)) (f2 _ (by decide) (by decide))) (q1.fr fun a h1 h2 => g2 a (by simp; omega)) (fun c => absurd c (by decide)) (Nat.zero_le _) (fun a ha => f2 a (by simp at ha; omega) (by simp at ha; omega))
theorem x_apart {a : Int32} (R : RepC μ D im tx s f) (O : OkS D im tx) : CtrS Z mX11_apart [xrf Z, .int a] μ (rI fun v μ' => v = (oApart D s a).1 ∧ RepC μ' D im tx (oApart D s a).2 f ∧ FrX μ μ') := by
  refine CtrS.intro (by decide +kernel) (Nat.le_of_ble_eq_true rfl) rfl fun X E hB => ?_
  have W := O.1.1
  have WW := O.1.2
  have w6 := (W.2.2.2.2.2.2.2 1 (by decide)).1
  have main : (a = -1 ∨ inN a 6) → JS Z X 24 [(0, xrf Z), (1, .int a)] [] μ := fun hc => by
    have e : oApart D s a = _ := if_pos hc
    rw [e] at hB
    have no : ∀ μ1, ¬ (hOk D (ro D 0) (D 11 0) = true ∧ hOk D (ro D 1) (D 11 1) = true) → RepC μ1 D im tx s f → FrX μ μ1 → JS Z X 48 [(0, xrf Z)] [] μ1 := fun μ1 c R1 F1 => by
      rw [if_neg c] at hB
      exact bX11_apart_48 E (x_ref R1) fun v μ2 h => bX11_apart_54 E hB ⟨_, rfl, rfl, h.2.1, F1.tr h.2.2⟩
    refine bX11_apart_24 E (x_canHunt (o := 78) (l := 0) rfl (by decide) (by decide) R O (by decide)) fun v μ1 g => ?_
    obtain ⟨rfl, g1, g2, -, -, R1, gF⟩ := g
    have fx : FrX μ μ1 := fun x hx => gF x (by simp; omega)
    refine bX11_apart_33 E (fun c => ?_) (fun c => ?_)
    · rw [bz] at c
      exact no μ1 (fun g => c g.1) R1 fx
    rw [bz] at c
    have c := Decidable.not_not.mp c
    refine bX11_apart_36 E (x_canHunt (o := 85) (l := 1) rfl (by decide) (by decide) R1 O (by decide)) fun v μ2 k => ?_
    obtain ⟨rfl, k1, k2, kM, kK, R2, kF⟩ := k
    have fx2 : FrX μ1 μ2 := fun x hx => kF x (by simp; omega)
    refine bX11_apart_45 E (fun d => ?_) (fun d => ?_)
    rotate_left
    · rw [bz] at d
      exact no μ2 (fun g => d g.2) R2 (fx.tr fx2)
    rw [bz] at d
    have d := Decidable.not_not.mp d
    rw [if_pos ⟨c, d⟩] at hB
    have L := g1 c
    have T' : HQ μ2 78 0 (ro D 0) (D 11 0) := g2.congr (kF _ (by decide)) (kF _ (by decide))
    have L' : HLd μ2 78 D 0 (ro D 0) (D 11 0) (D 11 0) := L.congr (kF _ (by decide)) (kF _ (by decide)) (kF _ (by decide)) (kF _ (by decide)) (kF _ (by decide))
    refine bX11_apart_58 E (c_findApart R2.1 R2.2.1 W WW R2.2.2.2.2.2.2 k2 T' L' (hOk_3 c).1 kM kK) fun μ3 h => ?_
    obtain ⟨h1, h2, h3, h4⟩ := h
    have P3 : FrP μ2 μ3 := FrP.ofFr h4 (by decide)
    have R3 := P3.rep R2 h3
    have f3 : FrX μ μ3 := fx.tr (fx2.tr P3.x)
    have t := aFo_t W d
    refine bX11_apart_73 E (fun z => ?_) (fun z => ?_)
    rotate_left
    · rw [if_pos z] at hB
      exact bX11_apart_78 E hB ⟨_, rfl, (h1 t).1, R3, f3⟩
    rw [if_neg z] at hB
    have ia : inN a 6 := Or.elim hc (fun h => absurd h z) id
    obtain ⟨hi, ei⟩ := inN_of ia (by decide)
    generalize ix a = k at hi ei hB
    subst ei
    refine bX11_apart_86 E (fun y => ?_) (fun y => ?_)
    · rw [h2, nI_leE (by omega) (by omega)] at y
      rw [if_neg (by omega)] at hB
      exact bX11_apart_109 E (bX11_apart_111 E hB ⟨_, rfl, rfl, R3, f3⟩)
    · rw [h2, nI_leE (by omega) (by omega)] at y
      rw [if_pos (by omega)] at hB
      refine bX11_apart_97 E (vin (by omega) (by omega)) (bX11_apart_111 E hB ⟨_, rfl, ?_, R3, f3⟩)
      rw [ix_nI (by omega)]
      exact (h1 t).2 k (by omega)
  refine bX11_apart_0 E (fun c => main (Or.inl c)) (fun c => ?_)
  refine bX11_apart_5 E (c_within (n := 6) (by decide)) fun v μ1 g => ?_
  obtain ⟨rfl, e1⟩ := g
  rw [e1]
  refine bX11_apart_11 E (fun d => ?_) (fun d => ?_)
  · rw [bz] at d
    exact main (Or.inr (Decidable.not_not.mp d))
  · rw [bz] at d
    have e : oApart D s a = _ := if_neg (fun g => Or.elim g c d)
    rw [e] at hB
    exact bX11_apart_14 E (x_ref R) fun v μ2 h => bX11_apart_20 E hB ⟨_, rfl, rfl, h.2.1, h.2.2⟩
theorem m1_in {a : Int32} : (-1 ≤ a ∧ a ≤ nI 5) ↔ (a = -1 ∨ inN a 6) := by
  by_cases h : a < 0
  · refine ⟨fun g => Or.inl ?_, fun g => ?_⟩
    · apply Int32.toInt_inj.mp
      have g1 := g.1
      rw [Int32.le_iff_toInt_le] at g1
      rw [Int32.lt_iff_toInt_lt] at h
      have e1 : (-1 : Int32).toInt = -1 := by decide
      have e0 : (0 : Int32).toInt = 0 := by decide
      rw [e1] at g1 ⊢
      rw [e0] at h
      omega
    · rcases g with g | g
      · subst g; exact ⟨by decide, by decide⟩
      · exact absurd g.1 (fun c => absurd h (Int32.not_lt.mpr c))
  · obtain ⟨j, hj, rfl⟩ := nI_of h
    have n1 : ¬ nI j = -1 := fun e => h (by rw [e]; decide)
    have l1 : -1 ≤ nI j := Int32.le_trans (show (-1 : Int32) ≤ 0 by decide) (nI_pos' hj)
    rw [nI_leE hj (by omega)]
    refine ⟨fun g => Or.inr (inN_nI (by omega) (by decide)), fun g => ?_⟩
    rcases g with g | g
    · exact absurd g n1
    · have := g.2
      rw [nI_ltE hj (by omega)] at this
      exact ⟨l1, by omega⟩
end APART
