/-! ORDER -/
def phi (D : DD) (l s : Nat) : Nat := rd (miss D (l + 1) (D 8 s) (D 7 s) 6) (D 13 0 - 1)
def ph0 (D : DD) (l s : Nat) : Nat := rd (miss D (l + 1) (D 8 s) (D 13 3) 6) (D 13 0 - 1)
theorem rdS_phi {D : DD} {l : Nat} {q : Nat → Nat} : ∀ k, rdS D l q (k + 1) + phi D l (q 0) = Sm (phi D l) q (k + 1) + ph0 D l (q 0)
  | 0 => by
    rw [rdS, rdS, Sm, Sm]
    show 0 + ph0 D l (q 0) + phi D l (q 0) = 0 + phi D l (q 0) + ph0 D l (q 0)
    omega
  | k + 1 => by
    have ih := rdS_phi (D := D) (l := l) (q := q) k
    rw [rdS, Sm]
    have e : rd (hMs D l q (k + 1)) (D 13 0 - 1) = phi D l (q (k + 1)) := rfl
    rw [e]; omega
theorem rdS_same {D : DD} {l n : Nat} {q p : Nat → Nat} (hn : 0 < n) (h0 : q 0 = p 0) (hs : Sm (phi D l) q n = Sm (phi D l) p n) : rdS D l q n = rdS D l p n := by
  obtain ⟨k, rfl⟩ : ∃ k, n = k + 1 := ⟨n - 1, by omega⟩
  have a := rdS_phi (D := D) (l := l) (q := q) k
  have b := rdS_phi (D := D) (l := l) (q := p) k
  rw [h0] at a; omega
abbrev OT : Type := Bool × Nat × Nat × (Nat → Nat)
def gN (D : DD) : Nat := 1000000 ^ (D 13 0 - 1) * D 13 1
def oSt (D : DD) (l n : Nat) (st : OT) (q : Nat → Nat) : OT := if hOk D q n = true ∧ (st.1 = false ∨ adf (lenN D l q n) (gN D) < st.2.1) then (true, adf (lenN D l q n) (gN D), lenN D l q n, q) else st
def oFo (D : DD) (l : Nat) : OT := fo (oSt D l (D 11 l)) (D 11 l) 720 (sF (ro D l) (D 11 l)) (false, 0, 0, fun _ => 0)
theorem adf_mul {x y s : Nat} : adf (x * s) (y * s) = adf x y * s := by unfold adf; rw [← Nat.sub_mul, ← Nat.sub_mul, ← Nat.add_mul]
theorem adf_co {x y : Nat} : adf x y = adf y x := by unfold adf; omega
def oOrder (D : DD) (s : Nat → Int32) (f : Nat × Nat) (a i : Int32) : Int32 × (Nat → Int32) × (Nat × Nat) := if inN a 2 ∧ inN i 6 then (if (oFo D (ix a)).1 = true then (if ix i < D 11 (ix a) then nI ((oFo D (ix a)).2.2.2 (ix i)) else -5, s, lowF (oFo D (ix a)).2.2.1 (6 * (D 13 0 - 1))) else (-3, cnt s (-3), f)) else (-2, cnt s (-2), f)
section ORDER
variable {Z : ZT} {μ : Mu} {D : DD} {im : Nat → Option DD} {tx : TX} {s : Nat → Int32} {f : Nat × Nat}
theorem MB.congr {μ' : Mu} (h : MB μ D) (e : ∀ a ∈ MBS, μ' a = μ a) : MB μ' D := ⟨by rw [e _ (by simp)]; exact h.1, h.2.1.congr (e _ (by simp)) (e _ (by simp)), h.2.2.congr (e _ (by simp)) (e _ (by simp))⟩
abbrev ONS : List Nat := [78, 79, 80, 81, 82, 83, 84, 76, 77, 97, 98, 99, 100, 274, 275, 276, 277, 278, 279, 280, 281, 282, 283, 284]
/-- what has been found so far, in the class -/
def OF (μ : Mu) (n : Nat) (st : OT) : Prop := st.1 = true → BigV μ 283 st.2.1 ∧ BigV μ 275 st.2.2.1 ∧ ∀ i, i < n → μ 274 i = nI (st.2.2.2 i)
theorem OF.congr {μ' : Mu} {n : Nat} {st : OT} (h : OF μ n st) (e : ∀ a ∈ [274, 275, 276, 283, 284], μ' a = μ a) : OF μ' n st := fun c => ⟨(h c).1.congr (e _ (by simp)) (e _ (by simp)), (h c).2.1.congr (e _ (by simp)) (e _ (by simp)), fun i hi => by rw [e _ (by simp)]; exact (h c).2.2 i hi⟩
/-- the riddles that the class has added up already -/
def O1 (μ : Mu) (D : DD) (l n F0 : Nat) (x : Int32) : Prop := x = -1 ∨ ∃ p, x = nI (p 0) ∧ p 0 < 8 ∧ Sm (phi D l) p n = F0 ∧ BigV μ 277 (rdS D l p n)
theorem O1.congr {μ' : Mu} {l n F0 : Nat} {x : Int32} (h : O1 μ D l n F0 x) (e0 : μ' 277 = μ 277) (e1 : μ' 278 = μ 278) : O1 μ' D l n F0 x := by
  rcases h with h | ⟨p, h1, h2, h3, h4⟩
  · exact Or.inl h
  · exact Or.inr ⟨p, h1, h2, h3, h4.congr e0 e1⟩
theorem c_findNearest {l n : Nat} {q0 : Nat → Nat} (H : HC μ 1 D) (N : NC μ 27 D) (W : WF D) (WW : WN D) (hl : l < 2) (sc : SC μ) (T : HQ μ 78 l q0 n) (Q : QO D q0 n) (M : MC μ D) (K : KL μ D) (B : MB μ D) : CtrS Z mX7_findNearest [rf Z 273, rf Z 78] μ (rI fun v μ' => v = bI (fo (oSt D l n) n 720 (sF q0 n) (false, 0, 0, fun _ => 0)).1 ∧ OF μ' n (fo (oSt D l n) n 720 (sF q0 n) (false, 0, 0, fun _ => 0)) ∧ μ' 78 4 = nI n ∧ SC μ' ∧ Fr ONS μ μ') := by
  refine CtrS.intro (by decide +kernel) (Nat.le_of_ble_eq_true rfl) rfl fun X E hB => ?_
  have n6 := Q.1
  have ho : SH 78 = .inl 4 := rfl
  have hS := W.2.2.1
  generalize hfin : fo (oSt D l n) n 720 (sF q0 n) (false, 0, 0, fun _ => 0) = fin at hB
  generalize hF0 : Sm (phi D l) (sF q0 n) n = F0
  have last : ∀ μ1 st, st = fin → OF μ1 n st → μ1 78 4 = nI n → SC μ1 → Fr ONS μ μ1 → JS Z X 165 [(2, .int (bI st.1))] [] μ1 := fun μ1 st e h1 h2 h3 h4 => by
    subst e
    exact bX7_findNearest_165 E hB (z01 (by unfold bI; split <;> simp)) ⟨_, rfl, rfl, h1, h2, h3, h4⟩
  have loop : ∀ k t q st x μ1, t + k = 720 → fo (oSt D l n) n k q st = fin → HQ μ1 78 l q n → QO D q n → Sm (phi D l) q n = F0 → MC μ1 D → KL μ1 D → MB μ1 D → SC μ1 → OF μ1 n st → O1 μ1 D l n F0 x → Fr ONS μ μ1 → JS Z X 11 [(0, rf Z 273), (1, rf Z 78), (2, .int (bI st.1)), (3, .int x), (4, .int (nI t))] [] μ1 := by
    intro k
    induction k with
    | zero =>
      intro t q st x μ1 ht he hT hQ hs hM hK hMB hq hOF hO1 hF
      have ht : t = 720 := ht
      subst ht
      exact bX7_findNearest_11 E ho (fun _ => last μ1 st he hOF hT.2.1 hq hF) (fun c => absurd (by decide) c)
    | succ k ih =>
      intro t q st x μ1 ht he hT hQ hs hM hK hMB hq hOF hO1 hF
      have H1 : HC μ1 1 D := H.fr fun x hx => hF _ (by simp; omega)
      have N1 : NC μ1 27 D := N.fr fun x hx => hF _ (by simp; omega)
      refine bX7_findNearest_11 E ho (fun c => absurd c (by rw [nI_leE (by omega) (by omega)]; omega)) (fun _ => ?_)
      refine bX7_findNearest_19 E ho (c_lay ho (by decide) H1 N1 W WW hl hT hQ hM hK) fun v μ2 g => ?_
      obtain ⟨rfl, gL, gT, gK, gF⟩ := g
      have f2 : ∀ a, a ∉ [78, 80, 81, 82, 83, 84, 76, 77] → μ2 a = μ1 a := fun a ha => gF a (by simp at ha ⊢; omega)
      have M2 : MC μ2 D := hM.congr (f2 _ (by decide)) (f2 _ (by decide))
      have B2 : MB μ2 D := hMB.congr fun a ha => f2 a (by simp at ha ⊢; omega)
      have q2 : SC μ2 := hq.fr fun a h1 h2 => f2 a (by simp; omega)
      have OF2 : OF μ2 n st := hOF.congr fun a ha => f2 a (by simp at ha ⊢; omega)
      have O12 : O1 μ2 D l n F0 x := hO1.congr (f2 _ (by decide)) (f2 _ (by decide))
      have F2 : Fr ONS μ μ2 := hF.tr (fun a ha => f2 a (by simp at ha ⊢; omega))
      -- on to the next order
      have r149 : ∀ μ3 st' x', oSt D l n st q = st' → HQ μ3 78 l q n → MC μ3 D → KL μ3 D → MB μ3 D → SC μ3 → OF μ3 n st' → O1 μ3 D l n F0 x' → Fr ONS μ μ3 → JS Z X 149 [(0, rf Z 273), (1, rf Z 78), (2, .int (bI st'.1)), (3, .int x'), (4, .int (nI t))] [] μ3 := fun μ3 st' x' hst h1 h2 h3 h4 h5 h6 h7 h8 => by
        refine bX7_findNearest_149 E ho (c_nextOrder ho h1 hQ W) fun v μ4 j => ?_
        obtain ⟨rfl, j1, j2⟩ := j
        have f4 : ∀ a, a ≠ 79 → μ4 a = μ3 a := fun a ha => j2 a (by simpa using ha)
        have q4 : SC μ4 := h5.fr fun a h1 h2 => f4 a (by omega)
        have OF4 : OF μ4 n st' := h6.congr fun a ha => f4 a (by simp at ha; omega)
        have F4 : Fr ONS μ μ4 := h8.tr (j2.mo (by simp))
        unfold fo at he
        cases hnx : nxt q n with
        | none =>
          rw [hnx] at he
          refine bX7_findNearest_153 E ho (fun c => absurd rfl c) (fun _ => bX7_findNearest_156 E ?_)
          exact last μ4 st' (by rw [← hst]; exact he) OF4 (by rw [f4 _ (by decide)]; exact h1.2.1) q4 F4
        | some q' =>
          rw [hnx] at he
          refine bX7_findNearest_153 E ho (fun _ => bX7_findNearest_159 E ho ?_) (fun c => absurd c (show ¬ nI 1 = 0 by decide))
          rw [nI_add]
          exact ih (t + 1) q' st' x' μ4 (by omega) (by rw [← hst]; exact he) (j1 q' hnx) (hQ.next hnx) (by rw [Sm_nxt hnx]; exact hs) (h2.congr (f4 _ (by decide)) (f4 _ (by decide))) (h3.congr (f4 _ (by decide)) (f4 _ (by decide))) (h4.congr fun a ha => f4 a (by simp at ha; omega)) q4 OF4 (h7.congr (f4 _ (by decide)) (f4 _ (by decide))) F4
      refine bX7_findNearest_23 E ho (fun c => ?_) (fun c => ?_)
      · rw [bz] at c
        exact r149 μ2 st x (by unfold oSt; rw [if_neg fun g => c g.1]) gT M2 gK B2 q2 OF2 O12 F2
      rw [bz] at c
      have c := Decidable.not_not.mp c
      have L := gL c
      obtain ⟨o3, -, n0, -⟩ := hOk_3 c
      have q00 := hQ.2 0 n0
      have ll := lenN_le (l := l) (q := q) WW n6
      have e37 : (10 : Nat) ^ 37 < 1073741824 ^ 24 := by decide
      have wl := hWk_le (D := D) (q := q) (n := n) n
      -- the mean is weighed
      have r55 : ∀ μ3 x', HQ μ3 78 l q n → HLd μ3 78 D l q n n → MC μ3 D → KL μ3 D → MB μ3 D → SC μ3 → OF μ3 n st → BigV μ3 277 (rdS D l q n) → x' = nI (q 0) → Fr ONS μ μ3 → JS Z X 55 [(0, rf Z 273), (1, rf Z 78), (2, .int (bI st.1)), (3, .int x'), (4, .int (nI t))] [] μ3 := fun μ3 x' h1 hL h2 h3 h4 h5 h6 h7 hx' h8 => by
        refine bX7_findNearest_55 E ho (q_copy h5 (GB.of rfl (by decide)) h7) fun μ4 j => ?_
        obtain ⟨j1, j2, j3⟩ := j
        refine bX7_findNearest_66 E ho (by rw [j3 78 (by decide), hL.1]; exact q_addTimes j2 (GB.of rfl (by decide)) j1 (h4.2.1.fr j3 (by decide) (by decide)) (by decide) (by omega) (Nat.lt_of_le_of_lt ll e37)) fun μ5 i => ?_
        obtain ⟨i1, i2, i3⟩ := i
        have i1 : BigV μ5 279 (lenN D l q n) := i1
        have f5 : ∀ a, a ≠ 279 → a ≠ 280 → μ5 a = μ3 a := fun a h1 h2 => by rw [i3 a (by simp; omega), j3 a (by simp; omega)]
        refine bX7_findNearest_84 E ho (q_setDifference i2 (GB.of rfl (by decide)) i1 (h4.2.2.congr (f5 _ (by decide) (by decide)) (f5 _ (by decide) (by decide)))) fun μ6 z => ?_
        obtain ⟨z1, z2, z3⟩ := z
        have z1 : BigV μ6 281 (adf (lenN D l q n) (gN D)) := z1
        have f6 : ∀ a, a ≠ 279 → a ≠ 280 → a ≠ 281 → a ≠ 282 → μ6 a = μ3 a := fun a h1 h2 h3 h4 => by rw [z3 a (by simp; omega), f5 a h1 h2]
        have T6 : HQ μ6 78 l q n := h1.congr (f6 _ (by decide) (by decide) (by decide) (by decide)) (f6 _ (by decide) (by decide) (by decide) (by decide))
        have M6 : MC μ6 D := h2.congr (f6 _ (by decide) (by decide) (by decide) (by decide)) (f6 _ (by decide) (by decide) (by decide) (by decide))
        have K6 : KL μ6 D := h3.congr (f6 _ (by decide) (by decide) (by decide) (by decide)) (f6 _ (by decide) (by decide) (by decide) (by decide))
        have B6 : MB μ6 D := h4.congr fun a ha => f6 a (by simp at ha; omega) (by simp at ha; omega) (by simp at ha; omega) (by simp at ha; omega)
        have OF6 : OF μ6 n st := h6.congr fun a ha => f6 a (by simp at ha; omega) (by simp at ha; omega) (by simp at ha; omega) (by simp at ha; omega)
        have O16 : O1 μ6 D l n F0 x' := Or.inr ⟨q, hx', by omega, hs, h7.congr (f6 _ (by decide) (by decide) (by decide) (by decide)) (f6 _ (by decide) (by decide) (by decide) (by decide))⟩
        have F6 : Fr ONS μ μ6 := h8.tr fun a ha => f6 a (by simp at ha; omega) (by simp at ha; omega) (by simp at ha; omega) (by simp at ha; omega)
        have len6 : BigV μ6 279 (lenN D l q n) := i1.ot z3 rfl (by decide)
        have r120 : ∀ μ7, μ7 = μ6 → (st.1 = false ∨ adf (lenN D l q n) (gN D) < st.2.1) → JS Z X 120 [(0, rf Z 273), (1, rf Z 78), (3, .int x'), (4, .int (nI t))] [] μ7 := fun μ7 e y => by
          subst e
          refine bX7_findNearest_120 E ho (q_copy z2 (GB.of rfl (by decide)) z1) fun μ8 a => ?_
          obtain ⟨a1, a2, a3⟩ := a
          refine bX7_findNearest_133 E ho (q_copy a2 (GB.of rfl (by decide)) (len6.ot a3 rfl (by decide))) fun μ9 b => ?_
          obtain ⟨b1, b2, b3⟩ := b
          have f9 : ∀ a, a ∉ [283, 284, 275, 276] → μ9 a = μ7 a := fun a ha => by rw [b3 a (by simp at ha ⊢; omega), a3 a (by simp at ha ⊢; omega)]
          have T9 : HQ μ9 78 l q n := T6.congr (f9 _ (by decide)) (f9 _ (by decide))
          refine bX7_findNearest_144 E ho (c_keep ho T9 n6) fun μ10 d => ?_
          obtain ⟨d1, d2⟩ := d
          have f10 : ∀ a, a ∉ [283, 284, 275, 276, 274] → μ10 a = μ7 a := fun a ha => by rw [d2 a (by simp at ha ⊢; omega), f9 a (by simp at ha ⊢; omega)]
          have st' : oSt D l n st q = (true, adf (lenN D l q n) (gN D), lenN D l q n, q) := by unfold oSt; rw [if_pos ⟨c, y⟩]
          refine r149 μ10 _ x' st' (T9.congr (d2 _ (by decide)) (d2 _ (by decide))) (M6.congr (f10 _ (by decide)) (f10 _ (by decide))) (K6.congr (f10 _ (by decide)) (f10 _ (by decide))) (B6.congr fun a ha => f10 a (by simp at ha ⊢; omega)) ?_ (fun _ => ⟨?_, ?_, d1⟩) (O16.congr (f10 _ (by decide)) (f10 _ (by decide))) (F6.tr fun a ha => f10 a (by simp at ha ⊢; omega))
          · exact b2.nob d2 (by decide) (fun p hp hq => by have := SH_all (P := fun o => SH o = .inl 0 → o + 1 ≠ 274) (by decide +kernel) hp hp; omega) (by decide)
          · exact (a1.ot b3 rfl (by decide)).fr d2 (by decide) (by decide)
          · exact b1.fr d2 (by decide) (by decide)
        refine bX7_findNearest_102 E ho (fun y => ?_) (fun y => ?_)
        · rw [bI0] at y
          exact r120 μ6 rfl (Or.inl y)
        rw [bI0] at y
        have y1 : st.1 = true := by cases h : st.1 with | false => exact absurd h y | true => rfl
        refine bX7_findNearest_106 E ho (c_compare z1 (OF6 y1).1) fun v μ7 a => ?_
        obtain ⟨rfl, e7⟩ := a
        refine bX7_findNearest_117 E ho (fun w => ?_) (fun w => ?_)
        · rw [cmp_ge] at w
          subst e7
          exact r149 _ st x' (by unfold oSt; rw [if_neg fun g => Or.elim g.2 y (fun g => by omega)]) T6 M6 K6 B6 z2 OF6 O16 F6
        · rw [cmp_ge] at w
          exact r120 μ7 e7 (Or.inr (by omega))
      refine bX7_findNearest_26 E ho (vin (by omega) (by omega)) (fun d => ?_) (fun d => ?_)
      · rw [ix_nI (by omega), show μ2 (78 + 1) 0 = _ from gT.2.2 0 n0] at d
        rcases O12 with e | ⟨p, p1, p2, p3, p4⟩
        · exact absurd (show nI (q 0) < 0 by rw [d, e]; decide) (Int32.not_lt.mpr (nI_pos' (by omega)))
        · have e0 : q 0 = p 0 := nI_inj (by omega) (by omega) (by rw [d, p1])
          exact r55 μ2 x gT L M2 gK B2 q2 OF2 (by rw [rdS_same n0 e0 (hs.trans p3.symm)]; exact p4) d.symm F2
      · have N2 : NC μ2 27 D := N1.fr fun x hx => f2 _ (by simp; omega)
        refine bX7_findNearest_36 E ho (vin (by omega) (by omega)) (c_ofRiddles (o := 277) (GB.of rfl (by decide)) (by decide) (by decide) (by decide) ho (by decide) N2 WW q2 hQ gT L) fun μ3 j => ?_
        obtain ⟨j1, j2, j3⟩ := j
        have f3 : ∀ a, a ∉ [277, 278, 97, 98, 99, 100] → μ3 a = μ2 a := fun a ha => j3 a ha
        have T3 : HQ μ3 78 l q n := gT.congr (f3 _ (by decide)) (f3 _ (by decide))
        rw [ix_nI (by omega), show μ2 (78 + 1) 0 = _ from gT.2.2 0 n0]
        exact r55 μ3 _ T3 (L.congr (f3 _ (by decide)) (f3 _ (by decide)) (f3 _ (by decide)) (f3 _ (by decide)) (f3 _ (by decide))) (M2.congr (f3 _ (by decide)) (f3 _ (by decide))) (gK.congr (f3 _ (by decide)) (f3 _ (by decide))) (B2.congr fun a ha => f3 a (by simp at ha ⊢; omega)) j2 (OF2.congr fun a ha => f3 a (by simp at ha ⊢; omega)) j1 rfl (F2.tr fun a ha => f3 a (by simp at ha ⊢; omega))
  refine bX7_findNearest_0 E ho (c_sortSlips ho T Q W) fun μ1 g => bX7_findNearest_8 E ho ?_
  obtain ⟨g1, g2⟩ := g
  have f1 : ∀ a, a ≠ 79 → μ1 a = μ a := fun a ha => g2 a (by simpa using ha)
  exact loop 720 0 (sF q0 n) (false, 0, 0, fun _ => 0) (-1) μ1 (by omega) hfin g1 (Q.srt n (Nat.le_refl n)) hF0 (M.congr (f1 _ (by decide)) (f1 _ (by decide))) (K.congr (f1 _ (by decide)) (f1 _ (by decide))) (B.congr fun a ha => f1 a (by simp at ha; omega)) (sc.fr fun a h1 h2 => f1 a (by omega)) (fun c => absurd c (by decide)) (Or.inl rfl) (g2.mo (by simp))
theorem x_order {a i : Int32} (R : RepC μ D im tx s f) (O : OkS D im tx) : CtrS Z mX11_order [xrf Z, .int a, .int i] μ (rI fun v μ' => v = (oOrder D s f a i).1 ∧ RepC μ' D im tx (oOrder D s f a i).2.1 (oOrder D s f a i).2.2 ∧ FrX μ μ') := by
  refine CtrS.intro (by decide +kernel) (Nat.le_of_ble_eq_true rfl) rfl fun X E hB => ?_
  have no : ¬ (inN a 2 ∧ inN i 6) → JS Z X 17 [(0, xrf Z)] [] μ := fun c => by
    have e : oOrder D s f a i = _ := if_neg c
    rw [e] at hB
    exact bX11_order_17 E (x_ref R) fun v μ2 h => bX11_order_23 E hB ⟨_, rfl, h⟩
  refine bX11_order_0 E (c_within (n := 2) (by decide)) fun v μ1 g => ?_
  obtain ⟨rfl, rfl⟩ := g
  refine bX11_order_5 E (fun c => ?_) (fun c => ?_)
  · rw [bz] at c
    exact no fun g => c g.1
  rw [bz] at c
  have c := Decidable.not_not.mp c
  refine bX11_order_8 E (c_within (n := 6) (by decide)) fun v μ2 g => ?_
  obtain ⟨rfl, rfl⟩ := g
  refine bX11_order_14 E (fun d => ?_) (fun d => ?_)
  rotate_left
  · rw [bz] at d
    exact no fun g => d g.2
  rw [bz] at d
  have d := Decidable.not_not.mp d
  have e : oOrder D s f a i = _ := if_pos ⟨c, d⟩
  rw [e] at hB
  obtain ⟨ha, ea⟩ := inN_of c (by decide)
  obtain ⟨hi, ei⟩ := inN_of d (by omega)
  have W := O.1.1
  have WW := O.1.2
  have w6 := (W.2.2.2.2.2.2.2 _ ha).1
  clear no d c e
  generalize ix a = l at ha ea hB w6
  generalize ix i = k at hi ei hB
  subst ea ei
  refine bX11_order_24 E (c_measure R.1 W) fun μ3 g => ?_
  obtain ⟨M3, K3', F3⟩ := g
  have P3 : FrP μ2 μ3 := FrP.ofFr F3 (by decide)
  have R3 := P3.rep R (R.2.2.2.2.2.2.wks F3)
  refine bX11_order_31 E (c_take (o := 78) rfl (by decide) R3.1 W ha) fun μ4 g => ?_
  obtain ⟨T4, F4⟩ := g
  have T4 : HQ μ4 78 l (ro D l) (D 11 l) := T4
  have P4 : FrP μ3 μ4 := FrP.ofFr F4 (by decide)
  have R4 := P4.rep R3 (R3.2.2.2.2.2.2.fr fun a h1 h2 => F4 a (by simp; omega))
  refine bX11_order_39 E (c_begin R4.2.1 WW R4.2.2.2.2.2.2) fun μ5 g => ?_
  obtain ⟨B5, q5, F5⟩ := g
  have P5 : FrP μ4 μ5 := FrP.ofFr F5 (by decide)
  have R5 := P5.rep R4 q5
  have M5 : MC μ5 D := (M3.congr (F4 _ (by decide)) (F4 _ (by decide))).congr (F5 _ (by decide)) (F5 _ (by decide))
  have K5 : KL μ5 D := fun s a b hs ha hb => by
    have hn := W.1
    have hS := W.2.2.1
    exact Or.inl (by rw [F5 _ (by decide), F4 _ (by decide)]; exact K3' _ (by omega))
  refine bX11_order_46 E (c_findNearest R5.1 R5.2.1 W WW ha q5 (T4.congr (F5 _ (by decide)) (F5 _ (by decide))) (QO.row W ha) M5 K5 B5) fun v μ6 g => ?_
  obtain ⟨rfl, OF6, e4, q6, F6⟩ := g
  have P6 : FrP μ5 μ6 := FrP.ofFr F6 (by decide)
  have R6 := P6.rep R5 q6
  have fx : FrX μ2 μ6 := P3.x.tr (P4.x.tr (P5.x.tr P6.x))
  have ee : fo (oSt D l (D 11 l)) (D 11 l) 720 (sF (ro D l) (D 11 l)) (false, 0, 0, fun _ => 0) = oFo D l := rfl
  rw [ee] at OF6 ⊢
  refine bX11_order_57 E (fun c => ?_) (fun c => ?_)
  rotate_left
  · rw [bI0] at c
    rw [if_neg (by rw [c]; decide)] at hB
    exact bX11_order_60 E (x_ref R6) fun v μ7 h => bX11_order_66 E hB ⟨_, rfl, h.1, h.2.1, fx.tr h.2.2⟩
  rw [bI0] at c
  have c1 : (oFo D l).1 = true := by cases h : (oFo D l).1 with | false => exact absurd h c | true => rfl
  rw [if_pos c1] at hB
  have h13 := WW.1.2.1
  refine bX11_order_67 E (by rw [F6 _ (by decide), B5.1]; exact x_tell R6 (OF6 c1).2.1 (by decide) (by omega)) fun μ7 h7 => ?_
  refine bX11_order_88 E (fun d => ?_) (fun d => ?_)
  · rw [h7.2 _ (by decide), e4, nI_leE (by omega) (by omega)] at d
    rw [if_neg (by omega)] at hB
    exact bX11_order_111 E (bX11_order_113 E hB ⟨_, rfl, rfl, h7.1, fx.tr (FRS.x h7.2)⟩)
  · rw [h7.2 _ (by decide), e4, nI_leE (by omega) (by omega)] at d
    rw [if_pos (by omega)] at hB
    refine bX11_order_99 E (vin (by omega) (by omega)) (bX11_order_113 E hB ⟨_, rfl, ?_, h7.1, fx.tr (FRS.x h7.2)⟩)
    rw [ix_nI (by omega), h7.2 _ (by decide)]
    exact (OF6 c1).2.2 k (by omega)
end ORDER
