/-! HOUSE of THE TEXT: what the ITEMS make of an empty one; the class' call -/
/-- an ITEM done to a HOUSE -/
def tl (D : DD) (k : Nat) (l : List Nat) : Int32 × DD := match k with
  | 0 => oPlace D
  | 1 => oWay D (nI (l.getD 0 0)) (nI (l.getD 1 0)) (nI (l.getD 2 0))
  | 2 => oSees D (nI (l.getD 0 0)) (nI (l.getD 1 0))
  | 3 => oChild D (nI (l.getD 0 0)) (nI (l.getD 1 0)) (nI (l.getD 2 0)) (nI (l.getD 3 0)) (nI (l.getD 4 0))
  | 4 => oBar D (nI (l.getD 0 0)) (nI (l.getD 1 0))
  | 5 => oJoin D (nI (l.getD 0 0)) (nI (l.getD 1 0))
  | 6 => oSlip D (nI (l.getD 0 0)) (nI (l.getD 1 0))
  | 7 => oSpare D (nI (l.getD 0 0))
  | 8 => oMeans D (nI (l.getD 0 0)) (nI (l.getD 1 0))
  | _ => oRow D (nI (l.getD 0 0)) (nI (l.getD 1 0))
/-- all ITEMS, or the first that is refused -/
def tF : List (Nat × List Nat) → Nat → DD → Nat ⊕ DD
  | [], _, D => .inr D
  | (k, l) :: r, i, D => if (-2 : Int32) < (tl D k l).1 then tF r (i + 1) (tl D k l).2 else .inl i
/-- a HOUSE in the place of that of D; the rest stays -/
def mg (D E : DD) : DD := fun k => if k ≤ 12 then E k else D k
def oHouse (D : DD) (tx : TX) : Int32 × DD := match prs tx.2 tx.1 51 0 with
  | .inl x => (-10 - nI x, D)
  | .inr L => match tF L 0 D0 with
    | .inl i => (-1000 - nI i, D)
    | .inr E => (nI L.length, mg D E)
section TELLS
variable {Z : ZT} {μ : Mu} {D : DD} {im : Nat → Option DD} {tx : TX} {s : Nat → Int32} {f : Nat × Nat}
theorem WF_tl {k : Nat} {l : List Nat} (W : WF D) : WF (tl D k l).2 := by
  unfold tl
  split
  · exact WF_oPlace W
  · exact WF_oWay W
  · exact WF_oSees W
  · exact WF_oChild W
  · exact WF_oBar W
  · exact WF_oJoin W
  · exact WF_oSlip W
  · exact WF_oSpare W
  · exact WF_oMeans W
  · exact WF_oRow W
theorem WF_tF : ∀ (L : List (Nat × List Nat)) (i : Nat) (D E : DD), WF D → tF L i D = .inr E → WF E
  | [], _, D, E, W, h => by cases h; exact W
  | (k, l) :: r, i, D, E, W, h => by
    unfold tF at h
    by_cases c : (-2 : Int32) < (tl D k l).1
    · rw [if_pos c] at h
      exact WF_tF r _ _ E (WF_tl W) h
    · rw [if_neg c] at h; cases h
theorem c_tell {L : List (Nat × List Nat)} {i k : Nat} {l : List Nat} (hL : L[i]? = some (k, l)) (h50 : L.length ≤ 50) (hk : k < 10) (hc : μ 31 2 = nI L.length) (I : IT μ L) (H : HC μ 14 D) (W : WF D) : CtrS Z mX9_tell [rf Z 31, rf Z 14, .int (nI i)] μ (cP Z μ 14 (tl D k l)) := by
  have hi : i < L.length := (List.getElem?_eq_some_iff.mp hL).1
  obtain ⟨i1, i2⟩ := I i (k, l) hL
  have i1 : μ 33 i = nI k := i1
  have i2 : ∀ t, t < nOf k → μ 34 (i * 5 + t) = nI (l.getD t 0) := i2
  refine CtrS.intro (by decide +kernel) (Nat.le_of_ble_eq_true rfl) rfl fun X E hB => ?_
  refine bX9_tell_0 E sh14 (by rw [hc]; exact c_within (by omega)) fun v μ1 h => ?_
  obtain ⟨rfl, rfl⟩ := h
  refine bX9_tell_8 E sh14 (fun _ => ?_) (fun c => by rw [bz] at c; exact absurd (inN_nI hi (by omega)) c)
  have e0 : ix (nI i * nI 5) = i * 5 := by rw [nI_mul, ix_nI (by omega)]
  have e1 : ix (nI i * nI 5 + nI 1) = i * 5 + 1 := by rw [nI_mul, nI_add, ix_nI (by omega)]
  have e2 : ix (nI i * nI 5 + nI 2) = i * 5 + 2 := by rw [nI_mul, nI_add, ix_nI (by omega)]
  have e3 : ix (nI i * nI 5 + nI 3) = i * 5 + 3 := by rw [nI_mul, nI_add, ix_nI (by omega)]
  have e4 : ix (nI i * nI 5 + nI 4) = i * 5 + 4 := by rw [nI_mul, nI_add, ix_nI (by omega)]
  have a0 : 0 < nOf k → μ1 34 (ix (nI i * nI 5)) = nI (l.getD 0 0) := fun h => by rw [e0]; exact i2 0 h
  have a1 : 1 < nOf k → μ1 34 (ix (nI i * nI 5 + nI 1)) = nI (l.getD 1 0) := fun h => by rw [e1]; exact i2 1 h
  have a2 : 2 < nOf k → μ1 34 (ix (nI i * nI 5 + nI 2)) = nI (l.getD 2 0) := fun h => by rw [e2]; exact i2 2 h
  have a3 : 3 < nOf k → μ1 34 (ix (nI i * nI 5 + nI 3)) = nI (l.getD 3 0) := fun h => by rw [e3]; exact i2 3 h
  have a4 : 4 < nOf k → μ1 34 (ix (nI i * nI 5 + nI 4)) = nI (l.getD 4 0) := fun h => by rw [e4]; exact i2 4 h
  have kk : ∀ j, j < 10 → μ1 33 (ix (nI i)) = nI j → k = j := fun j hj c => by
    rw [ix_nI (by omega), i1] at c
    exact nI_inj (by omega) (by omega) c
  have vi : ∀ t, t < 5 → vp_in (nI i * nI 5 + nI t) 250 := fun t ht => by rw [nI_mul, nI_add]; exact vin (by omega) (by decide)
  clear i1 i2 e0 e1 e2 e3 e4
  refine bX9_tell_14 E sh14 (by rw [nI_mul]; exact vin (by omega) (by decide)) (vi 1 (by decide)) (vi 2 (by decide)) (vin (by omega) (by decide)) (fun c => ?_)
    (fun c => ?_) (fun c => ?_) (fun c => ?_) (fun c => ?_) (fun c => ?_) (fun c => ?_) (fun c => ?_) (fun c => ?_) (fun c => ?_) (fun c => ?_)
  · rw [ix_nI (by omega), show μ1 33 i = nI k from (I i (k, l) hL).1] at c
    have d : ∀ k, k < 10 → ¬ ((nI k).toInt < 0 ∨ 9 < (nI k).toInt) := by decide +kernel
    exact absurd c (d k hk)
  · obtain rfl := kk 0 (by decide) c
    exact bX9_tell_108 E sh14 (c_addPlace H W) fun v μ2 h => bX9_tell_112 E hB ⟨v, rfl, h⟩
  · obtain rfl := kk 1 (by decide) c
    rw [a0 (by decide), a1 (by decide), a2 (by decide)]
    exact bX9_tell_113 E sh14 (c_setWay H W) fun v μ2 h => bX9_tell_123 E hB ⟨v, rfl, h⟩
  · obtain rfl := kk 2 (by decide) c
    rw [a0 (by decide), a1 (by decide)]
    exact bX9_tell_124 E sh14 (c_addSight H W) fun v μ2 h => bX9_tell_132 E hB ⟨v, rfl, h⟩
  · obtain rfl := kk 3 (by decide) c
    rw [a0 (by decide), a1 (by decide), a2 (by decide)]
    exact bX9_tell_133 E sh14 (vi 3 (by decide)) (vi 4 (by decide)) (by rw [a3 (by decide), a4 (by decide)]; exact c_addChild H W) fun v μ2 h => bX9_tell_159 E hB ⟨v, rfl, h⟩
  · obtain rfl := kk 4 (by decide) c
    rw [a0 (by decide), a1 (by decide)]
    exact bX9_tell_160 E sh14 (c_addBar H W) fun v μ2 h => bX9_tell_168 E hB ⟨v, rfl, h⟩
  · obtain rfl := kk 5 (by decide) c
    rw [a0 (by decide), a1 (by decide)]
    exact bX9_tell_169 E sh14 (c_setLot H W) fun v μ2 h => bX9_tell_177 E hB ⟨v, rfl, h⟩
  · obtain rfl := kk 6 (by decide) c
    rw [a0 (by decide), a1 (by decide)]
    exact bX9_tell_178 E sh14 (c_addSlip H W) fun v μ2 h => bX9_tell_186 E hB ⟨v, rfl, h⟩
  · obtain rfl := kk 7 (by decide) c
    rw [a0 (by decide)]
    exact bX9_tell_187 E sh14 (c_setSpare H W) fun v μ2 h => bX9_tell_193 E hB ⟨v, rfl, h⟩
  · obtain rfl := kk 8 (by decide) c
    rw [a0 (by decide), a1 (by decide)]
    exact bX9_tell_194 E sh14 (c_addMistaken H W) fun v μ2 h => bX9_tell_202 E hB ⟨v, rfl, h⟩
  · obtain rfl := kk 9 (by decide) c
    rw [a0 (by decide), a1 (by decide)]
    exact bX9_tell_203 E sh14 (c_addToRow H W) fun v μ2 h => bX9_tell_211 E hB ⟨v, rfl, h⟩
theorem hsL {X : XT} {P : Option Value → Mu → Prop} {L : List (Nat × List Nat)} (E : Ent Z X mX11_house 0 0) (hB : BodS Z X P) (h50 : L.length ≤ 50) (hk : ∀ kl, kl ∈ L → kl.1 < 10) : ∀ (r A : List (Nat × List Nat)) (D : DD) (μ : Mu), L = A ++ r → HC μ 14 D → WF D → μ 31 2 = nI L.length → IT μ L →
    (∀ μ' i, tF r A.length D = .inl i → Fr (hR 14) μ μ' → P (some (.int (-1000 - nI i))) μ') →
    (∀ μ' E, tF r A.length D = .inr E → HC μ' 14 E → Fr (hR 14) μ μ' → JS Z X 67 [(0, .ref (Z.2.2.1 + 0))] [] μ') →
    JS Z X 27 [(0, .ref (Z.2.2.1 + 0)), (2, .int (nI A.length))] [] μ
  | [], A, D, μ, hL, H, W, hc, I, kb, kg => by
    rw [List.append_nil] at hL
    refine bX11_house_27 E (fun _ => kg μ D rfl H Fr.rf) (fun c => absurd (by rw [hc, hL, nI_leE (by rw [← hL]; omega) (by rw [← hL]; omega)]; omega) c)
  | (k, l) :: r, A, D, μ, hL, H, W, hc, I, kb, kg => by
    have hl : L.length = A.length + (r.length + 1) := by rw [hL]; simp
    have hLi : L[A.length]? = some (k, l) := by rw [hL, List.getElem?_append_right (Nat.le_refl _), Nat.sub_self]; rfl
    refine bX11_house_27 E (fun c => by rw [hc, nI_leE (by omega) (by omega)] at c; omega) (fun _ => ?_)
    refine bX11_house_38 E (c_tell hLi h50 (hk (k, l) (by rw [hL]; simp)) hc I H W) fun v μ1 h => ?_
    obtain ⟨rfl, h1, h2⟩ := h
    refine bX11_house_50 E (fun c => bX11_house_61 E ?_) (fun c => bX11_house_55 E hB (kb μ1 A.length (by show (if _ then _ else _) = _; rw [if_neg c]) h2))
    rw [nI_add]
    have hA : (A ++ [(k, l)]).length = A.length + 1 := by simp
    rw [← hA]
    have e31 := h2 31 (by decide)
    have e33 := h2 33 (by decide)
    have e34 := h2 34 (by decide)
    refine hsL E hB h50 hk r (A ++ [(k, l)]) _ μ1 (by rw [hL]; simp) h1 (WF_tl W) (by rw [e31]; exact hc) (fun i kl hkl => by rw [e33, e34]; exact I i kl hkl) (fun μ' i hi h3 => ?_) (fun μ' E' hi h3 h4 => ?_)
    · exact kb μ' i (by show (if _ then _ else _) = _; rw [if_pos c, ← hA]; exact hi) (fun a ha => by rw [h3 a ha, h2 a ha])
    · exact kg μ' E' (by show (if _ then _ else _) = _; rw [if_pos c, ← hA]; exact hi) h3 (fun a ha => by rw [h4 a ha, h2 a ha])
theorem RepC.rd {μ' : Mu} (R : RepC μ D im tx s f) (h : RdC μ μ') : RepC μ' D im tx s f := by
  obtain ⟨r1, r2, r3, r4, r5, r6, r7⟩ := R
  have e : ∀ a, a ≠ 31 → a ≠ 33 → a ≠ 34 → μ' a = μ a := h.1
  refine ⟨r1.fr fun k hk => e _ (by omega) (by omega) (by omega), r2.fr fun k hk => e _ (by omega) (by omega) (by omega), by rw [e _ (by decide) (by decide) (by decide)]; exact r3, ⟨by rw [h.2]; exact r4.1, by rw [e _ (by decide) (by decide) (by decide)]; exact r4.2⟩, ⟨r5.1.congr (e _ (by decide) (by decide) (by decide)) (e _ (by decide) (by decide) (by decide)), r5.2.congr (e _ (by decide) (by decide) (by decide)) (e _ (by decide) (by decide) (by decide))⟩, fun i hi => ?_, r7.fr fun a h1 h2 => e a (by omega) (by omega) (by omega)⟩
  rw [e _ (by decide) (by decide) (by decide)]
  refine ⟨(r6 i hi).1, fun E hE => ?_⟩
  have := (r6 i hi).2 E hE
  have e1 : el 35 i = 37 + 17 * i := rfl
  have e2 : el 36 i = 50 + 17 * i := rfl
  exact ⟨this.1.fr fun k hk => e _ (by rw [e1]; omega) (by rw [e1]; omega) (by rw [e1]; omega), this.2.fr fun k hk => e _ (by rw [e2]; omega) (by rw [e2]; omega) (by rw [e2]; omega)⟩
theorem x_house (R : RepC μ D im tx s f) (O : OkS D im tx) : CtrS Z mX11_house [xrf Z] μ (rI fun v μ' => v = (oHouse D tx).1 ∧ RepC μ' (oHouse D tx).2 im tx s f ∧ FrX μ μ') := by
  have T : TXC μ tx.2 tx.1 := ⟨R.2.2.2.1.1, O.2.2.1, R.2.2.2.1.2, O.2.2.2⟩
  refine CtrS.intro (by decide +kernel) (Nat.le_of_ble_eq_true rfl) rfl fun X E hB => ?_
  refine bX11_house_0 E (c_findFault T) fun v μ1 h => ?_
  obtain ⟨h1, h2⟩ := h
  have R1 := R.rd h1
  have F1 : FrX μ μ1 := fun a ha => h1.1 a (by omega) (by omega) (by omega)
  cases hp : prs tx.2 tx.1 51 0 with
  | inl x =>
    rw [hp] at h2
    obtain rfl : v = nI x := h2
    have hx : x ≤ 300 := Nat.le_trans (prs_x 51 (Nat.zero_le _) hp) O.2.2.1
    refine bX11_house_7 E (fun c => ?_) (fun _ => bX11_house_13 E hB ?_)
    · have d : ∀ x, x ≤ 300 → ¬ nI x = -1 := by decide +kernel
      exact absurd c (d x hx)
    · refine ⟨_, rfl, ?_, ?_, F1⟩
      · unfold oHouse; rw [hp]
      · unfold oHouse; rw [hp]; exact R1
  | inr L =>
    rw [hp] at h2
    obtain ⟨rfl, hc, I⟩ := h2
    have hb := prs_b 51 (Nat.zero_le _) hp
    have hb1 := hb.1
    have he := O.2.2.1
    have h50 : L.length ≤ 50 := by omega
    refine bX11_house_7 E (fun _ => ?_) (fun c => absurd rfl c)
    refine bX11_house_18 E (c_empty sh14) fun μ2 h3 => ?_
    refine bX11_house_25 E ?_
    have e31 := h3.2 31 (by decide)
    refine hsL E hB h50 (fun kl hkl => (hb.2 kl hkl).1) L [] D0 μ2 rfl h3.1 WF_0 (by rw [e31]; exact hc) (fun i kl hkl => by rw [h3.2 33 (by decide), h3.2 34 (by decide)]; exact I i kl hkl) (fun μ' i hi h4 => ?_) (fun μ' E' hi h4 h5 => ?_)
    · have h6 : Fr (hR 14) μ1 μ' := fun a ha => by rw [h4 a ha, h3.2 a ha]
      refine ⟨_, rfl, ?_, ?_, fun a ha => ?_⟩
      · unfold oHouse
        rw [hp]
        show _ = (match tF L 0 D0 with | .inl i => (-1000 - nI i, D) | .inr E => (nI L.length, mg D E)).1
        rw [show tF L 0 D0 = .inl i from hi]
      · unfold oHouse
        rw [hp]
        show RepC μ' (match tF L 0 D0 with | .inl i => (-1000 - nI i, D) | .inr E => (nI L.length, mg D E)).2 im tx s f
        rw [show tF L 0 D0 = .inl i from hi]
        refine R1.step h6 (fun a ha => ?_) (R1.1.fr fun k hk => h6 _ (by simp; omega)) (R1.2.1.fr fun k hk => h6 _ (by simp; omega)) (by rw [h6 _ (by decide)]; exact R1.2.2.1)
        simp only [hR, List.mem_cons, List.not_mem_nil, or_false] at ha
        omega
      · rw [h6 a (by simp; omega), F1 a ha]
    · have h6 : Fr (hR 14) μ1 μ' := fun a ha => by rw [h5 a ha, h3.2 a ha]
      have WE := WF_tF L 0 D0 E' WF_0 hi
      refine bX11_house_67 E (c_hcopy sh1 h4 WE (by omega)) fun μ3 h7 => ?_
      refine bX11_house_78 E hB ?_
      have e3 : ∀ a, 27 ≤ a → μ3 a = μ1 a := fun a ha => by rw [h7.2 a (by simp; omega), h6 a (by simp; omega)]
      refine ⟨_, rfl, ?_, ?_, fun a ha => ?_⟩
      · unfold oHouse
        rw [hp]
        show _ = (match tF L 0 D0 with | .inl i => (-1000 - nI i, D) | .inr E => (nI L.length, mg D E)).1
        rw [show tF L 0 D0 = .inr E' from hi, e3 31 (by decide)]
        exact hc
      · unfold oHouse
        rw [hp]
        show RepC μ3 (match tF L 0 D0 with | .inl i => (-1000 - nI i, D) | .inr E => (nI L.length, mg D E)).2 im tx s f
        rw [show tF L 0 D0 = .inr E' from hi]
        have hF : Fr (hR 1 ++ hR 14) μ1 μ3 := fun a ha => by
          rw [List.mem_append, not_or] at ha
          rw [h7.2 a ha.1, h6 a ha.2]
        refine R1.step hF (fun a ha => ?_) (h7.1.congrD fun k hk => if_pos hk) ((R1.2.1.fr fun k hk => e3 _ (by omega)).congrD fun k h1 h2 => if_neg (by omega)) (by rw [e3 _ (by decide)]; exact R1.2.2.1)
        simp only [hR, List.mem_cons, List.mem_append, List.not_mem_nil, or_false] at ha
        omega
      · rw [e3 a (by omega), F1 a ha]
end TELLS
