/-! MEANS: of one riddle, of a hunt, on both sides -/
/-- what none has it for, minute by minute, in parts of a million to the k -/
def rd (ms : Nat) : Nat → Nat
  | 0 => 1
  | k + 1 => rd ms k * 1000000 + ms ^ (k + 1)
def rs (ms : Nat) : Nat → Nat
  | 0 => 0
  | k + 1 => rs ms k + ms ^ k * 1000000 ^ (5 - k)
theorem pow_six {ms : Nat} (h : ms ≤ 1000000) (k : Nat) : ms ^ k ≤ 1000000 ^ k := Nat.pow_le_pow_left h k
theorem rd_le {ms : Nat} (h : ms ≤ 1000000) : ∀ k, rd ms k ≤ (k + 1) * 1000000 ^ k
  | 0 => Nat.le_refl 1
  | k + 1 => by
    have := rd_le h k
    have h2 := pow_six h (k + 1)
    rw [rd]
    refine Nat.le_trans (Nat.add_le_add (Nat.mul_le_mul_right _ this) h2) (Nat.le_of_eq ?_)
    rw [Nat.add_mul (k + 1) 1, Nat.one_mul, Nat.pow_succ, Nat.mul_assoc]
theorem rs_rd (ms : Nat) : ∀ k, k ≤ 5 → rs ms (k + 1) = rd ms k * 1000000 ^ (5 - k)
  | 0, _ => by simp [rs, rd]
  | k + 1, hk => by
    rw [rs, rs_rd ms k (by omega), rd, show 5 - k = (5 - (k + 1)) + 1 by omega, Nat.pow_succ, Nat.add_mul]
    congr 1
    rw [Nat.mul_assoc, Nat.mul_comm 1000000]
/-- mean minutes of the riddles of an order; of all -/
def rdS (D : DD) (l : Nat) (q : Nat → Nat) : Nat → Nat
  | 0 => 0
  | i + 1 => rdS D l q i + rd (hMs D l q i) (D 13 0 - 1)
def lenN (D : DD) (l : Nat) (q : Nat → Nat) (n : Nat) : Nat := rdS D l q n + 1000000 ^ (D 13 0 - 1) * hWk D q n n
theorem hMs_le {D : DD} {l : Nat} {q : Nat → Nat} {i : Nat} : hMs D l q i ≤ 1000000 := miss_le 6
theorem rdS_le {D : DD} (WW : WN D) {l : Nat} {q : Nat → Nat} : ∀ i, rdS D l q i ≤ i * (6 * 1000000 ^ (D 13 0 - 1))
  | 0 => Nat.zero_le _
  | i + 1 => by
    have h := rdS_le WW (l := l) (q := q) i
    have g := rd_le (hMs_le (D := D) (l := l) (q := q) (i := i)) (D 13 0 - 1)
    have h6 := WW.1.2.1
    have g2 : (D 13 0 - 1 + 1) * 1000000 ^ (D 13 0 - 1) ≤ 6 * 1000000 ^ (D 13 0 - 1) := Nat.mul_le_mul_right _ (by omega)
    rw [rdS, Nat.add_mul, Nat.one_mul]
    omega
theorem mil_le {D : DD} (WW : WN D) : 1000000 ^ (D 13 0 - 1) ≤ 10 ^ 30 := Nat.le_trans (Nat.pow_le_pow_right (by decide) (show D 13 0 - 1 ≤ 5 by have := WW.1.2.1; omega)) (by decide)
section MEANS
variable {Z : ZT} {μ : Mu} {D : DD} {im : Nat → Option DD} {tx : TX} {s : Nat → Int32} {f : Nat × Nat}
/-- the means begun -/
def MB (μ : Mu) (D : DD) : Prop := μ 92 2 = nI (6 * (D 13 0 - 1)) ∧ BigV μ 93 (1000000 ^ (D 13 0 - 1)) ∧ BigV μ 95 (1000000 ^ (D 13 0 - 1) * D 13 1)
abbrev MBS : List Nat := [92, 93, 94, 95, 96]
theorem c_begin (N : NC μ 27 D) (WW : WN D) (q : SC μ) : CtrS Z mX5_begin [rf Z 92] μ (rV fun μ' => MB μ' D ∧ SC μ' ∧ Fr MBS μ μ') := by
  refine CtrS.intro (by decide +kernel) (Nat.le_of_ble_eq_true rfl) rfl fun X E hB => ?_
  have h0 := N.2.2.1 0 (by omega)
  have h1 := N.2.2.1 1 (by omega)
  have hp := WW.1.1
  have h6 := WW.1.2.1
  have hg := WW.1.2.2.1
  have b30 : (10 : Nat) ^ 30 * 1000 < 1073741824 ^ 24 := by decide
  refine bX5_begin_0 E (vin (by omega) (by omega)) ?_
  rw [ix_nI (by omega), show μ (27 + 1) 0 = _ from h0, nI_sub (by omega), nI_mul]
  generalize hμ1 : uR μ 92 (upd (μ 92) 2 (nI (6 * (D 13 0 - 1)))) = μ1
  have F1 : Fr MBS μ μ1 := by rw [← hμ1]; exact Fr.uR (by decide)
  have q1 : SC μ1 := q.nob (by rw [← hμ1]; exact Fr.uR (S := [92]) (by decide)) (by decide) (fun p hp hq => by have := SH_all (P := fun o => SH o = .inl 0 → o + 1 ≠ 92) (by decide +kernel) hp hp; omega) (by decide)
  have t1 : μ1 92 2 = nI (6 * (D 13 0 - 1)) := by rw [← hμ1, uR_s, pk_us]
  refine bX5_begin_20 E (q_set q1 (GB.of rfl (by decide)) (by decide)) fun μ2 g => bX5_begin_28 E ?_
  obtain ⟨g1, g2, g3⟩ := g
  have loop : ∀ k m μ3, m + k = D 13 0 → 1 ≤ m → BigV μ3 93 (1000000 ^ (m - 1)) → SC μ3 → Fr MBS μ μ3 → μ3 92 2 = nI (6 * (D 13 0 - 1)) → JS Z X 30 [(0, rf Z 92), (1, .int (nI (D 13 0))), (2, .int (nI m))] [] μ3 := by
    intro k
    induction k with
    | zero =>
      intro m μ3 hm h1m hv hq hF ht
      have : m = D 13 0 := hm
      subst this
      have N3 : NC μ3 27 D := N.fr fun x hx => hF _ (by simp; omega)
      refine bX5_begin_30 E (fun _ => ?_) (fun c => absurd (by rw [nI_leE (by omega) (by omega)]; omega) c)
      refine bX5_begin_50 E (q_set hq (GB.of rfl (by decide)) (by decide)) fun μ4 k => ?_
      obtain ⟨k1, k2, k3⟩ := k
      have N4 : NC μ4 27 D := N3.fr fun x hx => k3 _ (by simp; omega)
      have l30 := mil_le WW
      refine bX5_begin_58 E (vin (by omega) (by omega)) (by rw [ix_nI (by omega), show μ4 (27 + 1) 1 = _ from N4.2.2.1 1 (by omega)]; exact q_addTimes k2 (GB.of rfl (by decide)) k1 (hv.ot k3 rfl (by decide)) (by decide) (by omega) (by have := Nat.mul_le_mul l30 hg; omega)) fun μ5 k => ?_
      obtain ⟨k4, k5, k6⟩ := k
      rw [Nat.zero_add] at k4
      refine bX5_begin_78 E hB ⟨rfl, ⟨?_, (hv.ot k3 rfl (by decide)).ot k6 rfl (by decide), k4⟩, k5, (hF.tr (k3.mo (by decide))).tr (k6.mo (by decide))⟩
      rw [k6 _ (by decide), k3 _ (by decide)]; exact ht
    | succ k ih =>
      intro m μ3 hm h1m hv hq hF ht
      have l := Nat.pow_le_pow_right (show 0 < 1000000 by decide) (show m - 1 ≤ 5 by omega)
      refine bX5_begin_30 E (fun c => absurd c (by rw [nI_leE (by omega) (by omega)]; omega)) (fun _ => ?_)
      refine bX5_begin_35 E (q_times hq (GB.of rfl (by decide)) hv (by decide) (Nat.lt_of_le_of_lt (Nat.mul_le_mul_right _ l) (by decide))) fun μ4 k => bX5_begin_44 E ?_
      obtain ⟨k1, k2, k3⟩ := k
      rw [nI_add]
      exact ih (m + 1) μ4 (by omega) (by omega) (by rw [show 1000000 ^ (m - 1) * 1000000 = 1000000 ^ (m - 1 + 1) from rfl, show m - 1 + 1 = m + 1 - 1 by omega] at k1; exact k1) k2 (hF.tr (k3.mo (by decide))) (by rw [k3 _ (by decide)]; exact ht)
  exact loop (D 13 0 - 1) 1 μ2 (by omega) (by omega) g1 g2 (F1.tr (g3.mo (by decide))) (by rw [g3 _ (by decide)]; exact t1)
theorem rd_big {D : DD} (WW : WN D) {ms k : Nat} (h : ms ≤ 1000000) (hk : k ≤ 5) : rd ms k ≤ 10 ^ 31 := by
  have g := rd_le h k
  have l := Nat.pow_le_pow_right (show 0 < 1000000 by decide) hk
  have := Nat.mul_le_mul (show k + 1 ≤ 6 by omega) l
  have e : (6 : Nat) * 1000000 ^ 5 ≤ 10 ^ 31 := by decide
  omega
theorem c_ofRiddle {o ms : Nat} (ho : GB o) (hne : o ≠ 97) (N : NC μ 27 D) (WW : WN D) (hd : 30 < o) (q : SC μ) (hm' : ms ≤ 1000000) : CtrS Z mX5_ofRiddle [rf Z 92, rf Z o, .int (nI ms)] μ (rV fun μ' => BigV μ' o (rd ms (D 13 0 - 1)) ∧ SC μ' ∧ Fr [o, o + 1, 97, 98] μ μ') := by
  refine CtrS.intro (by decide +kernel) (Nat.le_of_ble_eq_true rfl) rfl fun X E hB => ?_
  have hp := WW.1.1
  have h6 := WW.1.2.1
  have gp : GB 97 := GB.of rfl (by decide)
  have b31 : (10 : Nat) ^ 31 * 1000000 + 10 ^ 30 < 1073741824 ^ 24 := by decide
  refine bX5_ofRiddle_0 E ho.1 (q_set q ho (by decide)) fun μ1 g => ?_
  obtain ⟨g1, g2, g3⟩ := g
  refine bX5_ofRiddle_5 E ho.1 (q_set g2 gp (by decide)) fun μ2 g => bX5_ofRiddle_13 E ho.1 ?_
  obtain ⟨g4, g5, g6⟩ := g
  have loop : ∀ k m μ3, m + 1 + k = D 13 0 → BigV μ3 o (rd ms m) → BigV μ3 97 (ms ^ m) → SC μ3 → Fr [o, o + 1, 97, 98] μ μ3 → JS Z X 15 [(0, rf Z 92), (1, rf Z o), (2, .int (nI ms)), (3, .int (nI (m + 1)))] [] μ3 := by
    intro k
    induction k with
    | zero =>
      intro m μ3 hm h1 h2 h3 hF
      have hm : m + 1 = D 13 0 := hm
      have N3 : NC μ3 27 D := N.fr fun x hx => hF _ (by simp; omega)
      refine bX5_ofRiddle_15 E ho.1 (vin (by omega) (by omega)) (fun _ => ?_) (fun c => absurd (by rw [ix_nI (by omega), show μ3 (27 + 1) 0 = _ from N3.2.2.1 0 (by omega), nI_leE (by omega) (by omega)]; omega) c)
      exact bX5_ofRiddle_57 E hB ⟨rfl, by rw [show D 13 0 - 1 = m by omega]; exact h1, h3, hF⟩
    | succ k ih =>
      intro m μ3 hm h1 h2 h3 hF
      have N3 : NC μ3 27 D := N.fr fun x hx => hF _ (by simp; omega)
      have p1 := pow_six hm' m
      have l := Nat.pow_le_pow_right (show 0 < 1000000 by decide) (show m ≤ 5 by omega)
      have p2 := pow_six hm' (m + 1)
      have l2 := Nat.pow_le_pow_right (show 0 < 1000000 by decide) (show m + 1 ≤ 5 by omega)
      have b := rd_big WW hm' (show m ≤ 5 by omega)
      have e30 : (1000000 : Nat) ^ 5 = 10 ^ 30 := by decide
      refine bX5_ofRiddle_15 E ho.1 (vin (by omega) (by omega)) (fun c => absurd c (by rw [ix_nI (by omega), show μ3 (27 + 1) 0 = _ from N3.2.2.1 0 (by omega), nI_leE (by omega) (by omega)]; omega)) (fun _ => ?_)
      refine bX5_ofRiddle_28 E ho.1 (q_times h3 gp h2 (by omega) (by rw [show ms ^ m * ms = ms ^ (m + 1) from rfl]; exact Nat.lt_of_le_of_lt (Nat.le_trans p2 l2) (by decide))) fun μ4 k => ?_
      obtain ⟨k1, k2, k3⟩ := k
      rw [show ms ^ m * ms = ms ^ (m + 1) from rfl] at k1
      refine bX5_ofRiddle_36 E ho.1 (q_times k2 ho (h1.ot k3 rfl hne) (by decide) (Nat.lt_of_le_of_lt (Nat.mul_le_mul_right 1000000 b) (by decide))) fun μ5 k => ?_
      obtain ⟨k4, k5, k6⟩ := k
      refine bX5_ofRiddle_42 E ho.1 (q_addTimes k5 ho k4 (k1.ot k6 ho.1 (Ne.symm hne)) hne (by decide) (by rw [Nat.mul_one]; exact Nat.lt_of_le_of_lt (Nat.add_le_add (Nat.mul_le_mul_right 1000000 b) (Nat.le_trans p2 l2)) (by decide))) fun μ6 k => bX5_ofRiddle_51 E ho.1 ?_
      obtain ⟨k7, k8, k9⟩ := k
      rw [Nat.mul_one] at k7
      rw [nI_add]
      exact ih (m + 1) μ6 (by omega) k7 ((k1.ot k6 ho.1 (Ne.symm hne)).ot k9 ho.1 (Ne.symm hne)) k8 (((hF.tr (k3.mo (by simp))).tr (k6.mo (by simp))).tr (k9.mo (by simp)))
  exact loop (D 13 0 - 1) 0 μ2 (by omega) (g1.ot g6 rfl hne) g4 g5 ((g3.mo (by simp)).tr (g6.mo (by simp)))
theorem c_ofRiddles {o h l n : Nat} {q : Nat → Nat} (ho : GB o) (hd : 30 < o) (n1 : o ≠ 97) (n2 : o ≠ 99) (hh : SH h = .inl 4) (hh2 : h ≤ 85) (N : NC μ 27 D) (WW : WN D) (sc : SC μ) (Q : QO D q n) (T : HQ μ h l q n) (L : HLd μ h D l q n n) : CtrS Z mX5_ofRiddles [rf Z 92, rf Z o, rf Z h] μ (rV fun μ' => BigV μ' o (rdS D l q n) ∧ SC μ' ∧ Fr [o, o + 1, 97, 98, 99, 100] μ μ') := by
  refine CtrS.intro (by decide +kernel) (Nat.le_of_ble_eq_true rfl) rfl fun X E hB => ?_
  have n6 := Q.1
  have og : 93 ≤ o := big_ge ho.1
  have b31 : (6 : Nat) * (6 * 10 ^ 30) + 10 ^ 31 < 1073741824 ^ 24 := by decide
  have l30 := mil_le WW
  have loop : ∀ k i μ1, i + k = n → BigV μ1 o (rdS D l q i) → SC μ1 → Fr [o, o + 1, 97, 98, 99, 100] μ μ1 → JS Z X 7 [(0, rf Z 92), (1, rf Z o), (2, rf Z h), (3, .int (nI i))] [] μ1 := by
    intro k
    induction k with
    | zero =>
      intro i μ1 hi h1 h2 hF
      have : i = n := hi
      subst this
      refine bX5_ofRiddles_7 E ho.1 hh (fun _ => ?_) (fun c => absurd (by rw [hF h (by simp; omega), T.2.1, nI_leE (by omega) (by omega)]; omega) c)
      exact bX5_ofRiddles_44 E hB ⟨rfl, h1, h2, hF⟩
    | succ k ih =>
      intro i μ1 hi h1 h2 hF
      have N1 : NC μ1 27 D := N.fr fun x hx => hF _ (by simp; omega)
      have ms := hMs_le (D := D) (l := l) (q := q) (i := i)
      have b := rd_big WW ms (show D 13 0 - 1 ≤ 5 by have := WW.1.2.1; omega)
      have b2 := rdS_le WW (l := l) (q := q) i
      have b3 : i * (6 * 1000000 ^ (D 13 0 - 1)) ≤ 6 * (6 * 10 ^ 30) := Nat.mul_le_mul (by omega) (Nat.mul_le_mul_left _ l30)
      refine bX5_ofRiddles_7 E ho.1 hh (fun c => absurd c (by rw [hF h (by simp; omega), T.2.1, nI_leE (by omega) (by omega)]; omega)) (fun _ => ?_)
      refine bX5_ofRiddles_15 E ho.1 hh (vin (by omega) (by omega)) (by rw [ix_nI (by omega), hF (h + 3) (by simp; omega), (L.2.2 i (by omega)).2.1]; exact c_ofRiddle (o := 99) (GB.of rfl (by decide)) (by decide) N1 WW (by decide) h2 ms) fun μ2 g => ?_
      obtain ⟨g1, g2, g3⟩ := g
      have oo : BigV μ2 o (rdS D l q i) := by
        have a1 := big_ne (show SH 99 = .inl 0 from rfl) ho.1
        have a2 := big_ne ho.1 (show SH 99 = .inl 0 from rfl)
        have a3 := big_ne (show SH 97 = .inl 0 from rfl) ho.1
        have a4 := big_ne ho.1 (show SH 97 = .inl 0 from rfl)
        exact h1.fr g3 (by simp; omega) (by simp; omega)
      refine bX5_ofRiddles_29 E ho.1 hh (q_addTimes g2 ho oo g1 n2 (by decide) (by omega)) fun μ3 k => bX5_ofRiddles_38 E ho.1 hh ?_
      obtain ⟨k1, k2, k3⟩ := k
      rw [Nat.mul_one] at k1
      rw [nI_add]
      exact ih (i + 1) μ3 (by omega) k1 k2 ((hF.tr (g3.mo (by simp))).tr (k3.mo (by simp)))
  refine bX5_ofRiddles_0 E ho.1 hh (q_set sc ho (by decide)) fun μ1 g => bX5_ofRiddles_5 E ho.1 hh ?_
  exact loop n 0 μ1 (by omega) g.1 g.2.1 (g.2.2.mo (by simp))
theorem lenN_le {l n : Nat} {q : Nat → Nat} (WW : WN D) (hn : n ≤ 6) : lenN D l q n ≤ 10 ^ 37 := by
  have b2 := rdS_le WW (l := l) (q := q) n
  have l30 := mil_le WW
  have b3 : n * (6 * 1000000 ^ (D 13 0 - 1)) ≤ 6 * (6 * 10 ^ 30) := Nat.mul_le_mul hn (Nat.mul_le_mul_left _ l30)
  have w := hWk_le (D := D) (q := q) (n := n) n
  have b4 : 1000000 ^ (D 13 0 - 1) * hWk D q n n ≤ 10 ^ 30 * 600000 := Nat.mul_le_mul l30 (by omega)
  have e : (6 : Nat) * (6 * 10 ^ 30) + 10 ^ 30 * 600000 ≤ 10 ^ 37 := by decide
  unfold lenN
  omega
theorem c_ofLength {o h l n : Nat} {q : Nat → Nat} (ho : GB o) (hd : 100 < o) (hh : SH h = .inl 4) (hh2 : h ≤ 85) (N : NC μ 27 D) (WW : WN D) (sc : SC μ) (B : MB μ D) (Q : QO D q n) (T : HQ μ h l q n) (L : HLd μ h D l q n n) : CtrS Z mX5_ofLength [rf Z 92, rf Z o, rf Z h] μ (rV fun μ' => BigV μ' o (lenN D l q n) ∧ SC μ' ∧ Fr [o, o + 1, 97, 98, 99, 100] μ μ') := by
  refine CtrS.intro (by decide +kernel) (Nat.le_of_ble_eq_true rfl) rfl fun X E hB => ?_
  have n6 := Q.1
  have w := hWk_le (D := D) (q := q) (n := n) n
  refine bX5_ofLength_0 E ho.1 hh (c_ofRiddles ho (by omega) (by omega) (by omega) hh hh2 N WW sc Q T L) fun μ1 g => ?_
  obtain ⟨g1, g2, g3⟩ := g
  have ll := lenN_le (l := l) (q := q) WW n6
  have e37 : (10 : Nat) ^ 37 < 1073741824 ^ 24 := by decide
  have u := B.2.1.fr g3 (by simp; omega) (by simp; omega)
  refine bX5_ofLength_6 E ho.1 hh (by rw [g3 h (by simp; omega), L.1]; exact q_addTimes g2 ho g1 u (by omega) (by omega) (Nat.lt_of_le_of_lt ll e37)) fun μ2 k => ?_
  exact bX5_ofLength_18 E hB ⟨rfl, k.1, k.2.1, g3.tr (k.2.2.mo (by simp))⟩
end MEANS
