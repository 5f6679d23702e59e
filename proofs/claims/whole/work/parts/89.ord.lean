/-! ORDERS: sorted, the next, kept; on both sides -/
section ORD
variable {Z : ZT} {μ : Mu} {D : DD} {im : Nat → Option DD} {tx : TX} {s : Nat → Int32} {f : Nat × Nat}
theorem HQ.c {o l n : Nat} {q q' : Nat → Nat} (h : HQ μ o l q n) (e : ∀ j, j < n → q j = q' j) : HQ μ o l q' n := ⟨h.1, h.2.1, fun i hi => by rw [← e i hi]; exact h.2.2 i hi⟩
theorem RowQ.c {n : Nat} {q q' : Nat → Nat} (h : RowQ μ q n) (e : ∀ j, j < n → q j = q' j) : RowQ μ q' n := ⟨h.1, fun i hi => by rw [← e i hi]; exact h.2 i hi⟩
theorem swp_ins {a : Nat → Nat} {j v x : Nat} : swp (uN a (j + 1) v) j (j + 1) x = uN (uN a (j + 1) (a j)) j v x := by
  rw [swp_j]
  unfold uN
  by_cases c : x = j + 1
  · subst c; simp
  · by_cases d : x = j
    · subst d; simp
    · simp [c, d]
theorem c_exchange {o l n a b : Nat} {q : Nat → Nat} (ho : SH o = .inl 4) (T : HQ μ o l q n) (hn : n ≤ 6) (ha : a < n) (hb : b < n) : CtrS Z mX4_exchange [rf Z o, .int (nI a), .int (nI b)] μ (rV fun μ' => HQ μ' o l (swp q a b) n ∧ Fr [o + 1] μ μ') := by
  refine CtrS.intro (by decide +kernel) (Nat.le_of_ble_eq_true rfl) rfl fun X E hB => ?_
  have av : vp_in (nI a) 6 := vin (by omega) (by omega)
  have bv : vp_in (nI b) 6 := vin (by omega) (by omega)
  refine bX4_exchange_0 E ho av bv av (bX4_exchange_19 E ho bv (bX4_exchange_26 E hB ⟨rfl, ?_, (Fr.uR (by simp)).tr (Fr.uR (by simp))⟩))
  rw [ix_nI (by omega), ix_nI (show b < 2147483648 by omega), uR_s, uR_uR]
  refine ⟨by rw [uR_n (by omega)]; exact T.1, by rw [uR_n (by omega)]; exact T.2.1, fun i hi => ?_⟩
  rw [uR_s, swp_j]
  by_cases c : i = b
  · subst c; rw [pk_us, if_pos rfl]; exact T.2.2 a ha
  · rw [pk_un c, if_neg c]
    by_cases d : i = a
    · subst d; rw [pk_us, if_pos rfl]; exact T.2.2 b hb
    · rw [pk_un d, if_neg d]; exact T.2.2 i hi
theorem c_sortSlips {o l n : Nat} {q : Nat → Nat} (ho : SH o = .inl 4) (T : HQ μ o l q n) (Q : QO D q n) (W : WF D) : CtrS Z mX4_sortSlips [rf Z o] μ (rV fun μ' => HQ μ' o l (sF q n) n ∧ Fr [o + 1] μ μ') := by
  refine CtrS.intro (by decide +kernel) (Nat.le_of_ble_eq_true rfl) rfl fun X E hB => ?_
  have hn := Q.1
  have hS := W.2.2.1
  have loop : ∀ k i μ1, n ≤ i + k → (i ≤ n ∨ n = 0) → HQ μ1 o l (sF q i) n → Fr [o + 1] μ μ1 → i < 8 → JS Z X 2 [(0, rf Z o), (1, .int (nI i))] [] μ1 := by
    intro k
    induction k with
    | zero =>
      intro i μ1 hk hi h hF h8
      have hk : n ≤ i := hk
      refine bX4_sortSlips_2 E ho (fun _ => bX4_sortSlips_53 E hB ⟨rfl, ?_, hF⟩) (fun c => absurd (by rw [h.2.1, nI_leE (by omega) (by omega)]; omega) c)
      rcases hi with hi | hi
      · obtain rfl : i = n := by omega
        exact h
      · exact h.c fun j hj => by omega
    | succ k ih =>
      intro i μ1 hk hi h hF h8
      by_cases d : n ≤ i
      · refine bX4_sortSlips_2 E ho (fun _ => bX4_sortSlips_53 E hB ⟨rfl, ?_, hF⟩) (fun c => absurd (by rw [h.2.1, nI_leE (by omega) (by omega)]; omega) c)
        rcases hi with hi | hi
        · obtain rfl : i = n := by omega
          exact h
        · exact h.c fun j hj => by omega
      · have Qi := Q.srt i (by omega)
        refine bX4_sortSlips_2 E ho (fun c => absurd c (by rw [h.2.1, nI_leE (by omega) (by omega)]; omega)) (fun _ => bX4_sortSlips_10 E ho ?_)
        have inner : ∀ j a μ2, j ≤ i → (∀ x, x < n → a x < 8) → HQ μ2 o l (uN a j (sF q i i)) n → Fr [o + 1] μ μ2 → (∀ μ3, HQ μ3 o l (insF j a (sF q i i)) n → Fr [o + 1] μ μ3 → JS Z X 47 [(0, rf Z o), (1, .int (nI i))] [] μ3) → JS Z X 12 [(0, rf Z o), (1, .int (nI i)), (2, .int (nI j))] [] μ2 := by
          intro j
          induction j with
          | zero =>
            intro a μ2 _ _ h2 hF2 kk
            exact bX4_sortSlips_12 E ho (fun _ => kk μ2 h2 hF2) (fun c => absurd (by decide) c)
          | succ j ihj =>
            intro a μ2 hj ha h2 hF2 kk
            have e1 : nI (j + 1) - nI 1 = nI j := nI_sub (by omega)
            have r1 := h2.2.2 j (by omega)
            have r2 := h2.2.2 (j + 1) (by omega)
            rw [uN_n (by omega)] at r1
            rw [uN_s] at r2
            have b1 := ha j (by omega)
            have b2 := Qi.2 i (by omega)
            refine bX4_sortSlips_12 E ho (fun c => absurd c (by rw [nI_le0 (by omega)]; omega)) (fun _ => ?_)
            refine bX4_sortSlips_16 E ho (by rw [e1]; exact vin (by omega) (by omega)) (vin (by omega) (by omega)) (fun c => ?_) (fun c => ?_)
            · rw [e1, ix_nI (by omega), ix_nI (by omega), r1, r2, nI_leE (by omega) (by omega)] at c
              exact kk μ2 (by rw [insF, if_pos c]; exact h2) hF2
            · rw [e1, ix_nI (by omega), ix_nI (by omega), r1, r2, nI_leE (by omega) (by omega)] at c
              refine bX4_sortSlips_33 E ho (by rw [e1]; exact c_exchange ho h2 hn (by omega) (by omega)) fun μ3 g => bX4_sortSlips_41 E ho ?_
              rw [nI_suc_m1]
              refine ihj (uN a (j + 1) (a j)) μ3 (by omega) (fun x hx => ?_) (g.1.c fun x _ => swp_ins) (hF2.tr g.2) (fun μ4 k1 k2 => kk μ4 (by rw [insF, if_neg c]; exact k1) k2)
              unfold uN; split
              · exact b1
              · exact ha x hx
        refine inner i (sF q i) μ1 (Nat.le_refl i) (fun x hx => by have := Qi.2 x hx; omega) (h.c fun x _ => ?_) hF (fun μ2 k1 k2 => ?_)
        · unfold uN; split
          · rename_i e; rw [e]
          · rfl
        · refine bX4_sortSlips_47 E ho ?_
          rw [nI_add]
          exact ih (i + 1) μ2 (by omega) (Or.inl (by omega)) k1 k2 (by omega)
  refine bX4_sortSlips_0 E ho (loop 6 1 μ (by omega) (by omega) (by rw [sF_1]; exact T) Fr.rf (by decide))
theorem c_nextOrder {o l n : Nat} {q : Nat → Nat} (ho : SH o = .inl 4) (T : HQ μ o l q n) (Q : QO D q n) (W : WF D) : CtrS Z mX4_nextOrder [rf Z o] μ (rI fun v μ' => v = (if (nxt q n).isSome = true then nI 1 else nI 0) ∧ (∀ q', nxt q n = some q' → HQ μ' o l q' n) ∧ Fr [o + 1] μ μ') := by
  refine CtrS.intro (by decide +kernel) (Nat.le_of_ble_eq_true rfl) rfl fun X E hB => ?_
  have hn := Q.1
  have hS := W.2.2.1
  have lt : ∀ i, i < n → q i < 2147483648 := fun i hi => by have := Q.2 i hi; omega
  have none' : ∀ x : Int32, x < 0 → nxt q n = none → JS Z X 34 [(0, rf Z o), (1, .int x)] [] μ := fun x hx e => by
    rw [e] at hB
    exact bX4_nextOrder_34 E ho (fun c => absurd hx (Int32.not_lt.mpr c)) (fun _ => bX4_nextOrder_38 E hB ⟨_, rfl, rfl, (fun _ h => nomatch h), Fr.rf⟩)
  rcases Nat.eq_zero_or_pos n with n0 | n0
  · refine bX4_nextOrder_0 E ho (bX4_nextOrder_7 E ho (fun _ => ?_) (fun c => absurd (by rw [T.2.1, n0]; decide) c))
    rw [T.2.1, n0]
    exact none' _ (by decide) (by rw [n0]; rfl)
  have rise : ∀ k, k + 1 ≤ n → riseF q (n - 1) = riseF q k → JS Z X 7 [(0, rf Z o), (1, .int (nI k + (-1)))] [] μ := by
    intro k
    induction k with
    | zero =>
      intro hk he
      refine bX4_nextOrder_7 E ho (fun _ => none' _ (by decide) ?_) (fun c => absurd (by decide) c)
      unfold nxt; rw [he]; rfl
    | succ j ih =>
      intro hk he
      rw [nI_suc_m1]
      refine bX4_nextOrder_7 E ho (fun c => absurd c (Int32.not_lt.mpr (nI_pos' (by omega)))) (fun _ => ?_)
      refine bX4_nextOrder_11 E ho (vin (by omega) (by omega)) (by rw [nI_add]; exact vin (by omega) (by omega)) (fun c => ?_) (fun c => ?_)
      · rw [nI_add, ix_nI (by omega), ix_nI (by omega), T.2.2 j (by omega), T.2.2 (j + 1) (by omega), nI_leE (lt _ (by omega)) (lt _ (by omega))] at c
        have hr : riseF q (n - 1) = j + 1 := by rw [he, riseF, if_pos c]
        have hx : nxt q n = some (rvF 6 (swp q j (nxF q j (n - 1))) (j + 1) (n - 1)) := by unfold nxt; rw [hr]
        rw [hx] at hB
        refine bX4_nextOrder_34 E ho (fun _ => bX4_nextOrder_40 E ho ?_) (fun d => absurd (nI_pos' (by omega)) d)
        rw [T.2.1, nI_sub (by omega)]
        have swapped : ∀ m, m < n → nxF q j (n - 1) = m → JS Z X 75 [(0, rf Z o), (1, .int (nI j)), (2, .int (nI m))] [] μ := fun m hm hmx => by
          refine bX4_nextOrder_75 E ho (c_exchange ho T hn (show j < n by omega) hm) fun μ1 g => bX4_nextOrder_81 E ho ?_
          obtain ⟨g1, g2⟩ := g
          rw [g1.2.1, nI_sub (by omega), nI_add]
          have rev : ∀ k a b p μ2, b < n → b ≤ a + k → a ≤ 20 → HQ μ2 o l p n → Fr [o + 1] μ μ2 → (∀ μ3, HQ μ3 o l (rvF k p a b) n → Fr [o + 1] μ μ3 → JS Z X 115 [] [] μ3) → JS Z X 93 [(0, rf Z o), (3, .int (nI a)), (4, .int (nI b))] [] μ2 := by
            intro k
            induction k with
            | zero =>
              intro a b p μ2 hb hab h20 hp hF kk
              exact bX4_nextOrder_93 E ho (fun _ => kk μ2 hp hF) (fun c => absurd (by rw [nI_leE (by omega) (by omega)]; omega) c)
            | succ k ihk =>
              intro a b p μ2 hb hab h20 hp hF kk
              by_cases d : a < b
              · refine bX4_nextOrder_93 E ho (fun c => absurd c (by rw [nI_leE (by omega) (by omega)]; omega)) (fun _ => ?_)
                refine bX4_nextOrder_99 E ho (c_exchange ho hp hn (show a < n by omega) hb) fun μ3 z => bX4_nextOrder_106 E ho ?_
                rw [nI_add, nI_m1 (by omega)]
                exact ihk (a + 1) (b - 1) _ μ3 (by omega) (by omega) (by omega) z.1 (hF.tr z.2) (fun μ4 k1 k2 => kk μ4 (by rw [rvF, if_pos d]; exact k1) k2)
              · exact bX4_nextOrder_93 E ho (fun _ => kk μ2 (by rw [rvF, if_neg d]; exact hp) hF) (fun c => absurd (by rw [nI_leE (by omega) (by omega)]; omega) c)
          refine rev 6 (j + 1) (n - 1) _ μ1 (by omega) (by omega) (by omega) g1 g2 (fun μ3 k1 k2 => ?_)
          exact bX4_nextOrder_115 E hB ⟨_, rfl, rfl, fun q' hq' => by obtain rfl := Option.some.inj hq'; rw [hmx]; exact k1, k2⟩
        have down : ∀ k m, m = j + 1 + k → m < n → nxF q j (n - 1) = nxF q j m → JS Z X 47 [(0, rf Z o), (1, .int (nI j)), (2, .int (nI m))] [] μ := by
          intro k
          induction k with
          | zero =>
            intro m hm hmn hx
            obtain rfl : m = j + 1 := hm
            exact bX4_nextOrder_47 E ho (fun _ => swapped (j + 1) hmn (by rw [hx, nxF, if_pos c])) (fun d => absurd (by rw [nI_add, nI_leE (by omega) (by omega)]; omega) d)
          | succ k ihk =>
            intro m hm hmn hx
            obtain ⟨m', rfl⟩ : ∃ m', m = m' + 1 := ⟨m - 1, by omega⟩
            refine bX4_nextOrder_47 E ho (fun d => absurd d (by rw [nI_add, nI_leE (by omega) (by omega)]; omega)) (fun _ => ?_)
            refine bX4_nextOrder_54 E ho (vin (by omega) (by omega)) (vin (by omega) (by omega)) (fun d => ?_) (fun d => ?_)
            · rw [ix_nI (by omega), ix_nI (by omega), T.2.2 j (by omega), T.2.2 (m' + 1) (by omega), nI_leE (lt _ (by omega)) (lt _ (by omega))] at d
              exact swapped _ hmn (by rw [hx, nxF, if_pos d])
            · rw [ix_nI (by omega), ix_nI (by omega), T.2.2 j (by omega), T.2.2 (m' + 1) (by omega), nI_leE (lt _ (by omega)) (lt _ (by omega))] at d
              refine bX4_nextOrder_69 E ho ?_
              rw [nI_suc_m1]
              exact ihk m' (by omega) (by omega) (by rw [hx, nxF, if_neg d])
        exact down (n - 1 - (j + 1)) (n - 1) (by omega) (by omega) rfl
      · rw [nI_add, ix_nI (by omega), ix_nI (by omega), T.2.2 j (by omega), T.2.2 (j + 1) (by omega), nI_leE (lt _ (by omega)) (lt _ (by omega))] at c
        exact bX4_nextOrder_28 E ho (ih (by omega) (by rw [he, riseF, if_neg c]))
  refine bX4_nextOrder_0 E ho ?_
  have e2 : nI n - nI 2 = nI (n - 1) + (-1) := by
    obtain ⟨n', rfl⟩ : ∃ n', n = n' + 1 := ⟨n - 1, by omega⟩
    show nI (n' + 1) - nI 2 = nI n' + (-1)
    rw [← nI_add n' 1, Int32.sub_eq_add_neg, Int32.add_assoc]
    rfl
  rw [T.2.1, e2]
  exact rise (n - 1) (by omega) rfl
theorem c_keep {o l n : Nat} {q : Nat → Nat} (ho : SH o = .inl 4) (T : HQ μ o l q n) (hn : n ≤ 6) : CtrS Z mX7_keep [rf Z 273, rf Z o] μ (rV fun μ' => (∀ i, i < n → μ' 274 i = nI (q i)) ∧ Fr [274] μ μ') := by
  refine CtrS.intro (by decide +kernel) (Nat.le_of_ble_eq_true rfl) rfl fun X E hB => ?_
  have hh2 := hun_le ho
  have loop : ∀ k i μ1, i + k = n → (∀ j, j < i → μ1 274 j = nI (q j)) → Fr [274] μ μ1 → JS Z X 2 [(0, rf Z 273), (1, rf Z o), (2, .int (nI i))] [] μ1 := by
    intro k
    induction k with
    | zero =>
      intro i μ1 hi h hF
      have : i = n := hi
      subst this
      exact bX7_keep_2 E ho (fun _ => bX7_keep_28 E hB ⟨rfl, h, hF⟩) (fun c => absurd (by rw [hF o (by simp; omega), T.2.1, nI_leE (by omega) (by omega)]; omega) c)
    | succ k ih =>
      intro i μ1 hi h hF
      refine bX7_keep_2 E ho (fun c => absurd c (by rw [hF o (by simp; omega), T.2.1, nI_leE (by omega) (by omega)]; omega)) (fun _ => ?_)
      refine bX7_keep_10 E ho (vin (by omega) (by omega)) (vin (by omega) (by omega)) (bX7_keep_22 E ho ?_)
      rw [ix_nI (by omega), hF (o + 1) (by simp; omega), T.2.2 i (by omega), nI_add]
      refine ih (i + 1) _ (by omega) (fun j hj => ?_) (hF.tr (Fr.uR (by simp)))
      rw [uR_s]
      exact upd_at (fun e => by rw [e]) (fun e => h j (by omega))
  exact bX7_keep_0 E ho (loop n 0 μ (by omega) (fun j hj => absurd hj (Nat.not_lt_zero j)) Fr.rf)
/-! the reference's -/
theorem m_swap {n a b : Nat} {q : Nat → Nat} (T : RowQ μ q n) (hn : n ≤ 6) (ha : a < n) (hb : b < n) : CtrS Z mX12_swap [mrf Z, .int (nI a), .int (nI b)] μ (rV fun μ' => RowQ μ' (swp q a b) n ∧ Fr [462] μ μ') := by
  refine CtrS.intro (by decide +kernel) (Nat.le_of_ble_eq_true rfl) rfl fun X E hB => ?_
  have av : vp_in (nI a) 6 := vin (by omega) (by omega)
  have bv : vp_in (nI b) 6 := vin (by omega) (by omega)
  refine bX12_swap_0 E av bv av (bX12_swap_19 E bv (bX12_swap_26 E hB ⟨rfl, ?_, (Fr.uR (by simp)).tr (Fr.uR (by simp))⟩))
  rw [ix_nI (by omega), ix_nI (show b < 2147483648 by omega), uR_s, uR_uR]
  refine ⟨by rw [uR_n (by decide)]; exact T.1, fun i hi => ?_⟩
  rw [uR_s, swp_j]
  by_cases c : i = b
  · subst c; rw [pk_us, if_pos rfl]; exact T.2 a ha
  · rw [pk_un c, if_neg c]
    by_cases d : i = a
    · subst d; rw [pk_us, if_pos rfl]; exact T.2 b hb
    · rw [pk_un d, if_neg d]; exact T.2 i hi
theorem m_sortOrder {n : Nat} {q : Nat → Nat} (T : RowQ μ q n) (Q : QO D q n) (W : WF D) : CtrS Z mX12_sortOrder [mrf Z] μ (rV fun μ' => RowQ μ' (sF q n) n ∧ Fr [462] μ μ') := by
  refine CtrS.intro (by decide +kernel) (Nat.le_of_ble_eq_true rfl) rfl fun X E hB => ?_
  have hn := Q.1
  have hS := W.2.2.1
  have loop : ∀ k i μ1, n ≤ i + k → (i ≤ n ∨ n = 0) → RowQ μ1 (sF q i) n → Fr [462] μ μ1 → i < 8 → JS Z X 2 [(0, mrf Z), (1, .int (nI i))] [] μ1 := by
    intro k
    induction k with
    | zero =>
      intro i μ1 hk hi h hF h8
      have hk : n ≤ i := hk
      refine bX12_sortOrder_2 E (fun _ => bX12_sortOrder_68 E hB ⟨rfl, ?_, hF⟩) (fun c => absurd (by rw [h.1, nI_leE (by omega) (by omega)]; omega) c)
      rcases hi with hi | hi
      · obtain rfl : i = n := by omega
        exact h
      · exact h.c fun j hj => by omega
    | succ k ih =>
      intro i μ1 hk hi h hF h8
      by_cases d : n ≤ i
      · refine bX12_sortOrder_2 E (fun _ => bX12_sortOrder_68 E hB ⟨rfl, ?_, hF⟩) (fun c => absurd (by rw [h.1, nI_leE (by omega) (by omega)]; omega) c)
        rcases hi with hi | hi
        · obtain rfl : i = n := by omega
          exact h
        · exact h.c fun j hj => by omega
      · have Qi := Q.srt i (by omega)
        have b2 := Qi.2 i (by omega)
        refine bX12_sortOrder_2 E (fun c => absurd c (by rw [h.1, nI_leE (by omega) (by omega)]; omega)) (fun _ => bX12_sortOrder_10 E (vin (by omega) (by omega)) ?_)
        rw [ix_nI (by omega), h.2 i (by omega)]
        have inner : ∀ j a μ2, j ≤ i → (∀ x, x < n → a x < 8) → RowQ μ2 a n → Fr [462] μ μ2 → (∀ μ3, RowQ μ3 (insF j a (sF q i i)) n → Fr [462] μ μ3 → JS Z X 62 [(0, mrf Z), (1, .int (nI i))] [] μ3) → JS Z X 19 [(0, mrf Z), (1, .int (nI i)), (2, .int (nI (sF q i i))), (3, .int (nI j))] [] μ2 := by
          intro j
          have put : ∀ (j : Nat) (a : Nat → Nat) (μ2 : Mu), j ≤ i → RowQ μ2 a n → Fr [462] μ μ2 → (∀ μ3, RowQ μ3 (uN a j (sF q i i)) n → Fr [462] μ μ3 → JS Z X 62 [(0, mrf Z), (1, .int (nI i))] [] μ3) → JS Z X 55 [(0, mrf Z), (1, .int (nI i)), (2, .int (nI (sF q i i))), (3, .int (nI j))] [] μ2 := fun j a μ2 hj h2 hF2 kk => by
            refine bX12_sortOrder_55 E (vin (by omega) (by omega)) (kk _ ⟨by rw [uR_n (by decide)]; exact h2.1, fun x hx => ?_⟩ (hF2.tr (Fr.uR (by simp))))
            rw [ix_nI (by omega), uR_s]
            exact upd_at (fun e => by rw [e, uN_s]) (fun e => by rw [uN_n e]; exact h2.2 x hx)
          induction j with
          | zero =>
            intro a μ2 hj _ h2 hF2 kk
            exact bX12_sortOrder_19 E (fun _ => put 0 a μ2 hj h2 hF2 kk) (fun c => absurd (by decide) c)
          | succ j ihj =>
            intro a μ2 hj ha h2 hF2 kk
            have e1 : nI (j + 1) - nI 1 = nI j := nI_sub (by omega)
            have b1 := ha j (by omega)
            refine bX12_sortOrder_19 E (fun c => absurd c (by rw [nI_le0 (by omega)]; omega)) (fun _ => ?_)
            refine bX12_sortOrder_23 E (by rw [e1]; exact vin (by omega) (by omega)) (fun c => ?_) (fun c => ?_)
            · rw [e1, ix_nI (by omega), h2.2 j (by omega), nI_leE (by omega) (by omega)] at c
              exact put (j + 1) a μ2 hj h2 hF2 (fun μ3 k1 k2 => kk μ3 (by rw [insF, if_pos c]; exact k1) k2)
            · rw [e1, ix_nI (by omega), h2.2 j (by omega), nI_leE (by omega) (by omega)] at c
              refine bX12_sortOrder_35 E (by rw [e1]; exact vin (by omega) (by omega)) (vin (by omega) (by omega)) (bX12_sortOrder_49 E ?_)
              rw [e1, ix_nI (by omega), ix_nI (show j < 2147483648 by omega), h2.2 j (by omega), nI_suc_m1]
              refine ihj (uN a (j + 1) (a j)) _ (by omega) (fun x hx => ?_) ⟨by rw [uR_n (by decide)]; exact h2.1, fun x hx => ?_⟩ (hF2.tr (Fr.uR (by simp))) (fun μ4 k1 k2 => kk μ4 (by rw [insF, if_neg c]; exact k1) k2)
              · unfold uN; split
                · exact b1
                · exact ha x hx
              · rw [uR_s]
                exact upd_at (fun e => by rw [e, uN_s]) (fun e => by rw [uN_n e]; exact h2.2 x hx)
        refine inner i (sF q i) μ1 (Nat.le_refl i) (fun x hx => by have := Qi.2 x hx; omega) h hF (fun μ2 k1 k2 => ?_)
        refine bX12_sortOrder_62 E ?_
        rw [nI_add]
        exact ih (i + 1) μ2 (by omega) (Or.inl (by omega)) k1 k2 (by omega)
  exact bX12_sortOrder_0 E (loop 6 1 μ (by omega) (by omega) (by rw [sF_1]; exact T) Fr.rf (by decide))
theorem m_nextOrder {n : Nat} {q : Nat → Nat} (T : RowQ μ q n) (Q : QO D q n) (W : WF D) (n0 : 0 < n) : CtrS Z mX12_nextOrder [mrf Z] μ (rI fun v μ' => v = (if (nxt q n).isSome = true then nI 1 else nI 0) ∧ (∀ q', nxt q n = some q' → RowQ μ' q' n) ∧ Fr [462] μ μ') := by
  refine CtrS.intro (by decide +kernel) (Nat.le_of_ble_eq_true rfl) rfl fun X E hB => ?_
  have hn := Q.1
  have hS := W.2.2.1
  have lt : ∀ i, i < n → q i < 2147483648 := fun i hi => by have := Q.2 i hi; omega
  have none' : ∀ x : Int32, x < 0 → nxt q n = none → JS Z X 34 [(0, mrf Z), (1, .int x)] [] μ := fun x hx e => by
    rw [e] at hB
    exact bX12_nextOrder_34 E (fun c => absurd hx (Int32.not_lt.mpr c)) (fun _ => bX12_nextOrder_38 E hB ⟨_, rfl, rfl, (fun _ h => nomatch h), Fr.rf⟩)
  have rise : ∀ k, k + 1 ≤ n → riseF q (n - 1) = riseF q k → JS Z X 7 [(0, mrf Z), (1, .int (nI k + (-1)))] [] μ := by
    intro k
    induction k with
    | zero =>
      intro hk he
      refine bX12_nextOrder_7 E (fun _ => none' _ (by decide) ?_) (fun c => absurd (by decide) c)
      unfold nxt; rw [he]; rfl
    | succ j ih =>
      intro hk he
      rw [nI_suc_m1]
      refine bX12_nextOrder_7 E (fun c => absurd c (Int32.not_lt.mpr (nI_pos' (by omega)))) (fun _ => ?_)
      refine bX12_nextOrder_11 E (vin (by omega) (by omega)) (by rw [nI_add]; exact vin (by omega) (by omega)) (fun c => ?_) (fun c => ?_)
      · rw [nI_add, ix_nI (by omega), ix_nI (by omega), T.2 j (by omega), T.2 (j + 1) (by omega), nI_leE (lt _ (by omega)) (lt _ (by omega))] at c
        have hr : riseF q (n - 1) = j + 1 := by rw [he, riseF, if_pos c]
        have hx : nxt q n = some (rvF 6 (swp q j (nxF q j (n - 1))) (j + 1) (n - 1)) := by unfold nxt; rw [hr]
        rw [hx] at hB
        refine bX12_nextOrder_34 E (fun _ => bX12_nextOrder_40 E ?_) (fun d => absurd (nI_pos' (by omega)) d)
        rw [T.1, nI_sub (by omega)]
        have swapped : ∀ m, m < n → nxF q j (n - 1) = m → JS Z X 68 [(0, mrf Z), (1, .int (nI j)), (2, .int (nI m))] [] μ := fun m hm hmx => by
          refine bX12_nextOrder_68 E (m_swap T hn (show j < n by omega) hm) fun μ1 g => bX12_nextOrder_74 E ?_
          obtain ⟨g1, g2⟩ := g
          rw [g1.1, nI_sub (by omega), nI_add]
          have rev : ∀ k a b p μ2, b < n → b ≤ a + k → a ≤ 20 → RowQ μ2 p n → Fr [462] μ μ2 → (∀ μ3, RowQ μ3 (rvF k p a b) n → Fr [462] μ μ3 → JS Z X 108 [] [] μ3) → JS Z X 86 [(0, mrf Z), (3, .int (nI a)), (4, .int (nI b))] [] μ2 := by
            intro k
            induction k with
            | zero =>
              intro a b p μ2 hb hab h20 hp hF kk
              exact bX12_nextOrder_86 E (fun _ => kk μ2 hp hF) (fun c => absurd (by rw [nI_leE (by omega) (by omega)]; omega) c)
            | succ k ihk =>
              intro a b p μ2 hb hab h20 hp hF kk
              by_cases d : a < b
              · refine bX12_nextOrder_86 E (fun c => absurd c (by rw [nI_leE (by omega) (by omega)]; omega)) (fun _ => ?_)
                refine bX12_nextOrder_92 E (m_swap hp hn (show a < n by omega) hb) fun μ3 z => bX12_nextOrder_99 E ?_
                rw [nI_add, nI_m1 (by omega)]
                exact ihk (a + 1) (b - 1) _ μ3 (by omega) (by omega) (by omega) z.1 (hF.tr z.2) (fun μ4 k1 k2 => kk μ4 (by rw [rvF, if_pos d]; exact k1) k2)
              · exact bX12_nextOrder_86 E (fun _ => kk μ2 (by rw [rvF, if_neg d]; exact hp) hF) (fun c => absurd (by rw [nI_leE (by omega) (by omega)]; omega) c)
          refine rev 6 (j + 1) (n - 1) _ μ1 (by omega) (by omega) (by omega) g1 g2 (fun μ3 k1 k2 => ?_)
          exact bX12_nextOrder_108 E hB ⟨_, rfl, rfl, fun q' hq' => by obtain rfl := Option.some.inj hq'; rw [hmx]; exact k1, k2⟩
        have down : ∀ k m, m = j + 1 + k → m < n → nxF q j (n - 1) = nxF q j m → JS Z X 47 [(0, mrf Z), (1, .int (nI j)), (2, .int (nI m))] [] μ := by
          intro k
          induction k with
          | zero =>
            intro m hm hmn hx
            obtain rfl : m = j + 1 := hm
            refine bX12_nextOrder_47 E (vin (by omega) (by omega)) (vin (by omega) (by omega)) (fun _ => swapped (j + 1) hmn (by rw [hx, nxF, if_pos c])) (fun d => absurd ?_ d)
            rw [ix_nI (by omega), ix_nI (by omega), T.2 j (by omega), T.2 (j + 1) (by omega), nI_leE (lt _ (by omega)) (lt _ (by omega))]
            exact c
          | succ k ihk =>
            intro m hm hmn hx
            obtain ⟨m', rfl⟩ : ∃ m', m = m' + 1 := ⟨m - 1, by omega⟩
            refine bX12_nextOrder_47 E (vin (by omega) (by omega)) (vin (by omega) (by omega)) (fun d => ?_) (fun d => ?_)
            · rw [ix_nI (by omega), ix_nI (by omega), T.2 j (by omega), T.2 (m' + 1) (by omega), nI_leE (lt _ (by omega)) (lt _ (by omega))] at d
              exact swapped _ hmn (by rw [hx, nxF, if_pos d])
            · rw [ix_nI (by omega), ix_nI (by omega), T.2 j (by omega), T.2 (m' + 1) (by omega), nI_leE (lt _ (by omega)) (lt _ (by omega))] at d
              refine bX12_nextOrder_62 E ?_
              rw [nI_suc_m1]
              exact ihk m' (by omega) (by omega) (by rw [hx, nxF, if_neg d])
        exact down (n - 1 - (j + 1)) (n - 1) (by omega) (by omega) rfl
      · rw [nI_add, ix_nI (by omega), ix_nI (by omega), T.2 j (by omega), T.2 (j + 1) (by omega), nI_leE (lt _ (by omega)) (lt _ (by omega))] at c
        exact bX12_nextOrder_28 E (ih (by omega) (by rw [he, riseF, if_neg c]))
  refine bX12_nextOrder_0 E ?_
  have e2 : nI n - nI 2 = nI (n - 1) + (-1) := by
    obtain ⟨n', rfl⟩ : ∃ n', n = n' + 1 := ⟨n - 1, by omega⟩
    show nI (n' + 1) - nI 2 = nI n' + (-1)
    rw [← nI_add n' 1, Int32.sub_eq_add_neg, Int32.add_assoc]
    rfl
  rw [T.1, e2]
  exact rise (n - 1) (by omega) rfl
theorem m_keepOrder {n : Nat} {q : Nat → Nat} (T : RowQ μ q n) (hn : n ≤ 6) : CtrS Z mX12_keepOrder [mrf Z] μ (rV fun μ' => (∀ i, i < n → μ' 466 i = nI (q i)) ∧ Fr [466] μ μ') := by
  refine CtrS.intro (by decide +kernel) (Nat.le_of_ble_eq_true rfl) rfl fun X E hB => ?_
  have loop : ∀ k i μ1, i + k = n → (∀ j, j < i → μ1 466 j = nI (q j)) → Fr [466] μ μ1 → JS Z X 2 [(0, mrf Z), (1, .int (nI i))] [] μ1 := by
    intro k
    induction k with
    | zero =>
      intro i μ1 hi h hF
      have : i = n := hi
      subst this
      exact bX12_keepOrder_2 E (fun _ => bX12_keepOrder_28 E hB ⟨rfl, h, hF⟩) (fun c => absurd (by rw [hF _ (by decide), T.1, nI_leE (by omega) (by omega)]; omega) c)
    | succ k ih =>
      intro i μ1 hi h hF
      refine bX12_keepOrder_2 E (fun c => absurd c (by rw [hF _ (by decide), T.1, nI_leE (by omega) (by omega)]; omega)) (fun _ => ?_)
      refine bX12_keepOrder_10 E (vin (by omega) (by omega)) (vin (by omega) (by omega)) (bX12_keepOrder_22 E ?_)
      rw [ix_nI (by omega), hF 462 (by decide), T.2 i (by omega), nI_add]
      refine ih (i + 1) _ (by omega) (fun j hj => ?_) (hF.tr (Fr.uR (by simp)))
      rw [uR_s]
      exact upd_at (fun e => by rw [e]) (fun e => h j (by omega))
  exact bX12_keepOrder_0 E (loop n 0 μ (by omega) (fun j hj => absurd hj (Nat.not_lt_zero j)) Fr.rf)
end ORD
