/-! ballast: the class -/
noncomputable def okS (M : PM) (nS : Nat) (p : Int32) (h : Nat) (x : Nat) : Bool := @decide (¬ atS M nS p (zI (stp h x))) (Classical.propDecidable _)
theorem okS_t {M : PM} {nS h x : Nat} {p : Int32} : (okS M nS p h x = true) = ¬ atS M nS p (zI (stp h x)) := by
  unfold okS
  exact @decide_eq_true_eq _ (Classical.propDecidable _)
noncomputable def fsS (M : PM) (nS : Nat) (p : Int32) (h : Nat) : List Nat := frm (2 * h) (okS M nS p h) 0
theorem fsS_eq {M : PM} {nS h : Nat} {p : Int32} : fsS M nS p h = (List.range' 0 (2 * h)).filter (okS M nS p h) := by unfold fsS frm; rw [Nat.sub_zero]
theorem fsS_mem {M : PM} {nS h x : Nat} {p : Int32} (hx : x ∈ fsS M nS p h) : x < 2 * h := by
  rw [fsS_eq, List.mem_filter] at hx
  have := hx.1
  simp at this
  exact this
theorem fsS_len {M : PM} {nS h : Nat} {p : Int32} : (fsS M nS p h).length ≤ 2 * h := by
  rw [fsS_eq]
  refine Nat.le_trans (List.length_filter_le _ _) ?_
  rw [List.length_range']; exact Nat.le_refl _
theorem fsS_nd {M : PM} {nS h : Nat} {p : Int32} : (fsS M nS p h).Nodup := by rw [fsS_eq]; exact List.Pairwise.filter _ List.nodup_range'
theorem SAt.smS {M N : PM} {st : Nat → Int} {xs cs : List Nat} {m : Int32} {sl : Nat} (h : SAt M N st xs (cs.map (fun c => (M.1 6 c, nI 0))) m (nI sl)) : SMm N xs cs.length (wB M 6 cs) st sl := by
  obtain ⟨h1, h2, h3, h4, h5, h6, h7⟩ := h
  refine ⟨h2, by rw [h3, List.length_map], h5, h6, fun b hb => ?_⟩
  have := (h7 b (by rw [List.length_map]; exact hb)).1
  rw [this, List.getElem_map, wB_z hb]
theorem any_find {p : List Nat → Bool} {l : List (List Nat)} : l.any p = (l.find? p).isSome := by
  induction l with
  | nil => rfl
  | cons x l ih =>
    by_cases h : p x = true
    · rw [List.find?_cons_of_pos h, List.any_cons, h]; rfl
    · rw [List.find?_cons_of_neg h, List.any_cons, ih]
      simp [h]
theorem Frc.mC {M N : PM} (h : Frc M N) {nC nS : Nat} {p : Int32} : moC N nC nS p = moC M nC nS p := h.eqv.mC
theorem Frc.aS {M N : PM} (h : Frc M N) {nS : Nat} {p t : Int32} : atS N nS p t = atS M nS p t := by
  unfold atS; rw [h.1 12 (by omega), h.1 11 (by omega)]
theorem c_X8_canBallast {G : GG} {d : Nat} {M : PM} {Q : Option Value → PM → Prop} {M0 : PM} {p h nC nS sl t : Nat} {m0 : Int} (hf : Frc M0 M) (hp : p < 3) (hh : h ≤ 4) (hC : nC ≤ 8) (hS : nS ≤ 5) (h6 : M0.1 1 6 = nI nC) (h7 : M0.1 1 7 = nI nS) (h2 : M0.1 2 p = nI h) (h3 : M0.1 3 p = nI sl) (hm : moC M0 nC nS (nI p) = zI m0) (hF : SFx (fsS M0 nS (nI p) h) (bitsL t nS).length (wB M0 6 (bitsL t nS)) (stp h) m0 sl) (hQ : ∀ N, Frc M0 N → Q (some (.int (bI ((fil (fsS M0 nS (nI p) h) (bitsL t nS).length []).any (lev (wB M0 6 (bitsL t nS)) (stp h) m0 sl) = true)))) N) : PC G (d + 20) m_X8_canBallast [.ref 0, .int (nI p), .int (nI t)] M Q := by
  have e2h : nI 2 * nI h = nI (2 * h) := pk_mul 2 h
  have hlen := bitsL_le t nS
  refine PC.of ok_X8_canBallast (Nat.le_of_ble_eq_true rfl) (g_X8_canBallast_0 (c_X4_moment hC hS (by rw [hf.1 1 (by omega)]; exact h6) (by rw [hf.1 1 (by omega)]; exact h7) ?_))
  simp only [gI]
  rw [hf.mC, hm]
  simp (disch := omega) only [nle, nlt, neq, nz, nzl, nzg, nzp, nzn, nneg, nneg9, nI_add, ncl, vin, br_T, br_F, br_p, br_n, true_and, and_true, Nat.zero_add, rdA, rdN]
  rw [hf.1 3 (by omega), h3]
  refine c_X5_begin (st := stp h) hf (fun N hN => ?_)
  simp only [gN]
  have l2 : ∀ N, SAt M0 N (stp h) (fsS M0 nS (nI p) h) [] (zI m0) (nI sl) → PX G (d + 19) m_X8_canBallast Q 84 [some (.ref 0), none, some (.int (nI t)), none, some (.int (nI 0)), none] [] N := by
    refine up_ind (n := nS) (P := fun c => ∀ N, SAt M0 N (stp h) (fsS M0 nS (nI p) h) ((bitsL t c).map (fun c => (M0.1 6 c, nI 0))) (zI m0) (nI sl) → PX G (d + 19) m_X8_canBallast Q 84 [some (.ref 0), none, some (.int (nI t)), none, some (.int (nI c)), none] [] N) ?_ ?_ 0 (Nat.zero_le _)
    · intro N hN
      apply g_X8_canBallast_84
      have e7 : N.1 1 7 = nI nS := by rw [hN.1.1 1 (by omega)]; exact h7
      simp (disch := omega) only [nle, nlt, neq, nz, nzl, nzg, nzp, nzn, nneg, nneg9, nI_add, ncl, vin, br_T, br_F, br_p, br_n, true_and, and_true, Nat.zero_add, rdA, rdN, e7]
      refine PC.dp (d + 16 - (bitsL t nS).length + (bitsL t nS).length + 3) (by omega) (c_X5_findFirst hF hN.smS hN.2.2.2.1 (fun N2 hf2 hno => ?_) (fun N2 f hf2 _ hfd _ => ?_))
      · simp only [gI, n01a, true_and]
        have hq := hQ N2 (hN.1.trans hf2)
        rw [bI_f (by rw [any_find, hno]; decide)] at hq
        exact hq
      · simp only [gI, n01b, true_and]
        have hq := hQ N2 (hN.1.trans hf2)
        rw [bI_t (by rw [any_find, hfd]; rfl)] at hq
        exact hq
    · intro c hc ih N hN
      apply g_X8_canBallast_84
      have e7 : N.1 1 7 = nI nS := by rw [hN.1.1 1 (by omega)]; exact h7
      have hlen := bitsL_le t c
      simp (disch := omega) only [nle, nlt, neq, nz, nzl, nzg, nzp, nzn, nneg, nneg9, nI_add, ncl, vin, br_T, br_F, br_p, br_n, true_and, and_true, Nat.zero_add, rdA, rdN, e7]
      rw [and_bit (by omega)]
      have hs := bitsL_s (t := t) (n := c)
      refine b2 (fun z => ?_) (fun z => ?_)
      · rw [if_neg (by rw [z]; decide), List.append_nil] at hs
        refine ih N ?_
        rw [hs]; exact hN
      · rw [if_pos (by cases hh : t.testBit c; exact absurd hh z; rfl)] at hs
        rw [hN.1.1 6 (by omega)]
        refine c_X5_addBody hN (by rw [List.length_map]; omega) (fun N2 hN2 => ?_)
        simp only [gN]
        refine ih N2 ?_
        rw [hs, List.map_append]; exact hN2
  have l1 := up_ind (n := 2 * h) (P := fun k => ∀ N, SAt M0 N (stp h) ((List.range' 0 k).filter (okS M0 nS (nI p) h)) [] (zI m0) (nI sl) → PX G (d + 19) m_X8_canBallast Q 37 [some (.ref 0), some (.int (nI p)), some (.int (nI t)), some (.int (nI h)), some (.int (nI k)), none] [] N) ?_ ?_ 0 (Nat.zero_le _)
  · rw [hN.1.1 2 (by omega), h2]
    exact l1 N hN
  · intro N hN
    apply g_X8_canBallast_37
    simp (disch := omega) only [nle, nlt, neq, nz, nzl, nzg, nzp, nzn, nneg, nneg9, nI_add, ncl, vin, br_T, br_F, br_p, br_n, true_and, and_true, Nat.zero_add, rdA, rdN, e2h]
    rw [← fsS_eq] at hN
    exact l2 N hN
  · intro k hk ih N hN
    apply g_X8_canBallast_37
    simp (disch := omega) only [nle, nlt, neq, nz, nzl, nzg, nzp, nzn, nneg, nneg9, nI_add, ncl, vin, br_T, br_F, br_p, br_n, true_and, and_true, Nat.zero_add, rdA, rdN, e2h]
    refine c_stepOfSeat hh hk ?_
    simp only [gI]
    refine c_X4_hasStoneAt hS (by rw [hN.1.1 1 (by omega)]; exact h7) ?_
    simp only [gI, bI_z]
    rw [hN.1.aS]
    have hr : (List.range' 0 (k + 1)).filter (okS M0 nS (nI p) h) = (List.range' 0 k).filter (okS M0 nS (nI p) h) ++ [k].filter (okS M0 nS (nI p) h) := by
      rw [List.range'_1_concat, Nat.zero_add, List.filter_append]
    refine b2 (fun z => ?_) (fun z => ?_)
    · have hk1 : okS M0 nS (nI p) h k = true := by rw [okS_t]; exact z
      rw [List.filter_cons_of_pos hk1, List.filter_nil] at hr
      refine c_X5_addSeat hN ?_ (fun N2 hN2 => ?_)
      · refine Nat.lt_of_le_of_lt (List.length_filter_le _ _) ?_
        rw [List.length_range']; omega
      simp only [gN]
      refine ih N2 ?_
      rw [hr]; exact hN2
    · have hk1 : ¬ okS M0 nS (nI p) h k = true := by rw [okS_t]; exact z
      rw [List.filter_cons_of_neg hk1, List.filter_nil, List.append_nil] at hr
      refine ih N ?_
      rw [hr]; exact hN
theorem c_X8_leastBallast {G : GG} {d : Nat} {M : PM} {Q : Option Value → PM → Prop} {p nS : Nat} {C : Nat → Prop} (hS : nS ≤ 5) (h7 : M.1 1 7 = nI nS) (can : ∀ s, s < 2 ^ nS → ∀ N, Frc M N → ∀ Q' : Option Value → PM → Prop, (∀ N2, Frc M N2 → Q' (some (.int (bI (C s)))) N2) → PC G (d + 1) m_X8_canBallast [.ref 0, .int (nI p), .int (nI s)] N Q') (hQ : ∀ o N, BestO popc (fun s => nI s &&& (nI (mkN (idS M) nS) ^^^ (-1)) = 0 ∧ C s) (2 ^ nS) o → Frc M N → Q (some (.int (oI (-1) o))) N) : PC G (d + 2) m_X8_leastBallast [.ref 0, .int (nI p)] M Q := by
  have hp2 : 2 ^ nS ≤ 2 ^ 5 := Nat.pow_le_pow_right (by decide) hS
  refine PC.of ok_X8_leastBallast (Nat.le_of_ble_eq_true rfl) (g_X8_leastBallast_0 (c_X4_idleStones hS h7 ?_))
  simp only [gI]
  generalize mkN (idS M) nS = fr at hQ ⊢
  refine up_ind (n := nS + 1) (P := fun k => ∀ N, Frc M N → (∀ s, s < 2 ^ nS → (nI s &&& (nI fr ^^^ (-1)) = 0 ∧ C s) → k ≤ popc s) → PX G (d + 1) m_X8_leastBallast Q 10 [some (.ref 0), some (.int (nI p)), some (.int (nI fr)), some (.int (nI k)), none] [] N) ?_ ?_ 0 (Nat.zero_le _) M (Frc.refl M) (fun s _ _ => Nat.zero_le _)
  · intro N hf hk
    apply g_X8_leastBallast_10
    have e7 : N.1 1 7 = nI nS := by rw [hf.1 1 (by omega)]; exact h7
    simp (disch := omega) only [nle, nlt, neq, nz, nzl, nzg, nzp, nzn, nneg, nneg9, nI_add, ncl, vin, br_T, br_F, br_p, br_n, true_and, and_true, Nat.zero_add, rdA, rdN, e7]
    refine hQ none N (fun s hs hp => ?_) hf
    have h1 := hk s hs hp
    have h2 := popc_le nS (by omega) s hs
    omega
  · intro k hk ih N hf hkk
    apply g_X8_leastBallast_10
    have e7 : N.1 1 7 = nI nS := by rw [hf.1 1 (by omega)]; exact h7
    simp (disch := omega) only [nle, nlt, neq, nz, nzl, nzg, nzp, nzn, nneg, nneg9, nI_add, ncl, vin, br_T, br_F, br_p, br_n, true_and, and_true, Nat.zero_add, rdA, rdN, e7]
    refine up_ind (n := 2 ^ nS) (P := fun j => ∀ N, Frc M N → (∀ s, s < j → (nI s &&& (nI fr ^^^ (-1)) = 0 ∧ C s) → k + 1 ≤ popc s) → PX G (d + 1) m_X8_leastBallast Q 24 [some (.ref 0), some (.int (nI p)), some (.int (nI fr)), some (.int (nI k)), some (.int (nI j))] [] N) ?_ ?_ 0 (Nat.zero_le _) N hf (fun s hs => absurd hs (by omega))
    · intro N hf hj
      apply g_X8_leastBallast_24
      have e7 : N.1 1 7 = nI nS := by rw [hf.1 1 (by omega)]; exact h7
      rw [e7, sh1 nS (by omega)]
      simp (disch := omega) only [nle, nlt, neq, nz, nzl, nzg, nzp, nzn, nneg, nneg9, nI_add, ncl, vin, br_T, br_F, br_p, br_n, true_and, and_true, Nat.zero_add, rdA, rdN]
      exact ih N hf hj
    · intro j hj ih2 N hf hjj
      apply g_X8_leastBallast_24
      have e7 : N.1 1 7 = nI nS := by rw [hf.1 1 (by omega)]; exact h7
      rw [e7, sh1 nS (by omega)]
      simp (disch := omega) only [nle, nlt, neq, nz, nzl, nzg, nzp, nzn, nneg, nneg9, nI_add, ncl, vin, br_T, br_F, br_p, br_n, true_and, and_true, Nat.zero_add, rdA, rdN]
      have hp8 := popc_le 8 (Nat.le_refl _) j (by omega)
      have go : ∀ N2, Frc M N2 → ¬ (popc j = k ∧ nI j &&& (nI fr ^^^ (-1)) = 0 ∧ C j) → PX G (d + 1) m_X8_leastBallast Q 24 [some (.ref 0), some (.int (nI p)), some (.int (nI fr)), some (.int (nI k)), some (.int (nI (j + 1)))] [] N2 := fun N2 h2 hno => ih2 N2 h2 (fun s hs hP => by
        by_cases e : s = j
        · subst e
          have := hkk s hj hP
          have : ¬ popc s = k := fun q => hno ⟨q, hP⟩
          omega
        · exact hjj s (by omega) hP)
      refine c_bitCount (by omega) ?_
      simp only [gI]
      rw [neq (by omega) (by omega)]
      refine b2 (fun z1 => b2 (fun z2 => ?_) (fun z2 => go N hf (fun q => z2 q.2.1))) (fun z1 => go N hf (fun q => z1 q.1))
      refine can j hj N hf _ (fun N2 hf2 => ?_)
      simp only [gI, bI_z]
      refine b2 (fun z3 => go N2 hf2 (fun q => z3 q.2.2)) (fun z3 => ?_)
      refine hQ (some j) N2 ⟨hj, ⟨z2, Classical.not_not.mp z3⟩, fun s hs hP => ?_⟩ hf2
      have h1 := hkk s hs hP
      by_cases e : popc j < popc s
      · exact Or.inl e
      · refine Or.inr ⟨by omega, Classical.byContradiction fun q => ?_⟩
        have := hjj s (by omega) hP
        omega
