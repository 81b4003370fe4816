theorem pair_strangers {G : GG} {M : PM} {x : Int32} (h : Rel M) : Pair G m_X8_strangers m_X9_strangers [.int x] M := by
  have hr := h.eqv (Eqv.t0 M (nI 0))
  have bad : ¬ (nI 2 ≤ x ∧ x ≤ nI 5) → PC G 900 m_X9_strangers [.ref 56, .int x] M (fun w N2 => w = some (.int (-1)) ∧ Rel N2) := by
    intro hb
    refine PC.of (d := 899) ok_X9_strangers (Nat.le_of_ble_eq_true rfl) (g_X9_strangers_0 (c_X9_in ?_))
    simp only [gI, bI_z]
    exact b1 hb ⟨by trivial, hr⟩
  obtain ⟨nP, nC, nS, tl, sn, tn, h1, h2, h3, h4, h5, h6, h7, h8, h9⟩ := h
  refine PC.of (d := 899) ok_X8_strangers (Nat.le_of_ble_eq_true rfl) (g_X8_strangers_0 ?_)
  refine b2 (fun q => ⟨_, rfl, bad (fun z => absurd z.1 (Int32.not_le.mpr q))⟩) (fun q => b2 (fun q2 => ?_) (fun q2 => ⟨_, rfl, bad (fun z => q2 z.2)⟩))
  have hx : ∃ k : Nat, 2 ≤ k ∧ k ≤ 5 ∧ x = nI k := by
    rcases ix3 x (n := 6) (by omega) with z | z | ⟨j, hj, rfl⟩
    · exact absurd z (Int32.not_lt.mpr (Int32.le_trans (by decide) (Int32.not_lt.mp q)))
    · have := Int32.le_trans z q2
      rw [nle (by omega) (by omega)] at this
      omega
    · rw [nlt (by omega) (by omega)] at q
      exact ⟨j, by omega, by omega, rfl⟩
  obtain ⟨k, k2, k5, rfl⟩ := hx
  refine PC.of (d := 898) ok_X7_begin (Nat.le_of_ble_eq_true rfl) (g_X7_begin_0 ⟨by decide, ?_⟩)
  refine ⟨_, rfl, PC.of (d := 899) ok_X9_strangers (Nat.le_of_ble_eq_true rfl) (g_X9_strangers_0 (c_X9_in ?_))⟩
  simp only [gI, bI_z]
  refine b0 (fun z => z ⟨Int32.not_lt.mp q, q2⟩) ?_
  refine ⟨?_, nP, nC, nS, tl, k, 0, h1.cg ?_ ?_, h2.cg ?_, h3.cg ?_, h4.cg ?_ ?_ ?_ ?_, h5.cg ?_ ?_, h6.cg ?_ ?_, ⟨?_, ?_, k2, k5, ?_, ?_, by omega, fun t ht => absurd ht (by omega)⟩, Or.inl ?_, h9⟩
  · simp (disch := omega) only [wI_sA, rdA, rdN, rdL, upd_e, upd_n, h7.1, h7.2.1]
  all_goals (intros; try simp (disch := omega) only [wI_sA, rdA, rdN, rdL, upd_e, upd_n])
  rfl
theorem c_X7_hasStranger {G : GG} {d : Nat} {M : PM} {Q : Option Value → PM → Prop} {x : Int32} {n : Nat} (hM : M.1 44 6 = nI n) (hQ : Q (some (.int (bI (inR x n)))) M) : PC G (d + 1) m_X7_hasStranger [.ref 44, .int x] M Q := by
  refine PC.of ok_X7_hasStranger (Nat.le_of_ble_eq_true rfl) (g_X7_hasStranger_0 ?_)
  simp only [n01a, n01b, true_and, hM]
  refine b2 (fun h => ?_) (fun h => b2 (fun h2 => ?_) (fun h2 => ?_))
  · rw [bI_f (inR_n (Or.inl h))] at hQ; exact hQ
  · rw [bI_f (inR_n (Or.inr h2))] at hQ; exact hQ
  · rw [bI_t ⟨Int32.not_lt.mp h, Int32.not_le.mp h2⟩] at hQ; exact hQ
theorem c_X9_isStranger {G : GG} {d : Nat} {M : PM} {Q : Option Value → PM → Prop} {x : Int32} {n : Nat} (hM : M.1 56 27 = nI n) (hn : n ≤ 5) (hQ : Q (some (.int (bI (inR x n)))) M) : PC G (d + 2) m_X9_isStranger [.ref 56, .int x] M Q := by
  refine PC.of ok_X9_isStranger (Nat.le_of_ble_eq_true rfl) (g_X9_isStranger_0 (c_X9_in ?_))
  refine ⟨bI_01 _, ?_⟩
  have e := in_pred (x := x) (n := n) (by omega)
  rw [hM]
  rw [e]
  exact hQ
theorem three {r : Int32} (h1 : (-1 : Int32) ≤ r) (h2 : r ≤ nI 1) : r = -1 ∨ r = 0 ∨ r = 1 := by
  rw [Int32.le_iff_toInt_le] at h1 h2
  rw [toInt_nI (by omega)] at h2
  have e1 : (-1 : Int32).toInt = -1 := by decide
  have e2 : (0 : Int32).toInt = 0 := by decide
  have e3 : (1 : Int32).toInt = 1 := by decide
  rw [e1] at h1
  have : r.toInt = -1 ∨ r.toInt = 0 ∨ r.toInt = 1 := by omega
  rcases this with z | z | z
  · left; exact Int32.toInt_inj.mp (by rw [z, e1])
  · right; left; exact Int32.toInt_inj.mp (by rw [z, e2])
  · right; right; exact Int32.toInt_inj.mp (by rw [z, e3])
theorem nmul (a b : Nat) : nI a * nI b = nI (a * b) := pk_mul a b
theorem pair_trial {G : GG} {M : PM} {a b r : Int32} (h : Rel M) : Pair G m_X8_trial m_X9_trial [.int a, .int b, .int r] M := by
  have hr := h.eqv (Eqv.t0 M (nI 0))
  obtain ⟨nP, nC, nS, tl, sn, tn, h1, h2, h3, h4, h5, h6, h7, h8, h9⟩ := h
  obtain ⟨c1, c2, c3, c4, c5, c6, c7, c8⟩ := h7
  have bad : ¬ (inR a sn ∧ inR b sn ∧ ¬ a = b ∧ (-1 : Int32) ≤ r ∧ r ≤ nI 1) → PC G 900 m_X9_trial [.ref 56, .int a, .int b, .int r] M (fun w N2 => w = some (.int (-1)) ∧ Rel N2) := by
    intro hb
    refine PC.of (d := 899) ok_X9_trial (Nat.le_of_ble_eq_true rfl) (g_X9_trial_0 (c_X9_isStranger (n := sn) (by simp (disch := omega) only [wI_sA, rdA, rdN, rdL, upd_e, upd_n]; exact c2) c4 ?_))
    simp only [gI, bI_z]
    refine b2 (fun _ => ⟨by trivial, hr⟩) (fun z1 => c_X9_isStranger (n := sn) (by simp (disch := omega) only [wI_sA, rdA, rdN, rdL, upd_e, upd_n]; exact c2) c4 ?_)
    simp only [gI, bI_z]
    refine b2 (fun _ => ⟨by trivial, hr⟩) (fun z2 => b2 (fun _ => ⟨by trivial, hr⟩) (fun z3 => c_X9_in ?_))
    simp only [gI, bI_z]
    refine b1 (fun z4 => hb ⟨Classical.not_not.mp z1, Classical.not_not.mp z2, z3, z4⟩) ⟨by trivial, hr⟩
  refine PC.of (d := 899) ok_X8_trial (Nat.le_of_ble_eq_true rfl) (g_X8_trial_0 (c_X7_hasStranger c1 ?_))
  simp only [gI, bI_z]
  refine b2 (fun z => ⟨_, rfl, bad (fun q => z q.1)⟩) (fun z1 => c_X7_hasStranger c1 ?_)
  simp only [gI, bI_z]
  refine b2 (fun z => ⟨_, rfl, bad (fun q => z q.2.1)⟩) (fun z2 => b2 (fun z => ⟨_, rfl, bad (fun q => q.2.2.1 z)⟩) (fun z3 => b2 (fun z => ⟨_, rfl, bad (fun q => absurd q.2.2.2.1 (Int32.not_le.mpr z))⟩) (fun z4 => b2 (fun z5 => ?_) (fun z => ⟨_, rfl, bad (fun q => z q.2.2.2.2)⟩))))
  have z1 := Classical.not_not.mp z1
  have z2 := Classical.not_not.mp z2
  have z4 := Int32.not_lt.mp z4
  rcases inR_dec (x := a) (n := sn) (by omega) with ⟨i, hi, rfl⟩ | hno
  · rcases inR_dec (x := b) (n := sn) (by omega) with ⟨j, hj, rfl⟩ | hno
    · have hij : ¬ i = j := by rw [neq (by omega) (by omega)] at z3; exact z3
      have hgood : ∀ (N : PM) {Q : Option Value → PM → Prop}, N.1 56 27 = nI sn → N.1 56 29 = nI tn → (tn = 12 → Q (some (.int (-3))) (wI N 56 0 (nI 0))) → (¬ tn = 12 → Q (some (.int (nI (tn + 1)))) (wI (wI (wI (wI (wI N 56 0 (nI 0)) 69 (3 * tn) (nI i)) 69 (3 * tn + 1) (nI j)) 69 (3 * tn + 2) r) 56 29 (nI (tn + 1)))) → PC G 900 m_X9_trial [.ref 56, .int (nI i), .int (nI j), .int r] N Q := by
        intro N Q e1 e2 q1 q2
        refine PC.of (d := 899) ok_X9_trial (Nat.le_of_ble_eq_true rfl) (g_X9_trial_0 (c_X9_isStranger (n := sn) (by simp (disch := omega) only [wI_sA, rdA, rdN, rdL, upd_e, upd_n]; exact e1) c4 ?_))
        simp only [gI, bI_z]
        refine b0 (fun z => z z1) (c_X9_isStranger (n := sn) (by simp (disch := omega) only [wI_sA, rdA, rdN, rdL, upd_e, upd_n]; exact e1) c4 ?_)
        simp only [gI, bI_z]
        refine b0 (fun z => z z2) (b0 z3 (c_X9_in ?_))
        simp only [gI, bI_z]
        refine b0 (fun z => z ⟨z4, z5⟩) ?_
        have e3 : (wI N 56 0 (nI 0)).1 56 29 = nI tn := by simp (disch := omega) only [wI_sA, rdA, rdN, rdL, upd_e, upd_n]; exact e2
        rw [e3]
        simp (disch := omega) only [nle, nlt, neq, nz, nzl, nzg, nzp, nzn, nneg, nneg9, nI_add, ncl, vin, br_T, br_F, br_p, br_n, true_and, and_true, Nat.zero_add, rdA, rdN, nmul]
        refine b2 q1 (fun z => ?_)
        simp (disch := omega) only [nle, nlt, neq, nz, nzl, nzg, nzp, nzn, nneg, nneg9, nI_add, ncl, vin, br_T, br_F, br_p, br_n, true_and, and_true, Nat.zero_add, rdA, rdN, nmul]
        exact q2 z
      rw [c5]
      simp (disch := omega) only [nle, nlt, neq, nz, nzl, nzg, nzp, nzn, nneg, nneg9, nI_add, ncl, vin, br_T, br_F, br_p, br_n, true_and, and_true, Nat.zero_add, rdA, rdN]
      refine b2 (fun z6 => ?_) (fun z6 => ⟨_, rfl, hgood M c2 c6 (fun _ => ⟨by trivial, hr⟩) (fun q => absurd c7 (by omega))⟩)
      refine PC.of (d := 898) ok_X7_addTrial (Nat.le_of_ble_eq_true rfl) (g_X7_addTrial_0 ?_)
      rw [c5]
      simp only [n01a]
      simp (disch := omega) only [nle, nlt, neq, nz, nzl, nzg, nzp, nzn, nneg, nneg9, nI_add, ncl, vin, br_T, br_F, br_p, br_n, true_and, and_true, Nat.zero_add, rdA, rdN]
      simp only [gN]
      refine ⟨_, rfl, hgood _ (by simp (disch := omega) only [wI_sA, rdA, rdN, rdL, upd_e, upd_n]; exact c2) (by simp (disch := omega) only [wI_sA, rdA, rdN, rdL, upd_e, upd_n]; exact c6) (fun q => absurd q (by omega)) (fun _ => ⟨?_, ?_⟩)⟩
      · first | trivial | (simp (disch := omega) only [wI_sA, rdA, rdN, rdL, upd_e, upd_n])
      refine ⟨nP, nC, nS, tl, sn, tn + 1, h1.cg ?_ ?_, h2.cg ?_, h3.cg ?_, h4.cg ?_ ?_ ?_ ?_, h5.cg ?_ ?_, h6.cg ?_ ?_, ⟨?_, ?_, c3, c4, ?_, ?_, by omega, ?hTr⟩, Or.inl ?_, h9⟩
      case hTr =>
        intro t ht
        by_cases e : t = tn
        · subst e
          refine ⟨i, j, hi, hj, hij, ?_, ?_, ?_, ?_, ?_, ?_⟩
          all_goals first | (simp (disch := omega) only [wI_sA, rdA, rdN, rdL, upd_e, upd_n]; done) | (simp (disch := omega) only [wI_sA, rdA, rdN, rdL, upd_e, upd_n]; exact three z4 z5)
        · obtain ⟨p, q, hp, hq, hpq, f1, f2, f3, f4, f5, f6⟩ := c8 t (by omega)
          refine ⟨p, q, hp, hq, hpq, ?_, ?_, ?_, ?_, ?_, ?_⟩
          all_goals (simp (disch := omega) only [wI_sA, rdA, rdN, rdL, upd_e, upd_n]; assumption)
      all_goals (intros; first | (simp (disch := omega) only [wI_sA, rdA, rdN, rdL, upd_e, upd_n, c1, c2, c5]; done) | (simp (disch := omega) only [wI_sA, rdA, rdN, rdL, upd_e, upd_n]; rfl))
    · exact absurd z2 hno
  · exact absurd z1 hno
