theorem pair_take {G : GG} {M : PM} {x : Int32} (h : Rel M) : Pair G m_X8_take m_X9_take [.int x] M := by
  have hr := h.eqv (Eqv.t0 M (nI 0))
  obtain ⟨nP, nC, nS, tl, sn, tn, hN⟩ := h
  obtain ⟨h1, h2, h3, hrest⟩ := id hN
  obtain ⟨a1, a2, a3, a4, a5, a6, a7, a8, a9⟩ := id h1
  refine PC.of (d := 899) ok_X8_take (Nat.le_of_ble_eq_true rfl) (g_X8_take_0 (c_X3_hasStone a7 ?_))
  simp only [gI, bI_z]
  rcases inR_dec (x := x) (n := nS) (by omega) with ⟨c, hc, rfl⟩ | hno
  · refine b0 (fun z => z (inR_y hc (by omega))) ?_
    simp (disch := omega) only [nle, nlt, neq, nz, nzl, nzg, nzp, nzn, nneg, nneg9, nI_add, ncl, vin, br_T, br_F, br_p, br_n, true_and, and_true, Nat.zero_add, rdA, rdN]
    have ref : ∀ (N : PM) {Q : Option Value → PM → Prop}, N.1 56 16 = nI nS → (N.1 63 (24 + c) = -9 → Q (some (.int (-2))) (wI N 56 0 (nI 0))) → (¬ N.1 63 (24 + c) = -9 → PC G 899 m_X9_goes [.ref 56, .int (nI (24 + c)), .int (nI (29 + c))] (wI N 56 0 (nI 0)) (fun v N2 => gI v (fun r2 => Q (some (.int r2)) N2))) → PC G 900 m_X9_take [.ref 56, .int (nI c)] N Q := by
      intro N Q e1 q1 q2
      refine PC.of (d := 899) ok_X9_take (Nat.le_of_ble_eq_true rfl) (g_X9_take_0 (c_X9_isStone (n := nS) (by simp (disch := omega) only [wI_sA, rdA, rdN, rdL, upd_e, upd_n]; exact e1) a9 ?_))
      simp only [gI, bI_z]
      refine b0 (fun z => z (inR_y hc (by omega))) ?_
      simp (disch := omega) only [nle, nlt, neq, nz, nzl, nzg, nzp, nzn, nneg, nneg9, nI_add, ncl, vin, br_T, br_F, br_p, br_n, true_and, and_true, Nat.zero_add, rdA, rdN, wI_sA]
      exact b2 q1 q2
    refine b2 (fun h0 => ?_) (fun h0 => ?_)
    · refine ⟨_, rfl, ref M a8 (fun _ => ⟨rfl, hr⟩) (fun q => absurd ?_ q)⟩
      rcases h3.s hc with z | z
      · exact z.2.1
      · exact absurd h0 z.2.2.1
    · rcases h3.s hc with z | ⟨z1, z2, z3, p, hp, z4, z5, z6⟩
      · exact absurd z.1 h0
      · have hp3 : p < 3 := by omega
        refine c_X4_liftStone a6 a9 a4 a7 (by omega) hp3 z4 ?_
        simp only [gI]
        have hsX := h3.goneS a6 a9 hc
        have hzX : RSz (wI (wI (wI M 12 c (nI 0)) 63 (24 + c) (-9)) 63 (29 + c) (nI 0)) nP nC nS := h1.cg (fun k _ _ => by simp (disch := omega) only [wI_sA, rdA, rdN, rdL, upd_e, upd_n]) (fun k _ _ => by simp (disch := omega) only [wI_sA, rdA, rdN, rdL, upd_e, upd_n])
        have hrX : RRo (wI (wI (wI M 12 c (nI 0)) 63 (24 + c) (-9)) 63 (29 + c) (nI 0)) nP nC nS := h2.cg (fun q hq => by simp (disch := omega) only [wI_sA, rdA, rdN, rdL, upd_e, upd_n])
        have gA : agC (wI M 12 c (nI 0)) (wI (wI (wI M 12 c (nI 0)) 63 (24 + c) (-9)) 63 (29 + c) (nI 0)) := fun q _ _ => by simp (disch := omega) only [wI_sA, rdA, rdN, rdL, upd_e, upd_n]
        have tM := ti_eq h1 h2 h3 hp
        generalize hM1 : msC (wI M 12 c (nI 0)) nC (tiC (wI M 12 c (nI 0)) nC nS p) (tiC M nC nS p) (nI p) = M1
        have rd : ∀ q, ¬ q = 10 → M1.1 q = (wI M 12 c (nI 0)).1 q := fun q hq => by rw [← hM1]; exact msC_rd hq
        have rd2 : M1.2 = M.2 := by rw [← hM1, msC_2]; rfl
        refine ⟨_, rfl, ref M1 ?_ (fun q => absurd q ?_) (fun _ => c_X9_goes (p := p) a6 a9 ?_ ?_ (by omega) (by omega) hp3 ?_ ?_)⟩
        · rw [rd 56 (by omega)]; simp (disch := omega) only [wI_sA, rdA, rdN, rdL, upd_e, upd_n]; exact a8
        · rw [rd 63 (by omega)]; simp (disch := omega) only [wI_sA, rdA, rdN, rdL, upd_e, upd_n, z1, z4]; exact fun q => m9n (a := p) (by omega) q.symm
        · simp (disch := omega) only [wI_sA, rdA, rdN, rdL, upd_e, upd_n]; rw [rd 56 (by omega)]; simp (disch := omega) only [wI_sA, rdA, rdN, rdL, upd_e, upd_n]; exact a5
        · simp (disch := omega) only [wI_sA, rdA, rdN, rdL, upd_e, upd_n]; rw [rd 56 (by omega)]; simp (disch := omega) only [wI_sA, rdA, rdN, rdL, upd_e, upd_n]; exact a8
        · simp (disch := omega) only [wI_sA, rdA, rdN, rdL, upd_e, upd_n]; rw [rd 63 (by omega)]; simp (disch := omega) only [wI_sA, rdA, rdN, rdL, upd_e, upd_n, z1, z4]
        · simp only [gI]
          have tT : tiR (wI M1 56 0 (nI 0)) nC nS p = tiC M nC nS p := by
            rw [tM]; exact tiR_cg (fun q _ _ => by simp (disch := omega) only [wI_sA, rdA, rdN, rdL, upd_e, upd_n]; rw [rd q (by omega)]; simp (disch := omega) only [wI_sA, rdA, rdN, rdL, upd_e, upd_n])
          rw [tT]
          have hh := half (w := tiC M nC nS p) (B := wI (wI (wI M1 56 0 (nI 0)) 63 (24 + c) (-9)) 63 (29 + c) (nI 0)) hzX hrX hsX hp gA (fun q _ _ => by
            by_cases e : q = 63
            · subst e; simp (disch := omega) only [wI_sA, rdA, rdN, rdL, upd_e, upd_n]; rw [rd 63 (by omega)]; simp (disch := omega) only [wI_sA, rdA, rdN, rdL, upd_e, upd_n]
            · simp (disch := omega) only [wI_sA, rdA, rdN, rdL, upd_e, upd_n]; rw [rd q (by omega)]; simp (disch := omega) only [wI_sA, rdA, rdN, rdL, upd_e, upd_n]) (fun q _ _ => by rw [hM1]; simp (disch := omega) only [wI_sA, rdA, rdN, rdL, upd_e, upd_n])
          refine ⟨by rw [hh.1], nP, nC, nS, tl, sn, tn, hN.scene (fun q hq => ?_) (fun k hk => ?_) ?_ hh.2⟩
          · rw [msR_rd (by omega)]; simp (disch := omega) only [wI_sA, rdA, rdN, rdL, upd_e, upd_n]; rw [rd q (by omega)]; simp (disch := omega) only [wI_sA, rdA, rdN, rdL, upd_e, upd_n]
          · rw [msR_rd (by omega)]; simp (disch := omega) only [wI_sA, rdA, rdN, rdL, upd_e, upd_n]; rw [rd 56 (by omega)]; simp (disch := omega) only [wI_sA, rdA, rdN, rdL, upd_e, upd_n]
          · rw [msR_2]; exact rd2
  · refine b1 hno ⟨_, rfl, PC.of (d := 899) ok_X9_take (Nat.le_of_ble_eq_true rfl) (g_X9_take_0 (c_X9_isStone (n := nS) (by simp (disch := omega) only [wI_sA, rdA, rdN, rdL, upd_e, upd_n]; exact a8) a9 ?_))⟩
    simp only [gI, bI_z]
    exact b1 hno ⟨by trivial, hr⟩

theorem SR.comeC {M : PM} {nP nC nS c p : Nat} {to : Int32} (h : SR M nP nC nS 7 63 0) (hC : nC ≤ 8) (hS : nS ≤ 5) (hc : c < nC) (hp : p < nP) (ht : ¬ to = 0) (ht1 : -(M.1 2 p) ≤ to) (ht2 : to ≤ M.1 2 p) : SR (wI (wI (wI (wI M 8 c (nI p)) 9 c to) 63 c (nI p)) 63 (8 + c) to) nP nC nS 7 63 0 := by
  refine ⟨fun k hk => ?_, fun k hk => ?_, fun k hk => ?_⟩
  · simp only [Nat.zero_add]
    show (wI _ 63 _ _).1 10 k = (wI _ 63 _ _).1 63 (16 + k)
    simp (disch := omega) only [wI_sA, rdA, rdN, rdL, upd_e, upd_n]
    exact h.b hk
  · simp only [Nat.zero_add]
    show SP ((wI _ 63 _ _).1 2) nP ((wI _ 63 _ _).1 8 k) ((wI _ 63 _ _).1 9 k) ((wI _ 63 _ _).1 63 k) ((wI _ 63 _ _).1 63 (8 + k))
    by_cases e : k = c
    · subst e
      simp (disch := omega) only [wI_sA, rdA, rdN, rdL, upd_e, upd_n]
      exact Or.inr ⟨rfl, rfl, ht, p, hp, rfl, ht1, ht2⟩
    · simp (disch := omega) only [wI_sA, rdA, rdN, rdL, upd_e, upd_n]
      exact h.c hk
  · simp only [Nat.zero_add]
    show SP ((wI _ 63 _ _).1 2) nP ((wI _ 63 _ _).1 11 k) ((wI _ 63 _ _).1 12 k) ((wI _ 63 _ _).1 63 (24 + k)) ((wI _ 63 _ _).1 63 (29 + k))
    simp (disch := omega) only [wI_sA, rdA, rdN, rdL, upd_e, upd_n]
    exact h.s hk
theorem SR.comeS {M : PM} {nP nC nS c p : Nat} {to : Int32} (h : SR M nP nC nS 7 63 0) (hC : nC ≤ 8) (hS : nS ≤ 5) (hc : c < nS) (hp : p < nP) (ht : ¬ to = 0) (ht1 : -(M.1 2 p) ≤ to) (ht2 : to ≤ M.1 2 p) : SR (wI (wI (wI (wI M 11 c (nI p)) 12 c to) 63 (24 + c) (nI p)) 63 (29 + c) to) nP nC nS 7 63 0 := by
  refine ⟨fun k hk => ?_, fun k hk => ?_, fun k hk => ?_⟩
  · simp only [Nat.zero_add]
    show (wI _ 63 _ _).1 10 k = (wI _ 63 _ _).1 63 (16 + k)
    simp (disch := omega) only [wI_sA, rdA, rdN, rdL, upd_e, upd_n]
    exact h.b hk
  · simp only [Nat.zero_add]
    show SP ((wI _ 63 _ _).1 2) nP ((wI _ 63 _ _).1 8 k) ((wI _ 63 _ _).1 9 k) ((wI _ 63 _ _).1 63 k) ((wI _ 63 _ _).1 63 (8 + k))
    simp (disch := omega) only [wI_sA, rdA, rdN, rdL, upd_e, upd_n]
    exact h.c hk
  · simp only [Nat.zero_add]
    show SP ((wI _ 63 _ _).1 2) nP ((wI _ 63 _ _).1 11 k) ((wI _ 63 _ _).1 12 k) ((wI _ 63 _ _).1 63 (24 + k)) ((wI _ 63 _ _).1 63 (29 + k))
    by_cases e : k = c
    · subst e
      simp (disch := omega) only [wI_sA, rdA, rdN, rdL, upd_e, upd_n]
      exact Or.inr ⟨rfl, rfl, ht, p, hp, rfl, ht1, ht2⟩
    · simp (disch := omega) only [wI_sA, rdA, rdN, rdL, upd_e, upd_n]
      exact h.s hk
