theorem c_X9_lay_no {G : GG} {d : Nat} {M : PM} {Q : Option Value → PM → Prop} {nP nS : Nat} {x y z : Int32} (hP : nP ≤ 3) (hC : nS ≤ 5) (hM : M.1 56 14 = nI nP) (hM1 : M.1 56 16 = nI nS) (hno : ¬ inR x nS ∨ ¬ seatR (M.1 58) nP y z) (hQ : Q (some (.int (-1))) (wI M 56 0 (nI 0))) : PC G (d + 4) m_X9_lay [.ref 56, .int x, .int y, .int z] M Q := by
  refine PC.of ok_X9_lay (Nat.le_of_ble_eq_true rfl) (g_X9_lay_0 (c_X9_isStone (n := nS) (by simp (disch := omega) only [wI_sA, rdA, rdN, rdL, upd_e, upd_n]; exact hM1) hC ?_))
  simp only [gI, bI_z]
  refine b2 (fun _ => hQ) (fun q1 => c_X9_isPlank (n := nP) (by simp (disch := omega) only [wI_sA, rdA, rdN, rdL, upd_e, upd_n]; exact hM) hP ?_)
  simp only [gI, bI_z]
  refine b2 (fun _ => hQ) (fun q2 => b2 (fun _ => hQ) (fun q3 => ?_))
  rcases inR_dec (x := y) (n := nP) (by omega) with ⟨j, hj, rfl⟩ | hn
  · simp (disch := omega) only [nle, nlt, neq, nz, nzl, nzg, nzp, nzn, nneg, nneg9, nI_add, ncl, vin, br_T, br_F, br_p, br_n, true_and, and_true, Nat.zero_add, rdA, rdN, wI_sA]
    refine c_X9_in ?_
    simp only [gI, bI_z]
    refine b1 (fun q4 => ?_) hQ
    rcases hno with h1 | h1
    · exact absurd h1 q1
    · exact h1 ⟨j, hj, rfl, q3, q4.1, q4.2⟩
  · exact absurd hn q2
theorem c_X9_lay_ok {G : GG} {d : Nat} {M : PM} {Q : Option Value → PM → Prop} {nP nS c p : Nat} {z : Int32} (hP : nP ≤ 3) (hC : nS ≤ 5) (hM : M.1 56 14 = nI nP) (hM1 : M.1 56 16 = nI nS) (hc : c < nS) (hp : p < nP) (hz : ¬ z = 0) (hz1 : -(M.1 58 p) ≤ z) (hz2 : z ≤ M.1 58 p)
    (hq : (∃ e, e < nS ∧ M.1 63 (24 + e) = nI p ∧ M.1 63 (29 + e) = z) → Q (some (.int (-2))) (wI M 56 0 (nI 0)))
    (hq2 : (¬ ∃ e, e < nS ∧ M.1 63 (24 + e) = nI p ∧ M.1 63 (29 + e) = z) → PC G (d + 3) m_X9_goes [.ref 56, .int (nI (24 + c)), .int (nI (29 + c))] (wI M 56 0 (nI 0)) (fun v N1 => gI v (fun r1 => PC G (d + 3) m_X9_comes [.ref 56, .int (nI (24 + c)), .int (nI (29 + c)), .int (nI p), .int z] N1 (fun v N2 => gI v (fun r2 => Q (some (.int (r1 + r2))) N2))))) : PC G (d + 4) m_X9_lay [.ref 56, .int (nI c), .int (nI p), .int z] M Q := by
  refine PC.of ok_X9_lay (Nat.le_of_ble_eq_true rfl) (g_X9_lay_0 (c_X9_isStone (n := nS) (by simp (disch := omega) only [wI_sA, rdA, rdN, rdL, upd_e, upd_n]; exact hM1) hC ?_))
  simp only [gI, bI_z]
  refine b0 (fun q => q (inR_y hc (by omega))) (c_X9_isPlank (n := nP) (by simp (disch := omega) only [wI_sA, rdA, rdN, rdL, upd_e, upd_n]; exact hM) hP ?_)
  simp only [gI, bI_z]
  refine b0 (fun q => q (inR_y hp (by omega))) (b0 hz ?_)
  simp (disch := omega) only [nle, nlt, neq, nz, nzl, nzg, nzp, nzn, nneg, nneg9, nI_add, ncl, vin, br_T, br_F, br_p, br_n, true_and, and_true, Nat.zero_add, rdA, rdN, wI_sA]
  refine c_X9_in ?_
  simp only [gI, bI_z]
  refine b0 (fun q => q ⟨hz1, hz2⟩) ?_
  have e15 : (wI M 56 0 (nI 0)).1 56 16 = nI nS := by simp (disch := omega) only [wI_sA, rdA, rdN, rdL, upd_e, upd_n]; exact hM1
  have e63 : (wI M 56 0 (nI 0)).1 63 = M.1 63 := by simp (disch := omega) only [wI_sA, rdA, rdN, rdL, upd_e, upd_n]
  show PX G (d + 3) m_X9_lay Q 50 [some (.ref 56), some (.int (nI c)), some (.int (nI p)), some (.int z), some (.int (nI 0))] [] (wI M 56 0 (nI 0))
  generalize wI M 56 0 (nI 0) = N at *
  refine up_ind (P := fun k => (∀ j, j < k → ¬ (M.1 63 (24 + j) = nI p ∧ M.1 63 (29 + j) = z)) → PX G (d + 3) m_X9_lay Q 50 [some (.ref 56), some (.int (nI c)), some (.int (nI p)), some (.int z), some (.int (nI k))] [] N) ?_ ?_ 0 (Nat.zero_le nS) (fun j hj => absurd hj (by omega))
  · intro hno
    apply g_X9_lay_50
    simp (disch := omega) only [nle, nlt, neq, nz, nzl, nzg, nzp, nzn, nneg, nneg9, nI_add, ncl, vin, br_T, br_F, br_p, br_n, true_and, and_true, Nat.zero_add, rdA, rdN, e15]
    exact hq2 (fun ⟨e, he, q1, q2⟩ => hno e he ⟨q1, q2⟩)
  · intro k hk ih hno
    apply g_X9_lay_50
    simp (disch := omega) only [nle, nlt, neq, nz, nzl, nzg, nzp, nzn, nneg, nneg9, nI_add, ncl, vin, br_T, br_F, br_p, br_n, true_and, and_true, Nat.zero_add, rdA, rdN, e15, e63]
    have nx : ¬ (M.1 63 (24 + k) = nI p ∧ M.1 63 (29 + k) = z) → PX G (d + 3) m_X9_lay Q 50 [some (.ref 56), some (.int (nI c)), some (.int (nI p)), some (.int z), some (.int (nI (k + 1)))] [] N := fun q => ih (fun j hj => by
      by_cases e : j = k
      · subst e; exact q
      · exact hno j (by omega))
    exact b2 (fun q1 => b2 (fun q2 => hq ⟨k, hk, q1, q2⟩) (fun q2 => nx (fun q => q2 q.2))) (fun q1 => nx (fun q => q1 q.1))
theorem pair_lay {G : GG} {M : PM} {x y z : Int32} (h : Rel M) : Pair G m_X8_lay m_X9_lay [.int x, .int y, .int z] M := by
  have hr := h.eqv (Eqv.t0 M (nI 0))
  obtain ⟨nP, nC, nS, tl, sn, tn, hN⟩ := h
  obtain ⟨h1, h2, h3, hrest⟩ := id hN
  obtain ⟨a1, a2, a3, a4, a5, a6, a7, a8, a9⟩ := id h1
  have bad : (¬ inR x nS ∨ ¬ seatR (M.1 2) nP y z) → PC G 900 m_X9_lay [.ref 56, .int x, .int y, .int z] M (fun w N2 => w = some (.int (-1)) ∧ Rel N2) := fun hb => c_X9_lay_no a3 a9 a2 a8 (hb.imp id (fun q w => q ((seat_eq h2 y z).mp w))) ⟨rfl, hr⟩
  refine PC.of (d := 899) ok_X8_lay (Nat.le_of_ble_eq_true rfl) (g_X8_lay_0 (c_X3_hasStone a7 ?_))
  simp only [gI, bI_z]
  refine b2 (fun q => ⟨_, rfl, bad (Or.inl q)⟩) (fun q1 => c_X3_hasSeat a3 a1 ?_)
  simp only [gI, bI_z]
  refine b2 (fun q => ⟨_, rfl, bad (Or.inr q)⟩) (fun q2 => c_X4_hasStoneAt a9 a7 ?_)
  simp only [gI, bI_z]
  clear bad
  have q2 := Classical.not_not.mp q2
  rcases inR_dec (x := x) (n := nS) (by omega) with ⟨c, hc, rfl⟩ | hno
  case inr => exact absurd hno q1
  have q3 := (seat_eq h2 y z).mpr q2
  obtain ⟨p, hp, rfl, t1, t2, t3⟩ := q2
  obtain ⟨hf, hf1, hf4, f1, f2⟩ := h2.1 p hp
  have r2 : -(M.1 58 p) ≤ z := by rw [f2, ← f1]; exact t2
  have r3 : z ≤ M.1 58 p := by rw [f2, ← f1]; exact t3
  have hp3 : p < 3 := by omega
  have occ : (∃ e, e < nS ∧ M.1 63 (24 + e) = nI p ∧ M.1 63 (29 + e) = z) ↔ atS M nS (nI p) z := by
    constructor
    · rintro ⟨e, he, w1, w2⟩
      rcases h3.s he with ⟨v1, v2, v3⟩ | ⟨v1, v2, v3, -⟩
      · exact absurd (v2.symm.trans w1) (m9n (a := p) (by omega))
      · exact ⟨e, he, by rw [← v2]; exact w2, by rw [← v1]; exact w1⟩
    · rintro ⟨e, he, w1, w2⟩
      rcases h3.s he with ⟨v1, v2, v3⟩ | ⟨v1, v2, v3, -⟩
      · exact absurd (w1.symm.trans v1) t1
      · exact ⟨e, he, by rw [v1]; exact w2, by rw [v2]; exact w1⟩
  refine b2 (fun hfree => ?_) (fun hocc => ⟨_, rfl, c_X9_lay_ok a3 a9 a2 a8 hc hp t1 r2 r3 (fun _ => ⟨by trivial, hr⟩) (fun q => absurd (fun w => q (occ.mpr w)) hocc)⟩)
  simp (disch := omega) only [nle, nlt, neq, nz, nzl, nzg, nzp, nzn, nneg, nneg9, nI_add, ncl, vin, br_T, br_F, br_p, br_n, true_and, and_true, Nat.zero_add, rdA, rdN]
  refine b2 (fun h0 => ?_) (fun h0 => ?_)
  · -- it sat nowhere
    have hat : M.1 63 (24 + c) = -9 := by
      rcases h3.s hc with v | v
      · exact v.2.1
      · exact absurd h0 v.2.2.1
    refine c_X4_putStone a6 a9 a4 a7 (by omega) hp3 ?_
    simp only [gI]
    have hsX := h3.comeS a6 a9 hc hp t1 t2 t3
    have hzX : RSz (wI (wI (wI (wI M 11 c (nI p)) 12 c z) 63 (24 + c) (nI p)) 63 (29 + c) z) nP nC nS := h1.cg (fun k _ _ => by simp (disch := omega) only [wI_sA, rdA, rdN, rdL, upd_e, upd_n]) (fun k _ _ => by simp (disch := omega) only [wI_sA, rdA, rdN, rdL, upd_e, upd_n])
    have hrX : RRo (wI (wI (wI (wI M 11 c (nI p)) 12 c z) 63 (24 + c) (nI p)) 63 (29 + c) z) nP nC nS := h2.cg (fun q hq => by simp (disch := omega) only [wI_sA, rdA, rdN, rdL, upd_e, upd_n])
    have gA : agC (wI (wI M 11 c (nI p)) 12 c z) (wI (wI (wI (wI M 11 c (nI p)) 12 c z) 63 (24 + c) (nI p)) 63 (29 + c) z) := fun q _ _ => by simp (disch := omega) only [wI_sA, rdA, rdN, rdL, upd_e, upd_n]
    have tM := ti_eq h1 h2 h3 hp
    generalize hM1 : msC (wI (wI M 11 c (nI p)) 12 c z) nC (tiC (wI (wI M 11 c (nI p)) 12 c z) nC nS p) (tiC M nC nS p) (nI p) = M1
    have rd : ∀ q, ¬ q = 10 → M1.1 q = (wI (wI M 11 c (nI p)) 12 c z).1 q := fun q hq => by rw [← hM1]; exact msC_rd hq
    have rd2 : M1.2 = M.2 := by rw [← hM1, msC_2]; rfl
    have m63 : M1.1 63 = M.1 63 := by rw [rd 63 (by omega)]; simp (disch := omega) only [wI_sA, rdA, rdN, rdL, upd_e, upd_n]
    have m58 : M1.1 58 = M.1 58 := by rw [rd 58 (by omega)]; simp (disch := omega) only [wI_sA, rdA, rdN, rdL, upd_e, upd_n]
    have m56 : M1.1 56 = M.1 56 := by rw [rd 56 (by omega)]; simp (disch := omega) only [wI_sA, rdA, rdN, rdL, upd_e, upd_n]
    refine ⟨_, rfl, c_X9_lay_ok a3 a9 (by rw [m56]; exact a2) (by rw [m56]; exact a8) hc hp t1 (by rw [m58]; exact r2) (by rw [m58]; exact r3) (fun q => absurd (occ.mp (by rw [m63] at q; exact q)) hfree) (fun _ => c_X9_goes0 (by omega) (by simp (disch := omega) only [wI_sA, rdA, rdN, rdL, upd_e, upd_n, m63]; exact hat) ?_)⟩
    simp only [gI]
    refine c_X9_comes a6 a9 (by simp (disch := omega) only [wI_sA, rdA, rdN, rdL, upd_e, upd_n, m56]; exact a5) (by simp (disch := omega) only [wI_sA, rdA, rdN, rdL, upd_e, upd_n, m56]; exact a8) (by omega) (by omega) hp3 ?_
    simp only [gI]
    have tT : tiR (wI M1 56 0 (nI 0)) nC nS p = tiC M nC nS p := by
      rw [tM]; exact tiR_cg (fun q _ _ => by simp (disch := omega) only [wI_sA, rdA, rdN, rdL, upd_e, upd_n]; rw [rd q (by omega)]; simp (disch := omega) only [wI_sA, rdA, rdN, rdL, upd_e, upd_n])
    rw [tT]
    have hh := half (w := tiC M nC nS p) (B := wI (wI (wI M1 56 0 (nI 0)) 63 (24 + c) (nI p)) 63 (29 + c) z) hzX hrX hsX hp gA (fun q _ _ => by
      by_cases e : q = 63
      · subst e; simp (disch := omega) only [wI_sA, rdA, rdN, rdL, upd_e, upd_n, m63]
      · simp (disch := omega) only [wI_sA, rdA, rdN, rdL, upd_e, upd_n]; rw [rd q (by omega)]; simp (disch := omega) only [wI_sA, rdA, rdN, rdL, upd_e, upd_n]) (fun q _ _ => by rw [hM1]; simp (disch := omega) only [wI_sA, rdA, rdN, rdL, upd_e, upd_n])
    refine ⟨by rw [hh.1], nP, nC, nS, tl, sn, tn, hN.scene (fun q hq => ?_) (fun k hk => ?_) ?_ hh.2⟩
    · rw [msR_rd (by omega)]; simp (disch := omega) only [wI_sA, rdA, rdN, rdL, upd_e, upd_n]; rw [rd q (by omega)]; simp (disch := omega) only [wI_sA, rdA, rdN, rdL, upd_e, upd_n]
    · rw [msR_rd (by omega)]; simp (disch := omega) only [wI_sA, rdA, rdN, rdL, upd_e, upd_n, m56]
    · rw [msR_2]; exact rd2
  · -- it sat: it goes first
    rcases h3.s hc with v | ⟨v1, v2, v3, p1, hp1, v4, v5, v6⟩
    · exact absurd v.1 h0
    have hp13 : p1 < 3 := by omega
    refine c_X4_liftStone a6 a9 a4 a7 (by omega) hp13 v4 ?_
    simp only [gI]
    have hs0 := h3.goneS a6 a9 hc
    have hz0 : RSz (wI (wI (wI M 12 c (nI 0)) 63 (24 + c) (-9)) 63 (29 + c) (nI 0)) nP nC nS := h1.cg (fun k _ _ => by simp (disch := omega) only [wI_sA, rdA, rdN, rdL, upd_e, upd_n]) (fun k _ _ => by simp (disch := omega) only [wI_sA, rdA, rdN, rdL, upd_e, upd_n])
    have hr0 : RRo (wI (wI (wI M 12 c (nI 0)) 63 (24 + c) (-9)) 63 (29 + c) (nI 0)) nP nC nS := h2.cg (fun q hq => by simp (disch := omega) only [wI_sA, rdA, rdN, rdL, upd_e, upd_n])
    have g0 : agC (wI M 12 c (nI 0)) (wI (wI (wI M 12 c (nI 0)) 63 (24 + c) (-9)) 63 (29 + c) (nI 0)) := fun q _ _ => by simp (disch := omega) only [wI_sA, rdA, rdN, rdL, upd_e, upd_n]
    have tM := ti_eq h1 h2 h3 hp1
    generalize hM1 : msC (wI M 12 c (nI 0)) nC (tiC (wI M 12 c (nI 0)) nC nS p1) (tiC M nC nS p1) (nI p1) = M1
    have rd : ∀ q, ¬ q = 10 → M1.1 q = (wI M 12 c (nI 0)).1 q := fun q hq => by rw [← hM1]; exact msC_rd hq
    have rd2 : M1.2 = M.2 := by rw [← hM1, msC_2]; rfl
    refine c_X4_putStone a6 a9 (by rw [rd 1 (by omega)]; simp (disch := omega) only [wI_sA, rdA, rdN, rdL, upd_e, upd_n]; exact a4) (by rw [rd 1 (by omega)]; simp (disch := omega) only [wI_sA, rdA, rdN, rdL, upd_e, upd_n]; exact a7) (by omega) hp3 ?_
    simp only [gI]
    generalize hM3 : msC (wI (wI M1 11 c (nI p)) 12 c z) nC (tiC (wI (wI M1 11 c (nI p)) 12 c z) nC nS p) (tiC M1 nC nS p) (nI p) = M3
    have rd3 : ∀ q, ¬ q = 10 → M3.1 q = (wI (wI M1 11 c (nI p)) 12 c z).1 q := fun q hq => by rw [← hM3]; exact msC_rd hq
    have rd4 : M3.2 = M.2 := by rw [← hM3, msC_2]; exact rd2
    have m63 : M3.1 63 = M.1 63 := by rw [rd3 63 (by omega)]; simp (disch := omega) only [wI_sA, rdA, rdN, rdL, upd_e, upd_n]; rw [rd 63 (by omega)]; simp (disch := omega) only [wI_sA, rdA, rdN, rdL, upd_e, upd_n]
    have m58 : M3.1 58 = M.1 58 := by rw [rd3 58 (by omega)]; simp (disch := omega) only [wI_sA, rdA, rdN, rdL, upd_e, upd_n]; rw [rd 58 (by omega)]; simp (disch := omega) only [wI_sA, rdA, rdN, rdL, upd_e, upd_n]
    have m56 : M3.1 56 = M.1 56 := by rw [rd3 56 (by omega)]; simp (disch := omega) only [wI_sA, rdA, rdN, rdL, upd_e, upd_n]; rw [rd 56 (by omega)]; simp (disch := omega) only [wI_sA, rdA, rdN, rdL, upd_e, upd_n]
    have mq : ∀ q, ¬ (10 ≤ q ∧ q ≤ 12) → M3.1 q = M.1 q := fun q hq => by rw [rd3 q (by omega)]; simp (disch := omega) only [wI_sA, rdA, rdN, rdL, upd_e, upd_n]; rw [rd q (by omega)]; simp (disch := omega) only [wI_sA, rdA, rdN, rdL, upd_e, upd_n]
    refine ⟨_, rfl, c_X9_lay_ok a3 a9 (by rw [m56]; exact a2) (by rw [m56]; exact a8) hc hp t1 (by rw [m58]; exact r2) (by rw [m58]; exact r3) (fun q => absurd (occ.mp (by rw [m63] at q; exact q)) hfree) (fun _ => c_X9_goes (p := p1) a6 a9 (by simp (disch := omega) only [wI_sA, rdA, rdN, rdL, upd_e, upd_n, m56]; exact a5) (by simp (disch := omega) only [wI_sA, rdA, rdN, rdL, upd_e, upd_n, m56]; exact a8) (by omega) (by omega) hp13 (by simp (disch := omega) only [wI_sA, rdA, rdN, rdL, upd_e, upd_n, m63]; rw [v1, v4]) ?_)⟩
    simp only [gI]
    have tT : tiR (wI M3 56 0 (nI 0)) nC nS p1 = tiC M nC nS p1 := by
      rw [tM]; exact tiR_cg (fun q _ _ => by simp (disch := omega) only [wI_sA, rdA, rdN, rdL, upd_e, upd_n]; rw [mq q (by omega)])
    rw [tT]
    have gB : agR (wI (wI (wI M3 56 0 (nI 0)) 63 (24 + c) (-9)) 63 (29 + c) (nI 0)) (wI (wI (wI M 12 c (nI 0)) 63 (24 + c) (-9)) 63 (29 + c) (nI 0)) := fun q _ _ => by
      by_cases e : q = 63
      · subst e; simp (disch := omega) only [wI_sA, rdA, rdN, rdL, upd_e, upd_n, m63]
      · simp (disch := omega) only [wI_sA, rdA, rdN, rdL, upd_e, upd_n]; rw [mq q (by omega)]
    obtain ⟨e1, X1, zX1, rX1, sX1, x2, cX1, bX1⟩ := first (w := tiC M nC nS p1) hz0 hr0 hs0 hp1 g0 gB
    rw [hM1] at cX1
    generalize hB1 : msR (wI (wI (wI M3 56 0 (nI 0)) 63 (24 + c) (-9)) 63 (29 + c) (nI 0)) nC (tiR (wI (wI (wI M3 56 0 (nI 0)) 63 (24 + c) (-9)) 63 (29 + c) (nI 0)) nC nS p1) (tiC M nC nS p1) (nI p1) = B1 at *
    have rb : ∀ q, ¬ q = 63 → B1.1 q = (wI M3 56 0 (nI 0)).1 q := fun q hq => by rw [← hB1, msR_rd hq]; simp (disch := omega) only [wI_sA, rdA, rdN, rdL, upd_e, upd_n]
    have rb2 : B1.2 = M.2 := by rw [← hB1, msR_2]; exact rd4
    refine c_X9_comes a6 a9 (by rw [rb 56 (by omega)]; simp (disch := omega) only [wI_sA, rdA, rdN, rdL, upd_e, upd_n, m56]; exact a5) (by rw [rb 56 (by omega)]; simp (disch := omega) only [wI_sA, rdA, rdN, rdL, upd_e, upd_n, m56]; exact a8) (by omega) (by omega) hp3 ?_
    simp only [gI]
    have x2' : X1.1 2 = M.1 2 := by rw [x2]; simp (disch := omega) only [wI_sA, rdA, rdN, rdL, upd_e, upd_n]
    have hsX := sX1.comeS a6 a9 hc hp t1 (by rw [x2']; exact t2) (by rw [x2']; exact t3)
    have hzX : RSz (wI (wI (wI (wI X1 11 c (nI p)) 12 c z) 63 (24 + c) (nI p)) 63 (29 + c) z) nP nC nS := zX1.cg (fun k _ _ => by simp (disch := omega) only [wI_sA, rdA, rdN, rdL, upd_e, upd_n]) (fun k _ _ => by simp (disch := omega) only [wI_sA, rdA, rdN, rdL, upd_e, upd_n])
    have hrX : RRo (wI (wI (wI (wI X1 11 c (nI p)) 12 c z) 63 (24 + c) (nI p)) 63 (29 + c) z) nP nC nS := rX1.cg (fun q hq => by simp (disch := omega) only [wI_sA, rdA, rdN, rdL, upd_e, upd_n])
    have gA : agC (wI (wI M1 11 c (nI p)) 12 c z) (wI (wI (wI (wI X1 11 c (nI p)) 12 c z) 63 (24 + c) (nI p)) 63 (29 + c) z) := fun q g1 g2 => by
      have w8 := cX1 11 (by omega) (by omega)
      have w9 := cX1 12 (by omega) (by omega)
      by_cases e : q = 11
      · subst e; simp (disch := omega) only [wI_sA, rdA, rdN, rdL, upd_e, upd_n, w8]
      · by_cases e2 : q = 12
        · subst e2; simp (disch := omega) only [wI_sA, rdA, rdN, rdL, upd_e, upd_n, w9]
        · simp (disch := omega) only [wI_sA, rdA, rdN, rdL, upd_e, upd_n]; exact cX1 q g1 g2
    have w63 := bX1 63 (by omega) (by omega)
    have tW : tiR B1 nC nS p = tiC M1 nC nS p := by rw [tiR_cg bX1, tiC_cg cX1, ti_eq zX1 rX1 sX1 hp]
    rw [tW]
    have hh := half (w := tiC M1 nC nS p) (B := wI (wI B1 63 (24 + c) (nI p)) 63 (29 + c) z) hzX hrX hsX hp gA (fun q g1 g2 => by
      by_cases e : q = 63
      · subst e; simp (disch := omega) only [wI_sA, rdA, rdN, rdL, upd_e, upd_n, w63]
      · simp (disch := omega) only [wI_sA, rdA, rdN, rdL, upd_e, upd_n]; exact bX1 q g1 g2) (fun q g1 g2 => by rw [hM3]; simp (disch := omega) only [wI_sA, rdA, rdN, rdL, upd_e, upd_n]; rw [rb q (by omega)]; simp (disch := omega) only [wI_sA, rdA, rdN, rdL, upd_e, upd_n])
    refine ⟨by rw [hh.1, e1], nP, nC, nS, tl, sn, tn, hN.scene (fun q hq => ?_) (fun k hk => ?_) ?_ hh.2⟩
    · rw [msR_rd (by omega)]; simp (disch := omega) only [wI_sA, rdA, rdN, rdL, upd_e, upd_n]; rw [rb q (by omega)]; simp (disch := omega) only [wI_sA, rdA, rdN, rdL, upd_e, upd_n]; rw [mq q (by omega)]
    · rw [msR_rd (by omega)]; simp (disch := omega) only [wI_sA, rdA, rdN, rdL, upd_e, upd_n]; rw [rb 56 (by omega)]; simp (disch := omega) only [wI_sA, rdA, rdN, rdL, upd_e, upd_n, m56]
    · rw [msR_2]; exact rb2
