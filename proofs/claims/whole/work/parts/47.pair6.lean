theorem first {X A B : PM} {nP nC nS p : Nat} {w : Int32} (hz : RSz X nP nC nS) (hr : RRo X nP nC nS) (hs : SR X nP nC nS 7 63 0) (hp : p < nP) (hA : agC A X) (hB : agR B X) :
    rsC A nC (tiC A nC nS p) w (nI p) = rsR B nC (tiR B nC nS p) w (nI p) ∧ ∃ X1, RSz X1 nP nC nS ∧ RRo X1 nP nC nS ∧ SR X1 nP nC nS 7 63 0 ∧ X1.1 2 = X.1 2 ∧ agC (msC A nC (tiC A nC nS p) w (nI p)) X1 ∧ agR (msR B nC (tiR B nC nS p) w (nI p)) X1 := by
  obtain ⟨e1, e2⟩ := settle_eq hz hr hs hp w
  have tA : tiC A nC nS p = tiC X nC nS p := tiC_cg hA
  have tB : tiR B nC nS p = tiR X nC nS p := tiR_cg hB
  have tX := ti_eq hz hr hs hp
  rw [tA, tB, tX]
  rw [tX] at e1 e2
  generalize tiR X nC nS p = tt at *
  refine ⟨by rw [hA.rs, hB.rs, e1], mix X nC tt w (nI p), hz.mx, hr.mx, e2, ?_, hA.ms, hB.ms⟩
  unfold mix
  rw [msR_rd (by omega), msC_rd (by omega)]
def atC (M : PM) (nC : Nat) (p t : Int32) : Prop := ∃ c, c < nC ∧ M.1 9 c = t ∧ M.1 8 c = p
theorem c_X4_hasChildAt {G : GG} {d : Nat} {M : PM} {Q : Option Value → PM → Prop} {n : Nat} {p t : Int32} (hn : n ≤ 8) (hM : M.1 1 6 = nI n) (hQ : Q (some (.int (bI (atC M n p t)))) M) : PC G (d + 1) m_X4_hasChildAt [.ref 7, .int p, .int t] M Q := by
  refine PC.of ok_X4_hasChildAt (Nat.le_of_ble_eq_true rfl) (g_X4_hasChildAt_0 ?_)
  refine up_ind (P := fun k => (∀ j, j < k → ¬ (M.1 9 j = t ∧ M.1 8 j = p)) → PX G d m_X4_hasChildAt Q 2 [some (.ref 7), some (.int p), some (.int t), some (.int (nI k))] [] M) ?_ ?_ 0 (Nat.zero_le n) (fun j hj => absurd hj (by omega))
  · intro hno
    apply g_X4_hasChildAt_2
    simp only [n01a, n01b, true_and]
    simp (disch := omega) only [nle, nlt, neq, nz, nzl, nzg, nzp, nzn, nneg, nneg9, nI_add, ncl, vin, br_T, br_F, br_p, br_n, true_and, and_true, Nat.zero_add, rdA, rdN, hM]
    rw [bI_f (fun ⟨c, hc, z1, z2⟩ => hno c hc ⟨z1, z2⟩)] at hQ
    exact hQ
  · intro k hk ih hno
    apply g_X4_hasChildAt_2
    simp only [n01a, n01b, true_and]
    simp (disch := omega) only [nle, nlt, neq, nz, nzl, nzg, nzp, nzn, nneg, nneg9, nI_add, ncl, vin, br_T, br_F, br_p, br_n, true_and, and_true, Nat.zero_add, rdA, rdN, hM]
    have nx : ¬ (M.1 9 k = t ∧ M.1 8 k = p) → PX G d m_X4_hasChildAt Q 2 [some (.ref 7), some (.int p), some (.int t), some (.int (nI (k + 1)))] [] M := fun z => ih (fun j hj => by
      by_cases e : j = k
      · subst e; exact z
      · exact hno j (by omega))
    refine b2 (fun z => b2 (fun z2 => ?_) (fun z2 => nx (fun q => z2 q.2))) (fun z => nx (fun q => z q.1))
    rw [bI_t ⟨k, hk, z, z2⟩] at hQ
    exact hQ
def atS (M : PM) (nS : Nat) (p t : Int32) : Prop := ∃ c, c < nS ∧ M.1 12 c = t ∧ M.1 11 c = p
theorem c_X4_hasStoneAt {G : GG} {d : Nat} {M : PM} {Q : Option Value → PM → Prop} {n : Nat} {p t : Int32} (hn : n ≤ 5) (hM : M.1 1 7 = nI n) (hQ : Q (some (.int (bI (atS M n p t)))) M) : PC G (d + 1) m_X4_hasStoneAt [.ref 7, .int p, .int t] M Q := by
  refine PC.of ok_X4_hasStoneAt (Nat.le_of_ble_eq_true rfl) (g_X4_hasStoneAt_0 ?_)
  refine up_ind (P := fun k => (∀ j, j < k → ¬ (M.1 12 j = t ∧ M.1 11 j = p)) → PX G d m_X4_hasStoneAt Q 2 [some (.ref 7), some (.int p), some (.int t), some (.int (nI k))] [] M) ?_ ?_ 0 (Nat.zero_le n) (fun j hj => absurd hj (by omega))
  · intro hno
    apply g_X4_hasStoneAt_2
    simp only [n01a, n01b, true_and]
    simp (disch := omega) only [nle, nlt, neq, nz, nzl, nzg, nzp, nzn, nneg, nneg9, nI_add, ncl, vin, br_T, br_F, br_p, br_n, true_and, and_true, Nat.zero_add, rdA, rdN, hM]
    rw [bI_f (fun ⟨c, hc, z1, z2⟩ => hno c hc ⟨z1, z2⟩)] at hQ
    exact hQ
  · intro k hk ih hno
    apply g_X4_hasStoneAt_2
    simp only [n01a, n01b, true_and]
    simp (disch := omega) only [nle, nlt, neq, nz, nzl, nzg, nzp, nzn, nneg, nneg9, nI_add, ncl, vin, br_T, br_F, br_p, br_n, true_and, and_true, Nat.zero_add, rdA, rdN, hM]
    have nx : ¬ (M.1 12 k = t ∧ M.1 11 k = p) → PX G d m_X4_hasStoneAt Q 2 [some (.ref 7), some (.int p), some (.int t), some (.int (nI (k + 1)))] [] M := fun z => ih (fun j hj => by
      by_cases e : j = k
      · subst e; exact z
      · exact hno j (by omega))
    refine b2 (fun z => b2 (fun z2 => ?_) (fun z2 => nx (fun q => z2 q.2))) (fun z => nx (fun q => z q.1))
    rw [bI_t ⟨k, hk, z, z2⟩] at hQ
    exact hQ
/-- the reference's sits, lay: refused; or the way on -/
theorem c_X9_sits_no {G : GG} {d : Nat} {M : PM} {Q : Option Value → PM → Prop} {nP nC : Nat} {x y z : Int32} (hP : nP ≤ 3) (hC : nC ≤ 8) (hM : M.1 56 14 = nI nP) (hM1 : M.1 56 15 = nI nC) (hno : ¬ inR x nC ∨ ¬ seatR (M.1 58) nP y z) (hQ : Q (some (.int (-1))) (wI M 56 0 (nI 0))) : PC G (d + 4) m_X9_sits [.ref 56, .int x, .int y, .int z] M Q := by
  refine PC.of ok_X9_sits (Nat.le_of_ble_eq_true rfl) (g_X9_sits_0 (c_X9_isChild (n := nC) (by simp (disch := omega) only [wI_sA, rdA, rdN, rdL, upd_e, upd_n]; exact hM1) hC ?_))
  simp only [gI, bI_z]
  refine b2 (fun _ => hQ) (fun q1 => c_X9_isPlank (n := nP) (by simp (disch := omega) only [wI_sA, rdA, rdN, rdL, upd_e, upd_n]; exact hM) hP ?_)
  simp only [gI, bI_z]
  refine b2 (fun _ => hQ) (fun q2 => b2 (fun _ => hQ) (fun q3 => ?_))
  rcases inR_dec (x := y) (n := nP) (by omega) with ⟨j, hj, rfl⟩ | hn
  · simp (disch := omega) only [nle, nlt, neq, nz, nzl, nzg, nzp, nzn, nneg, nneg9, nI_add, ncl, vin, br_T, br_F, br_p, br_n, true_and, and_true, Nat.zero_add, rdA, rdN, wI_sA]
    refine c_X9_in ?_
    simp only [gI, bI_z]
    refine b1 (fun q4 => ?_) hQ
    rcases hno with h1 | h1
    · exact absurd h1 q1
    · exact h1 ⟨j, hj, rfl, q3, q4.1, q4.2⟩
  · exact absurd hn q2
theorem c_X9_sits_ok {G : GG} {d : Nat} {M : PM} {Q : Option Value → PM → Prop} {nP nC c p : Nat} {z : Int32} (hP : nP ≤ 3) (hC : nC ≤ 8) (hM : M.1 56 14 = nI nP) (hM1 : M.1 56 15 = nI nC) (hc : c < nC) (hp : p < nP) (hz : ¬ z = 0) (hz1 : -(M.1 58 p) ≤ z) (hz2 : z ≤ M.1 58 p)
    (hq : (∃ e, e < nC ∧ M.1 63 e = nI p ∧ M.1 63 (8 + e) = z) → Q (some (.int (-2))) (wI M 56 0 (nI 0)))
    (hq2 : (¬ ∃ e, e < nC ∧ M.1 63 e = nI p ∧ M.1 63 (8 + e) = z) → PC G (d + 3) m_X9_goes [.ref 56, .int (nI c), .int (nI (8 + c))] (wI M 56 0 (nI 0)) (fun v N1 => gI v (fun r1 => PC G (d + 3) m_X9_comes [.ref 56, .int (nI c), .int (nI (8 + c)), .int (nI p), .int z] N1 (fun v N2 => gI v (fun r2 => Q (some (.int (r1 + r2))) N2))))) : PC G (d + 4) m_X9_sits [.ref 56, .int (nI c), .int (nI p), .int z] M Q := by
  refine PC.of ok_X9_sits (Nat.le_of_ble_eq_true rfl) (g_X9_sits_0 (c_X9_isChild (n := nC) (by simp (disch := omega) only [wI_sA, rdA, rdN, rdL, upd_e, upd_n]; exact hM1) hC ?_))
  simp only [gI, bI_z]
  refine b0 (fun q => q (inR_y hc (by omega))) (c_X9_isPlank (n := nP) (by simp (disch := omega) only [wI_sA, rdA, rdN, rdL, upd_e, upd_n]; exact hM) hP ?_)
  simp only [gI, bI_z]
  refine b0 (fun q => q (inR_y hp (by omega))) (b0 hz ?_)
  simp (disch := omega) only [nle, nlt, neq, nz, nzl, nzg, nzp, nzn, nneg, nneg9, nI_add, ncl, vin, br_T, br_F, br_p, br_n, true_and, and_true, Nat.zero_add, rdA, rdN, wI_sA]
  refine c_X9_in ?_
  simp only [gI, bI_z]
  refine b0 (fun q => q ⟨hz1, hz2⟩) ?_
  have e15 : (wI M 56 0 (nI 0)).1 56 15 = nI nC := by simp (disch := omega) only [wI_sA, rdA, rdN, rdL, upd_e, upd_n]; exact hM1
  have e63 : (wI M 56 0 (nI 0)).1 63 = M.1 63 := by simp (disch := omega) only [wI_sA, rdA, rdN, rdL, upd_e, upd_n]
  show PX G (d + 3) m_X9_sits Q 50 [some (.ref 56), some (.int (nI c)), some (.int (nI p)), some (.int z), some (.int (nI 0))] [] (wI M 56 0 (nI 0))
  generalize wI M 56 0 (nI 0) = N at *
  refine up_ind (P := fun k => (∀ j, j < k → ¬ (M.1 63 j = nI p ∧ M.1 63 (8 + j) = z)) → PX G (d + 3) m_X9_sits Q 50 [some (.ref 56), some (.int (nI c)), some (.int (nI p)), some (.int z), some (.int (nI k))] [] N) ?_ ?_ 0 (Nat.zero_le nC) (fun j hj => absurd hj (by omega))
  · intro hno
    apply g_X9_sits_50
    simp (disch := omega) only [nle, nlt, neq, nz, nzl, nzg, nzp, nzn, nneg, nneg9, nI_add, ncl, vin, br_T, br_F, br_p, br_n, true_and, and_true, Nat.zero_add, rdA, rdN, e15]
    exact hq2 (fun ⟨e, he, q1, q2⟩ => hno e he ⟨q1, q2⟩)
  · intro k hk ih hno
    apply g_X9_sits_50
    simp (disch := omega) only [nle, nlt, neq, nz, nzl, nzg, nzp, nzn, nneg, nneg9, nI_add, ncl, vin, br_T, br_F, br_p, br_n, true_and, and_true, Nat.zero_add, rdA, rdN, e15, e63]
    have nx : ¬ (M.1 63 k = nI p ∧ M.1 63 (8 + k) = z) → PX G (d + 3) m_X9_sits Q 50 [some (.ref 56), some (.int (nI c)), some (.int (nI p)), some (.int z), some (.int (nI (k + 1)))] [] N := fun q => ih (fun j hj => by
      by_cases e : j = k
      · subst e; exact q
      · exact hno j (by omega))
    exact b2 (fun q1 => b2 (fun q2 => hq ⟨k, hk, q1, q2⟩) (fun q2 => nx (fun q => q2 q.2))) (fun q1 => nx (fun q => q1 q.1))
