/-! who sits, who leaves; what is laid, what is taken -/
theorem SP.up {f g : Nat → Int32} {nP : Nat} {a b c e : Int32} (h : SP f nP a b c e) (hfg : ∀ p, p < nP → f p = g p) : SP g nP a b c e := by
  refine h.imp id (fun q => ⟨q.1, q.2.1, q.2.2.1, ?_⟩)
  obtain ⟨p, hp, z1, z2, z3⟩ := q.2.2.2
  exact ⟨p, hp, z1, by rw [← hfg p hp]; exact z2, by rw [← hfg p hp]; exact z3⟩
/-- the reference's goes, at any of its two pairs of places -/
theorem c_X9_goes {G : GG} {d : Nat} {M : PM} {Q : Option Value → PM → Prop} {nC nS a b p : Nat} (hC : nC ≤ 8) (hS : nS ≤ 5) (hM : M.1 56 15 = nI nC) (hM2 : M.1 56 16 = nI nS) (ha : a < 34) (hb : b < 34) (hp : p < 3) (hat : M.1 63 a = nI p)
    (hQ : Q (some (.int (rsR (wI (wI M 63 a (-9)) 63 b (nI 0)) nC (tiR (wI (wI M 63 a (-9)) 63 b (nI 0)) nC nS p) (tiR M nC nS p) (nI p)))) (msR (wI (wI M 63 a (-9)) 63 b (nI 0)) nC (tiR (wI (wI M 63 a (-9)) 63 b (nI 0)) nC nS p) (tiR M nC nS p) (nI p))) : PC G (d + 5) m_X9_goes [.ref 56, .int (nI a), .int (nI b)] M Q := by
  refine PC.of ok_X9_goes (Nat.le_of_ble_eq_true rfl) (g_X9_goes_0 ?_)
  simp (disch := omega) only [nle, nlt, neq, nz, nzl, nzg, nzp, nzn, nneg, nneg9, nI_add, ncl, vin, br_T, br_F, br_p, br_n, true_and, and_true, Nat.zero_add, rdA, rdN, hat]
  refine c_X9_tiltOf hC hS hM hM2 hp ?_
  simp only [gI]
  try simp (disch := omega) only [nle, nlt, neq, nz, nzl, nzg, nzp, nzn, nneg, nneg9, nI_add, ncl, vin, br_T, br_F, br_p, br_n, true_and, and_true, Nat.zero_add, rdA, rdN]
  exact c_X9_bumps hC hS (by simp (disch := omega) only [wI_sA, rdA, rdN, rdL, upd_e, upd_n]; exact hM) (by simp (disch := omega) only [wI_sA, rdA, rdN, rdL, upd_e, upd_n]; exact hM2) hp hQ
theorem c_X9_goes0 {G : GG} {d : Nat} {M : PM} {Q : Option Value → PM → Prop} {a b : Nat} (ha : a < 34) (hat : M.1 63 a = -9) (hQ : Q (some (.int (nI 0))) M) : PC G (d + 1) m_X9_goes [.ref 56, .int (nI a), .int (nI b)] M Q := by
  refine PC.of ok_X9_goes (Nat.le_of_ble_eq_true rfl) (g_X9_goes_0 ?_)
  simp (disch := omega) only [nle, nlt, neq, nz, nzl, nzg, nzp, nzn, nneg, nneg9, nI_add, ncl, vin, br_T, br_F, br_p, br_n, true_and, and_true, Nat.zero_add, rdA, rdN, hat]
  exact hQ
theorem c_X9_comes {G : GG} {d : Nat} {M : PM} {Q : Option Value → PM → Prop} {nC nS a b p : Nat} {to : Int32} (hC : nC ≤ 8) (hS : nS ≤ 5) (hM : M.1 56 15 = nI nC) (hM2 : M.1 56 16 = nI nS) (ha : a < 34) (hb : b < 34) (hp : p < 3)
    (hQ : Q (some (.int (rsR (wI (wI M 63 a (nI p)) 63 b to) nC (tiR (wI (wI M 63 a (nI p)) 63 b to) nC nS p) (tiR M nC nS p) (nI p)))) (msR (wI (wI M 63 a (nI p)) 63 b to) nC (tiR (wI (wI M 63 a (nI p)) 63 b to) nC nS p) (tiR M nC nS p) (nI p))) : PC G (d + 5) m_X9_comes [.ref 56, .int (nI a), .int (nI b), .int (nI p), .int to] M Q := by
  refine PC.of ok_X9_comes (Nat.le_of_ble_eq_true rfl) (g_X9_comes_0 (c_X9_tiltOf hC hS hM hM2 hp ?_))
  simp only [gI]
  try simp (disch := omega) only [nle, nlt, neq, nz, nzl, nzg, nzp, nzn, nneg, nneg9, nI_add, ncl, vin, br_T, br_F, br_p, br_n, true_and, and_true, Nat.zero_add, rdA, rdN]
  exact c_X9_bumps hC hS (by simp (disch := omega) only [wI_sA, rdA, rdN, rdL, upd_e, upd_n]; exact hM) (by simp (disch := omega) only [wI_sA, rdA, rdN, rdL, upd_e, upd_n]; exact hM2) hp hQ
theorem c_X4_unseatChild {G : GG} {d : Nat} {M : PM} {Q : Option Value → PM → Prop} {nC nS c p : Nat} (hC : nC ≤ 8) (hS : nS ≤ 5) (hM : M.1 1 6 = nI nC) (hM2 : M.1 1 7 = nI nS) (hc : c < 8) (hp : p < 3) (hat : M.1 8 c = nI p)
    (hQ : Q (some (.int (rsC (wI M 9 c (nI 0)) nC (tiC (wI M 9 c (nI 0)) nC nS p) (tiC M nC nS p) (nI p)))) (msC (wI M 9 c (nI 0)) nC (tiC (wI M 9 c (nI 0)) nC nS p) (tiC M nC nS p) (nI p))) : PC G (d + 5) m_X4_unseatChild [.ref 7, .int (nI c)] M Q := by
  refine PC.of ok_X4_unseatChild (Nat.le_of_ble_eq_true rfl) (g_X4_unseatChild_0 ?_)
  simp (disch := omega) only [nle, nlt, neq, nz, nzl, nzg, nzp, nzn, nneg, nneg9, nI_add, ncl, vin, br_T, br_F, br_p, br_n, true_and, and_true, Nat.zero_add, rdA, rdN, hat]
  refine c_X4_tilt hC hS hM hM2 hp ?_
  simp only [gI]
  try simp (disch := omega) only [nle, nlt, neq, nz, nzl, nzg, nzp, nzn, nneg, nneg9, nI_add, ncl, vin, br_T, br_F, br_p, br_n, true_and, and_true, Nat.zero_add, rdA, rdN]
  exact c_X4_settle hC hS (by simp (disch := omega) only [wI_sA, rdA, rdN, rdL, upd_e, upd_n]; exact hM) (by simp (disch := omega) only [wI_sA, rdA, rdN, rdL, upd_e, upd_n]; exact hM2) hp hQ
theorem c_X4_liftStone {G : GG} {d : Nat} {M : PM} {Q : Option Value → PM → Prop} {nC nS c p : Nat} (hC : nC ≤ 8) (hS : nS ≤ 5) (hM : M.1 1 6 = nI nC) (hM2 : M.1 1 7 = nI nS) (hc : c < 5) (hp : p < 3) (hat : M.1 11 c = nI p)
    (hQ : Q (some (.int (rsC (wI M 12 c (nI 0)) nC (tiC (wI M 12 c (nI 0)) nC nS p) (tiC M nC nS p) (nI p)))) (msC (wI M 12 c (nI 0)) nC (tiC (wI M 12 c (nI 0)) nC nS p) (tiC M nC nS p) (nI p))) : PC G (d + 5) m_X4_liftStone [.ref 7, .int (nI c)] M Q := by
  refine PC.of ok_X4_liftStone (Nat.le_of_ble_eq_true rfl) (g_X4_liftStone_0 ?_)
  simp (disch := omega) only [nle, nlt, neq, nz, nzl, nzg, nzp, nzn, nneg, nneg9, nI_add, ncl, vin, br_T, br_F, br_p, br_n, true_and, and_true, Nat.zero_add, rdA, rdN, hat]
  refine c_X4_tilt hC hS hM hM2 hp ?_
  simp only [gI]
  try simp (disch := omega) only [nle, nlt, neq, nz, nzl, nzg, nzp, nzn, nneg, nneg9, nI_add, ncl, vin, br_T, br_F, br_p, br_n, true_and, and_true, Nat.zero_add, rdA, rdN]
  exact c_X4_settle hC hS (by simp (disch := omega) only [wI_sA, rdA, rdN, rdL, upd_e, upd_n]; exact hM) (by simp (disch := omega) only [wI_sA, rdA, rdN, rdL, upd_e, upd_n]; exact hM2) hp hQ
theorem c_X4_seatChild {G : GG} {d : Nat} {M : PM} {Q : Option Value → PM → Prop} {nC nS c p : Nat} {to : Int32} (hC : nC ≤ 8) (hS : nS ≤ 5) (hM : M.1 1 6 = nI nC) (hM2 : M.1 1 7 = nI nS) (hc : c < 8) (hp : p < 3)
    (hQ : Q (some (.int (rsC (wI (wI M 8 c (nI p)) 9 c to) nC (tiC (wI (wI M 8 c (nI p)) 9 c to) nC nS p) (tiC M nC nS p) (nI p)))) (msC (wI (wI M 8 c (nI p)) 9 c to) nC (tiC (wI (wI M 8 c (nI p)) 9 c to) nC nS p) (tiC M nC nS p) (nI p))) : PC G (d + 5) m_X4_seatChild [.ref 7, .int (nI c), .int (nI p), .int to] M Q := by
  refine PC.of ok_X4_seatChild (Nat.le_of_ble_eq_true rfl) (g_X4_seatChild_0 (c_X4_tilt hC hS hM hM2 hp ?_))
  simp only [gI]
  try simp (disch := omega) only [nle, nlt, neq, nz, nzl, nzg, nzp, nzn, nneg, nneg9, nI_add, ncl, vin, br_T, br_F, br_p, br_n, true_and, and_true, Nat.zero_add, rdA, rdN]
  exact c_X4_settle hC hS (by simp (disch := omega) only [wI_sA, rdA, rdN, rdL, upd_e, upd_n]; exact hM) (by simp (disch := omega) only [wI_sA, rdA, rdN, rdL, upd_e, upd_n]; exact hM2) hp hQ
theorem c_X4_putStone {G : GG} {d : Nat} {M : PM} {Q : Option Value → PM → Prop} {nC nS c p : Nat} {to : Int32} (hC : nC ≤ 8) (hS : nS ≤ 5) (hM : M.1 1 6 = nI nC) (hM2 : M.1 1 7 = nI nS) (hc : c < 5) (hp : p < 3)
    (hQ : Q (some (.int (rsC (wI (wI M 11 c (nI p)) 12 c to) nC (tiC (wI (wI M 11 c (nI p)) 12 c to) nC nS p) (tiC M nC nS p) (nI p)))) (msC (wI (wI M 11 c (nI p)) 12 c to) nC (tiC (wI (wI M 11 c (nI p)) 12 c to) nC nS p) (tiC M nC nS p) (nI p))) : PC G (d + 5) m_X4_putStone [.ref 7, .int (nI c), .int (nI p), .int to] M Q := by
  refine PC.of ok_X4_putStone (Nat.le_of_ble_eq_true rfl) (g_X4_putStone_0 (c_X4_tilt hC hS hM hM2 hp ?_))
  simp only [gI]
  try simp (disch := omega) only [nle, nlt, neq, nz, nzl, nzg, nzp, nzn, nneg, nneg9, nI_add, ncl, vin, br_T, br_F, br_p, br_n, true_and, and_true, Nat.zero_add, rdA, rdN]
  exact c_X4_settle hC hS (by simp (disch := omega) only [wI_sA, rdA, rdN, rdL, upd_e, upd_n]; exact hM) (by simp (disch := omega) only [wI_sA, rdA, rdN, rdL, upd_e, upd_n]; exact hM2) hp hQ
