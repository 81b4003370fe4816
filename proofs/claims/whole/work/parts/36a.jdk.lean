def bcX (x0 : Int32) : Int32 := ((((((((x0 - (((x0.toUInt32 >>> ((nI 1).toUInt32 &&& Int32.toUInt32 31)).toInt32) &&& (nI 1431655765))) &&& (nI 858993459)) + ((((x0 - (((x0.toUInt32 >>> ((nI 1).toUInt32 &&& Int32.toUInt32 31)).toInt32) &&& (nI 1431655765))).toUInt32 >>> ((nI 2).toUInt32 &&& Int32.toUInt32 31)).toInt32) &&& (nI 858993459))) + (((((x0 - (((x0.toUInt32 >>> ((nI 1).toUInt32 &&& Int32.toUInt32 31)).toInt32) &&& (nI 1431655765))) &&& (nI 858993459)) + ((((x0 - (((x0.toUInt32 >>> ((nI 1).toUInt32 &&& Int32.toUInt32 31)).toInt32) &&& (nI 1431655765))).toUInt32 >>> ((nI 2).toUInt32 &&& Int32.toUInt32 31)).toInt32) &&& (nI 858993459))).toUInt32 >>> ((nI 4).toUInt32 &&& Int32.toUInt32 31)).toInt32)) &&& (nI 252645135)) + (((((((x0 - (((x0.toUInt32 >>> ((nI 1).toUInt32 &&& Int32.toUInt32 31)).toInt32) &&& (nI 1431655765))) &&& (nI 858993459)) + ((((x0 - (((x0.toUInt32 >>> ((nI 1).toUInt32 &&& Int32.toUInt32 31)).toInt32) &&& (nI 1431655765))).toUInt32 >>> ((nI 2).toUInt32 &&& Int32.toUInt32 31)).toInt32) &&& (nI 858993459))) + (((((x0 - (((x0.toUInt32 >>> ((nI 1).toUInt32 &&& Int32.toUInt32 31)).toInt32) &&& (nI 1431655765))) &&& (nI 858993459)) + ((((x0 - (((x0.toUInt32 >>> ((nI 1).toUInt32 &&& Int32.toUInt32 31)).toInt32) &&& (nI 1431655765))).toUInt32 >>> ((nI 2).toUInt32 &&& Int32.toUInt32 31)).toInt32) &&& (nI 858993459))).toUInt32 >>> ((nI 4).toUInt32 &&& Int32.toUInt32 31)).toInt32)) &&& (nI 252645135)).toUInt32 >>> ((nI 8).toUInt32 &&& Int32.toUInt32 31)).toInt32)) + ((((((((x0 - (((x0.toUInt32 >>> ((nI 1).toUInt32 &&& Int32.toUInt32 31)).toInt32) &&& (nI 1431655765))) &&& (nI 858993459)) + ((((x0 - (((x0.toUInt32 >>> ((nI 1).toUInt32 &&& Int32.toUInt32 31)).toInt32) &&& (nI 1431655765))).toUInt32 >>> ((nI 2).toUInt32 &&& Int32.toUInt32 31)).toInt32) &&& (nI 858993459))) + (((((x0 - (((x0.toUInt32 >>> ((nI 1).toUInt32 &&& Int32.toUInt32 31)).toInt32) &&& (nI 1431655765))) &&& (nI 858993459)) + ((((x0 - (((x0.toUInt32 >>> ((nI 1).toUInt32 &&& Int32.toUInt32 31)).toInt32) &&& (nI 1431655765))).toUInt32 >>> ((nI 2).toUInt32 &&& Int32.toUInt32 31)).toInt32) &&& (nI 858993459))).toUInt32 >>> ((nI 4).toUInt32 &&& Int32.toUInt32 31)).toInt32)) &&& (nI 252645135)) + (((((((x0 - (((x0.toUInt32 >>> ((nI 1).toUInt32 &&& Int32.toUInt32 31)).toInt32) &&& (nI 1431655765))) &&& (nI 858993459)) + ((((x0 - (((x0.toUInt32 >>> ((nI 1).toUInt32 &&& Int32.toUInt32 31)).toInt32) &&& (nI 1431655765))).toUInt32 >>> ((nI 2).toUInt32 &&& Int32.toUInt32 31)).toInt32) &&& (nI 858993459))) + (((((x0 - (((x0.toUInt32 >>> ((nI 1).toUInt32 &&& Int32.toUInt32 31)).toInt32) &&& (nI 1431655765))) &&& (nI 858993459)) + ((((x0 - (((x0.toUInt32 >>> ((nI 1).toUInt32 &&& Int32.toUInt32 31)).toInt32) &&& (nI 1431655765))).toUInt32 >>> ((nI 2).toUInt32 &&& Int32.toUInt32 31)).toInt32) &&& (nI 858993459))).toUInt32 >>> ((nI 4).toUInt32 &&& Int32.toUInt32 31)).toInt32)) &&& (nI 252645135)).toUInt32 >>> ((nI 8).toUInt32 &&& Int32.toUInt32 31)).toInt32)).toUInt32 >>> ((nI 16).toUInt32 &&& Int32.toUInt32 31)).toInt32)) &&& (nI 63))
set_option maxRecDepth 100000 in
theorem bcX_N : ∀ m, m < 256 → bcX (nI m) = nI (popc m) := by decide +kernel
theorem c_bitCount {G : GG} {d : Nat} {M : PM} {Q : Option Value → PM → Prop} {m : Nat} (hm : m < 256) (hQ : Q (some (.int (nI (popc m)))) M) : PC G (d + 1) m_J6_bitCount_0f7a4 [.int (nI m)] M Q := by
  refine PC.of ok_J6_bitCount_0f7a4 (Nat.le_of_ble_eq_true rfl) (g_J6_bitCount_0f7a4_0 ?_)
  rw [← bcX_N m hm] at hQ
  exact hQ
def sgX (x0 : Int32) : Int32 := ((x0 >>> ((nI 31) &&& 31)) ||| (((-x0).toUInt32 >>> ((nI 31).toUInt32 &&& Int32.toUInt32 31)).toInt32))
theorem c_signum {G : GG} {d : Nat} {M : PM} {Q : Option Value → PM → Prop} {x : Int32} (hQ : Q (some (.int (sgX x))) M) : PC G (d + 1) m_J6_signum_0f7a4 [.int x] M Q := by
  refine PC.of ok_J6_signum_0f7a4 (Nat.le_of_ble_eq_true rfl) (g_J6_signum_0f7a4_0 ?_)
  exact hQ
/-- the class: sets of those who are nowhere, or on a plank -/
def idC (M : PM) : Nat → Bool := fun c => decide (M.1 9 c = 0)
theorem c_X4_idleChildren {G : GG} {d : Nat} {M : PM} {Q : Option Value → PM → Prop} {n : Nat} (hn : n ≤ 8) (hM : M.1 1 6 = nI n) (hQ : Q (some (.int (nI (mkN (idC M) n)))) M) : PC G (d + 1) m_X4_idleChildren [.ref 7] M Q := by
  refine PC.of ok_X4_idleChildren (Nat.le_of_ble_eq_true rfl) (g_X4_idleChildren_0 ?_)
  refine up_ind (P := fun k => PX G d m_X4_idleChildren Q 4 [some (.ref 7), some (.int (nI (mkN (idC M) k))), some (.int (nI k))] [] M) ?_ ?_ 0 (Nat.zero_le n)
  · apply g_X4_idleChildren_4
    simp (disch := omega) only [nle, nlt, neq, nz, nzl, nzg, nzp, nzn, nneg, nneg9, nI_add, ncl, vin, br_T, br_F, br_p, br_n, true_and, and_true, Nat.zero_add, rdA, rdN, hM]
    exact hQ
  · intro k hk ih
    apply g_X4_idleChildren_4
    simp (disch := omega) only [nle, nlt, neq, nz, nzl, nzg, nzp, nzn, nneg, nneg9, nI_add, ncl, vin, br_T, br_F, br_p, br_n, true_and, and_true, Nat.zero_add, rdA, rdN, hM]
    rw [mkN] at ih
    refine b2 (fun h => ?_) (fun h => ?_)
    · rw [or_bit (by omega) (mkN_lt _ _)]; simpa only [idC, h, decide_true, if_true] using ih
    · simpa only [idC, h, decide_false, if_false, Nat.add_zero, Bool.false_eq_true] using ih
def idS (M : PM) : Nat → Bool := fun c => decide (M.1 12 c = 0)
theorem c_X4_idleStones {G : GG} {d : Nat} {M : PM} {Q : Option Value → PM → Prop} {n : Nat} (hn : n ≤ 5) (hM : M.1 1 7 = nI n) (hQ : Q (some (.int (nI (mkN (idS M) n)))) M) : PC G (d + 1) m_X4_idleStones [.ref 7] M Q := by
  refine PC.of ok_X4_idleStones (Nat.le_of_ble_eq_true rfl) (g_X4_idleStones_0 ?_)
  refine up_ind (P := fun k => PX G d m_X4_idleStones Q 4 [some (.ref 7), some (.int (nI (mkN (idS M) k))), some (.int (nI k))] [] M) ?_ ?_ 0 (Nat.zero_le n)
  · apply g_X4_idleStones_4
    simp (disch := omega) only [nle, nlt, neq, nz, nzl, nzg, nzp, nzn, nneg, nneg9, nI_add, ncl, vin, br_T, br_F, br_p, br_n, true_and, and_true, Nat.zero_add, rdA, rdN, hM]
    exact hQ
  · intro k hk ih
    apply g_X4_idleStones_4
    simp (disch := omega) only [nle, nlt, neq, nz, nzl, nzg, nzp, nzn, nneg, nneg9, nI_add, ncl, vin, br_T, br_F, br_p, br_n, true_and, and_true, Nat.zero_add, rdA, rdN, hM]
    rw [mkN] at ih
    refine b2 (fun h => ?_) (fun h => ?_)
    · rw [or_bit (by omega) (mkN_lt _ _)]; simpa only [idS, h, decide_true, if_true] using ih
    · simpa only [idS, h, decide_false, if_false, Nat.add_zero, Bool.false_eq_true] using ih
def onC (M : PM) (p : Int32) : Nat → Bool := fun c => !decide (M.1 9 c = 0) && decide (M.1 8 c = p)
theorem c_X4_childrenOn {G : GG} {d : Nat} {M : PM} {Q : Option Value → PM → Prop} {n : Nat} (hn : n ≤ 8) (hM : M.1 1 6 = nI n) {p : Int32} (hQ : Q (some (.int (nI (mkN (onC M p) n)))) M) : PC G (d + 1) m_X4_childrenOn [.ref 7, .int p] M Q := by
  refine PC.of ok_X4_childrenOn (Nat.le_of_ble_eq_true rfl) (g_X4_childrenOn_0 ?_)
  refine up_ind (P := fun k => PX G d m_X4_childrenOn Q 4 [some (.ref 7), some (.int p), some (.int (nI (mkN (onC M p) k))), some (.int (nI k))] [] M) ?_ ?_ 0 (Nat.zero_le n)
  · apply g_X4_childrenOn_4
    simp (disch := omega) only [nle, nlt, neq, nz, nzl, nzg, nzp, nzn, nneg, nneg9, nI_add, ncl, vin, br_T, br_F, br_p, br_n, true_and, and_true, Nat.zero_add, rdA, rdN, hM]
    exact hQ
  · intro k hk ih
    apply g_X4_childrenOn_4
    simp (disch := omega) only [nle, nlt, neq, nz, nzl, nzg, nzp, nzn, nneg, nneg9, nI_add, ncl, vin, br_T, br_F, br_p, br_n, true_and, and_true, Nat.zero_add, rdA, rdN, hM]
    rw [mkN] at ih
    refine b2 (fun h => ?_) (fun h => b2 (fun h2 => ?_) (fun h2 => ?_))
    · simpa only [onC, h, decide_true, Bool.not_true, Bool.false_and, if_false, Nat.add_zero, Bool.false_eq_true] using ih
    · rw [or_bit (by omega) (mkN_lt _ _)]; simpa only [onC, h, h2, decide_false, decide_true, Bool.not_false, Bool.true_and, if_true] using ih
    · simpa only [onC, h, h2, decide_false, Bool.not_false, Bool.and_false, if_false, Nat.add_zero, Bool.false_eq_true] using ih
theorem c_X4_seatedChildren {G : GG} {d : Nat} {M : PM} {Q : Option Value → PM → Prop} {n : Nat} (hn : n ≤ 8) (hM : M.1 1 6 = nI n) (hQ : Q (some (.int (nI (n - cB (idC M) n)))) M) : PC G (d + 2) m_X4_seatedChildren [.ref 7] M Q := by
  refine PC.of ok_X4_seatedChildren (Nat.le_of_ble_eq_true rfl) (g_X4_seatedChildren_0 (c_X4_idleChildren hn hM ?_))
  have h1 := mkN_lt (idC M) n
  have h2 : (2 : Nat) ^ n ≤ 2 ^ 8 := Nat.pow_le_pow_right (by decide) hn
  refine c_bitCount (by omega) ?_
  rw [popc_mk _ _ hn]
  simp only [gI]
  rw [hM, nsub (cB_le _ _)]
  exact hQ
