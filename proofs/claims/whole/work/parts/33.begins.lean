/-- what begins() leaves in s -/
def bgn (j : Nat) : Int32 := if j < 8 ∨ (24 ≤ j ∧ j < 29) then -9 else nI 0
theorem c_X9_begins {G : GG} {d : Nat} {M : PM} {Q : Option Value → PM → Prop} (hQ : Q none (sA M 63 (fo bgn (M.1 63) 0 34))) : PC G (d + 2) m_X9_begins [.ref 56] M Q := by
  refine PC.of ok_X9_begins (Nat.le_of_ble_eq_true rfl) (g_X9_begins_0 ?_)
  have key := up_ind (P := fun k => PX G (d + 1) m_X9_begins Q 2 [some (.ref 56), some (.int (nI k))] [] (sA M 63 (fo bgn (M.1 63) 0 k))) (n := 34) ?_ ?_ 0 (Nat.zero_le _)
  · rw [sA_fo0] at key
    exact key
  · apply g_X9_begins_2
    simp (disch := omega) only [nle, nlt, neq, nz, nzl, nzg, nzp, nzn, nneg, nneg9, nI_add, ncl, vin, br_T, br_F, br_p, br_n, true_and, and_true, Nat.zero_add, rdA, rdN]
    exact hQ
  · intro k hk ih
    apply g_X9_begins_2
    simp (disch := omega) only [nle, nlt, neq, nz, nzl, nzg, nzp, nzn, nneg, nneg9, nI_add, ncl, vin, br_T, br_F, br_p, br_n, true_and, and_true, Nat.zero_add, rdA, rdN]
    refine c_X9_in ?_
    simp only [gI, bI_z]
    simp (disch := omega) only [nle, nlt, neq, nz, nzl, nzg, nzp, nzn, nneg, nneg9, nI_add, ncl, vin, br_T, br_F, br_p, br_n, true_and, and_true, Nat.zero_add, rdA, rdN]
    refine b2 (fun h => ?_) (fun h => ?_)
    · refine c_X9_in ?_
      simp only [gI, bI_z]
      simp (disch := omega) only [nle, nlt, neq, nz, nzl, nzg, nzp, nzn, nneg, nneg9, nI_add, ncl, vin, br_T, br_F, br_p, br_n, true_and, and_true, Nat.zero_add, rdA, rdN]
      refine b2 (fun h2 => ?_) (fun h2 => ?_)
      · rw [wI_fo0 (by unfold bgn; rw [if_neg (by omega)])]; exact ih
      · rw [wI_fo0 (by unfold bgn; rw [if_pos (by omega)])]; exact ih
    · rw [wI_fo0 (by unfold bgn; rw [if_pos (by omega)])]; exact ih
