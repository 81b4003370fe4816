/-! the class: roster and scene, what is only read -/
theorem c_X3_hasPlank {G : GG} {d : Nat} {M : PM} {Q : Option Value → PM → Prop} {x : Int32} {n : Nat} (hM : M.1 1 5 = nI n) (hQ : Q (some (.int (bI (inR x n)))) M) : PC G (d + 1) m_X3_hasPlank [.ref 1, .int x] M Q := by
  refine PC.of ok_X3_hasPlank (Nat.le_of_ble_eq_true rfl) (g_X3_hasPlank_0 ?_)
  simp only [n01a, n01b, true_and, hM]
  refine b2 (fun h => ?_) (fun h => b2 (fun h2 => ?_) (fun h2 => ?_))
  · rw [bI_f (inR_n (Or.inl h))] at hQ; exact hQ
  · rw [bI_f (inR_n (Or.inr h2))] at hQ; exact hQ
  · rw [bI_t ⟨Int32.not_lt.mp h, Int32.not_le.mp h2⟩] at hQ; exact hQ
theorem c_X3_hasChild {G : GG} {d : Nat} {M : PM} {Q : Option Value → PM → Prop} {x : Int32} {n : Nat} (hM : M.1 1 6 = nI n) (hQ : Q (some (.int (bI (inR x n)))) M) : PC G (d + 1) m_X3_hasChild [.ref 1, .int x] M Q := by
  refine PC.of ok_X3_hasChild (Nat.le_of_ble_eq_true rfl) (g_X3_hasChild_0 ?_)
  simp only [n01a, n01b, true_and, hM]
  refine b2 (fun h => ?_) (fun h => b2 (fun h2 => ?_) (fun h2 => ?_))
  · rw [bI_f (inR_n (Or.inl h))] at hQ; exact hQ
  · rw [bI_f (inR_n (Or.inr h2))] at hQ; exact hQ
  · rw [bI_t ⟨Int32.not_lt.mp h, Int32.not_le.mp h2⟩] at hQ; exact hQ
theorem c_X3_hasStone {G : GG} {d : Nat} {M : PM} {Q : Option Value → PM → Prop} {x : Int32} {n : Nat} (hM : M.1 1 7 = nI n) (hQ : Q (some (.int (bI (inR x n)))) M) : PC G (d + 1) m_X3_hasStone [.ref 1, .int x] M Q := by
  refine PC.of ok_X3_hasStone (Nat.le_of_ble_eq_true rfl) (g_X3_hasStone_0 ?_)
  simp only [n01a, n01b, true_and, hM]
  refine b2 (fun h => ?_) (fun h => b2 (fun h2 => ?_) (fun h2 => ?_))
  · rw [bI_f (inR_n (Or.inl h))] at hQ; exact hQ
  · rw [bI_f (inR_n (Or.inr h2))] at hQ; exact hQ
  · rw [bI_t ⟨Int32.not_lt.mp h, Int32.not_le.mp h2⟩] at hQ; exact hQ
/-- a plank, and a step that it has -/
def seatR (hf : Nat → Int32) (n : Nat) (p t : Int32) : Prop := ∃ j, j < n ∧ p = nI j ∧ ¬ t = 0 ∧ -(hf j) ≤ t ∧ t ≤ hf j
theorem c_X3_hasSeat {G : GG} {d : Nat} {M : PM} {Q : Option Value → PM → Prop} {p t : Int32} {n : Nat} (hn : n ≤ 3) (hM : M.1 1 5 = nI n) (hQ : Q (some (.int (bI (seatR (M.1 2) n p t)))) M) : PC G (d + 2) m_X3_hasSeat [.ref 1, .int p, .int t] M Q := by
  refine PC.of ok_X3_hasSeat (Nat.le_of_ble_eq_true rfl) (g_X3_hasSeat_0 (c_X3_hasPlank hM ?_))
  simp only [gI, n01a, n01b, true_and, bI_z]
  rcases inR_dec (x := p) (n := n) (by omega) with ⟨j, hj, rfl⟩ | hno
  · refine b0 (fun z => z (inR_y hj (by omega))) ?_
    simp (disch := omega) only [nle, nlt, neq, nz, nzl, nzg, nzp, nzn, nneg, nneg9, nI_add, ncl, vin, br_T, br_F, br_p, br_n, true_and, and_true, Nat.zero_add, rdA, rdN]
    have key : seatR (M.1 2) n (nI j) t ↔ (¬ t = 0 ∧ -(M.1 2 j) ≤ t ∧ t ≤ M.1 2 j) := by
      constructor
      · rintro ⟨j2, h1, h2, h3⟩
        rw [neq (by omega) (by omega)] at h2
        subst h2
        exact h3
      · intro h; exact ⟨j, hj, rfl, h⟩
    refine b2 (fun h => ?_) (fun h => b2 (fun h2 => ?_) (fun h2 => b2 (fun h3 => ?_) (fun h3 => ?_)))
    · rw [bI_f (fun z => (key.mp z).1 h)] at hQ; exact hQ
    · rw [bI_f (fun z => absurd (key.mp z).2.1 (Int32.not_le.mpr h2))] at hQ; exact hQ
    · rw [bI_f (fun z => absurd (key.mp z).2.2 (Int32.not_le.mpr h3))] at hQ; exact hQ
    · rw [bI_t (key.mpr ⟨h, Int32.not_lt.mp h2, Int32.not_lt.mp h3⟩)] at hQ; exact hQ
  · refine b1 hno ?_
    rw [bI_f] at hQ
    · exact hQ
    · rintro ⟨j, hj, rfl, -⟩
      exact hno (inR_y hj (by omega))
theorem c_X3_allChildren {G : GG} {d : Nat} {M : PM} {Q : Option Value → PM → Prop} {n : Nat} (hM : M.1 1 6 = nI n) (hQ : Q (some (.int ((nI 1 <<< (nI n &&& 31)) - nI 1))) M) : PC G (d + 1) m_X3_allChildren [.ref 1] M Q := by
  refine PC.of ok_X3_allChildren (Nat.le_of_ble_eq_true rfl) (g_X3_allChildren_0 ?_)
  rw [hM]
  exact hQ
theorem c_X3_fits {G : GG} {d : Nat} {M : PM} {Q : Option Value → PM → Prop} {p a b : Nat} (hp : p < 3) (ha : a < 8) (hb : b < 8) (hQ : Q (some (.int (bI (absI (M.1 4 a - M.1 4 b) ≤ M.1 3 p)))) M) : PC G (d + 1) m_X3_fits [.ref 1, .int (nI p), .int (nI a), .int (nI b)] M Q := by
  refine PC.of ok_X3_fits (Nat.le_of_ble_eq_true rfl) (g_X3_fits_0 ?_)
  simp only [n01a, n01b, true_and]
  simp (disch := omega) only [nle, nlt, neq, nz, nzl, nzg, nzp, nzn, nneg, nneg9, nI_add, ncl, vin, br_T, br_F, br_p, br_n, true_and, and_true, Nat.zero_add, rdA, rdN, abs_c]
  refine b2 (fun h => ?_) (fun h => ?_)
  · rw [bI_f (Int32.not_le.mpr h)] at hQ; exact hQ
  · rw [bI_t (Int32.not_lt.mp h)] at hQ; exact hQ
def stCf (M : PM) (p : Int32) : Nat → Int32 := fun k => if M.1 11 k = p then M.1 6 k * M.1 12 k else nI 0
def stC (M : PM) (nS : Nat) (p : Int32) : Int32 := sumA (nI 0) (stCf M p) nS
theorem c_X4_stoneMoment {G : GG} {d : Nat} {M : PM} {Q : Option Value → PM → Prop} {n : Nat} (hn : n ≤ 5) (hM : M.1 1 7 = nI n) {p : Int32} (hQ : Q (some (.int (stC M n p))) M) : PC G (d + 1) m_X4_stoneMoment [.ref 7, .int p] M Q := by
  refine PC.of ok_X4_stoneMoment (Nat.le_of_ble_eq_true rfl) (g_X4_stoneMoment_0 ?_)
  refine up_ind (P := fun k => PX G d m_X4_stoneMoment Q 4 [some (.ref 7), some (.int p), some (.int (sumA (nI 0) (stCf M p) k)), some (.int (nI k))] [] M) ?_ ?_ 0 (Nat.zero_le n)
  · apply g_X4_stoneMoment_4
    simp (disch := omega) only [nle, nlt, neq, nz, nzl, nzg, nzp, nzn, nneg, nneg9, nI_add, ncl, vin, br_T, br_F, br_p, br_n, true_and, and_true, Nat.zero_add, rdA, rdN, hM]
    exact hQ
  · intro k hk ih
    apply g_X4_stoneMoment_4
    simp (disch := omega) only [nle, nlt, neq, nz, nzl, nzg, nzp, nzn, nneg, nneg9, nI_add, ncl, vin, br_T, br_F, br_p, br_n, true_and, and_true, Nat.zero_add, rdA, rdN, hM]
    rw [sumA] at ih
    refine b2 (fun h => ?_) (fun h => ?_)
    · simpa only [stCf, h, if_true] using ih
    · simpa only [stCf, h, if_false, add_n0] using ih
def moCf (M : PM) (p : Int32) : Nat → Int32 := fun c => if M.1 8 c = p then M.1 4 c * M.1 9 c else nI 0
def moC (M : PM) (nC nS : Nat) (p : Int32) : Int32 := sumA (stC M nS p) (moCf M p) nC
theorem c_X4_moment {G : GG} {d : Nat} {M : PM} {Q : Option Value → PM → Prop} {nC nS : Nat} (hC : nC ≤ 8) (hS : nS ≤ 5) (hM : M.1 1 6 = nI nC) (hM2 : M.1 1 7 = nI nS) {p : Int32} (hQ : Q (some (.int (moC M nC nS p))) M) : PC G (d + 2) m_X4_moment [.ref 7, .int p] M Q := by
  refine PC.of ok_X4_moment (Nat.le_of_ble_eq_true rfl) (g_X4_moment_0 (c_X4_stoneMoment hS hM2 ?_))
  refine up_ind (P := fun k => PX G (d + 1) m_X4_moment Q 8 [some (.ref 7), some (.int p), some (.int (sumA (stC M nS p) (moCf M p) k)), some (.int (nI k))] [] M) ?_ ?_ 0 (Nat.zero_le nC)
  · apply g_X4_moment_8
    simp (disch := omega) only [nle, nlt, neq, nz, nzl, nzg, nzp, nzn, nneg, nneg9, nI_add, ncl, vin, br_T, br_F, br_p, br_n, true_and, and_true, Nat.zero_add, rdA, rdN, hM]
    exact hQ
  · intro k hk ih
    apply g_X4_moment_8
    simp (disch := omega) only [nle, nlt, neq, nz, nzl, nzg, nzp, nzn, nneg, nneg9, nI_add, ncl, vin, br_T, br_F, br_p, br_n, true_and, and_true, Nat.zero_add, rdA, rdN, hM]
    rw [sumA] at ih
    refine b2 (fun h => ?_) (fun h => ?_)
    · simpa only [moCf, h, if_true] using ih
    · simpa only [moCf, h, if_false, add_n0] using ih
theorem c_X4_tilt {G : GG} {d : Nat} {M : PM} {Q : Option Value → PM → Prop} {nC nS : Nat} (hC : nC ≤ 8) (hS : nS ≤ 5) (hM : M.1 1 6 = nI nC) (hM2 : M.1 1 7 = nI nS) {p : Nat} (hp : p < 3) (hQ : Q (some (.int (tlt (M.1 3 p) (moC M nC nS (nI p))))) M) : PC G (d + 3) m_X4_tilt [.ref 7, .int (nI p)] M Q := by
  refine PC.of ok_X4_tilt (Nat.le_of_ble_eq_true rfl) (g_X4_tilt_0 (c_X4_moment hC hS hM hM2 ?_))
  simp only [gI]
  simp (disch := omega) only [nle, nlt, neq, nz, nzl, nzg, nzp, nzn, nneg, nneg9, nI_add, ncl, vin, br_T, br_F, br_p, br_n, true_and, and_true, Nat.zero_add, rdA, rdN, abs_c]
  unfold tlt at hQ
  refine b2 (fun h => b2 (fun h2 => ?_) (fun h2 => ?_)) (fun h => ?_)
  · simpa only [h, h2, if_true] using hQ
  · simpa only [h, h2, if_true, if_false] using hQ
  · simpa only [h, if_false] using hQ
