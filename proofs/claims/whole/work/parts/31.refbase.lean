/-! the reference: small methods -/
theorem c_X9_in {G : GG} {d : Nat} {M : PM} {Q : Option Value → PM → Prop} {x a b : Int32} (hQ : Q (some (.int (bI (a ≤ x ∧ x ≤ b)))) M) : PC G (d + 1) m_X9_in [.int x, .int a, .int b] M Q := by
  refine PC.of ok_X9_in (Nat.le_of_ble_eq_true rfl) (g_X9_in_0 ?_)
  simp only [n01a, n01b, true_and]
  refine b2 (fun h => ?_) (fun h => b2 (fun h2 => ?_) (fun h2 => ?_))
  · rw [bI_f (fun z => absurd z.1 (by rw [Int32.not_le]; exact h))] at hQ; exact hQ
  · rw [bI_f (fun z => absurd z.2 (by rw [Int32.not_le]; exact h2))] at hQ; exact hQ
  · rw [bI_t ⟨Int32.not_lt.mp h, Int32.not_lt.mp h2⟩] at hQ; exact hQ
theorem c_X9_size {G : GG} {d : Nat} {M : PM} {Q : Option Value → PM → Prop} {x : Int32} (hQ : Q (some (.int (absI x))) M) : PC G (d + 1) m_X9_size [.int x] M Q := by
  refine PC.of ok_X9_size (Nat.le_of_ble_eq_true rfl) (g_X9_size_0 ?_)
  unfold absI at hQ
  refine b2 (fun h => ?_) (fun h => ?_)
  · rw [if_pos h] at hQ; exact hQ
  · rw [if_neg h] at hQ; exact hQ
/-- in a range from 0 -/
def inR (x : Int32) (n : Nat) : Prop := 0 ≤ x ∧ x < nI n
theorem inR_y {j n : Nat} (h : j < n) (hn : n < 2147483648) : inR (nI j) n := ⟨by rw [nzg (by omega)]; trivial, by rw [nlt (by omega) (by omega)]; exact h⟩
theorem inR_n {x : Int32} {n : Nat} (h : x < 0 ∨ nI n ≤ x) : ¬ inR x n := fun z => h.elim (fun q => absurd z.1 (Int32.not_le.mpr q)) (fun q => absurd z.2 (Int32.not_lt.mpr q))
theorem inR_dec {x : Int32} {n : Nat} (hn : n < 2147483648) : (∃ j, j < n ∧ x = nI j) ∨ ¬ inR x n := by
  rcases ix3 x hn with h | h | h
  · exact Or.inr (inR_n (Or.inl h))
  · exact Or.inr (inR_n (Or.inr h))
  · exact Or.inl h
theorem in_pred {x : Int32} {n : Nat} (hn : n < 1000000) : (nI 0 ≤ x ∧ x ≤ nI n - nI 1) = inR x n := by rw [le_pred hn, nI_0]; rfl
theorem c_X9_isPlank {G : GG} {d : Nat} {M : PM} {Q : Option Value → PM → Prop} {x : Int32} {n : Nat} (hM : M.1 56 14 = nI n) (hn : n ≤ 3) (hQ : Q (some (.int (bI (inR x n)))) M) : PC G (d + 2) m_X9_isPlank [.ref 56, .int x] M Q := by
  refine PC.of ok_X9_isPlank (Nat.le_of_ble_eq_true rfl) (g_X9_isPlank_0 (c_X9_in ?_))
  refine ⟨bI_01 _, ?_⟩
  have e := in_pred (x := x) (n := n) (by omega)
  rw [hM]
  rw [e]
  exact hQ
theorem c_X9_isChild {G : GG} {d : Nat} {M : PM} {Q : Option Value → PM → Prop} {x : Int32} {n : Nat} (hM : M.1 56 15 = nI n) (hn : n ≤ 8) (hQ : Q (some (.int (bI (inR x n)))) M) : PC G (d + 2) m_X9_isChild [.ref 56, .int x] M Q := by
  refine PC.of ok_X9_isChild (Nat.le_of_ble_eq_true rfl) (g_X9_isChild_0 (c_X9_in ?_))
  refine ⟨bI_01 _, ?_⟩
  have e := in_pred (x := x) (n := n) (by omega)
  rw [hM]
  rw [e]
  exact hQ
theorem c_X9_isStone {G : GG} {d : Nat} {M : PM} {Q : Option Value → PM → Prop} {x : Int32} {n : Nat} (hM : M.1 56 16 = nI n) (hn : n ≤ 5) (hQ : Q (some (.int (bI (inR x n)))) M) : PC G (d + 2) m_X9_isStone [.ref 56, .int x] M Q := by
  refine PC.of ok_X9_isStone (Nat.le_of_ble_eq_true rfl) (g_X9_isStone_0 (c_X9_in ?_))
  refine ⟨bI_01 _, ?_⟩
  have e := in_pred (x := x) (n := n) (by omega)
  rw [hM]
  rw [e]
  exact hQ
def stRf (M : PM) (p : Int32) : Nat → Int32 := fun k => if M.1 63 (24 + k) = p then M.1 62 k * M.1 63 (29 + k) else nI 0
def stR (M : PM) (nS : Nat) (p : Int32) : Int32 := sumA (nI 0) (stRf M p) nS
theorem c_X9_stonesOn {G : GG} {d : Nat} {M : PM} {Q : Option Value → PM → Prop} {n : Nat} (hn : n ≤ 5) (hM : M.1 56 16 = nI n) {p : Int32} (hQ : Q (some (.int (stR M n p))) M) : PC G (d + 1) m_X9_stonesOn [.ref 56, .int p] M Q := by
  refine PC.of ok_X9_stonesOn (Nat.le_of_ble_eq_true rfl) (g_X9_stonesOn_0 ?_)
  refine up_ind (P := fun k => PX G d m_X9_stonesOn Q 4 [some (.ref 56), some (.int p), some (.int (sumA (nI 0) (stRf M p) k)), some (.int (nI k))] [] M) ?_ ?_ 0 (Nat.zero_le n)
  · apply g_X9_stonesOn_4
    simp (disch := omega) only [nle, nlt, neq, nz, nzl, nzg, nzp, nzn, nneg, nneg9, nI_add, ncl, vin, br_T, br_F, br_p, br_n, true_and, and_true, Nat.zero_add, rdA, rdN, hM]
    exact hQ
  · intro k hk ih
    apply g_X9_stonesOn_4
    simp (disch := omega) only [nle, nlt, neq, nz, nzl, nzg, nzp, nzn, nneg, nneg9, nI_add, ncl, vin, br_T, br_F, br_p, br_n, true_and, and_true, Nat.zero_add, rdA, rdN, hM]
    rw [sumA] at ih
    refine b2 (fun h => ?_) (fun h => ?_)
    · simpa only [stRf, h, if_true] using ih
    · simpa only [stRf, h, if_false] using ih
def moRf (M : PM) (p : Int32) : Nat → Int32 := fun c => if M.1 63 c = p then M.1 60 c * M.1 63 (8 + c) else nI 0
def moR (M : PM) (nC nS : Nat) (p : Int32) : Int32 := sumA (stR M nS p) (moRf M p) nC
theorem c_X9_momentOf {G : GG} {d : Nat} {M : PM} {Q : Option Value → PM → Prop} {nC nS : Nat} (hC : nC ≤ 8) (hS : nS ≤ 5) (hM : M.1 56 15 = nI nC) (hM2 : M.1 56 16 = nI nS) {p : Int32} (hQ : Q (some (.int (moR M nC nS p))) M) : PC G (d + 2) m_X9_momentOf [.ref 56, .int p] M Q := by
  refine PC.of ok_X9_momentOf (Nat.le_of_ble_eq_true rfl) (g_X9_momentOf_0 (c_X9_stonesOn hS hM2 ?_))
  refine up_ind (P := fun k => PX G (d + 1) m_X9_momentOf Q 8 [some (.ref 56), some (.int p), some (.int (sumA (stR M nS p) (moRf M p) k)), some (.int (nI k))] [] M) ?_ ?_ 0 (Nat.zero_le nC)
  · apply g_X9_momentOf_8
    simp (disch := omega) only [nle, nlt, neq, nz, nzl, nzg, nzp, nzn, nneg, nneg9, nI_add, ncl, vin, br_T, br_F, br_p, br_n, true_and, and_true, Nat.zero_add, rdA, rdN, hM]
    exact hQ
  · intro k hk ih
    apply g_X9_momentOf_8
    simp (disch := omega) only [nle, nlt, neq, nz, nzl, nzg, nzp, nzn, nneg, nneg9, nI_add, ncl, vin, br_T, br_F, br_p, br_n, true_and, and_true, Nat.zero_add, rdA, rdN, hM]
    rw [sumA] at ih
    refine b2 (fun h => ?_) (fun h => ?_)
    · simpa only [moRf, h, if_true] using ih
    · simpa only [moRf, h, if_false] using ih
theorem c_X9_tiltBy {G : GG} {d : Nat} {M : PM} {Q : Option Value → PM → Prop} {p : Nat} (hp : p < 3) {x : Int32} (hQ : Q (some (.int (tlt (M.1 59 p) x))) M) : PC G (d + 2) m_X9_tiltBy [.ref 56, .int (nI p), .int x] M Q := by
  refine PC.of ok_X9_tiltBy (Nat.le_of_ble_eq_true rfl) (g_X9_tiltBy_0 (c_X9_size ?_))
  simp only [gI]
  simp (disch := omega) only [nle, nlt, neq, nz, nzl, nzg, nzp, nzn, nneg, nneg9, nI_add, ncl, vin, br_T, br_F, br_p, br_n, true_and, and_true, Nat.zero_add, rdA, rdN]
  unfold tlt at hQ
  refine b2 (fun h => b2 (fun h2 => ?_) (fun h2 => ?_)) (fun h => ?_)
  · simpa only [h, h2, if_true] using hQ
  · simpa only [h, h2, if_true, if_false] using hQ
  · simpa only [h, if_false] using hQ
theorem c_X9_tiltOf {G : GG} {d : Nat} {M : PM} {Q : Option Value → PM → Prop} {nC nS : Nat} (hC : nC ≤ 8) (hS : nS ≤ 5) (hM : M.1 56 15 = nI nC) (hM2 : M.1 56 16 = nI nS) {p : Nat} (hp : p < 3) (hQ : Q (some (.int (tlt (M.1 59 p) (moR M nC nS (nI p))))) M) : PC G (d + 3) m_X9_tiltOf [.ref 56, .int (nI p)] M Q := by
  refine PC.of ok_X9_tiltOf (Nat.le_of_ble_eq_true rfl) (g_X9_tiltOf_0 (c_X9_momentOf hC hS hM hM2 ?_))
  exact c_X9_tiltBy hp hQ
def siRf (M : PM) (p : Int32) : Nat → Int32 := fun c => if M.1 63 c = p then nI 1 else nI 0
theorem c_X9_sittingOn {G : GG} {d : Nat} {M : PM} {Q : Option Value → PM → Prop} {n : Nat} (hn : n ≤ 8) (hM : M.1 56 15 = nI n) {p : Int32} (hQ : Q (some (.int (sumA (nI 0) (siRf M p) n))) M) : PC G (d + 1) m_X9_sittingOn [.ref 56, .int p] M Q := by
  refine PC.of ok_X9_sittingOn (Nat.le_of_ble_eq_true rfl) (g_X9_sittingOn_0 ?_)
  refine up_ind (P := fun k => PX G d m_X9_sittingOn Q 4 [some (.ref 56), some (.int p), some (.int (sumA (nI 0) (siRf M p) k)), some (.int (nI k))] [] M) ?_ ?_ 0 (Nat.zero_le n)
  · apply g_X9_sittingOn_4
    simp (disch := omega) only [nle, nlt, neq, nz, nzl, nzg, nzp, nzn, nneg, nneg9, nI_add, ncl, vin, br_T, br_F, br_p, br_n, true_and, and_true, Nat.zero_add, rdA, rdN, hM]
    exact hQ
  · intro k hk ih
    apply g_X9_sittingOn_4
    simp (disch := omega) only [nle, nlt, neq, nz, nzl, nzg, nzp, nzn, nneg, nneg9, nI_add, ncl, vin, br_T, br_F, br_p, br_n, true_and, and_true, Nat.zero_add, rdA, rdN, hM]
    rw [sumA] at ih
    refine b2 (fun h => ?_) (fun h => ?_)
    · simpa only [siRf, h, if_true] using ih
    · simpa only [siRf, h, if_false] using ih
def sitRf (M : PM) : Nat → Int32 := fun c => if M.1 63 c = -9 then nI 0 else nI 1
theorem c_X9_sitting {G : GG} {d : Nat} {M : PM} {Q : Option Value → PM → Prop} {n : Nat} (hn : n ≤ 8) (hM : M.1 56 15 = nI n) (hQ : Q (some (.int (sumA (nI 0) (sitRf M) n))) M) : PC G (d + 1) m_X9_sitting [.ref 56] M Q := by
  refine PC.of ok_X9_sitting (Nat.le_of_ble_eq_true rfl) (g_X9_sitting_0 ?_)
  refine up_ind (P := fun k => PX G d m_X9_sitting Q 4 [some (.ref 56), some (.int (sumA (nI 0) (sitRf M) k)), some (.int (nI k))] [] M) ?_ ?_ 0 (Nat.zero_le n)
  · apply g_X9_sitting_4
    simp (disch := omega) only [nle, nlt, neq, nz, nzl, nzg, nzp, nzn, nneg, nneg9, nI_add, ncl, vin, br_T, br_F, br_p, br_n, true_and, and_true, Nat.zero_add, rdA, rdN, hM]
    exact hQ
  · intro k hk ih
    apply g_X9_sitting_4
    simp (disch := omega) only [nle, nlt, neq, nz, nzl, nzg, nzp, nzn, nneg, nneg9, nI_add, ncl, vin, br_T, br_F, br_p, br_n, true_and, and_true, Nat.zero_add, rdA, rdN, hM]
    rw [sumA] at ih
    refine b2 (fun h => ?_) (fun h => ?_)
    · simpa only [sitRf, h, if_true] using ih
    · simpa only [sitRf, h, if_false] using ih
