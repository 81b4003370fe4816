/-! strangers: the reference, and the pairs -/
theorem n6z : ¬ nI 6 = 0 := by decide
theorem n10z : ¬ nI 10 = 0 := by decide
theorem c_X9_weightIn {G : GG} {d : Nat} {M : PM} {Q : Option Value → PM → Prop} {way a : Nat} (hw : way < 10000) (ha : a < 6) (hQ : Q (some (.int (nI (dig way a)))) M) : PC G (d + 1) m_X9_weightIn [.int (nI way), .int (nI a)] M Q := by
  refine PC.of ok_X9_weightIn (Nat.le_of_ble_eq_true rfl) (g_X9_weightIn_0 ?_)
  have bnd : ∀ k, way / 6 ^ k < 10000 := fun k => Nat.lt_of_le_of_lt (Nat.div_le_self _ _) hw
  have key := up_ind (P := fun k => PX G d m_X9_weightIn Q 4 [none, some (.int (nI a)), some (.int (nI (way / 6 ^ k))), some (.int (nI k))] [] M) (n := a) ?_ ?_ 0 (Nat.zero_le _)
  · rw [Nat.pow_zero, Nat.div_one] at key
    exact key
  · apply g_X9_weightIn_4
    have hb := bnd a
    simp (disch := omega) only [nle, nlt, neq, nz, nzl, nzg, nzp, nzn, nneg, nneg9, nI_add, ncl, vin, br_T, br_F, br_p, br_n, true_and, and_true, Nat.zero_add, rdA, rdN]
    refine ⟨by omega, ?_⟩
    rw [pk_div (by omega) (by omega) (by omega), nmul, nsub (by omega), nI_add]
    have e : 1 + (way / 6 ^ a - way / 6 ^ a / 6 * 6) = dig way a := by unfold dig; omega
    rw [e]; exact hQ
  · intro k hk ih
    apply g_X9_weightIn_4
    have hb := bnd k
    simp (disch := omega) only [nle, nlt, neq, nz, nzl, nzg, nzp, nzn, nneg, nneg9, nI_add, ncl, vin, br_T, br_F, br_p, br_n, true_and, and_true, Nat.zero_add, rdA, rdN]
    refine ⟨by omega, ?_⟩
    rw [pk_div (by omega) (by omega) (by omega), Nat.div_div_eq_div_mul, ← Nat.pow_succ]
    exact ih
theorem dig_b (way a : Nat) : 1 ≤ dig way a ∧ dig way a ≤ 6 := by unfold dig; omega
theorem wg_t : ∀ x, x < 7 → ∀ y, y < 7 → ((nI y - nI x ≤ 0 ↔ y ≤ x) ∧ (0 ≤ nI y - nI x ↔ x ≤ y)) := by decide +kernel
theorem c_X9_weighs {G : GG} {d : Nat} {M : PM} {Q : Option Value → PM → Prop} {way a b : Nat} (hw : way < 10000) (ha : a < 6) (hb : b < 6) (hQ : Q (some (.int (sgN (dig way a) (dig way b)))) M) : PC G (d + 2) m_X9_weighs [.int (nI way), .int (nI a), .int (nI b)] M Q := by
  refine PC.of ok_X9_weighs (Nat.le_of_ble_eq_true rfl) (g_X9_weighs_0 (c_X9_weightIn hw hb ?_))
  simp only [gI]
  refine c_X9_weightIn hw ha ?_
  simp only [gI]
  have b1' := dig_b way a
  have b2' := dig_b way b
  generalize dig way a = x at *
  generalize dig way b = y at *
  obtain ⟨w1, w2⟩ := wg_t x (by omega) y (by omega)
  rw [propext w1, propext w2]
  unfold sgN at hQ
  refine b2 (fun q => b2 (fun q2 => ?_) (fun q2 => ?_)) (fun q => ?_)
  · rw [if_neg (by omega), if_neg (by omega)] at hQ; exact hQ
  · rw [if_neg (by omega), if_pos (by omega)] at hQ; exact hQ
  · rw [if_pos (by omega)] at hQ; exact hQ
theorem c_X9_allWays {G : GG} {d : Nat} {M : PM} {Q : Option Value → PM → Prop} {sn : Nat} (hs : sn ≤ 5) (hM : M.1 56 27 = nI sn) (hQ : Q (some (.int (nI (6 ^ sn)))) M) : PC G (d + 1) m_X9_allWays [.ref 56] M Q := by
  refine PC.of ok_X9_allWays (Nat.le_of_ble_eq_true rfl) (g_X9_allWays_0 ?_)
  refine up_ind (P := fun k => PX G d m_X9_allWays Q 4 [some (.ref 56), some (.int (nI (6 ^ k))), some (.int (nI k))] [] M) ?_ ?_ 0 (Nat.zero_le sn)
  · apply g_X9_allWays_4
    simp (disch := omega) only [nle, nlt, neq, nz, nzl, nzg, nzp, nzn, nneg, nneg9, nI_add, ncl, vin, br_T, br_F, br_p, br_n, true_and, and_true, Nat.zero_add, rdA, rdN, hM]
    exact hQ
  · intro k hk ih
    apply g_X9_allWays_4
    simp (disch := omega) only [nle, nlt, neq, nz, nzl, nzg, nzp, nzn, nneg, nneg9, nI_add, ncl, vin, br_T, br_F, br_p, br_n, true_and, and_true, Nat.zero_add, rdA, rdN, hM]
    rw [nmul, ← Nat.pow_succ]
    exact ih
theorem c_X9_fits {G : GG} {d : Nat} {M : PM} {Q : Option Value → PM → Prop} {sn tn way : Nat} (hA : RTr M sn tn) (hw : way < 10000) (hQ : Q (some (.int (bI (FT M tn (dig way))))) M) : PC G (d + 3) m_X9_fits [.ref 56, .int (nI way)] M Q := by
  obtain ⟨c1, c2, c3, c4, c5, c6, c7, c8⟩ := id hA
  refine PC.of ok_X9_fits (Nat.le_of_ble_eq_true rfl) (g_X9_fits_0 ?_)
  have key := up_ind (P := fun k => PX G (d + 2) m_X9_fits Q 4 [some (.ref 56), some (.int (nI way)), some (.int (bI (FT M k (dig way)))), some (.int (nI k))] [] M) (n := tn) ?_ ?_ 0 (Nat.zero_le _)
  · rw [bI_t (show FT M 0 (dig way) from fun t ht => absurd ht (by omega))] at key
    exact key
  · apply g_X9_fits_4
    simp (disch := omega) only [nle, nlt, neq, nz, nzl, nzg, nzp, nzn, nneg, nneg9, nI_add, ncl, vin, br_T, br_F, br_p, br_n, true_and, and_true, Nat.zero_add, rdA, rdN, c6]
    exact ⟨bI_01 _, hQ⟩
  · intro k hk ih
    obtain ⟨a, b, ha, hb, hab, e1, e2, e3, e4, e5, -⟩ := c8 k hk
    apply g_X9_fits_4
    simp (disch := omega) only [nle, nlt, neq, nz, nzl, nzg, nzp, nzn, nneg, nneg9, nI_add, ncl, vin, br_T, br_F, br_p, br_n, true_and, and_true, Nat.zero_add, rdA, rdN, c6, bI_z, nmul]
    rw [e2, e4]
    have stp : FT M (k + 1) (dig way) ↔ FT M k (dig way) ∧ sgN (dig way a) (dig way b) = M.1 69 (3 * k + 2) := by
      have ek : (sgN (dig way (M.1 45 k).toNatClampNeg) (dig way (M.1 46 k).toNatClampNeg) = M.1 47 k) = (sgN (dig way a) (dig way b) = M.1 69 (3 * k + 2)) := by rw [e1, e3, ncl (by omega), ncl (by omega), e5]
      constructor
      · intro f; exact ⟨fun t ht => f t (by omega), by rw [← ek]; exact f k (by omega)⟩
      · rintro ⟨f1, f2⟩ t ht
        by_cases e : t = k
        · subst e; rw [ek]; exact f2
        · exact f1 t (by omega)
    refine b2 (fun q => ?_) (fun q => c_X9_weighs hw (by omega) (by omega) ?_)
    · rw [bI_f (fun z => q (stp.mp z).1)] at ih; exact ih
    · simp only [gI]
      refine b2 (fun q2 => ?_) (fun q2 => ?_)
      · rw [bI_t (stp.mpr ⟨Classical.not_not.mp q, q2⟩)] at ih; exact ih
      · rw [bI_f (fun z => q2 (stp.mp z).2)] at ih; exact ih
theorem p6 {sn : Nat} (hs : sn ≤ 5) : 6 ^ sn ≤ 7776 := Nat.pow_le_pow_right (by decide) hs (n := 6)
theorem c_X9_couldBe0 {G : GG} {d : Nat} {M : PM} {Q : Option Value → PM → Prop} {sn tn : Nat} {w : Int32} (hA : RTr M sn tn) (hQ : Q (some (.int (nI (ctP (fun way => FT M tn (dig way)) (6 ^ sn))))) M) : PC G (d + 4) m_X9_couldBe [.ref 56, .int (-1), .int w] M Q := by
  obtain ⟨c1, c2, c3, c4, c5, c6, c7, c8⟩ := id hA
  have h6 := p6 c4
  refine PC.of ok_X9_couldBe (Nat.le_of_ble_eq_true rfl) (g_X9_couldBe_0 ?_)
  refine up_ind (P := fun k => PX G (d + 3) m_X9_couldBe Q 5 [some (.ref 56), some (.int (-1)), some (.int w), some (.int (nI (ctP (fun way => FT M tn (dig way)) k))), some (.int (nI k))] [] M) ?_ ?_ 0 (Nat.zero_le (6 ^ sn))
  · apply g_X9_couldBe_5
    refine c_X9_allWays c4 c2 ?_
    simp only [gI]
    simp (disch := omega) only [nle, nlt, neq, nz, nzl, nzg, nzp, nzn, nneg, nneg9, nI_add, ncl, vin, br_T, br_F, br_p, br_n, true_and, and_true, Nat.zero_add, rdA, rdN]
    exact hQ
  · intro k hk ih
    apply g_X9_couldBe_5
    refine c_X9_allWays c4 c2 ?_
    simp only [gI]
    simp (disch := omega) only [nle, nlt, neq, nz, nzl, nzg, nzp, nzn, nneg, nneg9, nI_add, ncl, vin, br_T, br_F, br_p, br_n, true_and, and_true, Nat.zero_add, rdA, rdN]
    refine c_X9_fits hA (by omega) ?_
    simp only [gI, bI_z]
    rw [ctP_s] at ih
    refine b2 (fun q => ?_) (fun q => ?_)
    · rw [i1_f q] at ih; exact ih
    · rw [i1_t (Classical.not_not.mp q)] at ih; exact ih
theorem c_X9_couldBe {G : GG} {d : Nat} {M : PM} {Q : Option Value → PM → Prop} {sn tn a w : Nat} (hA : RTr M sn tn) (ha : a < sn) (hw : w ≤ 6) (hQ : Q (some (.int (nI (ctP (fun way => FT M tn (dig way) ∧ dig way a = w) (6 ^ sn))))) M) : PC G (d + 4) m_X9_couldBe [.ref 56, .int (nI a), .int (nI w)] M Q := by
  obtain ⟨c1, c2, c3, c4, c5, c6, c7, c8⟩ := id hA
  have h6 := p6 c4
  refine PC.of ok_X9_couldBe (Nat.le_of_ble_eq_true rfl) (g_X9_couldBe_0 ?_)
  refine up_ind (P := fun k => PX G (d + 3) m_X9_couldBe Q 5 [some (.ref 56), some (.int (nI a)), some (.int (nI w)), some (.int (nI (ctP (fun way => FT M tn (dig way) ∧ dig way a = w) k))), some (.int (nI k))] [] M) ?_ ?_ 0 (Nat.zero_le (6 ^ sn))
  · apply g_X9_couldBe_5
    refine c_X9_allWays c4 c2 ?_
    simp only [gI]
    simp (disch := omega) only [nle, nlt, neq, nz, nzl, nzg, nzp, nzn, nneg, nneg9, nI_add, ncl, vin, br_T, br_F, br_p, br_n, true_and, and_true, Nat.zero_add, rdA, rdN]
    exact hQ
  · intro k hk ih
    apply g_X9_couldBe_5
    refine c_X9_allWays c4 c2 ?_
    simp only [gI]
    simp (disch := omega) only [nle, nlt, neq, nz, nzl, nzg, nzp, nzn, nneg, nneg9, nI_add, ncl, vin, br_T, br_F, br_p, br_n, true_and, and_true, Nat.zero_add, rdA, rdN]
    refine c_X9_fits hA (by omega) ?_
    simp only [gI, bI_z]
    rw [ctP_s] at ih
    have db := dig_b k a
    refine b2 (fun q => ?_) (fun q => c_X9_weightIn (by omega) (by omega) ?_)
    · rw [i1_f (fun z => q z.1)] at ih; exact ih
    · simp only [gI]
      simp (disch := omega) only [nle, nlt, neq, nz, nzl, nzg, nzp, nzn, nneg, nneg9, nI_add, ncl, vin, br_T, br_F, br_p, br_n, true_and, and_true, Nat.zero_add, rdA, rdN]
      refine b2 (fun q2 => ?_) (fun q2 => ?_)
      · rw [i1_t ⟨Classical.not_not.mp q, q2⟩] at ih; exact ih
      · rw [i1_f (fun z => q2 z.2)] at ih; exact ih
theorem Rel.of {M : PM} {nP nC nS tl sn tn : Nat} (h : RelN M nP nC nS tl sn tn) : Rel M := ⟨nP, nC, nS, tl, sn, tn, h⟩
theorem in16 {x : Int32} : (nI 1 ≤ x ∧ x ≤ nI 6) ↔ ∃ w : Nat, 1 ≤ w ∧ w ≤ 6 ∧ x = nI w := by
  constructor
  · rintro ⟨h1, h2⟩
    obtain ⟨j, hj, rfl⟩ := (in04 6 (by omega)).mp ⟨Int32.le_trans (by decide) h1, h2⟩
    rw [nle (by omega) (by omega)] at h1
    exact ⟨j, h1, hj, rfl⟩
  · rintro ⟨w, h1, h2, rfl⟩
    exact ⟨by rw [nle (by omega) (by omega)]; exact h1, by rw [nle (by omega) (by omega)]; exact h2⟩
section
variable {nP nC nS tl sn tn : Nat}
/-- a survey that is done stays -/
theorem c_X7_survey1 {G : GG} {d : Nat} {M : PM} {Q : Option Value → PM → Prop} (h : M.1 44 9 = 1) (hQ : Q none M) : PC G (d + 1) m_X7_survey [.ref 44] M Q := by
  refine PC.of ok_X7_survey (Nat.le_of_ble_eq_true rfl) (g_X7_survey_0 ?_)
  exact b0 (by rw [h]; decide) hQ
noncomputable def cw (M : PM) (sn tn a w : Nat) : Nat := ctP (fun way => FT M tn (dig way) ∧ dig way a = w) (6 ^ sn)
theorem c_X7_fw0 {G : GG} {d : Nat} {M : PM} {Q : Option Value → PM → Prop} {a w : Nat} (hM : RelN M nP nC nS tl sn tn) (ha : a < sn) (w1 : 1 ≤ w) (w2 : w ≤ 6) (hQ : ∀ N, SD N nP nC nS tl sn tn → Q (some (.int (nI (cw N sn tn a w)))) N) : PC G (d + 11) m_X7_fittingWith [.ref 44, .int (nI a), .int (nI w)] M Q := by
  have hs := hM.2.2.2.2.2.2.1.2.2.2.1
  refine PC.of ok_X7_fittingWith (Nat.le_of_ble_eq_true rfl) (g_X7_fittingWith_0 (c_X7_survey hM (fun N hN => ?_)))
  simp only [gN]
  rw [nmul, nI_add, vin (by omega) (by omega), ncl (by omega)]
  refine ⟨trivial, ?_⟩
  have e := hN.2.1.2.1 a ha w w1 w2
  rw [show a * 7 + w = 7 * a + w by omega, e]
  exact hQ N hN
theorem c_X7_fw1 {G : GG} {d : Nat} {M : PM} {Q : Option Value → PM → Prop} {a w : Nat} (hM : SD M nP nC nS tl sn tn) (ha : a < sn) (w1 : 1 ≤ w) (w2 : w ≤ 6) (hQ : Q (some (.int (nI (cw M sn tn a w)))) M) : PC G (d + 11) m_X7_fittingWith [.ref 44, .int (nI a), .int (nI w)] M Q := by
  have hs := hM.1.2.2.2.2.2.2.1.2.2.2.1
  refine PC.of ok_X7_fittingWith (Nat.le_of_ble_eq_true rfl) (g_X7_fittingWith_0 (c_X7_survey1 hM.2.2 ?_))
  simp only [gN]
  rw [nmul, nI_add, vin (by omega) (by omega), ncl (by omega)]
  refine ⟨trivial, ?_⟩
  have e := hM.2.1.2.1 a ha w w1 w2
  rw [show a * 7 + w = 7 * a + w by omega, e]
  exact hQ
theorem cw_le (M : PM) (a w : Nat) (hs : sn ≤ 5) : cw M sn tn a w ≤ 7776 := Nat.le_trans (ctP_le _ _) (p6 hs)
end
theorem FT_t0 {M : PM} {tn : Nat} {v : Int32} (g : Nat → Nat) : FT (wI M 56 0 v) tn g = FT M tn g := by unfold FT; simp (disch := omega) only [wI_sA, rdA, rdN, rdL, upd_e, upd_n]
theorem pair_could {G : GG} {M : PM} {x y : Int32} (h : Rel M) : Pair G m_X8_could m_X9_could [.int x, .int y] M := by
  have hr := h.eqv (Eqv.t0 M (nI 0))
  obtain ⟨nP, nC, nS, tl, sn, tn, hN⟩ := h
  obtain ⟨c1, c2, c3, c4, c5, c6, c7, c8⟩ := id hN.2.2.2.2.2.2.1
  have e27 : (wI M 56 0 (nI 0)).1 56 27 = nI sn := by simp (disch := omega) only [wI_sA, rdA, rdN, rdL, upd_e, upd_n]; exact c2
  have bad : ((¬ x = -1 ∧ ¬ inR x sn) ∨ ¬ (nI 1 ≤ y ∧ y ≤ nI 6)) → PC G 900 m_X9_could [.ref 56, .int x, .int y] M (fun w N2 => w = some (.int (-1)) ∧ Rel N2) := by
    intro hb
    refine PC.of (d := 899) ok_X9_could (Nat.le_of_ble_eq_true rfl) (g_X9_could_0 ?_)
    refine b2 (fun q => c_X9_in ?_) (fun q => c_X9_isStranger (n := sn) e27 c4 ?_)
    · simp only [gI, bI_z]
      refine b1 (hb.elim (fun z => absurd q z.1) id) ⟨by trivial, hr⟩
    · simp only [gI, bI_z]
      refine b2 (fun _ => ⟨by trivial, hr⟩) (fun q2 => c_X9_in ?_)
      simp only [gI, bI_z]
      exact b1 (hb.elim (fun z => absurd z.2 q2) id) ⟨by trivial, hr⟩
  refine PC.of (d := 899) ok_X8_could (Nat.le_of_ble_eq_true rfl) (g_X8_could_0 ?_)
  refine b2 (fun q => ?_) (fun q => c_X7_hasStranger c1 ?_)
  · refine b2 (fun q2 => ⟨_, rfl, bad (Or.inr (fun z => absurd z.1 (Int32.not_le.mpr q2)))⟩) (fun q2 => b2 (fun q3 => ?_) (fun q3 => ⟨_, rfl, bad (Or.inr (fun z => q3 z.2))⟩))
    subst q
    have hy : nI 1 ≤ y ∧ y ≤ nI 6 := ⟨Int32.not_lt.mp q2, q3⟩
    refine b1 rfl (PC.of (d := 898) ok_X7_fitting (Nat.le_of_ble_eq_true rfl) (g_X7_fitting_0 (c_X7_survey hN (fun N hS => ?_))))
    simp only [gN, gI]
    refine ⟨_, rfl, PC.of (d := 899) ok_X9_could (Nat.le_of_ble_eq_true rfl) (g_X9_could_0 (b1 rfl (c_X9_in ?_)))⟩
    simp only [gI, bI_z]
    have hR := hS.1.eqv (Eqv.t0 N (nI 0))
    refine b0 (fun z => z hy) (c_X9_couldBe0 hR.2.2.2.2.2.2.1 ?_)
    simp only [gI]
    refine ⟨?_, Rel.of hR⟩
    rw [hS.2.1.1]
    simp only [FT_t0]
  · simp only [gI, bI_z]
    refine b2 (fun q2 => ⟨_, rfl, bad (Or.inl ⟨q, q2⟩)⟩) (fun q2 => ?_)
    refine b2 (fun q3 => ⟨_, rfl, bad (Or.inr (fun z => absurd z.1 (Int32.not_le.mpr q3)))⟩) (fun q3 => b2 (fun q4 => ?_) (fun q4 => ⟨_, rfl, bad (Or.inr (fun z => q4 z.2))⟩))
    have hy : nI 1 ≤ y ∧ y ≤ nI 6 := ⟨Int32.not_lt.mp q3, q4⟩
    obtain ⟨w, w1, w2, rfl⟩ := in16.mp hy
    rcases inR_dec (x := x) (n := sn) (by omega) with ⟨a, ha, rfl⟩ | hno
    case inr => exact absurd hno q2
    refine b0 q (c_X7_fw0 hN ha w1 w2 (fun N hS => ?_))
    simp only [gI]
    have hR := hS.1.eqv (Eqv.t0 N (nI 0))
    refine ⟨_, rfl, PC.of (d := 899) ok_X9_could (Nat.le_of_ble_eq_true rfl) (g_X9_could_0 (b0 q (c_X9_isStranger (n := sn) hR.2.2.2.2.2.2.1.2.1 c4 ?_)))⟩
    simp only [gI, bI_z]
    refine b0 (fun z => z (inR_y ha (by omega))) (c_X9_in ?_)
    simp only [gI, bI_z]
    refine b0 (fun z => z hy) (c_X9_couldBe hR.2.2.2.2.2.2.1 ha w2 ?_)
    simp only [gI]
    refine ⟨?_, Rel.of hR⟩
    unfold cw
    simp only [FT_t0]
/-- the only weight -/
def UQ (f : Nat → Nat) (o : Nat) : Prop := 1 ≤ o ∧ o ≤ 6 ∧ 0 < f o ∧ ∀ v, 1 ≤ v → v ≤ 6 → ¬ v = o → f v = 0
theorem UQ.u {f : Nat → Nat} {o p : Nat} (h : UQ f o) (h2 : UQ f p) : o = p := by
  by_cases e : o = p
  · exact e
  · have := h.2.2.2 p h2.1 h2.2.1 (fun z => e z.symm)
    have := h2.2.2.1
    omega
noncomputable def uqV (f : Nat → Nat) (z : Int32) : Int32 := @dite _ (∃ o, UQ f o) (Classical.propDecidable _) (fun h => nI h.choose) (fun _ => z)
theorem uqV_y {f : Nat → Nat} {z : Int32} {o : Nat} (h : UQ f o) : uqV f z = nI o := by
  unfold uqV
  have hx : ∃ o, UQ f o := ⟨o, h⟩
  rw [dif_pos hx, hx.choose_spec.u h]
theorem uqV_n {f : Nat → Nat} {z : Int32} (h : ¬ ∃ o, UQ f o) : uqV f z = z := by unfold uqV; rw [dif_neg h]
theorem c_X7_onlyWeight {G : GG} {d : Nat} {M : PM} {Q : Option Value → PM → Prop} {nP nC nS tl sn tn a : Nat} (hM : RelN M nP nC nS tl sn tn) (ha : a < sn) (hQ : ∀ N, SD N nP nC nS tl sn tn → Q (some (.int (uqV (cw N sn tn a) (nI 0)))) N) : PC G (d + 12) m_X7_onlyWeight [.ref 44, .int (nI a)] M Q := by
  have hs := hM.2.2.2.2.2.2.1.2.2.2.1
  refine PC.of ok_X7_onlyWeight (Nat.le_of_ble_eq_true rfl) (g_X7_onlyWeight_0 ?_)
  -- one look, in a memory that is surveyed
  have after : ∀ N, SD N nP nC nS tl sn tn → ∀ w o, 1 ≤ w → w ≤ 6 → ((o = 0 ∧ ∀ v, 1 ≤ v → v < w → cw N sn tn a v = 0) ∨ (1 ≤ o ∧ o < w ∧ 0 < cw N sn tn a o ∧ ∀ v, 1 ≤ v → v < w → ¬ v = o → cw N sn tn a v = 0)) → (∀ o', ((o' = 0 ∧ ∀ v, 1 ≤ v → v < w + 1 → cw N sn tn a v = 0) ∨ (1 ≤ o' ∧ o' < w + 1 ∧ 0 < cw N sn tn a o' ∧ ∀ v, 1 ≤ v → v < w + 1 → ¬ v = o' → cw N sn tn a v = 0)) → PX G (d + 11) m_X7_onlyWeight Q 4 [some (.ref 44), some (.int (nI a)), some (.int (nI o')), some (.int (nI (w + 1)))] [] N) → br (nI (cw N sn tn a w) ≤ 0) (PX G (d + 11) m_X7_onlyWeight Q 4 [some (.ref 44), some (.int (nI a)), some (.int (nI o)), some (.int (nI w + nI 1))] [] N) (br (nI o = 0) (PX G (d + 11) m_X7_onlyWeight Q 4 [some (.ref 44), some (.int (nI a)), some (.int (nI w)), some (.int (nI w + nI 1))] [] N) (Q (some (.int (nI 0))) N)) := by
    intro N hN w o w1 w2 hinv nx
    have lw := cw_le (tn := tn) N a w hs
    have ho : o < 7 := by omega
    simp (disch := omega) only [nle, nlt, neq, nz, nzl, nzg, nzp, nzn, nneg, nneg9, nI_add, ncl, vin, br_T, br_F, br_p, br_n, true_and, and_true, Nat.zero_add, rdA, rdN]
    refine b2 (fun q => nx o ?_) (fun q => b2 (fun q2 => nx w (Or.inr ⟨w1, by omega, by omega, fun v v1 v2 v3 => ?_⟩)) (fun q2 => ?_))
    · rcases hinv with ⟨z1, z2⟩ | ⟨z1, z2, z3, z4⟩
      · refine Or.inl ⟨z1, fun v v1 v2 => ?_⟩
        by_cases e : v = w
        · subst e; exact q
        · exact z2 v v1 (by omega)
      · refine Or.inr ⟨z1, by omega, z3, fun v v1 v2 v3 => ?_⟩
        by_cases e : v = w
        · subst e; exact q
        · exact z4 v v1 (by omega) v3
    · rcases hinv with ⟨z1, z2⟩ | ⟨z1, z2, z3, z4⟩
      · exact z2 v v1 (by omega)
      · omega
    · rcases hinv with ⟨z1, z2⟩ | ⟨z1, z2, z3, z4⟩
      · exact absurd z1 q2
      · have nu : ¬ ∃ p, UQ (cw N sn tn a) p := by
          rintro ⟨p, p1, p2, p3, p4⟩
          by_cases e : p = w
          · subst e; have := p4 o z1 (by omega) (by omega); omega
          · have := p4 w w1 w2 (fun z => e z.symm); omega
        have := hQ N hN
        rw [uqV_n nu] at this
        exact this
  have rest : ∀ N, SD N nP nC nS tl sn tn → ∀ o, ((o = 0 ∧ ∀ v, 1 ≤ v → v < 2 → cw N sn tn a v = 0) ∨ (1 ≤ o ∧ o < 2 ∧ 0 < cw N sn tn a o ∧ ∀ v, 1 ≤ v → v < 2 → ¬ v = o → cw N sn tn a v = 0)) → PX G (d + 11) m_X7_onlyWeight Q 4 [some (.ref 44), some (.int (nI a)), some (.int (nI o)), some (.int (nI 2))] [] N := by
    intro N hN
    refine up_ind (P := fun w => 2 ≤ w → ∀ o, ((o = 0 ∧ ∀ v, 1 ≤ v → v < w → cw N sn tn a v = 0) ∨ (1 ≤ o ∧ o < w ∧ 0 < cw N sn tn a o ∧ ∀ v, 1 ≤ v → v < w → ¬ v = o → cw N sn tn a v = 0)) → PX G (d + 11) m_X7_onlyWeight Q 4 [some (.ref 44), some (.int (nI a)), some (.int (nI o)), some (.int (nI w))] [] N) (n := 7) ?_ ?_ 2 (by omega) (by omega)
    · intro _ o ho
      apply g_X7_onlyWeight_4
      simp (disch := omega) only [nle, nlt, neq, nz, nzl, nzg, nzp, nzn, nneg, nneg9, nI_add, ncl, vin, br_T, br_F, br_p, br_n, true_and, and_true, Nat.zero_add, rdA, rdN]
      have := hQ N hN
      rcases ho with ⟨z1, z2⟩ | ⟨z1, z2, z3, z4⟩
      · rw [uqV_n (fun ⟨p, p1, p2, p3, p4⟩ => by have := z2 p p1 (by omega); omega)] at this
        subst z1; exact this
      · rw [uqV_y (o := o) ⟨z1, by omega, z3, fun v v1 v2 v3 => z4 v v1 (by omega) v3⟩] at this
        exact this
    · intro w hw ih w2 o ho
      apply g_X7_onlyWeight_4
      simp (disch := omega) only [nle, nlt, neq, nz, nzl, nzg, nzp, nzn, nneg, nneg9, nI_add, ncl, vin, br_T, br_F, br_p, br_n, true_and, and_true, Nat.zero_add, rdA, rdN]
      refine c_X7_fw1 hN ha (by omega) (by omega) ?_
      simp only [gI]
      have := after N hN w o (by omega) (by omega) ho (fun o' ho' => ih (by omega) o' ho')
      rw [nI_add, nz (show o < 2147483648 by omega)] at this
      exact this
  apply g_X7_onlyWeight_4
  simp (disch := omega) only [nle, nlt, neq, nz, nzl, nzg, nzp, nzn, nneg, nneg9, nI_add, ncl, vin, br_T, br_F, br_p, br_n, true_and, and_true, Nat.zero_add, rdA, rdN]
  refine c_X7_fw0 hM ha (by omega) (by omega) (fun N hN => ?_)
  simp only [gI]
  have := after N hN 1 0 (by omega) (by omega) (Or.inl ⟨rfl, fun v v1 v2 => absurd v1 (by omega)⟩) (fun o' ho' => rest N hN o' ho')
  rw [nI_add] at this
  have e : (nI 0 = 0) = (0 = 0) := by rw [nz (by omega)]
  simpa only [br_p, Nat.reduceAdd, nz, e] using this
