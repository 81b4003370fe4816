/-! keep, back -/
theorem cp0 {M : PM} {a b n : Nat} : cpI M b a 0 0 n = sA M b (fo (M.1 a) (M.1 b) 0 n) := by
  unfold cpI sA
  congr 2
  funext j
  unfold va_cpy fo
  simp only [Nat.zero_add]
theorem n0c : (nI 0).toNatClampNeg = 0 := ncl (by omega)
theorem n5c : (nI 5).toNatClampNeg = 5 := ncl (by omega)
theorem n8c : (nI 8).toNatClampNeg = 8 := ncl (by omega)
theorem n3c : (nI 3).toNatClampNeg = 3 := ncl (by omega)
/-- one scene copied -/
def cpS (M : PM) (a b : Nat) : PM := sA (sA (sA (sA (sA M (a + 1) (fo (M.1 (b + 1)) (M.1 (a + 1)) 0 8)) (a + 2) (fo (M.1 (b + 2)) (M.1 (a + 2)) 0 8)) (a + 3) (fo (M.1 (b + 3)) (M.1 (a + 3)) 0 8)) (a + 4) (fo (M.1 (b + 4)) (M.1 (a + 4)) 0 5)) (a + 5) (fo (M.1 (b + 5)) (M.1 (a + 5)) 0 5)
theorem c_copy {G : GG} {d : Nat} {M : PM} {Q : Option Value → PM → Prop} {a b : Nat} (h : (a = 13 ∧ b = 7) ∨ (a = 19 ∧ b = 7) ∨ (a = 7 ∧ b = 13) ∨ (a = 7 ∧ b = 19)) (hQ : Q none (cpS M a b)) : PC G (d + 1) m_X4_copyFrom [.ref a, .ref b] M Q := by
  have k5 : ¬ nI 5 < 0 := by decide
  have k0 : ¬ nI 0 < 0 := by decide
  have k8 : ¬ nI 8 < 0 := by decide
  rcases h with ⟨rfl, rfl⟩ | ⟨rfl, rfl⟩ | ⟨rfl, rfl⟩ | ⟨rfl, rfl⟩
  · refine PC.of ok_X4_copyFrom (Nat.le_of_ble_eq_true rfl) (g_X4_copyFromv0_0 ?_)
    simp only [n0c, n5c, n8c, cp0, k0, k5, k8, not_false_eq_true, true_and, Nat.zero_add, Nat.le_refl]
    unfold cpS at hQ
    simp (disch := omega) only [wI_sA, rdA, rdN, rdL, upd_e, upd_n]
    exact hQ
  · refine PC.of ok_X4_copyFrom (Nat.le_of_ble_eq_true rfl) (g_X4_copyFromv1_0 ?_)
    simp only [n0c, n5c, n8c, cp0, k0, k5, k8, not_false_eq_true, true_and, Nat.zero_add, Nat.le_refl]
    unfold cpS at hQ
    simp (disch := omega) only [wI_sA, rdA, rdN, rdL, upd_e, upd_n]
    exact hQ
  · refine PC.of ok_X4_copyFrom (Nat.le_of_ble_eq_true rfl) (g_X4_copyFromv2_0 ?_)
    simp only [n0c, n5c, n8c, cp0, k0, k5, k8, not_false_eq_true, true_and, Nat.zero_add, Nat.le_refl]
    unfold cpS at hQ
    simp (disch := omega) only [wI_sA, rdA, rdN, rdL, upd_e, upd_n]
    exact hQ
  · refine PC.of ok_X4_copyFrom (Nat.le_of_ble_eq_true rfl) (g_X4_copyFromv3_0 ?_)
    simp only [n0c, n5c, n8c, cp0, k0, k5, k8, not_false_eq_true, true_and, Nat.zero_add, Nat.le_refl]
    unfold cpS at hQ
    simp (disch := omega) only [wI_sA, rdA, rdN, rdL, upd_e, upd_n]
    exact hQ
theorem c_isZeroOrOne {G : GG} {d : Nat} {M : PM} {Q : Option Value → PM → Prop} {x : Int32} (hQ : Q (some (.int (bI (x = nI 0 ∨ x = nI 1)))) M) : PC G (d + 1) m_X8_isZeroOrOne [.int x] M Q := by
  refine PC.of ok_X8_isZeroOrOne (Nat.le_of_ble_eq_true rfl) (g_X8_isZeroOrOne_0 ?_)
  simp only [n01a, n01b, true_and]
  refine b2 (fun h => ?_) (fun h => b2 (fun h2 => ?_) (fun h2 => ?_))
  · rw [bI_t (show x = nI 0 ∨ x = nI 1 from Or.inl h)] at hQ; exact hQ
  · rw [bI_t (Or.inr h2)] at hQ; exact hQ
  · rw [bI_f (show ¬ (x = nI 0 ∨ x = nI 1) from fun z => z.elim h h2)] at hQ; exact hQ
theorem zo_in {x : Int32} : (nI 0 ≤ x ∧ x ≤ nI 1) ↔ (x = nI 0 ∨ x = nI 1) := by
  rw [in04 1 (by omega)]
  constructor
  · rintro ⟨j, hj, rfl⟩
    have : j = 0 ∨ j = 1 := by omega
    rcases this with rfl | rfl
    · exact Or.inl rfl
    · exact Or.inr rfl
  · rintro (rfl | rfl)
    · exact ⟨0, by omega, rfl⟩
    · exact ⟨1, by omega, rfl⟩
theorem c_X9_keep {G : GG} {d : Nat} {M : PM} {Q : Option Value → PM → Prop} {nC i : Nat} (hC : nC ≤ 8) (hM : M.1 56 15 = nI nC) (hi : i < 2) (hQ : Q (some (.int (sumA (nI 0) (sitRf M) nC))) (wI (sA (wI M 56 0 (nI 0)) 64 (fo (M.1 63) (M.1 64) (34 * i) 34)) 65 i (nI 1))) : PC G (d + 4) m_X9_keep [.ref 56, .int (nI i)] M Q := by
  refine PC.of ok_X9_keep (Nat.le_of_ble_eq_true rfl) (g_X9_keep_0 (c_X9_in ?_))
  simp only [gI, bI_z]
  refine b0 (fun z => z (zo_in.mpr ?_)) ?_
  · have : i = 0 ∨ i = 1 := by omega
    rcases this with rfl | rfl
    · exact Or.inl rfl
    · exact Or.inr rfl
  have e15 : (wI M 56 0 (nI 0)).1 56 15 = nI nC := by simp (disch := omega) only [wI_sA, rdA, rdN, rdL, upd_e, upd_n]; exact hM
  have e63 : (wI M 56 0 (nI 0)).1 63 = M.1 63 := by simp (disch := omega) only [wI_sA, rdA, rdN, rdL, upd_e, upd_n]
  have e64 : (wI M 56 0 (nI 0)).1 64 = M.1 64 := by simp (disch := omega) only [wI_sA, rdA, rdN, rdL, upd_e, upd_n]
  have esit : sitRf (wI M 56 0 (nI 0)) = sitRf M := by unfold sitRf; simp (disch := omega) only [wI_sA, rdA, rdN, rdL, upd_e, upd_n]
  rw [← e63, ← e64, ← esit] at hQ
  show PX G (d + 3) m_X9_keep Q 18 [some (.ref 56), some (.int (nI i)), some (.int (nI 0))] [] (wI M 56 0 (nI 0))
  generalize wI M 56 0 (nI 0) = N at *
  have key := up_ind (P := fun k => PX G (d + 3) m_X9_keep Q 18 [some (.ref 56), some (.int (nI i)), some (.int (nI k))] [] (sA N 64 (fo (N.1 63) (N.1 64) (34 * i) k))) (n := 34) ?_ ?_ 0 (Nat.zero_le _)
  · rw [sA_fo0] at key
    exact key
  · apply g_X9_keep_18
    simp only [n01a, n01b, true_and]
    simp (disch := omega) only [nle, nlt, neq, nz, nzl, nzg, nzp, nzn, nneg, nneg9, nI_add, ncl, vin, br_T, br_F, br_p, br_n, true_and, and_true, Nat.zero_add, rdA, rdN]
    refine c_X9_sitting hC (by simp (disch := omega) only [wI_sA, rdA, rdN, rdL, upd_e, upd_n]; exact e15) ?_
    simp only [gI]
    have : sitRf (wI (sA N 64 (fo (N.1 63) (N.1 64) (34 * i) 34)) 65 i (nI 1)) = sitRf N := by unfold sitRf; simp (disch := omega) only [wI_sA, rdA, rdN, rdL, upd_e, upd_n]
    rw [this]
    exact hQ
  · intro k hk ih
    apply g_X9_keep_18
    simp (disch := omega) only [nle, nlt, neq, nz, nzl, nzg, nzp, nzn, nneg, nneg9, nI_add, ncl, vin, br_T, br_F, br_p, br_n, true_and, and_true, Nat.zero_add, rdA, rdN, nmul]
    rw [wI_fo rfl]
    exact ih
theorem c_X9_back {G : GG} {d : Nat} {M : PM} {Q : Option Value → PM → Prop} {nC i : Nat} (hC : nC ≤ 8) (hM : M.1 56 15 = nI nC) (hi : i < 2) (hq : M.1 65 i = 0 → Q (some (.int (-2))) (wI M 56 0 (nI 0))) (hQ : ¬ M.1 65 i = 0 → Q (some (.int (sumA (nI 0) (sitRf (sA (wI M 56 0 (nI 0)) 63 (fo (fun j => M.1 64 (34 * i + j)) (M.1 63) 0 34))) nC))) (sA (wI M 56 0 (nI 0)) 63 (fo (fun j => M.1 64 (34 * i + j)) (M.1 63) 0 34))) : PC G (d + 4) m_X9_back [.ref 56, .int (nI i)] M Q := by
  refine PC.of ok_X9_back (Nat.le_of_ble_eq_true rfl) (g_X9_back_0 (c_X9_in ?_))
  simp only [gI, bI_z]
  refine b0 (fun z => z (zo_in.mpr ?_)) ?_
  · have : i = 0 ∨ i = 1 := by omega
    rcases this with rfl | rfl
    · exact Or.inl rfl
    · exact Or.inr rfl
  simp (disch := omega) only [nle, nlt, neq, nz, nzl, nzg, nzp, nzn, nneg, nneg9, nI_add, ncl, vin, br_T, br_F, br_p, br_n, true_and, and_true, Nat.zero_add, rdA, rdN, wI_sA]
  refine b2 hq (fun z => ?_)
  have hQ := hQ z
  have e15 : (wI M 56 0 (nI 0)).1 56 15 = nI nC := by simp (disch := omega) only [wI_sA, rdA, rdN, rdL, upd_e, upd_n]; exact hM
  have e63 : (wI M 56 0 (nI 0)).1 63 = M.1 63 := by simp (disch := omega) only [wI_sA, rdA, rdN, rdL, upd_e, upd_n]
  have e64 : (wI M 56 0 (nI 0)).1 64 = M.1 64 := by simp (disch := omega) only [wI_sA, rdA, rdN, rdL, upd_e, upd_n]
  rw [← e63, ← e64] at hQ
  show PX G (d + 3) m_X9_back Q 30 [some (.ref 56), some (.int (nI i)), some (.int (nI 0))] [] (wI M 56 0 (nI 0))
  generalize wI M 56 0 (nI 0) = N at *
  have key := up_ind (P := fun k => PX G (d + 3) m_X9_back Q 30 [some (.ref 56), some (.int (nI i)), some (.int (nI k))] [] (sA N 63 (fo (fun j => N.1 64 (34 * i + j)) (N.1 63) 0 k))) (n := 34) ?_ ?_ 0 (Nat.zero_le _)
  · rw [sA_fo0] at key
    exact key
  · apply g_X9_back_30
    simp (disch := omega) only [nle, nlt, neq, nz, nzl, nzg, nzp, nzn, nneg, nneg9, nI_add, ncl, vin, br_T, br_F, br_p, br_n, true_and, and_true, Nat.zero_add, rdA, rdN]
    refine c_X9_sitting hC (by simp (disch := omega) only [wI_sA, rdA, rdN, rdL, upd_e, upd_n]; exact e15) ?_
    simp only [gI]
    exact hQ
  · intro k hk ih
    apply g_X9_back_30
    simp (disch := omega) only [nle, nlt, neq, nz, nzl, nzg, nzp, nzn, nneg, nneg9, nI_add, ncl, vin, br_T, br_F, br_p, br_n, true_and, and_true, Nat.zero_add, rdA, rdN, nmul]
    rw [wI_fo0 rfl]
    exact ih
theorem RelN.img {M N : PM} {nP nC nS tl sn tn : Nat} (h : RelN M nP nC nS tl sn tn) (h1 : ∀ q, q < 7 ∨ (24 < q ∧ q < 56) ∨ (56 < q ∧ q < 63) ∨ 65 < q → N.1 q = M.1 q) (h2 : ∀ k, k ≠ 0 → N.1 56 k = M.1 56 k) (h3 : N.2 = M.2) (h4 : SR N nP nC nS 7 63 0) (h5 : RIm1 N nP nC nS 13 0 0) (h6 : RIm1 N nP nC nS 19 1 34) : RelN N nP nC nS tl sn tn := by
  obtain ⟨a1, a2, a3, a4, a5, a6, a7, a8, a9⟩ := h
  refine ⟨a1.cg (fun k _ _ => by rw [h1 1 (by omega)]) (fun k _ _ => h2 k (by omega)), a2.cg (fun q hq => h1 q (by omega)), h4, a4.cg (by rw [h1 25 (by omega)]) (h2 3 (by omega)) (h1 32 (by omega)) (h1 57 (by omega)), h5, h6, a7.cg (by rw [h1 44 (by omega)]) (by rw [h1 44 (by omega)]) (h2 27 (by omega)) (h2 29 (by omega)) (fun r hr => h1 r (by omega)), a8.cg (by rw [h1 44 (by omega)]) (by rw [h1 44 (by omega)]) (fun r hr => h1 r (by omega)), by rw [h3]; exact a9⟩
/-- a scene copied to another place, on both sides -/
theorem SR.cp {M N : PM} {nP nC nS b b2 q q2 o o2 : Nat} (hC : nC ≤ 8) (hS : nS ≤ 5) (h : SR M nP nC nS b q o) (h0 : N.1 2 = M.1 2) (hc : ∀ k, k < 8 → N.1 (b2 + 1) k = M.1 (b + 1) k ∧ N.1 (b2 + 2) k = M.1 (b + 2) k ∧ N.1 (b2 + 3) k = M.1 (b + 3) k) (hs : ∀ k, k < 5 → N.1 (b2 + 4) k = M.1 (b + 4) k ∧ N.1 (b2 + 5) k = M.1 (b + 5) k) (hq : ∀ k, k < 34 → N.1 q2 (o2 + k) = M.1 q (o + k)) : SR N nP nC nS b2 q2 o2 := by
  refine ⟨fun c hc' => ?_, fun c hc' => ?_, fun s hs' => ?_⟩
  · rw [(hc c (by omega)).2.2, hq _ (by omega)]; exact h.1 c hc'
  · rw [h0, (hc c (by omega)).1, (hc c (by omega)).2.1, hq _ (by omega), hq _ (by omega)]; exact h.2.1 c hc'
  · rw [h0, (hs s (by omega)).1, (hs s (by omega)).2, hq _ (by omega), hq _ (by omega)]; exact h.2.2 s hs'
theorem cpS_rd {M : PM} {a b q : Nat} (h : ¬ (a + 1 ≤ q ∧ q ≤ a + 5)) : (cpS M a b).1 q = M.1 q := by
  unfold cpS
  simp (disch := omega) only [wI_sA, rdA, rdN, rdL, upd_e, upd_n]
theorem cpS_c {M : PM} {a b k : Nat} (h : k < 8) : (cpS M a b).1 (a + 1) k = M.1 (b + 1) k ∧ (cpS M a b).1 (a + 2) k = M.1 (b + 2) k ∧ (cpS M a b).1 (a + 3) k = M.1 (b + 3) k := by
  unfold cpS
  simp (disch := omega) only [wI_sA, rdA, rdN, rdL, upd_e, upd_n]
  exact ⟨fo_in0 h, fo_in0 h, fo_in0 h⟩
theorem cpS_s {M : PM} {a b k : Nat} (h : k < 5) : (cpS M a b).1 (a + 4) k = M.1 (b + 4) k ∧ (cpS M a b).1 (a + 5) k = M.1 (b + 5) k := by
  unfold cpS
  simp (disch := omega) only [wI_sA, rdA, rdN, rdL, upd_e, upd_n]
  exact ⟨fo_in0 h, fo_in0 h⟩
theorem pair_keep {G : GG} {M : PM} {x : Int32} (h : Rel M) : Pair G m_X8_keep m_X9_keep [.int x] M := by
  have hr := h.eqv (Eqv.t0 M (nI 0))
  obtain ⟨nP, nC, nS, tl, sn, tn, hN⟩ := h
  obtain ⟨h1, h2, h3, h4, h5, h6, h7, h8, h9⟩ := id hN
  obtain ⟨a1, a2, a3, a4, a5, a6, a7, a8, a9⟩ := id h1
  refine PC.of (d := 899) ok_X8_keep (Nat.le_of_ble_eq_true rfl) (g_X8_keep_0 (c_isZeroOrOne ?_))
  simp only [gI, bI_z]
  refine b2 (fun q => ⟨_, rfl, PC.of (d := 899) ok_X9_keep (Nat.le_of_ble_eq_true rfl) (g_X9_keep_0 (c_X9_in ?_))⟩) (fun q => ?_)
  · simp only [gI, bI_z]
    exact b1 (fun z => q (zo_in.mp z)) ⟨by trivial, hr⟩
  rcases Classical.not_not.mp q with rfl | rfl
  · refine PC.of (d := 898) ok_X8_imageOf (Nat.le_of_ble_eq_true rfl) (g_X8_imageOf_0 (b1 rfl ?_))
    simp only [gR]
    refine g_X8_keep_14_13 (c_copy (by omega) ?_)
    simp only [gN]
    refine ⟨by decide, c_X4_seatedChildren a6 ?_ ?_⟩
    · simp (disch := omega) only [wI_sA, rdA, rdN, rdL, upd_e, upd_n]; rw [cpS_rd (by omega)]; exact a4
    simp only [gI]
    have ei : idC (wI (cpS M 13 7) 13 6 (nI 1)) = idC M := by unfold idC; simp (disch := omega) only [wI_sA, rdA, rdN, rdL, upd_e, upd_n]; rw [cpS_rd (by omega)]
    rw [ei]
    refine ⟨_, rfl, c_X9_keep a6 ?_ (by omega) ⟨?_, nP, nC, nS, tl, sn, tn, hN.img ?_ ?_ ?_ ?_ ?_ ?_⟩⟩
    · simp (disch := omega) only [wI_sA, rdA, rdN, rdL, upd_e, upd_n]; rw [cpS_rd (by omega)]; exact a5
    · have es : sitRf (wI (cpS M 13 7) 13 6 (nI 1)) = sitRf M := by unfold sitRf; simp (disch := omega) only [wI_sA, rdA, rdN, rdL, upd_e, upd_n]; rw [cpS_rd (by omega)]
      rw [es, sit_eq h3 a3]
    · intro q hq; simp (disch := omega) only [wI_sA, rdA, rdN, rdL, upd_e, upd_n]; rw [cpS_rd (by omega)]
    · intro k hk; simp (disch := omega) only [wI_sA, rdA, rdN, rdL, upd_e, upd_n]; rw [cpS_rd (by omega)]
    · rfl
    · refine h3.cg (fun r hr' => ?_); simp (disch := omega) only [wI_sA, rdA, rdN, rdL, upd_e, upd_n]; rw [cpS_rd (by omega)]
    · refine Or.inr ⟨?_, ?_, h3.cp a6 a9 ?_ (fun k hk => ?_) (fun k hk => ?_) (fun k hk => ?_)⟩
      · simp (disch := omega) only [wI_sA, rdA, rdN, rdL, upd_e, upd_n]; rfl
      · simp (disch := omega) only [wI_sA, rdA, rdN, rdL, upd_e, upd_n]; rfl
      · simp (disch := omega) only [wI_sA, rdA, rdN, rdL, upd_e, upd_n]; rw [cpS_rd (by omega)]
      · simp (disch := omega) only [wI_sA, rdA, rdN, rdL, upd_e, upd_n]; exact cpS_c hk
      · simp (disch := omega) only [wI_sA, rdA, rdN, rdL, upd_e, upd_n]; exact cpS_s hk
      · simp (disch := omega) only [wI_sA, rdA, rdN, rdL, upd_e, upd_n]; rw [fo_in hk, cpS_rd (by omega), Nat.zero_add]
    · rcases h6 with ⟨z1, z2⟩ | ⟨z1, z2, z3⟩
      · refine Or.inl ⟨?_, ?_⟩
        · simp (disch := omega) only [wI_sA, rdA, rdN, rdL, upd_e, upd_n]; rw [cpS_rd (by omega)]; exact z1
        · simp (disch := omega) only [wI_sA, rdA, rdN, rdL, upd_e, upd_n]; rw [cpS_rd (by omega)]; exact z2
      · refine Or.inr ⟨?_, ?_, z3.cp a6 a9 ?_ (fun k hk => ?_) (fun k hk => ?_) (fun k hk => ?_)⟩
        · simp (disch := omega) only [wI_sA, rdA, rdN, rdL, upd_e, upd_n]; rw [cpS_rd (by omega)]; exact z1
        · simp (disch := omega) only [wI_sA, rdA, rdN, rdL, upd_e, upd_n]; rw [cpS_rd (by omega)]; exact z2
        · simp (disch := omega) only [wI_sA, rdA, rdN, rdL, upd_e, upd_n]; rw [cpS_rd (by omega)]
        · simp (disch := omega) only [wI_sA, rdA, rdN, rdL, upd_e, upd_n]; rw [cpS_rd (by omega), cpS_rd (by omega), cpS_rd (by omega)]; exact ⟨rfl, rfl, rfl⟩
        · simp (disch := omega) only [wI_sA, rdA, rdN, rdL, upd_e, upd_n]; rw [cpS_rd (by omega), cpS_rd (by omega)]; exact ⟨rfl, rfl⟩
        · simp (disch := omega) only [wI_sA, rdA, rdN, rdL, upd_e, upd_n]; rw [fo_out (by omega), cpS_rd (by omega)]
  · refine PC.of (d := 898) ok_X8_imageOf (Nat.le_of_ble_eq_true rfl) (g_X8_imageOf_0 (b0 (by decide) ?_))
    simp only [gR]
    refine g_X8_keep_14_19 (c_copy (by omega) ?_)
    simp only [gN]
    refine ⟨by decide, c_X4_seatedChildren a6 ?_ ?_⟩
    · simp (disch := omega) only [wI_sA, rdA, rdN, rdL, upd_e, upd_n]; rw [cpS_rd (by omega)]; exact a4
    simp only [gI]
    have ei : idC (wI (cpS M 19 7) 19 6 (nI 1)) = idC M := by unfold idC; simp (disch := omega) only [wI_sA, rdA, rdN, rdL, upd_e, upd_n]; rw [cpS_rd (by omega)]
    rw [ei]
    refine ⟨_, rfl, c_X9_keep a6 ?_ (by omega) ⟨?_, nP, nC, nS, tl, sn, tn, hN.img ?_ ?_ ?_ ?_ ?_ ?_⟩⟩
    · simp (disch := omega) only [wI_sA, rdA, rdN, rdL, upd_e, upd_n]; rw [cpS_rd (by omega)]; exact a5
    · have es : sitRf (wI (cpS M 19 7) 19 6 (nI 1)) = sitRf M := by unfold sitRf; simp (disch := omega) only [wI_sA, rdA, rdN, rdL, upd_e, upd_n]; rw [cpS_rd (by omega)]
      rw [es, sit_eq h3 a3]
    · intro q hq; simp (disch := omega) only [wI_sA, rdA, rdN, rdL, upd_e, upd_n]; rw [cpS_rd (by omega)]
    · intro k hk; simp (disch := omega) only [wI_sA, rdA, rdN, rdL, upd_e, upd_n]; rw [cpS_rd (by omega)]
    · rfl
    · refine h3.cg (fun r hr' => ?_); simp (disch := omega) only [wI_sA, rdA, rdN, rdL, upd_e, upd_n]; rw [cpS_rd (by omega)]
    · rcases h5 with ⟨z1, z2⟩ | ⟨z1, z2, z3⟩
      · refine Or.inl ⟨?_, ?_⟩
        · simp (disch := omega) only [wI_sA, rdA, rdN, rdL, upd_e, upd_n]; rw [cpS_rd (by omega)]; exact z1
        · simp (disch := omega) only [wI_sA, rdA, rdN, rdL, upd_e, upd_n]; rw [cpS_rd (by omega)]; exact z2
      · refine Or.inr ⟨?_, ?_, z3.cp a6 a9 ?_ (fun k hk => ?_) (fun k hk => ?_) (fun k hk => ?_)⟩
        · simp (disch := omega) only [wI_sA, rdA, rdN, rdL, upd_e, upd_n]; rw [cpS_rd (by omega)]; exact z1
        · simp (disch := omega) only [wI_sA, rdA, rdN, rdL, upd_e, upd_n]; rw [cpS_rd (by omega)]; exact z2
        · simp (disch := omega) only [wI_sA, rdA, rdN, rdL, upd_e, upd_n]; rw [cpS_rd (by omega)]
        · simp (disch := omega) only [wI_sA, rdA, rdN, rdL, upd_e, upd_n]; rw [cpS_rd (by omega), cpS_rd (by omega), cpS_rd (by omega)]; exact ⟨rfl, rfl, rfl⟩
        · simp (disch := omega) only [wI_sA, rdA, rdN, rdL, upd_e, upd_n]; rw [cpS_rd (by omega), cpS_rd (by omega)]; exact ⟨rfl, rfl⟩
        · simp (disch := omega) only [wI_sA, rdA, rdN, rdL, upd_e, upd_n]; rw [fo_out (by omega), cpS_rd (by omega)]
    · refine Or.inr ⟨?_, ?_, h3.cp a6 a9 ?_ (fun k hk => ?_) (fun k hk => ?_) (fun k hk => ?_)⟩
      · simp (disch := omega) only [wI_sA, rdA, rdN, rdL, upd_e, upd_n]; rfl
      · simp (disch := omega) only [wI_sA, rdA, rdN, rdL, upd_e, upd_n]; rfl
      · simp (disch := omega) only [wI_sA, rdA, rdN, rdL, upd_e, upd_n]; rw [cpS_rd (by omega)]
      · simp (disch := omega) only [wI_sA, rdA, rdN, rdL, upd_e, upd_n]; exact cpS_c hk
      · simp (disch := omega) only [wI_sA, rdA, rdN, rdL, upd_e, upd_n]; exact cpS_s hk
      · simp (disch := omega) only [wI_sA, rdA, rdN, rdL, upd_e, upd_n]; rw [Nat.mul_one, fo_in hk, cpS_rd (by omega), Nat.zero_add]
theorem pair_back {G : GG} {M : PM} {x : Int32} (h : Rel M) : Pair G m_X8_back m_X9_back [.int x] M := by
  have hr := h.eqv (Eqv.t0 M (nI 0))
  obtain ⟨nP, nC, nS, tl, sn, tn, hN⟩ := h
  obtain ⟨h1, h2, h3, h4, h5, h6, h7, h8, h9⟩ := id hN
  obtain ⟨a1, a2, a3, a4, a5, a6, a7, a8, a9⟩ := id h1
  refine PC.of (d := 899) ok_X8_back (Nat.le_of_ble_eq_true rfl) (g_X8_back_0 (c_isZeroOrOne ?_))
  simp only [gI, bI_z]
  refine b2 (fun q => ⟨_, rfl, PC.of (d := 899) ok_X9_back (Nat.le_of_ble_eq_true rfl) (g_X9_back_0 (c_X9_in ?_))⟩) (fun q => ?_)
  · simp only [gI, bI_z]
    exact b1 (fun z => q (zo_in.mp z)) ⟨by trivial, hr⟩
  rcases Classical.not_not.mp q with rfl | rfl
  · refine PC.of (d := 898) ok_X8_imageOf (Nat.le_of_ble_eq_true rfl) (g_X8_imageOf_0 (b1 rfl ?_))
    simp only [gR]
    refine g_X8_back_14_13 ?_
    rcases h5 with ⟨z1, z2⟩ | ⟨z1, z2, z3⟩
    · exact b1 z1 ⟨_, rfl, c_X9_back a6 a5 (by omega) (fun _ => ⟨rfl, hr⟩) (fun q => absurd z2 q)⟩
    refine b0 (by rw [z1]; decide) (c_copy (by omega) ?_)
    simp only [gN]
    refine c_X4_seatedChildren a6 (by rw [cpS_rd (by omega)]; exact a4) ?_
    simp only [gI]
    refine ⟨_, rfl, c_X9_back a6 (by rw [cpS_rd (by omega)]; exact a5) (by omega) (fun q => absurd q (by rw [cpS_rd (by omega), z2]; decide)) (fun _ => ?_)⟩
    have hSR : SR (sA (wI (cpS M 7 13) 56 0 (nI 0)) 63 (fo (fun j => (cpS M 7 13).1 64 (34 * 0 + j)) ((cpS M 7 13).1 63) 0 34)) nP nC nS 7 63 0 := by
      refine z3.cp a6 a9 ?_ (fun k hk => ?_) (fun k hk => ?_) (fun k hk => ?_)
      · simp (disch := omega) only [wI_sA, rdA, rdN, rdL, upd_e, upd_n]; rw [cpS_rd (by omega)]
      · simp (disch := omega) only [wI_sA, rdA, rdN, rdL, upd_e, upd_n]; exact cpS_c hk
      · simp (disch := omega) only [wI_sA, rdA, rdN, rdL, upd_e, upd_n]; exact cpS_s hk
      · simp (disch := omega) only [wI_sA, rdA, rdN, rdL, upd_e, upd_n]; rw [Nat.zero_add, fo_in0 hk, cpS_rd (by omega), Nat.mul_zero, Nat.zero_add]
    refine ⟨?_, nP, nC, nS, tl, sn, tn, hN.img ?_ ?_ ?_ hSR ?_ ?_⟩
    · rw [sit_eq hSR a3]
      have : idC (sA (wI (cpS M 7 13) 56 0 (nI 0)) 63 (fo (fun j => (cpS M 7 13).1 64 (34 * 0 + j)) ((cpS M 7 13).1 63) 0 34)) = idC (cpS M 7 13) := by unfold idC; simp (disch := omega) only [wI_sA, rdA, rdN, rdL, upd_e, upd_n]
      rw [this]
    · intro q hq; simp (disch := omega) only [wI_sA, rdA, rdN, rdL, upd_e, upd_n]; rw [cpS_rd (by omega)]
    · intro k hk; simp (disch := omega) only [wI_sA, rdA, rdN, rdL, upd_e, upd_n]; rw [cpS_rd (by omega)]
    · rfl
    · refine RIm1.cg (Or.inr ⟨z1, z2, z3⟩ : RIm1 M nP nC nS 13 0 0) (fun r hr => ?_) ?_ <;> (simp (disch := omega) only [wI_sA, rdA, rdN, rdL, upd_e, upd_n]; rw [cpS_rd (by omega)])
    · refine RIm1.cg h6 (fun r hr => ?_) ?_ <;> (simp (disch := omega) only [wI_sA, rdA, rdN, rdL, upd_e, upd_n]; rw [cpS_rd (by omega)])
  · refine PC.of (d := 898) ok_X8_imageOf (Nat.le_of_ble_eq_true rfl) (g_X8_imageOf_0 (b0 (by decide) ?_))
    simp only [gR]
    refine g_X8_back_14_19 ?_
    rcases h6 with ⟨z1, z2⟩ | ⟨z1, z2, z3⟩
    · exact b1 z1 ⟨_, rfl, c_X9_back a6 a5 (by omega) (fun _ => ⟨rfl, hr⟩) (fun q => absurd z2 q)⟩
    refine b0 (by rw [z1]; decide) (c_copy (by omega) ?_)
    simp only [gN]
    refine c_X4_seatedChildren a6 (by rw [cpS_rd (by omega)]; exact a4) ?_
    simp only [gI]
    refine ⟨_, rfl, c_X9_back a6 (by rw [cpS_rd (by omega)]; exact a5) (by omega) (fun q => absurd q (by rw [cpS_rd (by omega), z2]; decide)) (fun _ => ?_)⟩
    have hSR : SR (sA (wI (cpS M 7 19) 56 0 (nI 0)) 63 (fo (fun j => (cpS M 7 19).1 64 (34 * 1 + j)) ((cpS M 7 19).1 63) 0 34)) nP nC nS 7 63 0 := by
      refine z3.cp a6 a9 ?_ (fun k hk => ?_) (fun k hk => ?_) (fun k hk => ?_)
      · simp (disch := omega) only [wI_sA, rdA, rdN, rdL, upd_e, upd_n]; rw [cpS_rd (by omega)]
      · simp (disch := omega) only [wI_sA, rdA, rdN, rdL, upd_e, upd_n]; exact cpS_c hk
      · simp (disch := omega) only [wI_sA, rdA, rdN, rdL, upd_e, upd_n]; exact cpS_s hk
      · simp (disch := omega) only [wI_sA, rdA, rdN, rdL, upd_e, upd_n]; rw [Nat.zero_add, fo_in0 hk, cpS_rd (by omega)]
    refine ⟨?_, nP, nC, nS, tl, sn, tn, hN.img ?_ ?_ ?_ hSR ?_ ?_⟩
    · rw [sit_eq hSR a3]
      have : idC (sA (wI (cpS M 7 19) 56 0 (nI 0)) 63 (fo (fun j => (cpS M 7 19).1 64 (34 * 1 + j)) ((cpS M 7 19).1 63) 0 34)) = idC (cpS M 7 19) := by unfold idC; simp (disch := omega) only [wI_sA, rdA, rdN, rdL, upd_e, upd_n]
      rw [this]
    · intro q hq; simp (disch := omega) only [wI_sA, rdA, rdN, rdL, upd_e, upd_n]; rw [cpS_rd (by omega)]
    · intro k hk; simp (disch := omega) only [wI_sA, rdA, rdN, rdL, upd_e, upd_n]; rw [cpS_rd (by omega)]
    · rfl
    · refine RIm1.cg h5 (fun r hr => ?_) ?_ <;> (simp (disch := omega) only [wI_sA, rdA, rdN, rdL, upd_e, upd_n]; rw [cpS_rd (by omega)])
    · refine RIm1.cg (Or.inr ⟨z1, z2, z3⟩ : RIm1 M nP nC nS 19 1 34) (fun r hr => ?_) ?_ <;> (simp (disch := omega) only [wI_sA, rdA, rdN, rdL, upd_e, upd_n]; rw [cpS_rd (by omega)])
