/-! forever -/
def fitC (M : PM) (p a b : Nat) : Prop := absI (M.1 4 a - M.1 4 b) ≤ M.1 3 p
def fitR (M : PM) (p a b : Nat) : Prop := absI (M.1 60 a - M.1 60 b) ≤ M.1 59 p
theorem c_X9_areAPair {G : GG} {d : Nat} {M : PM} {Q : Option Value → PM → Prop} {p a b : Nat} (hp : p < 3) (ha : a < 8) (hb : b < 8) (hQ : Q (some (.int (bI (fitR M p a b)))) M) : PC G (d + 2) m_X9_areAPair [.ref 56, .int (nI p), .int (nI a), .int (nI b)] M Q := by
  refine PC.of ok_X9_areAPair (Nat.le_of_ble_eq_true rfl) (g_X9_areAPair_0 ?_)
  simp only [n01a, n01b, true_and]
  simp (disch := omega) only [nle, nlt, neq, nz, nzl, nzg, nzp, nzn, nneg, nneg9, nI_add, ncl, vin, br_T, br_F, br_p, br_n, true_and, and_true, Nat.zero_add, rdA, rdN]
  refine c_X9_size ?_
  simp only [gI]
  unfold fitR at hQ
  refine b2 (fun h => ?_) (fun h => ?_)
  · rw [bI_f (Int32.not_le.mpr h)] at hQ; exact hQ
  · rw [bI_t (Int32.not_lt.mp h)] at hQ; exact hQ
def hpC (M : PM) (nP nC c : Nat) : Prop := ∃ p, p < nP ∧ ∃ b, b < nC ∧ ¬ b = c ∧ fitC M p c b
theorem c_X8_hasPartner {G : GG} {d : Nat} {M : PM} {Q : Option Value → PM → Prop} {nP nC c : Nat} (hP : nP ≤ 3) (hC : nC ≤ 8) (hM : M.1 1 5 = nI nP) (hM1 : M.1 1 6 = nI nC) (hc : c < nC) (hQ : Q (some (.int (bI (hpC M nP nC c)))) M) : PC G (d + 2) m_X8_hasPartner [.ref 0, .int (nI c)] M Q := by
  refine PC.of ok_X8_hasPartner (Nat.le_of_ble_eq_true rfl) (g_X8_hasPartner_0 ?_)
  refine up_ind (P := fun k => (∀ j, j < k → ∀ b, b < nC → ¬ b = c → ¬ fitC M j c b) → PX G (d + 1) m_X8_hasPartner Q 2 [some (.ref 0), some (.int (nI c)), some (.int (nI k)), none] [] M) ?_ ?_ 0 (Nat.zero_le nP) (fun j hj => absurd hj (by omega))
  · intro hno
    apply g_X8_hasPartner_2
    simp only [n01a, n01b, true_and]
    simp (disch := omega) only [nle, nlt, neq, nz, nzl, nzg, nzp, nzn, nneg, nneg9, nI_add, ncl, vin, br_T, br_F, br_p, br_n, true_and, and_true, Nat.zero_add, rdA, rdN, hM]
    rw [bI_f (fun ⟨p, hp, b, hb, hbc, hf⟩ => hno p hp b hb hbc hf)] at hQ
    exact hQ
  · intro k hk ih hno
    apply g_X8_hasPartner_2
    simp only [n01a, n01b, true_and]
    simp (disch := omega) only [nle, nlt, neq, nz, nzl, nzg, nzp, nzn, nneg, nneg9, nI_add, ncl, vin, br_T, br_F, br_p, br_n, true_and, and_true, Nat.zero_add, rdA, rdN, hM]
    refine up_ind (P := fun b => (∀ j, j < b → ¬ j = c → ¬ fitC M k c j) → PX G (d + 1) m_X8_hasPartner Q 15 [some (.ref 0), some (.int (nI c)), some (.int (nI k)), some (.int (nI b))] [] M) ?_ ?_ 0 (Nat.zero_le nC) (fun j hj => absurd hj (by omega))
    · intro hb
      apply g_X8_hasPartner_15
      simp only [n01a, n01b, true_and]
      simp (disch := omega) only [nle, nlt, neq, nz, nzl, nzg, nzp, nzn, nneg, nneg9, nI_add, ncl, vin, br_T, br_F, br_p, br_n, true_and, and_true, Nat.zero_add, rdA, rdN, hM1]
      refine ih (fun j hj => ?_)
      by_cases e : j = k
      · subst e; exact hb
      · exact hno j (by omega)
    · intro b hb ih2 hn
      apply g_X8_hasPartner_15
      simp only [n01a, n01b, true_and]
      simp (disch := omega) only [nle, nlt, neq, nz, nzl, nzg, nzp, nzn, nneg, nneg9, nI_add, ncl, vin, br_T, br_F, br_p, br_n, true_and, and_true, Nat.zero_add, rdA, rdN, hM1]
      have nx : (¬ b = c → ¬ fitC M k c b) → PX G (d + 1) m_X8_hasPartner Q 15 [some (.ref 0), some (.int (nI c)), some (.int (nI k)), some (.int (nI (b + 1)))] [] M := fun q => ih2 (fun j hj => by
        by_cases e : j = b
        · subst e; exact q
        · exact hn j (by omega))
      refine b2 (fun e => nx (fun q => absurd e q)) (fun e => c_X3_fits (by omega) (by omega) (by omega) ?_)
      simp only [gI, bI_z, n01b, true_and]
      refine b2 (fun q => nx (fun _ => q)) (fun q => ?_)
      rw [bI_t ⟨k, hk, b, hb, e, Classical.not_not.mp q⟩] at hQ
      exact hQ
noncomputable def dB (p : Prop) : Bool := @decide p (Classical.propDecidable p)
theorem dB_t {p : Prop} (h : p) : dB p = true := @decide_eq_true p (Classical.propDecidable p) h
theorem dB_f {p : Prop} (h : ¬ p) : dB p = false := @decide_eq_false p (Classical.propDecidable p) h
theorem c_X8_forever {G : GG} {d : Nat} {M : PM} {Q : Option Value → PM → Prop} {nP nC : Nat} (hP : nP ≤ 3) (hC : nC ≤ 8) (hM : M.1 1 5 = nI nP) (hM1 : M.1 1 6 = nI nC) (hQ : Q (some (.int (nI (mkN (fun c => dB (¬ hpC M nP nC c)) nC)))) M) : PC G (d + 3) m_X8_forever [.ref 0] M Q := by
  refine PC.of ok_X8_forever (Nat.le_of_ble_eq_true rfl) (g_X8_forever_0 ?_)
  refine up_ind (P := fun k => PX G (d + 2) m_X8_forever Q 4 [some (.ref 0), some (.int (nI (mkN (fun c => dB (¬ hpC M nP nC c)) k))), some (.int (nI k))] [] M) ?_ ?_ 0 (Nat.zero_le nC)
  · apply g_X8_forever_4
    simp (disch := omega) only [nle, nlt, neq, nz, nzl, nzg, nzp, nzn, nneg, nneg9, nI_add, ncl, vin, br_T, br_F, br_p, br_n, true_and, and_true, Nat.zero_add, rdA, rdN, hM1]
    exact hQ
  · intro k hk ih
    apply g_X8_forever_4
    simp (disch := omega) only [nle, nlt, neq, nz, nzl, nzg, nzp, nzn, nneg, nneg9, nI_add, ncl, vin, br_T, br_F, br_p, br_n, true_and, and_true, Nat.zero_add, rdA, rdN, hM1]
    refine c_X8_hasPartner hP hC hM hM1 hk ?_
    simp only [gI, bI_z]
    rw [mkN] at ih
    refine b2 (fun h => ?_) (fun h => ?_)
    · rw [or_bit (by omega) (mkN_lt _ _)]; simpa only [dB_t h, if_true] using ih
    · simpa only [dB_f h, if_false, Nat.add_zero, Bool.false_eq_true] using ih
def hpR (M : PM) (nP nC c : Nat) : Prop := ∃ b, b < nC ∧ ∃ p, p < nP ∧ ¬ c = b ∧ fitR M p c b
theorem c_X9_forever {G : GG} {d : Nat} {M : PM} {Q : Option Value → PM → Prop} {nP nC : Nat} (hP : nP ≤ 3) (hC : nC ≤ 8) (hM : M.1 56 14 = nI nP) (hM1 : M.1 56 15 = nI nC) (hQ : Q (some (.int (nI (mkN (fun c => dB (¬ hpR (wI M 56 0 (nI 0)) nP nC c)) nC)))) (wI M 56 0 (nI 0))) : PC G (d + 3) m_X9_forever [.ref 56] M Q := by
  refine PC.of ok_X9_forever (Nat.le_of_ble_eq_true rfl) (g_X9_forever_0 ?_)
  have e14 : (wI M 56 0 (nI 0)).1 56 14 = nI nP := by simp (disch := omega) only [wI_sA, rdA, rdN, rdL, upd_e, upd_n]; exact hM
  have e15 : (wI M 56 0 (nI 0)).1 56 15 = nI nC := by simp (disch := omega) only [wI_sA, rdA, rdN, rdL, upd_e, upd_n]; exact hM1
  generalize wI M 56 0 (nI 0) = N at *
  refine up_ind (P := fun k => PX G (d + 2) m_X9_forever Q 9 [some (.ref 56), some (.int (nI (mkN (fun c => dB (¬ hpR N nP nC c)) k))), some (.int (nI k)), none, none, none] [] N) ?_ ?_ 0 (Nat.zero_le nC)
  · apply g_X9_forever_9
    simp (disch := omega) only [nle, nlt, neq, nz, nzl, nzg, nzp, nzn, nneg, nneg9, nI_add, ncl, vin, br_T, br_F, br_p, br_n, true_and, and_true, Nat.zero_add, rdA, rdN, e15]
    exact hQ
  · intro k hk ih
    apply g_X9_forever_9
    simp (disch := omega) only [nle, nlt, neq, nz, nzl, nzg, nzp, nzn, nneg, nneg9, nI_add, ncl, vin, br_T, br_F, br_p, br_n, true_and, and_true, Nat.zero_add, rdA, rdN, e15]
    have b00 : nI 0 = bI (∃ b, b < 0 ∧ ∃ p, p < nP ∧ ¬ k = b ∧ fitR N p k b) := by rw [bI_f]; rintro ⟨b, hb, -⟩; omega
    rw [b00]
    have key := up_ind (P := fun b => PX G (d + 2) m_X9_forever Q 22 [some (.ref 56), some (.int (nI (mkN (fun c => dB (¬ hpR N nP nC c)) k))), some (.int (nI k)), some (.int (bI (∃ j, j < b ∧ ∃ p, p < nP ∧ ¬ k = j ∧ fitR N p k j))), some (.int (nI b)), none] [] N) (n := nC) ?_ ?_ 0 (Nat.zero_le nC)
    · have e0 : (bI (∃ b, b < 0 ∧ ∃ p, p < nP ∧ ¬ k = b ∧ fitR N p k b)) = nI 0 := b00.symm
      rw [e0] at key ⊢
      exact key
    · apply g_X9_forever_22
      simp (disch := omega) only [nle, nlt, neq, nz, nzl, nzg, nzp, nzn, nneg, nneg9, nI_add, ncl, vin, br_T, br_F, br_p, br_n, true_and, and_true, Nat.zero_add, rdA, rdN, e15, bI_z]
      rw [mkN] at ih
      refine b2 (fun h => ?_) (fun h => ?_)
      · rw [or_bit (by omega) (mkN_lt _ _)]
        have h' : ¬ hpR N nP nC k := h
        simpa only [dB_t h', if_true] using ih
      · have h' : ¬ ¬ hpR N nP nC k := h
        rw [fa_or, Nat.or_zero]
        simpa only [dB_f h', if_false, Nat.add_zero, Bool.false_eq_true] using ih
    · intro b hb ih2
      apply g_X9_forever_22
      simp (disch := omega) only [nle, nlt, neq, nz, nzl, nzg, nzp, nzn, nneg, nneg9, nI_add, ncl, vin, br_T, br_F, br_p, br_n, true_and, and_true, Nat.zero_add, rdA, rdN, e15]
      have key2 := up_ind (P := fun p => PX G (d + 2) m_X9_forever Q 34 [some (.ref 56), some (.int (nI (mkN (fun c => dB (¬ hpR N nP nC c)) k))), some (.int (nI k)), some (.int (bI ((∃ j, j < b ∧ ∃ p, p < nP ∧ ¬ k = j ∧ fitR N p k j) ∨ ∃ j, j < p ∧ ¬ k = b ∧ fitR N j k b))), some (.int (nI b)), some (.int (nI p))] [] N) (n := nP) ?_ ?_ 0 (Nat.zero_le nP)
      · have e0 : ((∃ j, j < b ∧ ∃ p, p < nP ∧ ¬ k = j ∧ fitR N p k j) ∨ ∃ j, j < 0 ∧ ¬ k = b ∧ fitR N j k b) = (∃ j, j < b ∧ ∃ p, p < nP ∧ ¬ k = j ∧ fitR N p k j) := propext ⟨fun z => z.elim id (fun ⟨j, hj, _⟩ => absurd hj (by omega)), Or.inl⟩
        rw [e0] at key2
        exact key2
      · apply g_X9_forever_34
        simp (disch := omega) only [nle, nlt, neq, nz, nzl, nzg, nzp, nzn, nneg, nneg9, nI_add, ncl, vin, br_T, br_F, br_p, br_n, true_and, and_true, Nat.zero_add, rdA, rdN, e14]
        have e0 : ((∃ j, j < b ∧ ∃ p, p < nP ∧ ¬ k = j ∧ fitR N p k j) ∨ ∃ j, j < nP ∧ ¬ k = b ∧ fitR N j k b) = (∃ j, j < b + 1 ∧ ∃ p, p < nP ∧ ¬ k = j ∧ fitR N p k j) := by
          apply propext
          constructor
          · rintro (⟨j, hj, q⟩ | ⟨j, hj, q⟩)
            · exact ⟨j, by omega, q⟩
            · exact ⟨b, by omega, j, hj, q⟩
          · rintro ⟨j, hj, p, hp, q⟩
            by_cases e : j = b
            · subst e; exact Or.inr ⟨p, hp, q⟩
            · exact Or.inl ⟨j, by omega, p, hp, q⟩
        rw [e0]
        exact ih2
      · intro p hp ih3
        apply g_X9_forever_34
        simp (disch := omega) only [nle, nlt, neq, nz, nzl, nzg, nzp, nzn, nneg, nneg9, nI_add, ncl, vin, br_T, br_F, br_p, br_n, true_and, and_true, Nat.zero_add, rdA, rdN, e14, bI_z]
        have nx : ∀ {z : Int32} {R : Prop}, z = bI R → (R ↔ ((∃ j, j < b ∧ ∃ p, p < nP ∧ ¬ k = j ∧ fitR N p k j) ∨ ∃ j, j < p + 1 ∧ ¬ k = b ∧ fitR N j k b)) → PX G (d + 2) m_X9_forever Q 34 [some (.ref 56), some (.int (nI (mkN (fun c => dB (¬ hpR N nP nC c)) k))), some (.int (nI k)), some (.int z), some (.int (nI b)), some (.int (nI (p + 1)))] [] N := by
          intro z R hz hR
          rw [hz, propext hR]
          exact ih3
        refine b2 (fun q => b2 (fun e => ?_) (fun e => c_X9_areAPair (by omega) (by omega) (by omega) ?_)) (fun q => ?_)
        · refine nx (R := False) (bI_f id).symm ⟨False.elim, ?_⟩
          rintro (z | ⟨j, hj, z, -⟩)
          · exact q (Or.inl z)
          · exact z e
        · simp only [gI, bI_z]
          refine b2 (fun f => ?_) (fun f => ?_)
          · refine nx (R := False) (bI_f id).symm ⟨False.elim, ?_⟩
            rintro (z | ⟨j, hj, z1, z2⟩)
            · exact q (Or.inl z)
            · by_cases ej : j = p
              · subst ej; exact f z2
              · exact q (Or.inr ⟨j, by omega, z1, z2⟩)
          · exact nx (R := True) (bI_t trivial).symm ⟨fun _ => Or.inr ⟨p, by omega, e, Classical.not_not.mp f⟩, fun _ => trivial⟩
        · refine nx (R := True) (bI_t trivial).symm ⟨fun _ => ?_, fun _ => trivial⟩
          rcases Classical.not_not.mp q with z | ⟨j, hj, z⟩
          · exact Or.inl z
          · exact Or.inr ⟨j, by omega, z⟩
theorem fit_eq {M : PM} {nP nC nS : Nat} (hr : RRo M nP nC nS) {p a b : Nat} (hp : p < nP) (ha : a < nC) (hb : b < nC) : fitC M p a b ↔ fitR M p a b := by
  unfold fitC fitR
  obtain ⟨w, -, -, e1, e2⟩ := hr.2.2.1 a ha
  obtain ⟨w2, -, -, e3, e4⟩ := hr.2.2.1 b hb
  obtain ⟨s, -, e5, e6⟩ := hr.2.1 p hp
  rw [e1, e2, e3, e4, e5, e6]
theorem pair_forever {G : GG} {M : PM} (h : Rel M) : Pair G m_X8_forever m_X9_forever [] M := by
  have hr := h.eqv (Eqv.t0 M (nI 0))
  obtain ⟨nP, nC, nS, tl, sn, tn, hN⟩ := h
  obtain ⟨h1, h2, h3, hrest⟩ := id hN
  obtain ⟨a1, a2, a3, a4, a5, a6, a7, a8, a9⟩ := id h1
  refine c_X8_forever a3 a6 a1 a4 ⟨_, rfl, c_X9_forever a3 a6 a2 a5 ⟨?_, hr⟩⟩
  have : mkN (fun c => dB (¬ hpR (wI M 56 0 (nI 0)) nP nC c)) nC = mkN (fun c => dB (¬ hpC M nP nC c)) nC := by
    refine mkN_congr (fun c hc => ?_)
    have e : hpR (wI M 56 0 (nI 0)) nP nC c = hpR M nP nC c := by unfold hpR fitR; simp (disch := omega) only [wI_sA, rdA, rdN, rdL, upd_e, upd_n]
    have : hpR M nP nC c ↔ hpC M nP nC c := by
      constructor
      · rintro ⟨b, hb, p, hp, hn, hf⟩
        exact ⟨p, hp, b, hb, fun z => hn z.symm, (fit_eq h2 hp hc hb).mpr hf⟩
      · rintro ⟨p, hp, b, hb, hn, hf⟩
        exact ⟨b, hb, p, hp, fun z => hn z.symm, (fit_eq h2 hp hc hb).mp hf⟩
    show dB _ = dB _
    rw [e, propext this]
  rw [this]
