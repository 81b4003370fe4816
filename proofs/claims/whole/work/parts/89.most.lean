/-! most -/
theorem and1_0 (v : Int64) : (lg_cmp (v &&& 1) 0 = 0) = (v.toBitVec.getLsbD 0 = false) := by
  apply propext
  rw [lg_cmp_eq]
  constructor
  · intro h
    have h2 : v.toBitVec &&& 1#64 = 0#64 := congrArg Int64.toBitVec h
    have h3 := congrArg (fun b => BitVec.getLsbD b 0) h2
    simpa using h3
  · intro h
    apply Int64.toBitVec_inj.1
    show v.toBitVec &&& 1#64 = 0#64
    apply BitVec.eq_of_getLsbD_eq
    intro i hi
    rw [BitVec.getLsbD_and]
    by_cases e : i = 0
    · subst e; rw [h]; simp
    · have : (1#64).getLsbD i = false := by simp [BitVec.getLsbD_one, e]
      rw [this]; simp
theorem c_X1_canLevel {G : GG} {d : Nat} {M : PM} {Q : Option Value → PM → Prop} {s sl : Nat} {m0 : Int} (hs : s < 256) (h1 : -400 ≤ m0) (h2 : m0 ≤ 400) (hl : sl ≤ 20) (hQ : Q (some (.int (bI (∃ m : Int, bA M s (m + 600) ∧ m0 + m ≤ sl ∧ -(m0 + m) ≤ sl)))) M) : PC G (d + 2) m_X1_canLevel [.ref 39, .int (nI s), .int (zI m0), .int (nI sl)] M Q := by
  refine PC.of ok_X1_canLevel (Nat.le_of_ble_eq_true rfl) (g_X1_canLevel_0 ?_)
  have e1 : (-zI m0) - nI sl = zI (-m0 - sl + (0 : Nat)) := by rw [← zI_neg, ← zI_n sl, ← zI_sub]; congr 1; omega
  have e2 : nI sl - zI m0 = zI (sl - m0) := by rw [← zI_n sl, ← zI_sub]
  rw [e1]
  refine up_ind (n := 2 * sl + 1) (P := fun j => (∀ i, i < j → ¬ bA M s (-m0 - sl + i + 600)) → PX G (d + 1) m_X1_canLevel Q 6 [some (.ref 39), some (.int (nI s)), some (.int (zI m0)), some (.int (nI sl)), some (.int (zI (-m0 - sl + (j : Nat)))), none] [] M) ?_ ?_ 0 (Nat.zero_le _) (fun i hi => absurd hi (by omega))
  · intro hno
    apply g_X1_canLevel_6
    rw [e2, zI_lt (by omega) (by omega) (by omega) (by omega)]
    refine b1 (by omega) ⟨by decide, ?_⟩
    rw [bI_f (fun ⟨m, q1, q2, q3⟩ => by
      refine hno (m + m0 + sl).toNat (by omega) ?_
      rw [show -m0 - (sl : Int) + ((m + m0 + sl).toNat : Int) + 600 = m + 600 by omega]
      exact q1)] at hQ
    exact hQ
  · intro j hj ih hno
    apply g_X1_canLevel_6
    rw [e2, zI_lt (by omega) (by omega) (by omega) (by omega)]
    refine b0 (by omega) ?_
    obtain ⟨pos, hp⟩ : ∃ pos : Nat, (pos : Int) = -m0 - sl + j + 600 := ⟨(-m0 - sl + j + 600).toNat, by omega⟩
    have ep : zI (-m0 - sl + j) + nI 600 = nI pos := by rw [← zI_n 600, ← zI_add, ← zI_n pos, hp]; rfl
    have en : zI (-m0 - sl + j) + nI 1 = zI (-m0 - sl + ((j + 1 : Nat) : Int)) := by rw [← zI_n 1, ← zI_add]; congr 1; omega
    rw [ep, en, pk_shrN (by omega) (nI 6 &&& 31) 6 (by decide), fa_mask pos 6, ← zI_n (pos / 2 ^ 6)]
    refine c_X1_wordAt hs (by omega) (by omega) ?_
    simp only [gL]
    rw [and1_0, bit_shr _ _ (pos % 2 ^ 6) 0 (shr_k _ (by omega)).1 (by omega), Nat.add_zero]
    have hb : ((wd M s ((pos / 2 ^ 6 : Nat) : Int)).toBitVec.getLsbD (pos % 2 ^ 6) = true) ↔ bA M s (-m0 - sl + j + 600) := by
      rw [wd_bit (by omega), ← hp, show 64 * ((pos / 2 ^ 6 : Nat) : Int) + ((pos % 2 ^ 6 : Nat) : Int) = pos by omega]
    refine b2 (fun z => ih (fun i hi q => ?_)) (fun z => ⟨by decide, ?_⟩)
    · by_cases e : i = j
      · subst e
        rw [hb.mpr q] at z; cases z
      · exact hno i (by omega) q
    · have z : bA M s (-m0 - sl + j + 600) := hb.mp (by cases hh : (wd M s ((pos / 2 ^ 6 : Nat) : Int)).toBitVec.getLsbD (pos % 2 ^ 6); exact absurd hh z; rfl)
      rw [bI_t ⟨-m0 - sl + j, z, by omega, by omega⟩] at hQ
      exact hQ
theorem c_X1_largestLevel {G : GG} {d : Nat} {M : PM} {Q : Option Value → PM → Prop} {nC sl : Nat} {m0 : Int} {C : Nat → Prop} (hC : nC ≤ 8) (can : ∀ s, s < 2 ^ nC → ∀ Q' : Option Value → PM → Prop, Q' (some (.int (bI (C s)))) M → PC G (d + 1) m_X1_canLevel [.ref 39, .int (nI s), .int (zI m0), .int (nI sl)] M Q') (hQ : ∀ o, BestO (fun s => 8 - popc s) C (2 ^ nC) o → Q (some (.int (oI (-1) o))) M) : PC G (d + 2) m_X1_largestLevel [.ref 39, .int (nI nC), .int (zI m0), .int (nI sl)] M Q := by
  have hp2 : 2 ^ nC ≤ 2 ^ 8 := Nat.pow_le_pow_right (by decide) hC
  refine PC.of ok_X1_largestLevel (Nat.le_of_ble_eq_true rfl) (g_X1_largestLevel_0 ?_)
  have key : ∀ k, k ≤ nC + 1 → (∀ s, s < 2 ^ nC → C s → popc s < k) → PX G (d + 1) m_X1_largestLevel Q 3 [some (.ref 39), some (.int (nI nC)), some (.int (zI m0)), some (.int (nI sl)), some (.int (lvI k)), none] [] M := by
    intro k
    induction k with
    | zero =>
      intro _ hk
      apply g_X1_largestLevel_3
      exact b1 (by decide) (hQ none (fun s hs hc => absurd (hk s hs hc) (by omega)))
    | succ k ih =>
      intro hkn hk
      apply g_X1_largestLevel_3
      have lvs : lvI (k + 1) = nI k := rfl
      rw [lvs]
      simp (disch := omega) only [nle, nlt, neq, nz, nzl, nzg, nzp, nzn, nneg, nneg9, nI_add, ncl, vin, br_T, br_F, br_p, br_n, true_and, and_true, Nat.zero_add, rdA, rdN]
      refine up_ind (n := 2 ^ nC) (P := fun j => (∀ s, s < j → C s → popc s < k) → PX G (d + 1) m_X1_largestLevel Q 11 [some (.ref 39), some (.int (nI nC)), some (.int (zI m0)), some (.int (nI sl)), some (.int (nI k)), some (.int (nI j))] [] M) ?_ ?_ 0 (Nat.zero_le _) (fun s hs => absurd hs (by omega))
      · intro hj
        apply g_X1_largestLevel_11
        rw [sh1 nC (by omega), lvI_m1]
        simp (disch := omega) only [nle, nlt, neq, nz, nzl, nzg, nzp, nzn, nneg, nneg9, nI_add, ncl, vin, br_T, br_F, br_p, br_n, true_and, and_true, Nat.zero_add, rdA, rdN]
        exact ih (by omega) hj
      · intro j hj ih2 hjj
        apply g_X1_largestLevel_11
        rw [sh1 nC (by omega)]
        simp (disch := omega) only [nle, nlt, neq, nz, nzl, nzg, nzp, nzn, nneg, nneg9, nI_add, ncl, vin, br_T, br_F, br_p, br_n, true_and, and_true, Nat.zero_add, rdA, rdN]
        have hp8 := popc_le 8 (Nat.le_refl _) j (by omega)
        have go : ¬ (popc j = k ∧ C j) → PX G (d + 1) m_X1_largestLevel Q 11 [some (.ref 39), some (.int (nI nC)), some (.int (zI m0)), some (.int (nI sl)), some (.int (nI k)), some (.int (nI (j + 1)))] [] M := fun hno => ih2 (fun s hs hc => by
          by_cases e : s = j
          · subst e
            have := hk s hj hc
            have : ¬ popc s = k := fun q => hno ⟨q, hc⟩
            omega
          · exact hjj s (by omega) hc)
        refine c_bitCount (by omega) ?_
        simp only [gI]
        rw [neq (by omega) (by omega)]
        refine b2 (fun z1 => can j hj _ ?_) (fun z1 => go (fun q => z1 q.1))
        simp only [gI, bI_z]
        refine b2 (fun z2 => go (fun q => z2 q.2)) (fun z2 => hQ (some j) ⟨hj, Classical.not_not.mp z2, fun s hs hc => ?_⟩)
        have h1 := hk s hs hc
        by_cases e : popc s < k
        · left; show 8 - popc j < 8 - popc s; omega
        · right
          refine ⟨by show 8 - popc j = 8 - popc s; omega, Classical.byContradiction fun q => ?_⟩
          have := hjj s (by omega) hc
          omega
  exact key (nC + 1) (Nat.le_refl _) (fun s hs _ => by have := popc_le nC hC s hs; omega)
theorem c_X9_most_in {G : GG} {d : Nat} {M : PM} {Q : Option Value → PM → Prop} {p h nC : Nat} {x : Int32} {C : Nat → Prop} (hp : p < 3) (hC : nC ≤ 8) (hh : h ≤ 4) (hx : x = nI 0 ∨ x = nI 1) (h15 : M.1 56 15 = nI nC) (h58 : M.1 58 p = nI h) (hno : ∀ s, s < 2 ^ nC → 2 * h < popc s → ¬ C s) (wy : ∀ s, s < 2 ^ nC → ∀ N, Frw M N → ∀ Q' : Option Value → PM → Prop, (∀ N2, Frw M N2 → Q' (some (.int (bI (C s)))) N2) → PC G (d + 1) m_X9_waysOf [.ref 56, .int (nI p), .int (nI s), .int (nI 1)] N Q') (hQ : ∀ o N, BestO (fun s => 8 - popc s) C (2 ^ nC) o → Frw M N → Q (some (.int (ans x o))) N) : PX G (d + 1) m_X9_most Q 30 [some (.ref 56), some (.int (nI p)), some (.int x), some (.int (-9)), some (.int (nI 0)), none] [] M := by
  have hp2 : 2 ^ nC ≤ 2 ^ 8 := Nat.pow_le_pow_right (by decide) hC
  have hp1 := Nat.two_pow_pos nC
  have e2h : nI 2 * nI h = nI (2 * h) := pk_mul 2 h
  refine up_ind (n := 2 ^ nC) (P := fun k => ∀ o N, BestO (fun s => 8 - popc s) C k o → Frw M N → PX G (d + 1) m_X9_most Q 30 [some (.ref 56), some (.int (nI p)), some (.int x), some (.int (oI (-9) o)), some (.int (nI k)), none] [] N) ?_ ?_ 0 (Nat.zero_le _) none M (fun s hs => absurd hs (by omega)) (Frw.refl M)
  · intro o N ho hf
    apply g_X9_most_30
    refine c_X9_all (by rw [hf.2.1 15 (by omega)]; exact h15) ?_
    simp only [gI]
    rw [sh1 nC (by omega), nsub (by omega)]
    simp (disch := omega) only [nle, nlt, neq, nz, nzl, nzg, nzp, nzn, nneg, nneg9, nI_add, ncl, vin, br_T, br_F, br_p, br_n, true_and, and_true, Nat.zero_add, rdA, rdN]
    have hq := hQ o N ho hf
    cases o with
    | none => exact b1 rfl hq
    | some r =>
      have hr := ho.1
      simp only [oI, ans] at hq ⊢
      simp (disch := omega) only [nle, nlt, neq, nz, nzl, nzg, nzp, nzn, nneg, nneg9, nI_add, ncl, vin, br_T, br_F, br_p, br_n, true_and, and_true, Nat.zero_add, rdA, rdN]
      rcases hx with hx | hx
      · subst hx
        rw [if_pos (by decide)] at hq
        refine b0 (by decide) (c_X9_ones (by omega) ?_)
        exact hq
      · subst hx
        rw [if_neg (by decide)] at hq
        exact b1 rfl hq
  · intro k hk ih o N ho hf
    apply g_X9_most_30
    refine c_X9_all (by rw [hf.2.1 15 (by omega)]; exact h15) ?_
    simp only [gI]
    rw [sh1 nC (by omega), nsub (by omega)]
    simp (disch := omega) only [nle, nlt, neq, nz, nzl, nzg, nzp, nzn, nneg, nneg9, nI_add, ncl, vin, br_T, br_F, br_p, br_n, true_and, and_true, Nat.zero_add, rdA, rdN]
    have p1 := popc_le 8 (Nat.le_refl _) k (by omega)
    have keep : ∀ N2, Frw M N2 → ¬ (C k ∧ ∀ r, o = some r → 8 - popc k < 8 - popc r) → PX G (d + 1) m_X9_most Q 102 [some (.ref 56), some (.int (nI p)), some (.int x), none, some (.int (nI k)), none] [.int (oI (-9) o)] N2 := fun N2 h2 z => by
      apply g_X9_most_102
      rw [nI_add]
      exact ih o N2 (ho.no z) h2
    have no : ¬ (C k ∧ ∀ r, o = some r → 8 - popc k < 8 - popc r) → PX G (d + 1) m_X9_most Q 62 [some (.ref 56), some (.int (nI p)), some (.int x), some (.int (oI (-9) o)), some (.int (nI k)), none] [.int (nI 0)] N := fun z => by
      apply g_X9_most_62
      exact b1 rfl (keep N hf z)
    have yes : (∀ r, o = some r → 8 - popc k < 8 - popc r) → PX G (d + 1) m_X9_most Q 62 [some (.ref 56), some (.int (nI p)), some (.int x), some (.int (oI (-9) o)), some (.int (nI k)), none] [.int (nI 1)] N := fun z => by
      apply g_X9_most_62
      refine b0 (by decide) (c_X9_ones (by omega) ?_)
      simp only [gI]
      have e58 : N.1 58 p = nI h := by rw [hf.1 58 (by omega) (by omega)]; exact h58
      simp (disch := omega) only [nle, nlt, neq, nz, nzl, nzg, nzp, nzn, nneg, nneg9, nI_add, ncl, vin, br_T, br_F, br_p, br_n, true_and, and_true, Nat.zero_add, rdA, rdN, e58, e2h]
      refine b2 (fun y => keep N hf (fun q => hno k hk y q.1)) (fun y => wy k hk N hf _ (fun N2 hf2 => ?_))
      simp only [gI]
      by_cases hc : C k
      · rw [bI_t hc]
        refine b0 (by decide) ?_
        apply g_X9_most_102
        rw [nI_add]
        exact ih (some k) N2 (ho.yes hc z) hf2
      · rw [bI_f hc]
        exact b1 (by decide) (keep N2 hf2 (fun q => hc q.1))
    cases o with
    | none => exact b1 rfl (yes (fun r e => by cases e))
    | some r =>
      have hr := ho.1
      have p2 := popc_le 8 (Nat.le_refl _) r (by omega)
      refine b0 (by simp only [oI]; rw [nneg9 (by omega)]; exact id) (c_X9_ones (by omega) ?_)
      simp only [gI]
      refine c_X9_ones (by omega) ?_
      simp only [gI]
      rw [nle (by omega) (by omega)]
      refine b2 (fun z2 => no (fun q => ?_)) (fun z2 => yes (fun r' e => ?_))
      · have := q.2 r rfl; omega
      · cases e; omega
theorem bits_popc {s nC : Nat} (hC : nC ≤ 8) (hs : s < 2 ^ nC) : (bitsL s nC).length = popc s := by
  have e : s = mkN (fun c => s.testBit c) nC := by rw [← mod_mk]; exact (Nat.mod_eq_of_lt hs).symm
  have := popc_mk (fun c => s.testBit c) nC hC
  rw [← e] at this
  rw [this, bitsL_len]
theorem pair_most {G : GG} {M : PM} {x1 x2 : Int32} (h : Rel M) : Pair G m_X8_most m_X9_most [.int x1, .int x2] M := by
  have hr := h.eqv (Eqv.t0 M (nI 0))
  obtain ⟨nP, nC, nS, tl, sn, tn, hN⟩ := h
  have hP3 := hN.1.2.2.1
  have hC8 := hN.1.2.2.2.2.2.1
  have hS5 := hN.1.2.2.2.2.2.2.2.2
  have hN0 := hN.eqv (Eqv.t0 M (nI 0))
  have hp2 : 2 ^ nC ≤ 2 ^ 8 := Nat.pow_le_pow_right (by decide) hC8
  refine PC.of (d := 899) ok_X8_most (Nat.le_of_ble_eq_true rfl) (g_X8_most_0 (c_X3_hasPlank hN.1.1 ?_))
  simp only [gI, bI_z]
  refine b2 (fun q => ⟨_, rfl, PC.of (d := 899) ok_X9_most (Nat.le_of_ble_eq_true rfl) (g_X9_most_0 (c_X9_isPlank hN0.1.2.1 hP3 ?_))⟩) (fun q => ?_)
  · simp only [gI, bI_z]
    exact b1 q ⟨by trivial, hr⟩
  obtain ⟨p, hp, rfl⟩ := (inR_dec (x := x1) (n := nP) (by omega)).resolve_right q
  refine c_isZeroOrOne ?_
  simp only [gI, bI_z]
  refine b2 (fun qz => ⟨_, rfl, PC.of (d := 899) ok_X9_most (Nat.le_of_ble_eq_true rfl) (g_X9_most_0 (c_X9_isPlank hN0.1.2.1 hP3 ?_))⟩) (fun qz => ?_)
  · simp only [gI, bI_z]
    refine b0 (fun z => z (inR_y hp (by omega))) (c_X9_in ?_)
    simp only [gI, bI_z]
    exact b1 (fun z => qz (zo_in.mp z)) ⟨by trivial, hr⟩
  have qz := Classical.not_not.mp qz
  obtain ⟨hh, a1, a2, a3, -⟩ := hN.2.1.1 p hp
  obtain ⟨sl, b1', b2', -⟩ := hN.2.1.2.1 p hp
  obtain ⟨m0, c1, c2, c3⟩ := st_b hS5 hN.2.1 hN.2.2.1 (nI p)
  have hF : ∀ t, SFx (sq hh) (bitsL t nC).length (wB M 4 (bitsL t nC)) (stp hh) m0 sl := fun t => by
    have hle := bitsL_le t nC
    refine ⟨by rw [sq_len]; omega, sq_nd hh, by omega, fun x hx => ?_, fun i => ?_, by omega, by omega, b1'⟩
    · have := stp_b a2 (sq_mem.mp hx); omega
    · refine wB_b (n := 0) (W := 60) (Nat.le_refl _) (fun c hc => ?_) i
      obtain ⟨w, -, w2, w3, -⟩ := hN.2.1.2.2.1 c (bitsL_mem.mp hc).1
      exact ⟨w, w2, w3⟩
  have hw60 : ∀ c, c < nC → 0 ≤ (M.1 4 c).toInt ∧ (M.1 4 c).toInt ≤ 60 := fun c hc => by
    obtain ⟨wv, w1, w2, w3, -⟩ := hN.2.1.2.2.1 c hc
    rw [w3, toInt_nI (by omega)]; omega
  have hwB : ∀ t i (hi : i < (bitsL t nC).length), wB M 4 (bitsL t nC) i = (M.1 4 (bitsL t nC)[i]).toInt := fun t i hi => by
    unfold wB; rw [if_pos hi, getD_g hi]
  refine c_X1_spread (d := 895) (w := fun c => (M.1 4 c).toInt) (by omega) a2 hC8 hN.1.2.2.2.1 a3 (fun c _ => (zI_t _).symm) hw60 (fun N hf hb => ?_)
  simp only [gN]
  refine c_X4_stoneMoment hS5 (by rw [hf.1]; exact hN.1.2.2.2.2.2.2.1) ?_
  simp only [gI]
  rw [hf.eqv.sC, c3, hf.1, hN.1.2.2.2.1]
  simp (disch := omega) only [nle, nlt, neq, nz, nzl, nzg, nzp, nzn, nneg, nneg9, nI_add, ncl, vin, br_T, br_F, br_p, br_n, true_and, and_true, Nat.zero_add, rdA, rdN]
  rw [b2']
  refine c_X1_largestLevel (d := 897) (C := fun s => ∃ m, Ach nC (fun c => (M.1 4 c).toInt) (stp hh) (2 * hh) s m ∧ m0 + m ≤ sl ∧ -(m0 + m) ≤ sl) hC8 (fun s hs Q' hQ' => c_X1_canLevel (d := 896) (by omega) c1 c2 b1' ?_) (fun o ho => ?_)
  · have e : (∃ m : Int, bA N s (m + 600) ∧ m0 + m ≤ sl ∧ -(m0 + m) ≤ sl) = (∃ m, Ach nC (fun c => (M.1 4 c).toInt) (stp hh) (2 * hh) s m ∧ m0 + m ≤ sl ∧ -(m0 + m) ≤ sl) := by
      apply propext
      constructor
      · rintro ⟨m, q1, q2⟩
        have := (hb s hs (m + 600)).mp q1
        rw [show m + 600 - 600 = m by omega] at this
        exact ⟨m, this, q2⟩
      · rintro ⟨m, q1, q2⟩
        refine ⟨m, (hb s hs (m + 600)).mpr ?_, q2⟩
        rw [show m + 600 - 600 = m by omega]
        exact q1
    rw [e]
    exact hQ'
  simp only [gI]
  refine c_countOrSet (d := 897) (fun r e => by subst e; have := ho.1; omega) ?_
  simp only [gI]
  have he0 := hf.eqv.trans (Eqv.t0 N (nI 0))
  have hN2 := hN.eqv he0
  refine ⟨_, rfl, PC.of (d := 899) ok_X9_most (Nat.le_of_ble_eq_true rfl) (g_X9_most_0 (c_X9_isPlank hN2.1.2.1 hP3 ?_))⟩
  simp only [gI, bI_z]
  refine b0 (fun z => z (inR_y hp (by omega))) (c_X9_in ?_)
  simp only [gI, bI_z]
  refine b0 (fun z => z (zo_in.mpr qz)) ?_
  generalize wI N 56 0 (nI 0) = N0 at he0 hN2 ⊢
  have hlv : ∀ s, s < 2 ^ nC → ((∃ f, f ∈ fil (sq hh) (bitsL s nC).length [] ∧ lev (wB M 4 (bitsL s nC)) (stp hh) m0 sl f = true) ↔ ∃ m, Ach nC (fun c => (M.1 4 c).toInt) (stp hh) (2 * hh) s m ∧ m0 + m ≤ sl ∧ -(m0 + m) ≤ sl) := fun s hs => lv_ach hs (fun i hi => hwB s i hi)
  refine c_X9_most_in (d := 898) (C := fun s => ∃ m, Ach nC (fun c => (M.1 4 c).toInt) (stp hh) (2 * hh) s m ∧ m0 + m ≤ sl ∧ -(m0 + m) ≤ sl) (by omega) hC8 a2 qz hN2.1.2.2.2.2.1 (ref_58 hN2 he0 hp a3) (fun s hs hpc hc => ?_) (fun s hs N3 hf3 Q' hQ' => ?_) (fun o' N3 ho' hf3 => ?_)
  · obtain ⟨f, hf, -⟩ := (hlv s hs).mpr hc
    rw [fil_none (by rw [bits_popc hC8 hs]; exact hpc)] at hf
    cases hf
  · have he3 := he0.trans hf3.eqv
    have hN3 := hN.eqv he3
    refine c_X9_waysOf (d := 896) (by omega) a1 a2 hC8 hS5 (by omega) hN3.1.2.2.2.2.1 hN3.1.2.2.2.2.2.2.2.1 (ref_58 hN3 he3 hp a3) (ref_59 hN3 he3 hp b2') (ref_w hN3 he3) (hF s) (ref_st hN3 he3 hp c3) (Nat.le_refl _) (by omega) (fun N4 hf4 _ _ _ => ?_)
    have hq := hQ' N4 (hf3.trans hf4)
    rw [fold_one]
    cases hfd : (fil (sq hh) (bitsL s nC).length []).find? (lev (wB M 4 (bitsL s nC)) (stp hh) m0 sl) with
    | none =>
      rw [bI_f (fun q => by
        obtain ⟨f, f1, f2⟩ := (hlv s hs).mpr q
        exact List.find?_eq_none.mp hfd f f1 f2)] at hq
      exact hq
    | some f =>
      rw [bI_t ((hlv s hs).mp ⟨f, List.mem_of_find?_eq_some hfd, List.find?_some hfd⟩)] at hq
      exact hq
  · rw [ho.uniq ho']
    exact ⟨rfl, Rel.of (hN2.eqv hf3.eqv)⟩
