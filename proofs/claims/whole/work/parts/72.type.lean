/-! type -/
def byN (x : Int64) (k : Nat) : Nat := x.toBitVec.toNat / 2 ^ (8 * k) % 256
theorem bs_u : ∀ k, k < 8 → ((nI 8 * nI k).toInt64.toUInt64 &&& Int64.toUInt64 63) = UInt64.ofNat (8 * k) := by decide +kernel
theorem bs_i : ∀ k, k < 8 → ((nI 8 * nI k).toInt64 &&& 63) = Int64.ofNat (8 * k) := by decide +kernel
theorem bv_by (v : BitVec 64) (k : Nat) (hk : k < 8) : ((v >>> (8 * k)) &&& 255#64).signExtend 32 = BitVec.ofNat 32 (v.toNat / 2 ^ (8 * k) % 256) := by
  apply BitVec.eq_of_getLsbD_eq
  intro i hi
  have e : (v.toNat / 2 ^ (8 * k) % 256).testBit i = (decide (i < 8) && v.getLsbD (8 * k + i)) := by
    rw [show (256 : Nat) = 2 ^ 8 by rfl, Nat.testBit_mod_two_pow, Nat.testBit_div_two_pow, BitVec.getLsbD, Nat.add_comm]
  have e255 : (255#64).getLsbD i = decide (i < 8) := by
    have : ∀ i, i < 32 → (255#64).getLsbD i = decide (i < 8) := by decide
    exact this i hi
  rw [BitVec.getLsbD_signExtend, BitVec.getLsbD_ofNat, e, if_pos (by omega), BitVec.getLsbD_and, BitVec.getLsbD_ushiftRight, e255]
  simp [hi, Bool.and_comm]
theorem bv_sby (v : BitVec 64) (k : Nat) (hk : k < 8) : (v.sshiftRight (8 * k)) &&& 255#64 = (v >>> (8 * k)) &&& 255#64 := by
  apply BitVec.eq_of_getLsbD_eq
  intro i hi
  have e255 : (255#64).getLsbD i = decide (i < 8) := by
    have : ∀ i, i < 64 → (255#64).getLsbD i = decide (i < 8) := by decide
    exact this i hi
  rw [BitVec.getLsbD_and, BitVec.getLsbD_and, e255]
  by_cases h8 : i < 8
  · rw [BitVec.getLsbD_sshiftRight, BitVec.getLsbD_ushiftRight, if_pos (by omega)]
    rw [decide_eq_false (by omega : ¬ 64 ≤ i)]; rfl
  · simp [h8]
theorem by_C (x : Int64) (k : Nat) (hk : k < 8) : ((((x.toUInt64 >>> ((nI 8 * nI k).toInt64.toUInt64 &&& Int64.toUInt64 63)).toInt64) &&& 255).toInt32) = nI (byN x k) := by
  rw [bs_u k hk]
  apply Int32.toBitVec_inj.1
  have e : (x.toUInt64 >>> UInt64.ofNat (8 * k)).toBitVec = x.toBitVec >>> (8 * k) := by
    rw [UInt64.toBitVec_shiftRight]
    have : ((UInt64.ofNat (8 * k)).toBitVec % 64).toNat = 8 * k := by
      have : ∀ k, k < 8 → ((UInt64.ofNat (8 * k)).toBitVec % 64).toNat = 8 * k := by decide
      exact this k hk
    rw [BitVec.ushiftRight_eq', this]
    rfl
  show ((x.toUInt64 >>> UInt64.ofNat (8 * k)).toBitVec &&& 255#64).signExtend 32 = _
  rw [e, bv_by _ k hk]
  rfl
theorem by_R (x : Int64) (k : Nat) (hk : k < 8) : ((x >>> ((nI 8 * nI k).toInt64 &&& 63)) &&& 255).toInt32 = nI (byN x k) := by
  rw [bs_i k hk]
  apply Int32.toBitVec_inj.1
  have e : (x >>> Int64.ofNat (8 * k)).toBitVec = x.toBitVec.sshiftRight (8 * k) := by
    rw [Int64.toBitVec_shiftRight]
    have : ((Int64.ofNat (8 * k)).toBitVec.smod 64).toNat = 8 * k := by
      have : ∀ k, k < 8 → ((Int64.ofNat (8 * k)).toBitVec.smod 64).toNat = 8 * k := by decide
      exact this k hk
    rw [BitVec.sshiftRight_eq', this]
  show ((x >>> Int64.ofNat (8 * k)).toBitVec &&& 255#64).signExtend 32 = _
  rw [e, bv_sby _ k hk, bv_by _ k hk]
  rfl
theorem byN_lt (x : Int64) (k : Nat) : byN x k < 256 := Nat.mod_lt _ (by decide)
theorem c_X8_type_36 {G : GG} {d : Nat} {Q : Option Value → PM → Prop} {x : Int64} (k : Nat) : ∀ {M : PM} {tl : Nat}, k ≤ 8 → tl + k ≤ 300 → M.1 25 2 = nI tl → (∀ f : Nat → Int32, (∀ i, i < tl → f i = M.1 32 i) → (∀ j, j < k → f (tl + j) = nI (byN x (k - 1 - j))) → Q (some (.int (nI (tl + k)))) (wI (sA M 32 f) 25 2 (nI (tl + k)))) → PX G (d + 1) m_X8_type Q 36 [some (.ref 0), some (.long x), none, none, some (.int (nI k - nI 1))] [] M := by
  induction k with
  | zero =>
    intro M tl _ ht h2 hQ
    apply g_X8_type_36
    have hq := hQ (M.1 32) (fun _ _ => rfl) (fun j hj => absurd hj (by omega))
    rw [sA_self, Nat.add_zero, ← h2, wI_self] at hq
    exact b1 (by decide) hq
  | succ k ih =>
    intro M tl hk ht h2 hQ
    apply g_X8_type_36
    rw [nsub (by omega), Nat.add_sub_cancel]
    simp (disch := omega) only [nle, nlt, neq, nz, nzl, nzg, nzp, nzn, nneg, nneg9, nI_add, ncl, vin, br_T, br_F, br_p, br_n, true_and, and_true, Nat.zero_add, rdA, rdN]
    refine PC.of ok_X6_append (Nat.le_of_ble_eq_true rfl) (g_X6_append_0 ?_)
    simp (disch := omega) only [nle, nlt, neq, nz, nzl, nzg, nzp, nzn, nneg, nneg9, nI_add, ncl, vin, br_T, br_F, br_p, br_n, true_and, and_true, Nat.zero_add, rdA, rdN, h2]
    rw [by_C x k (by omega)]
    simp only [gN]
    have e1 : nI k + -1 = nI k - nI 1 := by rw [Int32.sub_eq_add_neg]; rfl
    rw [e1]
    refine ih (tl := tl + 1) (by omega) (by omega) (by simp (disch := omega) only [wI_sA, rdA, rdN, rdL, upd_e, upd_n]) (fun f h3 h4 => ?_)
    have hq := hQ f (fun i hi => by rw [h3 i (by omega)]; simp (disch := omega) only [wI_sA, rdA, rdN, rdL, upd_e, upd_n]) (fun j hj => by
      by_cases e : j = 0
      · subst e
        rw [Nat.add_zero, h3 tl (by omega)]
        simp (disch := omega) only [wI_sA, rdA, rdN, rdL, upd_e, upd_n]
        rfl
      · obtain ⟨j, rfl⟩ : ∃ i, j = i + 1 := ⟨j - 1, by omega⟩
        have := h4 j (by omega)
        rw [show tl + (j + 1) = tl + 1 + j by omega, this]
        congr 2; omega)
    have em : wI (sA (wI (wI M 32 tl (nI (byN x k))) 25 2 (nI (tl + 1))) 32 f) 25 2 (nI (tl + 1 + k)) = wI (sA M 32 f) 25 2 (nI (tl + (k + 1))) := by
      rw [show tl + 1 + k = tl + (k + 1) by omega]
      unfold wI sA
      congr 1
      funext a
      by_cases h1 : a = 25
      · subst h1; simp [va_up, upd_upd]
      · by_cases h2 : a = 32
        · subst h2; simp [va_up]
        · simp [va_up, h1, h2]
    rw [em, show tl + 1 + k = tl + (k + 1) by omega]
    exact hq
theorem c_X9_type_37 {G : GG} {d : Nat} {Q : Option Value → PM → Prop} {x : Int64} (k : Nat) : ∀ {M : PM} {tl : Nat}, k ≤ 8 → tl + k ≤ 300 → M.1 56 3 = nI tl → (∀ f : Nat → Int32, (∀ i, i < tl → f i = M.1 57 i) → (∀ j, j < k → f (tl + j) = nI (byN x (k - 1 - j))) → Q (some (.int (nI (tl + k)))) (wI (sA M 57 f) 56 3 (nI (tl + k)))) → PX G d m_X9_type Q 37 [some (.ref 56), some (.long x), none, none, some (.int (nI k - nI 1))] [] M := by
  induction k with
  | zero =>
    intro M tl _ ht h2 hQ
    apply g_X9_type_37
    have hq := hQ (M.1 57) (fun _ _ => rfl) (fun j hj => absurd hj (by omega))
    rw [sA_self, Nat.add_zero, ← h2, wI_self] at hq
    exact b1 (by decide) hq
  | succ k ih =>
    intro M tl hk ht h2 hQ
    apply g_X9_type_37
    rw [nsub (by omega), Nat.add_sub_cancel]
    simp (disch := omega) only [nle, nlt, neq, nz, nzl, nzg, nzp, nzn, nneg, nneg9, nI_add, ncl, vin, br_T, br_F, br_p, br_n, true_and, and_true, Nat.zero_add, rdA, rdN, h2]
    rw [by_R x k (by omega)]
    have e1 : nI k + -1 = nI k - nI 1 := by rw [Int32.sub_eq_add_neg]; rfl
    rw [e1]
    refine ih (tl := tl + 1) (by omega) (by omega) (by simp (disch := omega) only [wI_sA, rdA, rdN, rdL, upd_e, upd_n]) (fun f h3 h4 => ?_)
    have hq := hQ f (fun i hi => by rw [h3 i (by omega)]; simp (disch := omega) only [wI_sA, rdA, rdN, rdL, upd_e, upd_n]) (fun j hj => by
      by_cases e : j = 0
      · subst e
        rw [Nat.add_zero, h3 tl (by omega)]
        simp (disch := omega) only [wI_sA, rdA, rdN, rdL, upd_e, upd_n]
        rfl
      · obtain ⟨j, rfl⟩ : ∃ i, j = i + 1 := ⟨j - 1, by omega⟩
        have := h4 j (by omega)
        rw [show tl + (j + 1) = tl + 1 + j by omega, this]
        congr 2; omega)
    have em : wI (sA (wI (wI M 57 tl (nI (byN x k))) 56 3 (nI (tl + 1))) 57 f) 56 3 (nI (tl + 1 + k)) = wI (sA M 57 f) 56 3 (nI (tl + (k + 1))) := by
      rw [show tl + 1 + k = tl + (k + 1) by omega]
      unfold wI sA
      congr 1
      funext a
      by_cases h1 : a = 56
      · subst h1; simp [va_up, upd_upd]
      · by_cases h2 : a = 57
        · subst h2; simp [va_up]
        · simp [va_up, h1, h2]
    rw [em, show tl + 1 + k = tl + (k + 1) by omega]
    exact hq
theorem pair_type {G : GG} {M : PM} {x : Int64} {n : Int32} (h : Rel M) : Pair G m_X8_type m_X9_type [.long x, .int n] M := by
  have hr := h.eqv (Eqv.t0 M (nI 0))
  obtain ⟨nP, nC, nS, tl, sn, tn, h1, h2, h3, ⟨t1, t2, t3, t4⟩, h5, h6, h7, h8, h9⟩ := h
  have bad : (¬ (nI 1 ≤ n ∧ n ≤ nI 8)) → PC G 900 m_X9_type [.ref 56, .long x, .int n] M (fun w N2 => w = some (.int (-1)) ∧ Rel N2) := fun hn => by
    refine PC.of (d := 899) ok_X9_type (Nat.le_of_ble_eq_true rfl) (g_X9_type_0 (c_X9_in ?_))
    simp only [gI, bI_z]
    exact b1 hn ⟨by trivial, hr⟩
  refine PC.of (d := 899) ok_X8_type (Nat.le_of_ble_eq_true rfl) (g_X8_type_0 ?_)
  refine b2 (fun q => ⟨_, rfl, bad (fun z => absurd z.1 (Int32.not_le.mpr q))⟩) (fun q => b2 (fun q2 => ?_) (fun q2 => ⟨_, rfl, bad (fun z => q2 z.2)⟩))
  have q : nI 1 ≤ n := Int32.not_lt.mp q
  have hin : nI 1 ≤ n ∧ n ≤ nI 8 := ⟨q, q2⟩
  obtain ⟨k, hk1, hk8, rfl⟩ : ∃ k : Nat, 1 ≤ k ∧ k ≤ 8 ∧ n = nI k := by
    rcases ix3 n (n := 9) (by omega) with z | z | ⟨j, hj, e⟩
    · exact absurd q (Int32.not_le.mpr (Int32.lt_trans z (by decide)))
    · exact absurd (Int32.le_trans z q2) (by decide)
    · subst e
      rw [nle (by omega) (by omega)] at q
      exact ⟨j, q, by omega, rfl⟩
  simp (disch := omega) only [nle, nlt, neq, nz, nzl, nzg, nzp, nzn, nneg, nneg9, nI_add, ncl, vin, br_T, br_F, br_p, br_n, true_and, and_true, Nat.zero_add, rdA, rdN, t1]
  refine b2 (fun hf => ?_) (fun hf => ⟨_, rfl, ?_⟩)
  · refine c_X8_type_36 (d := 898) k hk8 hf t1 (fun f f1 f2 => ⟨_, rfl, ?_⟩)
    refine PC.of (d := 899) ok_X9_type (Nat.le_of_ble_eq_true rfl) (g_X9_type_0 (c_X9_in ?_))
    simp only [gI, bI_z]
    refine b0 (fun z => z hin) ?_
    have e3 : (wI (wI (sA M 32 f) 25 2 (nI (tl + k))) 56 0 (nI 0)).1 56 3 = nI tl := by simp (disch := omega) only [wI_sA, rdA, rdN, rdL, upd_e, upd_n]; exact t2
    simp (disch := omega) only [nle, nlt, neq, nz, nzl, nzg, nzp, nzn, nneg, nneg9, nI_add, ncl, vin, br_T, br_F, br_p, br_n, true_and, and_true, Nat.zero_add, rdA, rdN, e3]
    refine c_X9_type_37 k hk8 hf e3 (fun g g1 g2 => ⟨rfl, nP, nC, nS, tl + k, sn, tn, h1.cg ?_ ?_, h2.cg ?_, h3.cg ?_, ⟨?_, ?_, by omega, fun i hi => ?_⟩, h5.cg ?_ ?_, h6.cg ?_ ?_, h7.cg ?_ ?_ ?_ ?_ ?_, h8.cg ?_ ?_ ?_, h9⟩)
    all_goals first | (intros; simp (disch := omega) only [wI_sA, rdA, rdN, rdL, upd_e, upd_n]; done) | skip
    · by_cases e : i < tl
      · obtain ⟨b, b1', b2', b3'⟩ := t4 i e
        refine ⟨b, b1', ?_, ?_⟩
        · simp (disch := omega) only [wI_sA, rdA, rdN, rdL, upd_e, upd_n]; rw [f1 i e]; exact b2'
        · simp (disch := omega) only [wI_sA, rdA, rdN, rdL, upd_e, upd_n]; rw [g1 i e]; simp (disch := omega) only [wI_sA, rdA, rdN, rdL, upd_e, upd_n]; exact b3'
      · obtain ⟨j, rfl⟩ : ∃ j, i = tl + j := ⟨i - tl, by omega⟩
        refine ⟨byN x (k - 1 - j), byN_lt _ _, ?_, ?_⟩
        · simp (disch := omega) only [wI_sA, rdA, rdN, rdL, upd_e, upd_n]; exact f2 j (by omega)
        · simp (disch := omega) only [wI_sA, rdA, rdN, rdL, upd_e, upd_n]; exact g2 j (by omega)
  · refine PC.of (d := 899) ok_X9_type (Nat.le_of_ble_eq_true rfl) (g_X9_type_0 (c_X9_in ?_))
    simp only [gI, bI_z]
    refine b0 (fun z => z hin) ?_
    have e3 : (wI M 56 0 (nI 0)).1 56 3 = nI tl := by simp (disch := omega) only [wI_sA, rdA, rdN, rdL, upd_e, upd_n]; exact t2
    simp (disch := omega) only [nle, nlt, neq, nz, nzl, nzg, nzp, nzn, nneg, nneg9, nI_add, ncl, vin, br_T, br_F, br_p, br_n, true_and, and_true, Nat.zero_add, rdA, rdN, e3]
    exact hr
