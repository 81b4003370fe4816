/-! pairs of answers: the first ones -/
def Pair (G : GG) (f g : Mth) (as : List Value) (M : PM) : Prop := PC G 900 f (.ref 0 :: as) M (fun v N => ∃ r : Int32, v = some (.int r) ∧ PC G 900 g (.ref 56 :: as) N (fun w N2 => w = some (.int r) ∧ Rel N2))
theorem Pair.mk {G : GG} {f g : Mth} {as : List Value} {M : PM} {P : Int32 → PM → Prop} (h : PC G 900 f (.ref 0 :: as) M (fun v N => ∃ r, v = some (.int r) ∧ P r N)) (h2 : ∀ r N, P r N → PC G 900 g (.ref 56 :: as) N (fun w N2 => w = some (.int r) ∧ Rel N2)) : Pair G f g as M :=
  h.mono (fun v N ⟨r, e, hp⟩ => ⟨r, e, h2 r N hp⟩)
theorem in04 {x : Int32} (k : Nat) (hk : k < 100) : (nI 0 ≤ x ∧ x ≤ nI k) ↔ ∃ j : Nat, j ≤ k ∧ x = nI j := by
  constructor
  · rintro ⟨h1, h2⟩
    rw [nI_0] at h1
    rcases ix3 x (n := k + 1) (by omega) with h | h | ⟨j, hj, e⟩
    · exact absurd h1 (Int32.not_le.mpr h)
    · exfalso
      have h3 : nI (k + 1) ≤ nI k := Int32.le_trans h h2
      rw [nle (by omega) (by omega)] at h3
      omega
    · exact ⟨j, by omega, e⟩
  · rintro ⟨j, hj, rfl⟩
    exact ⟨by rw [nle (by omega) (by omega)]; omega, by rw [nle (by omega) (by omega)]; omega⟩
theorem toInt_nI {n : Nat} (h : n < 2147483648) : (nI n).toInt = n := nI_toInt (by omega)
/-- a choice by number, outside of it -/
theorem sw_out {x : Int32} {k : Nat} (hk : k < 100) (h : ¬ ∃ j : Nat, j ≤ k ∧ x = nI j) : x.toInt < 0 ∨ (k : Int) < x.toInt := by
  rcases ix3 x (n := k + 1) (by omega) with h1 | h1 | ⟨j, hj, e⟩
  · left; have := Int32.lt_iff_toInt_lt.mp h1; simpa using this
  · right; have := Int32.le_iff_toInt_le.mp h1; rw [toInt_nI (by omega)] at this; omega
  · exact absurd ⟨j, by omega, e⟩ h
theorem pair_trace {G : GG} {M : PM} (h : Rel M) : PC G 900 m_X8_trace [.ref 0] M (fun v N => ∃ r : Int64, v = some (.long r) ∧ PC G 900 m_X9_trace [.ref 56] N (fun w N2 => w = some (.long r) ∧ Rel N2)) := by
  refine PC.of (d := 899) ok_X8_trace (Nat.le_of_ble_eq_true rfl) (g_X8_trace_0 ?_)
  refine ⟨_, rfl, PC.of (d := 899) ok_X9_trace (Nat.le_of_ble_eq_true rfl) (g_X9_trace_0 ?_)⟩
  have e := Eqv.t0 M (nI 0)
  obtain ⟨a, b, c, d, e1, f, h1⟩ := h
  refine ⟨?_, ⟨a, b, c, d, e1, f, h1.eqv e⟩⟩
  rw [h1.2.2.2.2.2.2.2.2]
theorem pair_clear {G : GG} {M : PM} (h : Rel M) : Pair G m_X8_clear m_X9_clear [] M := by
  obtain ⟨nP, nC, nS, tl, sn, tn, h1, h2, h3, ⟨t1, t2, t3, t4⟩, h5, h6, h7, h8, h9⟩ := h
  refine PC.of (d := 899) ok_X8_clear (Nat.le_of_ble_eq_true rfl) (g_X8_clear_0 ?_)
  refine ⟨_, rfl, PC.of (d := 899) ok_X9_clear (Nat.le_of_ble_eq_true rfl) (g_X9_clear_0 ?_)⟩
  refine ⟨?_, nP, nC, nS, 0, sn, tn, h1.cg ?_ ?_, h2.cg ?_, h3.cg ?_, ⟨?_, ?_, by omega, fun i hi => absurd hi (by omega)⟩, h5.cg ?_ ?_, h6.cg ?_ ?_, h7.cg ?_ ?_ ?_ ?_ ?_, h8.cg ?_ ?_ ?_, h9⟩
  · simp (disch := omega) only [wI_sA, rdA, rdN, rdL, upd_e, upd_n, t1, t2]
  all_goals (intros; try simp (disch := omega) only [wI_sA, rdA, rdN, rdL, upd_e, upd_n])
/-- the reference's plank, child, stone, count -/
noncomputable def plR (M : PM) (nC nS j : Nat) : Nat → Int32
  | 0 => M.1 58 j
  | 1 => M.1 59 j
  | 2 => moR M nC nS (nI j)
  | 3 => tlt (M.1 59 j) (moR M nC nS (nI j))
  | _ => sumA (nI 0) (siRf M (nI j)) nC
theorem no_in {x : Int32} {k : Nat} (hk : k < 100) (h : ¬ ∃ j : Nat, j ≤ k ∧ x = nI j) : ¬ (nI 0 ≤ x ∧ x ≤ nI k) := fun z => h ((in04 k hk).mp z)
theorem yes_in {i k : Nat} (hk : k < 100) (h : i ≤ k) : nI 0 ≤ nI i ∧ nI i ≤ nI k := (in04 k hk).mpr ⟨i, h, rfl⟩
theorem c_X9_plank_no {G : GG} {d : Nat} {M : PM} {Q : Option Value → PM → Prop} {nP : Nat} {x y : Int32} (hn : nP ≤ 3) (hM : M.1 56 14 = nI nP) (hno : ¬ inR x nP ∨ ¬ ∃ i : Nat, i ≤ 4 ∧ y = nI i) (hQ : Q (some (.int (-1000000))) (wI M 56 0 (nI 0))) : PC G (d + 4) m_X9_plank [.ref 56, .int x, .int y] M Q := by
  refine PC.of ok_X9_plank (Nat.le_of_ble_eq_true rfl) (g_X9_plank_0 (c_X9_isPlank (n := nP) (by simp (disch := omega) only [wI_sA, rdA, rdN, rdL, upd_e, upd_n]; exact hM) hn ?_))
  simp only [gI, bI_z]
  refine b2 (fun h => hQ) (fun h => ?_)
  refine c_X9_in ?_
  simp only [gI, bI_z]
  rcases hno with h1 | h1
  · exact absurd h1 h
  · exact b1 (no_in (by omega) h1) hQ
theorem c_X9_plank_yes {G : GG} {d : Nat} {M : PM} {Q : Option Value → PM → Prop} {nP nC nS j : Nat} (hn : nP ≤ 3) (hC : nC ≤ 8) (hS : nS ≤ 5) (hM : M.1 56 14 = nI nP) (hM1 : M.1 56 15 = nI nC) (hM2 : M.1 56 16 = nI nS) (hj : j < nP) {i : Nat} (hi : i ≤ 4) (hQ : Q (some (.int (plR (wI M 56 0 (nI 0)) nC nS j i))) (wI M 56 0 (nI 0))) : PC G (d + 4) m_X9_plank [.ref 56, .int (nI j), .int (nI i)] M Q := by
  refine PC.of ok_X9_plank (Nat.le_of_ble_eq_true rfl) (g_X9_plank_0 (c_X9_isPlank (n := nP) (by simp (disch := omega) only [wI_sA, rdA, rdN, rdL, upd_e, upd_n]; exact hM) hn ?_))
  simp only [gI, bI_z]
  refine b0 (fun z => z (inR_y hj (by omega))) (c_X9_in ?_)
  simp only [gI, bI_z]
  refine b0 (fun z => z (yes_in (by omega) hi)) ?_
  have h5 : (wI M 56 0 (nI 0)).1 56 15 = nI nC := by simp (disch := omega) only [wI_sA, rdA, rdN, rdL, upd_e, upd_n]; exact hM1
  have h6 : (wI M 56 0 (nI 0)).1 56 16 = nI nS := by simp (disch := omega) only [wI_sA, rdA, rdN, rdL, upd_e, upd_n]; exact hM2
  have hj3 : j < 3 := by omega
  match i, hi, hQ with
  | 0, _, hQ => exact b1 rfl ⟨by rw [vin (by omega) (by omega)]; trivial, by rw [ncl (by omega)]; exact hQ⟩
  | 1, _, hQ => exact b0 (by decide) (b1 rfl ⟨by rw [vin (by omega) (by omega)]; trivial, by rw [ncl (by omega)]; exact hQ⟩)
  | 2, _, hQ => exact b0 (by decide) (b0 (by decide) (b1 rfl (c_X9_momentOf hC hS h5 h6 hQ)))
  | 3, _, hQ => exact b0 (by decide) (b0 (by decide) (b0 (by decide) (b1 rfl (c_X9_tiltOf hC hS h5 h6 hj3 hQ))))
  | 4, _, hQ => exact b0 (by decide) (b0 (by decide) (b0 (by decide) (b0 (by decide) (c_X9_sittingOn hC h5 hQ))))
  | n + 5, h, _ => exact absurd h (by omega)
theorem si_eq {M : PM} {nP nC nS : Nat} (hz : RSz M nP nC nS) (hs : SR M nP nC nS 7 63 0) {p : Nat} (hp : p < nP) : sumA (nI 0) (siRf M (nI p)) nC = nI (cB (onC M (nI p)) nC) := by
  refine sumA_cB (fun k hk => ?_)
  have hp3 := hz.2.2.1
  have h1 := hs.2.1 k hk
  simp only [Nat.zero_add] at h1
  have h1 : SP (M.1 2) nP (M.1 8 k) (M.1 9 k) (M.1 63 k) (M.1 63 (8 + k)) := h1
  unfold siRf onC
  rcases h1 with ⟨z1, z2, z3⟩ | ⟨z1, z2, z3, -⟩
  · rw [z2, if_neg (m9n (a := p) (by omega)), z1]; simp
  · rw [z1]
    by_cases h : M.1 8 k = nI p <;> simp [h, z3]
theorem t0_mo {M : PM} {nC nS : Nat} {p : Int32} {v : Int32} : moR (wI M 56 0 v) nC nS p = moR M nC nS p := by
  unfold moR moRf stR stRf
  simp (disch := omega) only [wI_sA, rdA, rdN, rdL, upd_e, upd_n]
theorem pair_plank {G : GG} {M : PM} {x y : Int32} (h : Rel M) : Pair G m_X8_plank m_X9_plank [.int x, .int y] M := by
  have hr := h.eqv (Eqv.t0 M (nI 0))
  obtain ⟨nP, nC, nS, tl, sn, tn, h1, h2, h3, hrest⟩ := h
  obtain ⟨a1, a2, a3, a4, a5, a6, a7, a8, a9⟩ := id h1
  refine PC.of (d := 899) ok_X8_plank (Nat.le_of_ble_eq_true rfl) (g_X8_plank_0 (c_X3_hasPlank a1 ?_))
  simp only [gI, bI_z]
  rcases inR_dec (x := x) (n := nP) (by omega) with ⟨j, hj, rfl⟩ | hno
  · refine b0 (fun z => z (inR_y hj (by omega))) ?_
    have hj3 : j < 3 := by omega
    obtain ⟨hf, -, -, e1, e2⟩ := h2.1 j hj
    obtain ⟨sl, -, e3, e4⟩ := h2.2.1 j hj
    have em := mo_eq h1 h2 h3 hj
    have mk : ∀ (i : Nat), i ≤ 4 → ∀ r : Int32, r = plR (wI M 56 0 (nI 0)) nC nS j i → PC G 900 m_X9_plank [.ref 56, .int (nI j), .int (nI i)] M (fun w N2 => w = some (.int r) ∧ Rel N2) := fun i hi r e => c_X9_plank_yes a3 a6 a9 a2 a5 a8 hj hi ⟨by rw [e], hr⟩
    refine ⟨fun e => ?_, fun e => ?_, fun e => ?_, fun e => ?_, fun e => ?_, fun e => ?_⟩
    · subst e
      refine ⟨by rw [vin (by omega) (by omega)]; trivial, _, rfl, mk 0 (by omega) _ ?_⟩
      rw [ncl (by omega)]; show _ = (wI M 56 0 (nI 0)).1 58 j; simp (disch := omega) only [wI_sA, rdA, rdN, rdL, upd_e, upd_n, e1, e2]
    · subst e
      refine ⟨by rw [vin (by omega) (by omega)]; trivial, _, rfl, mk 1 (by omega) _ ?_⟩
      rw [ncl (by omega)]; show _ = (wI M 56 0 (nI 0)).1 59 j; simp (disch := omega) only [wI_sA, rdA, rdN, rdL, upd_e, upd_n, e3, e4]
    · subst e
      refine c_X4_moment a6 a9 a4 a7 ⟨_, rfl, mk 2 (by omega) _ ?_⟩
      show _ = moR (wI M 56 0 (nI 0)) nC nS (nI j)
      rw [t0_mo, em]
    · subst e
      refine c_X4_tilt a6 a9 a4 a7 hj3 ⟨_, rfl, mk 3 (by omega) _ ?_⟩
      show _ = tlt ((wI M 56 0 (nI 0)).1 59 j) (moR (wI M 56 0 (nI 0)) nC nS (nI j))
      rw [t0_mo, em, e3]; simp (disch := omega) only [wI_sA, rdA, rdN, rdL, upd_e, upd_n, e4]
    · subst e
      refine c_X4_childrenOn a6 a4 ?_
      have q1 := mkN_lt (onC M (nI j)) nC
      have q2 : (2 : Nat) ^ nC ≤ 2 ^ 8 := Nat.pow_le_pow_right (by decide) a6
      refine c_bitCount (by omega) ⟨_, rfl, mk 4 (by omega) _ ?_⟩
      show _ = sumA (nI 0) (siRf (wI M 56 0 (nI 0)) (nI j)) nC
      have e5 : siRf (wI M 56 0 (nI 0)) (nI j) = siRf M (nI j) := by unfold siRf; simp (disch := omega) only [wI_sA, rdA, rdN, rdL, upd_e, upd_n]
      rw [e5, si_eq h1 h3 hj, popc_mk _ _ a6]
    · refine ⟨_, rfl, c_X9_plank_no a3 a2 (Or.inr ?_) ⟨rfl, hr⟩⟩
      rintro ⟨i, hi, rfl⟩
      rw [toInt_nI (by omega)] at e
      omega
  · exact b1 hno ⟨_, rfl, c_X9_plank_no a3 a2 (Or.inl hno) ⟨rfl, hr⟩⟩
