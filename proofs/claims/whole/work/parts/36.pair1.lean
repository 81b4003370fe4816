/-! pairs of answers: the first ones -/
def Pair (G : GG) (f g : Mth) (as : List Value) (M : PM) : Prop := PC G 900 f (.ref 0 :: as) M (fun v N => ∃ r : Int32, v = some (.int r) ∧ PC G 900 g (.ref 56 :: as) N (fun w N2 => w = some (.int r) ∧ Rel N2))
theorem Pair.mk {G : GG} {f g : Mth} {as : List Value} {M : PM} {P : Int32 → PM → Prop} (h : PC G 900 f (.ref 0 :: as) M (fun v N => ∃ r, v = some (.int r) ∧ P r N)) (h2 : ∀ r N, P r N → PC G 900 g (.ref 56 :: as) N (fun w N2 => w = some (.int r) ∧ Rel N2)) : Pair G f g as M :=
  h.mono (fun v N ⟨r, e, hp⟩ => ⟨r, e, h2 r N hp⟩)
theorem in04 {x : Int32} (k : Nat) (hk : k < 100) : (nI 0 ≤ x ∧ x ≤ nI k) ↔ ∃ j : Nat, j ≤ k ∧ x = nI j := by
  constructor
  · rintro ⟨h1, h2⟩
    rw [nI_0] at h1
    rcases ix3 x (n := k + 1) (by omega) with h | h | ⟨j, hj, e⟩
    · exact absurd h1 (Int32.not_le.mpr h)
    · exfalso
      have h3 : nI (k + 1) ≤ nI k := Int32.le_trans h h2
      rw [nle (by omega) (by omega)] at h3
      omega
    · exact ⟨j, by omega, e⟩
  · rintro ⟨j, hj, rfl⟩
    exact ⟨by rw [nle (by omega) (by omega)]; omega, by rw [nle (by omega) (by omega)]; omega⟩
theorem toInt_nI {n : Nat} (h : n < 2147483648) : (nI n).toInt = n := nI_toInt (by omega)
/-- a choice by number, outside of it -/
theorem sw_out {x : Int32} {k : Nat} (hk : k < 100) (h : ¬ ∃ j : Nat, j ≤ k ∧ x = nI j) : x.toInt < 0 ∨ (k : Int) < x.toInt := by
  rcases ix3 x (n := k + 1) (by omega) with h1 | h1 | ⟨j, hj, e⟩
  · left; have := Int32.lt_iff_toInt_lt.mp h1; simpa using this
  · right; have := Int32.le_iff_toInt_le.mp h1; rw [toInt_nI (by omega)] at this; omega
  · exact absurd ⟨j, by omega, e⟩ h
theorem pair_trace {G : GG} {M : PM} (h : Rel M) : PC G 900 m_X8_trace [.ref 0] M (fun v N => ∃ r : Int64, v = some (.long r) ∧ PC G 900 m_X9_trace [.ref 56] N (fun w N2 => w = some (.long r) ∧ Rel N2)) := by
  refine PC.of (d := 899) ok_X8_trace (Nat.le_of_ble_eq_true rfl) (g_X8_trace_0 ?_)
  refine ⟨_, rfl, PC.of (d := 899) ok_X9_trace (Nat.le_of_ble_eq_true rfl) (g_X9_trace_0 ?_)⟩
  have e := Eqv.t0 M (nI 0)
  obtain ⟨a, b, c, d, e1, f, h1⟩ := h
  refine ⟨?_, ⟨a, b, c, d, e1, f, h1.eqv e⟩⟩
  rw [h1.2.2.2.2.2.2.2.2]
theorem pair_clear {G : GG} {M : PM} (h : Rel M) : Pair G m_X8_clear m_X9_clear [] M := by
  obtain ⟨nP, nC, nS, tl, sn, tn, h1⟩ := h
  refine PC.of (d := 899) ok_X8_clear (Nat.le_of_ble_eq_true rfl) (g_X8_clear_0 ?_)
  refine ⟨_, rfl, PC.of (d := 899) ok_X9_clear (Nat.le_of_ble_eq_true rfl) (g_X9_clear_0 ?_)⟩
  obtain ⟨t1, t2, t3, t4⟩ := h1.2.2.2.1
  sorry
