theorem SP.rd {hf : Nat → Int32} {nP : Nat} {cp cs rp rs : Int32} (h : SP hf nP cp cs rp rs) : rs = cs ∧ rp = (if cs = 0 then -9 else cp) := by
  rcases h with ⟨h1, h2, h3⟩ | ⟨h1, h2, h3, -⟩
  · exact ⟨by rw [h1, h3], by rw [if_pos h1, h2]⟩
  · exact ⟨h2, by rw [if_neg h3, h1]⟩
theorem SR.c {M : PM} {nP nC nS : Nat} (h : SR M nP nC nS 7 63 0) {c : Nat} (hc : c < nC) : SP (M.1 2) nP (M.1 8 c) (M.1 9 c) (M.1 63 c) (M.1 63 (8 + c)) := by
  have := h.2.1 c hc
  simp only [Nat.zero_add] at this
  exact this
theorem SR.s {M : PM} {nP nC nS : Nat} (h : SR M nP nC nS 7 63 0) {s : Nat} (hs : s < nS) : SP (M.1 2) nP (M.1 11 s) (M.1 12 s) (M.1 63 (24 + s)) (M.1 63 (29 + s)) := by
  have := h.2.2 s hs
  simp only [Nat.zero_add] at this
  exact this
theorem SR.b {M : PM} {nP nC nS : Nat} (h : SR M nP nC nS 7 63 0) {c : Nat} (hc : c < nC) : M.1 10 c = M.1 63 (16 + c) := by
  have := h.1 c hc
  simp only [Nat.zero_add] at this
  exact this
def chR (M : PM) (j : Nat) : Nat → Int32
  | 0 => M.1 60 j
  | 1 => M.1 61 j
  | 2 => M.1 63 j
  | 3 => M.1 63 (8 + j)
  | _ => M.1 63 (16 + j)
theorem c_X9_child_no {G : GG} {d : Nat} {M : PM} {Q : Option Value → PM → Prop} {n : Nat} {x y : Int32} (hn : n ≤ 8) (hM : M.1 56 15 = nI n) (hno : ¬ inR x n ∨ ¬ ∃ i : Nat, i ≤ 4 ∧ y = nI i) (hQ : Q (some (.int (-1000000))) (wI M 56 0 (nI 0))) : PC G (d + 4) m_X9_child [.ref 56, .int x, .int y] M Q := by
  refine PC.of ok_X9_child (Nat.le_of_ble_eq_true rfl) (g_X9_child_0 (c_X9_isChild (n := n) (by simp (disch := omega) only [wI_sA, rdA, rdN, rdL, upd_e, upd_n]; exact hM) hn ?_))
  simp only [gI, bI_z]
  refine b2 (fun h => hQ) (fun h => ?_)
  refine c_X9_in ?_
  simp only [gI, bI_z]
  rcases hno with h1 | h1
  · exact absurd h1 h
  · exact b1 (no_in (by omega) h1) hQ
theorem c_X9_child_yes {G : GG} {d : Nat} {M : PM} {Q : Option Value → PM → Prop} {n j : Nat} (hn : n ≤ 8) (hM : M.1 56 15 = nI n) (hj : j < n) {i : Nat} (hi : i ≤ 4) (hQ : Q (some (.int (chR M j i))) (wI M 56 0 (nI 0))) : PC G (d + 4) m_X9_child [.ref 56, .int (nI j), .int (nI i)] M Q := by
  refine PC.of ok_X9_child (Nat.le_of_ble_eq_true rfl) (g_X9_child_0 (c_X9_isChild (n := n) (by simp (disch := omega) only [wI_sA, rdA, rdN, rdL, upd_e, upd_n]; exact hM) hn ?_))
  simp only [gI, bI_z]
  refine b0 (fun z => z (inR_y hj (by omega))) (c_X9_in ?_)
  simp only [gI, bI_z]
  refine b0 (fun z => z (yes_in (by omega) hi)) ?_
  match i, hi, hQ with
  | 0, _, hQ => refine b1 rfl ?_; simp (disch := omega) only [nle, nlt, neq, nz, nzl, nzg, nzp, nzn, nneg, nneg9, nI_add, ncl, vin, br_T, br_F, br_p, br_n, true_and, and_true, Nat.zero_add, rdA, rdN]; exact hQ
  | 1, _, hQ => refine b0 (by decide) (b1 rfl ?_); simp (disch := omega) only [nle, nlt, neq, nz, nzl, nzg, nzp, nzn, nneg, nneg9, nI_add, ncl, vin, br_T, br_F, br_p, br_n, true_and, and_true, Nat.zero_add, rdA, rdN]; exact hQ
  | 2, _, hQ => refine b0 (by decide) (b0 (by decide) (b1 rfl ?_)); simp (disch := omega) only [nle, nlt, neq, nz, nzl, nzg, nzp, nzn, nneg, nneg9, nI_add, ncl, vin, br_T, br_F, br_p, br_n, true_and, and_true, Nat.zero_add, rdA, rdN]; exact hQ
  | 3, _, hQ => refine b0 (by decide) (b0 (by decide) (b0 (by decide) (b1 rfl ?_))); simp (disch := omega) only [nle, nlt, neq, nz, nzl, nzg, nzp, nzn, nneg, nneg9, nI_add, ncl, vin, br_T, br_F, br_p, br_n, true_and, and_true, Nat.zero_add, rdA, rdN]; exact hQ
  | 4, _, hQ => refine b0 (by decide) (b0 (by decide) (b0 (by decide) (b0 (by decide) ?_))); simp (disch := omega) only [nle, nlt, neq, nz, nzl, nzg, nzp, nzn, nneg, nneg9, nI_add, ncl, vin, br_T, br_F, br_p, br_n, true_and, and_true, Nat.zero_add, rdA, rdN]; exact hQ
  | n + 5, h, _ => exact absurd h (by omega)
theorem pair_child {G : GG} {M : PM} {x y : Int32} (h : Rel M) : Pair G m_X8_child m_X9_child [.int x, .int y] M := by
  have hr := h.eqv (Eqv.t0 M (nI 0))
  obtain ⟨nP, nC, nS, tl, sn, tn, h1, h2, h3, hrest⟩ := h
  obtain ⟨a1, a2, a3, a4, a5, a6, a7, a8, a9⟩ := id h1
  refine PC.of (d := 899) ok_X8_child (Nat.le_of_ble_eq_true rfl) (g_X8_child_0 (c_X3_hasChild a4 ?_))
  simp only [gI, bI_z]
  rcases inR_dec (x := x) (n := nC) (by omega) with ⟨j, hj, rfl⟩ | hno
  · refine b0 (fun z => z (inR_y hj (by omega))) ?_
    obtain ⟨w, -, -, e1, e2⟩ := h2.2.2.1 j hj
    obtain ⟨ws, -, -, e3, e4⟩ := h2.2.2.2.1 j hj
    have hsp := (h3.c hj).rd
    have hb := h3.b hj
    have mk : ∀ (i : Nat), i ≤ 4 → ∀ r : Int32, r = chR M j i → PC G 900 m_X9_child [.ref 56, .int (nI j), .int (nI i)] M (fun w N2 => w = some (.int r) ∧ Rel N2) := fun i hi r e => c_X9_child_yes a6 a5 hj hi ⟨by rw [e], hr⟩
    simp (disch := omega) only [nle, nlt, neq, nz, nzl, nzg, nzp, nzn, nneg, nneg9, nI_add, ncl, vin, br_T, br_F, br_p, br_n, true_and, and_true, Nat.zero_add, rdA, rdN]
    refine ⟨fun e => ?_, fun e => ?_, fun e => ?_, fun e => ?_, fun e => ?_, fun e => ?_⟩
    · subst e; exact ⟨_, rfl, mk 0 (by omega) _ (by rw [e1]; exact e2.symm)⟩
    · subst e; exact ⟨_, rfl, mk 1 (by omega) _ (by rw [e3]; exact e4.symm)⟩
    · subst e
      refine b2 (fun z => ⟨_, rfl, mk 2 (by omega) _ ?_⟩) (fun z => ⟨_, rfl, mk 2 (by omega) _ ?_⟩)
      · show _ = M.1 63 j; rw [hsp.2, if_pos z]
      · show _ = M.1 63 j; rw [hsp.2, if_neg z]
    · subst e; exact ⟨_, rfl, mk 3 (by omega) _ hsp.1.symm⟩
    · subst e; exact ⟨_, rfl, mk 4 (by omega) _ hb⟩
    · refine ⟨_, rfl, c_X9_child_no a6 a5 (Or.inr ?_) ⟨rfl, hr⟩⟩
      rintro ⟨i, hi, rfl⟩
      rw [toInt_nI (by omega)] at e
      omega
  · exact b1 hno ⟨_, rfl, c_X9_child_no a6 a5 (Or.inl hno) ⟨rfl, hr⟩⟩
def snR (M : PM) (j : Nat) : Nat → Int32
  | 0 => M.1 62 j
  | 1 => M.1 63 (24 + j)
  | _ => M.1 63 (29 + j)
theorem c_X9_stone_no {G : GG} {d : Nat} {M : PM} {Q : Option Value → PM → Prop} {n : Nat} {x y : Int32} (hn : n ≤ 5) (hM : M.1 56 16 = nI n) (hno : ¬ inR x n ∨ ¬ ∃ i : Nat, i ≤ 2 ∧ y = nI i) (hQ : Q (some (.int (-1000000))) (wI M 56 0 (nI 0))) : PC G (d + 4) m_X9_stone [.ref 56, .int x, .int y] M Q := by
  refine PC.of ok_X9_stone (Nat.le_of_ble_eq_true rfl) (g_X9_stone_0 (c_X9_isStone (n := n) (by simp (disch := omega) only [wI_sA, rdA, rdN, rdL, upd_e, upd_n]; exact hM) hn ?_))
  simp only [gI, bI_z]
  refine b2 (fun h => hQ) (fun h => ?_)
  refine c_X9_in ?_
  simp only [gI, bI_z]
  rcases hno with h1 | h1
  · exact absurd h1 h
  · exact b1 (no_in (by omega) h1) hQ
theorem c_X9_stone_yes {G : GG} {d : Nat} {M : PM} {Q : Option Value → PM → Prop} {n j : Nat} (hn : n ≤ 5) (hM : M.1 56 16 = nI n) (hj : j < n) {i : Nat} (hi : i ≤ 2) (hQ : Q (some (.int (snR M j i))) (wI M 56 0 (nI 0))) : PC G (d + 4) m_X9_stone [.ref 56, .int (nI j), .int (nI i)] M Q := by
  refine PC.of ok_X9_stone (Nat.le_of_ble_eq_true rfl) (g_X9_stone_0 (c_X9_isStone (n := n) (by simp (disch := omega) only [wI_sA, rdA, rdN, rdL, upd_e, upd_n]; exact hM) hn ?_))
  simp only [gI, bI_z]
  refine b0 (fun z => z (inR_y hj (by omega))) (c_X9_in ?_)
  simp only [gI, bI_z]
  refine b0 (fun z => z (yes_in (by omega) hi)) ?_
  match i, hi, hQ with
  | 0, _, hQ => refine b1 rfl ?_; simp (disch := omega) only [nle, nlt, neq, nz, nzl, nzg, nzp, nzn, nneg, nneg9, nI_add, ncl, vin, br_T, br_F, br_p, br_n, true_and, and_true, Nat.zero_add, rdA, rdN]; exact hQ
  | 1, _, hQ => refine b0 (by decide) (b1 rfl ?_); simp (disch := omega) only [nle, nlt, neq, nz, nzl, nzg, nzp, nzn, nneg, nneg9, nI_add, ncl, vin, br_T, br_F, br_p, br_n, true_and, and_true, Nat.zero_add, rdA, rdN]; exact hQ
  | 2, _, hQ => refine b0 (by decide) (b0 (by decide) ?_); simp (disch := omega) only [nle, nlt, neq, nz, nzl, nzg, nzp, nzn, nneg, nneg9, nI_add, ncl, vin, br_T, br_F, br_p, br_n, true_and, and_true, Nat.zero_add, rdA, rdN]; exact hQ
  | n + 3, h, _ => exact absurd h (by omega)
theorem pair_stone {G : GG} {M : PM} {x y : Int32} (h : Rel M) : Pair G m_X8_stone m_X9_stone [.int x, .int y] M := by
  have hr := h.eqv (Eqv.t0 M (nI 0))
  obtain ⟨nP, nC, nS, tl, sn, tn, h1, h2, h3, hrest⟩ := h
  obtain ⟨a1, a2, a3, a4, a5, a6, a7, a8, a9⟩ := id h1
  refine PC.of (d := 899) ok_X8_stone (Nat.le_of_ble_eq_true rfl) (g_X8_stone_0 (c_X3_hasStone a7 ?_))
  simp only [gI, bI_z]
  rcases inR_dec (x := x) (n := nS) (by omega) with ⟨j, hj, rfl⟩ | hno
  · refine b0 (fun z => z (inR_y hj (by omega))) ?_
    obtain ⟨w, -, -, e1, e2⟩ := h2.2.2.2.2 j hj
    have hsp := (h3.s hj).rd
    have mk : ∀ (i : Nat), i ≤ 2 → ∀ r : Int32, r = snR M j i → PC G 900 m_X9_stone [.ref 56, .int (nI j), .int (nI i)] M (fun w N2 => w = some (.int r) ∧ Rel N2) := fun i hi r e => c_X9_stone_yes a9 a8 hj hi ⟨by rw [e], hr⟩
    simp (disch := omega) only [nle, nlt, neq, nz, nzl, nzg, nzp, nzn, nneg, nneg9, nI_add, ncl, vin, br_T, br_F, br_p, br_n, true_and, and_true, Nat.zero_add, rdA, rdN]
    refine ⟨fun e => ?_, fun e => ?_, fun e => ?_, fun e => ?_⟩
    · subst e; exact ⟨_, rfl, mk 0 (by omega) _ (by rw [e1]; exact e2.symm)⟩
    · subst e
      refine b2 (fun z => ⟨_, rfl, mk 1 (by omega) _ ?_⟩) (fun z => ⟨_, rfl, mk 1 (by omega) _ ?_⟩)
      · show _ = M.1 63 (24 + j); rw [hsp.2, if_pos z]
      · show _ = M.1 63 (24 + j); rw [hsp.2, if_neg z]
    · subst e; exact ⟨_, rfl, mk 2 (by omega) _ hsp.1.symm⟩
    · refine ⟨_, rfl, c_X9_stone_no a9 a8 (Or.inr ?_) ⟨rfl, hr⟩⟩
      rintro ⟨i, hi, rfl⟩
      rw [toInt_nI (by omega)] at e
      omega
  · exact b1 hno ⟨_, rfl, c_X9_stone_no a9 a8 (Or.inl hno) ⟨rfl, hr⟩⟩
theorem cB_not (p : Nat → Bool) : ∀ n, cB (fun k => !p k) n = n - cB p n
  | 0 => rfl
  | n + 1 => by
    have h1 := cB_not p n
    have h2 := cB_le p n
    rw [cB, cB, h1]
    cases p n <;> simp <;> omega
theorem sit_eq {M : PM} {nP nC nS : Nat} (hs : SR M nP nC nS 7 63 0) (hP : nP ≤ 3) : sumA (nI 0) (sitRf M) nC = nI (nC - cB (idC M) nC) := by
  rw [← cB_not]
  refine sumA_cB (fun k hk => ?_)
  unfold sitRf idC
  rcases hs.c hk with ⟨z1, z2, z3⟩ | ⟨z1, z2, z3, p, hp, z4, -⟩
  · rw [z2, if_pos rfl, z1]; simp
  · rw [z1, z4, if_neg (fun q => m9n (a := p) (by omega) q.symm)]; simp [z3]
theorem pair_count {G : GG} {M : PM} {x : Int32} (h : Rel M) : Pair G m_X8_count m_X9_count [.int x] M := by
  have hr := h.eqv (Eqv.t0 M (nI 0))
  obtain ⟨nP, nC, nS, tl, sn, tn, h1, h2, h3, h4, h5, h6, h7, h8, h9⟩ := h
  obtain ⟨a1, a2, a3, a4, a5, a6, a7, a8, a9⟩ := id h1
  have R0 : ∀ {y : Int32} {Q : Option Value → PM → Prop}, _ → PC G 900 m_X9_count [.ref 56, .int y] M Q := fun h => PC.of (d := 899) ok_X9_count (Nat.le_of_ble_eq_true rfl) (g_X9_count_0 h)
  refine PC.of (d := 899) ok_X8_count (Nat.le_of_ble_eq_true rfl) (g_X8_count_0 ?_)
  refine ⟨fun e => ?_, fun e => ?_, fun e => ?_, fun e => ?_, fun e => ?_, fun e => ?_, fun e => ?_, fun e => ?_⟩
  · subst e; exact ⟨_, rfl, R0 (b1 rfl ⟨by rw [a1, a2], hr⟩)⟩
  · subst e; exact ⟨_, rfl, R0 (b0 (by decide) (b1 rfl ⟨by rw [a4, a5], hr⟩))⟩
  · subst e; exact ⟨_, rfl, R0 (b0 (by decide) (b0 (by decide) (b1 rfl ⟨by rw [a7, a8], hr⟩)))⟩
  · subst e; exact ⟨_, rfl, R0 (b0 (by decide) (b0 (by decide) (b0 (by decide) (b1 rfl ⟨by rw [h7.2.2.2.2.1, h7.2.2.2.2.2.1], hr⟩))))⟩
  · subst e; exact ⟨_, rfl, R0 (b0 (by decide) (b0 (by decide) (b0 (by decide) (b0 (by decide) (b1 rfl ⟨by rw [h7.1, h7.2.1], hr⟩)))))⟩
  · subst e; exact ⟨_, rfl, R0 (b0 (by decide) (b0 (by decide) (b0 (by decide) (b0 (by decide) (b0 (by decide) (b1 rfl ⟨by rw [h4.1, h4.2.1], hr⟩))))))⟩
  · subst e
    refine c_X4_seatedChildren a6 a4 ⟨_, rfl, R0 (b0 (by decide) (b0 (by decide) (b0 (by decide) (b0 (by decide) (b0 (by decide) (b0 (by decide) (b1 rfl (c_X9_sitting a6 (by simp (disch := omega) only [wI_sA, rdA, rdN, rdL, upd_e, upd_n]; exact a5) ⟨?_, hr⟩))))))))⟩
    have e5 : sitRf (wI M 56 0 (nI 0)) = sitRf M := by unfold sitRf; simp (disch := omega) only [wI_sA, rdA, rdN, rdL, upd_e, upd_n]
    rw [e5, sit_eq h3 a3]
  · have ne : ∀ k : Nat, k ≤ 6 → ¬ x = nI k := by
      rintro k hk rfl
      rw [toInt_nI (by omega)] at e
      omega
    exact ⟨_, rfl, R0 (b0 (ne 0 (by omega)) (b0 (ne 1 (by omega)) (b0 (ne 2 (by omega)) (b0 (ne 3 (by omega)) (b0 (ne 4 (by omega)) (b0 (ne 5 (by omega)) (b0 (ne 6 (by omega)) ⟨rfl, hr⟩)))))))⟩
