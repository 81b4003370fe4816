/-! rate -/
def tr (M : PM) (v : Int64) : PM := wL M 0 10 (M.2 0 10 + v)
theorem wL_1 {M : PM} {q k : Nat} {v : Int64} : (wL M q k v).1 = M.1 := rfl
theorem wL_e {M : PM} {q k : Nat} {v : Int64} : (wL M q k v).2 q k = v := by simp [wL, va_up, vp_updL]
theorem wL_n {M : PM} {q k a b : Nat} {v : Int64} (h : ¬ a = q) : (wL M q k v).2 a b = M.2 a b := by simp [wL, va_up, h]
theorem wL_wL {M : PM} {q k : Nat} {v w : Int64} : wL (wL M q k v) q k w = wL M q k w := by
  unfold wL
  congr 1
  funext a
  by_cases h : a = q
  · subst h
    simp only [va_up, if_true]
    funext b
    by_cases h2 : b = k <;> simp [vp_updL, h2]
  · simp [va_up, h]
theorem tr_tr {M : PM} {v w : Int64} : tr (tr M v) w = tr M (v + w) := by
  unfold tr
  rw [wL_wL, wL_e, Int64.add_assoc]
theorem tr_1 {M : PM} {v : Int64} : (tr M v).1 = M.1 := rfl
def mkv : Nat → Int64
  | 0 => 1
  | 1 => 11
  | 2 => 101
  | 3 => 1011
  | 4 => 10101
  | _ => 100001
def rtC (M : PM) (c : Nat) : Nat → Int32
  | 0 => M.1 4 c
  | 1 => M.1 4 c + M.1 10 c
  | 2 => M.1 4 c - M.1 9 c
  | 3 => nI 2 * (M.1 4 c + M.1 10 c)
  | 4 => M.1 4 c - M.1 9 c + M.1 5 c
  | _ => M.1 4 c - nI c
theorem mk0 : (ctM.getD 0 0).toInt64 = 1 := by decide
theorem mk1 : (ctM.getD 1 0).toInt64 = 10 := by decide
theorem mk2 : (ctM.getD 2 0).toInt64 = 100 := by decide
theorem mk3 : (ctM.getD 3 0).toInt64 = 1000 := by decide
theorem mk4 : (ctM.getD 4 0).toInt64 = 10000 := by decide
theorem mk5 : (ctM.getD 5 0).toInt64 = 100000 := by decide
theorem ab1 : ctA.getD 1 0 = nI 0 := by decide
theorem ab2 : ctA.getD 2 0 = nI 0 := by decide
theorem ab3 : ctA.getD 3 0 = nI 1 := by decide
theorem ab4 : ctA.getD 4 0 = nI 2 := by decide
theorem ab5 : ctA.getD 5 0 = nI 0 := by decide
theorem c_ra0 {G : GG} {d : Nat} {M : PM} {Q : Option Value → PM → Prop} {c k : Nat} (hc : c < 8) (hk : k ≤ 2) (hQ : Q (some (.int (rtC M c 0))) (tr M (mkv 0))) : PC G (d + 1) m_X8_rateAs [.ref 0, .int (nI 0), .int (nI c), .int (nI k)] M Q := by
  refine PC.of ok_X8_rateAs (Nat.le_of_ble_eq_true rfl) (g_X8_rateAs_0 ?_)
  simp (disch := omega) only [nle, nlt, neq, nz, nzl, nzg, nzp, nzn, nneg, nneg9, nI_add, ncl, vin, br_T, br_F, br_p, br_n, true_and, and_true, Nat.zero_add, rdA, rdN, mk0]
  exact hQ
theorem c_ra1 {G : GG} {d : Nat} {M : PM} {Q : Option Value → PM → Prop} {c k : Nat} (hc : c < 8) (hk : k ≤ 1) (hQ : Q (some (.int (rtC M c 1))) (tr M (mkv 1))) : PC G (d + 2) m_X8_rateAs [.ref 0, .int (nI 1), .int (nI c), .int (nI k)] M Q := by
  refine PC.of ok_X8_rateAs (Nat.le_of_ble_eq_true rfl) (g_X8_rateAs_0 ?_)
  simp (disch := omega) only [nle, nlt, neq, nz, nzl, nzg, nzp, nzn, nneg, nneg9, nI_add, ncl, vin, br_T, br_F, br_p, br_n, true_and, and_true, Nat.zero_add, rdA, rdN, mk1, ab1]
  refine c_ra0 hc (by omega) ?_
  simp only [gI]
  have e : tr (wL M 0 10 (M.2 0 10 + 10)) (mkv 0) = tr M (mkv 1) := tr_tr (v := 10) (w := 1)
  rw [e]
  refine ⟨fun _ => hQ, fun q => absurd q (by decide), fun q => absurd q (by decide), fun q => absurd q (by decide), fun q => absurd q (by decide)⟩
theorem c_ra2 {G : GG} {d : Nat} {M : PM} {Q : Option Value → PM → Prop} {c k : Nat} (hc : c < 8) (hk : k ≤ 1) (hQ : Q (some (.int (rtC M c 2))) (tr M (mkv 2))) : PC G (d + 2) m_X8_rateAs [.ref 0, .int (nI 2), .int (nI c), .int (nI k)] M Q := by
  refine PC.of ok_X8_rateAs (Nat.le_of_ble_eq_true rfl) (g_X8_rateAs_0 ?_)
  simp (disch := omega) only [nle, nlt, neq, nz, nzl, nzg, nzp, nzn, nneg, nneg9, nI_add, ncl, vin, br_T, br_F, br_p, br_n, true_and, and_true, Nat.zero_add, rdA, rdN, mk2, ab2]
  refine c_ra0 hc (by omega) ?_
  simp only [gI]
  have e : tr (wL M 0 10 (M.2 0 10 + 100)) (mkv 0) = tr M (mkv 2) := tr_tr (v := 100) (w := 1)
  rw [e]
  refine ⟨fun q => absurd q (by decide), fun _ => hQ, fun q => absurd q (by decide), fun q => absurd q (by decide), fun q => absurd q (by decide)⟩
theorem c_ra3 {G : GG} {d : Nat} {M : PM} {Q : Option Value → PM → Prop} {c k : Nat} (hc : c < 8) (hk : k ≤ 0) (hQ : Q (some (.int (rtC M c 3))) (tr M (mkv 3))) : PC G (d + 3) m_X8_rateAs [.ref 0, .int (nI 3), .int (nI c), .int (nI k)] M Q := by
  refine PC.of ok_X8_rateAs (Nat.le_of_ble_eq_true rfl) (g_X8_rateAs_0 ?_)
  simp (disch := omega) only [nle, nlt, neq, nz, nzl, nzg, nzp, nzn, nneg, nneg9, nI_add, ncl, vin, br_T, br_F, br_p, br_n, true_and, and_true, Nat.zero_add, rdA, rdN, mk3, ab3]
  refine c_ra1 hc (by omega) ?_
  simp only [gI]
  have e : tr (wL M 0 10 (M.2 0 10 + 1000)) (mkv 1) = tr M (mkv 3) := tr_tr (v := 1000) (w := 11)
  rw [e]
  refine ⟨fun q => absurd q (by decide), fun q => absurd q (by decide), fun _ => hQ, fun q => absurd q (by decide), fun q => absurd q (by decide)⟩
theorem c_ra4 {G : GG} {d : Nat} {M : PM} {Q : Option Value → PM → Prop} {c k : Nat} (hc : c < 8) (hk : k ≤ 0) (hQ : Q (some (.int (rtC M c 4))) (tr M (mkv 4))) : PC G (d + 3) m_X8_rateAs [.ref 0, .int (nI 4), .int (nI c), .int (nI k)] M Q := by
  refine PC.of ok_X8_rateAs (Nat.le_of_ble_eq_true rfl) (g_X8_rateAs_0 ?_)
  simp (disch := omega) only [nle, nlt, neq, nz, nzl, nzg, nzp, nzn, nneg, nneg9, nI_add, ncl, vin, br_T, br_F, br_p, br_n, true_and, and_true, Nat.zero_add, rdA, rdN, mk4, ab4]
  refine c_ra2 hc (by omega) ?_
  simp only [gI]
  have e : tr (wL M 0 10 (M.2 0 10 + 10000)) (mkv 2) = tr M (mkv 4) := tr_tr (v := 10000) (w := 101)
  rw [e]
  refine ⟨fun q => absurd q (by decide), fun q => absurd q (by decide), fun q => absurd q (by decide), fun _ => hQ, fun q => absurd q (by decide)⟩
theorem c_ra5 {G : GG} {d : Nat} {M : PM} {Q : Option Value → PM → Prop} {c k : Nat} (hc : c < 8) (hk : k ≤ 1) (hQ : Q (some (.int (rtC M c 5))) (tr M (mkv 5))) : PC G (d + 2) m_X8_rateAs [.ref 0, .int (nI 5), .int (nI c), .int (nI k)] M Q := by
  refine PC.of ok_X8_rateAs (Nat.le_of_ble_eq_true rfl) (g_X8_rateAs_0 ?_)
  simp (disch := omega) only [nle, nlt, neq, nz, nzl, nzg, nzp, nzn, nneg, nneg9, nI_add, ncl, vin, br_T, br_F, br_p, br_n, true_and, and_true, Nat.zero_add, rdA, rdN, mk5, ab5]
  refine c_ra0 hc (by omega) ?_
  simp only [gI]
  have e : tr (wL M 0 10 (M.2 0 10 + 100000)) (mkv 0) = tr M (mkv 5) := tr_tr (v := 100000) (w := 1)
  rw [e]
  refine ⟨fun q => absurd q (by decide), fun q => absurd q (by decide), fun q => absurd q (by decide), fun q => absurd q (by decide), fun _ => hQ⟩
theorem c_ra {G : GG} {d : Nat} {M : PM} {Q : Option Value → PM → Prop} {c k : Nat} (hc : c < 8) (hk : k ≤ 5) (hQ : Q (some (.int (rtC M c k))) (tr M (mkv k))) : PC G (d + 3) m_X8_rateAs [.ref 0, .int (nI k), .int (nI c), .int (nI 0)] M Q := by
  match k, hk, hQ with
  | 0, _, hQ => exact c_ra0 hc (by omega) hQ
  | 1, _, hQ => exact c_ra1 hc (by omega) hQ
  | 2, _, hQ => exact c_ra2 hc (by omega) hQ
  | 3, _, hQ => exact c_ra3 hc (by omega) hQ
  | 4, _, hQ => exact c_ra4 hc (by omega) hQ
  | 5, _, hQ => exact c_ra5 hc (by omega) hQ
  | n + 6, h, _ => exact absurd h (by omega)
def rtR (M : PM) (c : Nat) : Nat → Int32
  | 0 => M.1 60 c
  | 1 => M.1 60 c + M.1 63 (16 + c)
  | 2 => M.1 60 c - M.1 63 (8 + c)
  | 3 => nI 2 * (M.1 60 c + M.1 63 (16 + c))
  | 4 => M.1 60 c - M.1 63 (8 + c) + M.1 61 c
  | _ => M.1 60 c - nI c
theorem c_X9_rate_no {G : GG} {d : Nat} {M : PM} {Q : Option Value → PM → Prop} {n : Nat} {x y : Int32} (hn : n ≤ 8) (hM : M.1 56 15 = nI n) (hno : ¬ inR y n ∨ ¬ ∃ i : Nat, i ≤ 5 ∧ x = nI i) (hQ : Q (some (.int (-1000000))) (wI M 56 0 (nI 0))) : PC G (d + 4) m_X9_rate [.ref 56, .int x, .int y] M Q := by
  refine PC.of ok_X9_rate (Nat.le_of_ble_eq_true rfl) (g_X9_rate_0 (c_X9_in ?_))
  simp only [gI, bI_z]
  refine b2 (fun h => hQ) (fun h => c_X9_isChild (n := n) (by simp (disch := omega) only [wI_sA, rdA, rdN, rdL, upd_e, upd_n]; exact hM) hn ?_)
  simp only [gI, bI_z]
  rcases hno with h1 | h1
  · exact b1 h1 hQ
  · exact absurd (no_in (by omega) h1) h
theorem c_X9_rate_yes {G : GG} {d : Nat} {M : PM} {Q : Option Value → PM → Prop} {n c k : Nat} (hn : n ≤ 8) (hM : M.1 56 15 = nI n) (hc : c < n) (hk : k ≤ 5) (hQ : Q (some (.int (rtR M c k))) (wL (wI M 56 0 (nI 0)) 56 1 (M.2 56 1 + mkv k))) : PC G (d + 4) m_X9_rate [.ref 56, .int (nI k), .int (nI c)] M Q := by
  refine PC.of ok_X9_rate (Nat.le_of_ble_eq_true rfl) (g_X9_rate_0 (c_X9_in ?_))
  simp only [gI, bI_z]
  refine b0 (fun z => z (yes_in (by omega) hk)) (c_X9_isChild (n := n) (by simp (disch := omega) only [wI_sA, rdA, rdN, rdL, upd_e, upd_n]; exact hM) hn ?_)
  simp only [gI, bI_z]
  refine b0 (fun z => z (inR_y hc (by omega))) ?_
  simp (disch := omega) only [nle, nlt, neq, nz, nzl, nzg, nzp, nzn, nneg, nneg9, nI_add, ncl, vin, br_T, br_F, br_p, br_n, true_and, and_true, Nat.zero_add, rdA, rdN]
  match k, hk, hQ with
  | 0, _, hQ => refine b1 rfl (g_X9_rate_120 (b1 rfl ?_)); simp (disch := omega) only [nle, nlt, neq, nz, nzl, nzg, nzp, nzn, nneg, nneg9, nI_add, ncl, vin, br_T, br_F, br_p, br_n, true_and, and_true, Nat.zero_add, rdA, rdN]; exact hQ
  | 1, _, hQ => refine b0 (by decide) (b1 rfl (g_X9_rate_120 (b0 (by decide) (b1 rfl ?_)))); simp (disch := omega) only [nle, nlt, neq, nz, nzl, nzg, nzp, nzn, nneg, nneg9, nI_add, ncl, vin, br_T, br_F, br_p, br_n, true_and, and_true, Nat.zero_add, rdA, rdN, wI_sA]; exact hQ
  | 2, _, hQ => refine b0 (by decide) (b0 (by decide) (b1 rfl (g_X9_rate_120 (b0 (by decide) (b0 (by decide) (b1 rfl ?_)))))); simp (disch := omega) only [nle, nlt, neq, nz, nzl, nzg, nzp, nzn, nneg, nneg9, nI_add, ncl, vin, br_T, br_F, br_p, br_n, true_and, and_true, Nat.zero_add, rdA, rdN, wI_sA]; exact hQ
  | 3, _, hQ => refine b0 (by decide) (b0 (by decide) (b0 (by decide) (b1 rfl (g_X9_rate_120 (b0 (by decide) (b0 (by decide) (b0 (by decide) (b1 rfl ?_)))))))); simp (disch := omega) only [nle, nlt, neq, nz, nzl, nzg, nzp, nzn, nneg, nneg9, nI_add, ncl, vin, br_T, br_F, br_p, br_n, true_and, and_true, Nat.zero_add, rdA, rdN, wI_sA]; exact hQ
  | 4, _, hQ => refine b0 (by decide) (b0 (by decide) (b0 (by decide) (b0 (by decide) (b1 rfl (g_X9_rate_120 (b0 (by decide) (b0 (by decide) (b0 (by decide) (b0 (by decide) (b1 rfl ?_)))))))))); simp (disch := omega) only [nle, nlt, neq, nz, nzl, nzg, nzp, nzn, nneg, nneg9, nI_add, ncl, vin, br_T, br_F, br_p, br_n, true_and, and_true, Nat.zero_add, rdA, rdN, wI_sA]; exact hQ
  | 5, _, hQ => refine b0 (by decide) (b0 (by decide) (b0 (by decide) (b0 (by decide) (b0 (by decide) (g_X9_rate_120 (b0 (by decide) (b0 (by decide) (b0 (by decide) (b0 (by decide) (b0 (by decide) ?_)))))))))); simp (disch := omega) only [nle, nlt, neq, nz, nzl, nzg, nzp, nzn, nneg, nneg9, nI_add, ncl, vin, br_T, br_F, br_p, br_n, true_and, and_true, Nat.zero_add, rdA, rdN, wI_sA]; exact hQ
  | n + 6, h, _ => exact absurd h (by omega)
theorem RelN.tc {M N : PM} {nP nC nS tl sn tn : Nat} (h : RelN M nP nC nS tl sn tn) (h1 : N.1 = M.1) (h2 : N.2 0 10 = N.2 56 1) : RelN N nP nC nS tl sn tn := by
  obtain ⟨a1, a2, a3, a4, a5, a6, a7, a8, a9⟩ := h
  exact ⟨a1.cg (fun k _ _ => by rw [h1]) (fun k _ _ => by rw [h1]), a2.cg (fun q hq => by rw [h1]), a3.cg (fun q hq => by rw [h1]), a4.cg (by rw [h1]) (by rw [h1]) (by rw [h1]) (by rw [h1]), a5.cg (fun r hr => by rw [h1]) (by rw [h1]), a6.cg (fun r hr => by rw [h1]) (by rw [h1]), a7.cg (by rw [h1]) (by rw [h1]) (by rw [h1]) (by rw [h1]) (fun r hr => by rw [h1]), a8.cg (by rw [h1]) (by rw [h1]) (fun r hr => by rw [h1]), h2⟩
theorem pair_rate {G : GG} {M : PM} {x y : Int32} (h : Rel M) : Pair G m_X8_rate m_X9_rate [.int x, .int y] M := by
  have hr := h.eqv (Eqv.t0 M (nI 0))
  obtain ⟨nP, nC, nS, tl, sn, tn, hN⟩ := h
  obtain ⟨h1, h2, h3, h4, h5, h6, h7, h8, h9⟩ := id hN
  obtain ⟨a1, a2, a3, a4, a5, a6, a7, a8, a9⟩ := id h1
  have bad : (¬ inR y nC ∨ ¬ ∃ i : Nat, i ≤ 5 ∧ x = nI i) → PC G 900 m_X9_rate [.ref 56, .int x, .int y] M (fun w N2 => w = some (.int (-1000000)) ∧ Rel N2) := fun hb => c_X9_rate_no a6 a5 hb ⟨rfl, hr⟩
  refine PC.of (d := 899) ok_X8_rate (Nat.le_of_ble_eq_true rfl) (g_X8_rate_0 ?_)
  refine b2 (fun q => ⟨_, rfl, bad (Or.inr ?_)⟩) (fun q1 => b2 (fun q => ⟨_, rfl, bad (Or.inr ?_)⟩) (fun q2 => c_X3_hasChild a4 ?_))
  · rintro ⟨i, hi, rfl⟩
    rw [nzl (by omega)] at q; exact q
  · rintro ⟨i, hi, rfl⟩
    rw [nlt (by omega) (by omega)] at q; omega
  simp only [gI, bI_z]
  refine b2 (fun q => ⟨_, rfl, bad (Or.inl q)⟩) (fun q3 => ?_)
  clear bad
  rcases inR_dec (x := y) (n := nC) (by omega) with ⟨c, hc, rfl⟩ | hno
  case inr => exact absurd hno q3
  rcases ix3 x (n := 6) (by omega) with z | z | ⟨k, hk, rfl⟩
  · exact absurd z q1
  · exact absurd (show nI 5 < x from Int32.lt_of_lt_of_le (by decide) z) q2
  refine c_ra (by omega) (by omega) ?_
  simp only [gI]
  obtain ⟨w, -, -, e1, e2⟩ := h2.2.2.1 c hc
  obtain ⟨ws, -, -, e3, e4⟩ := h2.2.2.2.1 c hc
  have hsp := (h3.c hc).rd.1
  have hb := h3.b hc
  refine ⟨_, rfl, c_X9_rate_yes a6 (by rw [tr_1]; exact a5) hc (by omega) ⟨?_, nP, nC, nS, tl, sn, tn, ?_⟩⟩
  · have : rtR (tr M (mkv k)) c k = rtC M c k := by
      match k, hk with
      | 0, _ => exact e2.trans e1.symm
      | 1, _ => show M.1 60 c + M.1 63 (16 + c) = M.1 4 c + M.1 10 c; rw [e2, e1, hb]
      | 2, _ => show M.1 60 c - M.1 63 (8 + c) = M.1 4 c - M.1 9 c; rw [e2, e1, hsp]
      | 3, _ => show nI 2 * (M.1 60 c + M.1 63 (16 + c)) = nI 2 * (M.1 4 c + M.1 10 c); rw [e2, e1, hb]
      | 4, _ => show M.1 60 c - M.1 63 (8 + c) + M.1 61 c = M.1 4 c - M.1 9 c + M.1 5 c; rw [e2, e1, hsp, e3, e4]
      | 5, _ => show M.1 60 c - nI c = M.1 4 c - nI c; rw [e2, e1]
      | n + 6, h => exact absurd h (by omega)
    rw [this]
  · have hE := hN.eqv (Eqv.t0 M (nI 0))
    refine hE.tc (N := wL (wI (tr M (mkv k)) 56 0 (nI 0)) 56 1 ((tr M (mkv k)).2 56 1 + mkv k)) rfl ?_
    rw [wL_e, wL_n (by omega)]
    show (tr M (mkv k)).2 0 10 = (tr M (mkv k)).2 56 1 + mkv k
    unfold tr
    rw [wL_e, wL_n (by omega), h9]
