/-! rides: the class -/
theorem scr_a {q k : Nat} (h : (26 ≤ q ∧ q ≤ 31) ∨ (33 ≤ q ∧ q ≤ 43) ∨ q = 48 ∨ (51 ≤ q ∧ q ≤ 55) ∨ (66 ≤ q ∧ q ≤ 68) ∨ (70 ≤ q ∧ q ≤ 74)) : scr q k = true := by
  unfold scr
  simp only [Bool.or_eq_true, Bool.and_eq_true, decide_eq_true_eq]
  omega
theorem scr_m {k : Nat} (h : k = 0 ∨ (4 ≤ k ∧ k ≤ 8) ∨ (17 ≤ k ∧ k ≤ 19) ∨ k = 24 ∨ k = 32) : scr 56 k = true := by
  simp [scr]
  omega
theorem Eqv.w {A M : PM} (h : Eqv A M) {q k : Nat} {v : Int32} (hs : (26 ≤ q ∧ q ≤ 31) ∨ (33 ≤ q ∧ q ≤ 43) ∨ q = 48 ∨ (51 ≤ q ∧ q ≤ 55) ∨ (66 ≤ q ∧ q ≤ 68) ∨ (70 ≤ q ∧ q ≤ 74)) : Eqv A (wI M q k v) := h.trans (Eqv.wr (scr_a hs))
theorem Eqv.a {A M : PM} (h : Eqv A M) {q : Nat} {f : Nat → Int32} (hs : (26 ≤ q ∧ q ≤ 31) ∨ (33 ≤ q ∧ q ≤ 43) ∨ q = 48 ∨ (51 ≤ q ∧ q ≤ 55) ∨ (66 ≤ q ∧ q ≤ 68) ∨ (70 ≤ q ∧ q ≤ 74)) : Eqv A (sA M q f) := h.trans (Eqv.ar (fun _ => scr_a hs))
theorem Eqv.m {A M : PM} (h : Eqv A M) {k : Nat} {v : Int32} (hs : k = 0 ∨ (4 ≤ k ∧ k ≤ 8) ∨ (17 ≤ k ∧ k ≤ 19) ∨ k = 24 ∨ k = 32) : Eqv A (wI M 56 k v) := h.trans (Eqv.wr (scr_m hs))
def plC (M : PM) (p : Nat) : Option (Nat × Nat) → Prop
  | none => M.1 54 p = -1 ∧ M.1 55 p = -1
  | some (a, b) => M.1 54 p = nI a ∧ M.1 55 p = nI b
def EC (A M : PM) (nP nC : Nat) (s : QS) : Prop := Eqv A M ∧ M.1 51 5 = nI s.n ∧ (∀ i, i < s.n → M.1 53 i = nI (s.ro i)) ∧ (∀ c, c < nC → M.1 52 c = nI (s.rd c)) ∧ ∀ p, p < nP → plC M p (s.pl p)
def wi (M : PM) (c : Nat) : Nat := (M.1 5 c).toNatClampNeg
theorem wi_e {M : PM} {nP nC nS c : Nat} (h : RRo M nP nC nS) (hc : c < nC) : M.1 5 c = nI (wi M c) ∧ M.1 61 c = nI (wi M c) ∧ 1 ≤ wi M c ∧ wi M c ≤ 30 := by
  obtain ⟨w, w1, w2, e1, e2⟩ := h.2.2.2.1 c hc
  have : wi M c = w := by unfold wi; rw [e1, ncl (by omega)]
  rw [this]; exact ⟨e1, e2, w1, w2⟩
section
variable {A : PM} {nP nC nS tl sn tn : Nat} {s : QS}
theorem EC.rel {M : PM} (h : EC A M nP nC s) (hA : RelN A nP nC nS tl sn tn) : RelN M nP nC nS tl sn tn := hA.eqv h.1
theorem EC.wie {M : PM} (h : EC A M nP nC s) : wi M = wi A := by
  funext c; unfold wi; rw [h.1.1 5 c (by unfold scr; simp)]
theorem EC.fit {M : PM} (h : EC A M nP nC s) : fitC M = fitC A := by
  funext p a b; unfold fitC; rw [h.1.1 3 p (by unfold scr; simp), h.1.1 4 a (by unfold scr; simp), h.1.1 4 b (by unfold scr; simp)]
theorem c_X2_joinRow {G : GG} {d : Nat} {M : PM} {Q : Option Value → PM → Prop} {c : Nat} (h : EC A M nP nC s) (hn : s.n < 8) (hQ : ∀ N, EC A N nP nC (s.push c) → Q none N) : PC G (d + 1) m_X2_joinRow [.ref 51, .int (nI c)] M Q := by
  refine PC.of ok_X2_joinRow (Nat.le_of_ble_eq_true rfl) (g_X2_joinRow_0 ?_)
  obtain ⟨h0, h1, h2, h3, h4⟩ := h
  simp (disch := omega) only [nle, nlt, neq, nz, nzl, nzg, nzp, nzn, nneg, nneg9, nI_add, ncl, vin, br_T, br_F, br_p, br_n, true_and, and_true, Nat.zero_add, rdA, rdN, h1]
  refine hQ _ ⟨(h0.w (by omega)).w (by omega), ?_, fun i hi => ?_, fun c hc => ?_, fun p hp => ?_⟩
  · simp (disch := omega) only [wI_sA, rdA, rdN, rdL, upd_e, upd_n]; rfl
  · show _ = nI (if i = s.n then c else s.ro i)
    by_cases e : i = s.n
    · subst e; rw [if_pos rfl]; simp (disch := omega) only [wI_sA, rdA, rdN, rdL, upd_e, upd_n]
    · rw [if_neg e]
      have hi : i < s.n + 1 := hi
      simp (disch := omega) only [wI_sA, rdA, rdN, rdL, upd_e, upd_n]; exact h2 i (by omega)
  · simp (disch := omega) only [wI_sA, rdA, rdN, rdL, upd_e, upd_n]; exact h3 c hc
  · have := h4 p hp
    show plC _ p (s.pl p)
    cases hs : s.pl p with
    | none => rw [hs] at this; unfold plC; simp (disch := omega) only [wI_sA, rdA, rdN, rdL, upd_e, upd_n]; exact this
    | some ab => rw [hs] at this; obtain ⟨a, b⟩ := ab; unfold plC; simp (disch := omega) only [wI_sA, rdA, rdN, rdL, upd_e, upd_n]; exact this
theorem c_X2_leaveRow {G : GG} {d : Nat} {M : PM} {Q : Option Value → PM → Prop} {a : Nat} (h : EC A M nP nC s) (hn : s.n ≤ 8) (ha : a < s.n) (hQ : ∀ N, EC A N nP nC (s.drop a) → Q none N) : PC G (d + 1) m_X2_leaveRow [.ref 51, .int (nI a)] M Q := by
  refine PC.of ok_X2_leaveRow (Nat.le_of_ble_eq_true rfl) (g_X2_leaveRow_0 ?_)
  obtain ⟨h0, h1, h2, h3, h4⟩ := h
  rw [h1, nsub (by omega)]
  have key := up_ind (P := fun j => PX G d m_X2_leaveRow Q 12 [some (.ref 51), none, some (.int (nI (a + j)))] [] (sA (wI M 51 5 (nI (s.n - 1))) 53 (fo (fun t => M.1 53 (a + t + 1)) (M.1 53) a j))) (n := s.n - 1 - a) ?_ ?_ 0 (Nat.zero_le _)
  · rw [fo_0] at key
    have : sA (wI M 51 5 (nI (s.n - 1))) 53 (M.1 53) = wI M 51 5 (nI (s.n - 1)) := by
      have e : M.1 53 = (wI M 51 5 (nI (s.n - 1))).1 53 := by simp (disch := omega) only [wI_sA, rdA, rdN, rdL, upd_e, upd_n]
      rw [e, sA_self]
    rw [this] at key
    exact key
  · apply g_X2_leaveRow_12
    simp (disch := omega) only [wI_sA, rdA, rdN, rdL, upd_e, upd_n]
    simp (disch := omega) only [nle, nlt, neq, nz, nzl, nzg, nzp, nzn, nneg, nneg9, nI_add, ncl, vin, br_T, br_F, br_p, br_n, true_and, and_true, Nat.zero_add, rdA, rdN]
    refine hQ _ ⟨(h0.w (by omega)).a (by omega), ?_, fun i hi => ?_, fun c hc => ?_, fun p hp => ?_⟩
    · simp (disch := omega) only [wI_sA, rdA, rdN, rdL, upd_e, upd_n]; rfl
    · show _ = nI (if i < a then s.ro i else s.ro (i + 1))
      have hi : i < s.n - 1 := hi
      simp (disch := omega) only [wI_sA, rdA, rdN, rdL, upd_e, upd_n]
      by_cases e : i < a
      · rw [if_pos e, fo_out (by omega)]; exact h2 i (by omega)
      · rw [if_neg e]
        obtain ⟨t, rfl⟩ : ∃ t, i = a + t := ⟨i - a, by omega⟩
        rw [fo_in (by omega)]
        exact h2 (a + t + 1) (by omega)
    · simp (disch := omega) only [wI_sA, rdA, rdN, rdL, upd_e, upd_n]; exact h3 c hc
    · have := h4 p hp
      show plC _ p (s.pl p)
      cases hs : s.pl p with
      | none => rw [hs] at this; unfold plC; simp (disch := omega) only [wI_sA, rdA, rdN, rdL, upd_e, upd_n]; exact this
      | some ab => rw [hs] at this; obtain ⟨a, b⟩ := ab; unfold plC; simp (disch := omega) only [wI_sA, rdA, rdN, rdL, upd_e, upd_n]; exact this
  · intro j hj ih
    apply g_X2_leaveRow_12
    simp (disch := omega) only [wI_sA, rdA, rdN, rdL, upd_e, upd_n]
    simp (disch := omega) only [nle, nlt, neq, nz, nzl, nzg, nzp, nzn, nneg, nneg9, nI_add, ncl, vin, br_T, br_F, br_p, br_n, true_and, and_true, Nat.zero_add, rdA, rdN]
    have e : fo (fun t => M.1 53 (a + t + 1)) (M.1 53) a j (a + j + 1) = M.1 53 (a + j + 1) := fo_out (by omega)
    rw [e, sA_sA, fo_up rfl]
    exact ih
theorem c_X2_wantsMore {G : GG} {d : Nat} {M : PM} {Q : Option Value → PM → Prop} {c : Nat} (hA : RelN A nP nC nS tl sn tn) (h : EC A M nP nC s) (hc : c < nC) (hr : s.rd c ≤ wi A c) (hQ : Q (some (.int (bI (s.rd c < wi A c)))) M) : PC G (d + 1) m_X2_wantsMore [.ref 51, .int (nI c)] M Q := by
  have hM := h.rel hA
  have hC := hM.1.2.2.2.2.2.1
  obtain ⟨w1, -, -, w3⟩ := wi_e hM.2.1 hc
  rw [h.wie] at w1 w3
  refine PC.of ok_X2_wantsMore (Nat.le_of_ble_eq_true rfl) (g_X2_wantsMore_0 ?_)
  simp only [n01a, n01b, true_and]
  simp (disch := omega) only [nle, nlt, neq, nz, nzl, nzg, nzp, nzn, nneg, nneg9, nI_add, ncl, vin, br_T, br_F, br_p, br_n, true_and, and_true, Nat.zero_add, rdA, rdN]
  rw [w1, h.2.2.2.1 c hc]
  simp (disch := omega) only [nle, nlt, neq, nz, nzl, nzg, nzp, nzn, nneg, nneg9, nI_add, ncl, vin, br_T, br_F, br_p, br_n, true_and, and_true, Nat.zero_add, rdA, rdN]
  refine b2 (fun q => ?_) (fun q => ?_)
  · rw [bI_f (by omega)] at hQ; exact hQ
  · rw [bI_t (by omega)] at hQ; exact hQ
theorem EC.set0 {M : PM} (h : EC A M nP nC s) (p : Nat) : EC A (wI (wI M 54 p (-1)) 55 p (-1)) nP nC (s.set p none) := by
  obtain ⟨h0, h1, h2, h3, h4⟩ := h
  refine ⟨(h0.w (by omega)).w (by omega), ?_, fun i hi => ?_, fun c hc => ?_, fun q hq => ?_⟩
  · simp (disch := omega) only [wI_sA, rdA, rdN, rdL, upd_e, upd_n]; exact h1
  · simp (disch := omega) only [wI_sA, rdA, rdN, rdL, upd_e, upd_n]; exact h2 i hi
  · simp (disch := omega) only [wI_sA, rdA, rdN, rdL, upd_e, upd_n]; exact h3 c hc
  · show plC _ q (if q = p then none else s.pl q)
    by_cases e : q = p
    · subst e; rw [if_pos rfl]; unfold plC; simp (disch := omega) only [wI_sA, rdA, rdN, rdL, upd_e, upd_n]; exact ⟨trivial, trivial⟩
    · rw [if_neg e]
      have := h4 q hq
      cases hs : s.pl q with
      | none => rw [hs] at this; unfold plC; simp (disch := omega) only [wI_sA, rdA, rdN, rdL, upd_e, upd_n]; exact this
      | some ab => rw [hs] at this; obtain ⟨a, b⟩ := ab; unfold plC; simp (disch := omega) only [wI_sA, rdA, rdN, rdL, upd_e, upd_n]; exact this
theorem EC.set1 {M : PM} (h : EC A M nP nC s) (p a b : Nat) : EC A (wI (wI M 54 p (nI a)) 55 p (nI b)) nP nC (s.set p (some (a, b))) := by
  obtain ⟨h0, h1, h2, h3, h4⟩ := h
  refine ⟨(h0.w (by omega)).w (by omega), ?_, fun i hi => ?_, fun c hc => ?_, fun q hq => ?_⟩
  · simp (disch := omega) only [wI_sA, rdA, rdN, rdL, upd_e, upd_n]; exact h1
  · simp (disch := omega) only [wI_sA, rdA, rdN, rdL, upd_e, upd_n]; exact h2 i hi
  · simp (disch := omega) only [wI_sA, rdA, rdN, rdL, upd_e, upd_n]; exact h3 c hc
  · show plC _ q (if q = p then some (a, b) else s.pl q)
    by_cases e : q = p
    · subst e; rw [if_pos rfl]; unfold plC; simp (disch := omega) only [wI_sA, rdA, rdN, rdL, upd_e, upd_n]; exact ⟨trivial, trivial⟩
    · rw [if_neg e]
      have := h4 q hq
      cases hs : s.pl q with
      | none => rw [hs] at this; unfold plC; simp (disch := omega) only [wI_sA, rdA, rdN, rdL, upd_e, upd_n]; exact this
      | some ab => rw [hs] at this; obtain ⟨a, b⟩ := ab; unfold plC; simp (disch := omega) only [wI_sA, rdA, rdN, rdL, upd_e, upd_n]; exact this
theorem c_X2_letOff {G : GG} {d : Nat} {M : PM} {Q : Option Value → PM → Prop} {p : Nat} (hA : RelN A nP nC nS tl sn tn) (h : EC A M nP nC s) (hw : QW nP nC (wi A) s) (hp : p < nP) (hQ : ∀ N, EC A N nP nC (s.off (wi A) p) → Q none N) : PC G (d + 2) m_X2_letOff [.ref 51, .int (nI p)] M Q := by
  have hP := (h.rel hA).1.2.2.1
  have hC := (h.rel hA).1.2.2.2.2.2.1
  refine PC.of ok_X2_letOff (Nat.le_of_ble_eq_true rfl) (g_X2_letOff_0 ?_)
  simp (disch := omega) only [nle, nlt, neq, nz, nzl, nzg, nzp, nzn, nneg, nneg9, nI_add, ncl, vin, br_T, br_F, br_p, br_n, true_and, and_true, Nat.zero_add, rdA, rdN]
  have hpl := h.2.2.2.2 p hp
  cases hs : s.pl p with
  | none =>
    rw [hs] at hpl
    rw [QS.off_none hs] at hQ
    exact b1 hpl.1 (hQ _ h)
  | some ab =>
    obtain ⟨a, b⟩ := ab
    rw [hs] at hpl
    obtain ⟨b1', b2', b3'⟩ := hw.pb p hp a b hs
    obtain ⟨k1, k2, k3⟩ := hw.set0 hp hs
    have la := hw.le a b1'
    have lb := hw.le b b2'
    have k2 : s.n + oc (s.set p none).pl nP + 2 ≤ nC := k2
    rw [QS.off_some hs] at hQ
    rw [hpl.1, hpl.2]
    simp (disch := omega) only [nle, nlt, neq, nz, nzl, nzg, nzp, nzn, nneg, nneg9, nI_add, ncl, vin, br_T, br_F, br_p, br_n, true_and, and_true, Nat.zero_add, rdA, rdN]
    refine c_X2_wantsMore hA h b1' la ?_
    simp only [gI, bI_z]
    have hs0 := h.set0 p
    have rest : ¬ (s.rd a < wi A a ∧ s.rd b < wi A b) → PC G (d + 1) m_X2_wantsMore [.ref 51, .int (nI a)] (wI (wI M 54 p (-1)) 55 p (-1)) (fun v N2 => gI v (fun r2 => br (r2 = 0)
          (PC G (d + 1) m_X2_wantsMore [.ref 51, .int (nI b)] N2 (fun v N3 => gI v (fun r3 => br (r3 = 0)
            (Q none N3)
            (PC G (d + 1) m_X2_joinRow [.ref 51, .int (nI b)] N3 (fun v N4 => gN v (Q none N4))))))
          (PC G (d + 1) m_X2_joinRow [.ref 51, .int (nI a)] N2 (fun v N5 => gN v (PC G (d + 1) m_X2_wantsMore [.ref 51, .int (nI b)] N5 (fun v N6 => gI v (fun r6 => br (r6 = 0)
            (Q none N6)
            (PC G (d + 1) m_X2_joinRow [.ref 51, .int (nI b)] N6 (fun v N7 => gN v (Q none N7)))))))))) := by
      intro hno
      rw [if_neg hno] at hQ
      refine c_X2_wantsMore hA hs0 b1' la ?_
      simp only [gI, bI_z]
      refine b2 (fun q => c_X2_wantsMore hA hs0 b2' lb ?_) (fun q => c_X2_joinRow hs0 (show s.n < 8 by omega) (fun N hN => ?_))
      · have q : ¬ s.rd a < wi A a := q
        rw [if_neg q] at hQ
        simp only [gI, bI_z]
        refine b2 (fun q2 => ?_) (fun q2 => c_X2_joinRow hs0 (show s.n < 8 by omega) (fun N hN => ?_))
        · have q2 : ¬ s.rd b < wi A b := q2
          rw [if_neg q2] at hQ
          exact hQ _ hs0
        · have q2 : s.rd b < wi A b := Classical.not_not.mp q2
          rw [if_pos q2] at hQ
          simp only [gN]
          exact hQ N hN
      · have q : s.rd a < wi A a := Classical.not_not.mp q
        rw [if_pos q] at hQ
        simp only [gN]
        refine c_X2_wantsMore hA hN b2' lb ?_
        simp only [gI, bI_z]
        exact b1 (fun z => hno ⟨q, z⟩) (hQ N hN)
    refine b2 (fun q => rest (fun z => q z.1)) (fun q => c_X2_wantsMore hA h b2' lb ?_)
    simp only [gI, bI_z]
    refine b2 (fun q2 => rest (fun z => q2 z.2)) (fun q2 => ?_)
    rw [if_pos ⟨Classical.not_not.mp q, Classical.not_not.mp q2⟩] at hQ
    exact hQ _ h
theorem c_X2_letOn {G : GG} {d : Nat} {M : PM} {Q : Option Value → PM → Prop} {p : Nat} (hA : RelN A nP nC nS tl sn tn) (h : EC A M nP nC s) (hw : QW nP nC (wi A) s) (hp : p < nP) (hQ : ∀ N, EC A N nP nC (s.on (fitC A) p) → Q none N) : PC G (d + 2) m_X2_letOn [.ref 51, .int (nI p)] M Q := by
  have hP := (h.rel hA).1.2.2.1
  have hC := (h.rel hA).1.2.2.2.2.2.1
  have cn := hw.cnt
  refine PC.of ok_X2_letOn (Nat.le_of_ble_eq_true rfl) (g_X2_letOn_0 ?_)
  simp (disch := omega) only [nle, nlt, neq, nz, nzl, nzg, nzp, nzn, nneg, nneg9, nI_add, ncl, vin, br_T, br_F, br_p, br_n, true_and, and_true, Nat.zero_add, rdA, rdN]
  have hpl := h.2.2.2.2 p hp
  cases hs : s.pl p with
  | some ab =>
    obtain ⟨a, b⟩ := ab
    rw [hs] at hpl
    obtain ⟨b1', b2', b3'⟩ := hw.pb p hp a b hs
    rw [QS.on_s (by rw [hs]; exact fun z => by cases z)] at hQ
    rw [hpl.1]
    simp (disch := omega) only [nle, nlt, neq, nz, nzl, nzg, nzp, nzn, nneg, nneg9, nI_add, ncl, vin, br_T, br_F, br_p, br_n, true_and, and_true, Nat.zero_add, rdA, rdN]
    exact hQ _ h
  | none =>
    rw [hs] at hpl
    refine b1 hpl.1 ?_
    have h1 := h.2.1
    refine up_ind (P := fun i => (∀ i' j', i' < i → i' < j' → j' < s.n → ¬ fitC A p (s.ro i') (s.ro j')) → PX G (d + 1) m_X2_letOn Q 13 [some (.ref 51), some (.int (nI p)), some (.int (nI i)), none] [] M) ?_ ?_ 0 (Nat.zero_le s.n) (fun i' j' hi => absurd hi (by omega))
    · intro hno
      apply g_X2_letOn_13
      simp (disch := omega) only [nle, nlt, neq, nz, nzl, nzg, nzp, nzn, nneg, nneg9, nI_add, ncl, vin, br_T, br_F, br_p, br_n, true_and, and_true, Nat.zero_add, rdA, rdN, h1]
      rw [QS.on_n (fun ⟨i, j, z⟩ => hno i j (by have := z.1; have := z.2.1; omega) z.1 z.2.1 z.2.2.1)] at hQ
      exact hQ _ h
    · intro i hi ih hno
      apply g_X2_letOn_13
      simp (disch := omega) only [nle, nlt, neq, nz, nzl, nzg, nzp, nzn, nneg, nneg9, nI_add, ncl, vin, br_T, br_F, br_p, br_n, true_and, and_true, Nat.zero_add, rdA, rdN, h1]
      refine up_ind (P := fun j => i < j → (∀ j', i < j' → j' < j → ¬ fitC A p (s.ro i) (s.ro j')) → PX G (d + 1) m_X2_letOn Q 25 [some (.ref 51), some (.int (nI p)), some (.int (nI i)), some (.int (nI j))] [] M) ?_ ?_ (i + 1) (show i + 1 ≤ s.n by omega) (by omega) (fun j' h1 h2 => absurd h1 (by omega))
      · intro _ hj
        apply g_X2_letOn_25
        simp (disch := omega) only [nle, nlt, neq, nz, nzl, nzg, nzp, nzn, nneg, nneg9, nI_add, ncl, vin, br_T, br_F, br_p, br_n, true_and, and_true, Nat.zero_add, rdA, rdN, h1]
        refine ih (fun i' j' q1 q2 q3 => ?_)
        by_cases e : i' = i
        · subst e; exact hj j' q2 q3
        · exact hno i' j' (by omega) q2 q3
      · intro j hj ih2 hij hn2
        apply g_X2_letOn_25
        simp (disch := omega) only [nle, nlt, neq, nz, nzl, nzg, nzp, nzn, nneg, nneg9, nI_add, ncl, vin, br_T, br_F, br_p, br_n, true_and, and_true, Nat.zero_add, rdA, rdN, h1]
        have bi := hw.rb i hi
        have bj := hw.rb j hj
        rw [h.2.2.1 i hi, h.2.2.1 j hj]
        refine c_X3_fits (by omega) (by omega) (by omega) ?_
        simp only [gI, bI_z]
        have ef : (absI (M.1 4 (s.ro i) - M.1 4 (s.ro j)) ≤ M.1 3 p) = fitC A p (s.ro i) (s.ro j) := by rw [← h.fit]; rfl
        rw [ef]
        refine b2 (fun q => ih2 (by omega) (fun j' q1 q2 => ?_)) (fun q => ?_)
        · by_cases e : j' = j
          · subst e; exact q
          · exact hn2 j' q1 (by omega)
        · have hfp : s.FP (fitC A) p i j := ⟨hij, hj, Classical.not_not.mp q, fun i' j' q1 q2 q3 => by
            by_cases e : i' < i
            · exact hno i' j' e q1 q2
            · have : i' = i := by omega
              subst this
              exact hn2 j' q1 (by omega)⟩
          rw [QS.on_y hs hfp] at hQ
          rw [h.2.2.1 i hi, h.2.2.1 j hj]
          refine c_X2_leaveRow (h.set1 p (s.ro i) (s.ro j)) (show s.n ≤ 8 by omega) hj (fun N hN => ?_)
          simp only [gN]
          refine c_X2_leaveRow hN (show s.n - 1 ≤ 8 by omega) (show i < s.n - 1 by omega) (fun N2 hN2 => ?_)
          simp only [gN]
          exact hQ N2 hN2
theorem rdq_le (hw : QW nP nC (wi A) s) (hA : RelN A nP nC nS tl sn tn) {k c : Nat} (hk : k ≤ nP) (hc : c < nC) : rdq s k c ≤ 31 := by
  have l := hw.le c hc
  have w := (wi_e hA.2.1 hc).2.2.2
  by_cases e : ∃ p, p < k ∧ s.R p c
  · rw [(rdq_eq hw k hk c).1 e]; omega
  · rw [(rdq_eq hw k hk c).2 e]; omega
theorem c_X2_rideOn {G : GG} {d : Nat} {M : PM} {Q : Option Value → PM → Prop} (hA : RelN A nP nC nS tl sn tn) (h : EC A M nP nC s) (hw : QW nP nC (wi A) s) (hQ : ∀ N, EC A N nP nC (s.ride nP) → Q none N) : PC G (d + 1) m_X2_rideOn [.ref 51] M Q := by
  have hP := (h.rel hA).1.2.2.1
  have hC := (h.rel hA).1.2.2.2.2.2.1
  refine PC.of ok_X2_rideOn (Nat.le_of_ble_eq_true rfl) (g_X2_rideOn_0 ?_)
  refine up_ind (P := fun k => ∀ N, EC A N nP nC (s.ride k) → PX G d m_X2_rideOn Q 2 [some (.ref 51), some (.int (nI k))] [] N) ?_ ?_ 0 (Nat.zero_le nP) M h
  · intro N hN
    apply g_X2_rideOn_2
    rw [(hN.rel hA).1.1]
    simp (disch := omega) only [nle, nlt, neq, nz, nzl, nzg, nzp, nzn, nneg, nneg9, nI_add, ncl, vin, br_T, br_F, br_p, br_n, true_and, and_true, Nat.zero_add, rdA, rdN]
    exact hQ N hN
  · intro k hk ih N hN
    apply g_X2_rideOn_2
    rw [(hN.rel hA).1.1]
    simp (disch := omega) only [nle, nlt, neq, nz, nzl, nzg, nzp, nzn, nneg, nneg9, nI_add, ncl, vin, br_T, br_F, br_p, br_n, true_and, and_true, Nat.zero_add, rdA, rdN]
    have hpl := hN.2.2.2.2 k hk
    have hpl : plC N k (s.pl k) := hpl
    cases hs : s.pl k with
    | none =>
      rw [hs] at hpl
      refine b1 hpl.1 (ih N ?_)
      have : s.ride (k + 1) = s.ride k := by
        unfold QS.ride
        have : rdq s (k + 1) = rdq s k := by rw [rdq, hs]
        rw [this]
      rw [this]; exact hN
    | some ab =>
      obtain ⟨a, b⟩ := ab
      rw [hs] at hpl
      obtain ⟨b1', b2', b3'⟩ := hw.pb k hk a b hs
      have ra := hN.2.2.2.1 a b1'
      have rb := hN.2.2.2.1 b b2'
      rw [hpl.1, hpl.2]
      simp (disch := omega) only [nle, nlt, neq, nz, nzl, nzg, nzp, nzn, nneg, nneg9, nI_add, ncl, vin, br_T, br_F, br_p, br_n, true_and, and_true, Nat.zero_add, rdA, rdN]
      refine ih _ ?_
      obtain ⟨h0, h1, h2, h3, h4⟩ := hN
      refine ⟨(h0.w (by omega)).w (by omega), ?_, fun i hi => ?_, fun c hc => ?_, fun q hq => ?_⟩
      · simp (disch := omega) only [wI_sA, rdA, rdN, rdL, upd_e, upd_n]; exact h1
      · simp (disch := omega) only [wI_sA, rdA, rdN, rdL, upd_e, upd_n]; exact h2 i hi
      · have er : rdq s (k + 1) = bmp (bmp (rdq s k) a) b := by rw [rdq, hs]
        show _ = nI (rdq s (k + 1) c)
        rw [er]
        unfold bmp
        have ra : N.1 52 a = nI (rdq s k a) := ra
        have rb : N.1 52 b = nI (rdq s k b) := rb
        by_cases e1 : c = b
        · subst e1
          rw [if_pos rfl, if_neg (fun z => b3' z.symm)]
          simp (disch := omega) only [wI_sA, rdA, rdN, rdL, upd_e, upd_n, rb, nI_add]
        · rw [if_neg e1]
          by_cases e2 : c = a
          · subst e2
            rw [if_pos rfl]
            simp (disch := omega) only [wI_sA, rdA, rdN, rdL, upd_e, upd_n, ra, nI_add]
          · rw [if_neg e2]
            simp (disch := omega) only [wI_sA, rdA, rdN, rdL, upd_e, upd_n]; exact h3 c hc
      · have := h4 q hq
        show plC _ q (s.pl q)
        have this : plC N q (s.pl q) := this
        cases hs : s.pl q with
        | none => rw [hs] at this; unfold plC; simp (disch := omega) only [wI_sA, rdA, rdN, rdL, upd_e, upd_n]; exact this
        | some ab => rw [hs] at this; obtain ⟨a, b⟩ := ab; unfold plC; simp (disch := omega) only [wI_sA, rdA, rdN, rdL, upd_e, upd_n]; exact this
def q0 (nC : Nat) : QS := (nC, fun i => i, fun _ => 0, fun _ => none)
theorem oc_0 : ∀ n, oc (fun _ => none) n = 0
  | 0 => rfl
  | n + 1 => by rw [oc, oc_0 n]; rfl
theorem q0_W (hA : RelN A nP nC nS tl sn tn) : QW nP nC (wi A) (q0 nC) := by
  refine ⟨?_, fun i hi => ⟨hi, ?_⟩, fun p hp a b z => (by cases z), fun i j _ _ z => z, fun p q c _ _ ⟨a, b, z, _⟩ => (by cases z), fun p i _ _ ⟨a, b, z, _⟩ => (by cases z), fun c hc => Nat.zero_le _⟩
  · show nC + oc (fun _ => none) nP ≤ nC
    rw [oc_0]; omega
  · have := (wi_e hA.2.1 hi).2.2.1
    show 0 < wi A i
    omega
theorem c_X2_run {G : GG} {d : Nat} {M : PM} {Q : Option Value → PM → Prop} {m : Nat} (hm : m < 100) (hA : RelN A nP nC nS tl sn tn) (h0 : Eqv A M) (hQ : ∀ N, EC A N nP nC ((q0 nC).go (fitC A) (wi A) nP m) → Q none N) : PC G (d + 3) m_X2_run [.ref 51, .int (nI m)] M Q := by
  have hP := hA.1.2.2.1
  have hC := hA.1.2.2.2.2.2.1
  refine PC.of ok_X2_run (Nat.le_of_ble_eq_true rfl) (g_X2_run_0 ?_)
  -- the row
  have rowd : ∀ N, (Eqv A N ∧ N.1 51 5 = nI nC ∧ (∀ i, i < nC → N.1 53 i = nI i) ∧ ∀ c, c < nC → N.1 52 c = nI 0) → PX G (d + 2) m_X2_run Q 38 [some (.ref 51), some (.int (nI m)), some (.int (nI 0)), none] [] N := by
    rintro N ⟨n0, n1, n2, n3⟩
    refine up_ind (P := fun k => ∀ N, (Eqv A N ∧ N.1 51 5 = nI nC ∧ (∀ i, i < nC → N.1 53 i = nI i) ∧ (∀ c, c < nC → N.1 52 c = nI 0) ∧ ∀ p, p < k → N.1 54 p = -1 ∧ N.1 55 p = -1) → PX G (d + 2) m_X2_run Q 38 [some (.ref 51), some (.int (nI m)), some (.int (nI k)), none] [] N) ?_ ?_ 0 (Nat.zero_le nP) N ⟨n0, n1, n2, n3, fun p hp => absurd hp (by omega)⟩
    · rintro N ⟨n0, n1, n2, n3, n4⟩
      apply g_X2_run_38
      rw [(hA.eqv n0).1.1]
      simp (disch := omega) only [nle, nlt, neq, nz, nzl, nzg, nzp, nzn, nneg, nneg9, nI_add, ncl, vin, br_T, br_F, br_p, br_n, true_and, and_true, Nat.zero_add, rdA, rdN]
      have e0 : EC A N nP nC ((q0 nC).go (fitC A) (wi A) nP 0) := ⟨n0, n1, n2, n3, n4⟩
      refine up_ind (P := fun k => ∀ N, EC A N nP nC ((q0 nC).go (fitC A) (wi A) nP k) → PX G (d + 2) m_X2_run Q 71 [some (.ref 51), some (.int (nI m)), some (.int (nI k)), none] [] N) ?_ ?_ 0 (Nat.zero_le m) N e0
      · intro N hN
        apply g_X2_run_71
        simp (disch := omega) only [nle, nlt, neq, nz, nzl, nzg, nzp, nzn, nneg, nneg9, nI_add, ncl, vin, br_T, br_F, br_p, br_n, true_and, and_true, Nat.zero_add, rdA, rdN]
        exact hQ N hN
      · intro k hk ih N hN
        apply g_X2_run_71
        simp (disch := omega) only [nle, nlt, neq, nz, nzl, nzg, nzp, nzn, nneg, nneg9, nI_add, ncl, vin, br_T, br_F, br_p, br_n, true_and, and_true, Nat.zero_add, rdA, rdN]
        have hw := (q0_W hA).go (F := fitC A) k
        generalize hsm : (q0 nC).go (fitC A) (wi A) nP k = sm at hN hw
        have ego : (q0 nC).go (fitC A) (wi A) nP (k + 1) = (sm.pk (fitC A) (wi A) nP).ride nP := by rw [QS.go, hsm]
        rw [ego] at ih
        refine up_ind (P := fun p => ∀ N, EC A N nP nC (sm.pk (fitC A) (wi A) p) → PX G (d + 2) m_X2_run Q 78 [some (.ref 51), some (.int (nI m)), some (.int (nI k)), some (.int (nI p))] [] N) ?_ ?_ 0 (Nat.zero_le nP) N hN
        · intro N hN
          apply g_X2_run_78
          rw [(hN.rel hA).1.1]
          simp (disch := omega) only [nle, nlt, neq, nz, nzl, nzg, nzp, nzn, nneg, nneg9, nI_add, ncl, vin, br_T, br_F, br_p, br_n, true_and, and_true, Nat.zero_add, rdA, rdN]
          refine c_X2_rideOn hA hN (hw.pk nP (Nat.le_refl _)).1 (fun N2 hN2 => ?_)
          simp only [gN]
          exact ih N2 hN2
        · intro p hp ih2 N hN
          apply g_X2_run_78
          rw [(hN.rel hA).1.1]
          simp (disch := omega) only [nle, nlt, neq, nz, nzl, nzg, nzp, nzn, nneg, nneg9, nI_add, ncl, vin, br_T, br_F, br_p, br_n, true_and, and_true, Nat.zero_add, rdA, rdN]
          have hw2 := (hw.pk (F := fitC A) p (by omega)).1
          obtain ⟨o1, o2, -⟩ := hw2.off hp
          refine c_X2_letOff hA hN hw2 hp (fun N2 hN2 => ?_)
          simp only [gN]
          refine c_X2_letOn hA hN2 o1 hp (fun N3 hN3 => ?_)
          simp only [gN]
          exact ih2 N3 hN3
    · rintro k hk ih N ⟨n0, n1, n2, n3, n4⟩
      apply g_X2_run_38
      rw [(hA.eqv n0).1.1]
      simp (disch := omega) only [nle, nlt, neq, nz, nzl, nzg, nzp, nzn, nneg, nneg9, nI_add, ncl, vin, br_T, br_F, br_p, br_n, true_and, and_true, Nat.zero_add, rdA, rdN]
      refine ih _ ⟨(n0.w (by omega)).w (by omega), ?_, fun i hi => ?_, fun c hc => ?_, fun p hp => ?_⟩
      · simp (disch := omega) only [wI_sA, rdA, rdN, rdL, upd_e, upd_n]; exact n1
      · simp (disch := omega) only [wI_sA, rdA, rdN, rdL, upd_e, upd_n]; exact n2 i hi
      · simp (disch := omega) only [wI_sA, rdA, rdN, rdL, upd_e, upd_n]; exact n3 c hc
      · by_cases e : p = k
        · subst e; simp (disch := omega) only [wI_sA, rdA, rdN, rdL, upd_e, upd_n]; exact ⟨trivial, trivial⟩
        · simp (disch := omega) only [wI_sA, rdA, rdN, rdL, upd_e, upd_n]; exact n4 p (by omega)
  refine up_ind (P := fun k => ∀ N, (Eqv A N ∧ N.1 51 5 = nI k ∧ (∀ i, i < k → N.1 53 i = nI i) ∧ ∀ c, c < k → N.1 52 c = nI 0) → PX G (d + 2) m_X2_run Q 7 [some (.ref 51), some (.int (nI m)), some (.int (nI k)), none] [] N) ?_ ?_ 0 (Nat.zero_le nC) (wI M 51 5 (nI 0)) ⟨h0.w (by omega), by simp (disch := omega) only [wI_sA, rdA, rdN, rdL, upd_e, upd_n], fun i hi => absurd hi (by omega), fun i hi => absurd hi (by omega)⟩
  · rintro N hN
    apply g_X2_run_7
    rw [(hA.eqv hN.1).1.2.2.2.1]
    simp (disch := omega) only [nle, nlt, neq, nz, nzl, nzg, nzp, nzn, nneg, nneg9, nI_add, ncl, vin, br_T, br_F, br_p, br_n, true_and, and_true, Nat.zero_add, rdA, rdN]
    exact rowd N hN
  · rintro k hk ih N ⟨n0, n1, n2, n3⟩
    apply g_X2_run_7
    rw [(hA.eqv n0).1.2.2.2.1]
    simp (disch := omega) only [nle, nlt, neq, nz, nzl, nzg, nzp, nzn, nneg, nneg9, nI_add, ncl, vin, br_T, br_F, br_p, br_n, true_and, and_true, Nat.zero_add, rdA, rdN]
    refine PC.of ok_X2_joinRow (Nat.le_of_ble_eq_true rfl) (g_X2_joinRow_0 ?_)
    simp (disch := omega) only [wI_sA, rdA, rdN, rdL, upd_e, upd_n, n1]
    simp (disch := omega) only [nle, nlt, neq, nz, nzl, nzg, nzp, nzn, nneg, nneg9, nI_add, ncl, vin, br_T, br_F, br_p, br_n, true_and, and_true, Nat.zero_add, rdA, rdN]
    simp only [gN]
    refine ih _ ⟨((n0.a (by omega)).a (by omega)).a (by omega), ?_, fun i hi => ?_, fun c hc => ?_⟩
    · simp (disch := omega) only [wI_sA, rdA, rdN, rdL, upd_e, upd_n]
    · by_cases e : i = k
      · subst e; simp (disch := omega) only [wI_sA, rdA, rdN, rdL, upd_e, upd_n]
      · simp (disch := omega) only [wI_sA, rdA, rdN, rdL, upd_e, upd_n]; exact n2 i (by omega)
    · by_cases e : c = k
      · subst e; simp (disch := omega) only [wI_sA, rdA, rdN, rdL, upd_e, upd_n]
      · simp (disch := omega) only [wI_sA, rdA, rdN, rdL, upd_e, upd_n]; exact n3 c (by omega)
end
