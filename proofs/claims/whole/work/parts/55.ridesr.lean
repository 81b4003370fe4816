/-! rides: the reference -/
def pqR (M : PM) (p : Nat) : Option (Nat × Nat) → Prop
  | none => M.1 72 p = -9
  | some (a, b) => M.1 72 p = nI a ∧ M.1 73 p = nI b
def ER (A M : PM) (nP nC : Nat) (s : QS) : Prop := Eqv A M ∧ M.1 56 32 = nI s.n ∧ (∀ i, i < s.n → M.1 71 i = nI (s.ro i)) ∧ (∀ c, c < nC → M.1 70 c = nI (s.rd c)) ∧ ∀ p, p < nP → pqR M p (s.pl p)
def UR (A : PM) (u : Nat → Int32) (nP : Nat) (s : QS) (m : Nat) : Prop := ∀ p, p < nP → ∀ a b, s.pl p = some (a, b) → u p = nI (m + min (wi A a - s.rd a) (wi A b - s.rd b))
section
variable {A : PM} {nP nC nS tl sn tn : Nat} {s : QS}
theorem ER.rel {M : PM} (h : ER A M nP nC s) (hA : RelN A nP nC nS tl sn tn) : RelN M nP nC nS tl sn tn := hA.eqv h.1
theorem ER.wie {M : PM} (h : ER A M nP nC s) : wi M = wi A := by
  funext c; unfold wi; rw [h.1.1 5 c (by unfold scr; simp)]
theorem ER.fit {M : PM} (h : ER A M nP nC s) (hA : RelN A nP nC nS tl sn tn) {p a b : Nat} (hp : p < nP) (ha : a < nC) (hb : b < nC) : fitR M p a b = fitC A p a b := by
  have e : fitR M p a b = fitR A p a b := by unfold fitR; rw [h.1.1 59 p (by unfold scr; simp), h.1.1 60 a (by unfold scr; simp), h.1.1 60 b (by unfold scr; simp)]
  rw [e]; exact propext (fit_eq hA.2.1 hp ha hb).symm
theorem c_X9_lesser {G : GG} {d : Nat} {M : PM} {Q : Option Value → PM → Prop} {a b : Nat} (ha : a < 1000) (hb : b < 1000) (hQ : Q (some (.int (nI (min a b)))) M) : PC G (d + 1) m_X9_lesser [.int (nI a), .int (nI b)] M Q := by
  refine PC.of ok_X9_lesser (Nat.le_of_ble_eq_true rfl) (g_X9_lesser_0 ?_)
  simp (disch := omega) only [nle, nlt, neq, nz, nzl, nzg, nzp, nzn, nneg, nneg9, nI_add, ncl, vin, br_T, br_F, br_p, br_n, true_and, and_true, Nat.zero_add, rdA, rdN]
  refine b2 (fun q => ?_) (fun q => ?_)
  · rw [show min a b = b by omega] at hQ; exact hQ
  · rw [show min a b = a by omega] at hQ; exact hQ
theorem c_X9_waits {G : GG} {d : Nat} {M : PM} {Q : Option Value → PM → Prop} {c : Nat} (hA : RelN A nP nC nS tl sn tn) (h : ER A M nP nC s) (hc : c < nC) (hr : s.rd c ≤ wi A c) (hn : s.n < 8) (hQ : ∀ N, N.1 74 = M.1 74 → ER A N nP nC (if s.rd c < wi A c then s.push c else s) → Q none N) : PC G (d + 1) m_X9_waits [.ref 56, .int (nI c)] M Q := by
  have hM := h.rel hA
  have hC := hM.1.2.2.2.2.2.1
  obtain ⟨-, w1, -, w3⟩ := wi_e hM.2.1 hc
  rw [h.wie] at w1 w3
  have h' := h
  obtain ⟨h0, h1, h2, h3, h4⟩ := h
  refine PC.of ok_X9_waits (Nat.le_of_ble_eq_true rfl) (g_X9_waits_0 ?_)
  simp (disch := omega) only [nle, nlt, neq, nz, nzl, nzg, nzp, nzn, nneg, nneg9, nI_add, ncl, vin, br_T, br_F, br_p, br_n, true_and, and_true, Nat.zero_add, rdA, rdN, h1]
  rw [w1, h3 c hc]
  simp (disch := omega) only [nle, nlt, neq, nz, nzl, nzg, nzp, nzn, nneg, nneg9, nI_add, ncl, vin, br_T, br_F, br_p, br_n, true_and, and_true, Nat.zero_add, rdA, rdN]
  refine b2 (fun q => ?_) (fun q => ?_)
  · rw [if_neg (by omega)] at hQ
    exact hQ _ rfl h'
  · rw [if_pos (by omega)] at hQ
    refine hQ _ (by simp (disch := omega) only [wI_sA, rdA, rdN, rdL, upd_e, upd_n]) ⟨(h0.w (by omega)).m (by omega), ?_, fun i hi => ?_, fun c hc => ?_, fun p hp => ?_⟩
    · simp (disch := omega) only [wI_sA, rdA, rdN, rdL, upd_e, upd_n]; rfl
    · show _ = nI (if i = s.n then c else s.ro i)
      by_cases e : i = s.n
      · subst e; rw [if_pos rfl]; simp (disch := omega) only [wI_sA, rdA, rdN, rdL, upd_e, upd_n]
      · rw [if_neg e]
        have hi : i < s.n + 1 := hi
        simp (disch := omega) only [wI_sA, rdA, rdN, rdL, upd_e, upd_n]; exact h2 i (by omega)
    · simp (disch := omega) only [wI_sA, rdA, rdN, rdL, upd_e, upd_n]; exact h3 c hc
    · have := h4 p hp
      show pqR _ p (s.pl p)
      cases hs : s.pl p with
      | none => rw [hs] at this; unfold pqR; simp (disch := omega) only [wI_sA, rdA, rdN, rdL, upd_e, upd_n]; exact this
      | some ab => rw [hs] at this; obtain ⟨a, b⟩ := ab; unfold pqR; simp (disch := omega) only [wI_sA, rdA, rdN, rdL, upd_e, upd_n]; exact this
theorem c_X9_outOfRow {G : GG} {d : Nat} {M : PM} {Q : Option Value → PM → Prop} {a : Nat} (h : ER A M nP nC s) (hn : s.n ≤ 8) (ha : a < s.n) (hQ : ∀ N, N.1 74 = M.1 74 → ER A N nP nC (s.drop a) → Q none N) : PC G (d + 1) m_X9_outOfRow [.ref 56, .int (nI a)] M Q := by
  refine PC.of ok_X9_outOfRow (Nat.le_of_ble_eq_true rfl) (g_X9_outOfRow_0 ?_)
  obtain ⟨h0, h1, h2, h3, h4⟩ := h
  rw [h1, nsub (by omega)]
  have key := up_ind (P := fun j => PX G d m_X9_outOfRow Q 12 [some (.ref 56), none, some (.int (nI (a + j)))] [] (sA (wI M 56 32 (nI (s.n - 1))) 71 (fo (fun t => M.1 71 (a + t + 1)) (M.1 71) a j))) (n := s.n - 1 - a) ?_ ?_ 0 (Nat.zero_le _)
  · rw [fo_0] at key
    have : sA (wI M 56 32 (nI (s.n - 1))) 71 (M.1 71) = wI M 56 32 (nI (s.n - 1)) := by
      have e : M.1 71 = (wI M 56 32 (nI (s.n - 1))).1 71 := by simp (disch := omega) only [wI_sA, rdA, rdN, rdL, upd_e, upd_n]
      rw [e, sA_self]
    rw [this] at key
    exact key
  · apply g_X9_outOfRow_12
    simp (disch := omega) only [wI_sA, rdA, rdN, rdL, upd_e, upd_n]
    simp (disch := omega) only [nle, nlt, neq, nz, nzl, nzg, nzp, nzn, nneg, nneg9, nI_add, ncl, vin, br_T, br_F, br_p, br_n, true_and, and_true, Nat.zero_add, rdA, rdN]
    refine hQ _ (by simp (disch := omega) only [wI_sA, rdA, rdN, rdL, upd_e, upd_n]) ⟨(h0.m (by omega)).a (by omega), ?_, fun i hi => ?_, fun c hc => ?_, fun p hp => ?_⟩
    · simp (disch := omega) only [wI_sA, rdA, rdN, rdL, upd_e, upd_n]; rfl
    · show _ = nI (if i < a then s.ro i else s.ro (i + 1))
      have hi : i < s.n - 1 := hi
      simp (disch := omega) only [wI_sA, rdA, rdN, rdL, upd_e, upd_n]
      by_cases e : i < a
      · rw [if_pos e, fo_out (by omega)]; exact h2 i (by omega)
      · rw [if_neg e]
        obtain ⟨t, rfl⟩ : ∃ t, i = a + t := ⟨i - a, by omega⟩
        rw [fo_in (by omega)]
        exact h2 (a + t + 1) (by omega)
    · simp (disch := omega) only [wI_sA, rdA, rdN, rdL, upd_e, upd_n]; exact h3 c hc
    · have := h4 p hp
      show pqR _ p (s.pl p)
      cases hs : s.pl p with
      | none => rw [hs] at this; unfold pqR; simp (disch := omega) only [wI_sA, rdA, rdN, rdL, upd_e, upd_n]; exact this
      | some ab => rw [hs] at this; obtain ⟨a, b⟩ := ab; unfold pqR; simp (disch := omega) only [wI_sA, rdA, rdN, rdL, upd_e, upd_n]; exact this
  · intro j hj ih
    apply g_X9_outOfRow_12
    simp (disch := omega) only [wI_sA, rdA, rdN, rdL, upd_e, upd_n]
    simp (disch := omega) only [nle, nlt, neq, nz, nzl, nzg, nzp, nzn, nneg, nneg9, nI_add, ncl, vin, br_T, br_F, br_p, br_n, true_and, and_true, Nat.zero_add, rdA, rdN]
    have e : fo (fun t => M.1 71 (a + t + 1)) (M.1 71) a j (a + j + 1) = M.1 71 (a + j + 1) := fo_out (by omega)
    rw [e, sA_sA, fo_up rfl]
    exact ih
theorem ER.set0 {M : PM} (h : ER A M nP nC s) (p : Nat) : ER A (wI M 72 p (-9)) nP nC (s.set p none) := by
  obtain ⟨h0, h1, h2, h3, h4⟩ := h
  refine ⟨h0.w (by omega), ?_, fun i hi => ?_, fun c hc => ?_, fun q hq => ?_⟩
  · simp (disch := omega) only [wI_sA, rdA, rdN, rdL, upd_e, upd_n]; exact h1
  · simp (disch := omega) only [wI_sA, rdA, rdN, rdL, upd_e, upd_n]; exact h2 i hi
  · simp (disch := omega) only [wI_sA, rdA, rdN, rdL, upd_e, upd_n]; exact h3 c hc
  · show pqR _ q (if q = p then none else s.pl q)
    by_cases e : q = p
    · subst e; rw [if_pos rfl]; unfold pqR; simp (disch := omega) only [wI_sA, rdA, rdN, rdL, upd_e, upd_n]
    · rw [if_neg e]
      have := h4 q hq
      cases hs : s.pl q with
      | none => rw [hs] at this; unfold pqR; simp (disch := omega) only [wI_sA, rdA, rdN, rdL, upd_e, upd_n]; exact this
      | some ab => rw [hs] at this; obtain ⟨a, b⟩ := ab; unfold pqR; simp (disch := omega) only [wI_sA, rdA, rdN, rdL, upd_e, upd_n]; exact this
theorem ER.set1 {M : PM} (h : ER A M nP nC s) (p a b : Nat) : ER A (wI (wI M 72 p (nI a)) 73 p (nI b)) nP nC (s.set p (some (a, b))) := by
  obtain ⟨h0, h1, h2, h3, h4⟩ := h
  refine ⟨(h0.w (by omega)).w (by omega), ?_, fun i hi => ?_, fun c hc => ?_, fun q hq => ?_⟩
  · simp (disch := omega) only [wI_sA, rdA, rdN, rdL, upd_e, upd_n]; exact h1
  · simp (disch := omega) only [wI_sA, rdA, rdN, rdL, upd_e, upd_n]; exact h2 i hi
  · simp (disch := omega) only [wI_sA, rdA, rdN, rdL, upd_e, upd_n]; exact h3 c hc
  · show pqR _ q (if q = p then some (a, b) else s.pl q)
    by_cases e : q = p
    · subst e; rw [if_pos rfl]; unfold pqR; simp (disch := omega) only [wI_sA, rdA, rdN, rdL, upd_e, upd_n]; exact ⟨trivial, trivial⟩
    · rw [if_neg e]
      have := h4 q hq
      cases hs : s.pl q with
      | none => rw [hs] at this; unfold pqR; simp (disch := omega) only [wI_sA, rdA, rdN, rdL, upd_e, upd_n]; exact this
      | some ab => rw [hs] at this; obtain ⟨a, b⟩ := ab; unfold pqR; simp (disch := omega) only [wI_sA, rdA, rdN, rdL, upd_e, upd_n]; exact this
theorem c_X9_letsOff {G : GG} {d : Nat} {M : PM} {Q : Option Value → PM → Prop} {p a b : Nat} (hA : RelN A nP nC nS tl sn tn) (h : ER A M nP nC s) (hw : QW nP nC (wi A) s) (hp : p < nP) (hs : s.pl p = some (a, b)) (hno : ¬ (s.rd a < wi A a ∧ s.rd b < wi A b)) (hQ : ∀ N, N.1 74 = M.1 74 → ER A N nP nC (s.off (wi A) p) → Q none N) : PC G (d + 2) m_X9_letsOff [.ref 56, .int (nI p)] M Q := by
  have hP := (h.rel hA).1.2.2.1
  have hC := (h.rel hA).1.2.2.2.2.2.1
  have hpl := h.2.2.2.2 p hp
  rw [hs] at hpl
  obtain ⟨b1', b2', b3'⟩ := hw.pb p hp a b hs
  obtain ⟨k1, k2, k3⟩ := hw.set0 hp hs
  have la := hw.le a b1'
  have lb := hw.le b b2'
  have k2 : s.n + oc (s.set p none).pl nP + 2 ≤ nC := k2
  rw [QS.off_some hs, if_neg hno] at hQ
  refine PC.of ok_X9_letsOff (Nat.le_of_ble_eq_true rfl) (g_X9_letsOff_0 ?_)
  simp (disch := omega) only [nle, nlt, neq, nz, nzl, nzg, nzp, nzn, nneg, nneg9, nI_add, ncl, vin, br_T, br_F, br_p, br_n, true_and, and_true, Nat.zero_add, rdA, rdN]
  rw [hpl.1, hpl.2]
  refine c_X9_lesser (by omega) (by omega) ?_
  simp only [gI]
  rw [hpl.1, hpl.2, nI_add, nsub (by omega)]
  have hs0 := h.set0 p
  have e74 : (wI M 72 p (-9)).1 74 = M.1 74 := by simp (disch := omega) only [wI_sA, rdA, rdN, rdL, upd_e, upd_n]
  have na : (s.set p none).n = s.n := rfl
  have nr : (s.set p none).rd = s.rd := rfl
  have main : ∀ x y, x < nC → y < nC → s.rd x ≤ wi A x → s.rd y ≤ wi A y → ¬ (s.rd x < wi A x ∧ s.rd y < wi A y) → (∀ N, N.1 74 = M.1 74 → ER A N nP nC (if s.rd x < wi A x then (s.set p none).push x else if s.rd y < wi A y then (s.set p none).push y else s.set p none) → Q none N) → PC G (d + 1) m_X9_waits [.ref 56, .int (nI x)] (wI M 72 p (-9)) (fun v N2 => gN v (PC G (d + 1) m_X9_waits [.ref 56, .int (nI y)] N2 (fun v N3 => gN v (Q none N3)))) := by
    intro x y hx hy lx ly hn hq
    refine c_X9_waits hA hs0 hx (by rw [nr]; exact lx) (by rw [na]; omega) (fun N1 g1 hN1 => ?_)
    simp only [gN]
    rw [nr] at hN1
    by_cases qx : s.rd x < wi A x
    · rw [if_pos qx] at hN1 hq
      have qy : ¬ s.rd y < wi A y := fun z => hn ⟨qx, z⟩
      refine c_X9_waits hA hN1 hy ly (show s.n + 1 < 8 by omega) (fun N2 g2 hN2 => ?_)
      simp only [gN]
      have hN2 : ER A N2 nP nC (if s.rd y < wi A y then ((s.set p none).push x).push y else (s.set p none).push x) := hN2
      rw [if_neg qy] at hN2
      exact hq N2 (g2.trans (g1.trans e74)) hN2
    · rw [if_neg qx] at hN1 hq
      refine c_X9_waits hA hN1 hy (by rw [nr]; exact ly) (by rw [na]; omega) (fun N2 g2 hN2 => ?_)
      simp only [gN]
      rw [nr] at hN2
      exact hq N2 (g2.trans (g1.trans e74)) hN2
  by_cases hab : a ≤ b
  · rw [show min a b = a by omega, show a + b - a = b by omega]
    exact main a b b1' b2' la lb hno hQ
  · rw [show min a b = b by omega, show a + b - b = a by omega]
    refine main b a b2' b1' lb la (fun z => hno ⟨z.2, z.1⟩) (fun N g hN => hQ N g ?_)
    by_cases qa : s.rd a < wi A a
    · rw [if_pos qa] at hN ⊢
      rw [if_neg (fun z => hno ⟨qa, z⟩)] at hN
      exact hN
    · rw [if_neg qa] at hN ⊢
      exact hN
theorem c_X9_takesOn {G : GG} {d : Nat} {M : PM} {Q : Option Value → PM → Prop} {p m : Nat} (hm : m < 100) (hA : RelN A nP nC nS tl sn tn) (h : ER A M nP nC s) (hw : QW nP nC (wi A) s) (hp : p < nP) (hs : s.pl p = none) (hu : UR A (M.1 74) nP s m) (hQ : ∀ N, UR A (N.1 74) nP (s.on (fitC A) p) m → ER A N nP nC (s.on (fitC A) p) → Q none N) : PC G (d + 3) m_X9_takesOn [.ref 56, .int (nI p), .int (nI m)] M Q := by
  have hP := (h.rel hA).1.2.2.1
  have hC := (h.rel hA).1.2.2.2.2.2.1
  have cn := hw.cnt
  have h1 := h.2.1
  refine PC.of ok_X9_takesOn (Nat.le_of_ble_eq_true rfl) (g_X9_takesOn_0 ?_)
  refine up_ind (P := fun i => (∀ i' j', i' < i → i' < j' → j' < s.n → ¬ fitC A p (s.ro i') (s.ro j')) → PX G (d + 2) m_X9_takesOn Q 2 [some (.ref 56), some (.int (nI p)), some (.int (nI m)), some (.int (nI i)), none] [] M) ?_ ?_ 0 (Nat.zero_le s.n) (fun i' j' hi => absurd hi (by omega))
  · intro hno
    apply g_X9_takesOn_2
    simp (disch := omega) only [nle, nlt, neq, nz, nzl, nzg, nzp, nzn, nneg, nneg9, nI_add, ncl, vin, br_T, br_F, br_p, br_n, true_and, and_true, Nat.zero_add, rdA, rdN, h1]
    rw [QS.on_n (fun ⟨i, j, z⟩ => hno i j (by have := z.1; have := z.2.1; omega) z.1 z.2.1 z.2.2.1)] at hQ
    exact hQ _ hu h
  · intro i hi ih hno
    apply g_X9_takesOn_2
    simp (disch := omega) only [nle, nlt, neq, nz, nzl, nzg, nzp, nzn, nneg, nneg9, nI_add, ncl, vin, br_T, br_F, br_p, br_n, true_and, and_true, Nat.zero_add, rdA, rdN, h1]
    refine up_ind (P := fun j => i < j → (∀ j', i < j' → j' < j → ¬ fitC A p (s.ro i) (s.ro j')) → PX G (d + 2) m_X9_takesOn Q 15 [some (.ref 56), some (.int (nI p)), some (.int (nI m)), some (.int (nI i)), some (.int (nI j))] [] M) ?_ ?_ (i + 1) (show i + 1 ≤ s.n by omega) (by omega) (fun j' h1 h2 => absurd h1 (by omega))
    · intro _ hj
      apply g_X9_takesOn_15
      simp (disch := omega) only [nle, nlt, neq, nz, nzl, nzg, nzp, nzn, nneg, nneg9, nI_add, ncl, vin, br_T, br_F, br_p, br_n, true_and, and_true, Nat.zero_add, rdA, rdN, h1]
      refine ih (fun i' j' q1 q2 q3 => ?_)
      by_cases e : i' = i
      · subst e; exact hj j' q2 q3
      · exact hno i' j' (by omega) q2 q3
    · intro j hj ih2 hij hn2
      apply g_X9_takesOn_15
      simp (disch := omega) only [nle, nlt, neq, nz, nzl, nzg, nzp, nzn, nneg, nneg9, nI_add, ncl, vin, br_T, br_F, br_p, br_n, true_and, and_true, Nat.zero_add, rdA, rdN, h1]
      have bi := hw.rb i hi
      have bj := hw.rb j hj
      rw [h.2.2.1 i hi, h.2.2.1 j hj]
      refine c_X9_areAPair (by omega) (by omega) (by omega) ?_
      simp only [gI, bI_z]
      rw [h.fit hA hp bi.1 bj.1]
      refine b2 (fun q => ih2 (by omega) (fun j' q1 q2 => ?_)) (fun q => ?_)
      · by_cases e : j' = j
        · subst e; exact q
        · exact hn2 j' q1 (by omega)
      · have hfp : s.FP (fitC A) p i j := ⟨hij, hj, Classical.not_not.mp q, fun i' j' q1 q2 q3 => by
          by_cases e : i' < i
          · exact hno i' j' e q1 q2
          · have : i' = i := by omega
            subst this
            exact hn2 j' q1 (by omega)⟩
        rw [QS.on_y hs hfp] at hQ
        rw [h.2.2.1 i hi, h.2.2.1 j hj]
        have h5 := h.set1 p (s.ro i) (s.ro j)
        have e74 : (wI (wI M 72 p (nI (s.ro i))) 73 p (nI (s.ro j))).1 74 = M.1 74 := by simp (disch := omega) only [wI_sA, rdA, rdN, rdL, upd_e, upd_n]
        have e72 : (wI (wI M 72 p (nI (s.ro i))) 73 p (nI (s.ro j))).1 72 p = nI (s.ro i) := by simp (disch := omega) only [wI_sA, rdA, rdN, rdL, upd_e, upd_n]
        have e73 : (wI (wI M 72 p (nI (s.ro i))) 73 p (nI (s.ro j))).1 73 p = nI (s.ro j) := by simp (disch := omega) only [wI_sA, rdA, rdN, rdL, upd_e, upd_n]
        generalize wI (wI M 72 p (nI (s.ro i))) 73 p (nI (s.ro j)) = M2 at *
        have wa := wi_e (h5.rel hA).2.1 bi.1
        have wb := wi_e (h5.rel hA).2.1 bj.1
        rw [h5.wie] at wa wb
        have ra : M2.1 70 (s.ro i) = nI (s.rd (s.ro i)) := h5.2.2.2.1 _ bi.1
        have rb : M2.1 70 (s.ro j) = nI (s.rd (s.ro j)) := h5.2.2.2.1 _ bj.1
        apply g_X9_takesOn_70
        simp (disch := omega) only [nle, nlt, neq, nz, nzl, nzg, nzp, nzn, nneg, nneg9, nI_add, ncl, vin, br_T, br_F, br_p, br_n, true_and, and_true, Nat.zero_add, rdA, rdN, e72, e73]
        rw [wa.2.1, wb.2.1, ra, rb, nsub (by omega), nsub (by omega)]
        refine c_X9_lesser (by omega) (by omega) ?_
        simp only [gI]
        have h6 : ER A (wI M2 74 p (nI m + nI (min (wi A (s.ro i) - s.rd (s.ro i)) (wi A (s.ro j) - s.rd (s.ro j))))) nP nC (s.set p (some (s.ro i, s.ro j))) := by
          obtain ⟨g0, g1, g2, g3, g4⟩ := h5
          refine ⟨g0.w (by omega), ?_, fun i hi => ?_, fun c hc => ?_, fun q hq => ?_⟩
          · simp (disch := omega) only [wI_sA, rdA, rdN, rdL, upd_e, upd_n]; exact g1
          · simp (disch := omega) only [wI_sA, rdA, rdN, rdL, upd_e, upd_n]; exact g2 i hi
          · simp (disch := omega) only [wI_sA, rdA, rdN, rdL, upd_e, upd_n]; exact g3 c hc
          · have := g4 q hq
            revert this
            cases (s.set p (some (s.ro i, s.ro j))).pl q with
            | none => intro this; unfold pqR; simp (disch := omega) only [wI_sA, rdA, rdN, rdL, upd_e, upd_n]; exact this
            | some ab => intro this; obtain ⟨a, b⟩ := ab; unfold pqR; simp (disch := omega) only [wI_sA, rdA, rdN, rdL, upd_e, upd_n]; exact this
        refine c_X9_outOfRow h6 (show s.n ≤ 8 by omega) hj (fun N g hN => ?_)
        simp only [gN]
        refine c_X9_outOfRow hN (show s.n - 1 ≤ 8 by omega) (show i < s.n - 1 by omega) (fun N2 g2 hN2 => ?_)
        simp only [gN]
        refine hQ N2 ?_ hN2
        rw [g2, g]
        intro q hq x y hxy
        have hxy : (if q = p then some (s.ro i, s.ro j) else s.pl q) = some (x, y) := hxy
        show _ = nI (m + min (wi A x - s.rd x) (wi A y - s.rd y))
        by_cases e : q = p
        · subst e
          rw [if_pos rfl] at hxy
          cases hxy
          simp (disch := omega) only [wI_sA, rdA, rdN, rdL, upd_e, upd_n, nI_add]
        · rw [if_neg e] at hxy
          have := hu q hq x y hxy
          simp (disch := omega) only [wI_sA, rdA, rdN, rdL, upd_e, upd_n]
          rw [e74]
          exact this
theorem UR.ride {m : Nat} {u : Nat → Int32} (hw : QW nP nC (wi A) s) (hf : ∀ p, p < nP → s.FR (wi A) p) (hu : UR A u nP s m) : UR A u nP (s.ride nP) (m + 1) := by
  intro p hp a b hab
  have hab : s.pl p = some (a, b) := hab
  rw [hu p hp a b hab]
  have fr := hf p hp a b hab
  show _ = nI (m + 1 + min (wi A a - rdq s nP a) (wi A b - rdq s nP b))
  rw [(rdq_eq hw nP (Nat.le_refl _) a).1 ⟨p, hp, a, b, hab, Or.inl rfl⟩, (rdq_eq hw nP (Nat.le_refl _) b).1 ⟨p, hp, a, b, hab, Or.inr rfl⟩]
  congr 1
  omega
theorem c_X9_goesBy {G : GG} {d : Nat} {M : PM} {Q : Option Value → PM → Prop} {m : Nat} (hm : m < 100) (hA : RelN A nP nC nS tl sn tn) (h0 : Eqv A M) (hQ : ∀ N, ER A N nP nC ((q0 nC).go (fitC A) (wi A) nP m) → Q none N) : PC G (d + 4) m_X9_goesBy [.ref 56, .int (nI m)] M Q := by
  have hP := hA.1.2.2.1
  have hC := hA.1.2.2.2.2.2.1
  refine PC.of ok_X9_goesBy (Nat.le_of_ble_eq_true rfl) (g_X9_goesBy_0 ?_)
  have mins : ∀ N, ER A N nP nC (q0 nC) → PX G (d + 3) m_X9_goesBy Q 68 [some (.ref 56), some (.int (nI m)), some (.int (nI 0)), none] [] N := by
    intro N hN
    refine up_ind (P := fun k => ∀ N, UR A (N.1 74) nP ((q0 nC).go (fitC A) (wi A) nP k) k → ER A N nP nC ((q0 nC).go (fitC A) (wi A) nP k) → PX G (d + 3) m_X9_goesBy Q 68 [some (.ref 56), some (.int (nI m)), some (.int (nI k)), none] [] N) ?_ ?_ 0 (Nat.zero_le m) N (fun p hp a b z => by cases z) hN
    · intro N _ hN
      apply g_X9_goesBy_68
      simp (disch := omega) only [nle, nlt, neq, nz, nzl, nzg, nzp, nzn, nneg, nneg9, nI_add, ncl, vin, br_T, br_F, br_p, br_n, true_and, and_true, Nat.zero_add, rdA, rdN]
      exact hQ N hN
    · intro k hk ih N hu hN
      apply g_X9_goesBy_68
      simp (disch := omega) only [nle, nlt, neq, nz, nzl, nzg, nzp, nzn, nneg, nneg9, nI_add, ncl, vin, br_T, br_F, br_p, br_n, true_and, and_true, Nat.zero_add, rdA, rdN]
      have hw := (q0_W hA).go (F := fitC A) k
      generalize hsm : (q0 nC).go (fitC A) (wi A) nP k = sm at hN hw hu
      have ego : (q0 nC).go (fitC A) (wi A) nP (k + 1) = (sm.pk (fitC A) (wi A) nP).ride nP := by rw [QS.go, hsm]
      rw [ego] at ih
      refine up_ind (P := fun p => ∀ N, UR A (N.1 74) nP (sm.pk (fitC A) (wi A) p) k → ER A N nP nC (sm.pk (fitC A) (wi A) p) → PX G (d + 3) m_X9_goesBy Q 75 [some (.ref 56), some (.int (nI m)), some (.int (nI k)), some (.int (nI p))] [] N) ?_ ?_ 0 (Nat.zero_le nP) N hu hN
      · intro N hu hN
        apply g_X9_goesBy_75
        rw [(hN.rel hA).1.2.1]
        simp (disch := omega) only [nle, nlt, neq, nz, nzl, nzg, nzp, nzn, nneg, nneg9, nI_add, ncl, vin, br_T, br_F, br_p, br_n, true_and, and_true, Nat.zero_add, rdA, rdN]
        obtain ⟨hw2, hf2⟩ := hw.pk (F := fitC A) nP (Nat.le_refl _)
        have hu2 := hu.ride hw2 hf2
        generalize sm.pk (fitC A) (wi A) nP = s at *
        refine up_ind (P := fun p => ∀ N, UR A (N.1 74) nP (s.ride nP) (k + 1) → ER A N nP nC (s.ride p) → PX G (d + 3) m_X9_goesBy Q 134 [some (.ref 56), some (.int (nI m)), some (.int (nI k)), some (.int (nI p))] [] N) ?_ ?_ 0 (Nat.zero_le nP) N hu2 hN
        · intro N hu hN
          apply g_X9_goesBy_134
          rw [(hN.rel hA).1.2.1]
          simp (disch := omega) only [nle, nlt, neq, nz, nzl, nzg, nzp, nzn, nneg, nneg9, nI_add, ncl, vin, br_T, br_F, br_p, br_n, true_and, and_true, Nat.zero_add, rdA, rdN]
          exact ih N hu hN
        · intro p hp ih2 N hu hN
          apply g_X9_goesBy_134
          rw [(hN.rel hA).1.2.1]
          simp (disch := omega) only [nle, nlt, neq, nz, nzl, nzg, nzp, nzn, nneg, nneg9, nI_add, ncl, vin, br_T, br_F, br_p, br_n, true_and, and_true, Nat.zero_add, rdA, rdN]
          have hpl := hN.2.2.2.2 p hp
          have hpl : pqR N p (s.pl p) := hpl
          cases hs : s.pl p with
          | none =>
            rw [hs] at hpl
            refine b1 hpl (ih2 N hu ?_)
            have : s.ride (p + 1) = s.ride p := by
              unfold QS.ride
              have : rdq s (p + 1) = rdq s p := by rw [rdq, hs]
              rw [this]
            rw [this]; exact hN
          | some ab =>
            obtain ⟨a, b⟩ := ab
            rw [hs] at hpl
            obtain ⟨b1', b2', b3'⟩ := hw2.pb p hp a b hs
            have ra := hN.2.2.2.1 a b1'
            have rb := hN.2.2.2.1 b b2'
            rw [hpl.1, hpl.2]
            simp (disch := omega) only [nle, nlt, neq, nz, nzl, nzg, nzp, nzn, nneg, nneg9, nI_add, ncl, vin, br_T, br_F, br_p, br_n, true_and, and_true, Nat.zero_add, rdA, rdN]
            refine ih2 _ (by simp (disch := omega) only [wI_sA, rdA, rdN, rdL, upd_e, upd_n]; exact hu) ?_
            obtain ⟨h0, h1, h2, h3, h4⟩ := hN
            refine ⟨(h0.w (by omega)).w (by omega), ?_, fun i hi => ?_, fun c hc => ?_, fun q hq => ?_⟩
            · simp (disch := omega) only [wI_sA, rdA, rdN, rdL, upd_e, upd_n]; exact h1
            · simp (disch := omega) only [wI_sA, rdA, rdN, rdL, upd_e, upd_n]; exact h2 i hi
            · have er : rdq s (p + 1) = bmp (bmp (rdq s p) a) b := by rw [rdq, hs]
              show _ = nI (rdq s (p + 1) c)
              rw [er]
              unfold bmp
              have ra : N.1 70 a = nI (rdq s p a) := ra
              have rb : N.1 70 b = nI (rdq s p b) := rb
              by_cases e1 : c = b
              · subst e1
                rw [if_pos rfl, if_neg (fun z => b3' z.symm)]
                simp (disch := omega) only [wI_sA, rdA, rdN, rdL, upd_e, upd_n, rb, nI_add]
              · rw [if_neg e1]
                by_cases e2 : c = a
                · subst e2
                  rw [if_pos rfl]
                  simp (disch := omega) only [wI_sA, rdA, rdN, rdL, upd_e, upd_n, ra, nI_add]
                · rw [if_neg e2]
                  simp (disch := omega) only [wI_sA, rdA, rdN, rdL, upd_e, upd_n]; exact h3 c hc
            · have := h4 q hq
              show pqR _ q (s.pl q)
              have this : pqR N q (s.pl q) := this
              cases hs : s.pl q with
              | none => rw [hs] at this; unfold pqR; simp (disch := omega) only [wI_sA, rdA, rdN, rdL, upd_e, upd_n]; exact this
              | some ab => rw [hs] at this; obtain ⟨a, b⟩ := ab; unfold pqR; simp (disch := omega) only [wI_sA, rdA, rdN, rdL, upd_e, upd_n]; exact this
      · intro p hp ih2 N hu hN
        apply g_X9_goesBy_75
        rw [(hN.rel hA).1.2.1]
        simp (disch := omega) only [nle, nlt, neq, nz, nzl, nzg, nzp, nzn, nneg, nneg9, nI_add, ncl, vin, br_T, br_F, br_p, br_n, true_and, and_true, Nat.zero_add, rdA, rdN]
        have hw2 := (hw.pk (F := fitC A) p (by omega)).1
        obtain ⟨o1, o2, o3, o4⟩ := hw2.off hp
        have estep : sm.pk (fitC A) (wi A) (p + 1) = ((sm.pk (fitC A) (wi A) p).off (wi A) p).on (fitC A) p := rfl
        rw [estep] at ih2
        generalize sm.pk (fitC A) (wi A) p = s at *
        have hpl := hN.2.2.2.2 p hp
        cases hs : s.pl p with
        | none =>
          rw [hs] at hpl
          rw [QS.off_none hs] at ih2
          refine b1 hpl (b1 hpl (c_X9_takesOn (by omega) hA hN hw2 hp hs hu (fun N2 hu2 hN2 => ?_)))
          simp only [gN]
          exact ih2 N2 hu2 hN2
        | some ab =>
          obtain ⟨a, b⟩ := ab
          rw [hs] at hpl
          obtain ⟨b1', b2', b3'⟩ := hw2.pb p hp a b hs
          have n9 : ¬ N.1 72 p = -9 := by rw [hpl.1]; exact fun z => cast (nneg9 (by omega)) z
          have la := hw2.le a b1'
          have lb := hw2.le b b2'
          have wa := (wi_e hA.2.1 b1').2.2.2
          have wb := (wi_e hA.2.1 b2').2.2.2
          refine b0 n9 ?_
          rw [hu p hp a b hs]
          simp (disch := omega) only [nle, nlt, neq, nz, nzl, nzg, nzp, nzn, nneg, nneg9, nI_add, ncl, vin, br_T, br_F, br_p, br_n, true_and, and_true, Nat.zero_add, rdA, rdN]
          refine b2 (fun q => ?_) (fun q => ?_)
          · have hno : ¬ (s.rd a < wi A a ∧ s.rd b < wi A b) := by omega
            refine c_X9_letsOff hA hN hw2 hp hs hno (fun N2 g hN2 => ?_)
            simp only [gN]
            have hpl2 := hN2.2.2.2.2 p hp
            have epl : (s.off (wi A) p).pl p = none := by
              cases hz : (s.off (wi A) p).pl p with
              | none => rfl
              | some xy =>
                exfalso
                rw [QS.off_some hs, if_neg hno] at hz
                split at hz
                · have hz : (if p = p then none else s.pl p) = some xy := hz
                  rw [if_pos rfl] at hz; cases hz
                · split at hz
                  · have hz : (if p = p then none else s.pl p) = some xy := hz
                    rw [if_pos rfl] at hz; cases hz
                  · have hz : (if p = p then none else s.pl p) = some xy := hz
                    rw [if_pos rfl] at hz; cases hz
            rw [epl] at hpl2
            refine b1 hpl2 (c_X9_takesOn (by omega) hA hN2 o1 hp epl ?_ (fun N3 hu3 hN3 => ?_))
            · rw [g]
              intro x hx c e hce
              have hxp : ¬ x = p := fun z => by subst z; rw [epl] at hce; cases hce
              rw [o3 x hxp] at hce
              rw [o4]
              exact hu x hx c e hce
            · simp only [gN]
              exact ih2 N3 hu3 hN3
          · have hy : s.rd a < wi A a ∧ s.rd b < wi A b := by omega
            have e1 : s.off (wi A) p = s := by rw [QS.off_some hs, if_pos hy]
            rw [e1, QS.on_s (by rw [hs]; exact fun z => by cases z)] at ih2
            exact ih2 N hu hN
  have row2 : ∀ N, (Eqv A N ∧ N.1 56 32 = nI nC ∧ (∀ i, i < nC → N.1 71 i = nI i) ∧ ∀ c, c < nC → N.1 70 c = nI 0) → PX G (d + 3) m_X9_goesBy Q 47 [some (.ref 56), some (.int (nI m)), some (.int (nI 0)), none] [] N := by
    rintro N ⟨n0, n1, n2, n3⟩
    refine up_ind (P := fun k => ∀ N, (Eqv A N ∧ N.1 56 32 = nI nC ∧ (∀ i, i < nC → N.1 71 i = nI i) ∧ (∀ c, c < nC → N.1 70 c = nI 0) ∧ ∀ p, p < k → N.1 72 p = -9) → PX G (d + 3) m_X9_goesBy Q 47 [some (.ref 56), some (.int (nI m)), some (.int (nI k)), none] [] N) ?_ ?_ 0 (Nat.zero_le 3) N ⟨n0, n1, n2, n3, fun p hp => absurd hp (by omega)⟩
    · rintro N ⟨n0, n1, n2, n3, n4⟩
      apply g_X9_goesBy_47
      simp (disch := omega) only [nle, nlt, neq, nz, nzl, nzg, nzp, nzn, nneg, nneg9, nI_add, ncl, vin, br_T, br_F, br_p, br_n, true_and, and_true, Nat.zero_add, rdA, rdN]
      exact mins N ⟨n0, n1, n2, n3, fun p hp => n4 p (by omega)⟩
    · rintro k hk ih N ⟨n0, n1, n2, n3, n4⟩
      apply g_X9_goesBy_47
      simp (disch := omega) only [nle, nlt, neq, nz, nzl, nzg, nzp, nzn, nneg, nneg9, nI_add, ncl, vin, br_T, br_F, br_p, br_n, true_and, and_true, Nat.zero_add, rdA, rdN]
      refine ih _ ⟨n0.w (by omega), ?_, fun i hi => ?_, fun c hc => ?_, fun p hp => ?_⟩
      · simp (disch := omega) only [wI_sA, rdA, rdN, rdL, upd_e, upd_n]; exact n1
      · simp (disch := omega) only [wI_sA, rdA, rdN, rdL, upd_e, upd_n]; exact n2 i hi
      · simp (disch := omega) only [wI_sA, rdA, rdN, rdL, upd_e, upd_n]; exact n3 c hc
      · by_cases e : p = k
        · subst e; simp (disch := omega) only [wI_sA, rdA, rdN, rdL, upd_e, upd_n]
        · simp (disch := omega) only [wI_sA, rdA, rdN, rdL, upd_e, upd_n]; exact n4 p (by omega)
  refine up_ind (P := fun k => ∀ N, (Eqv A N ∧ N.1 56 32 = nI k ∧ (∀ i, i < k → N.1 71 i = nI i) ∧ ∀ c, c < k → N.1 70 c = nI 0) → PX G (d + 3) m_X9_goesBy Q 7 [some (.ref 56), some (.int (nI m)), some (.int (nI k)), none] [] N) ?_ ?_ 0 (Nat.zero_le nC) (wI M 56 32 (nI 0)) ⟨h0.m (by omega), by simp (disch := omega) only [wI_sA, rdA, rdN, rdL, upd_e, upd_n], fun i hi => absurd hi (by omega), fun i hi => absurd hi (by omega)⟩
  · rintro N hN
    apply g_X9_goesBy_7
    rw [(hA.eqv hN.1).1.2.2.2.2.1]
    simp (disch := omega) only [nle, nlt, neq, nz, nzl, nzg, nzp, nzn, nneg, nneg9, nI_add, ncl, vin, br_T, br_F, br_p, br_n, true_and, and_true, Nat.zero_add, rdA, rdN]
    exact row2 N hN
  · rintro k hk ih N ⟨n0, n1, n2, n3⟩
    apply g_X9_goesBy_7
    rw [(hA.eqv n0).1.2.2.2.2.1]
    simp (disch := omega) only [nle, nlt, neq, nz, nzl, nzg, nzp, nzn, nneg, nneg9, nI_add, ncl, vin, br_T, br_F, br_p, br_n, true_and, and_true, Nat.zero_add, rdA, rdN, n1]
    refine ih _ ⟨((n0.w (by omega)).w (by omega)).m (by omega), ?_, fun i hi => ?_, fun c hc => ?_⟩
    · simp (disch := omega) only [wI_sA, rdA, rdN, rdL, upd_e, upd_n]
    · by_cases e : i = k
      · subst e; simp (disch := omega) only [wI_sA, rdA, rdN, rdL, upd_e, upd_n]
      · simp (disch := omega) only [wI_sA, rdA, rdN, rdL, upd_e, upd_n]; exact n2 i (by omega)
    · by_cases e : c = k
      · subst e; simp (disch := omega) only [wI_sA, rdA, rdN, rdL, upd_e, upd_n]
      · simp (disch := omega) only [wI_sA, rdA, rdN, rdL, upd_e, upd_n]; exact n3 c (by omega)
end
theorem pair_rides {G : GG} {M : PM} {x y : Int32} (h : Rel M) : Pair G m_X8_rides m_X9_rides [.int x, .int y] M := by
  have hr := h.eqv (Eqv.t0 M (nI 0))
  obtain ⟨nP, nC, nS, tl, sn, tn, hN⟩ := h
  obtain ⟨h1, h2, h3, hrest⟩ := id hN
  obtain ⟨a1, a2, a3, a4, a5, a6, a7, a8, a9⟩ := id h1
  have bad : (¬ (nI 0 ≤ x ∧ x ≤ nI 99) ∨ (¬ y = -1 ∧ ¬ inR y nC)) → PC G 900 m_X9_rides [.ref 56, .int x, .int y] M (fun w N2 => w = some (.int (-1)) ∧ Rel N2) := by
    intro hb
    refine PC.of (d := 899) ok_X9_rides (Nat.le_of_ble_eq_true rfl) (g_X9_rides_0 (c_X9_in ?_))
    simp only [gI, bI_z]
    refine b2 (fun q => ⟨by trivial, hr⟩) (fun q => ?_)
    rcases hb with z | ⟨z1, z2⟩
    · exact absurd z q
    · refine b0 z1 (c_X9_isChild (n := nC) (by simp (disch := omega) only [wI_sA, rdA, rdN, rdL, upd_e, upd_n]; exact a5) a6 ?_)
      simp only [gI, bI_z]
      exact b1 z2 ⟨by trivial, hr⟩
  refine PC.of (d := 899) ok_X8_rides (Nat.le_of_ble_eq_true rfl) (g_X8_rides_0 ?_)
  refine b2 (fun q => ⟨_, rfl, bad (Or.inl (fun z => absurd z.1 (Int32.not_le.mpr (by rw [nI_0]; exact q))))⟩) (fun q1 => b2 (fun q => ⟨_, rfl, bad (Or.inl (fun z => absurd z.2 (Int32.not_le.mpr q)))⟩) (fun q2 => ?_))
  have hx : nI 0 ≤ x ∧ x ≤ nI 99 := ⟨by rw [nI_0]; exact Int32.not_lt.mp q1, Int32.not_lt.mp q2⟩
  obtain ⟨m, hm, rfl⟩ := (in04 99 (by omega)).mp hx
  have hM2 : RelN (wI M 56 0 (nI 0)) nP nC nS tl sn tn := hN.eqv (Eqv.t0 M (nI 0))
  refine b2 (fun q => c_X2_run (by omega) hN (Eqv.refl M) (fun N hEC => ?_)) (fun q => c_X3_hasChild a4 ?_)
  · simp only [gN]
    refine b1 q ⟨_, rfl, PC.of (d := 899) ok_X9_rides (Nat.le_of_ble_eq_true rfl) (g_X9_rides_0 (c_X9_in ?_))⟩
    simp only [gI, bI_z]
    refine b0 (fun z => z hx) (b1 q (c_X9_goesBy (A := M) (by omega) hN (hEC.1.m (by omega)) (fun N2 hER => ?_)))
    simp only [gN]
    refine b1 q ⟨?_, nP, nC, nS, tl, sn, tn, hER.rel hN⟩
    rw [hER.2.1, hEC.2.1]
  · simp only [gI, bI_z]
    refine b2 (fun z => ⟨_, rfl, bad (Or.inr ⟨q, z⟩)⟩) (fun z => ?_)
    rcases inR_dec (x := y) (n := nC) (by omega) with ⟨c, hc, rfl⟩ | hno
    case inr => exact absurd hno z
    refine c_X2_run (by omega) hN (Eqv.refl M) (fun N hEC => ?_)
    simp only [gN]
    refine b0 q ?_
    simp (disch := omega) only [nle, nlt, neq, nz, nzl, nzg, nzp, nzn, nneg, nneg9, nI_add, ncl, vin, br_T, br_F, br_p, br_n, true_and, and_true, Nat.zero_add, rdA, rdN]
    refine ⟨_, rfl, PC.of (d := 899) ok_X9_rides (Nat.le_of_ble_eq_true rfl) (g_X9_rides_0 (c_X9_in ?_))⟩
    simp only [gI, bI_z]
    refine b0 (fun z => z hx) (b0 q (c_X9_isChild (n := nC) ?_ a6 ?_))
    · simp (disch := omega) only [wI_sA, rdA, rdN, rdL, upd_e, upd_n]; rw [(hEC.rel hN).1.2.2.2.2.1]
    simp only [gI, bI_z]
    refine b0 (fun w => w (inR_y hc (by omega))) (c_X9_goesBy (A := M) (by omega) hN (hEC.1.m (by omega)) (fun N2 hER => ?_))
    simp only [gN]
    refine b0 q ?_
    simp (disch := omega) only [nle, nlt, neq, nz, nzl, nzg, nzp, nzn, nneg, nneg9, nI_add, ncl, vin, br_T, br_F, br_p, br_n, true_and, and_true, Nat.zero_add, rdA, rdN]
    refine ⟨?_, nP, nC, nS, tl, sn, tn, hER.rel hN⟩
    rw [hER.2.2.2.1 c hc, hEC.2.2.2.1 c hc]
