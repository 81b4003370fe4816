/-! the game: the reference -/
def atCR (M : PM) (nC : Nat) (p t : Int32) : Prop := ∃ c, c < nC ∧ M.1 63 c = p ∧ M.1 63 (8 + c) = t
def UM (us : List Nat) (u : Nat) : Prop := u < 256 ∧ ∀ c, c < 8 → (u.testBit c = true ↔ c ∈ us)
theorem UM.nil : UM [] 0 := ⟨by omega, fun c _ => by simp⟩
theorem UM.push {us : List Nat} {u c : Nat} (h : UM us u) (hc : c < 8) : UM (us ++ [c]) (u ||| 2 ^ c) := by
  refine ⟨?_, fun j hj => ?_⟩
  · have h2 : 2 ^ c < 2 ^ 8 := Nat.pow_lt_pow_right (by decide) hc
    exact Nat.or_lt_two_pow (n := 8) h.1 h2
  · rw [Nat.testBit_or, Bool.or_eq_true, h.2 j hj, List.mem_append, List.mem_singleton, Nat.testBit_two_pow, decide_eq_true_eq]
    constructor
    · rintro (q | q)
      · exact Or.inl q
      · exact Or.inr q.symm
    · rintro (q | q)
      · exact Or.inl q
      · exact Or.inr q.symm
theorem um0 {us : List Nat} {u c : Nat} (hu : UM us u) (hc : c < 8) : (((nI u >>> (nI c &&& 31)) &&& nI 1) = 0) = ¬ c ∈ us := by
  rw [shr1 u hu.1 c hc, nz (by split <;> omega)]
  apply propext
  rw [← hu.2 c hc]
  by_cases h : u.testBit c = true
  · simp [h]
  · simp [h]
section GR
variable {p h sl nC : Nat} {ok idl : Nat → Bool} {w : Nat → Int}
def GRx (M : PM) (p h sl nC : Nat) (ok idl : Nat → Bool) (w : Nat → Int) : Prop := p < 3 ∧ h ≤ 4 ∧ nC ≤ 8 ∧ sl ≤ 20 ∧ M.1 56 15 = nI nC ∧ M.1 58 p = nI h ∧ M.1 59 p = nI sl ∧ (∀ c, c < nC → M.1 60 c = zI (w c) ∧ 0 ≤ w c ∧ w c ≤ 60) ∧ (∀ c, c < nC → (idl c = true ↔ M.1 63 c = -9)) ∧ (∀ x, x < 2 * h → (ok x = true ↔ ¬ atCR M nC (nI p) (zI (stp h x))))
theorem c_X9_isTaken {G : GG} {d : Nat} {M : PM} {Q : Option Value → PM → Prop} {x : Nat} (hR : GRx M p h sl nC ok idl w) (hx : x < 2 * h) (hQ : Q (some (.int (bI (atCR M nC (nI p) (zI (stp h x)))))) M) : PC G (d + 2) m_X9_isTaken [.ref 56, .int (nI p), .int (nI x)] M Q := by
  obtain ⟨r1, r2, r3, r4, r5, r6, r7, r8, r9, r10⟩ := id hR
  refine PC.of ok_X9_isTaken (Nat.le_of_ble_eq_true rfl) (g_X9_isTaken_0 ?_)
  have key := up_ind (n := nC) (P := fun k => PX G (d + 1) m_X9_isTaken Q 5 [some (.ref 56), some (.int (nI p)), some (.int (nI x)), some (.int (bI (atCR M k (nI p) (zI (stp h x))))), some (.int (nI k))] [] M) ?_ ?_ 0 (Nat.zero_le _)
  · rw [bI_f (fun ⟨c, hc, _⟩ => absurd hc (by omega))] at key
    exact key
  · apply g_X9_isTaken_5
    simp (disch := omega) only [nle, nlt, neq, nz, nzl, nzg, nzp, nzn, nneg, nneg9, nI_add, ncl, vin, br_T, br_F, br_p, br_n, true_and, and_true, Nat.zero_add, rdA, rdN, r5]
    exact ⟨bI_01 _, hQ⟩
  · intro k hk ih
    apply g_X9_isTaken_5
    simp (disch := omega) only [nle, nlt, neq, nz, nzl, nzg, nzp, nzn, nneg, nneg9, nI_add, ncl, vin, br_T, br_F, br_p, br_n, true_and, and_true, Nat.zero_add, rdA, rdN, r5, bI_z]
    have no : ¬ atCR M k (nI p) (zI (stp h x)) → ¬ (M.1 63 k = nI p ∧ M.1 63 (8 + k) = zI (stp h x)) → ¬ atCR M (k + 1) (nI p) (zI (stp h x)) := fun z y ⟨c, hc, y1, y2⟩ => by
      by_cases e : c = k
      · subst e; exact y ⟨y1, y2⟩
      · exact z ⟨c, by omega, y1, y2⟩
    refine b2 (fun z => b2 (fun z1 => c_X9_stepOf r1 r2 hx r6 ?_) (fun z1 => ?_)) (fun z => ?_)
    · simp only [gI]
      refine b2 (fun z2 => ?_) (fun z2 => ?_)
      · rw [bI_t ⟨k, by omega, z1, z2⟩] at ih; exact ih
      · rw [bI_f (no z (fun q => z2 q.2))] at ih; exact ih
    · rw [bI_f (no z (fun q => z1 q.1))] at ih; exact ih
    · obtain ⟨c, hc, y⟩ := Classical.not_not.mp z
      rw [bI_t ⟨c, by omega, y⟩] at ih; exact ih
theorem gr_mo {M : PM} (hR : GRx M p h sl nC ok idl w) {m : Int} {c x : Nat} (hc : c < nC) (hx : x < 2 * h) (h1 : -1000 ≤ m) (h2 : m ≤ 1000) : zI m + M.1 60 c * zI (stp h x) = zI (m + w c * stp h x) ∧ -2000 ≤ m + w c * stp h x ∧ m + w c * stp h x ≤ 2000 := by
  obtain ⟨r1, r2, r3, r4, r5, r6, r7, r8, r9, r10⟩ := id hR
  obtain ⟨e1, e2, e3⟩ := r8 c hc
  have hs := stp_b r2 hx
  have := mul_b e2 hs.1 hs.2.1
  exact ⟨by rw [e1, ← zI_mul, ← zI_add], by omega, by omega⟩
theorem c_X9_mayPut {G : GG} {d : Nat} {M : PM} {Q : Option Value → PM → Prop} {us ys : List Nat} {u s c x : Nat} {m : Int} (hR : GRx M p h sl nC ok idl w) (hu : UM us u) (hs : UM ys s) (h1 : -1000 ≤ m) (h2 : m ≤ 1000) (hc : c < nC) (hx : x < 2 * h) (hQ : Q (some (.int (bI (idl c = true ∧ ¬ c ∈ us ∧ ¬ x ∈ ys ∧ ok x = true ∧ (m + w c * stp h x ≤ sl ∧ -(m + w c * stp h x) ≤ sl))))) M) : PC G (d + 3) m_X9_mayPut [.ref 56, .int (nI p), .int (nI u), .int (nI s), .int (zI m), .int (nI c), .int (nI x)] M Q := by
  obtain ⟨r1, r2, r3, r4, r5, r6, r7, r8, r9, r10⟩ := id hR
  obtain ⟨e1, e2, e3⟩ := gr_mo hR hc hx h1 h2
  refine PC.of ok_X9_mayPut (Nat.le_of_ble_eq_true rfl) (g_X9_mayPut_0 ?_)
  have no : ¬ (idl c = true ∧ ¬ c ∈ us ∧ ¬ x ∈ ys ∧ ok x = true ∧ (m + w c * stp h x ≤ sl ∧ -(m + w c * stp h x) ≤ sl)) → PX G (d + 2) m_X9_mayPut Q 37 [some (.ref 56), some (.int (nI p)), none, none, some (.int (zI m)), some (.int (nI c)), some (.int (nI x)), none] [.int (nI 0)] M := fun z => by
    apply g_X9_mayPut_37
    rw [bI_f z] at hQ
    exact b1 rfl ⟨by decide, hQ⟩
  rw [um0 hu (by omega), um0 hs (by omega)]
  simp (disch := omega) only [nle, nlt, neq, nz, nzl, nzg, nzp, nzn, nneg, nneg9, nI_add, ncl, vin, br_T, br_F, br_p, br_n, true_and, and_true, Nat.zero_add, rdA, rdN]
  refine b2 (fun z1 => b2 (fun z2 => b2 (fun z3 => ?_) (fun z3 => no (fun q => z3 ((r9 c hc).mp q.1)))) (fun z2 => no (fun q => z2 q.2.2.1))) (fun z1 => no (fun q => z1 q.2.1))
  apply g_X9_mayPut_37
  simp only [n01a, n01b, true_and]
  refine b0 (by decide) (c_X9_isTaken hR hx ?_)
  simp only [gI, bI_z]
  refine b2 (fun z4 => ?_) (fun z4 => ?_)
  · simp (disch := omega) only [nle, nlt, neq, nz, nzl, nzg, nzp, nzn, nneg, nneg9, nI_add, ncl, vin, br_T, br_F, br_p, br_n, true_and, and_true, Nat.zero_add, rdA, rdN]
    refine c_X9_stepOf r1 r2 hx r6 ?_
    simp only [gI]
    rw [e1]
    refine c_X9_tiltBy r1 ?_
    simp only [gI]
    rw [r7, tlt_0 (by omega) (by omega) (by omega)]
    refine b2 (fun z5 => ?_) (fun z5 => ?_)
    · rw [bI_t ⟨(r9 c hc).mpr z3, z1, z2, (r10 x hx).mpr z4, z5⟩] at hQ
      exact hQ
    · rw [bI_f (fun q => z5 q.2.2.2.2)] at hQ
      exact hQ
  · rw [bI_f (fun q => z4 ((r10 x hx).mp q.2.2.2.1))] at hQ
    exact hQ
theorem rI_n {k : Nat} {us ys : List Nat} {m : Int} {xs : List Nat} {q : Nat × Nat} {st : Nat → Int} (hC : nC ≤ 8) (hx : ∀ x ∈ xs, x < 8) (h : mv nC xs idl w st sl k us ys m = some q) : ¬ rI (some q) = -9 := by
  have hm := mv_mem h
  have := hx _ hm.2
  unfold rI
  rw [nneg9 (by omega)]
  exact id
theorem frm_lt {S : Nat} {x : Nat} (hx : x ∈ frm S ok 0) : x < S := by
  unfold frm at hx
  rw [List.mem_filter] at hx
  have := hx.1
  simp at this
  exact this
theorem c_X9_lastMove {G : GG} {d : Nat} {M : PM} {Q : Option Value → PM → Prop} {us ys : List Nat} {u s : Nat} {m : Int} (hR : GRx M p h sl nC ok idl w) (hu : UM us u) (hs : UM ys s) (h1 : -1000 ≤ m) (h2 : m ≤ 1000) (hQ : Q (some (.int (rI (mv nC (frm (2 * h) ok 0) idl w (stp h) sl 1 us ys m)))) M) : PC G (d + 4) m_X9_lastMove [.ref 56, .int (nI p), .int (nI u), .int (nI s), .int (zI m)] M Q := by
  obtain ⟨r1, r2, r3, r4, r5, r6, r7, r8, r9, r10⟩ := id hR
  have e2h : nI 2 * nI h = nI (2 * h) := pk_mul 2 h
  refine PC.of ok_X9_lastMove (Nat.le_of_ble_eq_true rfl) (g_X9_lastMove_0 ?_)
  refine gloopR (nC := nC) (S := 2 * h) (ok := ok) (p := tst idl w (stp h) sl (mv nC (frm (2 * h) ok 0) idl w (stp h) sl 0) us ys m) (Fin := fun o => Q (some (.int (rI o))) M)
    (A := fun c => PX G (d + 3) m_X9_lastMove Q 3 [some (.ref 56), some (.int (nI p)), some (.int (nI u)), some (.int (nI s)), some (.int (zI m)), some (.int (nI c)), none] [] M)
    (B := fun c x => PX G (d + 3) m_X9_lastMove Q 15 [some (.ref 56), some (.int (nI p)), some (.int (nI u)), some (.int (nI s)), some (.int (zI m)), some (.int (nI c)), some (.int (nI x))] [] M) ?_ ?_ ?_ ?_ hQ
  · intro h
    apply g_X9_lastMove_3
    simp (disch := omega) only [nle, nlt, neq, nz, nzl, nzg, nzp, nzn, nneg, nneg9, nI_add, ncl, vin, br_T, br_F, br_p, br_n, true_and, and_true, Nat.zero_add, rdA, rdN, r5]
    exact h
  · intro c hc h
    apply g_X9_lastMove_3
    simp (disch := omega) only [nle, nlt, neq, nz, nzl, nzg, nzp, nzn, nneg, nneg9, nI_add, ncl, vin, br_T, br_F, br_p, br_n, true_and, and_true, Nat.zero_add, rdA, rdN, r5]
    exact h
  · intro c hc h
    apply g_X9_lastMove_15
    simp (disch := omega) only [nle, nlt, neq, nz, nzl, nzg, nzp, nzn, nneg, nneg9, nI_add, ncl, vin, br_T, br_F, br_p, br_n, true_and, and_true, Nat.zero_add, rdA, rdN, r6, e2h]
    exact h
  · intro c x hc hx g1 g2
    apply g_X9_lastMove_15
    simp (disch := omega) only [nle, nlt, neq, nz, nzl, nzg, nzp, nzn, nneg, nneg9, nI_add, ncl, vin, br_T, br_F, br_p, br_n, true_and, and_true, Nat.zero_add, rdA, rdN, r6, e2h]
    refine c_X9_mayPut hR hu hs h1 h2 hc hx ?_
    simp only [gI, bI_z]
    refine b2 (fun z => g2 (fun q => ?_)) (fun z => ?_)
    · have y := tst_t.mp q.2
      exact z ⟨y.1, y.2.1, y.2.2.1, q.1, y.2.2.2.1⟩
    have z := Classical.not_not.mp z
    have hq := g1 z.2.2.2.1 (tst_t.mpr ⟨z.1, z.2.1, z.2.2.1, z.2.2.2.2, rfl⟩)
    rw [pk_mul, nI_add]
    exact hq
theorem c_X9_twoMoves {G : GG} {d : Nat} {M : PM} {Q : Option Value → PM → Prop} {us ys : List Nat} {u s : Nat} {m : Int} (hR : GRx M p h sl nC ok idl w) (hu : UM us u) (hs : UM ys s) (h1 : -1000 ≤ m) (h2 : m ≤ 1000) (hQ : Q (some (.int (rI (mv nC (frm (2 * h) ok 0) idl w (stp h) sl 2 us ys m)))) M) : PC G (d + 5) m_X9_twoMoves [.ref 56, .int (nI p), .int (nI u), .int (nI s), .int (zI m)] M Q := by
  obtain ⟨r1, r2, r3, r4, r5, r6, r7, r8, r9, r10⟩ := id hR
  have e2h : nI 2 * nI h = nI (2 * h) := pk_mul 2 h
  refine PC.of ok_X9_twoMoves (Nat.le_of_ble_eq_true rfl) (g_X9_twoMoves_0 ?_)
  refine gloopR (nC := nC) (S := 2 * h) (ok := ok) (p := tst idl w (stp h) sl (mv nC (frm (2 * h) ok 0) idl w (stp h) sl 1) us ys m) (Fin := fun o => Q (some (.int (rI o))) M)
    (A := fun c => PX G (d + 4) m_X9_twoMoves Q 3 [some (.ref 56), some (.int (nI p)), some (.int (nI u)), some (.int (nI s)), some (.int (zI m)), some (.int (nI c)), none] [] M)
    (B := fun c x => PX G (d + 4) m_X9_twoMoves Q 15 [some (.ref 56), some (.int (nI p)), some (.int (nI u)), some (.int (nI s)), some (.int (zI m)), some (.int (nI c)), some (.int (nI x))] [] M) ?_ ?_ ?_ ?_ hQ
  · intro h
    apply g_X9_twoMoves_3
    simp (disch := omega) only [nle, nlt, neq, nz, nzl, nzg, nzp, nzn, nneg, nneg9, nI_add, ncl, vin, br_T, br_F, br_p, br_n, true_and, and_true, Nat.zero_add, rdA, rdN, r5]
    exact h
  · intro c hc h
    apply g_X9_twoMoves_3
    simp (disch := omega) only [nle, nlt, neq, nz, nzl, nzg, nzp, nzn, nneg, nneg9, nI_add, ncl, vin, br_T, br_F, br_p, br_n, true_and, and_true, Nat.zero_add, rdA, rdN, r5]
    exact h
  · intro c hc h
    apply g_X9_twoMoves_15
    simp (disch := omega) only [nle, nlt, neq, nz, nzl, nzg, nzp, nzn, nneg, nneg9, nI_add, ncl, vin, br_T, br_F, br_p, br_n, true_and, and_true, Nat.zero_add, rdA, rdN, r6, e2h]
    exact h
  · intro c x hc hx g1 g2
    apply g_X9_twoMoves_15
    simp (disch := omega) only [nle, nlt, neq, nz, nzl, nzg, nzp, nzn, nneg, nneg9, nI_add, ncl, vin, br_T, br_F, br_p, br_n, true_and, and_true, Nat.zero_add, rdA, rdN, r6, e2h]
    refine c_X9_mayPut hR hu hs h1 h2 hc hx ?_
    simp only [gI, bI_z]
    refine b2 (fun z => g2 (fun q => ?_)) (fun z => ?_)
    · have y := tst_t.mp q.2
      exact z ⟨y.1, y.2.1, y.2.2.1, q.1, y.2.2.2.1⟩
    have z := Classical.not_not.mp z
    obtain ⟨e1, e2, e3⟩ := gr_mo hR hc hx h1 h2
    refine c_X9_stepOf r1 r2 hx r6 ?_
    simp only [gI]
    rw [e1]
    rw [or_n (by omega), or_n (by omega)]
    refine c_X9_lastMove hR (hu.push (by omega)) (hs.push (by omega)) (by omega) (by omega) ?_
    simp only [gI]
    cases hmv : mv nC (frm (2 * h) ok 0) idl w (stp h) sl 1 (us ++ [c]) (ys ++ [x]) (m + w c * stp h x) with
    | none =>
      have hq := g1 z.2.2.2.1 (tst_t.mpr ⟨z.1, z.2.1, z.2.2.1, z.2.2.2.2, hmv⟩)
      rw [pk_mul, nI_add]
      exact b1 rfl hq
    | some q =>
      refine b0 (rI_n r3 (fun y hy => by have := frm_lt hy; omega) hmv) (g2 (fun q => ?_))
      have := (tst_t.mp q.2).2.2.2.2
      rw [hmv] at this; cases this
theorem c_X9_threeMoves {G : GG} {d : Nat} {M : PM} {Q : Option Value → PM → Prop} {us ys : List Nat} {u s : Nat} {m : Int} (hR : GRx M p h sl nC ok idl w) (hu : UM us u) (hs : UM ys s) (h1 : -1000 ≤ m) (h2 : m ≤ 1000) (hQ : Q (some (.int (rI (mv nC (frm (2 * h) ok 0) idl w (stp h) sl 3 us ys m)))) M) : PC G (d + 6) m_X9_threeMoves [.ref 56, .int (nI p), .int (nI u), .int (nI s), .int (zI m)] M Q := by
  obtain ⟨r1, r2, r3, r4, r5, r6, r7, r8, r9, r10⟩ := id hR
  have e2h : nI 2 * nI h = nI (2 * h) := pk_mul 2 h
  refine PC.of ok_X9_threeMoves (Nat.le_of_ble_eq_true rfl) (g_X9_threeMoves_0 ?_)
  refine gloopR (nC := nC) (S := 2 * h) (ok := ok) (p := tst idl w (stp h) sl (mv nC (frm (2 * h) ok 0) idl w (stp h) sl 2) us ys m) (Fin := fun o => Q (some (.int (rI o))) M)
    (A := fun c => PX G (d + 5) m_X9_threeMoves Q 3 [some (.ref 56), some (.int (nI p)), some (.int (nI u)), some (.int (nI s)), some (.int (zI m)), some (.int (nI c)), none] [] M)
    (B := fun c x => PX G (d + 5) m_X9_threeMoves Q 15 [some (.ref 56), some (.int (nI p)), some (.int (nI u)), some (.int (nI s)), some (.int (zI m)), some (.int (nI c)), some (.int (nI x))] [] M) ?_ ?_ ?_ ?_ hQ
  · intro h
    apply g_X9_threeMoves_3
    simp (disch := omega) only [nle, nlt, neq, nz, nzl, nzg, nzp, nzn, nneg, nneg9, nI_add, ncl, vin, br_T, br_F, br_p, br_n, true_and, and_true, Nat.zero_add, rdA, rdN, r5]
    exact h
  · intro c hc h
    apply g_X9_threeMoves_3
    simp (disch := omega) only [nle, nlt, neq, nz, nzl, nzg, nzp, nzn, nneg, nneg9, nI_add, ncl, vin, br_T, br_F, br_p, br_n, true_and, and_true, Nat.zero_add, rdA, rdN, r5]
    exact h
  · intro c hc h
    apply g_X9_threeMoves_15
    simp (disch := omega) only [nle, nlt, neq, nz, nzl, nzg, nzp, nzn, nneg, nneg9, nI_add, ncl, vin, br_T, br_F, br_p, br_n, true_and, and_true, Nat.zero_add, rdA, rdN, r6, e2h]
    exact h
  · intro c x hc hx g1 g2
    apply g_X9_threeMoves_15
    simp (disch := omega) only [nle, nlt, neq, nz, nzl, nzg, nzp, nzn, nneg, nneg9, nI_add, ncl, vin, br_T, br_F, br_p, br_n, true_and, and_true, Nat.zero_add, rdA, rdN, r6, e2h]
    refine c_X9_mayPut hR hu hs h1 h2 hc hx ?_
    simp only [gI, bI_z]
    refine b2 (fun z => g2 (fun q => ?_)) (fun z => ?_)
    · have y := tst_t.mp q.2
      exact z ⟨y.1, y.2.1, y.2.2.1, q.1, y.2.2.2.1⟩
    have z := Classical.not_not.mp z
    obtain ⟨e1, e2, e3⟩ := gr_mo hR hc hx h1 h2
    refine c_X9_stepOf r1 r2 hx r6 ?_
    simp only [gI]
    rw [e1]
    rw [or_n (by omega), or_n (by omega)]
    refine c_X9_twoMoves hR (hu.push (by omega)) (hs.push (by omega)) (by omega) (by omega) ?_
    simp only [gI]
    cases hmv : mv nC (frm (2 * h) ok 0) idl w (stp h) sl 2 (us ++ [c]) (ys ++ [x]) (m + w c * stp h x) with
    | none =>
      have hq := g1 z.2.2.2.1 (tst_t.mpr ⟨z.1, z.2.1, z.2.2.1, z.2.2.2.2, hmv⟩)
      rw [pk_mul, nI_add]
      exact b1 rfl hq
    | some q =>
      refine b0 (rI_n r3 (fun y hy => by have := frm_lt hy; omega) hmv) (g2 (fun q => ?_))
      have := (tst_t.mp q.2).2.2.2.2
      rw [hmv] at this; cases this
theorem c_X9_fourMoves {G : GG} {d : Nat} {M : PM} {Q : Option Value → PM → Prop} {m : Int} (hR : GRx M p h sl nC ok idl w) (h1 : -1000 ≤ m) (h2 : m ≤ 1000) (hQ : Q (some (.int (rI (mv nC (frm (2 * h) ok 0) idl w (stp h) sl 4 [] [] m)))) M) : PC G (d + 7) m_X9_fourMoves [.ref 56, .int (nI p), .int (zI m)] M Q := by
  obtain ⟨r1, r2, r3, r4, r5, r6, r7, r8, r9, r10⟩ := id hR
  have e2h : nI 2 * nI h = nI (2 * h) := pk_mul 2 h
  have hu := UM.nil
  have hs := UM.nil
  refine PC.of ok_X9_fourMoves (Nat.le_of_ble_eq_true rfl) (g_X9_fourMoves_0 ?_)
  refine gloopR (nC := nC) (S := 2 * h) (ok := ok) (p := tst idl w (stp h) sl (mv nC (frm (2 * h) ok 0) idl w (stp h) sl 3) [] [] m) (Fin := fun o => Q (some (.int (rI o))) M)
    (A := fun c => PX G (d + 6) m_X9_fourMoves Q 2 [some (.ref 56), some (.int (nI p)), some (.int (zI m)), some (.int (nI c)), none] [] M)
    (B := fun c x => PX G (d + 6) m_X9_fourMoves Q 13 [some (.ref 56), some (.int (nI p)), some (.int (zI m)), some (.int (nI c)), some (.int (nI x))] [] M) ?_ ?_ ?_ ?_ hQ
  · intro h
    apply g_X9_fourMoves_2
    simp (disch := omega) only [nle, nlt, neq, nz, nzl, nzg, nzp, nzn, nneg, nneg9, nI_add, ncl, vin, br_T, br_F, br_p, br_n, true_and, and_true, Nat.zero_add, rdA, rdN, r5]
    exact h
  · intro c hc h
    apply g_X9_fourMoves_2
    simp (disch := omega) only [nle, nlt, neq, nz, nzl, nzg, nzp, nzn, nneg, nneg9, nI_add, ncl, vin, br_T, br_F, br_p, br_n, true_and, and_true, Nat.zero_add, rdA, rdN, r5]
    exact h
  · intro c hc h
    apply g_X9_fourMoves_13
    simp (disch := omega) only [nle, nlt, neq, nz, nzl, nzg, nzp, nzn, nneg, nneg9, nI_add, ncl, vin, br_T, br_F, br_p, br_n, true_and, and_true, Nat.zero_add, rdA, rdN, r6, e2h]
    exact h
  · intro c x hc hx g1 g2
    apply g_X9_fourMoves_13
    simp (disch := omega) only [nle, nlt, neq, nz, nzl, nzg, nzp, nzn, nneg, nneg9, nI_add, ncl, vin, br_T, br_F, br_p, br_n, true_and, and_true, Nat.zero_add, rdA, rdN, r6, e2h]
    refine c_X9_mayPut hR hu hs h1 h2 hc hx ?_
    simp only [gI, bI_z]
    refine b2 (fun z => g2 (fun q => ?_)) (fun z => ?_)
    · have y := tst_t.mp q.2
      exact z ⟨y.1, y.2.1, y.2.2.1, q.1, y.2.2.2.1⟩
    have z := Classical.not_not.mp z
    obtain ⟨e1, e2, e3⟩ := gr_mo hR hc hx h1 h2
    refine c_X9_stepOf r1 r2 hx r6 ?_
    simp only [gI]
    rw [e1]
    rw [sh1 c (by omega), sh1 x (by omega)]
    have hu2 := hu.push (c := c) (by omega)
    have hs2 := hs.push (c := x) (by omega)
    rw [Nat.zero_or] at hu2 hs2
    refine c_X9_threeMoves hR hu2 hs2 (by omega) (by omega) ?_
    simp only [gI]
    cases hmv : mv nC (frm (2 * h) ok 0) idl w (stp h) sl 3 ([] ++ [c]) ([] ++ [x]) (m + w c * stp h x) with
    | none =>
      have hq := g1 z.2.2.2.1 (tst_t.mpr ⟨z.1, z.2.1, z.2.2.1, z.2.2.2.2, hmv⟩)
      rw [pk_mul, nI_add]
      exact b1 rfl hq
    | some q =>
      refine b0 (rI_n r3 (fun y hy => by have := frm_lt hy; omega) hmv) (g2 (fun q => ?_))
      have := (tst_t.mp q.2).2.2.2.2
      rw [hmv] at this; cases this
end GR
