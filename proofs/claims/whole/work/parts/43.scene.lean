/-! who comes down: the class's settle, the reference's bumps -/
def bCf (M : PM) (t p : Int32) : Nat → Bool := fun c => decide (M.1 8 c = p) && decide (sgX (M.1 9 c) = t)
def bRf (M : PM) (t p : Int32) : Nat → Bool := fun c => decide (M.1 63 c = p) && !decide (M.1 63 (8 + c) * t ≤ 0)
def uCf (M : PM) (b : Nat → Bool) : Nat → Int32 := fun c => if b c then M.1 10 c + nI 1 else M.1 10 c
def uRf (M : PM) (b : Nat → Bool) : Nat → Int32 := fun c => M.1 63 (16 + c) + (if b c then nI 1 else nI 0)
def tiC (M : PM) (nC nS p : Nat) : Int32 := tlt (M.1 3 p) (moC M nC nS (nI p))
def tiR (M : PM) (nC nS p : Nat) : Int32 := tlt (M.1 59 p) (moR M nC nS (nI p))
def rsC (M : PM) (nC : Nat) (t was p : Int32) : Int32 := if t = 0 ∨ t = was then nI 0 else nI (cB (bCf M t p) nC)
def msC (M : PM) (nC : Nat) (t was p : Int32) : PM := if t = 0 ∨ t = was then M else sA M 10 (fo (uCf M (bCf M t p)) (M.1 10) 0 nC)
def rsR (M : PM) (nC : Nat) (t was p : Int32) : Int32 := if t = 0 ∨ t = was then nI 0 else nI (cB (bRf M t p) nC)
def msR (M : PM) (nC : Nat) (t was p : Int32) : PM := if t = 0 ∨ t = was then M else sA M 63 (fo (uRf M (bRf M t p)) (M.1 63) 16 nC)
theorem fo_skip {f g : Nat → Int32} {o k : Nat} (h : f k = g (o + k)) : fo f g o k = fo f g o (k + 1) := by
  rw [← fo_up (f := f) (g := g) (o := o) (k := k) (v := g (o + k)) h.symm]
  funext j
  unfold upd
  by_cases hj : j = o + k
  · rw [if_pos hj, hj, fo_out (by omega)]
  · rw [if_neg hj]
theorem fo_skip0 {f g : Nat → Int32} {k : Nat} (h : f k = g k) : fo f g 0 k = fo f g 0 (k + 1) := fo_skip (by rw [Nat.zero_add]; exact h)
theorem c_X4_settle {G : GG} {d : Nat} {M : PM} {Q : Option Value → PM → Prop} {nC nS p : Nat} {was : Int32} (hC : nC ≤ 8) (hS : nS ≤ 5) (hM : M.1 1 6 = nI nC) (hM2 : M.1 1 7 = nI nS) (hp : p < 3) (hQ : Q (some (.int (rsC M nC (tiC M nC nS p) was (nI p)))) (msC M nC (tiC M nC nS p) was (nI p))) : PC G (d + 4) m_X4_settle [.ref 7, .int (nI p), .int was] M Q := by
  refine PC.of ok_X4_settle (Nat.le_of_ble_eq_true rfl) (g_X4_settle_0 (c_X4_tilt hC hS hM hM2 hp ?_))
  simp only [gI]
  rw [show tlt (M.1 3 p) (moC M nC nS (nI p)) = tiC M nC nS p from rfl]
  generalize tiC M nC nS p = tt at hQ ⊢
  unfold rsC msC at hQ
  refine b2 (fun h => ?_) (fun h => b2 (fun h2 => ?_) (fun h2 => ?_))
  · rw [if_pos (Or.inl h), if_pos (Or.inl h)] at hQ; exact hQ
  · rw [if_pos (Or.inr h2), if_pos (Or.inr h2)] at hQ; exact hQ
  · have hno : ¬ (tt = 0 ∨ tt = was) := fun z => z.elim h h2
    rw [if_neg hno, if_neg hno] at hQ
    have key := up_ind (P := fun k => PX G (d + 3) m_X4_settle Q 23 [some (.ref 7), some (.int (nI p)), none, some (.int tt), some (.int (nI (cB (bCf M tt (nI p)) k))), some (.int (nI k))] [] (sA M 10 (fo (uCf M (bCf M tt (nI p))) (M.1 10) 0 k))) (n := nC) ?_ ?_ 0 (Nat.zero_le _)
    · rw [sA_fo0] at key
      exact key
    · apply g_X4_settle_23
      simp (disch := omega) only [nle, nlt, neq, nz, nzl, nzg, nzp, nzn, nneg, nneg9, nI_add, ncl, vin, br_T, br_F, br_p, br_n, true_and, and_true, Nat.zero_add, rdA, rdN, hM]
      exact hQ
    · intro k hk ih
      apply g_X4_settle_23
      simp (disch := omega) only [nle, nlt, neq, nz, nzl, nzg, nzp, nzn, nneg, nneg9, nI_add, ncl, vin, br_T, br_F, br_p, br_n, true_and, and_true, Nat.zero_add, rdA, rdN, hM]
      have hb := cB_le (bCf M tt (nI p)) k
      have e10 : fo (uCf M (bCf M tt (nI p))) (M.1 10) 0 k k = M.1 10 k := fo_out (by omega)
      rw [cB] at ih
      refine b2 (fun h3 => c_signum ?_) (fun h3 => ?_)
      · simp only [gI]
        simp (disch := omega) only [nle, nlt, neq, nz, nzl, nzg, nzp, nzn, nneg, nneg9, nI_add, ncl, vin, br_T, br_F, br_p, br_n, true_and, and_true, Nat.zero_add, rdA, rdN]
        refine b2 (fun h4 => ?_) (fun h4 => ?_)
        · have hbk : bCf M tt (nI p) k = true := by simp [bCf, h3, h4]
          rw [e10, wI_fo0 (by simp [uCf, hbk])]
          simpa only [hbk, if_true] using ih
        · have hbk : bCf M tt (nI p) k = false := by simp [bCf, h4]
          rw [fo_skip0 (f := uCf M (bCf M tt (nI p))) (g := M.1 10) (k := k) (by simp [uCf, hbk])]
          simpa only [hbk, Bool.false_eq_true, if_false, Nat.add_zero] using ih
      · have hbk : bCf M tt (nI p) k = false := by simp [bCf, h3]
        rw [fo_skip0 (f := uCf M (bCf M tt (nI p))) (g := M.1 10) (k := k) (by simp [uCf, hbk])]
        simpa only [hbk, Bool.false_eq_true, if_false, Nat.add_zero] using ih
theorem c_X9_bumps {G : GG} {d : Nat} {M : PM} {Q : Option Value → PM → Prop} {nC nS p : Nat} {was : Int32} (hC : nC ≤ 8) (hS : nS ≤ 5) (hM : M.1 56 15 = nI nC) (hM2 : M.1 56 16 = nI nS) (hp : p < 3) (hQ : Q (some (.int (rsR M nC (tiR M nC nS p) was (nI p)))) (msR M nC (tiR M nC nS p) was (nI p))) : PC G (d + 4) m_X9_bumps [.ref 56, .int (nI p), .int was] M Q := by
  refine PC.of ok_X9_bumps (Nat.le_of_ble_eq_true rfl) (g_X9_bumps_0 (c_X9_tiltOf hC hS hM hM2 hp ?_))
  simp only [gI]
  show PX G (d + 3) m_X9_bumps Q 12 [some (.ref 56), some (.int (nI p)), some (.int was), some (.int (tiR M nC nS p)), some (.int (nI 0)), some (.int (nI 0)), none] [] M
  generalize tiR M nC nS p = tt at hQ ⊢
  unfold rsR msR at hQ
  by_cases hno : tt = 0 ∨ tt = was
  · rw [if_pos hno, if_pos hno] at hQ
    apply g_X9_bumps_12
    refine b2 (fun _ => hQ) (fun _ => b2 (fun _ => hQ) (fun h1 => b2 (fun _ => hQ) (fun h2 => absurd hno (fun z => z.elim h1 h2))))
  · rw [if_neg hno, if_neg hno] at hQ
    have key := up_ind (P := fun k => PX G (d + 3) m_X9_bumps Q 12 [some (.ref 56), some (.int (nI p)), some (.int was), some (.int tt), some (.int (nI (cB (bRf M tt (nI p)) k))), some (.int (nI k)), none] [] (sA M 63 (fo (uRf M (bRf M tt (nI p))) (M.1 63) 16 k))) (n := nC) ?_ ?_ 0 (Nat.zero_le _)
    · rw [sA_fo0] at key
      exact key
    · apply g_X9_bumps_12
      simp (disch := omega) only [nle, nlt, neq, nz, nzl, nzg, nzp, nzn, nneg, nneg9, nI_add, ncl, vin, br_T, br_F, br_p, br_n, true_and, and_true, Nat.zero_add, rdA, rdN, hM]
      exact hQ
    · intro k hk ih
      have s63 : ∀ y0 : Int32, (y0 = 0 ∧ bRf M tt (nI p) k = false) ∨ (¬ y0 = 0 ∧ bRf M tt (nI p) k = true) → PX G (d + 3) m_X9_bumps Q 63 [some (.ref 56), some (.int (nI p)), some (.int was), some (.int tt), some (.int (nI (cB (bRf M tt (nI p)) k))), some (.int (nI k)), none] [.int y0] (sA M 63 (fo (uRf M (bRf M tt (nI p))) (M.1 63) 16 k)) := by
        intro y0 hy
        have e16 : fo (uRf M (bRf M tt (nI p))) (M.1 63) 16 k (16 + k) = M.1 63 (16 + k) := fo_out (by omega)
        apply g_X9_bumps_63
        simp (disch := omega) only [nle, nlt, neq, nz, nzl, nzg, nzp, nzn, nneg, nneg9, nI_add, ncl, vin, br_T, br_F, br_p, br_n, true_and, and_true, Nat.zero_add, rdA, rdN]
        rw [cB] at ih
        rcases hy with ⟨h1, h2⟩ | ⟨h1, h2⟩
        · refine b1 h1 (b1 h1 ?_)
          rw [e16, wI_fo (by simp [uRf, h2])]
          simpa only [h2, Bool.false_eq_true, if_false] using ih
        · refine b0 h1 (b0 h1 ?_)
          rw [e16, wI_fo (by simp [uRf, h2])]
          simpa only [h2, if_true] using ih
      apply g_X9_bumps_12
      simp (disch := omega) only [nle, nlt, neq, nz, nzl, nzg, nzp, nzn, nneg, nneg9, nI_add, ncl, vin, br_T, br_F, br_p, br_n, true_and, and_true, Nat.zero_add, rdA, rdN, hM]
      have e1 : fo (uRf M (bRf M tt (nI p))) (M.1 63) 16 k k = M.1 63 k := fo_out (by omega)
      have e2 : fo (uRf M (bRf M tt (nI p))) (M.1 63) 16 k (8 + k) = M.1 63 (8 + k) := fo_out (by omega)
      rw [e1, e2]
      refine b0 (fun z => hno (Or.inl z)) (b0 (fun z => hno (Or.inr z)) (b2 (fun h3 => b2 (fun h4 => ?_) (fun h4 => ?_)) (fun h3 => ?_)))
      · exact s63 _ (Or.inl ⟨by decide, by simp [bRf, h4]⟩)
      · exact s63 _ (Or.inr ⟨by decide, by simp [bRf, h3, h4]⟩)
      · exact s63 _ (Or.inl ⟨by decide, by simp [bRf, h3]⟩)
theorem sg_tab : ∀ i : Fin 9, (sgX (Int32.ofInt ((i.val : Int) - 4)) = 1 ↔ ¬ Int32.ofInt ((i.val : Int) - 4) * 1 ≤ 0) ∧ (sgX (Int32.ofInt ((i.val : Int) - 4)) = -1 ↔ ¬ Int32.ofInt ((i.val : Int) - 4) * (-1) ≤ 0) := by decide +kernel
theorem neg_small : ∀ h, h ≤ 4 → (-(nI h)).toInt = -(h : Int) := by decide +kernel
theorem step_small {h : Nat} (hh : h ≤ 4) {c : Int32} (h1 : -(nI h) ≤ c) (h2 : c ≤ nI h) : ∃ i : Fin 9, c = Int32.ofInt ((i.val : Int) - 4) := by
  rw [Int32.le_iff_toInt_le] at h1 h2
  rw [neg_small h hh] at h1
  rw [toInt_nI (by omega)] at h2
  refine ⟨⟨(c.toInt + 4).toNat, by omega⟩, ?_⟩
  show c = Int32.ofInt (((c.toInt + 4).toNat : Int) - 4)
  rw [show (((c.toInt + 4).toNat : Int) - 4) = c.toInt by omega]
  exact (fb_asI' c).symm
theorem tlt_3 (sl x : Int32) : tlt sl x = nI 1 ∨ tlt sl x = -1 ∨ tlt sl x = nI 0 := by
  unfold tlt
  split
  · split
    · exact Or.inl rfl
    · exact Or.inr (Or.inl rfl)
  · exact Or.inr (Or.inr rfl)
theorem bump_eq {M : PM} {nP nC nS : Nat} (hr : RRo M nP nC nS) (hs : SR M nP nC nS 7 63 0) (hP : nP ≤ 3) {p : Nat} (hp : p < nP) {tt : Int32} (ht : tt = nI 1 ∨ tt = -1) {c : Nat} (hc : c < nC) : bCf M tt (nI p) c = bRf M tt (nI p) c := by
  unfold bCf bRf
  rcases hs.c hc with ⟨z1, z2, z3⟩ | ⟨z1, z2, z3, p2, hp2, z4, z5, z6⟩
  · rw [z1, z2]
    have e1 : ¬ sgX 0 = tt := by rcases ht with rfl | rfl <;> decide
    have e2 : ¬ (-9 : Int32) = nI p := m9n (by omega)
    simp [e1, e2]
  · rw [z1, z2]
    obtain ⟨h, -, h4, e3, -⟩ := hr.1 p2 hp2
    rw [e3] at z5 z6
    obtain ⟨i, hi⟩ := step_small h4 z5 z6
    have tab := sg_tab i
    rw [← hi] at tab
    have e4 : (sgX (M.1 9 c) = tt) ↔ ¬ M.1 9 c * tt ≤ 0 := by
      rcases ht with rfl | rfl
      · exact tab.1
      · exact tab.2
    congr 1
    by_cases h5 : sgX (M.1 9 c) = tt
    · simp [h5, e4.mp h5]
    · have : M.1 9 c * tt ≤ 0 := Classical.not_not.mp (fun z => h5 (e4.mpr z))
      simp [h5, this]
theorem ti_eq {M : PM} {nP nC nS : Nat} (hz : RSz M nP nC nS) (hr : RRo M nP nC nS) (hs : SR M nP nC nS 7 63 0) {p : Nat} (hp : p < nP) : tiC M nC nS p = tiR M nC nS p := by
  unfold tiC tiR
  obtain ⟨s, -, e1, e2⟩ := hr.2.1 p hp
  rw [mo_eq hz hr hs hp, e1, e2]
theorem settle_eq {M : PM} {nP nC nS : Nat} (hz : RSz M nP nC nS) (hr : RRo M nP nC nS) (hs : SR M nP nC nS 7 63 0) {p : Nat} (hp : p < nP) (was : Int32) : rsC M nC (tiC M nC nS p) was (nI p) = rsR M nC (tiR M nC nS p) was (nI p) ∧ SR (msR (msC M nC (tiC M nC nS p) was (nI p)) nC (tiR M nC nS p) was (nI p)) nP nC nS 7 63 0 := by
  rw [ti_eq hz hr hs hp]
  have h3 : tiR M nC nS p = nI 1 ∨ tiR M nC nS p = -1 ∨ tiR M nC nS p = nI 0 := tlt_3 _ _
  generalize tiR M nC nS p = tt at h3 ⊢
  have hP := hz.2.2.1
  have hC := hz.2.2.2.2.2.1
  unfold rsC rsR msR msC
  by_cases hno : tt = 0 ∨ tt = was
  · simp only [if_pos hno]
    exact ⟨by trivial, hs⟩
  · simp only [if_neg hno]
    have ht : tt = nI 1 ∨ tt = -1 := by
      rcases h3 with z | z | z
      · exact Or.inl z
      · exact Or.inr z
      · exact absurd (Or.inl (by rw [z]; rfl)) hno
    have hb : ∀ c, c < nC → bCf M tt (nI p) c = bRf M tt (nI p) c := fun c hc => bump_eq hr hs hP hp ht hc
    refine ⟨by rw [cB_congr hb], ?_, ?_, ?_⟩
    · intro c hc
      simp only [Nat.zero_add]
      show (sA _ 63 _).1 10 c = (sA _ 63 _).1 63 (16 + c)
      simp (disch := omega) only [wI_sA, rdA, rdN, rdL, upd_e, upd_n]
      rw [fo_in0 hc, fo_in hc]
      unfold uCf uRf
      simp (disch := omega) only [wI_sA, rdA, rdN, rdL, upd_e, upd_n]
      have e1 : ∀ f : Nat → Int32, bRf (sA M 10 f) tt (nI p) c = bRf M tt (nI p) c := by intro f; unfold bRf; simp (disch := omega) only [wI_sA, rdA, rdN, rdL, upd_e, upd_n]
      rw [e1, hb c hc, hs.b hc]
      cases bRf M tt (nI p) c
      · simp only [Bool.false_eq_true, if_false]; rw [add_n0]
      · simp only [if_true]
    · intro c hc
      simp only [Nat.zero_add]
      show SP ((sA _ 63 _).1 2) nP ((sA _ 63 _).1 8 c) ((sA _ 63 _).1 9 c) ((sA _ 63 _).1 63 c) ((sA _ 63 _).1 63 (8 + c))
      simp (disch := omega) only [wI_sA, rdA, rdN, rdL, upd_e, upd_n]
      rw [fo_out (by omega), fo_out (by omega)]
      exact hs.c hc
    · intro s hsn
      simp only [Nat.zero_add]
      show SP ((sA _ 63 _).1 2) nP ((sA _ 63 _).1 11 s) ((sA _ 63 _).1 12 s) ((sA _ 63 _).1 63 (24 + s)) ((sA _ 63 _).1 63 (29 + s))
      simp (disch := omega) only [wI_sA, rdA, rdN, rdL, upd_e, upd_n]
      rw [fo_out (by omega), fo_out (by omega)]
      exact hs.s hsn
