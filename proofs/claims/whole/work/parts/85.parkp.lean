/-! park: the pair -/
theorem FrD.eqv {M N : PM} (h : FrD M N) : Eqv M N := by
  refine ⟨fun q k hs => ?_, by rw [h.2.2], by rw [h.2.2]⟩
  unfold scr at hs
  simp only [Bool.or_eq_false_iff, Bool.and_eq_false_iff, decide_eq_false_iff_not] at hs
  by_cases e : q = 25
  · subst e
    exact h.2.1 k (by omega)
  · rw [h.1 q e (by omega)]
theorem RelN.frp {M N : PM} {nP nC nS tl sn tn : Nat} (h : RelN M nP nC nS tl sn tn) (hf : FrP M N) : RelN N nP nC nS tl sn tn := by
  obtain ⟨h1, h2, h3, h4, h5, h6, h7, h8, h9⟩ := h
  obtain ⟨f1, f2, f3, f4, f5, f6⟩ := hf
  have hP := h1.2.2.1
  have hC := h1.2.2.2.2.2.1
  have hS := h1.2.2.2.2.2.2.2.2
  refine ⟨h1.cg (fun k _ _ => by rw [f1 1 (by omega) (by omega)]) (fun k _ _ => f2 k (by omega)), ?_, h3.cg (fun r hr => f1 r (by omega) (by omega)), h4.cg (by rw [f1 25 (by omega) (by omega)]) (f2 3 (by omega)) (f1 32 (by omega) (by omega)) (f1 57 (by omega) (by omega)), h5.cg (fun r hr => f1 r (by omega) (by omega)) (by rw [f1 13 (by omega) (by omega)]), h6.cg (fun r hr => f1 r (by omega) (by omega)) (by rw [f1 19 (by omega) (by omega)]), h7.cg (by rw [f1 44 (by omega) (by omega)]) (by rw [f1 44 (by omega) (by omega)]) (f2 27 (by omega)) (f2 29 (by omega)) (fun r hr => f1 r (by omega) (by omega)), h8.cg (by rw [f1 44 (by omega) (by omega)]) (by rw [f1 44 (by omega) (by omega)]) (fun r hr => f1 r (by omega) (by omega)), by rw [f6]; exact h9⟩
  obtain ⟨r1, r2, r3, r4, r5⟩ := h2
  refine ⟨fun p hp => ?_, fun p hp => ?_, fun c hc => ?_, fun c hc => ?_, fun c hc => ?_⟩
  · rw [f1 2 (by omega) (by omega), (f3 p (by omega)).1]; exact r1 p hp
  · rw [f1 3 (by omega) (by omega), (f3 p (by omega)).2]; exact r2 p hp
  · rw [f1 4 (by omega) (by omega), (f4 c (by omega)).1]; exact r3 c hc
  · rw [f1 5 (by omega) (by omega), (f4 c (by omega)).2]; exact r4 c hc
  · rw [f1 6 (by omega) (by omega), f5 c (by omega)]; exact r5 c hc
theorem c_X3_copyFrom {G : GG} {d : Nat} {M : PM} {Q : Option Value → PM → Prop} (hQ : ∀ N : PM, (∀ q, ¬ (1 ≤ q ∧ q ≤ 6) → N.1 q = M.1 q) → N.2 = M.2 → N.1 1 5 = M.1 26 5 → N.1 1 6 = M.1 26 6 → N.1 1 7 = M.1 26 7 → (∀ k, k < 3 → N.1 2 k = M.1 27 k ∧ N.1 3 k = M.1 28 k) → (∀ k, k < 8 → N.1 4 k = M.1 29 k ∧ N.1 5 k = M.1 30 k) → (∀ k, k < 5 → N.1 6 k = M.1 31 k) → Q none N) : PC G (d + 1) m_X3_copyFrom [.ref 1, .ref 26] M Q := by
  refine PC.of ok_X3_copyFrom (Nat.le_of_ble_eq_true rfl) (g_X3_copyFrom_0 ⟨by decide, by decide, by decide, by decide, by decide, ?_⟩)
  have e0 : (nI 0).toNatClampNeg = 0 := rfl
  have e3 : (nI 3).toNatClampNeg = 3 := rfl
  have e8 : (nI 8).toNatClampNeg = 8 := rfl
  have e5 : (nI 5).toNatClampNeg = 5 := rfl
  rw [e0, e3, e8, e5]
  simp only [cp0]
  refine hQ _ (fun q hq => ?_) rfl ?_ ?_ ?_ (fun k hk => ⟨?_, ?_⟩) (fun k hk => ⟨?_, ?_⟩) (fun k hk => ?_)
  · simp (disch := omega) only [wI_sA, rdA, rdN, rdL, upd_e, upd_n]
  · simp (disch := omega) only [wI_sA, rdA, rdN, rdL, upd_e, upd_n]
  · simp (disch := omega) only [wI_sA, rdA, rdN, rdL, upd_e, upd_n]
  · simp (disch := omega) only [wI_sA, rdA, rdN, rdL, upd_e, upd_n]
  · simp (disch := omega) only [wI_sA, rdA, rdN, rdL, upd_e, upd_n]; rw [fo_in0 hk]
  · simp (disch := omega) only [wI_sA, rdA, rdN, rdL, upd_e, upd_n]; rw [fo_in0 hk]
  · simp (disch := omega) only [wI_sA, rdA, rdN, rdL, upd_e, upd_n]; rw [fo_in0 hk]
  · simp (disch := omega) only [wI_sA, rdA, rdN, rdL, upd_e, upd_n]; rw [fo_in0 hk]
  · simp (disch := omega) only [wI_sA, rdA, rdN, rdL, upd_e, upd_n]; rw [fo_in0 hk]
theorem wf0 : wfP ([], [], []) := ⟨Nat.zero_le _, Nat.zero_le _, Nat.zero_le _, fun q hq => (by cases hq), fun q hq => (by cases hq), fun q hq => (by cases hq)⟩
theorem pair_park {G : GG} {M : PM} (h : Rel M) : Pair G m_X8_park m_X9_park [] M := by
  obtain ⟨nP, nC, nS, tl, sn, tn, hN⟩ := h
  obtain ⟨t1, t2, t3, t4⟩ := id hN.2.2.2.1
  have hb : ∀ i, i < tl → (M.1 32 i).toNatClampNeg < 256 ∧ M.1 32 i = nI (M.1 32 i).toNatClampNeg ∧ M.1 57 i = nI (M.1 32 i).toNatClampNeg := fun i hi => by
    obtain ⟨b, b1', b2', b3'⟩ := t4 i hi
    rw [b2', b3', ncl (by omega)]
    exact ⟨b1', rfl, rfl⟩
  generalize hTd : (fun i => (M.1 32 i).toNatClampNeg) = T
  have hb : ∀ i, i < tl → T i < 256 ∧ M.1 32 i = nI (T i) ∧ M.1 57 i = nI (T i) := by rw [← hTd]; exact hb
  clear hTd
  have hTc : TXc M T tl := ⟨t1, t3, fun i hi => ⟨(hb i hi).1, (hb i hi).2.1⟩⟩
  have hTr : TXr M T tl := ⟨t2, t3, fun i hi => ⟨(hb i hi).1, (hb i hi).2.2⟩⟩
  -- the reference's reading, from any memory whose text is the same
  have ref : ∀ (N : PM) {F : Nat → Prop} {K : PSt → Prop} {Q : Option Value → PM → Prop}, TXr N T tl → PA T tl 17 ([], [], []) (tkS T tl 0) F K → (∀ N2 f, FrP (wI N 56 0 (nI 0)) N2 → f ≤ tl → F f → Q (some (.int ((-10) - nI f))) N2) → (∀ N2 a, FrP (wI N 56 0 (nI 0)) N2 → DRr N2 a → wfP a → K a → PX G 899 m_X9_park Q 191 [some (.ref 56), some (.int (nI (tot a))), some (.int (nI 0))] [] (wI (wI (wI N2 56 14 (nI a.1.length)) 56 15 (nI a.2.1.length)) 56 16 (nI a.2.2.length))) → PC G 900 m_X9_park [.ref 56] N Q := by
    intro N F K Q hT hPA hF hK
    refine PC.of (d := 899) ok_X9_park (Nat.le_of_ble_eq_true rfl) (g_X9_park_0 ?_)
    have hT0 : TXr (wI N 56 0 (nI 0)) T tl := by
      unfold TXr
      simp (disch := omega) only [wI_sA, rdA, rdN, rdL, upd_e, upd_n]
      exact hT
    have f0 : FrP (wI N 56 0 (nI 0)) (wI (wI (wI (wI (wI (wI N 56 0 (nI 0)) 56 8 (-1)) 56 4 (nI 0)) 56 17 (nI 0)) 56 18 (nI 0)) 56 19 (nI 0)) := (((((FrP.refl _).wr (by omega)).wr (by omega)).wr (by omega)).wr (by omega)).wr (by omega)
    have n8 : (wI (wI (wI (wI (wI (wI N 56 0 (nI 0)) 56 8 (-1)) 56 4 (nI 0)) 56 17 (nI 0)) 56 18 (nI 0)) 56 19 (nI 0)).1 56 8 = -1 := by simp (disch := omega) only [wI_sA, rdA, rdN, rdL, upd_e, upd_n]
    have n4 : (wI (wI (wI (wI (wI (wI N 56 0 (nI 0)) 56 8 (-1)) 56 4 (nI 0)) 56 17 (nI 0)) 56 18 (nI 0)) 56 19 (nI 0)).1 56 4 = nI 0 := by simp (disch := omega) only [wI_sA, rdA, rdN, rdL, upd_e, upd_n]
    have D0 : DRr (wI (wI (wI (wI (wI (wI N 56 0 (nI 0)) 56 8 (-1)) 56 4 (nI 0)) 56 17 (nI 0)) 56 18 (nI 0)) 56 19 (nI 0)) ([], [], []) := ⟨by simp (disch := omega) only [wI_sA, rdA, rdN, rdL, upd_e, upd_n]; rfl, by simp (disch := omega) only [wI_sA, rdA, rdN, rdL, upd_e, upd_n]; rfl, by simp (disch := omega) only [wI_sA, rdA, rdN, rdL, upd_e, upd_n]; rfl, fun i hi => absurd hi (by simp), fun i hi => absurd hi (by simp), fun i hi => absurd hi (by simp)⟩
    refine c_X9_advances (d := 895) (i := 0) (f0.tx hT0) n4 (Nat.zero_le _) (fun N1 f1 k1 => ?_)
    simp only [gN]
    have hs := tkS_b T (Nat.zero_le tl)
    exact c_X9_park_loop (d := 891) t3 hT0 hF hK 17 ([], [], []) _ N1 (f0.a f1) (D0.a f1) k1 (by rw [f1.2.1 8 (by omega)]; exact n8) hs.2 hPA
  rcases PA_ends (T := T) (tl := tl) 17 ([], [], []) (tkS T tl 0) wf0 rfl with ⟨f, hf⟩ | ⟨a, hw, ha⟩
  · refine PC.of (d := 899) ok_X8_park (Nat.le_of_ble_eq_true rfl) (g_X8_park_0 (c_X6_readAll (d := 889) (F := fun x => x = f) (K := fun _ => False) hTc (hf _ _ rfl) (fun N g h1 h3 hg => ?_) (fun N a _ _ _ hk => absurd hk id)))
    subst hg
    simp only [gI]
    refine b0 (by decide) ⟨_, rfl, ?_⟩
    have hNN := hN.eqv h1.eqv
    have hN0 := hNN.eqv (Eqv.t0 N (nI 0))
    refine ref N (F := fun x => x = g) (K := fun _ => False) ?_ (hf _ _ rfl) (fun N2 g' h2 _ hg' => ?_) (fun N2 a _ _ _ hk => absurd hk id)
    · unfold TXr
      rw [h1.1 56 (by omega) (by omega), h1.1 57 (by omega) (by omega)]
      exact hTr
    · subst hg'
      rw [h3]
      exact ⟨rfl, Rel.of (hN0.frp h2)⟩
  · refine PC.of (d := 899) ok_X8_park (Nat.le_of_ble_eq_true rfl) (g_X8_park_0 (c_X6_readAll (d := 889) (F := fun _ => False) (K := fun x => x = a) hTc (ha _ _ rfl) (fun N g _ _ hg => absurd hg id) (fun N a' h1 hD _ hk => ?_)))
    subst hk
    obtain ⟨w1, w2, w3, w4, w5, w6⟩ := id hw
    obtain ⟨d1, d2, d3, d4, d5, d6⟩ := id hD
    simp only [gI]
    refine b1 (by rw [nzg (by unfold tot; omega)]; trivial) (c_X3_copyFrom (fun N1 c1 c2 c3 c4 c5 c6 c7 c8 => ?_))
    simp only [gN]
    refine c_X4_reset (fun N2 e1 e2 e3 e4 => ?_)
    simp only [gN, n01a, true_and]
    refine ⟨_, rfl, ?_⟩
    -- the class's memory now
    have k1 : ∀ q, ¬ (1 ≤ q ∧ q ≤ 12) → N2.1 q = N.1 q := fun q hq => by rw [e1 q (by omega), c1 q (by omega)]
    have k2 : ∀ q, 1 ≤ q → q ≤ 6 → N2.1 q = N1.1 q := fun q _ _ => e1 q (by omega)
    have M2 : N2.2 = M.2 := by rw [e2, c2, h1.2.2]
    refine ref _ (F := fun _ => False) (K := fun x => x = a') ?_ (ha _ _ rfl) (fun N3 g' _ _ hg' => absurd hg' id) (fun N3 a h2 hD3 _ hk => ?_)
    · unfold TXr
      simp (disch := omega) only [wI_sA, rdA, rdN, rdL, upd_e, upd_n]
      rw [k1 56 (by omega), k1 57 (by omega), h1.1 56 (by omega) (by omega), h1.1 57 (by omega) (by omega)]
      exact hTr
    · subst hk
      obtain ⟨f1, f2, f3, f4, f5, f6⟩ := h2
      obtain ⟨g1, g2, g3, g4, g5, g6⟩ := hD3
      refine c_X9_park_tail (d := 897) (fun N4 t1 t2 t3 t4 t5 t6 t7 t8 t9 t10 => ⟨rfl, a.1.length, a.2.1.length, a.2.2.length, 0, sn, tn, ?_⟩)
      -- what stands where, at last
      have z1 : ∀ q, ¬ q = 56 → ¬ (58 ≤ q ∧ q ≤ 63) → ¬ q = 65 → N4.1 q = N3.1 q := fun q q1 q2 q3 => by rw [t1 q q1 q2 q3]; simp (disch := omega) only [wI_sA, rdA, rdN, rdL, upd_e, upd_n]
      have z2 : ∀ q, ¬ q = 56 → ¬ (58 ≤ q ∧ q ≤ 63) → ¬ q = 65 → ¬ q = 13 → ¬ q = 19 → ¬ q = 25 → N4.1 q = N2.1 q := fun q q1 q2 q3 q4 q5 q6 => by rw [z1 q q1 q2 q3, f1 q q1 (by omega)]; simp (disch := omega) only [wI_sA, rdA, rdN, rdL, upd_e, upd_n]
      have z3 : ∀ q, 44 ≤ q ∧ q ≤ 50 → N4.1 q = M.1 q := fun q hq => by rw [z2 q (by omega) (by omega) (by omega) (by omega) (by omega) (by omega), k1 q (by omega), h1.1 q (by omega) (by omega)]
      have z56 : ∀ k, (k = 27 ∨ k = 29) → N4.1 56 k = M.1 56 k := fun k hk => by
        rw [t2 k (by omega)]
        simp (disch := omega) only [wI_sA, rdA, rdN, rdL, upd_e, upd_n]
        rw [f2 k (by omega)]
        simp (disch := omega) only [wI_sA, rdA, rdN, rdL, upd_e, upd_n]
        rw [k1 56 (by omega), h1.1 56 (by omega) (by omega)]
      have zr : ∀ q, 1 ≤ q → q ≤ 6 → N4.1 q = N1.1 q := fun q a b => by rw [z2 q (by omega) (by omega) (by omega) (by omega) (by omega) (by omega), k2 q a b]
      have z58 : ∀ k, N3.1 58 k = (wI (wI (wI N3 56 14 (nI a.1.length)) 56 15 (nI a.2.1.length)) 56 16 (nI a.2.2.length)).1 58 k := fun k => by simp (disch := omega) only [wI_sA, rdA, rdN, rdL, upd_e, upd_n]
      refine ⟨⟨?_, ?_, w1, ?_, ?_, w2, ?_, ?_, w3⟩, ⟨fun p hp => ?_, fun p hp => ?_, fun c hc => ?_, fun c hc => ?_, fun c hc => ?_⟩, ⟨fun c hc => ?_, fun c hc => Or.inl ⟨?_, ?_, ?_⟩, fun c hc => Or.inl ⟨?_, ?_, ?_⟩⟩, ⟨?_, t3, Nat.zero_le _, fun i hi => absurd hi (by omega)⟩, Or.inl ⟨?_, t7⟩, Or.inl ⟨?_, t8⟩, hN.2.2.2.2.2.2.1.cg ?_ ?_ (z56 27 (by omega)) (z56 29 (by omega)) ?_, hN.2.2.2.2.2.2.2.1.cg ?_ ?_ ?_, ?_⟩
      · rw [zr 1 (by omega) (by omega), c3, d1]
      · rw [t2 14 (by omega)]; simp (disch := omega) only [wI_sA, rdA, rdN, rdL, upd_e, upd_n]
      · rw [zr 1 (by omega) (by omega), c4, d2]
      · rw [t2 15 (by omega)]; simp (disch := omega) only [wI_sA, rdA, rdN, rdL, upd_e, upd_n]
      · rw [zr 1 (by omega) (by omega), c5, d3]
      · rw [t2 16 (by omega)]; simp (disch := omega) only [wI_sA, rdA, rdN, rdL, upd_e, upd_n]
      · have hm := w4 _ (List.getElem_mem hp)
        refine ⟨a.1[p].1, hm.1, hm.2.1, ?_, ?_⟩
        · rw [zr 2 (by omega) (by omega), (c6 p (by omega)).1, (d4 p hp).1]
        · rw [(t4 p (by omega)).1]; simp (disch := omega) only [wI_sA, rdA, rdN, rdL, upd_e, upd_n]; exact (g4 p hp).1
      · have hm := w4 _ (List.getElem_mem hp)
        refine ⟨a.1[p].2, hm.2.2, ?_, ?_⟩
        · rw [zr 3 (by omega) (by omega), (c6 p (by omega)).2, (d4 p hp).2]
        · rw [(t4 p (by omega)).2]; simp (disch := omega) only [wI_sA, rdA, rdN, rdL, upd_e, upd_n]; exact (g4 p hp).2
      · have hm := w5 _ (List.getElem_mem hc)
        refine ⟨a.2.1[c].1, hm.1, hm.2.1, ?_, ?_⟩
        · rw [zr 4 (by omega) (by omega), (c7 c (by omega)).1, (d5 c hc).1]
        · rw [(t5 c (by omega)).1]; simp (disch := omega) only [wI_sA, rdA, rdN, rdL, upd_e, upd_n]; exact (g5 c hc).1
      · have hm := w5 _ (List.getElem_mem hc)
        refine ⟨a.2.1[c].2, hm.2.2.1, hm.2.2.2, ?_, ?_⟩
        · rw [zr 5 (by omega) (by omega), (c7 c (by omega)).2, (d5 c hc).2]
        · rw [(t5 c (by omega)).2]; simp (disch := omega) only [wI_sA, rdA, rdN, rdL, upd_e, upd_n]; exact (g5 c hc).2
      · have hm := w6 _ (List.getElem_mem hc)
        refine ⟨a.2.2[c], hm.1, hm.2, ?_, ?_⟩
        · rw [zr 6 (by omega) (by omega), c8 c (by omega), d6 c hc]
        · rw [t6 c (by omega)]; simp (disch := omega) only [wI_sA, rdA, rdN, rdL, upd_e, upd_n]; exact g6 c hc
      · rw [z2 (7 + 3) (by omega) (by omega) (by omega) (by omega) (by omega) (by omega), (e3 c (by omega)).2.2, t9 _ (by omega)]
        unfold bgn; rw [if_neg (by omega)]
      · rw [z2 (7 + 2) (by omega) (by omega) (by omega) (by omega) (by omega) (by omega), (e3 c (by omega)).2.1]; rfl
      · rw [t9 _ (by omega)]; unfold bgn; rw [if_pos (by omega)]
      · rw [t9 _ (by omega)]; unfold bgn; rw [if_neg (by omega)]; rfl
      · rw [z2 (7 + 5) (by omega) (by omega) (by omega) (by omega) (by omega) (by omega), (e4 c (by omega)).2]; rfl
      · rw [t9 _ (by omega)]; unfold bgn; rw [if_pos (by omega)]
      · rw [t9 _ (by omega)]; unfold bgn; rw [if_neg (by omega)]; rfl
      · rw [z1 25 (by omega) (by omega) (by omega), f1 25 (by omega) (by omega)]; simp (disch := omega) only [wI_sA, rdA, rdN, rdL, upd_e, upd_n]
      · rw [z1 13 (by omega) (by omega) (by omega), f1 13 (by omega) (by omega)]; simp (disch := omega) only [wI_sA, rdA, rdN, rdL, upd_e, upd_n]; rfl
      · rw [z1 19 (by omega) (by omega) (by omega), f1 19 (by omega) (by omega)]; simp (disch := omega) only [wI_sA, rdA, rdN, rdL, upd_e, upd_n]; rfl
      · rw [z3 44 (by omega)]
      · rw [z3 44 (by omega)]
      · intro r hr
        rcases hr with hr | hr
        · exact z3 r (by omega)
        · subst hr; rw [z1 69 (by omega) (by omega) (by omega), f1 69 (by omega) (by omega)]; simp (disch := omega) only [wI_sA, rdA, rdN, rdL, upd_e, upd_n]
          rw [k1 69 (by omega), h1.1 69 (by omega) (by omega)]
      · rw [z3 44 (by omega)]
      · rw [z3 44 (by omega)]
      · intro r hr; exact z3 r (by omega)
      · have e : N4.2 = M.2 := by rw [t10]; show N3.2 = M.2; rw [f6]; show N2.2 = M.2; exact M2
        rw [e]; exact hN.2.2.2.2.2.2.2.2
