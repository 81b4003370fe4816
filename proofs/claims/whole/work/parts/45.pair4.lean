theorem msR_rd {M : PM} {nC q : Nat} {a b c : Int32} (h : ¬ q = 63) : (msR M nC a b c).1 q = M.1 q := by unfold msR; split; rfl; rw [rdN h]
theorem msC_rd {M : PM} {nC q : Nat} {a b c : Int32} (h : ¬ q = 10) : (msC M nC a b c).1 q = M.1 q := by unfold msC; split; rfl; rw [rdN h]
theorem msR_2 {M : PM} {nC : Nat} {a b c : Int32} : (msR M nC a b c).2 = M.2 := by unfold msR; split <;> rfl
theorem msC_2 {M : PM} {nC : Nat} {a b c : Int32} : (msC M nC a b c).2 = M.2 := by unfold msC; split <;> rfl
theorem tiC_cg {M N : PM} {nC nS p : Nat} (h : ∀ q, 2 ≤ q → q ≤ 12 → N.1 q = M.1 q) : tiC N nC nS p = tiC M nC nS p := by
  unfold tiC moC moCf stC stCf
  rw [h 3 (by omega) (by omega), h 4 (by omega) (by omega), h 6 (by omega) (by omega), h 8 (by omega) (by omega), h 9 (by omega) (by omega), h 11 (by omega) (by omega), h 12 (by omega) (by omega)]
theorem tiR_cg {M N : PM} {nC nS p : Nat} (h : ∀ q, 58 ≤ q → q ≤ 63 → N.1 q = M.1 q) : tiR N nC nS p = tiR M nC nS p := by
  unfold tiR moR moRf stR stRf
  rw [h 59 (by omega) (by omega), h 60 (by omega) (by omega), h 62 (by omega) (by omega), h 63 (by omega) (by omega)]
def agC (A X : PM) : Prop := ∀ q, 2 ≤ q → q ≤ 12 → A.1 q = X.1 q
def agR (B X : PM) : Prop := ∀ q, 58 ≤ q → q ≤ 63 → B.1 q = X.1 q
def mix (X : PM) (nC : Nat) (a b c : Int32) : PM := msR (msC X nC a b c) nC a b c
theorem agC.rs {A X : PM} (h : agC A X) {nC : Nat} {a b c : Int32} : rsC A nC a b c = rsC X nC a b c := by
  unfold rsC bCf; rw [h 8 (by omega) (by omega), h 9 (by omega) (by omega)]
theorem agR.rs {A X : PM} (h : agR A X) {nC : Nat} {a b c : Int32} : rsR A nC a b c = rsR X nC a b c := by
  unfold rsR bRf; rw [h 63 (by omega) (by omega)]
theorem agC.ms {A X : PM} (h : agC A X) {nC : Nat} {a b c : Int32} : agC (msC A nC a b c) (mix X nC a b c) := by
  intro q h1 h2
  unfold mix
  rw [msR_rd (by omega)]
  by_cases e : q = 10
  · subst e
    unfold msC
    split
    · exact h 10 h1 h2
    · simp only [rdA]
      unfold uCf bCf
      rw [h 8 (by omega) (by omega), h 9 (by omega) (by omega), h 10 (by omega) (by omega)]
  · rw [msC_rd e, msC_rd e, h q h1 h2]
theorem agR.ms {A X : PM} (h : agR A X) {nC : Nat} {a b c : Int32} : agR (msR A nC a b c) (mix X nC a b c) := by
  intro q h1 h2
  unfold mix
  by_cases e : q = 63
  · subst e
    unfold msR
    split
    · rw [msC_rd (by omega)]; exact h 63 h1 h2
    · simp only [rdA]
      unfold uRf bRf
      rw [msC_rd (by omega), h 63 (by omega) (by omega)]
  · rw [msR_rd e, msR_rd e, msC_rd (by omega), h q h1 h2]
theorem SR.ag {A X : PM} {nP nC nS : Nat} (h : SR X nP nC nS 7 63 0) (hc : agC A X) (hr : agR A X) : SR A nP nC nS 7 63 0 := by
  refine h.cg (fun r hq => ?_)
  by_cases e : r = 63
  · exact hr r (by omega) (by omega)
  · exact hc r (by omega) (by omega)
theorem RSz.mx {X : PM} {nP nC nS k : Nat} {a b c : Int32} (h : RSz X nP nC nS) : RSz (mix X k a b c) nP nC nS := by
  exact h.cg (fun q _ _ => by unfold mix; rw [msR_rd (by omega), msC_rd (by omega)]) (fun q _ _ => by unfold mix; rw [msR_rd (by omega), msC_rd (by omega)])
theorem RRo.mx {X : PM} {nP nC nS k : Nat} {a b c : Int32} (h : RRo X nP nC nS) : RRo (mix X k a b c) nP nC nS := by
  exact h.cg (fun q hq => by unfold mix; rw [msR_rd (by omega), msC_rd (by omega)])
theorem half {X A B : PM} {nP nC nS p : Nat} {w : Int32} (hz : RSz X nP nC nS) (hr : RRo X nP nC nS) (hs : SR X nP nC nS 7 63 0) (hp : p < nP) (hA : agC A X) (hB : agR B X) (hB2 : agC B (msC A nC (tiC A nC nS p) w (nI p))) :
    rsC A nC (tiC A nC nS p) w (nI p) = rsR B nC (tiR B nC nS p) w (nI p) ∧ SR (msR B nC (tiR B nC nS p) w (nI p)) nP nC nS 7 63 0 := by
  obtain ⟨e1, e2⟩ := settle_eq hz hr hs hp w
  have tA : tiC A nC nS p = tiC X nC nS p := tiC_cg hA
  have tB : tiR B nC nS p = tiR X nC nS p := tiR_cg hB
  have tX := ti_eq hz hr hs hp
  rw [tA] at hB2 ⊢
  rw [tB]
  rw [tX] at hB2 e1 e2 ⊢
  generalize tiR X nC nS p = tt at *
  refine ⟨by rw [hA.rs, hB.rs, e1], ?_⟩
  have e3 : SR (mix X nC tt w (nI p)) nP nC nS 7 63 0 := e2
  have h7 := hA.ms (nC := nC) (a := tt) (b := w) (c := nI p)
  have h8 := hB.ms (nC := nC) (a := tt) (b := w) (c := nI p)
  refine e3.ag (fun q q1 q2 => ?_) h8
  rw [msR_rd (by omega), hB2 q q1 q2]
  exact h7 q q1 q2
theorem RelN.scene {M N : PM} {nP nC nS tl sn tn : Nat} (h : RelN M nP nC nS tl sn tn) (h1 : ∀ q, q < 8 ∨ (12 < q ∧ q < 56) ∨ (56 < q ∧ q ≠ 63) → N.1 q = M.1 q) (h2 : ∀ k, k ≠ 0 → N.1 56 k = M.1 56 k) (h3 : N.2 = M.2) (h4 : SR N nP nC nS 7 63 0) : RelN N nP nC nS tl sn tn := by
  obtain ⟨a1, a2, a3, a4, a5, a6, a7, a8, a9⟩ := h
  refine ⟨a1.cg (fun k _ _ => by rw [h1 1 (by omega)]) (fun k _ _ => h2 k (by omega)), a2.cg (fun q hq => h1 q (by omega)), h4, a4.cg (by rw [h1 25 (by omega)]) (h2 3 (by omega)) (h1 32 (by omega)) (h1 57 (by omega)), a5.cg (fun r hr => h1 r (by omega)) (by rw [h1 13 (by omega)]), a6.cg (fun r hr => h1 r (by omega)) (by rw [h1 19 (by omega)]), a7.cg (by rw [h1 44 (by omega)]) (by rw [h1 44 (by omega)]) (h2 27 (by omega)) (h2 29 (by omega)) (fun r hr => h1 r (by omega)), a8.cg (by rw [h1 44 (by omega)]) (by rw [h1 44 (by omega)]) (fun r hr => h1 r (by omega)), by rw [h3]; exact a9⟩
/-- a child is nowhere on both sides -/
theorem SR.goneC {M : PM} {nP nC nS c : Nat} (h : SR M nP nC nS 7 63 0) (hC : nC ≤ 8) (hS : nS ≤ 5) (hc : c < nC) : SR (wI (wI (wI M 9 c (nI 0)) 63 c (-9)) 63 (8 + c) (nI 0)) nP nC nS 7 63 0 := by
  refine ⟨fun k hk => ?_, fun k hk => ?_, fun k hk => ?_⟩
  · simp only [Nat.zero_add]
    show (wI _ 63 _ _).1 10 k = (wI _ 63 _ _).1 63 (16 + k)
    simp (disch := omega) only [wI_sA, rdA, rdN, rdL, upd_e, upd_n]
    exact h.b hk
  · simp only [Nat.zero_add]
    show SP ((wI _ 63 _ _).1 2) nP ((wI _ 63 _ _).1 8 k) ((wI _ 63 _ _).1 9 k) ((wI _ 63 _ _).1 63 k) ((wI _ 63 _ _).1 63 (8 + k))
    by_cases e : k = c
    · subst e
      simp (disch := omega) only [wI_sA, rdA, rdN, rdL, upd_e, upd_n]
      exact Or.inl ⟨rfl, rfl, rfl⟩
    · simp (disch := omega) only [wI_sA, rdA, rdN, rdL, upd_e, upd_n]
      exact h.c hk
  · simp only [Nat.zero_add]
    show SP ((wI _ 63 _ _).1 2) nP ((wI _ 63 _ _).1 11 k) ((wI _ 63 _ _).1 12 k) ((wI _ 63 _ _).1 63 (24 + k)) ((wI _ 63 _ _).1 63 (29 + k))
    simp (disch := omega) only [wI_sA, rdA, rdN, rdL, upd_e, upd_n]
    exact h.s hk
theorem SR.goneS {M : PM} {nP nC nS c : Nat} (h : SR M nP nC nS 7 63 0) (hC : nC ≤ 8) (hS : nS ≤ 5) (hc : c < nS) : SR (wI (wI (wI M 12 c (nI 0)) 63 (24 + c) (-9)) 63 (29 + c) (nI 0)) nP nC nS 7 63 0 := by
  refine ⟨fun k hk => ?_, fun k hk => ?_, fun k hk => ?_⟩
  · simp only [Nat.zero_add]
    show (wI _ 63 _ _).1 10 k = (wI _ 63 _ _).1 63 (16 + k)
    simp (disch := omega) only [wI_sA, rdA, rdN, rdL, upd_e, upd_n]
    exact h.b hk
  · simp only [Nat.zero_add]
    show SP ((wI _ 63 _ _).1 2) nP ((wI _ 63 _ _).1 8 k) ((wI _ 63 _ _).1 9 k) ((wI _ 63 _ _).1 63 k) ((wI _ 63 _ _).1 63 (8 + k))
    simp (disch := omega) only [wI_sA, rdA, rdN, rdL, upd_e, upd_n]
    exact h.c hk
  · simp only [Nat.zero_add]
    show SP ((wI _ 63 _ _).1 2) nP ((wI _ 63 _ _).1 11 k) ((wI _ 63 _ _).1 12 k) ((wI _ 63 _ _).1 63 (24 + k)) ((wI _ 63 _ _).1 63 (29 + k))
    by_cases e : k = c
    · subst e
      simp (disch := omega) only [wI_sA, rdA, rdN, rdL, upd_e, upd_n]
      exact Or.inl ⟨rfl, rfl, rfl⟩
    · simp (disch := omega) only [wI_sA, rdA, rdN, rdL, upd_e, upd_n]
      exact h.s hk
theorem pair_leaves {G : GG} {M : PM} {x : Int32} (h : Rel M) : Pair G m_X8_leaves m_X9_leaves [.int x] M := by
  have hr := h.eqv (Eqv.t0 M (nI 0))
  obtain ⟨nP, nC, nS, tl, sn, tn, hN⟩ := h
  obtain ⟨h1, h2, h3, hrest⟩ := id hN
  obtain ⟨a1, a2, a3, a4, a5, a6, a7, a8, a9⟩ := id h1
  refine PC.of (d := 899) ok_X8_leaves (Nat.le_of_ble_eq_true rfl) (g_X8_leaves_0 (c_X3_hasChild a4 ?_))
  simp only [gI, bI_z]
  rcases inR_dec (x := x) (n := nC) (by omega) with ⟨c, hc, rfl⟩ | hno
  · refine b0 (fun z => z (inR_y hc (by omega))) ?_
    simp (disch := omega) only [nle, nlt, neq, nz, nzl, nzg, nzp, nzn, nneg, nneg9, nI_add, ncl, vin, br_T, br_F, br_p, br_n, true_and, and_true, Nat.zero_add, rdA, rdN]
    have ref : ∀ (N : PM) {Q : Option Value → PM → Prop}, N.1 56 15 = nI nC → (N.1 63 c = -9 → Q (some (.int (-2))) (wI N 56 0 (nI 0))) → (¬ N.1 63 c = -9 → PC G 899 m_X9_goes [.ref 56, .int (nI c), .int (nI (8 + c))] (wI N 56 0 (nI 0)) (fun v N2 => gI v (fun r2 => Q (some (.int r2)) N2))) → PC G 900 m_X9_leaves [.ref 56, .int (nI c)] N Q := by
      intro N Q e1 q1 q2
      refine PC.of (d := 899) ok_X9_leaves (Nat.le_of_ble_eq_true rfl) (g_X9_leaves_0 (c_X9_isChild (n := nC) (by simp (disch := omega) only [wI_sA, rdA, rdN, rdL, upd_e, upd_n]; exact e1) a6 ?_))
      simp only [gI, bI_z]
      refine b0 (fun z => z (inR_y hc (by omega))) ?_
      simp (disch := omega) only [nle, nlt, neq, nz, nzl, nzg, nzp, nzn, nneg, nneg9, nI_add, ncl, vin, br_T, br_F, br_p, br_n, true_and, and_true, Nat.zero_add, rdA, rdN, wI_sA]
      exact b2 q1 q2
    refine b2 (fun h0 => ?_) (fun h0 => ?_)
    · refine ⟨_, rfl, ref M a5 (fun _ => ⟨rfl, hr⟩) (fun q => absurd ?_ q)⟩
      rcases h3.c hc with z | z
      · exact z.2.1
      · exact absurd h0 z.2.2.1
    · rcases h3.c hc with z | ⟨z1, z2, z3, p, hp, z4, z5, z6⟩
      · exact absurd z.1 h0
      · have hp3 : p < 3 := by omega
        refine c_X4_unseatChild a6 a9 a4 a7 (by omega) hp3 z4 ?_
        simp only [gI]
        have hsX := h3.goneC a6 a9 hc
        have hzX : RSz (wI (wI (wI M 9 c (nI 0)) 63 c (-9)) 63 (8 + c) (nI 0)) nP nC nS := h1.cg (fun k _ _ => by simp (disch := omega) only [wI_sA, rdA, rdN, rdL, upd_e, upd_n]) (fun k _ _ => by simp (disch := omega) only [wI_sA, rdA, rdN, rdL, upd_e, upd_n])
        have hrX : RRo (wI (wI (wI M 9 c (nI 0)) 63 c (-9)) 63 (8 + c) (nI 0)) nP nC nS := h2.cg (fun q hq => by simp (disch := omega) only [wI_sA, rdA, rdN, rdL, upd_e, upd_n])
        have gA : agC (wI M 9 c (nI 0)) (wI (wI (wI M 9 c (nI 0)) 63 c (-9)) 63 (8 + c) (nI 0)) := fun q _ _ => by simp (disch := omega) only [wI_sA, rdA, rdN, rdL, upd_e, upd_n]
        have tM := ti_eq h1 h2 h3 hp
        generalize hM1 : msC (wI M 9 c (nI 0)) nC (tiC (wI M 9 c (nI 0)) nC nS p) (tiC M nC nS p) (nI p) = M1
        have rd : ∀ q, ¬ q = 10 → M1.1 q = (wI M 9 c (nI 0)).1 q := fun q hq => by rw [← hM1]; exact msC_rd hq
        have rd2 : M1.2 = M.2 := by rw [← hM1, msC_2]; rfl
        refine ⟨_, rfl, ref M1 ?_ (fun q => absurd q ?_) (fun _ => c_X9_goes (p := p) a6 a9 ?_ ?_ (by omega) (by omega) hp3 ?_ ?_)⟩
        · rw [rd 56 (by omega)]; simp (disch := omega) only [wI_sA, rdA, rdN, rdL, upd_e, upd_n]; exact a5
        · rw [rd 63 (by omega)]; simp (disch := omega) only [wI_sA, rdA, rdN, rdL, upd_e, upd_n, z1, z4]; exact fun q => m9n (a := p) (by omega) q.symm
        · simp (disch := omega) only [wI_sA, rdA, rdN, rdL, upd_e, upd_n]; rw [rd 56 (by omega)]; simp (disch := omega) only [wI_sA, rdA, rdN, rdL, upd_e, upd_n]; exact a5
        · simp (disch := omega) only [wI_sA, rdA, rdN, rdL, upd_e, upd_n]; rw [rd 56 (by omega)]; simp (disch := omega) only [wI_sA, rdA, rdN, rdL, upd_e, upd_n]; exact a8
        · simp (disch := omega) only [wI_sA, rdA, rdN, rdL, upd_e, upd_n]; rw [rd 63 (by omega)]; simp (disch := omega) only [wI_sA, rdA, rdN, rdL, upd_e, upd_n, z1, z4]
        · simp only [gI]
          have tT : tiR (wI M1 56 0 (nI 0)) nC nS p = tiC M nC nS p := by
            rw [tM]; exact tiR_cg (fun q _ _ => by simp (disch := omega) only [wI_sA, rdA, rdN, rdL, upd_e, upd_n]; rw [rd q (by omega)]; simp (disch := omega) only [wI_sA, rdA, rdN, rdL, upd_e, upd_n])
          rw [tT]
          have hh := half (w := tiC M nC nS p) (B := wI (wI (wI M1 56 0 (nI 0)) 63 c (-9)) 63 (8 + c) (nI 0)) hzX hrX hsX hp gA (fun q _ _ => by
            by_cases e : q = 63
            · subst e; simp (disch := omega) only [wI_sA, rdA, rdN, rdL, upd_e, upd_n]; rw [rd 63 (by omega)]; simp (disch := omega) only [wI_sA, rdA, rdN, rdL, upd_e, upd_n]
            · simp (disch := omega) only [wI_sA, rdA, rdN, rdL, upd_e, upd_n]; rw [rd q (by omega)]; simp (disch := omega) only [wI_sA, rdA, rdN, rdL, upd_e, upd_n]) (fun q _ _ => by rw [hM1]; simp (disch := omega) only [wI_sA, rdA, rdN, rdL, upd_e, upd_n])
          refine ⟨by rw [hh.1], nP, nC, nS, tl, sn, tn, hN.scene (fun q hq => ?_) (fun k hk => ?_) ?_ hh.2⟩
          · rw [msR_rd (by omega)]; simp (disch := omega) only [wI_sA, rdA, rdN, rdL, upd_e, upd_n]; rw [rd q (by omega)]; simp (disch := omega) only [wI_sA, rdA, rdN, rdL, upd_e, upd_n]
          · rw [msR_rd (by omega)]; simp (disch := omega) only [wI_sA, rdA, rdN, rdL, upd_e, upd_n]; rw [rd 56 (by omega)]; simp (disch := omega) only [wI_sA, rdA, rdN, rdL, upd_e, upd_n]
          · rw [msR_2]; exact rd2
  · refine b1 hno ⟨_, rfl, PC.of (d := 899) ok_X9_leaves (Nat.le_of_ble_eq_true rfl) (g_X9_leaves_0 (c_X9_isChild (n := nC) (by simp (disch := omega) only [wI_sA, rdA, rdN, rdL, upd_e, upd_n]; exact a5) a6 ?_))⟩
    simp only [gI, bI_z]
    exact b1 hno ⟨by trivial, hr⟩
