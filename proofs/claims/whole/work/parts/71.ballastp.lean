/-! ballast: the pair -/
theorem c_X9_ballast_in {G : GG} {d : Nat} {M : PM} {Q : Option Value → PM → Prop} {p nS fr : Nat} {x : Int32} {C : Nat → Prop} (hS : nS ≤ 5) (hx : x = nI 0 ∨ x = nI 1) (h16 : M.1 56 16 = nI nS) (lv : ∀ s, s < 2 ^ nS → ∀ N, Frw M N → ∀ Q' : Option Value → PM → Prop, (∀ N2, Frw M N2 → Q' (some (.int (bI (C s)))) N2) → PC G (d + 1) m_X9_levels [.ref 56, .int (nI p), .int (nI s)] N Q') (hQ : ∀ o N, BestO popc (fun s => nI s &&& (nI fr ^^^ (-1)) = 0 ∧ C s) (2 ^ nS) o → Frw M N → Q (some (.int (ans x o))) N) : PX G (d + 1) m_X9_ballast Q 77 [some (.ref 56), some (.int (nI p)), some (.int x), some (.int (nI fr)), some (.int (-9)), some (.int (nI 0)), none] [] M := by
  have hp2 : 2 ^ nS ≤ 2 ^ 5 := Nat.pow_le_pow_right (by decide) hS
  refine up_ind (n := 2 ^ nS) (P := fun k => ∀ o N, BestO popc (fun s => nI s &&& (nI fr ^^^ (-1)) = 0 ∧ C s) k o → Frw M N → PX G (d + 1) m_X9_ballast Q 77 [some (.ref 56), some (.int (nI p)), some (.int x), some (.int (nI fr)), some (.int (oI (-9) o)), some (.int (nI k)), none] [] N) ?_ ?_ 0 (Nat.zero_le _) none M (fun s hs => absurd hs (by omega)) (Frw.refl M)
  · intro o N ho hf
    apply g_X9_ballast_77
    have e16 : N.1 56 16 = nI nS := by rw [hf.2.1 16 (by omega)]; exact h16
    rw [e16, sh1 nS (by omega)]
    simp (disch := omega) only [nle, nlt, neq, nz, nzl, nzg, nzp, nzn, nneg, nneg9, nI_add, ncl, vin, br_T, br_F, br_p, br_n, true_and, and_true, Nat.zero_add, rdA, rdN]
    have hq := hQ o N ho hf
    cases o with
    | none => exact b1 rfl hq
    | some r =>
      have hr := ho.1
      simp only [oI, ans] at hq ⊢
      simp (disch := omega) only [nle, nlt, neq, nz, nzl, nzg, nzp, nzn, nneg, nneg9, nI_add, ncl, vin, br_T, br_F, br_p, br_n, true_and, and_true, Nat.zero_add, rdA, rdN]
      rcases hx with hx | hx
      · subst hx
        rw [if_pos (by decide)] at hq
        refine b0 (by decide) (c_X9_ones (by omega) ?_)
        exact hq
      · subst hx
        rw [if_neg (by decide)] at hq
        exact b1 rfl hq
  · intro k hk ih o N ho hf
    apply g_X9_ballast_77
    have e16 : N.1 56 16 = nI nS := by rw [hf.2.1 16 (by omega)]; exact h16
    rw [e16, sh1 nS (by omega)]
    simp (disch := omega) only [nle, nlt, neq, nz, nzl, nzg, nzp, nzn, nneg, nneg9, nI_add, ncl, vin, br_T, br_F, br_p, br_n, true_and, and_true, Nat.zero_add, rdA, rdN]
    have noo : ¬ ((nI k &&& (nI fr ^^^ (-1)) = 0 ∧ C k) ∧ ∀ r, o = some r → popc k < popc r) → PX G (d + 1) m_X9_ballast Q 122 [some (.ref 56), some (.int (nI p)), some (.int x), some (.int (nI fr)), some (.int (oI (-9) o)), some (.int (nI k)), none] [.int (nI 0)] N := fun z => by
      apply g_X9_ballast_122
      simp (disch := omega) only [nle, nlt, neq, nz, nzl, nzg, nzp, nzn, nneg, nneg9, nI_add, ncl, vin, br_T, br_F, br_p, br_n, true_and, and_true, Nat.zero_add, rdA, rdN]
      exact ih o N (ho.no z) hf
    have yes : nI k &&& (nI fr ^^^ (-1)) = 0 → (∀ r, o = some r → popc k < popc r) → PX G (d + 1) m_X9_ballast Q 122 [some (.ref 56), some (.int (nI p)), some (.int x), some (.int (nI fr)), some (.int (oI (-9) o)), some (.int (nI k)), none] [.int (nI 1)] N := fun z1 z2 => by
      apply g_X9_ballast_122
      simp (disch := omega) only [nle, nlt, neq, nz, nzl, nzg, nzp, nzn, nneg, nneg9, nI_add, ncl, vin, br_T, br_F, br_p, br_n, true_and, and_true, Nat.zero_add, rdA, rdN]
      refine lv k hk N hf _ (fun N2 hf2 => ?_)
      simp only [gI, bI_z]
      refine b2 (fun z3 => ih o N2 (ho.no (fun q => z3 q.1.2)) hf2) (fun z3 => ?_)
      exact ih (some k) N2 (ho.yes ⟨z1, Classical.not_not.mp z3⟩ z2) hf2
    refine b2 (fun z1 => ?_) (fun z1 => noo (fun q => z1 q.1.1))
    cases o with
    | none => exact b1 rfl (yes z1 (fun r e => by cases e))
    | some r =>
      have hr := ho.1
      have p1 := popc_le 8 (Nat.le_refl _) k (by omega)
      have p2 := popc_le 8 (Nat.le_refl _) r (by omega)
      refine b0 (by simp only [oI]; rw [nneg9 (by omega)]; exact id) (c_X9_ones (by omega) ?_)
      simp only [gI]
      refine c_X9_ones (by omega) ?_
      simp only [gI]
      rw [nle (by omega) (by omega)]
      refine b2 (fun z2 => noo (fun q => ?_)) (fun z2 => yes z1 (fun r' e => ?_))
      · have := q.2 r rfl; omega
      · cases e; omega
theorem atS_eq {M : PM} {nP nC nS : Nat} (hs : SR M nP nC nS 7 63 0) {p : Nat} {t : Int32} (hp : p < 3) (ht : ¬ t = 0) : atS M nS (nI p) t ↔ atSR M nS (nI p) t := by
  constructor
  · rintro ⟨c, hc, e1, e2⟩
    refine ⟨c, hc, ?_⟩
    rcases hs.s hc with ⟨z1, -⟩ | ⟨z1, z2, -⟩
    · exact absurd (e1.symm.trans z1) ht
    · exact ⟨z1.trans e2, z2.trans e1⟩
  · rintro ⟨c, hc, e1, e2⟩
    refine ⟨c, hc, ?_⟩
    rcases hs.s hc with ⟨z1, z2, -⟩ | ⟨z1, z2, -⟩
    · rw [z2] at e1; exact absurd e1 (m9n (by omega))
    · exact ⟨z2.symm.trans e2, z1.symm.trans e1⟩
theorem stp_n0 {h x : Nat} (hh : h ≤ 4) (hx : x < 2 * h) : ¬ zI (stp h x) = 0 := by
  have := stp_b hh hx
  have e0 : (0 : Int32) = zI 0 := by decide
  rw [e0, zI_inj (by omega) (by omega) (by omega) (by omega)]
  omega
theorem ref_mo {M N : PM} {nP nC nS tl sn tn : Nat} (hN : RelN N nP nC nS tl sn tn) (he : Eqv M N) {p : Nat} {m0 : Int} (hp : p < nP) (h2 : moC M nC nS (nI p) = zI m0) : moR N nC nS (nI p) = zI m0 := by
  rw [← mo_eq hN.1 hN.2.1 hN.2.2.1 hp, he.mC, h2]
theorem pair_ballast {G : GG} {M : PM} {x1 x2 : Int32} (h : Rel M) : Pair G m_X8_ballast m_X9_ballast [.int x1, .int x2] M := by
  have hr := h.eqv (Eqv.t0 M (nI 0))
  obtain ⟨nP, nC, nS, tl, sn, tn, hN⟩ := h
  have hP3 := hN.1.2.2.1
  have hC8 := hN.1.2.2.2.2.2.1
  have hS5 := hN.1.2.2.2.2.2.2.2.2
  have hN0 := hN.eqv (Eqv.t0 M (nI 0))
  have hp2 : 2 ^ nS ≤ 2 ^ 5 := Nat.pow_le_pow_right (by decide) hS5
  refine PC.of (d := 899) ok_X8_ballast (Nat.le_of_ble_eq_true rfl) (g_X8_ballast_0 (c_X3_hasPlank hN.1.1 ?_))
  simp only [gI, bI_z]
  refine b2 (fun q => ⟨_, rfl, PC.of (d := 899) ok_X9_ballast (Nat.le_of_ble_eq_true rfl) (g_X9_ballast_0 (c_X9_isPlank hN0.1.2.1 hP3 ?_))⟩) (fun q => ?_)
  · simp only [gI, bI_z]
    exact b1 q ⟨by trivial, hr⟩
  obtain ⟨p, hp, rfl⟩ := (inR_dec (x := x1) (n := nP) (by omega)).resolve_right q
  refine c_isZeroOrOne ?_
  simp only [gI, bI_z]
  refine b2 (fun qz => ⟨_, rfl, PC.of (d := 899) ok_X9_ballast (Nat.le_of_ble_eq_true rfl) (g_X9_ballast_0 (c_X9_isPlank hN0.1.2.1 hP3 ?_))⟩) (fun qz => ?_)
  · simp only [gI, bI_z]
    refine b0 (fun z => z (inR_y hp (by omega))) (c_X9_in ?_)
    simp only [gI, bI_z]
    exact b1 (fun z => qz (zo_in.mp z)) ⟨by trivial, hr⟩
  have qz := Classical.not_not.mp qz
  obtain ⟨hh, a1, a2, a3, -⟩ := hN.2.1.1 p hp
  obtain ⟨sl, b1', b2', -⟩ := hN.2.1.2.1 p hp
  obtain ⟨m0, c1, c2, c3⟩ := mo_b hC8 hS5 hN.2.1 hN.2.2.1 (nI p)
  have hF : ∀ t, SFx (fsS M nS (nI p) hh) (bitsL t nS).length (wB M 6 (bitsL t nS)) (stp hh) m0 sl := fun t => by
    have hle := bitsL_le t nS
    have hl := fsS_len (M := M) (nS := nS) (h := hh) (p := nI p)
    refine ⟨by omega, fsS_nd, by omega, fun x hx => ?_, fun i => ?_, by omega, by omega, b1'⟩
    · have := stp_b a2 (fsS_mem hx); omega
    · refine wB_b (n := 0) (W := 20) (by omega) (fun c hc => ?_) i
      obtain ⟨w, -, w2, w3, -⟩ := hN.2.1.2.2.2.2 c (bitsL_mem.mp hc).1
      exact ⟨w, w2, w3⟩
  refine c_X8_leastBallast (d := 897) (C := fun t => (fil (fsS M nS (nI p) hh) (bitsL t nS).length []).any (lev (wB M 6 (bitsL t nS)) (stp hh) m0 sl) = true) hS5 hN.1.2.2.2.2.2.2.1 (fun t ht N hf Q' hQ' => c_X8_canBallast (d := 878) hf (by omega) a2 hC8 hS5 hN.1.2.2.2.1 hN.1.2.2.2.2.2.2.1 a3 b2' c3 (hF t) hQ') (fun o N ho hf => ?_)
  simp only [gI]
  refine c_countOrSet (d := 897) (fun r e => by subst e; have := ho.1; omega) ?_
  simp only [gI]
  have he0 := hf.eqv.trans (Eqv.t0 N (nI 0))
  have hN2 := hN.eqv he0
  refine ⟨_, rfl, PC.of (d := 899) ok_X9_ballast (Nat.le_of_ble_eq_true rfl) (g_X9_ballast_0 (c_X9_isPlank hN2.1.2.1 hP3 ?_))⟩
  simp only [gI, bI_z]
  refine b0 (fun z => z (inR_y hp (by omega))) (c_X9_in ?_)
  simp only [gI, bI_z]
  refine b0 (fun z => z (zo_in.mpr qz)) ?_
  generalize wI N 56 0 (nI 0) = N0 at he0 hN2 ⊢
  have h16 := hN2.1.2.2.2.2.2.2.2.1
  have key := up_ind (n := nS) (P := fun k => PX G 899 m_X9_ballast (fun w N2 => w = some (.int (ans x2 o)) ∧ Rel N2) 29 [some (.ref 56), some (.int (nI p)), some (.int x2), some (.int (nI (mkN (idS M) k))), some (.int (nI k)), none, none] [] N0) ?_ ?_ 0 (Nat.zero_le _)
  · exact key
  · apply g_X9_ballast_29
    simp (disch := omega) only [nle, nlt, neq, nz, nzl, nzg, nzp, nzn, nneg, nneg9, nI_add, ncl, vin, br_T, br_F, br_p, br_n, true_and, and_true, Nat.zero_add, rdA, rdN, h16]
    refine c_X9_ballast_in (d := 898) (C := fun t => (fil (fsS M nS (nI p) hh) (bitsL t nS).length []).any (lev (wB M 6 (bitsL t nS)) (stp hh) m0 sl) = true) hS5 qz h16 (fun t ht N3 hf3 Q' hQ' => ?_) (fun o' N3 ho' hf3 => ?_)
    · have he3 := he0.trans hf3.eqv
      have hN3 := hN.eqv he3
      refine c_X9_levels (d := 896) (ok := okS M nS (nI p) hh) (by omega) a2 hC8 hS5 (by omega) hN3.1.2.2.2.2.1 hN3.1.2.2.2.2.2.2.2.1 (ref_58 hN3 he3 hp a3) (ref_59 hN3 he3 hp b2') (fun i hi => ?_) (fun x hx => ?_) (hF t) (ref_mo hN3 he3 hp c3) (fun N4 hf4 => hQ' N4 (hf3.trans hf4))
      · obtain ⟨w, -, -, w3, w4⟩ := hN3.2.1.2.2.2.2 _ (bitsL_mem.mp (List.getElem_mem hi)).1
        rw [wB_z hi, ← he3.rd 6 (by omega), w4, w3]
      · rw [okS_t, ← atS_eq hN3.2.2.1 (by omega) (stp_n0 a2 hx)]
        unfold atS
        rw [he3.rd 12 (by omega), he3.rd 11 (by omega)]
    · rw [ho.uniq ho']
      exact ⟨rfl, Rel.of (hN2.eqv hf3.eqv)⟩
  · intro k hk ih
    apply g_X9_ballast_29
    simp (disch := omega) only [nle, nlt, neq, nz, nzl, nzg, nzp, nzn, nneg, nneg9, nI_add, ncl, vin, br_T, br_F, br_p, br_n, true_and, and_true, Nat.zero_add, rdA, rdN, h16]
    have e12 := he0.rd 12 (by omega)
    have sp := hN2.2.2.1.s hk
    rw [e12] at sp
    rw [mkN] at ih
    refine b2 (fun z => ?_) (fun z => ?_)
    · have : idS M k = true := by
        unfold idS
        rw [decide_eq_true_eq]
        rcases sp with ⟨z1, -⟩ | ⟨z1, -, -, q, hq, z4, -⟩
        · exact z1
        · rw [z1, z4, nneg9 (by omega)] at z; exact absurd z id
      rw [if_pos this] at ih
      rw [or_bit (by omega) (mkN_lt _ _)]
      exact ih
    · have : ¬ idS M k = true := by
        unfold idS
        rw [decide_eq_true_eq]
        rcases sp with ⟨z1, z2, -⟩ | ⟨-, -, z3, -⟩
        · exact absurd z2 z
        · exact z3
      rw [if_neg this, Nat.add_zero] at ih
      rw [fa_or, Nat.or_zero]
      exact ih
