def xr (r : Nat) : Int32 := nI r - nI 1
theorem xr_t : ∀ r, r < 3 → (xr r + nI 1 = xr (r + 1) ∧ ¬ nI 2 ≤ xr r) := by decide +kernel
theorem xr_3 : nI 2 ≤ xr 3 := by decide +kernel
theorem xr_0 : (-1 : Int32) = xr 0 := by decide +kernel
def BJ (f : Nat → Nat → Nat) (sn a b : Nat) (best least : Int32) : Prop := (best = -9 ∧ ∀ u v, u < v → v < sn → ¬ (u < a ∨ (u = a ∧ v < b))) ∨ ∃ x y, BI f sn a b x y ∧ best = nI (10 * x + y) ∧ least = nI (f x y)
theorem c_X9_next_in {G : GG} {d : Nat} {M : PM} {Q : Option Value → PM → Prop} {sn tn : Nat} {x1 : Int32} (hA : RTr M sn tn) (hQ : ∀ x y, BI (lw M sn tn) sn sn 0 x y → Q (some (.int (if x1 = 0 then nI (10 * x + y) else nI (lw M sn tn x y)))) M) : PX G (d + 4) m_X9_next Q 24 [some (.ref 56), some (.int x1), some (.int (-9)), some (.int (nI 0)), some (.int (nI 0)), none, none, none, none, none] [] M := by
  obtain ⟨c1, c2, c3, c4, c5, c6, c7, c8⟩ := id hA
  have h6 := p6 c4
  -- the ways, for one outcome
  have ways : ∀ (b0' l0 : Int32) (a b r m : Nat), a < b → b < sn → r < 3 → m < 10000 → PX G (d + 4) m_X9_next Q 54 [some (.ref 56), some (.int x1), some (.int b0'), some (.int l0), some (.int (nI a)), some (.int (nI b)), some (.int (nI (max m (oc3 M sn tn a b r)))), some (.int (xr (r + 1))), none, none] [] M → PX G (d + 4) m_X9_next Q 66 [some (.ref 56), some (.int x1), some (.int b0'), some (.int l0), some (.int (nI a)), some (.int (nI b)), some (.int (nI m)), some (.int (xr r)), some (.int (nI 0)), some (.int (nI 0))] [] M := by
    intro b0' l0 a b r m hab hb hr hm nx
    refine up_ind (P := fun k => PX G (d + 4) m_X9_next Q 66 [some (.ref 56), some (.int x1), some (.int b0'), some (.int l0), some (.int (nI a)), some (.int (nI b)), some (.int (nI m)), some (.int (xr r)), some (.int (nI (ctP (fun way => FT M tn (dig way) ∧ sgN (dig way a) (dig way b) = nI r - nI 1) k))), some (.int (nI k))] [] M) ?_ ?_ 0 (Nat.zero_le (6 ^ sn))
    · apply g_X9_next_66
      refine c_X9_allWays c4 c2 ?_
      simp only [gI]
      have l := oc3_le (tn := tn) M a b r c4
      have eo : ctP (fun way => FT M tn (dig way) ∧ sgN (dig way a) (dig way b) = nI r - nI 1) (6 ^ sn) = oc3 M sn tn a b r := rfl
      rw [eo]
      simp (disch := omega) only [nle, nlt, neq, nz, nzl, nzg, nzp, nzn, nneg, nneg9, nI_add, ncl, vin, br_T, br_F, br_p, br_n, true_and, and_true, Nat.zero_add, rdA, rdN]
      rw [(xr_t r hr).1]
      refine b2 (fun q => ?_) (fun q => ?_)
      · rw [show max m (oc3 M sn tn a b r) = m by omega] at nx; exact nx
      · rw [show max m (oc3 M sn tn a b r) = oc3 M sn tn a b r by omega] at nx; exact nx
    · intro k hk ih
      apply g_X9_next_66
      refine c_X9_allWays c4 c2 ?_
      simp only [gI]
      simp (disch := omega) only [nle, nlt, neq, nz, nzl, nzg, nzp, nzn, nneg, nneg9, nI_add, ncl, vin, br_T, br_F, br_p, br_n, true_and, and_true, Nat.zero_add, rdA, rdN]
      refine c_X9_weighs (by omega) (by omega) (by omega) ?_
      simp only [gI]
      rw [ctP_s] at ih
      refine b2 (fun q => c_X9_fits hA (by omega) ?_) (fun q => ?_)
      · simp only [gI, bI_z]
        refine b2 (fun q2 => ?_) (fun q2 => ?_)
        · rw [i1_f (fun z => q2 z.1)] at ih; exact ih
        · rw [i1_t ⟨Classical.not_not.mp q2, q⟩] at ih; exact ih
      · rw [i1_f (fun z => q z.2)] at ih; exact ih
  have pairs : ∀ (b0' l0 : Int32) (a b : Nat), a < b → b < sn → BJ (lw M sn tn) sn a b b0' l0 → (∀ b1' l1, BJ (lw M sn tn) sn a (b + 1) b1' l1 → PX G (d + 4) m_X9_next Q 39 [some (.ref 56), some (.int x1), some (.int b1'), some (.int l1), some (.int (nI a)), some (.int (nI (b + 1))), none, none, none, none] [] M) → PX G (d + 4) m_X9_next Q 54 [some (.ref 56), some (.int x1), some (.int b0'), some (.int l0), some (.int (nI a)), some (.int (nI b)), some (.int (nI 0)), some (.int (-1)), none, none] [] M := by
    intro b0' l0 a b hab hb hbj nx
    have o0 := oc3_le (tn := tn) M a b 0 c4
    have o1 := oc3_le (tn := tn) M a b 1 c4
    have o2 := oc3_le (tn := tn) M a b 2 c4
    rw [xr_0]
    refine g_X9_next_54 (b0 (xr_t 0 (by omega)).2 (ways b0' l0 a b 0 0 hab hb (by omega) (by omega) ?_))
    refine g_X9_next_54 (b0 (xr_t 1 (by omega)).2 (ways b0' l0 a b 1 _ hab hb (by omega) (by omega) ?_))
    refine g_X9_next_54 (b0 (xr_t 2 (by omega)).2 (ways b0' l0 a b 2 _ hab hb (by omega) (by omega) ?_))
    refine g_X9_next_54 (b1 xr_3 ?_)
    have em : max (max (max 0 (oc3 M sn tn a b 0)) (oc3 M sn tn a b 1)) (oc3 M sn tn a b 2) = lw M sn tn a b := by unfold lw; omega
    rw [em]
    have l1 := lw_le (tn := tn) M a b c4
    rcases hbj with ⟨z1, z2⟩ | ⟨x, y, z1, z2, z3⟩
    · refine b1 z1 ?_
      simp (disch := omega) only [nle, nlt, neq, nz, nzl, nzg, nzp, nzn, nneg, nneg9, nI_add, ncl, vin, br_T, br_F, br_p, br_n, true_and, and_true, Nat.zero_add, rdA, rdN, nmul]
      refine nx _ _ (Or.inr ⟨a, b, ⟨hab, hb, by omega, fun u v huv hv hp => ?_⟩, rfl, rfl⟩)
      by_cases e : u = a ∧ v = b
      · obtain ⟨rfl, rfl⟩ := e
        exact ⟨Nat.le_refl _, fun z => by omega⟩
      · exact absurd (show u < a ∨ (u = a ∧ v < b) by omega) (z2 u v huv hv)
    · have q1 := z1.1
      have q2 := z1.2.1
      have l2 := lw_le (tn := tn) M x y c4
      rw [z2, z3]
      simp (disch := omega) only [nle, nlt, neq, nz, nzl, nzg, nzp, nzn, nneg, nneg9, nI_add, ncl, vin, br_T, br_F, br_p, br_n, true_and, and_true, Nat.zero_add, rdA, rdN, nmul]
      exact b2 (fun q => nx _ _ (Or.inr ⟨x, y, z1.no hab q, rfl, rfl⟩)) (fun q => nx _ _ (Or.inr ⟨a, b, z1.up hab hb (by omega), rfl, rfl⟩))
  have outer : ∀ a, a ≤ sn → ∀ b0' l0, BJ (lw M sn tn) sn a 0 b0' l0 → PX G (d + 4) m_X9_next Q 24 [some (.ref 56), some (.int x1), some (.int b0'), some (.int l0), some (.int (nI a)), none, none, none, none, none] [] M := by
    refine up_ind (P := fun a => ∀ b0' l0, BJ (lw M sn tn) sn a 0 b0' l0 → PX G (d + 4) m_X9_next Q 24 [some (.ref 56), some (.int x1), some (.int b0'), some (.int l0), some (.int (nI a)), none, none, none, none, none] [] M) ?_ ?_
    · intro b0' l0 hbj
      apply g_X9_next_24
      simp (disch := omega) only [nle, nlt, neq, nz, nzl, nzg, nzp, nzn, nneg, nneg9, nI_add, ncl, vin, br_T, br_F, br_p, br_n, true_and, and_true, Nat.zero_add, rdA, rdN, c2]
      rcases hbj with ⟨z1, z2⟩ | ⟨x, y, z1, z2, z3⟩
      · exact absurd (Or.inl (by omega)) (z2 0 1 (by omega) (by omega))
      · have := hQ x y z1
        rw [z2, z3]
        refine b2 (fun q => ?_) (fun q => ?_)
        · rw [if_pos q] at this; exact this
        · rw [if_neg q] at this; exact this
    · intro a ha ih b0' l0 hbj
      apply g_X9_next_24
      simp (disch := omega) only [nle, nlt, neq, nz, nzl, nzg, nzp, nzn, nneg, nneg9, nI_add, ncl, vin, br_T, br_F, br_p, br_n, true_and, and_true, Nat.zero_add, rdA, rdN, c2]
      have hst : BJ (lw M sn tn) sn a (a + 1) b0' l0 := by
        rcases hbj with ⟨z1, z2⟩ | ⟨x, y, z1, z2, z3⟩
        · exact Or.inl ⟨z1, fun u v huv hv hp => z2 u v huv hv (by omega)⟩
        · exact Or.inr ⟨x, y, z1.st, z2, z3⟩
      refine up_ind (P := fun b => a < b → ∀ b0' l0, BJ (lw M sn tn) sn a b b0' l0 → PX G (d + 4) m_X9_next Q 39 [some (.ref 56), some (.int x1), some (.int b0'), some (.int l0), some (.int (nI a)), some (.int (nI b)), none, none, none, none] [] M) ?_ ?_ (a + 1) (show a + 1 ≤ sn by omega) (by omega) b0' l0 hst
      · intro _ b0' l0 hbj
        apply g_X9_next_39
        simp (disch := omega) only [nle, nlt, neq, nz, nzl, nzg, nzp, nzn, nneg, nneg9, nI_add, ncl, vin, br_T, br_F, br_p, br_n, true_and, and_true, Nat.zero_add, rdA, rdN, c2]
        refine ih _ _ ?_
        rcases hbj with ⟨z1, z2⟩ | ⟨x, y, z1, z2, z3⟩
        · exact Or.inl ⟨z1, fun u v huv hv hp => z2 u v huv hv (by omega)⟩
        · exact Or.inr ⟨x, y, z1.nx, z2, z3⟩
      · intro b hb ih2 hab b0' l0 hbj
        apply g_X9_next_39
        simp (disch := omega) only [nle, nlt, neq, nz, nzl, nzg, nzp, nzn, nneg, nneg9, nI_add, ncl, vin, br_T, br_F, br_p, br_n, true_and, and_true, Nat.zero_add, rdA, rdN, c2]
        exact pairs b0' l0 a b hab hb hbj (fun b1' l1 h' => ih2 (by omega) b1' l1 h')
  exact outer 0 (by omega) _ _ (Or.inl ⟨rfl, fun u v huv hv hp => absurd hp (by omega)⟩)
theorem lw_t0 {M : PM} {sn tn : Nat} {v : Int32} : lw (wI M 56 0 v) sn tn = lw M sn tn := by
  funext a b; unfold lw oc3; simp only [FT_t0]
theorem pair_next {G : GG} {M : PM} {x : Int32} (h : Rel M) : Pair G m_X8_next m_X9_next [.int x] M := by
  have hr := h.eqv (Eqv.t0 M (nI 0))
  obtain ⟨nP, nC, nS, tl, sn, tn, hN⟩ := h
  obtain ⟨c1, c2, c3, c4, c5, c6, c7, c8⟩ := id hN.2.2.2.2.2.2.1
  refine PC.of (d := 899) ok_X8_next (Nat.le_of_ble_eq_true rfl) (g_X8_next_0 (c_isZeroOrOne ?_))
  simp only [gI, bI_z]
  refine b2 (fun q => ⟨_, rfl, PC.of (d := 899) ok_X9_next (Nat.le_of_ble_eq_true rfl) (g_X9_next_0 (c_X9_in ?_))⟩) (fun q => ?_)
  · simp only [gI, bI_z]
    exact b1 (fun z => q (zo_in.mp z)) ⟨by trivial, hr⟩
  have q := Classical.not_not.mp q
  refine c_X7_bestPair hN (fun N hS bx bz hbi => ?_)
  simp only [gI]
  have hR := hS.1.eqv (Eqv.t0 N (nI 0))
  have ref : ∀ r : Int32, r = (if x = 0 then nI (10 * bx + bz) else nI (lw N sn tn bx bz)) → PC G 900 m_X9_next [.ref 56, .int x] N (fun w N2 => w = some (.int r) ∧ Rel N2) := by
    intro r e
    refine PC.of (d := 899) ok_X9_next (Nat.le_of_ble_eq_true rfl) (g_X9_next_0 (c_X9_in ?_))
    simp only [gI, bI_z]
    refine b0 (fun z => z (zo_in.mpr q)) (c_X9_next_in (d := 895) (tn := tn) hR.2.2.2.2.2.2.1 (fun u v huv => ⟨?_, Rel.of hR⟩))
    rw [lw_t0] at huv ⊢
    obtain ⟨rfl, rfl⟩ := huv.u hbi
    rw [e]
  have b1' := hbi.1
  have b2' := hbi.2.1
  refine b2 (fun q2 => ⟨_, rfl, ref _ (by rw [if_pos q2])⟩) (fun q2 => ?_)
  obtain ⟨e1, e2⟩ := d10 (x := bx) (y := bz) (by omega) (by omega)
  rw [e2, e1]
  refine ⟨by decide, by decide, c_X7_lw1 hS hbi.1 hbi.2.1 ?_⟩
  simp only [gI]
  exact ⟨_, rfl, ref _ (by rw [if_neg q2])⟩
