theorem c_X9_sure_in {G : GG} {d : Nat} {M : PM} {Q : Option Value → PM → Prop} {sn tn a : Nat} (hA : RTr M sn tn) (ha : a < sn) (hQ : Q (some (.int (uqV (cw M sn tn a) (-9)))) M) : PX G (d + 4) m_X9_sure Q 23 [some (.ref 56), some (.int (nI a)), some (.int (nI 0)), some (.int (-9)), some (.int (nI 1))] [] M := by
  have hs := hA.2.2.2.1
  have key := up_ind (P := fun w => 1 ≤ w → ∀ (c : Nat) (z : Int32), c < w → ((c = 0 ∧ ∀ v, 1 ≤ v → v < w → cw M sn tn a v = 0) ∨ (c = 1 ∧ ∃ o, z = nI o ∧ 1 ≤ o ∧ o < w ∧ 0 < cw M sn tn a o ∧ ∀ v, 1 ≤ v → v < w → ¬ v = o → cw M sn tn a v = 0) ∨ (2 ≤ c ∧ ∃ o p, 1 ≤ o ∧ o < p ∧ p < w ∧ 0 < cw M sn tn a o ∧ 0 < cw M sn tn a p)) → PX G (d + 4) m_X9_sure Q 23 [some (.ref 56), some (.int (nI a)), some (.int (nI c)), some (.int z), some (.int (nI w))] [] M) (n := 7) ?_ ?_ 1 (by omega) (by omega) 0 (-9) (by omega) (Or.inl ⟨rfl, fun v v1 v2 => absurd v1 (by omega)⟩)
  · exact key
  · intro _ c z hc hinv
    apply g_X9_sure_23
    simp (disch := omega) only [nle, nlt, neq, nz, nzl, nzg, nzp, nzn, nneg, nneg9, nI_add, ncl, vin, br_T, br_F, br_p, br_n, true_and, and_true, Nat.zero_add, rdA, rdN]
    rcases hinv with ⟨z1, z2⟩ | ⟨z1, o, z2, z3, z4, z5, z6⟩ | ⟨z1, o, p, z2, z3, z4, z5, z6⟩
    · rw [uqV_n (fun ⟨p, p1, p2, p3, p4⟩ => by have := z2 p p1 (by omega); omega)] at hQ
      exact b0 (by omega) hQ
    · rw [uqV_y (o := o) ⟨z3, by omega, z5, fun v v1 v2 v3 => z6 v v1 (by omega) v3⟩] at hQ
      rw [z2]
      exact b1 z1 hQ
    · rw [uqV_n (fun ⟨q, p1, p2, p3, p4⟩ => by
        by_cases e : q = o
        · have := p4 p (by omega) (by omega) (by omega); omega
        · have := p4 o (by omega) (by omega) (fun y => e y.symm); omega)] at hQ
      exact b0 (by omega) hQ
  · intro w hw ih w1 c z hc hinv
    apply g_X9_sure_23
    simp (disch := omega) only [nle, nlt, neq, nz, nzl, nzg, nzp, nzn, nneg, nneg9, nI_add, ncl, vin, br_T, br_F, br_p, br_n, true_and, and_true, Nat.zero_add, rdA, rdN]
    refine c_X9_couldBe hA ha (by omega) ?_
    simp only [gI]
    have lw := cw_le (tn := tn) M a w hs
    have ecw : ctP (fun way => FT M tn (dig way) ∧ dig way a = w) (6 ^ sn) = cw M sn tn a w := rfl
    rw [ecw]
    simp (disch := omega) only [nle, nlt, neq, nz, nzl, nzg, nzp, nzn, nneg, nneg9, nI_add, ncl, vin, br_T, br_F, br_p, br_n, true_and, and_true, Nat.zero_add, rdA, rdN]
    refine b2 (fun q => ih (by omega) c z (by omega) ?_) (fun q => ih (by omega) (c + 1) (nI w) (by omega) ?_)
    · rcases hinv with ⟨z1, z2⟩ | ⟨z1, o, z2, z3, z4, z5, z6⟩ | ⟨z1, o, p, z2, z3, z4, z5, z6⟩
      · refine Or.inl ⟨z1, fun v v1 v2 => ?_⟩
        by_cases e : v = w
        · subst e; exact q
        · exact z2 v v1 (by omega)
      · refine Or.inr (Or.inl ⟨z1, o, z2, z3, by omega, z5, fun v v1 v2 v3 => ?_⟩)
        by_cases e : v = w
        · subst e; exact q
        · exact z6 v v1 (by omega) v3
      · exact Or.inr (Or.inr ⟨z1, o, p, z2, z3, by omega, z5, z6⟩)
    · rcases hinv with ⟨z1, z2⟩ | ⟨z1, o, z2, z3, z4, z5, z6⟩ | ⟨z1, o, p, z2, z3, z4, z5, z6⟩
      · exact Or.inr (Or.inl ⟨by omega, w, rfl, w1, by omega, by omega, fun v v1 v2 v3 => z2 v v1 (by omega)⟩)
      · exact Or.inr (Or.inr ⟨by omega, o, w, z3, z4, by omega, z5, by omega⟩)
      · exact Or.inr (Or.inr ⟨by omega, o, p, z2, z3, by omega, z5, z6⟩)
theorem cw_t0 {M : PM} {sn tn a : Nat} {v : Int32} : cw (wI M 56 0 v) sn tn a = cw M sn tn a := by funext w; unfold cw; simp only [FT_t0]
theorem pair_sure {G : GG} {M : PM} {x : Int32} (h : Rel M) : Pair G m_X8_sure m_X9_sure [.int x] M := by
  have hr := h.eqv (Eqv.t0 M (nI 0))
  obtain ⟨nP, nC, nS, tl, sn, tn, hN⟩ := h
  obtain ⟨c1, c2, c3, c4, c5, c6, c7, c8⟩ := id hN.2.2.2.2.2.2.1
  refine PC.of (d := 899) ok_X8_sure (Nat.le_of_ble_eq_true rfl) (g_X8_sure_0 (c_X7_hasStranger c1 ?_))
  simp only [gI, bI_z]
  refine b2 (fun q => ⟨_, rfl, PC.of (d := 899) ok_X9_sure (Nat.le_of_ble_eq_true rfl) (g_X9_sure_0 (c_X9_isStranger (n := sn) (by simp (disch := omega) only [wI_sA, rdA, rdN, rdL, upd_e, upd_n]; exact c2) c4 ?_))⟩) (fun q => ?_)
  · simp only [gI, bI_z]
    exact b1 q ⟨by trivial, hr⟩
  rcases inR_dec (x := x) (n := sn) (by omega) with ⟨a, ha, rfl⟩ | hno
  case inr => exact absurd hno q
  refine c_X7_onlyWeight hN ha (fun N hS => ?_)
  simp only [gI]
  have hR := hS.1.eqv (Eqv.t0 N (nI 0))
  have ref : ∀ r : Int32, r = uqV (cw N sn tn a) (-9) → PC G 900 m_X9_sure [.ref 56, .int (nI a)] N (fun w N2 => w = some (.int r) ∧ Rel N2) := by
    intro r e
    refine PC.of (d := 899) ok_X9_sure (Nat.le_of_ble_eq_true rfl) (g_X9_sure_0 (c_X9_isStranger (n := sn) hR.2.2.2.2.2.2.1.2.1 c4 ?_))
    simp only [gI, bI_z]
    refine b0 (fun z => z (inR_y ha (by omega))) (c_X9_sure_in (d := 895) hR.2.2.2.2.2.2.1 ha ⟨?_, Rel.of hR⟩)
    rw [cw_t0, e]
  by_cases hu : ∃ o, UQ (cw N sn tn a) o
  · obtain ⟨o, ho⟩ := hu
    have o6 := ho.2.1
    have o1 := ho.1
    rw [uqV_y ho]
    simp (disch := omega) only [nle, nlt, neq, nz, nzl, nzg, nzp, nzn, nneg, nneg9, nI_add, ncl, vin, br_T, br_F, br_p, br_n, true_and, and_true, Nat.zero_add, rdA, rdN]
    exact ⟨_, rfl, ref _ (uqV_y ho).symm⟩
  · rw [uqV_n hu]
    exact b1 rfl ⟨_, rfl, ref _ (uqV_n hu).symm⟩
/-! next -/
noncomputable def oc3 (M : PM) (sn tn a b r : Nat) : Nat := ctP (fun way => FT M tn (dig way) ∧ sgN (dig way a) (dig way b) = nI r - nI 1) (6 ^ sn)
noncomputable def lw (M : PM) (sn tn a b : Nat) : Nat := max (oc3 M sn tn a b 1) (max (oc3 M sn tn a b 0) (oc3 M sn tn a b 2))
theorem oc3_le (M : PM) {sn tn : Nat} (a b r : Nat) (hs : sn ≤ 5) : oc3 M sn tn a b r ≤ 7776 := Nat.le_trans (ctP_le _ _) (p6 hs)
theorem lw_le (M : PM) {sn tn : Nat} (a b : Nat) (hs : sn ≤ 5) : lw M sn tn a b ≤ 7776 := by
  have h0 := oc3_le (tn := tn) M a b 0 hs
  have h1 := oc3_le (tn := tn) M a b 1 hs
  have h2 := oc3_le (tn := tn) M a b 2 hs
  unfold lw; omega
theorem mxI {x y : Nat} (hx : x < 2147483648) (hy : y < 2147483648) : (if nI x < nI y then nI y else nI x) = nI (max x y) := by
  by_cases h : x < y
  · rw [if_pos (by rw [nlt hx hy]; exact h)]; congr 1; omega
  · rw [if_neg (by rw [nlt hx hy]; exact h)]; congr 1; omega
section
variable {nP nC nS tl sn tn : Nat}
theorem lw_val {N : PM} {Q : Option Value → PM → Prop} {a b : Nat} (hN : SD N nP nC nS tl sn tn) (hab : a < b) (hb : b < sn) (hQ : Q (some (.int (nI (lw N sn tn a b)))) N) {G : GG} {d : Nat} : PC G (d + 1) m_X7_outcomeCell [.int (nI a), .int (nI b), .int (nI 0)] N (fun v N2 => gI v (fun r2 => vp_in r2 75 ∧ (vp_in (r2 - (nI 1)) 75 ∧ (vp_in (r2 + (nI 1)) 75 ∧ (Q (some (.int ((if (N2.1 50 r2.toNatClampNeg) < (if (N2.1 50 ((r2 - (nI 1)).toNatClampNeg)) < (N2.1 50 ((r2 + (nI 1)).toNatClampNeg)) then (N2.1 50 ((r2 + (nI 1)).toNatClampNeg)) else (N2.1 50 ((r2 - (nI 1)).toNatClampNeg))) then (if (N2.1 50 ((r2 - (nI 1)).toNatClampNeg)) < (N2.1 50 ((r2 + (nI 1)).toNatClampNeg)) then (N2.1 50 ((r2 + (nI 1)).toNatClampNeg)) else (N2.1 50 ((r2 - (nI 1)).toNatClampNeg))) else (N2.1 50 r2.toNatClampNeg))))) N2))))) := by
  have hs := hN.1.2.2.2.2.2.2.1.2.2.2.1
  refine PC.of ok_X7_outcomeCell (Nat.le_of_ble_eq_true rfl) (g_X7_outcomeCell_0 ?_)
  simp only [gI]
  rw [nmul, nI_add, nmul, nI_add, nI_add, nI_add, nsub (by omega), vin (by omega) (by omega), vin (by omega) (by omega), vin (by omega) (by omega), ncl (by omega), ncl (by omega), ncl (by omega)]
  refine ⟨trivial, trivial, trivial, ?_⟩
  have s0 := hN.2.1.2.2 a b hab hb 0 (by omega)
  have s1 := hN.2.1.2.2 a b hab hb 1 (by omega)
  have s2 := hN.2.1.2.2 a b hab hb 2 (by omega)
  rw [show (a * 5 + b) * 3 + 0 + 1 - 1 = 3 * (5 * a + b) + 0 by omega, show (a * 5 + b) * 3 + 0 + 1 + 1 = 3 * (5 * a + b) + 2 by omega, show (a * 5 + b) * 3 + 0 + 1 = 3 * (5 * a + b) + 1 by omega, s0, s1, s2]
  have h0 := oc3_le (tn := tn) N a b 0 hs
  have h1 := oc3_le (tn := tn) N a b 1 hs
  have h2 := oc3_le (tn := tn) N a b 2 hs
  unfold oc3 at h0 h1 h2
  rw [mxI (by omega) (by omega), mxI (by omega) (by omega)]
  exact hQ
theorem c_X7_lw0 {G : GG} {d : Nat} {M : PM} {Q : Option Value → PM → Prop} {a b : Nat} (hM : RelN M nP nC nS tl sn tn) (hab : a < b) (hb : b < sn) (hQ : ∀ N, SD N nP nC nS tl sn tn → Q (some (.int (nI (lw N sn tn a b)))) N) : PC G (d + 11) m_X7_leftAtWorst [.ref 44, .int (nI a), .int (nI b)] M Q := by
  refine PC.of ok_X7_leftAtWorst (Nat.le_of_ble_eq_true rfl) (g_X7_leftAtWorst_0 (c_X7_survey hM (fun N hN => ?_)))
  simp only [gN]
  exact lw_val hN hab hb (hQ N hN)
theorem c_X7_lw1 {G : GG} {d : Nat} {M : PM} {Q : Option Value → PM → Prop} {a b : Nat} (hM : SD M nP nC nS tl sn tn) (hab : a < b) (hb : b < sn) (hQ : Q (some (.int (nI (lw M sn tn a b)))) M) : PC G (d + 11) m_X7_leftAtWorst [.ref 44, .int (nI a), .int (nI b)] M Q := by
  refine PC.of ok_X7_leftAtWorst (Nat.le_of_ble_eq_true rfl) (g_X7_leftAtWorst_0 (c_X7_survey1 hM.2.2 ?_))
  simp only [gN]
  exact lw_val hM hab hb hQ
/-- the first of the least, among the pairs before a, b -/
def BI (f : Nat → Nat → Nat) (sn a b x y : Nat) : Prop := x < y ∧ y < sn ∧ ((x < a ∨ (x = a ∧ y < b)) ∨ (x = 0 ∧ y = 1)) ∧ ∀ u v, u < v → v < sn → (u < a ∨ (u = a ∧ v < b)) → f x y ≤ f u v ∧ ((u < x ∨ (u = x ∧ v < y)) → f x y < f u v)
theorem BI.u {f : Nat → Nat → Nat} {x y z w : Nat} (h : BI f sn sn 0 x y) (h2 : BI f sn sn 0 z w) : x = z ∧ y = w := by
  obtain ⟨a1, a2, a3, a4⟩ := h
  obtain ⟨b1, b2, b3, b4⟩ := h2
  have p := a4 z w b1 b2 (by omega)
  have q := b4 x y a1 a2 (by omega)
  by_cases e : z < x ∨ (z = x ∧ w < y)
  · have := p.2 e; omega
  · by_cases e2 : x < z ∨ (x = z ∧ y < w)
    · have := q.2 e2; omega
    · omega
theorem BI.no {f : Nat → Nat → Nat} {a b x y : Nat} (h : BI f sn a b x y) (hab : a < b) (hle : f x y ≤ f a b) : BI f sn a (b + 1) x y := by
  obtain ⟨a1, a2, a3, a4⟩ := h
  refine ⟨a1, a2, by omega, fun u v huv hv hp => ?_⟩
  by_cases e : u = a ∧ v = b
  · obtain ⟨rfl, rfl⟩ := e
    exact ⟨hle, fun z => by omega⟩
  · exact a4 u v huv hv (by omega)
theorem BI.up {f : Nat → Nat → Nat} {a b x y : Nat} (h : BI f sn a b x y) (hab : a < b) (hb : b < sn) (hlt : f a b < f x y) : BI f sn a (b + 1) a b := by
  obtain ⟨a1, a2, a3, a4⟩ := h
  refine ⟨hab, hb, by omega, fun u v huv hv hp => ?_⟩
  by_cases e : u = a ∧ v = b
  · obtain ⟨rfl, rfl⟩ := e
    exact ⟨Nat.le_refl _, fun z => by omega⟩
  · have := a4 u v huv hv (by omega)
    exact ⟨by omega, fun _ => by omega⟩
theorem BI.nx {f : Nat → Nat → Nat} {a x y : Nat} (h : BI f sn a sn x y) : BI f sn (a + 1) 0 x y := by
  obtain ⟨a1, a2, a3, a4⟩ := h
  exact ⟨a1, a2, by omega, fun u v huv hv hp => a4 u v huv hv (by omega)⟩
theorem BI.st {f : Nat → Nat → Nat} {a x y : Nat} (h : BI f sn a 0 x y) : BI f sn a (a + 1) x y := by
  obtain ⟨a1, a2, a3, a4⟩ := h
  exact ⟨a1, a2, by omega, fun u v huv hv hp => a4 u v huv hv (by omega)⟩
theorem d10 {x y : Nat} (hx : x < 10) (hy : y < 10) : nI (10 * x + y) / nI 10 = nI x ∧ nI (10 * x + y) - nI (10 * x + y) / nI 10 * nI 10 = nI y := by
  have e : nI (10 * x + y) / nI 10 = nI x := by
    rw [pk_div (by omega) (by omega) (by omega)]; congr 1; omega
  refine ⟨e, ?_⟩
  rw [e, nmul, nsub (by omega)]; congr 1; omega
theorem c_X7_bestPair {G : GG} {d : Nat} {M : PM} {Q : Option Value → PM → Prop} (hM : RelN M nP nC nS tl sn tn) (hQ : ∀ N, SD N nP nC nS tl sn tn → ∀ x y, BI (lw N sn tn) sn sn 0 x y → Q (some (.int (nI (10 * x + y)))) N) : PC G (d + 12) m_X7_bestPair [.ref 44] M Q := by
  obtain ⟨c1, c2, c3, c4, c5, c6, c7, c8⟩ := id hM.2.2.2.2.2.2.1
  refine PC.of ok_X7_bestPair (Nat.le_of_ble_eq_true rfl) (g_X7_bestPair_0 ?_)
  -- one look
  have look : ∀ N, SD N nP nC nS tl sn tn → ∀ a b x y, a < b → b < sn → BI (lw N sn tn) sn a b x y → (∀ x' y', BI (lw N sn tn) sn a (b + 1) x' y' → PX G (d + 11) m_X7_bestPair Q 16 [some (.ref 44), some (.int (nI (10 * x' + y'))), some (.int (nI a)), some (.int (nI (b + 1)))] [] N) → ¬ (nI 10) = 0 ∧ (¬ (nI 10) = 0 ∧ (PC G (d + 11) m_X7_leftAtWorst [.ref 44, .int (nI (10 * x + y) / (nI 10)), .int (nI (10 * x + y) - nI (10 * x + y) / (nI 10) * (nI 10))] N (fun v N2 => gI v (fun r2 => br (r2 ≤ nI (lw N sn tn a b))
      (PX G (d + 11) m_X7_bestPair Q 16 [some (.ref 44), some (.int (nI (10 * x + y))), some (.int (nI a)), some (.int (nI b + nI 1))] [] N2)
      (PX G (d + 11) m_X7_bestPair Q 16 [some (.ref 44), some (.int (((nI 10) * nI a) + nI b)), some (.int (nI a)), some (.int (nI b + nI 1))] [] N2))))) := by
    intro N hN a b x y hab hb hbi nx
    have q1 := hbi.1
    have q2 := hbi.2.1
    obtain ⟨e1, e2⟩ := d10 (x := x) (y := y) (by omega) (by omega)
    rw [e2, e1]
    refine ⟨by decide, by decide, c_X7_lw1 hN hbi.1 hbi.2.1 ?_⟩
    simp only [gI]
    have l1 := lw_le (tn := tn) N a b c4
    have l2 := lw_le (tn := tn) N x y c4
    simp (disch := omega) only [nle, nlt, neq, nz, nzl, nzg, nzp, nzn, nneg, nneg9, nI_add, ncl, vin, br_T, br_F, br_p, br_n, true_and, and_true, Nat.zero_add, rdA, rdN, nmul]
    exact b2 (fun q => nx x y (hbi.no hab q)) (fun q => nx a b (hbi.up hab hb (by omega)))
  have rest : ∀ N, SD N nP nC nS tl sn tn → ∀ a, a < sn → ∀ b, a < b → b ≤ sn → ∀ x y, BI (lw N sn tn) sn a b x y → PX G (d + 11) m_X7_bestPair Q 16 [some (.ref 44), some (.int (nI (10 * x + y))), some (.int (nI a)), some (.int (nI b))] [] N := by
    intro N hN
    have e6 := hN.1.2.2.2.2.2.2.1.1
    have inner : ∀ a, a < sn → (∀ x y, BI (lw N sn tn) sn (a + 1) 0 x y → PX G (d + 11) m_X7_bestPair Q 4 [some (.ref 44), some (.int (nI (10 * x + y))), some (.int (nI (a + 1))), none] [] N) → ∀ b, b ≤ sn → a < b → ∀ x y, BI (lw N sn tn) sn a b x y → PX G (d + 11) m_X7_bestPair Q 16 [some (.ref 44), some (.int (nI (10 * x + y))), some (.int (nI a)), some (.int (nI b))] [] N := by
      intro a ha nxt
      refine up_ind (P := fun b => a < b → ∀ x y, BI (lw N sn tn) sn a b x y → PX G (d + 11) m_X7_bestPair Q 16 [some (.ref 44), some (.int (nI (10 * x + y))), some (.int (nI a)), some (.int (nI b))] [] N) ?_ ?_
      · intro _ x y hbi
        apply g_X7_bestPair_16
        rw [e6]
        simp (disch := omega) only [nle, nlt, neq, nz, nzl, nzg, nzp, nzn, nneg, nneg9, nI_add, ncl, vin, br_T, br_F, br_p, br_n, true_and, and_true, Nat.zero_add, rdA, rdN]
        exact nxt x y hbi.nx
      · intro b hb ih hab x y hbi
        apply g_X7_bestPair_16
        rw [e6]
        rw [nle (by omega) (by omega)]
        refine b0 (by omega) (c_X7_lw1 hN hab hb ?_)
        simp only [gI]
        exact look N hN a b x y hab hb hbi (fun x' y' h' => ih (by omega) x' y' h')
    have outer : ∀ a, a ≤ sn → ∀ x y, BI (lw N sn tn) sn a 0 x y → PX G (d + 11) m_X7_bestPair Q 4 [some (.ref 44), some (.int (nI (10 * x + y))), some (.int (nI a)), none] [] N := by
      refine up_ind (P := fun a => ∀ x y, BI (lw N sn tn) sn a 0 x y → PX G (d + 11) m_X7_bestPair Q 4 [some (.ref 44), some (.int (nI (10 * x + y))), some (.int (nI a)), none] [] N) ?_ ?_
      · intro x y hbi
        apply g_X7_bestPair_4
        rw [e6]
        simp (disch := omega) only [nle, nlt, neq, nz, nzl, nzg, nzp, nzn, nneg, nneg9, nI_add, ncl, vin, br_T, br_F, br_p, br_n, true_and, and_true, Nat.zero_add, rdA, rdN]
        exact hQ N hN x y hbi
      · intro a ha ih x y hbi
        apply g_X7_bestPair_4
        rw [e6]
        simp (disch := omega) only [nle, nlt, neq, nz, nzl, nzg, nzp, nzn, nneg, nneg9, nI_add, ncl, vin, br_T, br_F, br_p, br_n, true_and, and_true, Nat.zero_add, rdA, rdN]
        exact inner a ha ih (a + 1) (by omega) (by omega) x y hbi.st
    intro a ha b hab hb x y hbi
    exact inner a ha (outer (a + 1) (by omega)) b hb hab x y hbi
  apply g_X7_bestPair_4
  rw [c1]
  simp (disch := omega) only [nle, nlt, neq, nz, nzl, nzg, nzp, nzn, nneg, nneg9, nI_add, ncl, vin, br_T, br_F, br_p, br_n, true_and, and_true, Nat.zero_add, rdA, rdN]
  apply g_X7_bestPair_16
  rw [c1, nle (by omega) (by omega)]
  refine b0 (by omega) (c_X7_lw0 hM (by omega) (by omega) (fun N hN => ?_))
  simp only [gI]
  exact look N hN 0 1 0 1 (by omega) (by omega) ⟨by omega, by omega, Or.inr ⟨rfl, rfl⟩, fun u v huv hv hp => absurd hp (by omega)⟩ (fun x' y' h' => rest N hN 0 (by omega) 2 (by omega) (by omega) x' y' h')
end
