/-! moves -/
theorem chg_take {nw st : Nat → Int} {f : List Nat} {e : Nat} (he : e < f.length) : chg nw st 0 (f.take (e + 1)) = chg nw st 0 (f.take e) + (if st f[e] = nw e then 0 else 1) := by
  rw [List.take_succ_eq_append_getElem he, chg_snoc, List.length_take, Nat.zero_add, Nat.min_eq_left (by omega)]
def b9 (n b : Nat) : Int32 := if b ≤ n then nI b else -9
def upM (p : List Nat → Bool) (q : List Nat → Nat) (a : Nat) (f : List Nat) : Nat := if p f then min a (q f) else a
theorem fold_mv {p : List Nat → Bool} {q : List Nat → Nat} {a : Nat} {l : List (List Nat)} : foldS (fun _ => false) (upM p q) a l = mnf p q a l := by
  unfold foldS mnf upM; simp
section MR
variable {p h sl n : Nat} {w nw : Nat → Int} {m0 : Int} {cs : List Nat}
def gM (M : PM) (n : Nat) (a : Nat) (N : PM) : Prop := Fr7 M N ∧ a ≤ n + 1
def HM (G : GG) (d : Nat) (Q : Option Value → PM → Prop) (p n : Nat) (m0 : Int) (k : Nat) (a : Nat) (N : PM) : Prop := PX G d m_X9_moves Q 111 [some (.ref 56), some (.int (nI p)), none, some (.int (zI m0)), some (.int (b9 n a)), some (.int (lvI k)), none, none, none, none] [] N
theorem HM_step {G : GG} {d : Nat} {Q : Option Value → PM → Prop} {M : PM} (hp : p < 3) (hh : h ≤ 4) (hn : n ≤ 8) (hcs : cs.length = n) (hF : SFx (sq h) n w (stp h) m0 sl) (hR : RFx M p h sl cs w) (hnw : ∀ i (hi : i < cs.length), M.1 63 (8 + cs[i]) = zI (nw i)) (hnb : ∀ i, -4 ≤ nw i ∧ nw i ≤ 4) : EStep (2 * h) n (fun _ => true) (fun _ => false) (upM (lev w (stp h) m0 sl) (chg nw (stp h) 0)) (gM M n) (HM G (d + 2) Q p n m0) (fun _ _ => True) := by
  intro a N pre s hk hga _ hpm hpx hs hsS hb
  obtain ⟨f1, f2, f3, f4, f5, f6, f7, f8⟩ := id hF
  have hRN := hga.1.rf hR
  have ham := hga.2
  have e2h : nI 2 * nI h = nI (2 * h) := pk_mul 2 h
  apply g_X9_moves_111
  have lvs : lvI (pre.length + 1) = nI pre.length := rfl
  rw [lvs]
  simp (disch := omega) only [nle, nlt, neq, nz, nzl, nzg, nzp, nzn, nneg, nneg9, nI_add, ncl, vin, br_T, br_F, br_p, br_n, true_and, and_true, Nat.zero_add, rdA, rdN]
  refine (c_X9_freeSeat hp hh hRN.1 (by omega) hpm hpx hs hsS (fun s' q1 q2 q3 q4 => ?_))
  obtain ⟨k1, -, k3, k4⟩ := hb s' q1 q2 q3 q4
  simp only [gI]
  have e67 : (wI N 67 pre.length (nI s')).1 67 pre.length = nI s' := by simp (disch := omega) only [wI_sA, rdA, rdN, rdL, upd_e, upd_n]
  simp (disch := omega) only [nle, nlt, neq, nz, nzl, nzg, nzp, nzn, nneg, nneg9, nI_add, ncl, vin, br_T, br_F, br_p, br_n, true_and, and_true, Nat.zero_add, rdA, rdN, e67, hRN.1, e2h, hRN.2.2.1, hcs]
  refine b2 (fun z => ?_) (fun z => ?_)
  · rw [nsub (by omega)]
    simp (disch := omega) only [nle, nlt, neq, nz, nzl, nzg, nzp, nzn, nneg, nneg9, nI_add, ncl, vin, br_T, br_F, br_p, br_n, true_and, and_true, Nat.zero_add, rdA, rdN]
    refine b2 (fun y => ?_) (fun y => ?_)
    · have hl : pre.length + 1 = n := by omega
      have hpf : preM (wI N 67 pre.length (nI s')) (pre ++ [s']) := hpm.push
      have hfl : (pre ++ [s']).length = n := by simp; omega
      have hfx : ∀ x ∈ pre ++ [s'], x < 2 * h := by
        intro x hx
        rcases List.mem_append.mp hx with y | y
        · exact hpx x y
        · rw [List.mem_singleton] at y; omega
      have k4 := k4 z rfl hl
      have hga2 : gM M n a (wI N 67 pre.length (nI s')) := ⟨hga.1.wr (Or.inl rfl), ham⟩
      generalize wI N 67 pre.length (nI s') = N2 at hpf hga2 ⊢
      generalize pre ++ [s'] = f at hpf hfl hfx k4
      have hRN2 := hga2.1.rf hR
      have hx2 : ∀ x ∈ f, x ∈ sq h := fun x hx => sq_mem.mpr (hfx x hx)
      have hmb := mos_b f4 f5 f 0 hx2
      have hcl := chg_le nw (stp h) f 0
      have lp := up_ind (n := n) (P := fun e => PX G (d + 2) m_X9_moves Q 188 [some (.ref 56), some (.int (nI p)), none, some (.int (zI m0)), some (.int (b9 n a)), some (.int (nI pre.length)), some (.int (zI (m0 + mos w (stp h) 0 (f.take e)))), some (.int (nI (chg nw (stp h) 0 (f.take e)))), some (.int (nI e)), none] [] N2) ?_ ?_ 0 (Nat.zero_le _)
      · simp only [List.take_zero, mos, chg, Int.add_zero] at lp
        exact lp
      · apply g_X9_moves_188
        rw [← hfl, List.take_length, hfl]
        simp (disch := omega) only [nle, nlt, neq, nz, nzl, nzg, nzp, nzn, nneg, nneg9, nI_add, ncl, vin, br_T, br_F, br_p, br_n, true_and, and_true, Nat.zero_add, rdA, rdN, hRN2.2.2.1, hcs]
        refine (c_X9_tiltBy hp ?_)
        simp only [gI]
        rw [hRN2.2.1, tlt_0 (by omega) (by omega) (by omega)]
        refine b2 (fun v => ?_) (fun v => ?_)
        · have hlv : lev w (stp h) m0 sl f = true := by unfold lev; rw [decide_eq_true_eq]; exact v
          have eup : upM (lev w (stp h) m0 sl) (chg nw (stp h) 0) a f = min a (chg nw (stp h) 0 f) := by unfold upM; rw [if_pos hlv]
          rw [eup] at k4
          have k5 := (k4 N2 ⟨hga2.1, by omega⟩ hpf).2 rfl
          unfold HM at k5
          by_cases hc : chg nw (stp h) 0 f < a
          · rw [Nat.min_eq_right (by omega)] at k5
            have e1 : b9 n (chg nw (stp h) 0 f) = nI (chg nw (stp h) 0 f) := by unfold b9; rw [if_pos (by omega)]
            rw [e1] at k5
            refine b2 (fun _ => k5) (fun z9 => ?_)
            have ha : a ≤ n := Classical.byContradiction fun q => z9 (by unfold b9; rw [if_neg q])
            have e2 : b9 n a = nI a := by unfold b9; rw [if_pos ha]
            rw [e2]
            simp (disch := omega) only [nle, nlt, neq, nz, nzl, nzg, nzp, nzn, nneg, nneg9, nI_add, ncl, vin, br_T, br_F, br_p, br_n, true_and, and_true, Nat.zero_add, rdA, rdN]
            exact k5
          · rw [Nat.min_eq_left (by omega)] at k5
            have e2 : b9 n a = nI a := by unfold b9; rw [if_pos (by omega)]
            rw [e2] at k5 ⊢
            simp (disch := omega) only [nle, nlt, neq, nz, nzl, nzg, nzp, nzn, nneg, nneg9, nI_add, ncl, vin, br_T, br_F, br_p, br_n, true_and, and_true, Nat.zero_add, rdA, rdN]
            exact k5
        · have hlv : ¬ lev w (stp h) m0 sl f = true := by unfold lev; rw [decide_eq_true_eq]; exact v
          have eup : upM (lev w (stp h) m0 sl) (chg nw (stp h) 0) a f = a := by unfold upM; rw [if_neg hlv]
          rw [eup] at k4
          exact (k4 N2 hga2 hpf).2 rfl
      · intro e he ih
        apply g_X9_moves_188
        have hpe := hpf e (by omega)
        obtain ⟨r1, r2, r3⟩ := hRN2.2.2.2 e (by omega)
        have r4 : N2.1 63 (8 + cs[e]) = zI (nw e) := by rw [hga2.1.1 63 (by omega) (by omega)]; exact hnw e (by omega)
        simp (disch := omega) only [nle, nlt, neq, nz, nzl, nzg, nzp, nzn, nneg, nneg9, nI_add, ncl, vin, br_T, br_F, br_p, br_n, true_and, and_true, Nat.zero_add, rdA, rdN, hRN2.2.2.1, hcs, hpe, r1]
        refine (c_X9_stepOf hp hh (hfx _ (List.getElem_mem (n := e) (by omega))) hRN2.1 ?_)
        simp only [gI]
        simp (disch := omega) only [nle, nlt, neq, nz, nzl, nzg, nzp, nzn, nneg, nneg9, nI_add, ncl, vin, br_T, br_F, br_p, br_n, true_and, and_true, Nat.zero_add, rdA, rdN, r1]
        have hst := f4 _ (hx2 _ (List.getElem_mem (n := e) (by omega)))
        have hnb := hnb e
        rw [r4, r3, ← zI_mul, ← zI_add, Int.add_assoc, zI_inj (by omega) (by omega) (by omega) (by omega)]
        rw [mos_take (by omega), chg_take (by omega)] at ih
        refine b2 (fun v => ?_) (fun v => ?_)
        · rw [if_pos v] at ih; exact ih
        · rw [if_neg v] at ih; exact ih
    · exact ⟨by rw [vin (by omega) (by omega)]; trivial, k3 z rfl (by omega)⟩
  · have := k1 (by omega)
    rw [lvI_m1]
    exact this
theorem c_X9_moves_in {G : GG} {d : Nat} {M : PM} {Q : Option Value → PM → Prop} {nC nS t : Nat} (hp : p < 3) (h1h : 1 ≤ h) (hh : h ≤ 4) (hC : nC ≤ 8) (hS : nS ≤ 5) (ht : t < 256) (h15 : M.1 56 15 = nI nC) (h16 : M.1 56 16 = nI nS) (h58 : M.1 58 p = nI h) (h59 : M.1 59 p = nI sl) (hw : ∀ i (hi : i < (bitsL t nC).length), M.1 60 (bitsL t nC)[i] = zI (w i)) (hnw : ∀ i (hi : i < (bitsL t nC).length), M.1 63 (8 + (bitsL t nC)[i]) = zI (nw i)) (hnb : ∀ i, -4 ≤ nw i ∧ nw i ≤ 4) (hF : SFx (sq h) (bitsL t nC).length w (stp h) m0 sl) (hm : stR M nS (nI p) = zI m0) (hQ : ∀ N, Frw M N → Q (some (.int (b9 (bitsL t nC).length (mnf (lev w (stp h) m0 sl) (chg nw (stp h) 0) ((bitsL t nC).length + 1) (fil (sq h) (bitsL t nC).length []))))) N) : PX G (d + 2) m_X9_moves Q 19 [some (.ref 56), some (.int (nI p)), some (.int (nI t)), some (.int (nI nC)), none, none, none, none, none, none] [] M := by
  obtain ⟨f1, f2, f3, f4, f5, f6, f7, f8⟩ := id hF
  have hlt : ∀ i (hi : i < (bitsL t nC).length), (bitsL t nC)[i] < 8 := fun i hi => by have := (bitsL_mem.mp (List.getElem_mem hi)).1; omega
  apply g_X9_moves_19
  simp (disch := omega) only [nle, nlt, neq, nz, nzl, nzg, nzp, nzn, nneg, nneg9, nI_add, ncl, vin, br_T, br_F, br_p, br_n, true_and, and_true, Nat.zero_add, rdA, rdN, h15]
  refine (c_X9_seats hC ht h15 (fun f g q1 q2 q3 => ?_))
  simp only [gN]
  have hfr : Frw M (sA (sA M 66 g) 56 f) := ⟨fun q a b => by rw [rdN a, rdN (by omega)], fun k a => by rw [rdA]; exact q1 k a, rfl⟩
  have hRF : RFx (sA (sA M 66 g) 56 f) p h sl (bitsL t nC) w := by
    unfold RFx
    simp (disch := omega) only [wI_sA, rdA, rdN, rdL, upd_e, upd_n]
    exact ⟨h58, h59, q2, fun i hi => ⟨q3 i hi, hlt i hi, hw i hi⟩⟩
  have h16' : (sA (sA M 66 g) 56 f).1 56 16 = nI nS := by simp (disch := omega) only [wI_sA, rdA, rdN, rdL, upd_e, upd_n]; rw [q1 16 (by omega)]; exact h16
  generalize sA (sA M 66 g) 56 f = N at hfr hRF h16' ⊢
  refine c_X9_stonesOn hS h16' ?_
  simp only [gI]
  rw [hfr.st, hm]
  refine c_X9_tiltBy hp ?_
  simp only [gI]
  rw [hRF.2.1, tlt_0 (by omega) (by omega) (by omega)]
  have hnw' : ∀ i (hi : i < (bitsL t nC).length), N.1 63 (8 + (bitsL t nC)[i]) = zI (nw i) := fun i hi => by rw [hfr.1 63 (by omega) (by omega)]; exact hnw i hi
  generalize hcs : bitsL t nC = cs at *
  have fr2 : ∀ N', Fr7 N N' → Frw M N' := fun N' h7 => hfr.trans ⟨fun q a b => h7.1 q (by omega) (by omega), fun k a => by rw [h7.1 56 (by omega) (by omega)], h7.2⟩
  have e0 : (nI 0).toNatClampNeg = 0 := rfl
  have fw : Fr7 N (wI N 67 0 (-1)) := ⟨fun q a b => by rw [wI_sA, rdN a], rfl⟩
  by_cases z : cs.length = 0
  · have hq := hQ _ (fr2 _ fw)
    rw [z] at hq
    simp only [fil, mnf, List.foldl_cons, List.foldl_nil, chg] at hq
    have fin : ∀ x4 : Int32, Q (some (.int x4)) (wI N 67 0 (-1)) → PX G (d + 2) m_X9_moves Q 111 [some (.ref 56), some (.int (nI p)), none, some (.int (zI m0)), some (.int x4), some (.int (-1)), none, none, none, none] [] (wI N 67 0 (-1)) := by
      intro x4 hx
      apply g_X9_moves_111
      exact b1 (by decide) hx
    have vz : vp_in (nI 0) 8 := by rw [vin (by omega) (by omega)]; trivial
    rw [hRF.2.2.1, z]
    refine b2 (fun y => b1 rfl (b1 rfl (fin _ ?_))) (fun y => b1 rfl (fin _ ?_))
    · rw [if_pos (by unfold lev; rw [decide_eq_true_eq]; simpa only [mos, Int.add_zero] using y)] at hq
      exact hq
    · rw [if_neg (by unfold lev; rw [decide_eq_true_eq]; simpa only [mos, Int.add_zero] using y)] at hq
      exact hq
  · have go : PX G (d + 2) m_X9_moves Q 111 [some (.ref 56), some (.int (nI p)), none, some (.int (zI m0)), some (.int (-9)), some (.int (nI 0)), none, none, none, none] [] (wI N 67 0 (-1)) := by
      have hstep := HM_step (G := G) (d := d) (Q := Q) hp hh f3 rfl hF hRF hnw' hnb
      have key := engine hstep (fun k a N hs => by cases hs) (fun a N k v hg => ⟨hg.1.wr (Or.inl rfl), hg.2⟩) (cs.length - 1) (2 * h) 0 (cs.length + 1) (wI N 67 0 (-1)) [] (by omega) (by omega) (by simp; omega) ⟨fw, Nat.le_refl _⟩ rfl (fun i hi => absurd hi (by simp)) (fun x hx => by cases hx) (by simp (disch := omega) only [wI_sA, rdA, rdN, rdL, upd_e, upd_n, List.length_nil]; exact m1n) ?_
      · unfold HM at key
        have e9 : b9 cs.length (cs.length + 1) = -9 := by unfold b9; rw [if_neg (by omega)]
        rw [e9] at key
        exact key
      · intro N' hg' _
        have e1 : flx (frm (2 * h) (fun _ => true) 0) (cs.length - 1) [] (frm (2 * h) (fun _ => true) 0) = fil (sq h) cs.length [] := by
          obtain ⟨j, hj⟩ : ∃ j, cs.length = j + 1 := ⟨cs.length - 1, by omega⟩
          rw [hj, Nat.add_sub_cancel]; rfl
        rw [e1, fold_mv] at hg' ⊢
        refine ⟨fun q => (by cases q), fun _ => ?_⟩
        apply g_X9_moves_111
        exact b1 (by decide) (hQ N' (fr2 N' hg'.1))
    have vz : vp_in (nI 0) 8 := by rw [vin (by omega) (by omega)]; trivial
    simp (disch := omega) only [nle, nlt, neq, nz, nzl, nzg, nzp, nzn, nneg, nneg9, nI_add, ncl, vin, br_T, br_F, br_p, br_n, true_and, and_true, Nat.zero_add, rdA, rdN, hRF.2.2.1]
    refine b2 (fun y => go) (fun y => go)
end MR
theorem pair_moves {G : GG} {M : PM} {x1 : Int32} (h : Rel M) : Pair G m_X8_moves m_X9_moves [.int x1] M := by
  have hr := h.eqv (Eqv.t0 M (nI 0))
  obtain ⟨nP, nC, nS, tl, sn, tn, hN⟩ := h
  have hP3 := hN.1.2.2.1
  have hC8 := hN.1.2.2.2.2.2.1
  have hS5 := hN.1.2.2.2.2.2.2.2.2
  have hN0 := hN.eqv (Eqv.t0 M (nI 0))
  refine PC.of (d := 899) ok_X8_moves (Nat.le_of_ble_eq_true rfl) (g_X8_moves_0 (c_X3_hasPlank hN.1.1 ?_))
  simp only [gI, bI_z]
  refine b2 (fun q => ⟨_, rfl, PC.of (d := 899) ok_X9_moves (Nat.le_of_ble_eq_true rfl) (g_X9_moves_0 (c_X9_isPlank hN0.1.2.1 hP3 ?_))⟩) (fun q => ?_)
  · simp only [gI, bI_z]
    exact b1 q ⟨by trivial, hr⟩
  obtain ⟨p, hp, rfl⟩ := (inR_dec (x := x1) (n := nP) (by omega)).resolve_right q
  have ht : mkN (onC M (nI p)) nC < 256 := by
    have h1 := mkN_lt (onC M (nI p)) nC
    have h2 : 2 ^ nC ≤ 2 ^ 8 := Nat.pow_le_pow_right (by decide) hC8
    omega
  refine c_X4_childrenOn hC8 hN.1.2.2.2.1 ?_
  simp only [gI]
  generalize hte : mkN (onC M (nI p)) nC = t at ht ⊢
  obtain ⟨hh, sl, m0, a1, a2, a3, b1', b2', c3, hF⟩ := ways_data hN hp t
  have hlen := bitsL_le t nC
  have hnb : ∀ i, -4 ≤ wB M 9 (bitsL t nC) i ∧ wB M 9 (bitsL t nC) i ≤ 4 := by
    intro i
    unfold wB
    by_cases hi : i < (bitsL t nC).length
    · rw [if_pos hi, getD_g hi]
      obtain ⟨z, z1, z2, z3⟩ := sp_b (hN.2.2.1.c (bitsL_mem.mp (List.getElem_mem hi)).1) (fun p hp => by obtain ⟨h, -, h4, e, -⟩ := hN.2.1.1 p hp; exact ⟨h, h4, e⟩)
      rw [z3, zI_toInt (by omega) (by omega)]
      exact ⟨z1, z2⟩
    · rw [if_neg hi]; omega
  refine c_X8_askWays (d := 897) (by omega) a2 hC8 hS5 hN.1.2.2.2.1 hN.1.2.2.2.2.2.2.1 a3 (fun N hA => ?_)
  rw [b2'] at hA
  simp only [gN]
  refine PC.dp (896 - (bitsL t nC).length + (bitsL t nC).length + 3) (by omega) (c_X5_fewestChanges (nw := wB M 9 (bitsL t nC)) hF hnb hA.sm (by rw [hA.2.2.2.1, c3]) (fun b hb => ?_) (fun N2 hf2 => ?_))
  · have := (hA.2.2.2.2.2.2 b (by rw [List.length_map]; exact hb)).2
    rw [this, List.getElem_map, wB_z hb]
  simp only [gI]
  have he := (hA.1.trans hf2).eqv
  have he0 := he.trans (Eqv.t0 N2 (nI 0))
  have hN2 := hN.eqv he0
  have ref : PC G 900 m_X9_moves [.ref 56, .int (nI p)] N2 (fun w N3 => w = some (.int (b9 (bitsL t nC).length (mnf (lev (wB M 4 (bitsL t nC)) (stp hh) m0 sl) (chg (wB M 9 (bitsL t nC)) (stp hh) 0) ((bitsL t nC).length + 1) (fil (sq hh) (bitsL t nC).length [])))) ∧ Rel N3) := by
    refine PC.of (d := 899) ok_X9_moves (Nat.le_of_ble_eq_true rfl) (g_X9_moves_0 (c_X9_isPlank hN2.1.2.1 hP3 ?_))
    simp only [gI, bI_z]
    refine b0 (fun z => z (inR_y hp (by omega))) ?_
    have key := up_ind (n := nC) (P := fun c => PX G 899 m_X9_moves (fun w N3 => w = some (.int (b9 (bitsL t nC).length (mnf (lev (wB M 4 (bitsL t nC)) (stp hh) m0 sl) (chg (wB M 9 (bitsL t nC)) (stp hh) 0) ((bitsL t nC).length + 1) (fil (sq hh) (bitsL t nC).length [])))) ∧ Rel N3) 19 [some (.ref 56), some (.int (nI p)), some (.int (nI (mkN (onC M (nI p)) c))), some (.int (nI c)), none, none, none, none, none, none] [] (wI N2 56 0 (nI 0))) ?_ ?_ 0 (Nat.zero_le _)
    · exact key
    · rw [hte]
      refine c_X9_moves_in (d := 897) (by omega) a1 a2 hC8 hS5 ht hN2.1.2.2.2.2.1 hN2.1.2.2.2.2.2.2.2.1 (ref_58 hN2 he0 hp a3) (ref_59 hN2 he0 hp b2') (ref_w hN2 he0) (fun i hi => ?_) hnb hF (ref_st hN2 he0 hp c3) (fun N3 hf3 => ⟨rfl, Rel.of (hN2.eqv hf3.eqv)⟩)
      rw [wB_z hi, ← he0.rd 9 (by omega)]
      rcases hN2.2.2.1.c (bitsL_mem.mp (List.getElem_mem hi)).1 with ⟨z1, z2, z3⟩ | ⟨z1, z2, -⟩
      · rw [z1, z3]
      · exact z2
    · intro c hc ih
      apply g_X9_moves_19
      simp (disch := omega) only [nle, nlt, neq, nz, nzl, nzg, nzp, nzn, nneg, nneg9, nI_add, ncl, vin, br_T, br_F, br_p, br_n, true_and, and_true, Nat.zero_add, rdA, rdN, hN2.1.2.2.2.2.1]
      have e8 := he0.rd 8 (by omega)
      have e9 := he0.rd 9 (by omega)
      have sp := hN2.2.2.1.c hc
      rw [e8, e9] at sp
      rw [mkN] at ih
      refine b2 (fun z => ?_) (fun z => ?_)
      · rw [or_bit (by omega) (mkN_lt _ _)]
        have : onC M (nI p) c = true := by
          rcases sp with ⟨z1, z2, z3⟩ | ⟨z1, z2, z3, -⟩
          · rw [z2] at z; exact absurd z (m9n (by omega))
          · rw [z1] at z
            simp [onC, z3, z]
        rw [if_pos this] at ih
        exact ih
      · have : ¬ onC M (nI p) c = true := by
          rcases sp with ⟨z1, z2, z3⟩ | ⟨z1, z2, z3, -⟩
          · simp [onC, z1]
          · rw [z1] at z
            simp [onC, z]
        rw [if_neg this, Nat.add_zero] at ih
        rw [fa_or, Nat.or_zero]
        exact ih
  unfold b9 at ref
  by_cases z : mnf (lev (wB M 4 (bitsL t nC)) (stp hh) m0 sl) (chg (wB M 9 (bitsL t nC)) (stp hh) 0) ((bitsL t nC).length + 1) (fil (sq hh) (bitsL t nC).length []) ≤ (bitsL t nC).length
  · rw [if_pos z] at ref ⊢
    simp (disch := omega) only [nle, nlt, neq, nz, nzl, nzg, nzp, nzn, nneg, nneg9, nI_add, ncl, vin, br_T, br_F, br_p, br_n, true_and, and_true, Nat.zero_add, rdA, rdN]
    exact ⟨_, rfl, ref⟩
  · rw [if_neg z] at ref ⊢
    exact b0 (by decide) ⟨_, rfl, ref⟩
