/-! ballast: the reference -/
def atSR (M : PM) (nS : Nat) (p t : Int32) : Prop := ∃ c, c < nS ∧ M.1 63 (24 + c) = p ∧ M.1 63 (29 + c) = t
theorem c_X9_hasStone {G : GG} {d : Nat} {M : PM} {Q : Option Value → PM → Prop} {n : Nat} {p t : Int32} (hn : n ≤ 5) (hM : M.1 56 16 = nI n) (hQ : Q (some (.int (bI (atSR M n p t)))) M) : PC G (d + 1) m_X9_hasStone [.ref 56, .int p, .int t] M Q := by
  refine PC.of ok_X9_hasStone (Nat.le_of_ble_eq_true rfl) (g_X9_hasStone_0 ?_)
  have key := up_ind (n := n) (P := fun k => PX G d m_X9_hasStone Q 5 [some (.ref 56), some (.int p), some (.int t), some (.int (bI (atSR M k p t))), some (.int (nI k))] [] M) ?_ ?_ 0 (Nat.zero_le _)
  · rw [bI_f (fun ⟨c, hc, _⟩ => absurd hc (by omega))] at key
    exact key
  · apply g_X9_hasStone_5
    simp (disch := omega) only [nle, nlt, neq, nz, nzl, nzg, nzp, nzn, nneg, nneg9, nI_add, ncl, vin, br_T, br_F, br_p, br_n, true_and, and_true, Nat.zero_add, rdA, rdN, hM]
    exact ⟨bI_01 _, hQ⟩
  · intro k hk ih
    apply g_X9_hasStone_5
    simp (disch := omega) only [nle, nlt, neq, nz, nzl, nzg, nzp, nzn, nneg, nneg9, nI_add, ncl, vin, br_T, br_F, br_p, br_n, true_and, and_true, Nat.zero_add, rdA, rdN, hM, bI_z]
    have no : ¬ atSR M k p t → ¬ (M.1 63 (24 + k) = p ∧ M.1 63 (29 + k) = t) → ¬ atSR M (k + 1) p t := fun z y ⟨c, hc, y1, y2⟩ => by
      by_cases e : c = k
      · subst e; exact y ⟨y1, y2⟩
      · exact z ⟨c, by omega, y1, y2⟩
    refine b2 (fun z => b2 (fun z1 => b2 (fun z2 => ?_) (fun z2 => ?_)) (fun z1 => ?_)) (fun z => ?_)
    · rw [bI_t ⟨k, by omega, z1, z2⟩] at ih; exact ih
    · rw [bI_f (no z (fun q => z2 q.2))] at ih; exact ih
    · rw [bI_f (no z (fun q => z1 q.1))] at ih; exact ih
    · obtain ⟨c, hc, y⟩ := Classical.not_not.mp z
      rw [bI_t ⟨c, by omega, y⟩] at ih; exact ih
def upL (p : List Nat → Bool) (a : Bool) (f : List Nat) : Bool := a || p f
theorem fold_any {p : List Nat → Bool} : ∀ (l : List (List Nat)), foldS (fun a => a) (upL p) false l = l.any p
  | [] => rfl
  | f :: l => by
    have e : foldS (fun a => a) (upL p) false (f :: l) = foldS (fun a => a) (upL p) (p f) l := by unfold foldS upL; simp
    rw [e, List.any_cons]
    by_cases h : p f = true
    · rw [h, foldS_stop rfl]; rfl
    · have : p f = false := by rw [Bool.eq_false_iff]; exact h
      rw [this, fold_any l]; rfl
section LR
variable {p h sl n nS : Nat} {w : Nat → Int} {m0 : Int} {cs : List Nat} {ok : Nat → Bool}
def RLx (N : PM) (p h sl nS : Nat) (cs : List Nat) (w : Nat → Int) (ok : Nat → Bool) : Prop := N.1 58 p = nI h ∧ N.1 59 p = nI sl ∧ N.1 56 16 = nI nS ∧ (∀ i (hi : i < cs.length), N.1 66 i = nI cs[i] ∧ cs[i] < 8 ∧ N.1 62 cs[i] = zI (w i)) ∧ ∀ x, x < 2 * h → (ok x = true ↔ ¬ atSR N nS (nI p) (zI (stp h x)))
theorem Fr7.rl {M N : PM} (h7 : Fr7 M N) (hR : RLx M p h sl nS cs w ok) : RLx N p h sl nS cs w ok := by
  unfold RLx atSR; rw [h7.1 58 (by omega) (by omega), h7.1 59 (by omega) (by omega), h7.1 56 (by omega) (by omega), h7.1 66 (by omega) (by omega), h7.1 62 (by omega) (by omega), h7.1 63 (by omega) (by omega)]; exact hR
def HLv (G : GG) (d : Nat) (Q : Option Value → PM → Prop) (p n : Nat) (m0 : Int) (k : Nat) (a : Bool) (N : PM) : Prop := (a = true → Q (some (.int (nI 1))) N) ∧ (a = false → PX G d m_X9_levels Q 78 [some (.ref 56), some (.int (nI p)), none, some (.int (nI n)), some (.int (zI m0)), some (.int (lvI k)), none, none] [] N)
theorem HLv_step {G : GG} {d : Nat} {Q : Option Value → PM → Prop} {M : PM} (hp : p < 3) (hh : h ≤ 4) (hS : nS ≤ 5) (hn : n ≤ 8) (hcs : cs.length = n) (hF : SFx (frm (2 * h) ok 0) n w (stp h) m0 sl) (hR : RLx M p h sl nS cs w ok) : EStep (2 * h) n ok (fun a => a) (upL (lev w (stp h) m0 sl)) (fun _ N => Fr7 M N) (HLv G (d + 2) Q p n m0) (fun _ N => Q (some (.int (nI 1))) N) := by
  intro a N pre s hk hga hsa hpm hpx hs hsS hb
  subst hsa
  obtain ⟨f1, f2, f3, f4, f5, f6, f7, f8⟩ := id hF
  have hRN := hga.rl hR
  have e2h : nI 2 * nI h = nI (2 * h) := pk_mul 2 h
  refine ⟨fun z => (by cases z), fun _ => ?_⟩
  apply g_X9_levels_78
  have lvs : lvI (pre.length + 1) = nI pre.length := rfl
  rw [lvs]
  simp (disch := omega) only [nle, nlt, neq, nz, nzl, nzg, nzp, nzn, nneg, nneg9, nI_add, ncl, vin, br_T, br_F, br_p, br_n, true_and, and_true, Nat.zero_add, rdA, rdN]
  refine (c_X9_freeSeat hp hh hRN.1 (by omega) hpm hpx hs hsS (fun s' q1 q2 q3 q4 => ?_))
  obtain ⟨k1, k2, k3, k4⟩ := hb s' q1 q2 q3 q4
  simp only [gI]
  have e67 : (wI N 67 pre.length (nI s')).1 67 pre.length = nI s' := by simp (disch := omega) only [wI_sA, rdA, rdN, rdL, upd_e, upd_n]
  simp (disch := omega) only [nle, nlt, neq, nz, nzl, nzg, nzp, nzn, nneg, nneg9, nI_add, ncl, vin, br_T, br_F, br_p, br_n, true_and, and_true, Nat.zero_add, rdA, rdN, e67, hRN.1, e2h]
  refine b2 (fun z => ?_) (fun z => ?_)
  · have hga2 : Fr7 M (wI N 67 pre.length (nI s')) := hga.wr (Or.inl rfl)
    have hpf : preM (wI N 67 pre.length (nI s')) (pre ++ [s']) := hpm.push
    have hRN2 := hga2.rl hR
    refine c_X9_stepOf hp hh z hRN2.1 ?_
    simp only [gI]
    refine c_X9_hasStone hS hRN2.2.2.1 ?_
    simp only [gI, bI_z]
    have k2 := k2 z
    have k3 := k3 z
    have k4 := k4 z
    have hok := hRN2.2.2.2.2 s' z
    generalize wI N 67 pre.length (nI s') = N2 at hpf hga2 hRN2 k2 k3 hok ⊢
    refine b2 (fun y => ?_) (fun y => ?_)
    · have oks : ok s' = true := hok.mpr y
      rw [nsub (by omega)]
      simp (disch := omega) only [nle, nlt, neq, nz, nzl, nzg, nzp, nzn, nneg, nneg9, nI_add, ncl, vin, br_T, br_F, br_p, br_n, true_and, and_true, Nat.zero_add, rdA, rdN]
      refine b2 (fun y2 => ?_) (fun y2 => ?_)
      · have hl : pre.length + 1 = n := by omega
        have hfl : (pre ++ [s']).length = n := by simp; omega
        have hfx : ∀ x ∈ pre ++ [s'], x < 2 * h := by
          intro x hx
          rcases List.mem_append.mp hx with y | y
          · exact hpx x y
          · rw [List.mem_singleton] at y; omega
        have k4 := k4 oks hl
        generalize pre ++ [s'] = f at hpf hfl hfx k4
        have hx2 : ∀ x ∈ f, x ∈ sq h := fun x hx => sq_mem.mpr (hfx x hx)
        have hst : ∀ x ∈ sq h, -4 ≤ stp h x ∧ stp h x ≤ 4 := fun x hx => by have := stp_b hh (sq_mem.mp hx); omega
        have hmb := mos_b hst f5 f 0 hx2
        have lp := up_ind (n := n) (P := fun e => PX G (d + 2) m_X9_levels Q 170 [some (.ref 56), some (.int (nI p)), none, some (.int (nI n)), some (.int (zI m0)), some (.int (nI pre.length)), some (.int (zI (m0 + mos w (stp h) 0 (f.take e)))), some (.int (nI e))] [] N2) ?_ ?_ 0 (Nat.zero_le _)
        · simp only [List.take_zero, mos, Int.add_zero] at lp
          exact lp
        · apply g_X9_levels_170
          rw [← hfl, List.take_length, hfl]
          simp only [n01b, true_and]
          simp (disch := omega) only [nle, nlt, neq, nz, nzl, nzg, nzp, nzn, nneg, nneg9, nI_add, ncl, vin, br_T, br_F, br_p, br_n, true_and, and_true, Nat.zero_add, rdA, rdN]
          refine (c_X9_tiltBy hp ?_)
          simp only [gI]
          rw [hRN2.2.1, tlt_0 (by omega) (by omega) (by omega)]
          refine b2 (fun v => ?_) (fun v => ?_)
          · have hlv : lev w (stp h) m0 sl f = true := by unfold lev; rw [decide_eq_true_eq]; exact v
            have eup : upL (lev w (stp h) m0 sl) false f = true := by unfold upL; rw [hlv]; rfl
            rw [eup] at k4
            exact (k4 N2 hga2 hpf).1 rfl
          · have hlv : lev w (stp h) m0 sl f = false := by rw [Bool.eq_false_iff]; unfold lev; rw [ne_eq, decide_eq_true_eq]; exact v
            have eup : upL (lev w (stp h) m0 sl) false f = false := by unfold upL; rw [hlv]; rfl
            rw [eup] at k4
            exact ((k4 N2 hga2 hpf).2 rfl).2 rfl
        · intro e he ih
          apply g_X9_levels_170
          have hpe := hpf e (by omega)
          obtain ⟨r1, r2, r3⟩ := hRN2.2.2.2.1 e (by omega)
          simp (disch := omega) only [nle, nlt, neq, nz, nzl, nzg, nzp, nzn, nneg, nneg9, nI_add, ncl, vin, br_T, br_F, br_p, br_n, true_and, and_true, Nat.zero_add, rdA, rdN, hpe, r1]
          refine (c_X9_stepOf hp hh (hfx _ (List.getElem_mem (n := e) (by omega))) hRN2.1 ?_)
          simp only [gI]
          rw [r3, ← zI_mul, ← zI_add, Int.add_assoc]
          rw [mos_take (by omega)] at ih
          exact ih
      · exact ⟨by rw [vin (by omega) (by omega)]; trivial, (k3 oks (by omega)).2 rfl⟩
    · have oks : ok s' = false := by rw [Bool.eq_false_iff]; exact fun q => y (hok.mp q)
      exact (k2 oks).2 rfl
  · have := (k1 (by omega)).2 rfl
    rw [lvI_m1]
    exact this
theorem c_X9_levels {G : GG} {d : Nat} {M : PM} {Q : Option Value → PM → Prop} {nC t : Nat} (hp : p < 3) (hh : h ≤ 4) (hC : nC ≤ 8) (hS : nS ≤ 5) (ht : t < 256) (h15 : M.1 56 15 = nI nC) (h16 : M.1 56 16 = nI nS) (h58 : M.1 58 p = nI h) (h59 : M.1 59 p = nI sl) (hw : ∀ i (hi : i < (bitsL t nS).length), M.1 62 (bitsL t nS)[i] = zI (w i)) (hok : ∀ x, x < 2 * h → (ok x = true ↔ ¬ atSR M nS (nI p) (zI (stp h x)))) (hF : SFx (frm (2 * h) ok 0) (bitsL t nS).length w (stp h) m0 sl) (hm : moR M nC nS (nI p) = zI m0) (hQ : ∀ N, Frw M N → Q (some (.int (bI ((fil (frm (2 * h) ok 0) (bitsL t nS).length []).any (lev w (stp h) m0 sl) = true)))) N) : PC G (d + 3) m_X9_levels [.ref 56, .int (nI p), .int (nI t)] M Q := by
  obtain ⟨f1, f2, f3, f4, f5, f6, f7, f8⟩ := id hF
  have hlt : ∀ i (hi : i < (bitsL t nS).length), (bitsL t nS)[i] < 8 := fun i hi => by have := (bitsL_mem.mp (List.getElem_mem hi)).1; omega
  refine PC.of ok_X9_levels (Nat.le_of_ble_eq_true rfl) (g_X9_levels_0 ?_)
  have key := up_ind (n := nS) (P := fun k => ∀ g : Nat → Int32, (∀ i (h : i < (bitsL t k).length), g i = nI (bitsL t k)[i]) → PX G (d + 2) m_X9_levels Q 5 [some (.ref 56), some (.int (nI p)), some (.int (nI t)), some (.int (nI (bitsL t k).length)), some (.int (nI k)), none, none, none] [] (sA M 66 g)) ?_ ?_ 0 (Nat.zero_le _)
  · have k0 := key (M.1 66) (fun i h => absurd h (by simp [bitsL]))
    rw [sA_self] at k0
    exact k0
  · intro g hg
    apply g_X9_levels_5
    have e16 : (sA M 66 g).1 56 16 = nI nS := by simp (disch := omega) only [wI_sA, rdA, rdN, rdL, upd_e, upd_n]; exact h16
    have e15 : (sA M 66 g).1 56 15 = nI nC := by simp (disch := omega) only [wI_sA, rdA, rdN, rdL, upd_e, upd_n]; exact h15
    simp only [n01a, n01b, true_and]
    simp (disch := omega) only [nle, nlt, neq, nz, nzl, nzg, nzp, nzn, nneg, nneg9, nI_add, ncl, vin, br_T, br_F, br_p, br_n, true_and, and_true, Nat.zero_add, rdA, rdN, e16]
    refine c_X9_momentOf hC hS e15 e16 ?_
    have emo : moR (sA M 66 g) nC nS (nI p) = zI m0 := by
      rw [← hm]; unfold moR moRf stR stRf
      simp (disch := omega) only [wI_sA, rdA, rdN, rdL, upd_e, upd_n]
    have hfr : Frw M (sA M 66 g) := Frw.ar (by omega)
    have hRL : RLx (sA M 66 g) p h sl nS (bitsL t nS) w ok := by
      unfold RLx atSR
      simp (disch := omega) only [wI_sA, rdA, rdN, rdL, upd_e, upd_n]
      exact ⟨h58, h59, h16, fun i hi => ⟨hg i hi, hlt i hi, hw i hi⟩, hok⟩
    simp only [gI]
    rw [emo]
    generalize sA M 66 g = N at hfr hRL ⊢
    generalize hcs : bitsL t nS = cs at *
    refine b2 (fun z => ?_) (fun z => ?_)
    · refine c_X9_tiltBy hp ?_
      simp only [gI]
      rw [hRL.2.1, tlt_0 (by omega) (by omega) (by omega)]
      have hq := hQ N hfr
      rw [z, fil, List.any_cons, List.any_nil, Bool.or_false] at hq
      refine b2 (fun y => ?_) (fun y => ?_)
      · rw [bI_t (by unfold lev; rw [decide_eq_true_eq]; simpa only [mos, Int.add_zero] using y)] at hq
        exact hq
      · rw [bI_f (by unfold lev; rw [decide_eq_true_eq]; simpa only [mos, Int.add_zero] using y)] at hq
        exact hq
    · have hstep := HLv_step (G := G) (d := d) (Q := Q) hp hh hS f3 rfl hF hRL
      have hg1 : Fr7 N (wI N 67 0 (-1)) := ⟨fun q a b => by rw [wI_sA, rdN a], rfl⟩
      have key := engine hstep (fun k a N hs hX => ⟨fun _ => hX, fun q => by rw [hs] at q; cases q⟩) (fun a N k v hg => hg.wr (Or.inl rfl)) (cs.length - 1) (2 * h) 0 false (wI N 67 0 (-1)) [] (by omega) (by omega) (by simp; omega) hg1 rfl (fun i hi => absurd hi (by simp)) (fun x hx => by cases hx) (by simp (disch := omega) only [wI_sA, rdA, rdN, rdL, upd_e, upd_n, List.length_nil]; exact m1n) ?_
      · exact key.2 rfl
      · intro N' hg' _
        have e1 : flx (frm (2 * h) ok 0) (cs.length - 1) [] (frm (2 * h) ok 0) = fil (frm (2 * h) ok 0) cs.length [] := by
          obtain ⟨j, hj⟩ : ∃ j, cs.length = j + 1 := ⟨cs.length - 1, by omega⟩
          rw [hj, Nat.add_sub_cancel]; rfl
        rw [e1, fold_any]
        have hfr2 : Frw M N' := hfr.trans ⟨fun q a b => hg'.1 q (by omega) (by omega), fun k a => by rw [hg'.1 56 (by omega) (by omega)], hg'.2⟩
        have hq := hQ N' hfr2
        refine ⟨fun y => ?_, fun y => ⟨fun q => (by rw [y] at q; cases q), fun _ => ?_⟩⟩
        · rw [bI_t y] at hq; exact hq
        · rw [bI_f (by rw [y]; decide)] at hq
          apply g_X9_levels_78
          simp only [n01a, n01b, true_and]
          exact b1 (by decide) hq
  · intro k hk ih g hg
    apply g_X9_levels_5
    have e16 : (sA M 66 g).1 56 16 = nI nS := by simp (disch := omega) only [wI_sA, rdA, rdN, rdL, upd_e, upd_n]; exact h16
    have hlen := bitsL_le t k
    simp (disch := omega) only [nle, nlt, neq, nz, nzl, nzg, nzp, nzn, nneg, nneg9, nI_add, ncl, vin, br_T, br_F, br_p, br_n, true_and, and_true, Nat.zero_add, rdA, rdN, e16]
    rw [shr1 t ht k (by omega), neq (by split <;> omega) (by omega)]
    have hs := bitsL_s (t := t) (n := k)
    refine b2 (fun z => ?_) (fun z => ?_)
    · have hb : t.testBit k = true := by
        apply Classical.byContradiction
        intro q
        rw [if_neg q] at z; omega
      rw [if_pos hb] at hs
      have hl : (bitsL t (k + 1)).length = (bitsL t k).length + 1 := by rw [hs]; simp
      have e := ih (upd g (bitsL t k).length (nI k)) (fun i hi => by
        rw [hl] at hi
        by_cases q : i = (bitsL t k).length
        · subst q
          rw [upd_e]
          simp only [hs]
          simp
        · rw [upd_n q, hg i (by omega)]
          simp only [hs]
          rw [List.getElem_append_left (by omega)])
      rw [hl] at e
      rw [wI_sA, sA_sA, rdA]
      exact e
    · have hb : ¬ t.testBit k = true := fun q => z (by rw [if_pos q])
      rw [if_neg hb, List.append_nil] at hs
      have e := ih g (fun i hi => by
        simp only [hs]
        exact hg i (by rw [hs] at hi; exact hi))
      rw [hs] at e
      exact e
end LR
