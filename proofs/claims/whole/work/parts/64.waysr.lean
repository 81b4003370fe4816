/-! the reference's ways -/
def Frw (M N : PM) : Prop := (∀ q, ¬ q = 56 → ¬ (66 ≤ q ∧ q ≤ 68) → N.1 q = M.1 q) ∧ (∀ k, ¬ k = 24 → N.1 56 k = M.1 56 k) ∧ N.2 = M.2
theorem Frw.refl (M : PM) : Frw M M := ⟨fun _ _ _ => rfl, fun _ _ => rfl, rfl⟩
theorem Frw.trans {A B C : PM} (h : Frw A B) (h2 : Frw B C) : Frw A C := ⟨fun q a b => (h2.1 q a b).trans (h.1 q a b), fun k a => (h2.2.1 k a).trans (h.2.1 k a), h2.2.2.trans h.2.2⟩
theorem Frw.ar {M : PM} {q : Nat} {f : Nat → Int32} (hq : 66 ≤ q ∧ q ≤ 68) : Frw M (sA M q f) := ⟨fun r _ b => by rw [rdN (by omega)], fun k _ => by rw [rdN (by omega)], rfl⟩
theorem Frw.wr {M : PM} {q k : Nat} {v : Int32} (hq : 66 ≤ q ∧ q ≤ 68) : Frw M (wI M q k v) := by rw [wI_sA]; exact Frw.ar hq
theorem Frw.eqv {M N : PM} (h : Frw M N) : Eqv M N := by
  refine ⟨fun q k hs => ?_, by rw [h.2.2], by rw [h.2.2]⟩
  by_cases e : q = 56
  · subst e
    refine h.2.1 k (fun z => ?_)
    subst z; revert hs; decide
  · by_cases e2 : 66 ≤ q ∧ q ≤ 68
    · exfalso
      unfold scr at hs
      simp only [Bool.or_eq_false_iff, decide_eq_false_iff_not] at hs
      omega
    · rw [h.1 q e e2]
theorem Frw.st {M N : PM} (h : Frw M N) {nS : Nat} {p : Int32} : stR N nS p = stR M nS p := by
  unfold stR stRf
  rw [h.1 63 (by omega) (by omega), h.1 62 (by omega) (by omega)]
theorem tlt_0 {sl : Nat} {m : Int} (hs : sl ≤ 1000) (h1 : -100000 ≤ m) (h2 : m ≤ 100000) : (tlt (nI sl) (zI m) = 0) = (m ≤ sl ∧ -m ≤ sl) := by
  rw [← absI_le (by omega) (by omega) (by omega) (by omega), zI_n]
  unfold tlt
  by_cases h : nI sl < absI (zI m)
  · rw [if_pos h]
    have : ¬ absI (zI m) ≤ nI sl := Int32.not_le.mpr h
    simp only [this, eq_iff_iff, iff_false]
    split <;> decide
  · rw [if_neg h]
    have : absI (zI m) ≤ nI sl := Int32.not_lt.mp h
    simp only [this, eq_iff_iff, iff_true]
    decide
theorem getD_g {l : List Nat} {i : Nat} (h : i < l.length) : l.getD i 0 = l[i] := by simp [List.getD, h]
def lvI : Nat → Int32
  | 0 => -1
  | k + 1 => nI k
theorem lvI_m1 (k : Nat) : nI k + (-1) = lvI k := by
  cases k with
  | zero => decide
  | succ k => exact pk_m1 k
def sq (h : Nat) : List Nat := frm (2 * h) (fun _ => true) 0
theorem sq_eq (h : Nat) : sq h = List.range' 0 (2 * h) := by unfold sq frm; rw [Nat.sub_zero]; exact List.filter_eq_self.mpr (fun _ _ => rfl)
theorem sq_len (h : Nat) : (sq h).length = 2 * h := by simp [sq_eq]
theorem sq_get {h i : Nat} (hi : i < (sq h).length) : (sq h)[i] = i := by simp [sq_eq]
theorem sq_mem {h x : Nat} : x ∈ sq h ↔ x < 2 * h := by simp [sq_eq]
theorem sq_nd (h : Nat) : (sq h).Nodup := by rw [sq_eq]; exact List.nodup_range'
abbrev WS : Type := Nat × List Nat
def upW (w st : Nat → Int) (m0 : Int) (sl : Nat) (a : WS) (f : List Nat) : WS := if lev w st m0 sl f then (a.1 + 1, if a.1 = 0 then f else a.2) else a
def stopW (mo : Nat) (a : WS) : Bool := decide (mo ≤ a.1)
section WR
variable {p h sl n mo : Nat} {w : Nat → Int} {m0 : Int} {cs : List Nat}
/-- what the search reads -/
def RFx (N : PM) (p h sl : Nat) (cs : List Nat) (w : Nat → Int) : Prop := N.1 58 p = nI h ∧ N.1 59 p = nI sl ∧ N.1 56 24 = nI cs.length ∧ ∀ i (hi : i < cs.length), N.1 66 i = nI cs[i] ∧ cs[i] < 8 ∧ N.1 60 cs[i] = zI (w i)
def Fr7 (M N : PM) : Prop := (∀ q, ¬ q = 67 → ¬ q = 68 → N.1 q = M.1 q) ∧ N.2 = M.2
theorem Fr7.wr {M N : PM} {k q : Nat} {v : Int32} (h : Fr7 M N) (hq : q = 67 ∨ q = 68) : Fr7 M (wI N q k v) := ⟨fun r a b => by rw [wI_sA, rdN (by omega)]; exact h.1 r a b, h.2⟩
theorem Fr7.rf {M N : PM} (h7 : Fr7 M N) (hR : RFx M p h sl cs w) : RFx N p h sl cs w := by
  unfold RFx; rw [h7.1 58 (by omega) (by omega), h7.1 59 (by omega) (by omega), h7.1 56 (by omega) (by omega), h7.1 66 (by omega) (by omega), h7.1 60 (by omega) (by omega)]; exact hR
def gW (M : PM) (h n mo : Nat) (a : WS) (N : PM) : Prop := Fr7 M N ∧ a.1 ≤ mo ∧ (0 < a.1 → ∀ e, e < n → N.1 68 e = zI (stp h (a.2.getD e 0)))
def HW (G : GG) (d : Nat) (Q : Option Value → PM → Prop) (p mo : Nat) (m0 : Int) (k : Nat) (a : WS) (N : PM) : Prop := PX G d m_X9_waysOf Q 48 [some (.ref 56), some (.int (nI p)), none, some (.int (nI mo)), some (.int (zI m0)), some (.int (nI a.1)), some (.int (lvI k)), none, none] [] N
def XW (Q : Option Value → PM → Prop) (mo : Nat) (a : WS) (N : PM) : Prop := a.1 ≤ mo ∧ Q (some (.int (nI a.1))) N
theorem HW_stop {G : GG} {d : Nat} {Q : Option Value → PM → Prop} (hmo : mo ≤ 1000000) : ∀ k a N, stopW mo a = true → XW Q mo a N → HW G d Q p mo m0 k a N := by
  intro k a N hs hX
  unfold stopW at hs
  rw [decide_eq_true_eq] at hs
  apply g_X9_waysOf_48
  refine b2 (fun _ => hX.2) (fun _ => ?_)
  have := hX.1
  simp (disch := omega) only [nle, nlt, neq, nz, nzl, nzg, nzp, nzn, nneg, nneg9, nI_add, ncl, vin, br_T, br_F, br_p, br_n, true_and, and_true, Nat.zero_add, rdA, rdN]
  exact hX.2
theorem mos_take {st : Nat → Int} {f : List Nat} {e : Nat} (he : e < f.length) : mos w st 0 (f.take (e + 1)) = mos w st 0 (f.take e) + w e * st f[e] := by
  rw [List.take_succ_eq_append_getElem he, mos_snoc, List.length_take, Nat.zero_add, Nat.min_eq_left (by omega)]
theorem HW_step {G : GG} {d : Nat} {Q : Option Value → PM → Prop} {M : PM} (hp : p < 3) (hh : h ≤ 4) (hmo : mo ≤ 1000000) (hn : n ≤ 8) (hcs : cs.length = n) (hF : SFx (sq h) n w (stp h) m0 sl) (hR : RFx M p h sl cs w) : EStep (2 * h) n (fun _ => true) (stopW mo) (upW w (stp h) m0 sl) (gW M h n mo) (HW G (d + 2) Q p mo m0) (XW Q mo) := by
  intro a N pre s hk hga hsa hpm hpx hs hsS hb
  obtain ⟨f1, f2, f3, f4, f5, f6, f7, f8⟩ := id hF
  have hRN := hga.1.rf hR
  have ham := hga.2.1
  have hsa2 : ¬ mo ≤ a.1 := by unfold stopW at hsa; rwa [decide_eq_false_iff_not] at hsa
  have e2h : nI 2 * nI h = nI (2 * h) := pk_mul 2 h
  apply g_X9_waysOf_48
  have lvs : lvI (pre.length + 1) = nI pre.length := rfl
  rw [lvs]
  simp (disch := omega) only [nle, nlt, neq, nz, nzl, nzg, nzp, nzn, nneg, nneg9, nI_add, ncl, vin, br_T, br_F, br_p, br_n, true_and, and_true, Nat.zero_add, rdA, rdN]
  refine ((c_X9_freeSeat hp hh hRN.1 (by omega) hpm hpx hs hsS (fun s' q1 q2 q3 q4 => ?_)))
  obtain ⟨k1, -, k3, k4⟩ := hb s' q1 q2 q3 q4
  simp only [gI]
  have e67 : (wI N 67 pre.length (nI s')).1 67 pre.length = nI s' := by simp (disch := omega) only [wI_sA, rdA, rdN, rdL, upd_e, upd_n]
  simp (disch := omega) only [nle, nlt, neq, nz, nzl, nzg, nzp, nzn, nneg, nneg9, nI_add, ncl, vin, br_T, br_F, br_p, br_n, true_and, and_true, Nat.zero_add, rdA, rdN, e67, hRN.1, e2h, hRN.2.2.1, hcs]
  refine b2 (fun z => ?_) (fun z => ?_)
  · rw [nsub (by omega)]
    simp (disch := omega) only [nle, nlt, neq, nz, nzl, nzg, nzp, nzn, nneg, nneg9, nI_add, ncl, vin, br_T, br_F, br_p, br_n, true_and, and_true, Nat.zero_add, rdA, rdN]
    refine b2 (fun y => ?_) (fun y => ?_)
    · -- a leaf
      have hl : pre.length + 1 = n := by omega
      have hpf : preM (wI N 67 pre.length (nI s')) (pre ++ [s']) := hpm.push
      have hfl : (pre ++ [s']).length = n := by simp; omega
      have hfx : ∀ x ∈ pre ++ [s'], x < 2 * h := by
        intro x hx
        rcases List.mem_append.mp hx with y | y
        · exact hpx x y
        · rw [List.mem_singleton] at y; omega
      have k4 := k4 z rfl hl
      have hga2 : gW M h n mo a (wI N 67 pre.length (nI s')) := ⟨hga.1.wr (Or.inl rfl), ham, fun z e he => by simp (disch := omega) only [wI_sA, rdA, rdN, rdL, upd_e, upd_n]; exact hga.2.2 z e he⟩
      generalize wI N 67 pre.length (nI s') = N2 at hpf hga2 ⊢
      generalize pre ++ [s'] = f at hpf hfl hfx k4
      have hRN2 := hga2.1.rf hR
      have hx2 : ∀ x ∈ f, x ∈ sq h := fun x hx => sq_mem.mpr (hfx x hx)
      have hmb := mos_b f4 f5 f 0 hx2
      have lp := up_ind (n := n) (P := fun e => PX G (d + 2) m_X9_waysOf Q 129 [some (.ref 56), some (.int (nI p)), none, some (.int (nI mo)), some (.int (zI m0)), some (.int (nI a.1)), some (.int (nI pre.length)), some (.int (zI (m0 + mos w (stp h) 0 (f.take e)))), some (.int (nI e))] [] N2) ?_ ?_ 0 (Nat.zero_le _)
      · simp only [List.take_zero, mos, Int.add_zero] at lp
        exact lp
      · apply g_X9_waysOf_129
        rw [← hfl, List.take_length, hfl]
        simp (disch := omega) only [nle, nlt, neq, nz, nzl, nzg, nzp, nzn, nneg, nneg9, nI_add, ncl, vin, br_T, br_F, br_p, br_n, true_and, and_true, Nat.zero_add, rdA, rdN, hRN2.2.2.1, hcs]
        refine (c_X9_tiltBy hp ?_)
        simp only [gI]
        rw [hRN2.2.1, tlt_0 (by omega) (by omega) (by omega)]
        refine b2 (fun v => ?_) (fun v => ?_)
        · have hlv : lev w (stp h) m0 sl f = true := by unfold lev; rw [decide_eq_true_eq]; exact v
          have eup : upW w (stp h) m0 sl a f = (a.1 + 1, if a.1 = 0 then f else a.2) := by unfold upW; rw [if_pos hlv]
          rw [eup] at k4
          have fin : ∀ N3, gW M h n mo (a.1 + 1, if a.1 = 0 then f else a.2) N3 → preM N3 f → PX G (d + 2) m_X9_waysOf Q 48 [some (.ref 56), some (.int (nI p)), none, some (.int (nI mo)), some (.int (zI m0)), some (.int (nI (a.1 + 1))), some (.int (nI pre.length)), none, none] [] N3 := by
            intro N3 g3 p3
            have k5 := k4 N3 g3 p3
            by_cases hst : stopW mo (a.1 + 1, if a.1 = 0 then f else a.2) = true
            · exact HW_stop hmo (pre.length + 1) _ N3 hst (k5.1 hst)
            · exact k5.2 (by rw [Bool.eq_false_iff]; exact hst)
          by_cases ha0 : a.1 = 0
          · have lq := up_ind (n := n) (P := fun e => ∀ N3, Fr7 M N3 → preM N3 f → (∀ j, j < e → N3.1 68 j = zI (stp h (f.getD j 0))) → PX G (d + 2) m_X9_waysOf Q 187 [some (.ref 56), some (.int (nI p)), none, some (.int (nI mo)), some (.int (zI m0)), some (.int (nI a.1)), some (.int (nI pre.length)), none, some (.int (nI e))] [] N3) ?_ ?_ 0 (Nat.zero_le _)
            · exact lq N2 hga2.1 hpf (fun j hj => absurd hj (by omega))
            · intro N3 g3 p3 c3
              have hR3 := g3.rf hR
              apply g_X9_waysOf_187
              simp (disch := omega) only [nle, nlt, neq, nz, nzl, nzg, nzp, nzn, nneg, nneg9, nI_add, ncl, vin, br_T, br_F, br_p, br_n, true_and, and_true, Nat.zero_add, rdA, rdN, hR3.2.2.1, hcs]
              refine (fin N3 ⟨g3, by show a.1 + 1 ≤ mo; omega, fun _ e he => ?_⟩ p3)
              show N3.1 68 e = zI (stp h ((if a.1 = 0 then f else a.2).getD e 0))
              rw [if_pos ha0]; exact c3 e he
            · intro e he ih N3 g3 p3 c3
              have hR3 := g3.rf hR
              apply g_X9_waysOf_187
              have hpe := p3 e (by omega)
              simp (disch := omega) only [nle, nlt, neq, nz, nzl, nzg, nzp, nzn, nneg, nneg9, nI_add, ncl, vin, br_T, br_F, br_p, br_n, true_and, and_true, Nat.zero_add, rdA, rdN, hR3.2.2.1, hcs, hpe]
              refine (c_X9_stepOf hp hh (hfx _ (List.getElem_mem (n := e) (by omega))) hR3.1 ?_)
              simp only [gI]
              refine ih _ (g3.wr (Or.inr rfl)) (fun i hi => by simp (disch := omega) only [wI_sA, rdA, rdN, rdL, upd_e, upd_n]; exact p3 i hi) (fun j hj => ?_)
              by_cases ej : j = e
              · subst ej
                simp (disch := omega) only [wI_sA, rdA, rdN, rdL, upd_e, upd_n]
                rw [getD_g (by omega)]
              · simp (disch := omega) only [wI_sA, rdA, rdN, rdL, upd_e, upd_n]
                exact c3 j (by omega)
          · apply g_X9_waysOf_187
            simp (disch := omega) only [nle, nlt, neq, nz, nzl, nzg, nzp, nzn, nneg, nneg9, nI_add, ncl, vin, br_T, br_F, br_p, br_n, true_and, and_true, Nat.zero_add, rdA, rdN, hRN2.2.2.1, hcs]
            refine ((fin N2 ⟨hga2.1, by show a.1 + 1 ≤ mo; omega, fun _ e he => ?_⟩ hpf))
            show N2.1 68 e = zI (stp h ((if a.1 = 0 then f else a.2).getD e 0))
            rw [if_neg ha0]; exact hga2.2.2 (by omega) e he
        · have hlv : ¬ lev w (stp h) m0 sl f = true := by unfold lev; rw [decide_eq_true_eq]; exact v
          have eup : upW w (stp h) m0 sl a f = a := by unfold upW; rw [if_neg hlv]
          rw [eup] at k4
          exact (k4 N2 hga2 hpf).2 hsa
      · intro e he ih
        apply g_X9_waysOf_129
        have hpe := hpf e (by omega)
        obtain ⟨r1, r2, r3⟩ := hRN2.2.2.2 e (by omega)
        simp (disch := omega) only [nle, nlt, neq, nz, nzl, nzg, nzp, nzn, nneg, nneg9, nI_add, ncl, vin, br_T, br_F, br_p, br_n, true_and, and_true, Nat.zero_add, rdA, rdN, hRN2.2.2.1, hcs, hpe, r1]
        refine (c_X9_stepOf hp hh (hfx _ (List.getElem_mem (n := e) (by omega))) hRN2.1 ?_)
        simp only [gI]
        rw [r3, ← zI_mul, ← zI_add, Int.add_assoc]
        rw [mos_take (by omega)] at ih
        exact ih
    · exact ⟨by rw [vin (by omega) (by omega)]; trivial, k3 z rfl (by omega)⟩
  · have := k1 (by omega)
    rw [lvI_m1]
    exact this
theorem c_X9_waysOf {G : GG} {d : Nat} {M : PM} {Q : Option Value → PM → Prop} {nC nS t : Nat} (hp : p < 3) (h1h : 1 ≤ h) (hh : h ≤ 4) (hC : nC ≤ 8) (hS : nS ≤ 5) (ht : t < 256) (h15 : M.1 56 15 = nI nC) (h16 : M.1 56 16 = nI nS) (h58 : M.1 58 p = nI h) (h59 : M.1 59 p = nI sl) (hw : ∀ i (hi : i < (bitsL t nC).length), M.1 60 (bitsL t nC)[i] = zI (w i)) (hF : SFx (sq h) (bitsL t nC).length w (stp h) m0 sl) (hm : stR M nS (nI p) = zI m0) (h1m : 1 ≤ mo) (hmo : mo ≤ 1000000) (hQ : ∀ N, Frw M N → N.1 56 24 = nI (bitsL t nC).length → (∀ i (hi : i < (bitsL t nC).length), N.1 66 i = nI (bitsL t nC)[i]) → (0 < (foldS (stopW mo) (upW w (stp h) m0 sl) (0, []) (fil (sq h) (bitsL t nC).length [])).1 → ∀ e, e < (bitsL t nC).length → N.1 68 e = zI (stp h ((foldS (stopW mo) (upW w (stp h) m0 sl) (0, []) (fil (sq h) (bitsL t nC).length [])).2.getD e 0))) → Q (some (.int (nI (foldS (stopW mo) (upW w (stp h) m0 sl) (0, []) (fil (sq h) (bitsL t nC).length [])).1))) N) : PC G (d + 3) m_X9_waysOf [.ref 56, .int (nI p), .int (nI t), .int (nI mo)] M Q := by
  obtain ⟨f1, f2, f3, f4, f5, f6, f7, f8⟩ := id hF
  have s0 : stopW mo (0, []) = false := by unfold stopW; rw [decide_eq_false_iff_not]; show ¬ mo ≤ 0; omega
  have hlt : ∀ i (hi : i < (bitsL t nC).length), (bitsL t nC)[i] < 8 := fun i hi => by have := (bitsL_mem.mp (List.getElem_mem hi)).1; omega
  refine PC.of ok_X9_waysOf (Nat.le_of_ble_eq_true rfl) (g_X9_waysOf_0 (c_X9_seats hC ht h15 (fun f g q1 q2 q3 => ?_)))
  simp only [gN]
  have hfr : Frw M (sA (sA M 66 g) 56 f) := ⟨fun q a b => by rw [rdN a, rdN (by omega)], fun k a => by rw [rdA]; exact q1 k a, rfl⟩
  have hRF : RFx (sA (sA M 66 g) 56 f) p h sl (bitsL t nC) w := by
    unfold RFx
    simp (disch := omega) only [wI_sA, rdA, rdN, rdL, upd_e, upd_n]
    exact ⟨h58, h59, q2, fun i hi => ⟨q3 i hi, hlt i hi, hw i hi⟩⟩
  have h66 : (sA (sA M 66 g) 56 f).1 66 = g := by simp (disch := omega) only [wI_sA, rdA, rdN, rdL, upd_e, upd_n]
  have h16' : (sA (sA M 66 g) 56 f).1 56 16 = nI nS := by simp (disch := omega) only [wI_sA, rdA, rdN, rdL, upd_e, upd_n]; rw [q1 16 (by omega)]; exact h16
  generalize sA (sA M 66 g) 56 f = N at hfr hRF h66 h16' ⊢
  refine c_X9_stonesOn hS h16' ?_
  simp only [gI]
  rw [hfr.st, hm]
  generalize hcs : bitsL t nC = cs at *
  simp (disch := omega) only [nle, nlt, neq, nz, nzl, nzg, nzp, nzn, nneg, nneg9, nI_add, ncl, vin, br_T, br_F, br_p, br_n, true_and, and_true, Nat.zero_add, rdA, rdN, hRF.2.2.1]
  refine b2 (fun z => ?_) (fun z => ?_)
  · refine c_X9_tiltBy hp ?_
    simp only [gI]
    rw [hRF.2.1, tlt_0 (by omega) (by omega) (by omega)]
    have hq := hQ N hfr hRF.2.2.1 (fun i hi => absurd hi (by omega)) (fun _ e he => absurd he (by omega))
    rw [z, fil, foldS_one s0] at hq
    unfold upW at hq
    refine b2 (fun y => ?_) (fun y => ?_)
    · rw [if_pos (by unfold lev; rw [decide_eq_true_eq]; simpa only [mos, Int.add_zero] using y)] at hq
      exact hq
    · rw [if_neg (by unfold lev; rw [decide_eq_true_eq]; simpa only [mos, Int.add_zero] using y)] at hq
      exact hq
  · have hstep := HW_step (G := G) (d := d) (Q := Q) (mo := mo) hp hh hmo f3 rfl hF hRF
    have hg1 : gW N h cs.length mo (0, []) (wI N 67 0 (-1)) := ⟨⟨fun q a b => by rw [wI_sA, rdN a], rfl⟩, Nat.zero_le _, fun z => absurd z (Nat.lt_irrefl 0)⟩
    have key := engine hstep (HW_stop hmo) (fun a N k v hg => ⟨hg.1.wr (Or.inl rfl), hg.2.1, fun z e he => by simp (disch := omega) only [wI_sA, rdA, rdN, rdL, upd_e, upd_n]; exact hg.2.2 z e he⟩) (cs.length - 1) (2 * h) 0 (0, []) (wI N 67 0 (-1)) [] (by omega) (by omega) (by simp; omega) hg1 s0 (fun i hi => absurd hi (by simp)) (fun x hx => by cases hx) (by simp (disch := omega) only [wI_sA, rdA, rdN, rdL, upd_e, upd_n, List.length_nil]; exact m1n) ?_
    · exact key
    · intro N' hg' _
      have e1 : flx (frm (2 * h) (fun _ => true) 0) (cs.length - 1) [] (frm (2 * h) (fun _ => true) 0) = fil (sq h) cs.length [] := by
        obtain ⟨j, hj⟩ : ∃ j, cs.length = j + 1 := ⟨cs.length - 1, by omega⟩
        rw [hj, Nat.add_sub_cancel]; rfl
      rw [e1] at hg' ⊢
      have hfr2 : Frw M N' := hfr.trans ⟨fun q a b => hg'.1.1 q (by omega) (by omega), fun k a => by rw [hg'.1.1 56 (by omega) (by omega)], hg'.1.2⟩
      have hR' := hg'.1.rf hRF
      have hq := hQ N' hfr2 hR'.2.2.1 (fun i hi => (hR'.2.2.2 i hi).1) hg'.2.2
      refine ⟨fun _ => ⟨hg'.2.1, hq⟩, fun _ => ?_⟩
      apply g_X9_waysOf_48
      exact b1 (by decide) hq
end WR
/-! how many fillings there can be -/
def ffl : Nat → Nat → Nat
  | _, 0 => 1
  | f, r + 1 => f * ffl (f - 1) r
theorem ffl_mono : ∀ (r a b : Nat), a ≤ b → ffl a r ≤ ffl b r
  | 0, _, _, _ => Nat.le_refl _
  | r + 1, a, b, h => Nat.mul_le_mul h (ffl_mono r _ _ (by omega))
theorem cP_lt {p q : Nat → Bool} (h : ∀ y, p y = true → q y = true) {x : Nat} (h1 : q x = true) (h2 : ¬ p x = true) : ∀ l : List Nat, x ∈ l → l.countP p + 1 ≤ l.countP q
  | y :: l, hx => by
    have hm : l.countP p ≤ l.countP q := List.countP_mono_left (fun z _ hz => h z hz)
    rw [List.countP_cons, List.countP_cons]
    rcases List.mem_cons.mp hx with e | e
    · subst e; rw [if_neg h2, if_pos h1]; omega
    · have ih := cP_lt h h1 h2 l e
      by_cases z : p y = true
      · rw [if_pos z, if_pos (h y z)]; omega
      · rw [if_neg z]; split <;> omega
theorem fm_len {p : Nat → Bool} {g : Nat → List (List Nat)} {B : Nat} : ∀ l : List Nat, (∀ x ∈ l, p x = false → g x = []) → (∀ x ∈ l, p x = true → (g x).length ≤ B) → (l.flatMap g).length ≤ l.countP p * B
  | [], _, _ => by simp
  | x :: l, h1, h2 => by
    have ih := fm_len l (fun y hy => h1 y (List.mem_cons_of_mem _ hy)) (fun y hy => h2 y (List.mem_cons_of_mem _ hy))
    rw [List.flatMap_cons, List.length_append, List.countP_cons]
    by_cases z : p x = true
    · rw [if_pos z, Nat.add_mul, Nat.one_mul]
      have := h2 x List.mem_cons_self z
      omega
    · rw [if_neg z, h1 x List.mem_cons_self (by rw [Bool.eq_false_iff]; exact z)]
      simpa using ih
theorem fil_len {xs : List Nat} : ∀ (r : Nat) (pre : List Nat), (fil xs r pre).length ≤ ffl (xs.countP (fun x => !decide (x ∈ pre))) r
  | 0, pre => by simp [fil, ffl]
  | r + 1, pre => by
    rw [fil, ffl]
    refine fm_len (p := fun x => !decide (x ∈ pre)) xs (fun x hx z => ?_) (fun x hx z => ?_)
    · rw [if_pos (by simpa using z)]
    · have z : ¬ x ∈ pre := by simpa using z
      rw [if_neg z]
      refine Nat.le_trans (fil_len r (pre ++ [x])) (ffl_mono r _ _ ?_)
      have := cP_lt (p := fun y => !decide (y ∈ pre ++ [x])) (q := fun y => !decide (y ∈ pre)) (fun y hy => by
        simp only [Bool.not_eq_true', decide_eq_false_iff_not] at hy ⊢
        exact fun q => hy (List.mem_append_left _ q)) (x := x) (by simpa using z) (by simp) xs hx
      omega
theorem ffl_8 : ∀ r, r ≤ 8 → ffl 8 r ≤ 40320 := by decide
theorem fil_few {xs : List Nat} {r : Nat} (hx : xs.length ≤ 8) (hr : r ≤ 8) : (fil xs r []).length ≤ 40320 := by
  refine Nat.le_trans (fil_len r []) (Nat.le_trans (ffl_mono r _ 8 ?_) (ffl_8 r hr))
  exact Nat.le_trans List.countP_le_length hx
theorem fold_big {w st : Nat → Int} {m0 : Int} {sl mo : Nat} : ∀ (l : List (List Nat)) (a : WS), a.1 + l.countP (lev w st m0 sl) < mo → (foldS (stopW mo) (upW w st m0 sl) a l).1 = a.1 + l.countP (lev w st m0 sl)
  | [], a, _ => rfl
  | f :: l, a, h => by
    rw [List.countP_cons] at h ⊢
    have e : foldS (stopW mo) (upW w st m0 sl) a (f :: l) = foldS (stopW mo) (upW w st m0 sl) (upW w st m0 sl a f) l := by
      unfold foldS
      rw [List.foldl_cons, if_neg (by unfold stopW; rw [decide_eq_true_eq]; omega)]
    rw [e]
    by_cases z : lev w st m0 sl f = true
    · rw [if_pos z] at h ⊢
      have e2 : upW w st m0 sl a f = (a.1 + 1, if a.1 = 0 then f else a.2) := by unfold upW; rw [if_pos z]
      rw [e2, fold_big l _ (by show a.1 + 1 + _ < mo; omega)]
      show a.1 + 1 + _ = _
      omega
    · rw [if_neg z] at h ⊢
      have e2 : upW w st m0 sl a f = a := by unfold upW; rw [if_neg z]
      rw [e2, fold_big l _ (by omega), Nat.add_zero]
theorem fold_one {w st : Nat → Int} {m0 : Int} {sl : Nat} : ∀ (l : List (List Nat)), foldS (stopW 1) (upW w st m0 sl) (0, []) l = match l.find? (lev w st m0 sl) with
    | none => (0, [])
    | some f => (1, f)
  | [] => rfl
  | f :: l => by
    have e : foldS (stopW 1) (upW w st m0 sl) (0, []) (f :: l) = foldS (stopW 1) (upW w st m0 sl) (upW w st m0 sl (0, []) f) l := rfl
    rw [e]
    by_cases z : lev w st m0 sl f = true
    · have e2 : upW w st m0 sl (0, []) f = (1, f) := by unfold upW; rw [if_pos z]; rfl
      rw [e2, foldS_stop (by rfl), List.find?_cons_of_pos z]
    · have e2 : upW w st m0 sl (0, []) f = (0, []) := by unfold upW; rw [if_neg z]
      rw [e2, fold_one l, List.find?_cons_of_neg z]
