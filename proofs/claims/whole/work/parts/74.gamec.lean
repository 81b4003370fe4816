/-! the game: the class -/
theorem xor_n {t i : Nat} (hi : i < 31) : nI t ^^^ (nI 1 <<< (nI i &&& 31)) = nI (t ^^^ 2 ^ i) := by rw [sh1 i hi, fa_xor]
section GC
variable {nC sl : Nat} {xs : List Nat} {idl : Nat → Bool} {w st : Nat → Int}
def GCx (M : PM) (nC sl : Nat) (xs : List Nat) (w st : Nat → Int) : Prop := M.1 41 2 = nI nC ∧ M.1 41 3 = nI xs.length ∧ M.1 41 4 = nI sl ∧ (∀ c, c < nC → M.1 42 c = zI (w c)) ∧ (∀ i (h : i < xs.length), M.1 43 i = zI (st xs[i]))
def GFx (nC sl : Nat) (xs : List Nat) (w st : Nat → Int) : Prop := nC ≤ 8 ∧ xs.length ≤ 8 ∧ xs.Nodup ∧ sl ≤ 20 ∧ (∀ c, c < nC → 0 ≤ w c ∧ w c ≤ 60) ∧ ∀ x ∈ xs, -4 ≤ st x ∧ st x ≤ 4
theorem c_X0_moveFrom {G : GG} {M : PM} (hF : GFx nC sl xs w st) (hM : GCx M nC sl xs w st) : ∀ (k : Nat), k ≤ 5 → ∀ {d : Nat} {Q : Option Value → PM → Prop} {us ys : List Nat} {im t : Nat} {m : Int}, -1000 ≤ m → m ≤ 1000 → (∀ c, c < nC → (im.testBit c = true ↔ idl c = true ∧ ¬ c ∈ us)) → TK xs ys t → Q (some (.int (cI st (mv nC xs idl w st sl k us ys m)))) M → PC G (d + k + 1) m_X0_moveFrom [.ref 41, .int (nI im), .int (nI t), .int (zI m), .int (nI (5 - k))] M Q := by
  obtain ⟨f1, f2, f3, f4, f5, f6⟩ := id hF
  obtain ⟨m2, m3, m4, m5, m6⟩ := id hM
  intro k
  induction k with
  | zero =>
    intro _ d Q us ys im t m _ _ _ _ hQ
    refine PC.of ok_X0_moveFrom (Nat.le_of_ble_eq_true rfl) (g_X0_moveFrom_0 ?_)
    simp (disch := omega) only [nle, nlt, neq, nz, nzl, nzg, nzp, nzn, nneg, nneg9, nI_add, ncl, vin, br_T, br_F, br_p, br_n, true_and, and_true, Nat.zero_add, rdA, rdN]
    exact hQ
  | succ k ih =>
    intro hk d Q us ys im t m b1' b2' hi ht hQ
    refine PC.of ok_X0_moveFrom (Nat.le_of_ble_eq_true rfl) (g_X0_moveFrom_0 ?_)
    simp (disch := omega) only [nle, nlt, neq, nz, nzl, nzg, nzp, nzn, nneg, nneg9, nI_add, ncl, vin, br_T, br_F, br_p, br_n, true_and, and_true, Nat.zero_add, rdA, rdN]
    refine gloopC (nC := nC) (xs := xs) (p := tst idl w st sl (mv nC xs idl w st sl k) us ys m) (Fin := fun o => Q (some (.int (cI st o))) M)
      (A := fun c => PX G (d + k + 1) m_X0_moveFrom Q 11 [some (.ref 41), some (.int (nI im)), some (.int (nI t)), some (.int (zI m)), some (.int (nI (5 - (k + 1)))), some (.int (nI c)), none, none] [] M)
      (B := fun c i => im.testBit c = true → PX G (d + k + 1) m_X0_moveFrom Q 35 [some (.ref 41), some (.int (nI im)), some (.int (nI t)), some (.int (zI m)), some (.int (nI (5 - (k + 1)))), some (.int (nI c)), some (.int (nI i)), none] [] M) ?_ ?_ ?_ ?_ hQ
    · intro h
      apply g_X0_moveFrom_11
      simp (disch := omega) only [nle, nlt, neq, nz, nzl, nzg, nzp, nzn, nneg, nneg9, nI_add, ncl, vin, br_T, br_F, br_p, br_n, true_and, and_true, Nat.zero_add, rdA, rdN, m2]
      exact h
    · intro c hc h1 h2
      apply g_X0_moveFrom_11
      simp (disch := omega) only [nle, nlt, neq, nz, nzl, nzg, nzp, nzn, nneg, nneg9, nI_add, ncl, vin, br_T, br_F, br_p, br_n, true_and, and_true, Nat.zero_add, rdA, rdN, m2]
      rw [and_bit (by omega)]
      refine b2 (fun z => h2 (fun x hx => ?_)) (fun z => h1 ?_)
      · rw [Bool.eq_false_iff]
        intro y
        have y := tst_t.mp y
        rw [(hi c hc).mpr ⟨y.1, y.2.1⟩] at z
        cases z
      · cases hb : im.testBit c
        · exact absurd hb z
        · rfl
    · intro c hc h _
      apply g_X0_moveFrom_35
      simp (disch := omega) only [nle, nlt, neq, nz, nzl, nzg, nzp, nzn, nneg, nneg9, nI_add, ncl, vin, br_T, br_F, br_p, br_n, true_and, and_true, Nat.zero_add, rdA, rdN, m3]
      exact h
    · intro c i hc hil h1 h2 hbit
      apply g_X0_moveFrom_35
      have e : zI m + M.1 42 c * M.1 43 i = zI (m + w c * st xs[i]) := by rw [m5 c hc, m6 i hil, ← zI_mul, ← zI_add]
      simp (disch := omega) only [nle, nlt, neq, nz, nzl, nzg, nzp, nzn, nneg, nneg9, nI_add, ncl, vin, br_T, br_F, br_p, br_n, true_and, and_true, Nat.zero_add, rdA, rdN, m3, abs_c]
      rw [and_bit (by omega), e, m4]
      have hst := f6 _ (List.getElem_mem hil)
      have hwb := mul_b (f5 c hc).1 hst.1 hst.2
      have hw60 := f5 c hc
      have elt : (nI sl < absI (zI (m + w c * st xs[i]))) = ¬ (m + w c * st xs[i] ≤ sl ∧ -(m + w c * st xs[i]) ≤ sl) := by
        rw [← absI_le (k := (sl : Int)) (by omega) (by omega) (by omega) (by omega), zI_n, Int32.not_le]
      rw [elt]
      have im' := (hi c hc).mp hbit
      refine b2 (fun z => b2 (fun y => ?_) (fun y => ?_)) (fun z => ?_)
      · exact h2 (by rw [Bool.eq_false_iff]; exact fun q => y (tst_t.mp q).2.2.2.1) hbit
      · have y := Classical.not_not.mp y
        have hx : ¬ xs[i] ∈ ys := fun q => by rw [(ht i hil).mpr q] at z; cases z
        rw [xor_n (by omega), or_n (by omega), show 5 - (k + 1) + 1 = 5 - k by omega]
        refine ih (by omega) (d := d) (us := us ++ [c]) (ys := ys ++ [xs[i]]) (by omega) (by omega) (fun c' hc' => ?_) (ht.push f3 hil) ?_
        · rw [Nat.testBit_xor, Nat.testBit_two_pow, List.mem_append, List.mem_singleton]
          by_cases ec : c' = c
          · subst ec
            rw [hbit]
            simp
          · have : decide (c = c') = false := by rw [decide_eq_false_iff_not]; exact fun q => ec q.symm
            rw [this, Bool.xor_false, hi c' hc']
            simp [ec]
        · simp only [gI]
          cases hmv : mv nC xs idl w st sl k (us ++ [c]) (ys ++ [xs[i]]) (m + w c * st xs[i]) with
          | none =>
            have hq := h1 (tst_t.mpr ⟨im'.1, im'.2, hx, y, hmv⟩)
            refine b1 rfl ?_
            rw [m6 i hil]
            exact hq
          | some q =>
            have hm := mv_mem hmv
            exact b0 (cI_nn (by omega) (f6 _ hm.2)).2 (h2 (by
              rw [Bool.eq_false_iff]
              intro q
              have := (tst_t.mp q).2.2.2.2
              rw [hmv] at this; cases this) hbit)
      · have hx : xs[i] ∈ ys := (ht i hil).mp (by cases hh : t.testBit i; exact absurd hh z; rfl)
        exact h2 (by rw [Bool.eq_false_iff]; exact fun q => (tst_t.mp q).2.2.1 hx) hbit
end GC
noncomputable def okC (M : PM) (nC : Nat) (p : Int32) (h : Nat) (x : Nat) : Bool := @decide (¬ atC M nC p (zI (stp h x))) (Classical.propDecidable _)
theorem okC_t {M : PM} {nC h x : Nat} {p : Int32} : (okC M nC p h x = true) = ¬ atC M nC p (zI (stp h x)) := by
  unfold okC
  exact @decide_eq_true_eq _ (Classical.propDecidable _)
noncomputable def fcC (M : PM) (nC : Nat) (p : Int32) (h : Nat) : List Nat := frm (2 * h) (okC M nC p h) 0
theorem fcC_eq {M : PM} {nC h : Nat} {p : Int32} : fcC M nC p h = (List.range' 0 (2 * h)).filter (okC M nC p h) := by unfold fcC frm; rw [Nat.sub_zero]
theorem fcC_mem {M : PM} {nC h x : Nat} {p : Int32} (hx : x ∈ fcC M nC p h) : x < 2 * h := by
  rw [fcC_eq, List.mem_filter] at hx
  have := hx.1
  simp at this
  exact this
theorem fcC_len {M : PM} {nC h : Nat} {p : Int32} : (fcC M nC p h).length ≤ 2 * h := by
  rw [fcC_eq]
  refine Nat.le_trans (List.length_filter_le _ _) ?_
  rw [List.length_range']; exact Nat.le_refl _
theorem fcC_nd {M : PM} {nC h : Nat} {p : Int32} : (fcC M nC p h).Nodup := by rw [fcC_eq]; exact List.Pairwise.filter _ List.nodup_range'
def Fr4 (M N : PM) : Prop := (∀ q, ¬ (41 ≤ q ∧ q ≤ 43) → N.1 q = M.1 q) ∧ N.2 = M.2
theorem Fr4.eqv {M N : PM} (h : Fr4 M N) : Eqv M N := by
  refine ⟨fun q k hs => ?_, by rw [h.2], by rw [h.2]⟩
  by_cases e : 41 ≤ q ∧ q ≤ 43
  · exfalso
    unfold scr at hs
    simp only [Bool.or_eq_false_iff, decide_eq_false_iff_not] at hs
    omega
  · rw [h.1 q e]
theorem Fr4.ar {M N : PM} {q : Nat} {f : Nat → Int32} (h : Fr4 M N) (hq : 41 ≤ q ∧ q ≤ 43) : Fr4 M (sA N q f) := ⟨fun r a => by rw [rdN (by omega)]; exact h.1 r a, h.2⟩
theorem Fr4.wr {M N : PM} {q k : Nat} {v : Int32} (h : Fr4 M N) (hq : 41 ≤ q ∧ q ≤ 43) : Fr4 M (wI N q k v) := by rw [wI_sA]; exact h.ar hq
theorem c_X0_begin {G : GG} {d : Nat} {M : PM} {Q : Option Value → PM → Prop} {p h nC sl : Nat} {w : Nat → Int} (hp : p < 3) (hh : h ≤ 4) (hC : nC ≤ 8) (h6 : M.1 1 6 = nI nC) (h2 : M.1 2 p = nI h) (h3 : M.1 3 p = nI sl) (hw : ∀ c, c < nC → M.1 4 c = zI (w c)) (hQ : ∀ N, Fr4 M N → GCx N nC sl (fcC M nC (nI p) h) w (stp h) → Q none N) : PC G (d + 2) m_X0_begin [.ref 41, .ref 1, .ref 7, .int (nI p)] M Q := by
  have e2h : nI 2 * nI h = nI (2 * h) := pk_mul 2 h
  refine PC.of ok_X0_begin (Nat.le_of_ble_eq_true rfl) (g_X0_begin_0 ⟨by decide, ?_⟩)
  simp (disch := omega) only [nle, nlt, neq, nz, nzl, nzg, nzp, nzn, nneg, nneg9, nI_add, ncl, vin, br_T, br_F, br_p, br_n, true_and, and_true, Nat.zero_add, rdA, rdN]
  have e0 : (nI 0).toNatClampNeg = 0 := rfl
  rw [cp0]
  have key := up_ind (n := 2 * h) (P := fun k => ∀ N, Fr4 M N → GCx N nC sl ((List.range' 0 k).filter (okC M nC (nI p) h)) w (stp h) → PX G (d + 1) m_X0_begin Q 49 [some (.ref 41), none, some (.ref 7), some (.int (nI p)), some (.int (nI h)), some (.int (nI k)), none] [] N) ?_ ?_ 0 (Nat.zero_le _)
  · rw [h2, h3, h6]
    refine key _ ?_ ⟨?_, ?_, ?_, fun c hc => ?_, fun i hi => absurd hi (by simp)⟩
    · exact ((Fr4.ar (Fr4.wr ⟨fun _ _ => rfl, rfl⟩ (by omega)) (by omega)).wr (by omega)).wr (by omega)
    · simp (disch := omega) only [wI_sA, rdA, rdN, rdL, upd_e, upd_n]
    · simp (disch := omega) only [wI_sA, rdA, rdN, rdL, upd_e, upd_n]; rfl
    · simp (disch := omega) only [wI_sA, rdA, rdN, rdL, upd_e, upd_n]
    · simp (disch := omega) only [wI_sA, rdA, rdN, rdL, upd_e, upd_n]
      rw [fo_in0 (by omega)]
      exact hw c hc
  · intro N hf hN
    apply g_X0_begin_49
    simp (disch := omega) only [nle, nlt, neq, nz, nzl, nzg, nzp, nzn, nneg, nneg9, nI_add, ncl, vin, br_T, br_F, br_p, br_n, true_and, and_true, Nat.zero_add, rdA, rdN, e2h]
    rw [← fcC_eq] at hN
    exact hQ N hf hN
  · intro k hk ih N hf hN
    apply g_X0_begin_49
    simp (disch := omega) only [nle, nlt, neq, nz, nzl, nzg, nzp, nzn, nneg, nneg9, nI_add, ncl, vin, br_T, br_F, br_p, br_n, true_and, and_true, Nat.zero_add, rdA, rdN, e2h]
    refine c_stepOfSeat hh hk ?_
    simp only [gI]
    refine c_X4_hasChildAt hC (by rw [hf.1 1 (by omega)]; exact h6) ?_
    simp only [gI, bI_z]
    have hr : (List.range' 0 (k + 1)).filter (okC M nC (nI p) h) = (List.range' 0 k).filter (okC M nC (nI p) h) ++ [k].filter (okC M nC (nI p) h) := by
      rw [List.range'_1_concat, Nat.zero_add, List.filter_append]
    have ea : atC N nC (nI p) (zI (stp h k)) = atC M nC (nI p) (zI (stp h k)) := by unfold atC; rw [hf.1 9 (by omega), hf.1 8 (by omega)]
    rw [ea]
    obtain ⟨n2, n3, n4, n5, n6⟩ := id hN
    have hl : ((List.range' 0 k).filter (okC M nC (nI p) h)).length < 8 := by
      refine Nat.lt_of_le_of_lt (List.length_filter_le _ _) ?_
      rw [List.length_range']; omega
    refine b2 (fun z => ?_) (fun z => ?_)
    · have hk1 : okC M nC (nI p) h k = true := by rw [okC_t]; exact z
      rw [List.filter_cons_of_pos hk1, List.filter_nil] at hr
      simp (disch := omega) only [nle, nlt, neq, nz, nzl, nzg, nzp, nzn, nneg, nneg9, nI_add, ncl, vin, br_T, br_F, br_p, br_n, true_and, and_true, Nat.zero_add, rdA, rdN, n3]
      refine ih _ ((hf.wr (by omega)).wr (by omega)) ?_
      rw [hr]
      generalize (List.range' 0 k).filter (okC M nC (nI p) h) = ys at *
      refine ⟨?_, ?_, ?_, fun c hc => ?_, fun i hi => ?_⟩
      · simp (disch := omega) only [wI_sA, rdA, rdN, rdL, upd_e, upd_n]; exact n2
      · simp (disch := omega) only [wI_sA, rdA, rdN, rdL, upd_e, upd_n]; rw [List.length_append]; rfl
      · simp (disch := omega) only [wI_sA, rdA, rdN, rdL, upd_e, upd_n]; exact n4
      · simp (disch := omega) only [wI_sA, rdA, rdN, rdL, upd_e, upd_n]; exact n5 c hc
      · rw [List.length_append, List.length_singleton] at hi
        by_cases e : i = ys.length
        · subst e
          simp (disch := omega) only [wI_sA, rdA, rdN, rdL, upd_e, upd_n]
          simp
        · simp (disch := omega) only [wI_sA, rdA, rdN, rdL, upd_e, upd_n]
          rw [n6 i (by omega), List.getElem_append_left (by omega)]
    · have hk1 : ¬ okC M nC (nI p) h k = true := by rw [okC_t]; exact z
      rw [List.filter_cons_of_neg hk1, List.filter_nil, List.append_nil] at hr
      refine ih N hf ?_
      rw [hr]; exact hN
