/-! the class's search for seats -/
theorem c_X5_isHopeless {G : GG} {d : Nat} {M : PM} {Q : Option Value → PM → Prop} {b : Nat} {m R : Int} {sl : Nat} (hb : b ≤ 8) (h8 : M.1 33 8 = nI sl) (hR : M.1 38 b = zI R) (h1 : -10000 ≤ m) (h2 : m ≤ 10000) (h3 : 0 ≤ R) (h4 : R ≤ 10000) (h5 : sl ≤ 20) (hQ : Q (some (.int (bI (¬ (m ≤ sl + R ∧ -m ≤ sl + R))))) M) : PC G (d + 1) m_X5_isHopeless [.ref 33, .int (nI b), .int (zI m)] M Q := by
  refine PC.of ok_X5_isHopeless (Nat.le_of_ble_eq_true rfl) (g_X5_isHopeless_0 ?_)
  simp only [n01a, n01b, true_and]
  simp (disch := omega) only [nle, nlt, neq, nz, nzl, nzg, nzp, nzn, nneg, nneg9, nI_add, ncl, vin, br_T, br_F, br_p, br_n, true_and, and_true, Nat.zero_add, rdA, rdN, abs_c, h8, hR]
  rw [← zI_n sl, ← zI_add, absI_le (by omega) (by omega) (by omega) (by omega)]
  refine b2 (fun h => ?_) (fun h => ?_)
  · rw [bI_f (fun z => z h)] at hQ; exact hQ
  · rw [bI_t h] at hQ; exact hQ
section SC
variable {xs : List Nat} {n : Nat} {w st : Nat → Int} {m0 : Int} {sl : Nat}
theorem SMm.of {M N : PM} (h : SMm M xs n w st sl) (z : ∀ k, k ≤ 8 → N.1 33 k = M.1 33 k) (z4 : N.1 34 = M.1 34) (z5 : N.1 35 = M.1 35) : SMm N xs n w st sl := by
  unfold SMm; rw [z 5 (by omega), z 6 (by omega), z 8 (by omega), z4, z5]; exact h
theorem pre_len {r : Nat} {pre : List Nat} (hF : SFx xs n w st m0 sl) (hl : pre.length + r = n) (hx : ∀ x ∈ pre, x ∈ xs) : -4920 ≤ m0 + mos w st 0 pre ∧ m0 + mos w st 0 pre ≤ 4920 ∧ 0 ≤ rch w pre.length r ∧ rch w pre.length r ≤ 1920 := by
  obtain ⟨f1, f2, f3, f4, f5, f6, f7, f8⟩ := hF
  have h1 := mos_b f4 f5 pre 0 hx
  have h2 := rch_b f5 r pre.length
  omega
theorem mom_step {M : PM} (hM : SMm M xs n w st sl) {pre : List Nat} {i : Nat} (hp : pre.length < n) (hi : i < xs.length) : zI (m0 + mos w st 0 pre) + M.1 35 pre.length * M.1 34 i = zI (m0 + mos w st 0 (pre ++ [xs[i]])) := by
  rw [hM.2.2.2.1 i hi, hM.2.2.2.2 _ hp, ← zI_mul, ← zI_add, mos_snoc, Nat.zero_add, Int.add_assoc]
theorem c_X5_countFrom (hF : SFx xs n w st m0 sl) {G : GG} {M : PM} (hM : SMm M xs n w st sl) (hR : RCm M n w) : ∀ (r : Nat) {d : Nat} {Q : Option Value → PM → Prop} {pre : List Nat} {t : Nat}, pre.length + r = n → TK xs pre t → (∀ x ∈ pre, x ∈ xs) → Q (some (.int (nI ((fil xs r pre).countP (lev w st m0 sl))))) M → PC G (d + r + 2) m_X5_countFrom [.ref 33, .int (nI pre.length), .int (nI t), .int (zI (m0 + mos w st 0 pre))] M Q := by
  obtain ⟨f1, f2, f3, f4, f5, f6, f7, f8⟩ := id hF
  intro r
  induction r with
  | zero =>
    intro d Q pre t hl ht hx hQ
    have hb := pre_len hF hl hx
    refine PC.of ok_X5_countFrom (Nat.le_of_ble_eq_true rfl) (g_X5_countFrom_0 (c_X5_isHopeless (by omega) hM.2.2.1 (hR _ 0 hl) (by omega) (by omega) hb.2.2.1 (by omega) f8 ?_))
    simp only [gI, bI_z]
    refine b2 (fun h => ?_) (fun h => ?_)
    · simp (disch := omega) only [nle, nlt, neq, nz, nzl, nzg, nzp, nzn, nneg, nneg9, nI_add, ncl, vin, br_T, br_F, br_p, br_n, true_and, and_true, Nat.zero_add, rdA, rdN, hM.2.1]
      have e : lev w st m0 sl pre = true := by
        have := Classical.not_not.mp h
        unfold lev; rw [decide_eq_true_eq]; simp only [rch] at this; omega
      simp only [fil, List.countP_cons, List.countP_nil, e, if_true, Nat.zero_add] at hQ
      exact hQ
    · have e := hop hF (Classical.not_not.mp h) 
      rw [List.countP_eq_zero.mpr (fun f hf => by rw [e f hf]; decide)] at hQ
      exact hQ
  | succ r ih =>
    intro d Q pre t hl ht hx hQ
    have hb := pre_len hF hl hx
    refine PC.of ok_X5_countFrom (Nat.le_of_ble_eq_true rfl) (g_X5_countFrom_0 (c_X5_isHopeless (by omega) hM.2.2.1 (hR _ (r + 1) hl) (by omega) (by omega) hb.2.2.1 (by omega) f8 ?_))
    simp only [gI, bI_z]
    refine b2 (fun h => ?_) (fun h => ?_)
    · simp (disch := omega) only [nle, nlt, neq, nz, nzl, nzg, nzp, nzn, nneg, nneg9, nI_add, ncl, vin, br_T, br_F, br_p, br_n, true_and, and_true, Nat.zero_add, rdA, rdN, hM.2.1]
      rw [fil_s] at hQ
      have key := up_ind (n := xs.length) (P := fun i => ∀ c, Q (some (.int (nI (c + (flx xs r pre (xs.drop i)).countP (lev w st m0 sl))))) M → PX G (d + r + 2) m_X5_countFrom Q 27 [some (.ref 33), some (.int (nI pre.length)), some (.int (nI t)), some (.int (zI (m0 + mos w st 0 pre))), some (.int (nI c)), some (.int (nI i))] [] M) ?_ ?_ 0 (Nat.zero_le _)
      · refine key 0 ?_
        rw [List.drop_zero, Nat.zero_add]; exact hQ
      · intro c hq
        apply g_X5_countFrom_27
        simp (disch := omega) only [nle, nlt, neq, nz, nzl, nzg, nzp, nzn, nneg, nneg9, nI_add, ncl, vin, br_T, br_F, br_p, br_n, true_and, and_true, Nat.zero_add, rdA, rdN, hM.1]
        rw [List.drop_length, flx_nil, List.countP_nil, Nat.add_zero] at hq
        exact hq
      · intro i hi ih2 c hq
        apply g_X5_countFrom_27
        simp (disch := omega) only [nle, nlt, neq, nz, nzl, nzg, nzp, nzn, nneg, nneg9, nI_add, ncl, vin, br_T, br_F, br_p, br_n, true_and, and_true, Nat.zero_add, rdA, rdN, hM.1]
        rw [and_bit (by omega)]
        rw [List.drop_eq_getElem_cons hi] at hq
        refine b2 (fun hbt => ?_) (fun hbt => ?_)
        · have hno : ¬ xs[i] ∈ pre := fun z => by rw [(ht i hi).mpr z] at hbt; cases hbt
          rw [flx_out hno, List.countP_append, ← Nat.add_assoc] at hq
          rw [or_n (by omega), mom_step hM (by omega) hi]
          have hc := ih (d := d) (Q := fun v N1 => gI v (fun r1 => PX G (d + r + 2) m_X5_countFrom Q 27 [some (.ref 33), some (.int (nI pre.length)), some (.int (nI t)), some (.int (zI (m0 + mos w st 0 pre))), some (.int (nI c + r1)), some (.int (nI (i + 1)))] [] N1)) (pre := pre ++ [xs[i]]) (t := t ||| 2 ^ i) (by simp; omega) (ht.push f2 hi) (by
            intro x hx2
            rcases List.mem_append.mp hx2 with z | z
            · exact hx x z
            · rw [List.mem_singleton] at z; rw [z]; exact List.getElem_mem hi) (by
            simp only [gI]
            rw [nI_add]
            exact ih2 _ hq)
          rw [List.length_append, List.length_singleton] at hc
          exact hc
        · have hin : xs[i] ∈ pre := (ht i hi).mp (by cases hh : t.testBit i; exact absurd hh hbt; rfl)
          rw [flx_in hin] at hq
          exact ih2 c hq
    · have e := hop hF (Classical.not_not.mp h)
      rw [List.countP_eq_zero.mpr (fun f hf => by rw [e f hf]; decide)] at hQ
      exact hQ
/-- the class's search for the first filling -/
theorem c_X5_findFrom (hF : SFx xs n w st m0 sl) {G : GG} : ∀ (r : Nat) {d : Nat} {M : PM} {Q : Option Value → PM → Prop} {pre : List Nat} {t : Nat}, SMm M xs n w st sl → RCm M n w → pre.length + r = n → TK xs pre t → (∀ x ∈ pre, x ∈ xs) → (∀ g : Nat → Int32, (∀ i, i < pre.length → g i = M.1 37 i) → (fil xs r pre).find? (lev w st m0 sl) = none → Q (some (.int (nI 0))) (sA M 37 g)) → (∀ (g : Nat → Int32) (f : List Nat), (∀ i, i < pre.length → g i = M.1 37 i) → (fil xs r pre).find? (lev w st m0 sl) = some f → (∀ i, pre.length ≤ i → i < n → g i = zI (st (f.getD i 0))) → Q (some (.int (nI 1))) (sA M 37 g)) → PC G (d + r + 2) m_X5_findFrom [.ref 33, .int (nI pre.length), .int (nI t), .int (zI (m0 + mos w st 0 pre))] M Q := by
  obtain ⟨f1, f2, f3, f4, f5, f6, f7, f8⟩ := id hF
  intro r
  induction r with
  | zero =>
    intro d M Q pre t hM hR hl ht hx hQ0 hQ1
    have hb := pre_len hF hl hx
    have q0 := hQ0 (M.1 37) (fun _ _ => rfl)
    have q1 := fun f => hQ1 (M.1 37) f (fun _ _ => rfl)
    rw [sA_self] at q0 q1
    refine PC.of ok_X5_findFrom (Nat.le_of_ble_eq_true rfl) (g_X5_findFrom_0 (c_X5_isHopeless (by omega) hM.2.2.1 (hR _ 0 hl) (by omega) (by omega) hb.2.2.1 (by omega) f8 ?_))
    simp only [gI, bI_z, n01a, n01b, true_and]
    refine b2 (fun h => ?_) (fun h => ?_)
    · simp (disch := omega) only [nle, nlt, neq, nz, nzl, nzg, nzp, nzn, nneg, nneg9, nI_add, ncl, vin, br_T, br_F, br_p, br_n, true_and, and_true, Nat.zero_add, rdA, rdN, hM.2.1]
      have e : lev w st m0 sl pre = true := by
        have := Classical.not_not.mp h
        unfold lev; rw [decide_eq_true_eq]; simp only [rch] at this; omega
      refine (q1 pre ?_ (fun i h1 h2 => absurd h1 (by omega)))
      simp [fil, e]
    · have e := hop hF (Classical.not_not.mp h)
      exact q0 (List.find?_eq_none.mpr (fun f hf => by rw [e f hf]; decide))
  | succ r ih =>
    intro d M Q pre t hM hR hl ht hx hQ0 hQ1
    have hb := pre_len hF hl hx
    refine PC.of ok_X5_findFrom (Nat.le_of_ble_eq_true rfl) (g_X5_findFrom_0 (c_X5_isHopeless (by omega) hM.2.2.1 (hR _ (r + 1) hl) (by omega) (by omega) hb.2.2.1 (by omega) f8 ?_))
    simp only [gI, bI_z, n01a, n01b, true_and]
    refine b2 (fun h => ?_) (fun h => ?_)
    · simp (disch := omega) only [nle, nlt, neq, nz, nzl, nzg, nzp, nzn, nneg, nneg9, nI_add, ncl, vin, br_T, br_F, br_p, br_n, true_and, and_true, Nat.zero_add, rdA, rdN, hM.2.1]
      rw [fil_s] at hQ0 hQ1
      have key := up_ind (n := xs.length) (P := fun i => ∀ g : Nat → Int32, (∀ j, j < pre.length → g j = M.1 37 j) → (flx xs r pre xs).find? (lev w st m0 sl) = (flx xs r pre (xs.drop i)).find? (lev w st m0 sl) → PX G (d + r + 2) m_X5_findFrom Q 24 [some (.ref 33), some (.int (nI pre.length)), some (.int (nI t)), some (.int (zI (m0 + mos w st 0 pre))), some (.int (nI i))] [] (sA M 37 g)) ?_ ?_ 0 (Nat.zero_le _)
      · have k := key (M.1 37) (fun _ _ => rfl) rfl
        rw [sA_self] at k
        exact k
      · intro g hg hq
        apply g_X5_findFrom_24
        simp only [n01a, n01b, true_and]
        simp (disch := omega) only [nle, nlt, neq, nz, nzl, nzg, nzp, nzn, nneg, nneg9, nI_add, ncl, vin, br_T, br_F, br_p, br_n, true_and, and_true, Nat.zero_add, rdA, rdN, hM.1]
        rw [List.drop_length, flx_nil, List.find?_nil] at hq
        exact (hQ0 g hg hq)
      · intro i hi ih2 g hg hq
        apply g_X5_findFrom_24
        simp only [n01a, n01b, true_and]
        simp (disch := omega) only [nle, nlt, neq, nz, nzl, nzg, nzp, nzn, nneg, nneg9, nI_add, ncl, vin, br_T, br_F, br_p, br_n, true_and, and_true, Nat.zero_add, rdA, rdN, hM.1]
        rw [and_bit (by omega)]
        rw [List.drop_eq_getElem_cons hi] at hq
        refine b2 (fun hbt => ?_) (fun hbt => ?_)
        · have hno : ¬ xs[i] ∈ pre := fun z => by rw [(ht i hi).mpr z] at hbt; cases hbt
          rw [flx_out hno, List.find?_append] at hq
          have hms := mom_step (m0 := m0) hM (pre := pre) (i := i) (by omega) hi
          rw [or_n (by omega), hms, wI_sA, sA_sA, rdA]
          have hin : ∀ x ∈ pre ++ [xs[i]], x ∈ xs := by
            intro x hx2
            rcases List.mem_append.mp hx2 with z | z
            · exact hx x z
            · rw [List.mem_singleton] at z; rw [z]; exact List.getElem_mem hi
          have hc := ih (d := d) (M := sA M 37 (upd g pre.length (M.1 34 i))) (Q := fun v N1 => gI v (fun r1 => br (r1 = 0) (PX G (d + r + 2) m_X5_findFrom Q 24 [some (.ref 33), some (.int (nI pre.length)), some (.int (nI t)), some (.int (zI (m0 + mos w st 0 pre))), some (.int (nI (i + 1)))] [] N1) (Q (some (.int (nI 1))) N1))) (pre := pre ++ [xs[i]]) (t := t ||| 2 ^ i)
            (hM.of (fun k _ => by rw [rdN (by omega)]) (by rw [rdN (by omega)]) (by rw [rdN (by omega)])) (fun b r h => by rw [rdN (by omega)]; exact hR b r h) (by simp; omega) (ht.push f2 hi) hin ?_ ?_
          · rw [List.length_append, List.length_singleton] at hc
            exact hc
          · intro g2 hg2 hf
            rw [List.length_append, List.length_singleton] at hg2
            rw [hf, Option.none_or] at hq
            rw [sA_sA]
            simp only [gI]
            refine b1 rfl (ih2 g2 (fun j hj => ?_) hq)
            rw [hg2 j (by omega), rdA, upd_n (by omega)]
            exact hg j hj
          · intro g2 f hg2 hf hch
            rw [List.length_append, List.length_singleton] at hg2 hch
            rw [hf, Option.some_or] at hq
            rw [sA_sA]
            simp only [gI]
            refine b0 (by decide) (hQ1 g2 f (fun j hj => ?_) hq (fun j h1 h2 => ?_))
            · rw [hg2 j (by omega), rdA, upd_n (by omega)]
              exact hg j hj
            · by_cases hj : j = pre.length
              · subst hj
                rw [hg2 _ (by omega), rdA, upd_e, hM.2.2.2.1 i hi]
                have hm := List.mem_of_find?_eq_some hf
                obtain ⟨g3, e3, -⟩ := (fil_mem _ _ _).mp hm
                rw [e3]
                simp [List.getD]
              · exact hch j (by omega) h2
        · have hin : xs[i] ∈ pre := (ht i hi).mp (by cases hh : t.testBit i; exact absurd hh hbt; rfl)
          rw [flx_in hin] at hq
          exact ih2 g hg hq
    · have e := hop hF (Classical.not_not.mp h)
      have q0 := hQ0 (M.1 37) (fun _ _ => rfl)
      rw [sA_self] at q0
      exact q0 (List.find?_eq_none.mpr (fun f hf => by rw [e f hf]; decide))
end SC
