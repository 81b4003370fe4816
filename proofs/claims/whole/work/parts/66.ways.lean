/-! ways -/
theorem bitsL_nd (t n : Nat) : (bitsL t n).Nodup := List.Pairwise.filter _ List.nodup_range
theorem bitsL_idx {t c : Nat} (hb : t.testBit c = true) : ∀ n, c < n → (bitsL t n)[cB (fun c => t.testBit c) c]? = some c
  | n + 1, h => by
    rw [bitsL_s]
    by_cases e : c = n
    · subst e
      rw [if_pos hb, List.getElem?_append_right (by rw [bitsL_len]; exact Nat.le_refl _), bitsL_len, Nat.sub_self]
      rfl
    · have ih := bitsL_idx hb n (by omega)
      have hl := (List.getElem?_eq_some_iff.mp ih).1
      rw [List.getElem?_append_left hl]
      exact ih
theorem mod_mk (t c : Nat) : t % 2 ^ c = mkN (fun c => t.testBit c) c := by
  apply Nat.eq_of_testBit_eq
  intro i
  rw [mkN_bit, Nat.testBit_mod_two_pow]
theorem bitsL_le (t : Nat) (n : Nat) : (bitsL t n).length ≤ n := by rw [bitsL_len]; exact cB_le _ _
theorem Eqv.rd {M N : PM} (h : Eqv M N) (q : Nat) (hq : q ≤ 24 ∨ q = 32 ∨ (44 ≤ q ∧ q ≤ 47) ∨ q = 49 ∨ q = 50 ∨ (57 ≤ q ∧ q ≤ 65) ∨ q = 69) : N.1 q = M.1 q := by
  refine funext fun k => h.1 q k ?_
  unfold scr
  simp only [Bool.or_eq_false_iff, Bool.and_eq_false_iff, decide_eq_false_iff_not]
  omega
theorem Eqv.sC {M N : PM} (h : Eqv M N) {nS : Nat} {p : Int32} : stC N nS p = stC M nS p := by
  unfold stC stCf
  rw [h.rd 6 (by omega), h.rd 11 (by omega), h.rd 12 (by omega)]
theorem Eqv.mC {M N : PM} (h : Eqv M N) {nC nS : Nat} {p : Int32} : moC N nC nS p = moC M nC nS p := by
  unfold moC moCf
  rw [h.sC, h.rd 4 (by omega), h.rd 8 (by omega), h.rd 9 (by omega)]
section WD
variable {M N : PM} {nP nC nS tl sn tn : Nat}
theorem ways_data (hN : RelN M nP nC nS tl sn tn) {p : Nat} (hp : p < nP) (t : Nat) : ∃ (h sl : Nat) (m0 : Int), 1 ≤ h ∧ h ≤ 4 ∧ M.1 2 p = nI h ∧ sl ≤ 20 ∧ M.1 3 p = nI sl ∧ stC M nS (nI p) = zI m0 ∧ SFx (sq h) (bitsL t nC).length (wB M 4 (bitsL t nC)) (stp h) m0 sl := by
  obtain ⟨h, a1, a2, a3, -⟩ := hN.2.1.1 p hp
  obtain ⟨sl, b1, b2', -⟩ := hN.2.1.2.1 p hp
  obtain ⟨m0, c1, c2, c3⟩ := st_b hN.1.2.2.2.2.2.2.2.2 hN.2.1 hN.2.2.1 (nI p)
  have hC := hN.1.2.2.2.2.2.1
  have hle := bitsL_le t nC
  refine ⟨h, sl, m0, a1, a2, a3, b1, b2', c3, by rw [sq_len]; omega, sq_nd h, by omega, fun x hx => ?_, fun i => ?_, by omega, by omega, b1⟩
  · have := stp_b a2 (sq_mem.mp hx); omega
  · refine wB_b (n := 0) (W := 60) (Nat.le_refl _) (fun c hc => ?_) i
    obtain ⟨w, -, w2, w3, -⟩ := hN.2.1.2.2.1 c (bitsL_mem.mp hc).1
    exact ⟨w, w2, w3⟩
theorem SAt.sm {st : Nat → Int} {xs cs : List Nat} {m : Int32} {sl : Nat} (h : SAt M N st xs (cs.map (fun c => (M.1 4 c, M.1 9 c))) m (nI sl)) : SMm N xs cs.length (wB M 4 cs) st sl := by
  obtain ⟨h1, h2, h3, h4, h5, h6, h7⟩ := h
  refine ⟨h2, by rw [h3, List.length_map], h5, h6, fun b hb => ?_⟩
  have := (h7 b (by rw [List.length_map]; exact hb)).1
  rw [this, List.getElem_map, wB_z hb]
/-- the reference's side of a search, out of the class's -/
theorem ref_w (hN : RelN N nP nC nS tl sn tn) (he : Eqv M N) {t : Nat} : ∀ i (hi : i < (bitsL t nC).length), N.1 60 (bitsL t nC)[i] = zI (wB M 4 (bitsL t nC) i) := by
  intro i hi
  obtain ⟨w, -, -, w3, w4⟩ := hN.2.1.2.2.1 _ (bitsL_mem.mp (List.getElem_mem hi)).1
  rw [wB_z hi, ← he.rd 4 (by omega), w4, w3]
theorem ref_58 (hN : RelN N nP nC nS tl sn tn) (he : Eqv M N) {p h : Nat} (hp : p < nP) (h2 : M.1 2 p = nI h) : N.1 58 p = nI h := by
  obtain ⟨w, -, -, w3, w4⟩ := hN.2.1.1 p hp
  rw [w4, ← w3, he.rd 2 (by omega), h2]
theorem ref_59 (hN : RelN N nP nC nS tl sn tn) (he : Eqv M N) {p h : Nat} (hp : p < nP) (h2 : M.1 3 p = nI h) : N.1 59 p = nI h := by
  obtain ⟨w, -, w3, w4⟩ := hN.2.1.2.1 p hp
  rw [w4, ← w3, he.rd 3 (by omega), h2]
theorem ref_st (hN : RelN N nP nC nS tl sn tn) (he : Eqv M N) {p : Nat} {m0 : Int} (hp : p < nP) (h2 : stC M nS (nI p) = zI m0) : stR N nS (nI p) = zI m0 := by
  rw [← st_eq hN.1 hN.2.1 hN.2.2.1 hp, he.sC, h2]
end WD
theorem c_X9_all {G : GG} {d : Nat} {M : PM} {Q : Option Value → PM → Prop} {n : Nat} (hM : M.1 56 15 = nI n) (hQ : Q (some (.int ((nI 1 <<< (nI n &&& 31)) - nI 1))) M) : PC G (d + 1) m_X9_all [.ref 56] M Q := by
  refine PC.of ok_X9_all (Nat.le_of_ble_eq_true rfl) (g_X9_all_0 ?_)
  rw [hM]; exact hQ
theorem pair_ways {G : GG} {M : PM} {x1 x2 x3 : Int32} (h : Rel M) : Pair G m_X8_ways m_X9_ways [.int x1, .int x2, .int x3] M := by
  have hr := h.eqv (Eqv.t0 M (nI 0))
  obtain ⟨nP, nC, nS, tl, sn, tn, hN⟩ := h
  have hP3 := hN.1.2.2.1
  have hC8 := hN.1.2.2.2.2.2.1
  have hS5 := hN.1.2.2.2.2.2.2.2.2
  have hN0 := hN.eqv (Eqv.t0 M (nI 0))
  refine PC.of (d := 899) ok_X8_ways (Nat.le_of_ble_eq_true rfl) (g_X8_ways_0 (c_X3_hasPlank hN.1.1 ?_))
  simp only [gI, bI_z]
  refine b2 (fun q => ⟨_, rfl, PC.of (d := 899) ok_X9_ways (Nat.le_of_ble_eq_true rfl) (g_X9_ways_0 (c_X9_isPlank hN0.1.2.1 hP3 ?_))⟩) (fun q => ?_)
  · simp only [gI, bI_z]
    exact b1 q ⟨by trivial, hr⟩
  obtain ⟨p, hp, rfl⟩ := (inR_dec (x := x1) (n := nP) (by omega)).resolve_right q
  have main : ∀ t : Nat, t < 256 → ∃ (hh sl : Nat) (m0 : Int), (∀ {Q : Option Value → PM → Prop}, (∀ N, Frc M N → SMm N (sq hh) (bitsL t nC).length (wB M 4 (bitsL t nC)) (stp hh) sl → N.1 33 7 = zI m0 → Q none N) → PC G 899 m_X8_askWays [.ref 0, .int (nI p), .int (nI t)] M Q) ∧ SFx (sq hh) (bitsL t nC).length (wB M 4 (bitsL t nC)) (stp hh) m0 sl ∧ (∀ N, Eqv M N → ∀ mo, 1 ≤ mo → mo ≤ 1000000 → ∀ {Q : Option Value → PM → Prop}, (∀ N2, Frw N N2 → N2.1 56 24 = nI (bitsL t nC).length → (∀ i (hi : i < (bitsL t nC).length), N2.1 66 i = nI (bitsL t nC)[i]) → (0 < (foldS (stopW mo) (upW (wB M 4 (bitsL t nC)) (stp hh) m0 sl) (0, []) (fil (sq hh) (bitsL t nC).length [])).1 → ∀ e, e < (bitsL t nC).length → N2.1 68 e = zI (stp hh ((foldS (stopW mo) (upW (wB M 4 (bitsL t nC)) (stp hh) m0 sl) (0, []) (fil (sq hh) (bitsL t nC).length [])).2.getD e 0))) → Q (some (.int (nI (foldS (stopW mo) (upW (wB M 4 (bitsL t nC)) (stp hh) m0 sl) (0, []) (fil (sq hh) (bitsL t nC).length [])).1))) N2) → PC G 899 m_X9_waysOf [.ref 56, .int (nI p), .int (nI t), .int (nI mo)] N Q) := by
    intro t ht
    obtain ⟨hh, sl, m0, a1, a2, a3, b1', b2', c3, hF⟩ := ways_data hN hp t
    refine ⟨hh, sl, m0, fun {Q} hQ => ?_, hF, fun N he mo m1 m2 {Q} hQ => ?_⟩
    · refine c_X8_askWays (d := 897) (by omega) a2 hC8 hS5 hN.1.2.2.2.1 hN.1.2.2.2.2.2.2.1 a3 (fun N hA => ?_)
      rw [b2'] at hA
      exact hQ N hA.1 hA.sm (by rw [hA.2.2.2.1, c3])
    · have hNN := hN.eqv he
      exact c_X9_waysOf (d := 896) (by omega) a1 a2 hC8 hS5 ht hNN.1.2.2.2.2.1 hNN.1.2.2.2.2.2.2.2.1 (ref_58 hNN he hp a3) (ref_59 hNN he hp b2') (ref_w hNN he) hF (ref_st hNN he hp c3) m1 m2 hQ
  have tl8 : x2.toBitVec.toNat % 2 ^ nC < 256 := by
    have h1 := Nat.mod_lt x2.toBitVec.toNat (Nat.two_pow_pos nC)
    have h2 : 2 ^ nC ≤ 2 ^ 8 := Nat.pow_le_pow_right (by decide) hC8
    omega
  have alm := allmask hC8 x2
  generalize x2.toBitVec.toNat % 2 ^ nC = t at alm tl8
  obtain ⟨hh, sl, m0, ask, hF, ref⟩ := main t tl8
  have hlen := bitsL_le t nC
  by_cases q3 : x3 = -1
  · subst q3
    refine b1 rfl (c_X3_allChildren hN.1.2.2.2.1 ?_)
    simp only [gI]
    rw [alm]
    refine ask (fun N hf hM h7 => ?_)
    simp only [gN]
    refine b1 trivial (PC.dp (896 - (bitsL t nC).length + (bitsL t nC).length + 3) (by omega) (c_X5_countWays hF hM h7 (fun N2 hf2 => ?_)))
    simp only [gI]
    have he := (hf.trans hf2).eqv
    have he0 := he.trans (Eqv.t0 N2 (nI 0))
    have hN2 := hN.eqv he0
    refine ⟨_, rfl, PC.of (d := 899) ok_X9_ways (Nat.le_of_ble_eq_true rfl) (g_X9_ways_0 (c_X9_isPlank hN2.1.2.1 hP3 ?_))⟩
    simp only [gI, bI_z]
    refine b0 (fun z => z (inR_y hp (by omega))) (b1 trivial (c_X9_all hN2.1.2.2.2.2.1 ?_))
    simp only [gI]
    rw [alm]
    refine b1 trivial (ref _ he0 1000000 (by omega) (Nat.le_refl _) (fun N3 hf3 _ _ _ => ?_))
    simp only [gI]
    refine b1 trivial ⟨?_, Rel.of (hN2.eqv hf3.eqv)⟩
    have hfew := fil_few (xs := sq hh) (r := (bitsL t nC).length) hF.1 hF.2.2.1
    have hcl := List.countP_le_length (p := lev (wB M 4 (bitsL t nC)) (stp hh) m0 sl) (l := fil (sq hh) (bitsL t nC).length [])
    rw [fold_big _ _ (by show 0 + _ < 1000000; omega)]
    rw [Nat.zero_add]
  · refine b0 q3 (c_X3_hasChild hN.1.2.2.2.1 ?_)
    simp only [gI, bI_z]
    refine b2 (fun qc => ⟨_, rfl, PC.of (d := 899) ok_X9_ways (Nat.le_of_ble_eq_true rfl) (g_X9_ways_0 (c_X9_isPlank hN0.1.2.1 hP3 ?_))⟩) (fun qc => ?_)
    · simp only [gI, bI_z]
      refine b0 (fun z => z (inR_y hp (by omega))) (b0 q3 (c_X9_isChild hN0.1.2.2.2.2.1 hC8 ?_))
      simp only [gI, bI_z]
      exact b1 qc ⟨by trivial, hr⟩
    obtain ⟨c, hc, rfl⟩ := (inR_dec (x := x3) (n := nC) (by omega)).resolve_right qc
    refine c_X3_allChildren hN.1.2.2.2.1 ?_
    simp only [gI]
    rw [alm]
    refine ask (fun N hf hM h7 => ?_)
    simp only [gN]
    -- the reference, at any such memory
    have back : ∀ (N2 : PM) (r : Int32), Eqv M N2 → (match (fil (sq hh) (bitsL t nC).length []).find? (lev (wB M 4 (bitsL t nC)) (stp hh) m0 sl) with
        | none => r = -9
        | some f => r = if t.testBit c then zI (stp hh (f.getD (cB (fun c => t.testBit c) c) 0)) else nI 0) → PC G 900 m_X9_ways [.ref 56, .int (nI p), .int x2, .int (nI c)] N2 (fun w N3 => w = some (.int r) ∧ Rel N3) := by
      intro N2 r he hrr
      have he0 := he.trans (Eqv.t0 N2 (nI 0))
      have hN2 := hN.eqv he0
      refine PC.of (d := 899) ok_X9_ways (Nat.le_of_ble_eq_true rfl) (g_X9_ways_0 (c_X9_isPlank hN2.1.2.1 hP3 ?_))
      simp only [gI, bI_z]
      refine b0 (fun z => z (inR_y hp (by omega))) (b0 q3 (c_X9_isChild hN2.1.2.2.2.2.1 hC8 ?_))
      simp only [gI, bI_z]
      refine b0 (fun z => z (inR_y hc (by omega))) (c_X9_all hN2.1.2.2.2.2.1 ?_)
      simp only [gI]
      rw [alm]
      refine b0 q3 (ref _ he0 1 (Nat.le_refl _) (by omega) (fun N3 hf3 h24 h66 h68 => ?_))
      simp only [gI]
      refine b0 q3 ?_
      have hRel := Rel.of (hN2.eqv hf3.eqv)
      rw [fold_one] at h68 ⊢
      cases hfd : (fil (sq hh) (bitsL t nC).length []).find? (lev (wB M 4 (bitsL t nC)) (stp hh) m0 sl) with
      | none =>
        rw [hfd] at hrr
        subst hrr
        apply g_X9_ways_67
        refine b2 (fun _ => b1 rfl ⟨rfl, hRel⟩) (fun _ => b1 (by decide) (b1 rfl ⟨rfl, hRel⟩))
      | some f =>
        rw [hfd] at hrr h68
        have h68 := h68 (Nat.lt_succ_self 0)
        refine up_ind (n := (bitsL t nC).length) (P := fun e => ∀ x5 : Int32, x5 = (if t.testBit c = true ∧ cB (fun c => t.testBit c) c < e then r else nI 0) → PX G 899 m_X9_ways (fun w N3 => w = some (.int r) ∧ Rel N3) 67 [some (.ref 56), none, none, some (.int (nI c)), some (.int (nI 1)), some (.int x5), some (.int (nI e))] [] N3) ?_ ?_ 0 (Nat.zero_le _) (nI 0) (by rw [if_neg (by omega)])
        · intro x5 hx5
          apply g_X9_ways_67
          simp (disch := omega) only [nle, nlt, neq, nz, nzl, nzg, nzp, nzn, nneg, nneg9, nI_add, ncl, vin, br_T, br_F, br_p, br_n, true_and, and_true, Nat.zero_add, rdA, rdN, h24]
          refine ⟨?_, hRel⟩
          rw [hx5]
          by_cases hb : t.testBit c = true
          · have := (List.getElem?_eq_some_iff.mp (bitsL_idx hb nC hc)).1
            rw [if_pos ⟨hb, this⟩]
          · rw [if_neg (fun z => hb z.1)]
            simp only [if_neg hb] at hrr
            rw [hrr]
        · intro e he2 ih x5 hx5
          apply g_X9_ways_67
          have h66e := h66 e he2
          have hm := bitsL_mem.mp (List.getElem_mem he2)
          simp (disch := omega) only [nle, nlt, neq, nz, nzl, nzg, nzp, nzn, nneg, nneg9, nI_add, ncl, vin, br_T, br_F, br_p, br_n, true_and, and_true, Nat.zero_add, rdA, rdN, h24, h66e]
          refine b2 (fun z => ih _ ?_) (fun z => ih _ ?_)
          · have hb : t.testBit c = true := by rw [← z]; exact hm.2
            obtain ⟨i1, i2⟩ := List.getElem?_eq_some_iff.mp (bitsL_idx hb nC hc)
            have ei : cB (fun c => t.testBit c) c = e := (List.getElem?_inj i1 (bitsL_nd t nC)).mp (by rw [List.getElem?_eq_getElem i1, List.getElem?_eq_getElem he2, i2, z])
            rw [if_pos ⟨hb, by omega⟩, h68 e he2]
            simp only [if_pos hb] at hrr
            rw [hrr, ei]
          · rw [hx5]
            by_cases hb : t.testBit c = true
            · obtain ⟨i1, i2⟩ := List.getElem?_eq_some_iff.mp (bitsL_idx hb nC hc)
              have ne : ¬ cB (fun c => t.testBit c) c = e := fun y => z (by
                have : (bitsL t nC)[e] = (bitsL t nC)[cB (fun c => t.testBit c) c] := by simp only [y]
                rw [this, i2])
              by_cases hl : cB (fun c => t.testBit c) c < e
              · rw [if_pos ⟨hb, hl⟩, if_pos ⟨hb, by omega⟩]
              · rw [if_neg (fun y => hl y.2), if_neg (fun y => by have := y.2; omega)]
            · rw [if_neg (fun y => hb y.1), if_neg (fun y => hb y.1)]
    refine b0 q3 (PC.dp (896 - (bitsL t nC).length + (bitsL t nC).length + 3) (by omega) (c_X5_findFirst hF hM h7 (fun N2 hf2 hno => ?_) (fun N2 f hf2 h6 hfd h37 => ?_)))
    · simp only [gI]
      refine b1 rfl ⟨_, rfl, back N2 _ (hf.trans hf2).eqv ?_⟩
      rw [hno]
    · simp only [gI]
      refine b0 (by decide) ?_
      rw [and_bit (by omega)]
      refine b2 (fun hb => ⟨_, rfl, back N2 _ (hf.trans hf2).eqv ?_⟩) (fun hb => ?_)
      · rw [hfd]
        simp [hb]
      · have hb : t.testBit c = true := by cases hh : t.testBit c; exact absurd hh hb; rfl
        obtain ⟨i1, i2⟩ := List.getElem?_eq_some_iff.mp (bitsL_idx hb nC hc)
        rw [allmask (n := c) (by omega), pk_tn (by omega)]
        have h1 := Nat.mod_lt t (Nat.two_pow_pos c)
        have h2 : 2 ^ c ≤ 2 ^ 8 := Nat.pow_le_pow_right (by decide) (by omega)
        refine c_bitCount (by omega) ?_
        rw [mod_mk, popc_mk _ _ (by omega)]
        simp only [gI]
        refine PC.of (d := 898) ok_X5_chosenStep (Nat.le_of_ble_eq_true rfl) (g_X5_chosenStep_0 ?_)
        simp (disch := omega) only [nle, nlt, neq, nz, nzl, nzg, nzp, nzn, nneg, nneg9, nI_add, ncl, vin, br_T, br_F, br_p, br_n, true_and, and_true, Nat.zero_add, rdA, rdN, h6]
        refine ⟨_, rfl, back N2 _ (hf.trans hf2).eqv ?_⟩
        rw [hfd, h37 _ i1]
        simp [hb]
