/-! who is asked: the class sets its search up -/
def Frc (M N : PM) : Prop := (∀ q, ¬ (33 ≤ q ∧ q ≤ 38) → N.1 q = M.1 q) ∧ N.2 = M.2
theorem Frc.refl (M : PM) : Frc M M := ⟨fun _ _ => rfl, rfl⟩
theorem Frc.trans {A B C : PM} (h : Frc A B) (h2 : Frc B C) : Frc A C := ⟨fun q a => (h2.1 q a).trans (h.1 q a), h2.2.trans h.2⟩
theorem Frc.ar {M N : PM} {q : Nat} {f : Nat → Int32} (h : Frc M N) (hq : 33 ≤ q ∧ q ≤ 38) : Frc M (sA N q f) := ⟨fun r a => by rw [rdN (by omega)]; exact h.1 r a, h.2⟩
theorem Frc.wr {M N : PM} {q k : Nat} {v : Int32} (h : Frc M N) (hq : 33 ≤ q ∧ q ≤ 38) : Frc M (wI N q k v) := by rw [wI_sA]; exact h.ar hq
theorem Frc.eqv {M N : PM} (h : Frc M N) : Eqv M N := by
  refine ⟨fun q k hs => ?_, by rw [h.2], by rw [h.2]⟩
  by_cases e : 33 ≤ q ∧ q ≤ 38
  · exfalso
    unfold scr at hs
    simp only [Bool.or_eq_false_iff, decide_eq_false_iff_not] at hs
    omega
  · rw [h.1 q e]
def SAt (M N : PM) (st : Nat → Int) (xs : List Nat) (bs : List (Int32 × Int32)) (m s : Int32) : Prop := Frc M N ∧ N.1 33 5 = nI xs.length ∧ N.1 33 6 = nI bs.length ∧ N.1 33 7 = m ∧ N.1 33 8 = s ∧ (∀ i (h : i < xs.length), N.1 34 i = zI (st xs[i])) ∧ ∀ i (h : i < bs.length), N.1 35 i = bs[i].1 ∧ N.1 36 i = bs[i].2
section SA
variable {M0 : PM} {st : Nat → Int} {xs : List Nat} {bs : List (Int32 × Int32)} {m s : Int32}
theorem c_X5_begin {G : GG} {d : Nat} {M : PM} {Q : Option Value → PM → Prop} (hf : Frc M0 M) (hQ : ∀ N, SAt M0 N st [] [] m s → Q none N) : PC G (d + 1) m_X5_begin [.ref 33, .int m, .int s] M Q := by
  refine PC.of ok_X5_begin (Nat.le_of_ble_eq_true rfl) (g_X5_begin_0 (hQ _ ⟨(((hf.wr ?_).wr ?_).wr ?_).wr ?_, ?_, ?_, ?_, ?_, fun i h => absurd h (by simp), fun i h => absurd h (by simp)⟩))
  · omega
  · omega
  · omega
  · omega
  all_goals (simp (disch := omega) only [wI_sA, rdA, rdN, rdL, upd_e, upd_n]; try rfl)
theorem c_X5_addSeat {G : GG} {d : Nat} {M : PM} {Q : Option Value → PM → Prop} {x : Nat} (h : SAt M0 M st xs bs m s) (hl : xs.length < 8) (hQ : ∀ N, SAt M0 N st (xs ++ [x]) bs m s → Q none N) : PC G (d + 1) m_X5_addSeat [.ref 33, .int (zI (st x))] M Q := by
  obtain ⟨h1, h2, h3, h4, h5, h6, h7⟩ := h
  refine PC.of ok_X5_addSeat (Nat.le_of_ble_eq_true rfl) (g_X5_addSeat_0 ?_)
  simp (disch := omega) only [nle, nlt, neq, nz, nzl, nzg, nzp, nzn, nneg, nneg9, nI_add, ncl, vin, br_T, br_F, br_p, br_n, true_and, and_true, Nat.zero_add, rdA, rdN, h2]
  refine hQ _ ⟨(h1.wr (by omega)).wr (by omega), ?_, ?_, ?_, ?_, fun i hi => ?_, fun i hi => ?_⟩
  · simp (disch := omega) only [wI_sA, rdA, rdN, rdL, upd_e, upd_n]; rw [List.length_append]; rfl
  · simp (disch := omega) only [wI_sA, rdA, rdN, rdL, upd_e, upd_n]; exact h3
  · simp (disch := omega) only [wI_sA, rdA, rdN, rdL, upd_e, upd_n]; exact h4
  · simp (disch := omega) only [wI_sA, rdA, rdN, rdL, upd_e, upd_n]; exact h5
  · rw [List.length_append, List.length_singleton] at hi
    by_cases e : i = xs.length
    · subst e
      simp (disch := omega) only [wI_sA, rdA, rdN, rdL, upd_e, upd_n]
      simp
    · simp (disch := omega) only [wI_sA, rdA, rdN, rdL, upd_e, upd_n]
      rw [h6 i (by omega), List.getElem_append_left (by omega)]
  · simp (disch := omega) only [wI_sA, rdA, rdN, rdL, upd_e, upd_n]; exact h7 i hi
theorem c_X5_addBody {G : GG} {d : Nat} {M : PM} {Q : Option Value → PM → Prop} {a b : Int32} (h : SAt M0 M st xs bs m s) (hl : bs.length < 8) (hQ : ∀ N, SAt M0 N st xs (bs ++ [(a, b)]) m s → Q none N) : PC G (d + 1) m_X5_addBody [.ref 33, .int a, .int b] M Q := by
  obtain ⟨h1, h2, h3, h4, h5, h6, h7⟩ := h
  refine PC.of ok_X5_addBody (Nat.le_of_ble_eq_true rfl) (g_X5_addBody_0 ?_)
  simp (disch := omega) only [nle, nlt, neq, nz, nzl, nzg, nzp, nzn, nneg, nneg9, nI_add, ncl, vin, br_T, br_F, br_p, br_n, true_and, and_true, Nat.zero_add, rdA, rdN, h3]
  refine hQ _ ⟨((h1.wr (by omega)).wr (by omega)).wr (by omega), ?_, ?_, ?_, ?_, fun i hi => ?_, fun i hi => ?_⟩
  · simp (disch := omega) only [wI_sA, rdA, rdN, rdL, upd_e, upd_n]; exact h2
  · simp (disch := omega) only [wI_sA, rdA, rdN, rdL, upd_e, upd_n]; rw [List.length_append]; rfl
  · simp (disch := omega) only [wI_sA, rdA, rdN, rdL, upd_e, upd_n]; exact h4
  · simp (disch := omega) only [wI_sA, rdA, rdN, rdL, upd_e, upd_n]; exact h5
  · simp (disch := omega) only [wI_sA, rdA, rdN, rdL, upd_e, upd_n]; exact h6 i hi
  · rw [List.length_append, List.length_singleton] at hi
    by_cases e : i = bs.length
    · subst e
      simp (disch := omega) only [wI_sA, rdA, rdN, rdL, upd_e, upd_n]
      simp
    · simp (disch := omega) only [wI_sA, rdA, rdN, rdL, upd_e, upd_n]
      rw [List.getElem_append_left (by omega)]
      exact h7 i (by omega)
end SA
theorem c_X8_askWays {G : GG} {d : Nat} {M : PM} {Q : Option Value → PM → Prop} {p h nC nS t : Nat} (hp : p < 3) (hh : h ≤ 4) (hC : nC ≤ 8) (hS : nS ≤ 5) (h6 : M.1 1 6 = nI nC) (h7 : M.1 1 7 = nI nS) (h2 : M.1 2 p = nI h) (hQ : ∀ N, SAt M N (stp h) (sq h) ((bitsL t nC).map (fun c => (M.1 4 c, M.1 9 c))) (stC M nS (nI p)) (M.1 3 p) → Q none N) : PC G (d + 2) m_X8_askWays [.ref 0, .int (nI p), .int (nI t)] M Q := by
  refine PC.of ok_X8_askWays (Nat.le_of_ble_eq_true rfl) (g_X8_askWays_0 (c_X4_stoneMoment hS h7 ?_))
  simp only [gI]
  simp (disch := omega) only [nle, nlt, neq, nz, nzl, nzg, nzp, nzn, nneg, nneg9, nI_add, ncl, vin, br_T, br_F, br_p, br_n, true_and, and_true, Nat.zero_add, rdA, rdN]
  refine c_X5_begin (st := stp h) (Frc.refl M) (fun N hN => ?_)
  simp only [gN]
  have e2h : nI 2 * nI h = nI (2 * h) := pk_mul 2 h
  have l2 : ∀ N, SAt M N (stp h) (sq h) [] (stC M nS (nI p)) (M.1 3 p) → PX G (d + 1) m_X8_askWays Q 67 [some (.ref 0), none, some (.int (nI t)), none, some (.int (nI 0))] [] N := by
    refine up_ind (n := nC) (P := fun c => ∀ N, SAt M N (stp h) (sq h) ((bitsL t c).map (fun c => (M.1 4 c, M.1 9 c))) (stC M nS (nI p)) (M.1 3 p) → PX G (d + 1) m_X8_askWays Q 67 [some (.ref 0), none, some (.int (nI t)), none, some (.int (nI c))] [] N) ?_ ?_ 0 (Nat.zero_le _)
    · intro N hN
      apply g_X8_askWays_67
      have e6 : N.1 1 6 = nI nC := by rw [hN.1.1 1 (by omega)]; exact h6
      simp (disch := omega) only [nle, nlt, neq, nz, nzl, nzg, nzp, nzn, nneg, nneg9, nI_add, ncl, vin, br_T, br_F, br_p, br_n, true_and, and_true, Nat.zero_add, rdA, rdN, e6]
      exact hQ N hN
    · intro c hc ih N hN
      apply g_X8_askWays_67
      have e6 : N.1 1 6 = nI nC := by rw [hN.1.1 1 (by omega)]; exact h6
      have hlen := cB_le (fun c => t.testBit c) c
      rw [← bitsL_len] at hlen
      simp (disch := omega) only [nle, nlt, neq, nz, nzl, nzg, nzp, nzn, nneg, nneg9, nI_add, ncl, vin, br_T, br_F, br_p, br_n, true_and, and_true, Nat.zero_add, rdA, rdN, e6]
      rw [and_bit (by omega)]
      have hs := bitsL_s (t := t) (n := c)
      refine b2 (fun z => ?_) (fun z => ?_)
      · rw [if_neg (by rw [z]; decide), List.append_nil] at hs
        refine ih N ?_
        rw [hs]; exact hN
      · rw [if_pos (by cases hh : t.testBit c; exact absurd hh z; rfl)] at hs
        rw [hN.1.1 4 (by omega), hN.1.1 9 (by omega)]
        refine c_X5_addBody hN (by rw [List.length_map]; omega) (fun N2 hN2 => ?_)
        simp only [gN]
        refine ih N2 ?_
        rw [hs, List.map_append]; exact hN2
  have l1 := up_ind (n := 2 * h) (P := fun k => ∀ N, SAt M N (stp h) (List.range' 0 k) [] (stC M nS (nI p)) (M.1 3 p) → PX G (d + 1) m_X8_askWays Q 37 [some (.ref 0), none, some (.int (nI t)), some (.int (nI h)), some (.int (nI k))] [] N) ?_ ?_ 0 (Nat.zero_le _)
  · rw [hN.1.1 2 (by omega), h2]
    exact l1 N hN
  · intro N hN
    apply g_X8_askWays_37
    simp (disch := omega) only [nle, nlt, neq, nz, nzl, nzg, nzp, nzn, nneg, nneg9, nI_add, ncl, vin, br_T, br_F, br_p, br_n, true_and, and_true, Nat.zero_add, rdA, rdN, e2h]
    rw [← sq_eq] at hN
    exact l2 N hN
  · intro k hk ih N hN
    apply g_X8_askWays_37
    simp (disch := omega) only [nle, nlt, neq, nz, nzl, nzg, nzp, nzn, nneg, nneg9, nI_add, ncl, vin, br_T, br_F, br_p, br_n, true_and, and_true, Nat.zero_add, rdA, rdN, e2h]
    refine c_stepOfSeat hh hk ?_
    simp only [gI]
    refine c_X5_addSeat hN (by rw [List.length_range']; omega) (fun N2 hN2 => ?_)
    simp only [gN]
    refine ih N2 ?_
    rw [List.range'_1_concat, Nat.zero_add]; exact hN2
theorem PC.dp {G : GG} {d : Nat} {μ : Mth} {av : List Value} {M : PM} {Q : Option Value → PM → Prop} (d' : Nat) (e : d = d') (h : PC G d' μ av M Q) : PC G d μ av M Q := by rw [e]; exact h
section SC
variable {xs : List Nat} {n : Nat} {w st nw : Nat → Int} {m0 : Int} {sl : Nat}
theorem SMm.r {M : PM} {g : Nat → Int32} (h : SMm M xs n w st sl) : SMm (sA M 38 g) xs n w st sl := h.of (fun k _ => by rw [rdN (by omega)]) (by rw [rdN (by omega)]) (by rw [rdN (by omega)])
theorem c_X5_countWays {G : GG} {d : Nat} {M : PM} {Q : Option Value → PM → Prop} (hF : SFx xs n w st m0 sl) (hM : SMm M xs n w st sl) (h7 : M.1 33 7 = zI m0) (hQ : ∀ N, Frc M N → Q (some (.int (nI ((fil xs n []).countP (lev w st m0 sl))))) N) : PC G (d + n + 3) m_X5_countWays [.ref 33] M Q := by
  refine PC.of ok_X5_countWays (Nat.le_of_ble_eq_true rfl) (g_X5_countWays_0 (c_X5_measureReach hF.2.2.1 hM.2.1 hM.2.2.2.2 (fun g hg => ?_)))
  simp only [gN]
  rw [rdN (by omega), h7]
  have hc := c_X5_countFrom (G := G) hF hM.r (fun b r hbr => by rw [rdA]; exact hg b r hbr) n (d := d) (Q := fun v N2 => gI v (fun r2 => Q (some (.int r2)) N2)) (pre := []) (t := 0) (by simp) TK.nil (fun x hx => by cases hx) (by simp only [gI]; exact hQ _ ((Frc.refl M).ar (by omega)))
  simp only [mos, Int.add_zero] at hc
  exact hc
theorem c_X5_findFirst {G : GG} {d : Nat} {M : PM} {Q : Option Value → PM → Prop} (hF : SFx xs n w st m0 sl) (hM : SMm M xs n w st sl) (h7 : M.1 33 7 = zI m0) (hQ0 : ∀ N, Frc M N → (fil xs n []).find? (lev w st m0 sl) = none → Q (some (.int (nI 0))) N) (hQ1 : ∀ N f, Frc M N → N.1 33 6 = nI n → (fil xs n []).find? (lev w st m0 sl) = some f → (∀ i, i < n → N.1 37 i = zI (st (f.getD i 0))) → Q (some (.int (nI 1))) N) : PC G (d + n + 3) m_X5_findFirst [.ref 33] M Q := by
  refine PC.of ok_X5_findFirst (Nat.le_of_ble_eq_true rfl) (g_X5_findFirst_0 (c_X5_measureReach hF.2.2.1 hM.2.1 hM.2.2.2.2 (fun g hg => ?_)))
  simp only [gN]
  rw [rdN (by omega), h7]
  have hc := c_X5_findFrom (G := G) hF n (d := d) (M := sA M 38 g) (Q := fun v N2 => gI v (fun r2 => (r2 = 0 ∨ r2 = 1) ∧ Q (some (.int r2)) N2)) (pre := []) (t := 0) hM.r (fun b r hbr => by rw [rdA]; exact hg b r hbr) (by simp) TK.nil (fun x hx => by cases hx) ?_ ?_
  · simp only [mos, Int.add_zero] at hc
    exact hc
  · intro g2 _ hf
    simp only [gI, n01a, true_and]
    exact hQ0 _ (((Frc.refl M).ar (by omega)).ar (by omega)) hf
  · intro g2 f _ hf hch
    simp only [gI, n01b, true_and]
    refine hQ1 _ f (((Frc.refl M).ar (by omega)).ar (by omega)) ?_ hf (fun i hi => ?_)
    · rw [rdN (by omega), rdN (by omega)]; exact hM.2.1
    · rw [rdA]; exact hch i (Nat.zero_le _) hi
theorem c_X5_fewestChanges {G : GG} {d : Nat} {M : PM} {Q : Option Value → PM → Prop} (hF : SFx xs n w st m0 sl) (hw : ∀ b, -4 ≤ nw b ∧ nw b ≤ 4) (hM : SMm M xs n w st sl) (h7 : M.1 33 7 = zI m0) (h36 : ∀ b, b < n → M.1 36 b = zI (nw b)) (hQ : ∀ N, Frc M N → Q (some (.int (if mnf (lev w st m0 sl) (chg nw st 0) (n + 1) (fil xs n []) ≤ n then nI (mnf (lev w st m0 sl) (chg nw st 0) (n + 1) (fil xs n [])) else -1))) N) : PC G (d + n + 3) m_X5_fewestChanges [.ref 33] M Q := by
  have hn := hF.2.2.1
  refine PC.of ok_X5_fewestChanges (Nat.le_of_ble_eq_true rfl) (g_X5_fewestChanges_0 (c_X5_measureReach hF.2.2.1 hM.2.1 hM.2.2.2.2 (fun g hg => ?_)))
  simp only [gN]
  rw [rdN (by omega), h7, hM.2.1, nI_add]
  have hc := c_X5_changeFrom (G := G) hF hw n (d := d) (M := wI (sA M 38 g) 33 9 (nI (n + 1))) (Q := fun v N2 => gN v (br ((N2.1 33 9) ≤ (N2.1 33 6)) (Q (some (.int (N2.1 33 9))) N2) (Q (some (.int (-1))) N2))) (pre := []) (t := 0) (fw := n + 1) (hM.of (fun k hk => by simp (disch := omega) only [wI_sA, rdA, rdN, rdL, upd_e, upd_n]) (by simp (disch := omega) only [wI_sA, rdA, rdN, rdL, upd_e, upd_n]) (by simp (disch := omega) only [wI_sA, rdA, rdN, rdL, upd_e, upd_n])) (fun b r hbr => by simp (disch := omega) only [wI_sA, rdA, rdN, rdL, upd_e, upd_n]; exact hg b r hbr) (fun b hb => by simp (disch := omega) only [wI_sA, rdA, rdN, rdL, upd_e, upd_n]; exact h36 b hb) (by simp (disch := omega) only [wI_sA, rdA, rdN, rdL, upd_e, upd_n]) (by omega) (by simp) TK.nil (fun x hx => by cases hx) ?_
  · simp only [mos, chg, Int.add_zero] at hc
    exact hc
  · have hle := mnf_le (p := lev w st m0 sl) (q := chg nw st 0) (fil xs n []) (n + 1)
    simp only [gN]
    have e9 : ∀ v : Int32, (wI (wI (sA M 38 g) 33 9 (nI (n + 1))) 33 9 v).1 33 9 = v := fun v => by simp (disch := omega) only [wI_sA, rdA, rdN, rdL, upd_e, upd_n]
    have e6 : ∀ v : Int32, (wI (wI (sA M 38 g) 33 9 (nI (n + 1))) 33 9 v).1 33 6 = nI n := fun v => by simp (disch := omega) only [wI_sA, rdA, rdN, rdL, upd_e, upd_n]; exact hM.2.1
    rw [e9, e6]
    have hq := hQ (wI (wI (sA M 38 g) 33 9 (nI (n + 1))) 33 9 (nI (mnf (lev w st m0 sl) (chg nw st 0) (n + 1) (fil xs n [])))) ((((Frc.refl M).ar (by omega)).wr (by omega)).wr (by omega))
    rw [nle (by omega) (by omega)]
    refine b2 (fun z => ?_) (fun z => ?_)
    · rw [if_pos z] at hq; exact hq
    · rw [if_neg z] at hq; exact hq
end SC
theorem allmask {n : Nat} (hn : n ≤ 8) (x : Int32) : x &&& ((nI 1 <<< (nI n &&& 31)) - nI 1) = nI (x.toBitVec.toNat % 2 ^ n) := by
  have h1 := Nat.two_pow_pos n
  have h2 : 2 ^ n ≤ 2 ^ 8 := Nat.pow_le_pow_right (by decide) hn
  rw [sh1 n (by omega), nsub (by omega)]
  exact pk_and x n (pk_tn (by omega))
theorem sumA_b {B : Int} (hB : 0 ≤ B) {f : Nat → Int32} {a : Int} : ∀ n : Nat, (∀ k, k < n → ∃ z : Int, -B ≤ z ∧ z ≤ B ∧ f k = zI z) → ∃ z : Int, a - B * n ≤ z ∧ z ≤ a + B * n ∧ sumA (zI a) f n = zI z
  | 0, _ => ⟨a, by simp, by simp, rfl⟩
  | n + 1, h => by
    obtain ⟨z, h1, h2, h3⟩ := sumA_b hB (a := a) n (fun k hk => h k (by omega))
    obtain ⟨y, h4, h5, h6⟩ := h n (by omega)
    have e : B * ((n + 1 : Nat) : Int) = B * n + B := by rw [Int.natCast_add, Int.mul_add]; simp
    exact ⟨z + y, by rw [e]; omega, by rw [e]; omega, by rw [sumA, h3, h6, zI_add]⟩
theorem sp_b {hf : Nat → Int32} {nP : Nat} {cp cs rp rs : Int32} (h : SP hf nP cp cs rp rs) (hh : ∀ p, p < nP → ∃ h : Nat, h ≤ 4 ∧ hf p = nI h) : ∃ z : Int, -4 ≤ z ∧ z ≤ 4 ∧ cs = zI z := by
  rcases h with ⟨h, -⟩ | ⟨-, -, -, p, hp, -, h1, h2⟩
  · exact ⟨0, by omega, by omega, by rw [h]; rfl⟩
  · obtain ⟨q, hq, e⟩ := hh p hp
    rw [e] at h1 h2
    obtain ⟨i, hi⟩ := step_small hq h1 h2
    exact ⟨(i.val : Int) - 4, by omega, by omega, hi⟩
theorem wz_b {w : Nat} {z : Int} {W : Int} (hw : (w : Int) ≤ W) (h1 : -4 ≤ z) (h2 : z ≤ 4) : -(4 * W) ≤ w * z ∧ w * z ≤ 4 * W := by
  have := mul_b (w := (w : Int)) (s := z) (by omega) h1 h2
  omega
theorem st_b {M : PM} {nP nC nS : Nat} (hS : nS ≤ 5) (hr : RRo M nP nC nS) (hs : SR M nP nC nS 7 63 0) (p : Int32) : ∃ z : Int, -400 ≤ z ∧ z ≤ 400 ∧ stC M nS p = zI z := by
  obtain ⟨z, h1, h2, h3⟩ := sumA_b (B := 80) (by omega) (f := stCf M p) (a := 0) nS (fun k hk => by
    obtain ⟨w, -, h20, e, -⟩ := hr.2.2.2.2 k hk
    obtain ⟨z, z1, z2, z3⟩ := sp_b (hs.s hk) (fun p hp => by obtain ⟨h, -, h4, e, -⟩ := hr.1 p hp; exact ⟨h, h4, e⟩)
    unfold stCf
    by_cases q : M.1 11 k = p
    · rw [if_pos q, e, z3, ← zI_n, ← zI_mul]
      have := wz_b (w := w) (z := z) (W := 20) (by omega) z1 z2
      exact ⟨_, by omega, by omega, rfl⟩
    · rw [if_neg q]
      exact ⟨0, by omega, by omega, rfl⟩)
  exact ⟨z, by omega, by omega, h3⟩
theorem mo_b {M : PM} {nP nC nS : Nat} (hC : nC ≤ 8) (hS : nS ≤ 5) (hr : RRo M nP nC nS) (hs : SR M nP nC nS 7 63 0) (p : Int32) : ∃ z : Int, -2320 ≤ z ∧ z ≤ 2320 ∧ moC M nC nS p = zI z := by
  obtain ⟨a, a1, a2, a3⟩ := st_b hS hr hs p
  obtain ⟨z, h1, h2, h3⟩ := sumA_b (B := 240) (by omega) (f := moCf M p) (a := a) nC (fun k hk => by
    obtain ⟨w, -, h20, e, -⟩ := hr.2.2.1 k hk
    obtain ⟨z, z1, z2, z3⟩ := sp_b (hs.c hk) (fun p hp => by obtain ⟨h, -, h4, e, -⟩ := hr.1 p hp; exact ⟨h, h4, e⟩)
    unfold moCf
    by_cases q : M.1 8 k = p
    · rw [if_pos q, e, z3, ← zI_n, ← zI_mul]
      have := wz_b (w := w) (z := z) (W := 60) (by omega) z1 z2
      exact ⟨_, by omega, by omega, rfl⟩
    · rw [if_neg q]
      exact ⟨0, by omega, by omega, rfl⟩)
  exact ⟨z, by omega, by omega, by unfold moC; rw [a3]; exact h3⟩
/-- the weights of those who are asked -/
def wB (M : PM) (q : Nat) (cs : List Nat) (b : Nat) : Int := if b < cs.length then (M.1 q (cs.getD b 0)).toInt else 0
theorem wB_z {M : PM} {q : Nat} {cs : List Nat} {b : Nat} (hb : b < cs.length) : zI (wB M q cs b) = M.1 q cs[b] := by
  unfold wB; rw [if_pos hb, getD_g hb, zI_t]
theorem wB_b {M : PM} {q n : Nat} {cs : List Nat} {W : Nat} (hW : W ≤ 60) (h : ∀ c, c ∈ cs → ∃ w : Nat, w ≤ W ∧ M.1 q c = nI w) (b : Nat) : 0 ≤ wB M q cs b ∧ wB M q cs b ≤ 60 := by
  unfold wB
  by_cases hb : b < cs.length
  · rw [if_pos hb, getD_g hb]
    obtain ⟨w, h1, h2⟩ := h _ (List.getElem_mem hb)
    rw [h2, toInt_nI (by omega)]
    omega
  · rw [if_neg hb]; omega
