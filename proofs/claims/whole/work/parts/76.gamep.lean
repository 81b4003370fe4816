/-! the game: the pair -/
def gaI (st : Nat → Int) (x : Int32) : Option (Nat × Nat) → Int32
  | none => if x = 0 then nI 0 else -9
  | some q => if x = 0 then nI 1 else cI st (some q)
theorem c_X9_game_149 {G : GG} {d : Nat} {M : PM} {Q : Option Value → PM → Prop} {p h : Nat} {x : Int32} {o : Option (Nat × Nat)} (hp : p < 3) (hh : h ≤ 4) (h58 : M.1 58 p = nI h) (ho : ∀ q, o = some q → q.1 < 8 ∧ q.2 < 2 * h) (hQ : Q (some (.int (gaI (stp h) x o))) M) : PX G (d + 1) m_X9_game Q 149 [some (.ref 56), some (.int (nI p)), some (.int x), none, none, none] [.int (rI o)] M := by
  apply g_X9_game_149
  cases o with
  | none =>
    simp only [gaI] at hQ
    refine b2 (fun z => b1 rfl ?_) (fun z => b1 rfl ?_)
    · rw [if_pos z] at hQ; exact hQ
    · rw [if_neg z] at hQ; exact hQ
  | some q =>
    obtain ⟨h1, h2⟩ := ho q rfl
    simp only [gaI] at hQ
    have hne : ¬ rI (some q) = -9 := by unfold rI; rw [nneg9 (by omega)]; exact id
    refine b2 (fun z => b0 hne ?_) (fun z => b0 hne ⟨by decide, by decide, ?_⟩)
    · rw [if_pos z] at hQ; exact hQ
    · rw [if_neg z] at hQ
      unfold rI
      rw [pk_rem (by omega) (by omega) (by omega), pk_div (by omega) (by omega) (by omega), show (8 * q.1 + q.2) % 8 = q.2 by omega, show (8 * q.1 + q.2) / 8 = q.1 by omega]
      refine c_X9_stepOf hp hh h2 h58 ?_
      simp only [gI]
      exact hQ
theorem atC_eq {M : PM} {nP nC nS : Nat} (hs : SR M nP nC nS 7 63 0) {p : Nat} {t : Int32} (hp : p < 3) (ht : ¬ t = 0) : atC M nC (nI p) t ↔ atCR M nC (nI p) t := by
  constructor
  · rintro ⟨c, hc, e1, e2⟩
    refine ⟨c, hc, ?_⟩
    rcases hs.c hc with ⟨z1, -⟩ | ⟨z1, z2, -⟩
    · exact absurd (e1.symm.trans z1) ht
    · exact ⟨z1.trans e2, z2.trans e1⟩
  · rintro ⟨c, hc, e1, e2⟩
    refine ⟨c, hc, ?_⟩
    rcases hs.c hc with ⟨z1, z2, -⟩ | ⟨z1, z2, -⟩
    · rw [z2] at e1; exact absurd e1 (m9n (by omega))
    · exact ⟨z2.symm.trans e2, z1.symm.trans e1⟩
theorem pair_game {G : GG} {M : PM} {x1 x2 : Int32} (h : Rel M) : Pair G m_X8_game m_X9_game [.int x1, .int x2] M := by
  have hr := h.eqv (Eqv.t0 M (nI 0))
  obtain ⟨nP, nC, nS, tl, sn, tn, hN⟩ := h
  have hP3 := hN.1.2.2.1
  have hC8 := hN.1.2.2.2.2.2.1
  have hS5 := hN.1.2.2.2.2.2.2.2.2
  have hN0 := hN.eqv (Eqv.t0 M (nI 0))
  refine PC.of (d := 899) ok_X8_game (Nat.le_of_ble_eq_true rfl) (g_X8_game_0 (c_X3_hasPlank hN.1.1 ?_))
  simp only [gI, bI_z]
  refine b2 (fun q => ⟨_, rfl, PC.of (d := 899) ok_X9_game (Nat.le_of_ble_eq_true rfl) (g_X9_game_0 (c_X9_isPlank hN0.1.2.1 hP3 ?_))⟩) (fun q => ?_)
  · simp only [gI, bI_z]
    exact b1 q ⟨by trivial, hr⟩
  obtain ⟨p, hp, rfl⟩ := (inR_dec (x := x1) (n := nP) (by omega)).resolve_right q
  refine c_isZeroOrOne ?_
  simp only [gI, bI_z]
  refine b2 (fun qz => ⟨_, rfl, PC.of (d := 899) ok_X9_game (Nat.le_of_ble_eq_true rfl) (g_X9_game_0 (c_X9_isPlank hN0.1.2.1 hP3 ?_))⟩) (fun qz => ?_)
  · simp only [gI, bI_z]
    refine b0 (fun z => z (inR_y hp (by omega))) (c_X9_in ?_)
    simp only [gI, bI_z]
    exact b1 (fun z => qz (zo_in.mp z)) ⟨by trivial, hr⟩
  have qz := Classical.not_not.mp qz
  obtain ⟨hh, a1, a2, a3, -⟩ := hN.2.1.1 p hp
  obtain ⟨sl, b1', b2', -⟩ := hN.2.1.2.1 p hp
  obtain ⟨m0, c1, c2, c3⟩ := mo_b hC8 hS5 hN.2.1 hN.2.2.1 (nI p)
  have hcle := cB_le (idC M) nC
  have hmk := mkN_lt (idC M) nC
  have hp2 : 2 ^ nC ≤ 2 ^ 8 := Nat.pow_le_pow_right (by decide) hC8
  -- the reference, from any such memory
  have ref : ∀ (N : PM) (r : Int32), Eqv M N → (4 < cB (idC M) nC → r = -2) → (cB (idC M) nC ≤ 4 → ¬ (m0 ≤ sl ∧ -m0 ≤ sl) → r = -2) → (cB (idC M) nC ≤ 4 → (m0 ≤ sl ∧ -m0 ≤ sl) → r = gaI (stp hh) x2 (mv nC (fcC M nC (nI p) hh) (idC M) (fun c => (M.1 4 c).toInt) (stp hh) sl 5 [] [] m0)) → PC G 900 m_X9_game [.ref 56, .int (nI p), .int x2] N (fun w N2 => w = some (.int r) ∧ Rel N2) := by
    intro N r he k1 k2 k3
    have he0 := he.trans (Eqv.t0 N (nI 0))
    have hN2 := hN.eqv he0
    refine PC.of (d := 899) ok_X9_game (Nat.le_of_ble_eq_true rfl) (g_X9_game_0 (c_X9_isPlank hN2.1.2.1 hP3 ?_))
    simp only [gI, bI_z]
    refine b0 (fun z => z (inR_y hp (by omega))) (c_X9_in ?_)
    simp only [gI, bI_z]
    refine b0 (fun z => z (zo_in.mpr qz)) ?_
    generalize wI N 56 0 (nI 0) = N0 at he0 hN2 ⊢
    have h15 := hN2.1.2.2.2.2.1
    have h58 := ref_58 hN2 he0 hp a3
    have h59 := ref_59 hN2 he0 hp b2'
    have idr : ∀ c, c < nC → (idC M c = true ↔ N0.1 63 c = -9) := fun c hc => by
      have sp := hN2.2.2.1.c hc
      rw [he0.rd 9 (by omega)] at sp
      unfold idC
      rw [decide_eq_true_eq]
      rcases sp with ⟨z1, z2, -⟩ | ⟨z1, -, z3, q, hq, z4, -⟩
      · exact ⟨fun _ => z2, fun _ => z1⟩
      · constructor
        · intro y; exact absurd y z3
        · intro y; rw [z1, z4, nneg9 (by omega)] at y; exact absurd y id
    have hR : GRx N0 p hh sl nC (okC M nC (nI p) hh) (idC M) (fun c => (M.1 4 c).toInt) := by
      refine ⟨by omega, a2, hC8, b1', h15, h58, h59, fun c hc => ?_, idr, fun x hx => ?_⟩
      · obtain ⟨wv, w1, w2, w3, w4⟩ := hN2.2.1.2.2.1 c hc
        rw [he0.rd 4 (by omega)] at w3
        dsimp only
        rw [zI_t, w4, w3, toInt_nI (by omega)]
        exact ⟨rfl, by omega, by omega⟩
      · rw [okC_t, ← atC_eq hN2.2.2.1 (by omega) (stp_n0 a2 hx)]
        unfold atC
        rw [he0.rd 9 (by omega), he0.rd 8 (by omega)]
    have key := up_ind (n := nC) (P := fun k => PX G 899 m_X9_game (fun w N2 => w = some (.int r) ∧ Rel N2) 29 [some (.ref 56), some (.int (nI p)), some (.int x2), some (.int (nI (cB (idC M) k))), some (.int (nI k)), none] [] N0) ?_ ?_ 0 (Nat.zero_le _)
    · exact key
    · apply g_X9_game_29
      simp (disch := omega) only [nle, nlt, neq, nz, nzl, nzg, nzp, nzn, nneg, nneg9, nI_add, ncl, vin, br_T, br_F, br_p, br_n, true_and, and_true, Nat.zero_add, rdA, rdN, h15]
      refine c_X9_momentOf hC8 hS5 h15 hN2.1.2.2.2.2.2.2.2.1 ?_
      simp only [gI]
      rw [ref_mo hN2 he0 hp c3]
      have hRel : Rel N0 := Rel.of hN2
      refine b2 (fun z => ⟨by rw [k1 z], hRel⟩) (fun z => c_X9_tiltBy (by omega) ?_)
      simp only [gI]
      rw [h59, tlt_0 (by omega) (by omega) (by omega)]
      refine b2 (fun y => ?_) (fun y => ⟨by rw [k2 (by omega) y], hRel⟩)
      have k3 := k3 (by omega) y
      have hrm : rmn nC (idC M) [] = cB (idC M) nC := rmn_nil
      have fin : ∀ k, cB (idC M) nC ≤ k → PX G 899 m_X9_game (fun w N2 => w = some (.int r) ∧ Rel N2) 149 [some (.ref 56), some (.int (nI p)), some (.int x2), none, none, none] [.int (rI (mv nC (frm (2 * hh) (okC M nC (nI p) hh) 0) (idC M) (fun c => (M.1 4 c).toInt) (stp hh) sl k [] [] m0))] N0 := fun k hk => by
        refine c_X9_game_149 (d := 898) (by omega) a2 h58 (fun q hq => ?_) ⟨?_, hRel⟩
        · have := mv_mem hq
          exact ⟨by omega, frm_lt this.2⟩
        · rw [k3, mv_enough k 5 [] [] m0 (by omega) (by omega)]
          rfl
      refine b2 (fun z4 => ?_) (fun z4 => b2 (fun z3 => ?_) (fun z3 => b2 (fun z2 => ?_) (fun z2 => ?_)))
      · refine c_X9_fourMoves (d := 892) hR (by omega) (by omega) ?_
        simp only [gI]
        exact fin 4 (by omega)
      · refine c_X9_threeMoves (d := 893) hR UM.nil UM.nil (by omega) (by omega) ?_
        simp only [gI]
        exact fin 3 (by omega)
      · refine c_X9_twoMoves (d := 894) hR UM.nil UM.nil (by omega) (by omega) ?_
        simp only [gI]
        exact fin 2 (by omega)
      · refine c_X9_lastMove (d := 895) hR UM.nil UM.nil (by omega) (by omega) ?_
        simp only [gI]
        exact fin 1 (by omega)
    · intro k hk ih
      apply g_X9_game_29
      simp (disch := omega) only [nle, nlt, neq, nz, nzl, nzg, nzp, nzn, nneg, nneg9, nI_add, ncl, vin, br_T, br_F, br_p, br_n, true_and, and_true, Nat.zero_add, rdA, rdN, h15]
      rw [cB] at ih
      refine b2 (fun z => ?_) (fun z => ?_)
      · rw [if_pos ((idr k hk).mpr z)] at ih
        exact ih
      · rw [if_neg (fun q => z ((idr k hk).mp q))] at ih
        exact ih
  refine c_X4_idleChildren hC8 hN.1.2.2.2.1 ?_
  simp only [gI]
  refine c_bitCount (by omega) ?_
  simp only [gI]
  rw [popc_mk _ _ hC8]
  simp (disch := omega) only [nle, nlt, neq, nz, nzl, nzg, nzp, nzn, nneg, nneg9, nI_add, ncl, vin, br_T, br_F, br_p, br_n, true_and, and_true, Nat.zero_add, rdA, rdN]
  refine b2 (fun z => ⟨_, rfl, ref M _ (Eqv.refl M) (fun _ => rfl) (fun y => absurd z (by omega)) (fun y => absurd z (by omega))⟩) (fun z => ?_)
  refine c_X4_tilt hC8 hS5 hN.1.2.2.2.1 hN.1.2.2.2.2.2.2.1 (by omega) ?_
  simp only [gI]
  rw [c3, b2', tlt_0 (by omega) (by omega) (by omega)]
  refine b2 (fun y => ?_) (fun y => ⟨_, rfl, ref M _ (Eqv.refl M) (fun y => absurd y z) (fun _ _ => rfl) (fun _ w => absurd w y)⟩)
  refine c_X0_begin (d := 897) (w := fun c => (M.1 4 c).toInt) (by omega) a2 hC8 hN.1.2.2.2.1 a3 b2' (fun c _ => (zI_t _).symm) (fun N hf hG => ?_)
  simp only [gN]
  refine c_X4_moment hC8 hS5 (by rw [hf.1 1 (by omega)]; exact hN.1.2.2.2.1) (by rw [hf.1 1 (by omega)]; exact hN.1.2.2.2.2.2.2.1) ?_
  simp only [gI]
  rw [hf.eqv.mC, c3]
  refine PC.of (d := 898) ok_X0_winningMove (Nat.le_of_ble_eq_true rfl) (g_X0_winningMove_0 ?_)
  have hl := fcC_len (M := M) (nC := nC) (h := hh) (p := nI p)
  have hGF : GFx nC sl (fcC M nC (nI p) hh) (fun c => (M.1 4 c).toInt) (stp hh) := by
    refine ⟨hC8, by omega, fcC_nd, b1', fun c hc => ?_, fun x hx => ?_⟩
    · obtain ⟨wv, w1, w2, w3, w4⟩ := hN.2.1.2.2.1 c hc
      dsimp only
      rw [w3, toInt_nI (by omega)]
      omega
    · have := stp_b a2 (fcC_mem hx); omega
  refine c_X0_moveFrom (idl := idC M) hGF hG 5 (Nat.le_refl _) (d := 892) (us := []) (ys := []) (by omega) (by omega) (fun c hc => ?_) TK.nil ?_
  · rw [mkN_bit]
    simp [hc]
  simp only [gI]
  have fin : ∀ r, r = gaI (stp hh) x2 (mv nC (fcC M nC (nI p) hh) (idC M) (fun c => (M.1 4 c).toInt) (stp hh) sl 5 [] [] m0) → ∃ r' : Int32, some (Value.int r) = some (.int r') ∧ PC G 900 m_X9_game [.ref 56, .int (nI p), .int x2] N (fun w N2 => w = some (.int r') ∧ Rel N2) := fun r e => ⟨r, rfl, ref N r hf.eqv (fun q => absurd q z) (fun _ q => absurd y q) (fun _ _ => e)⟩
  cases hmv : mv nC (fcC M nC (nI p) hh) (idC M) (fun c => (M.1 4 c).toInt) (stp hh) sl 5 [] [] m0 with
  | none =>
    rw [hmv] at fin
    have hno : ¬ (0 : Int32) ≤ cI (stp hh) none := by show ¬ (0 : Int32) ≤ -1; decide
    refine b2 (fun w => b0 hno (fin _ ?_)) (fun w => b0 hno (fin _ ?_))
    · simp only [gaI]; rw [if_pos w]
    · simp only [gaI]; rw [if_neg w]
  | some q =>
    rw [hmv] at fin
    have hm := mv_mem hmv
    have hnn := cI_nn (st := stp hh) (q := q) (by omega) (hGF.2.2.2.2.2 _ hm.2)
    refine b2 (fun w => b1 hnn.1 (fin _ ?_)) (fun w => b1 hnn.1 (fin _ ?_))
    · simp only [gaI]; rw [if_pos w]
    · simp only [gaI]; rw [if_neg w]
