/-! the text: items, the reference -/
def FrP (M N : PM) : Prop := (∀ q, ¬ q = 56 → ¬ (58 ≤ q ∧ q ≤ 62) → N.1 q = M.1 q) ∧ (∀ k, ¬ ((4 ≤ k ∧ k ≤ 8) ∨ (17 ≤ k ∧ k ≤ 19)) → N.1 56 k = M.1 56 k) ∧ (∀ k, k < 3 → N.1 58 k = M.1 58 k ∧ N.1 59 k = M.1 59 k) ∧ (∀ k, k < 8 → N.1 60 k = M.1 60 k ∧ N.1 61 k = M.1 61 k) ∧ (∀ k, k < 5 → N.1 62 k = M.1 62 k) ∧ N.2 = M.2
theorem FrP.refl (M : PM) : FrP M M := ⟨fun _ _ _ => rfl, fun _ _ => rfl, fun _ _ => ⟨rfl, rfl⟩, fun _ _ => ⟨rfl, rfl⟩, fun _ _ => rfl, rfl⟩
theorem wI_off {N : PM} {q k r j : Nat} {v : Int32} (h : ¬ (r = q ∧ j = k)) : (wI N q k v).1 r j = N.1 r j := by
  rw [wI_sA]
  by_cases e : r = q
  · subst e; rw [rdA, upd_n (fun z => h ⟨rfl, z⟩)]
  · rw [rdN e]
theorem FrP.wr {M N : PM} {q k : Nat} {v : Int32} (h : FrP M N) (hq : (q = 56 ∧ ((4 ≤ k ∧ k ≤ 8) ∨ (17 ≤ k ∧ k ≤ 19))) ∨ ((q = 58 ∨ q = 59) ∧ 3 ≤ k) ∨ ((q = 60 ∨ q = 61) ∧ 8 ≤ k) ∨ (q = 62 ∧ 5 ≤ k)) : FrP M (wI N q k v) := by
  obtain ⟨h1, h2, h3, h4, h5, h6⟩ := h
  refine ⟨fun r a b => ?_, fun j hj => ?_, fun j hj => ⟨?_, ?_⟩, fun j hj => ⟨?_, ?_⟩, fun j hj => ?_, h6⟩
  · rw [← h1 r a b]; funext j; exact wI_off (by omega)
  · rw [← h2 j hj]; exact wI_off (by omega)
  · rw [← (h3 j hj).1]; exact wI_off (by omega)
  · rw [← (h3 j hj).2]; exact wI_off (by omega)
  · rw [← (h4 j hj).1]; exact wI_off (by omega)
  · rw [← (h4 j hj).2]; exact wI_off (by omega)
  · rw [← h5 j hj]; exact wI_off (by omega)
theorem FrP.a {M N P : PM} (h : FrP M N) (h2 : FrA N P) : FrP M P := by
  obtain ⟨g1, g2, g3⟩ := h2
  obtain ⟨h1, h2, h3, h4, h5, h6⟩ := h
  refine ⟨fun r a b => by rw [g1 r a]; exact h1 r a b, fun k hk => by rw [g2 k (by omega)]; exact h2 k hk, ?_, ?_, ?_, g3.trans h6⟩
  · rw [g1 58 (by omega), g1 59 (by omega)]; exact h3
  · rw [g1 60 (by omega), g1 61 (by omega)]; exact h4
  · rw [g1 62 (by omega)]; exact h5
theorem FrP.tx {M N : PM} {T : Nat → Nat} {tl : Nat} (h : FrP M N) (hT : TXr M T tl) : TXr N T tl := by
  unfold TXr; rw [h.2.1 3 (by omega), h.1 57 (by omega) (by omega)]; exact hT
def DRr (N : PM) (a : PSt) : Prop := N.1 56 17 = nI a.1.length ∧ N.1 56 18 = nI a.2.1.length ∧ N.1 56 19 = nI a.2.2.length ∧ (∀ i (h : i < a.1.length), N.1 58 (3 + i) = nI a.1[i].1 ∧ N.1 59 (3 + i) = nI a.1[i].2) ∧ (∀ i (h : i < a.2.1.length), N.1 60 (8 + i) = nI a.2.1[i].1 ∧ N.1 61 (8 + i) = nI a.2.1[i].2) ∧ (∀ i (h : i < a.2.2.length), N.1 62 (5 + i) = nI a.2.2[i])
theorem DRr.a {M N : PM} {a : PSt} (h : DRr M a) (hf : FrA M N) : DRr N a := by
  unfold DRr; rw [hf.2.1 17 (by omega), hf.2.1 18 (by omega), hf.2.1 19 (by omega), hf.1 58 (by omega), hf.1 59 (by omega), hf.1 60 (by omega), hf.1 61 (by omega), hf.1 62 (by omega)]; exact h
theorem c_isWell_y {G : GG} {d : Nat} {M : PM} {Q : Option Value → PM → Prop} (h : M.1 56 8 = -1) (hQ : Q (some (.int (nI 1))) M) : PC G (d + 1) m_X9_isWell [.ref 56] M Q := by
  refine PC.of ok_X9_isWell (Nat.le_of_ble_eq_true rfl) (g_X9_isWell_0 ?_)
  rw [h]
  exact b0 (by decide) ⟨by decide, hQ⟩
theorem c_isWell_n {G : GG} {d : Nat} {M : PM} {Q : Option Value → PM → Prop} {f : Nat} (hf : f < 1000) (h : M.1 56 8 = nI f) (hQ : Q (some (.int (nI 0))) M) : PC G (d + 1) m_X9_isWell [.ref 56] M Q := by
  refine PC.of ok_X9_isWell (Nat.le_of_ble_eq_true rfl) (g_X9_isWell_0 ?_)
  rw [h]
  exact b1 (by rw [nzg (by omega)]; trivial) ⟨by decide, hQ⟩
theorem c_takes_b {G : GG} {d : Nat} {M : PM} {Q : Option Value → PM → Prop} {f : Nat} {x : Int32} (hf : f < 1000) (h : M.1 56 8 = nI f) (hQ : Q (some (.int (nI 0))) M) : PC G (d + 2) m_X9_takes [.ref 56, .int x] M Q := by
  refine PC.of ok_X9_takes (Nat.le_of_ble_eq_true rfl) (g_X9_takes_0 (c_isWell_n hf h ?_))
  simp only [gI]
  exact b1 rfl hQ
theorem c_takes_f {G : GG} {d : Nat} {M : PM} {Q : Option Value → PM → Prop} (h : M.1 56 8 = -1) (hQ : Q (some (.int (nI 0))) (wI M 56 8 (M.1 56 6))) : PC G (d + 2) m_X9_takes [.ref 56, .int (nI 0)] M Q := by
  refine PC.of ok_X9_takes (Nat.le_of_ble_eq_true rfl) (g_X9_takes_0 (c_isWell_y h ?_))
  simp only [gI]
  exact b0 (by decide) (b1 rfl hQ)
section IR
variable {T : Nat → Nat} {tl : Nat}
theorem c_takes_t {G : GG} {d : Nat} {M : PM} {Q : Option Value → PM → Prop} {s : Nat} (hT : TXr M T tl) (hk : TokR M T tl s) (hs : s ≤ tl) (h : M.1 56 8 = -1) (hQ : ∀ N, FrA M N → TokR N T tl (nx T tl s) → Q (some (.int (M.1 56 7))) N) : PC G (d + 5) m_X9_takes [.ref 56, .int (nI 1)] M Q := by
  refine PC.of ok_X9_takes (Nat.le_of_ble_eq_true rfl) (g_X9_takes_0 (c_isWell_y h ?_))
  simp only [gI]
  refine b0 (by decide) (b0 (by decide) (c_X9_advances hT hk.2.1 (tkE_b T hs).2 (fun N hf h2 => ?_)))
  simp only [gN]
  exact hQ N hf h2
theorem rk_2 {k : Nat} (hk : k ≤ 6) : (nI (rkN k) = nI 2) = (k = 4) := by
  rw [neq (by unfold rkN; split; omega; split <;> omega) (by omega)]
  unfold rkN
  apply propext
  split
  · omega
  · split <;> omega
theorem c_X9_number {G : GG} {d : Nat} {M : PM} {Q : Option Value → PM → Prop} {lo hi s : Nat} (hT : TXr M T tl) (hk : TokR M T tl s) (hs : s ≤ tl) (h : M.1 56 8 = -1) (hlo : lo < 1000) (hhi : hi < 1000) (hF : ¬ isN T tl lo hi s → Q (some (.int (nI 0))) (wI M 56 8 (nI s))) (hK : isN T tl lo hi s → ∀ N, FrA M N → TokR N T tl (nx T tl s) → Q (some (.int (nI (tkV T tl s)))) N) : PC G (d + 6) m_X9_number [.ref 56, .int (nI lo), .int (nI hi)] M Q := by
  have hK6 := tkK_le (T := T) (tl := tl) (s := s)
  have hV := tkV_le (T := T) (tl := tl) (s := s)
  refine PC.of ok_X9_number (Nat.le_of_ble_eq_true rfl) (g_X9_number_0 ?_)
  rw [hk.2.2.1, rk_2 hK6]
  have no : ¬ isN T tl lo hi s → PC G (d + 5) m_X9_takes [.ref 56, .int (nI 0)] M (fun v N1 => gI v (fun r1 => Q (some (.int r1)) N1)) := fun z => by
    refine c_takes_f h ?_
    simp only [gI]
    rw [hk.1]
    exact hF z
  refine b2 (fun z => ?_) (fun z => no (fun q => z q.1))
  have e7 := hk.2.2.2.2 z
  refine c_X9_in ?_
  rw [e7]
  simp only [gI, bI_z]
  rw [nle (by omega) (by omega), nle (by omega) (by omega)]
  refine b2 (fun y => no (fun q => y q.2)) (fun y => ?_)
  refine c_takes_t hT hk hs h (fun N hf h2 => ?_)
  simp only [gI]
  rw [e7]
  exact hK ⟨z, Classical.not_not.mp y⟩ N hf h2
theorem c_X9_number_b {G : GG} {d : Nat} {M : PM} {Q : Option Value → PM → Prop} {f : Nat} {x y : Int32} (hf : f < 1000) (h : M.1 56 8 = nI f) (hQ : Q (some (.int (nI 0))) M) : PC G (d + 3) m_X9_number [.ref 56, .int x, .int y] M Q := by
  refine PC.of ok_X9_number (Nat.le_of_ble_eq_true rfl) (g_X9_number_0 ?_)
  refine b2 (fun z => c_X9_in ?_) (fun z => c_takes_b hf h ?_)
  · simp only [gI]
    refine b2 (fun z => c_takes_b hf h ?_) (fun z => c_takes_b hf h ?_)
    · simp only [gI]; exact hQ
    · simp only [gI]; exact hQ
  · simp only [gI]; exact hQ
theorem c_reads_plank {G : GG} {d : Nat} {M : PM} {Q : Option Value → PM → Prop} {M0 : PM} {a : PSt} {s : Nat} {F : Nat → Prop} {K : PSt → Nat → Prop} (hw : a.1.length < 3) (htl : tl ≤ 300) (hT : TXr M0 T tl) (hf : FrP M0 M) (hD : DRr M a) (hk : TokR M T tl s) (hs : s ≤ tl) (h8 : M.1 56 8 = -1) (hP : Pp T tl a s F K) (hF : ∀ N f, FrP M0 N → N.1 56 8 = nI f → f ≤ tl → F f → Q none N) (hK : ∀ N a' s4, FrP M0 N → DRr N a' → TokR N T tl s4 → N.1 56 8 = -1 → s4 ≤ tl → K a' s4 → Q none N) : PC G (d + 7) m_X9_readsItem [.ref 56, .int (nI 0)] M Q := by
  obtain ⟨d1, d2, d3, d4, d5, d6⟩ := id hD
  unfold Pp at hP
  have hE := tkE_b T hs
  have hn2 := tkS_b T hE.2
  have hE2 := tkE_b T hn2.2
  have hn3 := tkS_b T hE2.2
  have e1 : tkS T tl (tkE T tl s) = nx T tl s := rfl
  have e2 : tkS T tl (tkE T tl (nx T tl s)) = nx T tl (nx T tl s) := rfl
  rw [e1] at hn2 hE2 hn3
  rw [e2] at hn3
  refine PC.of ok_X9_readsItem (Nat.le_of_ble_eq_true rfl) (g_X9_readsItem_0 (b1 rfl ?_))
  rw [d1, nI_add]
  refine c_X9_number (lo := 1) (hi := 4) (hf.tx hT) hk hs h8 (by omega) (by omega) (fun y => ?_) (fun y N1 f1 k1 => ?_)
  · simp only [gI]
    rw [vin (by omega) (by omega), true_and, ncl (by omega)]
    have g1 := (hf.wr (q := 56) (k := 8) (v := nI s) (by omega)).wr (q := 58) (k := 3 + a.1.length) (v := nI 0) (by omega)
    refine c_X9_number_b (f := s) (by omega) (by simp (disch := omega) only [wI_sA, rdA, rdN, rdL, upd_e, upd_n]) ?_
    have c17 : (wI M 56 8 (nI s)).1 56 17 = nI a.1.length := by simp (disch := omega) only [wI_sA, rdA, rdN, rdL, upd_e, upd_n]; exact d1
    simp only [gI]
    rw [c17, nI_add, vin (by omega) (by omega), true_and, ncl (by omega)]
    refine hF _ s ((g1.wr (by omega)).wr (by omega)) ?_ hs (hP.1 y)
    simp (disch := omega) only [wI_sA, rdA, rdN, rdL, upd_e, upd_n]
  · simp only [gI]
    have hP := hP.2 y
    have g1 := hf.a f1
    obtain ⟨a1, a2, a3, a4, a5, a6⟩ := id (hD.a f1)
    rw [vin (by omega) (by omega), true_and, ncl (by omega), a1, nI_add]
    have g2 := g1.wr (q := 58) (k := 3 + a.1.length) (v := nI (tkV T tl s)) (by omega)
    have w8 : N1.1 56 8 = -1 := by rw [f1.2.1 8 (by omega)]; exact h8
    have k1' : TokR (wI N1 58 (3 + a.1.length) (nI (tkV T tl s))) T tl (nx T tl s) := by
      unfold TokR
      simp (disch := omega) only [wI_sA, rdA, rdN, rdL, upd_e, upd_n]
      exact k1
    refine c_X9_number (lo := 0) (hi := 20) (g2.tx hT) k1' hn2.2 (by simp (disch := omega) only [wI_sA, rdA, rdN, rdL, upd_e, upd_n]; exact w8) (by omega) (by omega) (fun x => ?_) (fun x N2 f2 k2 => ?_)
    · simp only [gI]
      rw [vin (by omega) (by omega), true_and, ncl (by omega)]
      refine hF _ (nx T tl s) (((g2.wr (by omega)).wr (by omega)).wr (by omega)) ?_ hn2.2 (hP.1 x)
      simp (disch := omega) only [wI_sA, rdA, rdN, rdL, upd_e, upd_n]
    · simp only [gI]
      have hP := hP.2 x
      have g3 := g2.a f2
      have c17 : N2.1 56 17 = nI a.1.length := by rw [f2.2.1 17 (by omega)]; simp (disch := omega) only [wI_sA, rdA, rdN, rdL, upd_e, upd_n]; exact a1
      rw [vin (by omega) (by omega), true_and, ncl (by omega), c17, nI_add]
      have r2 : ∀ q, ¬ q = 56 → ¬ q = 58 → N2.1 q = M.1 q := fun q z1 z2 => by rw [f2.1 q z1, wI_sA, rdN z2, f1.1 q z1]
      have r2a : N2.1 58 = upd (M.1 58) (3 + a.1.length) (nI (tkV T tl s)) := by rw [f2.1 58 (by omega), wI_sA, rdA, f1.1 58 (by omega)]
      have r56 : ∀ k, ¬ (4 ≤ k ∧ k ≤ 7) → N2.1 56 k = M.1 56 k := fun k hk => by rw [f2.2.1 k hk, wI_sA, rdN (by omega), f1.2.1 k hk]
      refine hK _ (a.1 ++ [(tkV T tl s, tkV T tl (nx T tl s))], a.2.1, a.2.2) (nx T tl (nx T tl s)) ((g3.wr (by omega)).wr (by omega)) ?_ ?_ ?_ hn3.2 hP
      · refine ⟨?_, ?_, ?_, fun i hi => ?_, fun i hi => ?_, fun i hi => ?_⟩
        · simp (disch := omega) only [wI_sA, rdA, rdN, rdL, upd_e, upd_n]; rw [List.length_append]; rfl
        · simp (disch := omega) only [wI_sA, rdA, rdN, rdL, upd_e, upd_n]; rw [r56 18 (by omega)]; exact d2
        · simp (disch := omega) only [wI_sA, rdA, rdN, rdL, upd_e, upd_n]; rw [r56 19 (by omega)]; exact d3
        · have hi : i < a.1.length + 1 := by rw [List.length_append] at hi; exact hi
          by_cases q : i = a.1.length
          · subst q
            simp (disch := omega) only [wI_sA, rdA, rdN, rdL, upd_e, upd_n]
            rw [r2a, upd_e]
            simp
          · simp (disch := omega) only [wI_sA, rdA, rdN, rdL, upd_e, upd_n]
            rw [r2a, upd_n (by omega), r2 59 (by omega) (by omega), List.getElem_append_left (by omega)]
            exact d4 i (by omega)
        · simp (disch := omega) only [wI_sA, rdA, rdN, rdL, upd_e, upd_n]; rw [r2 60 (by omega) (by omega), r2 61 (by omega) (by omega)]; exact d5 i hi
        · simp (disch := omega) only [wI_sA, rdA, rdN, rdL, upd_e, upd_n]; rw [r2 62 (by omega) (by omega)]; exact d6 i hi
      · unfold TokR
        simp (disch := omega) only [wI_sA, rdA, rdN, rdL, upd_e, upd_n]
        exact k2
      · simp (disch := omega) only [wI_sA, rdA, rdN, rdL, upd_e, upd_n]
        rw [r56 8 (by omega)]; exact h8
theorem c_reads_child {G : GG} {d : Nat} {M : PM} {Q : Option Value → PM → Prop} {M0 : PM} {a : PSt} {s : Nat} {F : Nat → Prop} {K : PSt → Nat → Prop} (hw : a.2.1.length < 8) (htl : tl ≤ 300) (hT : TXr M0 T tl) (hf : FrP M0 M) (hD : DRr M a) (hk : TokR M T tl s) (hs : s ≤ tl) (h8 : M.1 56 8 = -1) (hP : Pc T tl a s F K) (hF : ∀ N f, FrP M0 N → N.1 56 8 = nI f → f ≤ tl → F f → Q none N) (hK : ∀ N a' s4, FrP M0 N → DRr N a' → TokR N T tl s4 → N.1 56 8 = -1 → s4 ≤ tl → K a' s4 → Q none N) : PC G (d + 7) m_X9_readsItem [.ref 56, .int (nI 1)] M Q := by
  obtain ⟨d1, d2, d3, d4, d5, d6⟩ := id hD
  unfold Pc at hP
  have hE := tkE_b T hs
  have hn2 := tkS_b T hE.2
  have hE2 := tkE_b T hn2.2
  have hn3 := tkS_b T hE2.2
  have e1 : tkS T tl (tkE T tl s) = nx T tl s := rfl
  have e2 : tkS T tl (tkE T tl (nx T tl s)) = nx T tl (nx T tl s) := rfl
  rw [e1] at hn2 hE2 hn3
  rw [e2] at hn3
  refine PC.of ok_X9_readsItem (Nat.le_of_ble_eq_true rfl) (g_X9_readsItem_0 (b0 (by decide) (b1 rfl ?_)))
  rw [d2, nI_add]
  refine c_X9_number (lo := 1) (hi := 60) (hf.tx hT) hk hs h8 (by omega) (by omega) (fun y => ?_) (fun y N1 f1 k1 => ?_)
  · simp only [gI]
    rw [vin (by omega) (by omega), true_and, ncl (by omega)]
    have g1 := (hf.wr (q := 56) (k := 8) (v := nI s) (by omega)).wr (q := 60) (k := 8 + a.2.1.length) (v := nI 0) (by omega)
    refine c_X9_number_b (f := s) (by omega) (by simp (disch := omega) only [wI_sA, rdA, rdN, rdL, upd_e, upd_n]) ?_
    have c17 : (wI M 56 8 (nI s)).1 56 18 = nI a.2.1.length := by simp (disch := omega) only [wI_sA, rdA, rdN, rdL, upd_e, upd_n]; exact d2
    simp only [gI]
    rw [c17, nI_add, vin (by omega) (by omega), true_and, ncl (by omega)]
    refine hF _ s ((g1.wr (by omega)).wr (by omega)) ?_ hs (hP.1 y)
    simp (disch := omega) only [wI_sA, rdA, rdN, rdL, upd_e, upd_n]
  · simp only [gI]
    have hP := hP.2 y
    have g1 := hf.a f1
    obtain ⟨a1, a2, a3, a4, a5, a6⟩ := id (hD.a f1)
    rw [vin (by omega) (by omega), true_and, ncl (by omega), a2, nI_add]
    have g2 := g1.wr (q := 60) (k := 8 + a.2.1.length) (v := nI (tkV T tl s)) (by omega)
    have w8 : N1.1 56 8 = -1 := by rw [f1.2.1 8 (by omega)]; exact h8
    have k1' : TokR (wI N1 60 (8 + a.2.1.length) (nI (tkV T tl s))) T tl (nx T tl s) := by
      unfold TokR
      simp (disch := omega) only [wI_sA, rdA, rdN, rdL, upd_e, upd_n]
      exact k1
    refine c_X9_number (lo := 1) (hi := 30) (g2.tx hT) k1' hn2.2 (by simp (disch := omega) only [wI_sA, rdA, rdN, rdL, upd_e, upd_n]; exact w8) (by omega) (by omega) (fun x => ?_) (fun x N2 f2 k2 => ?_)
    · simp only [gI]
      rw [vin (by omega) (by omega), true_and, ncl (by omega)]
      refine hF _ (nx T tl s) (((g2.wr (by omega)).wr (by omega)).wr (by omega)) ?_ hn2.2 (hP.1 x)
      simp (disch := omega) only [wI_sA, rdA, rdN, rdL, upd_e, upd_n]
    · simp only [gI]
      have hP := hP.2 x
      have g3 := g2.a f2
      have c17 : N2.1 56 18 = nI a.2.1.length := by rw [f2.2.1 18 (by omega)]; simp (disch := omega) only [wI_sA, rdA, rdN, rdL, upd_e, upd_n]; exact a2
      rw [vin (by omega) (by omega), true_and, ncl (by omega), c17, nI_add]
      have r2 : ∀ q, ¬ q = 56 → ¬ q = 60 → N2.1 q = M.1 q := fun q z1 z2 => by rw [f2.1 q z1, wI_sA, rdN z2, f1.1 q z1]
      have r2a : N2.1 60 = upd (M.1 60) (8 + a.2.1.length) (nI (tkV T tl s)) := by rw [f2.1 60 (by omega), wI_sA, rdA, f1.1 60 (by omega)]
      have r56 : ∀ k, ¬ (4 ≤ k ∧ k ≤ 7) → N2.1 56 k = M.1 56 k := fun k hk => by rw [f2.2.1 k hk, wI_sA, rdN (by omega), f1.2.1 k hk]
      refine hK _ (a.1, a.2.1 ++ [(tkV T tl s, tkV T tl (nx T tl s))], a.2.2) (nx T tl (nx T tl s)) ((g3.wr (by omega)).wr (by omega)) ?_ ?_ ?_ hn3.2 hP
      · refine ⟨?_, ?_, ?_, fun i hi => ?_, fun i hi => ?_, fun i hi => ?_⟩
        · simp (disch := omega) only [wI_sA, rdA, rdN, rdL, upd_e, upd_n]; rw [r56 17 (by omega)]; exact d1
        · simp (disch := omega) only [wI_sA, rdA, rdN, rdL, upd_e, upd_n]; rw [List.length_append]; rfl
        · simp (disch := omega) only [wI_sA, rdA, rdN, rdL, upd_e, upd_n]; rw [r56 19 (by omega)]; exact d3
        · simp (disch := omega) only [wI_sA, rdA, rdN, rdL, upd_e, upd_n]; rw [r2 58 (by omega) (by omega), r2 59 (by omega) (by omega)]; exact d4 i hi
        · have hi : i < a.2.1.length + 1 := by rw [List.length_append] at hi; exact hi
          by_cases q : i = a.2.1.length
          · subst q
            simp (disch := omega) only [wI_sA, rdA, rdN, rdL, upd_e, upd_n]
            rw [r2a, upd_e]
            simp
          · simp (disch := omega) only [wI_sA, rdA, rdN, rdL, upd_e, upd_n]
            rw [r2a, upd_n (by omega), r2 61 (by omega) (by omega), List.getElem_append_left (by omega)]
            exact d5 i (by omega)
        · simp (disch := omega) only [wI_sA, rdA, rdN, rdL, upd_e, upd_n]; rw [r2 62 (by omega) (by omega)]; exact d6 i hi
      · unfold TokR
        simp (disch := omega) only [wI_sA, rdA, rdN, rdL, upd_e, upd_n]
        exact k2
      · simp (disch := omega) only [wI_sA, rdA, rdN, rdL, upd_e, upd_n]
        rw [r56 8 (by omega)]; exact h8
theorem c_reads_stone {G : GG} {d : Nat} {M : PM} {Q : Option Value → PM → Prop} {M0 : PM} {a : PSt} {s : Nat} {F : Nat → Prop} {K : PSt → Nat → Prop} (hw : a.2.2.length < 5) (htl : tl ≤ 300) (hT : TXr M0 T tl) (hf : FrP M0 M) (hD : DRr M a) (hk : TokR M T tl s) (hs : s ≤ tl) (h8 : M.1 56 8 = -1) (hP : Ps T tl a s F K) (hF : ∀ N f, FrP M0 N → N.1 56 8 = nI f → f ≤ tl → F f → Q none N) (hK : ∀ N a' s4, FrP M0 N → DRr N a' → TokR N T tl s4 → N.1 56 8 = -1 → s4 ≤ tl → K a' s4 → Q none N) : PC G (d + 7) m_X9_readsItem [.ref 56, .int (nI 2)] M Q := by
  obtain ⟨d1, d2, d3, d4, d5, d6⟩ := id hD
  unfold Ps at hP
  have hE := tkE_b T hs
  have hn2 := tkS_b T hE.2
  have e1 : tkS T tl (tkE T tl s) = nx T tl s := rfl
  rw [e1] at hn2
  refine PC.of ok_X9_readsItem (Nat.le_of_ble_eq_true rfl) (g_X9_readsItem_0 (b0 (by decide) (b0 (by decide) ?_)))
  rw [d3, nI_add]
  refine c_X9_number (lo := 1) (hi := 20) (hf.tx hT) hk hs h8 (by omega) (by omega) (fun y => ?_) (fun y N2 f1 k2 => ?_)
  · simp only [gI]
    rw [vin (by omega) (by omega), true_and, ncl (by omega)]
    refine hF _ s (((hf.wr (by omega)).wr (by omega)).wr (by omega)) ?_ hs (hP.1 y)
    simp (disch := omega) only [wI_sA, rdA, rdN, rdL, upd_e, upd_n]
  · simp only [gI]
    have hP := hP.2 y
    have g1 := hf.a f1
    obtain ⟨a1, a2, a3, a4, a5, a6⟩ := id (hD.a f1)
    rw [vin (by omega) (by omega), true_and, ncl (by omega), a3, nI_add]
    have w8 : N2.1 56 8 = -1 := by rw [f1.2.1 8 (by omega)]; exact h8
    have r2 : ∀ q, ¬ q = 56 → ¬ q = 0 → N2.1 q = M.1 q := fun q z1 z2 => by rw [f1.1 q z1]
    have r56 : ∀ k, ¬ (4 ≤ k ∧ k ≤ 7) → N2.1 56 k = M.1 56 k := fun k hk => f1.2.1 k hk
    refine hK _ (a.1, a.2.1, a.2.2 ++ [tkV T tl s]) (nx T tl s) ((g1.wr (by omega)).wr (by omega)) ?_ ?_ ?_ hn2.2 hP
    · refine ⟨?_, ?_, ?_, fun i hi => ?_, fun i hi => ?_, fun i hi => ?_⟩
      · simp (disch := omega) only [wI_sA, rdA, rdN, rdL, upd_e, upd_n]; rw [r56 17 (by omega)]; exact d1
      · simp (disch := omega) only [wI_sA, rdA, rdN, rdL, upd_e, upd_n]; rw [r56 18 (by omega)]; exact d2
      · simp (disch := omega) only [wI_sA, rdA, rdN, rdL, upd_e, upd_n]; rw [List.length_append]; rfl
      · simp (disch := omega) only [wI_sA, rdA, rdN, rdL, upd_e, upd_n]; rw [r2 58 (by omega) (by omega), r2 59 (by omega) (by omega)]; exact d4 i hi
      · simp (disch := omega) only [wI_sA, rdA, rdN, rdL, upd_e, upd_n]; rw [r2 60 (by omega) (by omega), r2 61 (by omega) (by omega)]; exact d5 i hi
      · have hi : i < a.2.2.length + 1 := by rw [List.length_append] at hi; exact hi
        by_cases q : i = a.2.2.length
        · subst q
          simp (disch := omega) only [wI_sA, rdA, rdN, rdL, upd_e, upd_n]
          simp
        · simp (disch := omega) only [wI_sA, rdA, rdN, rdL, upd_e, upd_n]
          rw [r2 62 (by omega) (by omega), List.getElem_append_left (by omega)]
          exact d6 i (by omega)
    · unfold TokR
      simp (disch := omega) only [wI_sA, rdA, rdN, rdL, upd_e, upd_n]
      exact k2
    · simp (disch := omega) only [wI_sA, rdA, rdN, rdL, upd_e, upd_n]
      exact w8
end IR
