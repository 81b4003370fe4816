/-! the text: items, the class -/
def FrD (M N : PM) : Prop := (∀ q, ¬ q = 25 → ¬ (26 ≤ q ∧ q ≤ 31) → N.1 q = M.1 q) ∧ (∀ k, ¬ (3 ≤ k ∧ k ≤ 6) → N.1 25 k = M.1 25 k) ∧ N.2 = M.2
theorem FrD.refl (M : PM) : FrD M M := ⟨fun _ _ _ => rfl, fun _ _ => rfl, rfl⟩
theorem FrD.trans {A B C : PM} (h : FrD A B) (h2 : FrD B C) : FrD A C := ⟨fun q a b => (h2.1 q a b).trans (h.1 q a b), fun k a => (h2.2.1 k a).trans (h.2.1 k a), h2.2.2.trans h.2.2⟩
theorem FrT.d {M N : PM} (h : FrT M N) : FrD M N := ⟨fun q a _ => h.1 q a, h.2.1, h.2.2⟩
theorem FrD.wr {M N : PM} {q k : Nat} {v : Int32} (h : FrD M N) (hq : 26 ≤ q ∧ q ≤ 31) : FrD M (wI N q k v) := ⟨fun r a b => by rw [wI_sA, rdN (by omega)]; exact h.1 r a b, fun j hj => by rw [wI_sA, rdN (by omega)]; exact h.2.1 j hj, h.2.2⟩
theorem FrD.tx {M N : PM} {T : Nat → Nat} {tl : Nat} (h : FrD M N) (hT : TXc M T tl) : TXc N T tl := by
  unfold TXc; rw [h.2.1 2 (by omega), h.1 32 (by omega) (by omega)]; exact hT
def DRm (N : PM) (a : PSt) : Prop := N.1 26 5 = nI a.1.length ∧ N.1 26 6 = nI a.2.1.length ∧ N.1 26 7 = nI a.2.2.length ∧ (∀ i (h : i < a.1.length), N.1 27 i = nI a.1[i].1 ∧ N.1 28 i = nI a.1[i].2) ∧ (∀ i (h : i < a.2.1.length), N.1 29 i = nI a.2.1[i].1 ∧ N.1 30 i = nI a.2.1[i].2) ∧ (∀ i (h : i < a.2.2.length), N.1 31 i = nI a.2.2[i])
theorem DRm.t {M N : PM} {a : PSt} (h : DRm M a) (hf : FrT M N) : DRm N a := by
  unfold DRm; rw [hf.1 26 (by omega), hf.1 27 (by omega), hf.1 28 (by omega), hf.1 29 (by omega), hf.1 30 (by omega), hf.1 31 (by omega)]; exact h
theorem tkK_le {T : Nat → Nat} {tl s : Nat} : tkK T tl s ≤ 6 := by
  unfold tkK
  split
  · split
    · unfold wk
      split
      · omega
      · split
        · omega
        · split <;> omega
    · split
      · unfold dK; split <;> omega
      · split <;> omega
  · omega
theorem tkV_le {T : Nat → Nat} {tl s : Nat} : tkV T tl s ≤ 100 := vd_le T _ _ _ (by omega)
section IC
variable {T : Nat → Nat} {tl : Nat}
theorem c_X6_readNumber {G : GG} {d : Nat} {M : PM} {Q : Option Value → PM → Prop} {lo hi i : Nat} (hT : TXc M T tl) (h4 : M.1 25 4 = nI i) (hi' : i ≤ tl) (hlo : lo < 1000) (hhi : hi < 1000) (hQ : ∀ N, FrT M N → TokC N T tl (tkS T tl i) → Q (some (.int (bI (isN T tl lo hi (tkS T tl i))))) N) : PC G (d + 8) m_X6_readNumber [.ref 25, .int (nI lo), .int (nI hi)] M Q := by
  refine PC.of ok_X6_readNumber (Nat.le_of_ble_eq_true rfl) (g_X6_readNumber_0 (c_X6_readToken hT h4 hi' (fun N hf hk => ?_)))
  simp only [gN, n01a, n01b, true_and]
  have hq := hQ N hf hk
  have hK := tkK_le (T := T) (tl := tl) (s := tkS T tl i)
  have hV := tkV_le (T := T) (tl := tl) (s := tkS T tl i)
  rw [hk.2.2.1, neq (by omega) (by omega)]
  refine b2 (fun z => ?_) (fun z => ?_)
  · rw [hk.2.2.2 z, nlt (by omega) (by omega), nlt (by omega) (by omega)]
    refine b2 (fun y => ?_) (fun y => b2 (fun x => ?_) (fun x => ?_))
    · rw [bI_f (fun q => absurd q.2.1 (by omega))] at hq; exact hq
    · rw [bI_f (fun q => absurd q.2.2 (by omega))] at hq; exact hq
    · rw [bI_t ⟨z, by omega, by omega⟩] at hq; exact hq
  · rw [bI_f (fun q => z q.1)] at hq; exact hq
theorem c_X6_readSemicolon {G : GG} {d : Nat} {M : PM} {Q : Option Value → PM → Prop} {i : Nat} (hT : TXc M T tl) (h4 : M.1 25 4 = nI i) (hi' : i ≤ tl) (hQ : ∀ N, FrT M N → TokC N T tl (tkS T tl i) → Q (some (.int (bI (tkK T tl (tkS T tl i) = 5)))) N) : PC G (d + 8) m_X6_readSemicolon [.ref 25] M Q := by
  refine PC.of ok_X6_readSemicolon (Nat.le_of_ble_eq_true rfl) (g_X6_readSemicolon_0 (c_X6_readToken hT h4 hi' (fun N hf hk => ?_)))
  simp only [gN, n01a, n01b, true_and]
  have hq := hQ N hf hk
  have hK := tkK_le (T := T) (tl := tl) (s := tkS T tl i)
  rw [hk.2.2.1, neq (by omega) (by omega)]
  refine b2 (fun z => ?_) (fun z => ?_)
  · rw [bI_t z] at hq; exact hq
  · rw [bI_f z] at hq; exact hq
theorem c_X6_readPlank {G : GG} {d : Nat} {M : PM} {Q : Option Value → PM → Prop} {M0 : PM} {a : PSt} {s : Nat} {F : Nat → Prop} {K : PSt → Nat → Prop} (hw : a.1.length ≤ 3) (hT : TXc M0 T tl) (hf : FrD M0 M) (hD : DRm M a) (hk : TokC M T tl s) (hs : s ≤ tl) (hP : (3 ≤ a.1.length → F s) ∧ (a.1.length < 3 → Pp T tl a (nx T tl s) F (fun a' s4 => PSm T tl s4 F (K a')))) (hF : ∀ N f, FrD M0 N → N.1 25 3 = nI f → F f → Q (some (.int (nI 0))) N) (hK : ∀ N a' i, FrD M0 N → DRm N a' → N.1 25 4 = nI i → i ≤ tl → K a' (tkS T tl i) → Q (some (.int (nI 1))) N) : PC G (d + 9) m_X6_readPlank [.ref 25] M Q := by
  obtain ⟨d1, d2, d3, d4, d5, d6⟩ := id hD
  have hE := tkE_b T hs
  refine PC.of ok_X6_readPlank (Nat.le_of_ble_eq_true rfl) (g_X6_readPlank_0 ?_)
  simp only [n01a, n01b, true_and]
  rw [d1, nle (by omega) (by omega)]
  refine b2 (fun z => hF M s hf hk.1 (hP.1 z)) (fun z => ?_)
  have hP := hP.2 (by omega)
  unfold Pp at hP
  refine c_X6_readNumber (lo := 1) (hi := 4) (hf.tx hT) hk.2.1 hE.2 (by omega) (by omega) (fun N1 f1 k1 => ?_)
  have e1 : tkS T tl (tkE T tl s) = nx T tl s := rfl
  rw [e1] at k1 ⊢
  have b1' := tkS_b T hE.2
  rw [e1] at b1'
  have E1 := tkE_b T b1'.2
  simp only [gI, bI_z]
  have g1 := hf.trans f1.d
  refine b2 (fun y => hF N1 _ g1 k1.1 (hP.1 y)) (fun y => ?_)
  have y := Classical.not_not.mp y
  have hP := hP.2 y
  have D1 := hD.t f1
  obtain ⟨a1, a2, a3, a4, a5, a6⟩ := id D1
  rw [k1.2.2.2 y.1]
  simp (disch := omega) only [nle, nlt, neq, nz, nzl, nzg, nzp, nzn, nneg, nneg9, nI_add, ncl, vin, br_T, br_F, br_p, br_n, true_and, and_true, Nat.zero_add, rdA, rdN]
  have g2 := g1.wr (q := 27) (k := a.1.length) (v := nI (tkV T tl (nx T tl s))) (by omega)
  refine c_X6_readNumber (lo := 0) (hi := 20) (i := tkE T tl (nx T tl s)) (g2.tx hT) (by simp (disch := omega) only [wI_sA, rdA, rdN, rdL, upd_e, upd_n]; exact k1.2.1) E1.2 (by omega) (by omega) (fun N2 f2 k2 => ?_)
  have e2 : tkS T tl (tkE T tl (nx T tl s)) = nx T tl (nx T tl s) := rfl
  rw [e2] at k2 ⊢
  have b2' := tkS_b T E1.2
  rw [e2] at b2'
  have E2 := tkE_b T b2'.2
  simp only [gI, bI_z]
  have g3 := g2.trans f2.d
  refine b2 (fun x => hF N2 _ g3 k2.1 (hP.1 x)) (fun x => ?_)
  have x := Classical.not_not.mp x
  have hP := hP.2 x
  rw [k2.2.2.2 x.1]
  have c5 : N2.1 26 5 = nI a.1.length := by rw [f2.1 26 (by omega)]; simp (disch := omega) only [wI_sA, rdA, rdN, rdL, upd_e, upd_n]; exact a1
  rw [c5, nI_add]
  have g4 := (g3.wr (q := 28) (k := a.1.length) (v := nI (tkV T tl (nx T tl (nx T tl s)))) (by omega)).wr (q := 26) (k := 5) (v := nI (a.1.length + 1)) (by omega)
  refine c_X6_readSemicolon (i := tkE T tl (nx T tl (nx T tl s))) (g4.tx hT) (by simp (disch := omega) only [wI_sA, rdA, rdN, rdL, upd_e, upd_n]; exact k2.2.1) E2.2 (fun N3 f3 k3 => ?_)
  have e3 : tkS T tl (tkE T tl (nx T tl (nx T tl s))) = nx T tl (nx T tl (nx T tl s)) := rfl
  rw [e3] at k3 ⊢
  have b3' := tkS_b T E2.2
  rw [e3] at b3'
  have E3 := tkE_b T b3'.2
  simp only [gI]
  refine ⟨bI_01 _, ?_⟩
  have g5 := g4.trans f3.d
  have r2 : ∀ q, ¬ q = 25 → ¬ q = 27 → N2.1 q = M.1 q := fun q q1 q2 => by rw [f2.1 q q1, wI_sA, rdN q2, f1.1 q q1]
  have r2a : N2.1 27 = upd (M.1 27) a.1.length (nI (tkV T tl (nx T tl s))) := by rw [f2.1 27 (by omega), wI_sA, rdA, f1.1 27 (by omega)]
  by_cases w : tkK T tl (nx T tl (nx T tl (nx T tl s))) = 5
  · rw [bI_t w]
    refine hK N3 (a.1 ++ [(tkV T tl (nx T tl s), tkV T tl (nx T tl (nx T tl s)))], a.2.1, a.2.2) (tkE T tl (nx T tl (nx T tl (nx T tl s)))) g5 ?_ k3.2.1 E3.2 (hP.2 w)
    refine DRm.t (M := wI (wI N2 28 a.1.length (nI (tkV T tl (nx T tl (nx T tl s))))) 26 5 (nI (a.1.length + 1))) ?_ f3
    refine ⟨?_, ?_, ?_, fun i hi => ?_, fun i hi => ?_, fun i hi => ?_⟩
    · simp (disch := omega) only [wI_sA, rdA, rdN, rdL, upd_e, upd_n]; rw [List.length_append]; rfl
    · simp (disch := omega) only [wI_sA, rdA, rdN, rdL, upd_e, upd_n]; rw [r2 26 (by omega) (by omega)]; exact d2
    · simp (disch := omega) only [wI_sA, rdA, rdN, rdL, upd_e, upd_n]; rw [r2 26 (by omega) (by omega)]; exact d3
    · have hi : i < a.1.length + 1 := by rw [List.length_append] at hi; exact hi
      by_cases q : i = a.1.length
      · subst q
        simp (disch := omega) only [wI_sA, rdA, rdN, rdL, upd_e, upd_n]
        rw [r2a, upd_e]
        simp
      · simp (disch := omega) only [wI_sA, rdA, rdN, rdL, upd_e, upd_n]
        rw [r2a, upd_n q, r2 28 (by omega) (by omega), List.getElem_append_left (by omega)]
        exact d4 i (by omega)
    · simp (disch := omega) only [wI_sA, rdA, rdN, rdL, upd_e, upd_n]; rw [r2 29 (by omega) (by omega), r2 30 (by omega) (by omega)]; exact d5 i hi
    · simp (disch := omega) only [wI_sA, rdA, rdN, rdL, upd_e, upd_n]; rw [r2 31 (by omega) (by omega)]; exact d6 i hi
  · rw [bI_f w]
    exact hF N3 _ g5 k3.1 (hP.1 w)
theorem c_X6_readChild {G : GG} {d : Nat} {M : PM} {Q : Option Value → PM → Prop} {M0 : PM} {a : PSt} {s : Nat} {F : Nat → Prop} {K : PSt → Nat → Prop} (hw : a.2.1.length ≤ 8) (hT : TXc M0 T tl) (hf : FrD M0 M) (hD : DRm M a) (hk : TokC M T tl s) (hs : s ≤ tl) (hP : (8 ≤ a.2.1.length → F s) ∧ (a.2.1.length < 8 → Pc T tl a (nx T tl s) F (fun a' s4 => PSm T tl s4 F (K a')))) (hF : ∀ N f, FrD M0 N → N.1 25 3 = nI f → F f → Q (some (.int (nI 0))) N) (hK : ∀ N a' i, FrD M0 N → DRm N a' → N.1 25 4 = nI i → i ≤ tl → K a' (tkS T tl i) → Q (some (.int (nI 1))) N) : PC G (d + 9) m_X6_readChild [.ref 25] M Q := by
  obtain ⟨d1, d2, d3, d4, d5, d6⟩ := id hD
  have hE := tkE_b T hs
  refine PC.of ok_X6_readChild (Nat.le_of_ble_eq_true rfl) (g_X6_readChild_0 ?_)
  simp only [n01a, n01b, true_and]
  rw [d2, nle (by omega) (by omega)]
  refine b2 (fun z => hF M s hf hk.1 (hP.1 z)) (fun z => ?_)
  have hP := hP.2 (by omega)
  unfold Pc at hP
  refine c_X6_readNumber (lo := 1) (hi := 60) (hf.tx hT) hk.2.1 hE.2 (by omega) (by omega) (fun N1 f1 k1 => ?_)
  have e1 : tkS T tl (tkE T tl s) = nx T tl s := rfl
  rw [e1] at k1 ⊢
  have b1' := tkS_b T hE.2
  rw [e1] at b1'
  have E1 := tkE_b T b1'.2
  simp only [gI, bI_z]
  have g1 := hf.trans f1.d
  refine b2 (fun y => hF N1 _ g1 k1.1 (hP.1 y)) (fun y => ?_)
  have y := Classical.not_not.mp y
  have hP := hP.2 y
  have D1 := hD.t f1
  obtain ⟨a1, a2, a3, a4, a5, a6⟩ := id D1
  rw [k1.2.2.2 y.1]
  simp (disch := omega) only [nle, nlt, neq, nz, nzl, nzg, nzp, nzn, nneg, nneg9, nI_add, ncl, vin, br_T, br_F, br_p, br_n, true_and, and_true, Nat.zero_add, rdA, rdN]
  have g2 := g1.wr (q := 29) (k := a.2.1.length) (v := nI (tkV T tl (nx T tl s))) (by omega)
  refine c_X6_readNumber (lo := 1) (hi := 30) (i := tkE T tl (nx T tl s)) (g2.tx hT) (by simp (disch := omega) only [wI_sA, rdA, rdN, rdL, upd_e, upd_n]; exact k1.2.1) E1.2 (by omega) (by omega) (fun N2 f2 k2 => ?_)
  have e2 : tkS T tl (tkE T tl (nx T tl s)) = nx T tl (nx T tl s) := rfl
  rw [e2] at k2 ⊢
  have b2' := tkS_b T E1.2
  rw [e2] at b2'
  have E2 := tkE_b T b2'.2
  simp only [gI, bI_z]
  have g3 := g2.trans f2.d
  refine b2 (fun x => hF N2 _ g3 k2.1 (hP.1 x)) (fun x => ?_)
  have x := Classical.not_not.mp x
  have hP := hP.2 x
  rw [k2.2.2.2 x.1]
  have c5 : N2.1 26 6 = nI a.2.1.length := by rw [f2.1 26 (by omega)]; simp (disch := omega) only [wI_sA, rdA, rdN, rdL, upd_e, upd_n]; exact a2
  rw [c5, nI_add]
  have g4 := (g3.wr (q := 30) (k := a.2.1.length) (v := nI (tkV T tl (nx T tl (nx T tl s)))) (by omega)).wr (q := 26) (k := 6) (v := nI (a.2.1.length + 1)) (by omega)
  refine c_X6_readSemicolon (i := tkE T tl (nx T tl (nx T tl s))) (g4.tx hT) (by simp (disch := omega) only [wI_sA, rdA, rdN, rdL, upd_e, upd_n]; exact k2.2.1) E2.2 (fun N3 f3 k3 => ?_)
  have e3 : tkS T tl (tkE T tl (nx T tl (nx T tl s))) = nx T tl (nx T tl (nx T tl s)) := rfl
  rw [e3] at k3 ⊢
  have b3' := tkS_b T E2.2
  rw [e3] at b3'
  have E3 := tkE_b T b3'.2
  simp only [gI]
  refine ⟨bI_01 _, ?_⟩
  have g5 := g4.trans f3.d
  have r2 : ∀ q, ¬ q = 25 → ¬ q = 29 → N2.1 q = M.1 q := fun q q1 q2 => by rw [f2.1 q q1, wI_sA, rdN q2, f1.1 q q1]
  have r2a : N2.1 29 = upd (M.1 29) a.2.1.length (nI (tkV T tl (nx T tl s))) := by rw [f2.1 29 (by omega), wI_sA, rdA, f1.1 29 (by omega)]
  by_cases w : tkK T tl (nx T tl (nx T tl (nx T tl s))) = 5
  · rw [bI_t w]
    refine hK N3 (a.1, a.2.1 ++ [(tkV T tl (nx T tl s), tkV T tl (nx T tl (nx T tl s)))], a.2.2) (tkE T tl (nx T tl (nx T tl (nx T tl s)))) g5 ?_ k3.2.1 E3.2 (hP.2 w)
    refine DRm.t (M := wI (wI N2 30 a.2.1.length (nI (tkV T tl (nx T tl (nx T tl s))))) 26 6 (nI (a.2.1.length + 1))) ?_ f3
    refine ⟨?_, ?_, ?_, fun i hi => ?_, fun i hi => ?_, fun i hi => ?_⟩
    · simp (disch := omega) only [wI_sA, rdA, rdN, rdL, upd_e, upd_n]; rw [r2 26 (by omega) (by omega)]; exact d1
    · simp (disch := omega) only [wI_sA, rdA, rdN, rdL, upd_e, upd_n]; rw [List.length_append]; rfl
    · simp (disch := omega) only [wI_sA, rdA, rdN, rdL, upd_e, upd_n]; rw [r2 26 (by omega) (by omega)]; exact d3
    · simp (disch := omega) only [wI_sA, rdA, rdN, rdL, upd_e, upd_n]; rw [r2 27 (by omega) (by omega), r2 28 (by omega) (by omega)]; exact d4 i hi
    · have hi : i < a.2.1.length + 1 := by rw [List.length_append] at hi; exact hi
      by_cases q : i = a.2.1.length
      · subst q
        simp (disch := omega) only [wI_sA, rdA, rdN, rdL, upd_e, upd_n]
        rw [r2a, upd_e]
        simp
      · simp (disch := omega) only [wI_sA, rdA, rdN, rdL, upd_e, upd_n]
        rw [r2a, upd_n q, r2 30 (by omega) (by omega), List.getElem_append_left (by omega)]
        exact d5 i (by omega)
    · simp (disch := omega) only [wI_sA, rdA, rdN, rdL, upd_e, upd_n]; rw [r2 31 (by omega) (by omega)]; exact d6 i hi
  · rw [bI_f w]
    exact hF N3 _ g5 k3.1 (hP.1 w)
theorem c_X6_readStone {G : GG} {d : Nat} {M : PM} {Q : Option Value → PM → Prop} {M0 : PM} {a : PSt} {s : Nat} {F : Nat → Prop} {K : PSt → Nat → Prop} (hw : a.2.2.length ≤ 5) (hT : TXc M0 T tl) (hf : FrD M0 M) (hD : DRm M a) (hk : TokC M T tl s) (hs : s ≤ tl) (hP : (5 ≤ a.2.2.length → F s) ∧ (a.2.2.length < 5 → Ps T tl a (nx T tl s) F (fun a' s4 => PSm T tl s4 F (K a')))) (hF : ∀ N f, FrD M0 N → N.1 25 3 = nI f → F f → Q (some (.int (nI 0))) N) (hK : ∀ N a' i, FrD M0 N → DRm N a' → N.1 25 4 = nI i → i ≤ tl → K a' (tkS T tl i) → Q (some (.int (nI 1))) N) : PC G (d + 9) m_X6_readStone [.ref 25] M Q := by
  obtain ⟨d1, d2, d3, d4, d5, d6⟩ := id hD
  have hE := tkE_b T hs
  refine PC.of ok_X6_readStone (Nat.le_of_ble_eq_true rfl) (g_X6_readStone_0 ?_)
  simp only [n01a, n01b, true_and]
  rw [d3, nle (by omega) (by omega)]
  refine b2 (fun z => hF M s hf hk.1 (hP.1 z)) (fun z => ?_)
  have hP := hP.2 (by omega)
  unfold Ps at hP
  refine c_X6_readNumber (lo := 1) (hi := 20) (hf.tx hT) hk.2.1 hE.2 (by omega) (by omega) (fun N1 f1 k1 => ?_)
  have e1 : tkS T tl (tkE T tl s) = nx T tl s := rfl
  rw [e1] at k1 ⊢
  have b1' := tkS_b T hE.2
  rw [e1] at b1'
  have E1 := tkE_b T b1'.2
  simp only [gI, bI_z]
  have g1 := hf.trans f1.d
  refine b2 (fun y => hF N1 _ g1 k1.1 (hP.1 y)) (fun y => ?_)
  have y := Classical.not_not.mp y
  have hP := hP.2 y
  have D1 := hD.t f1
  obtain ⟨a1, a2, a3, a4, a5, a6⟩ := id D1
  rw [k1.2.2.2 y.1]
  simp (disch := omega) only [nle, nlt, neq, nz, nzl, nzg, nzp, nzn, nneg, nneg9, nI_add, ncl, vin, br_T, br_F, br_p, br_n, true_and, and_true, Nat.zero_add, rdA, rdN]
  rw [a3, nI_add]
  have g4 := (g1.wr (q := 31) (k := a.2.2.length) (v := nI (tkV T tl (nx T tl s))) (by omega)).wr (q := 26) (k := 7) (v := nI (a.2.2.length + 1)) (by omega)
  refine c_X6_readSemicolon (i := tkE T tl (nx T tl s)) (g4.tx hT) (by simp (disch := omega) only [wI_sA, rdA, rdN, rdL, upd_e, upd_n]; exact k1.2.1) E1.2 (fun N3 f3 k3 => ?_)
  have e3 : tkS T tl (tkE T tl (nx T tl s)) = nx T tl (nx T tl s) := rfl
  rw [e3] at k3 ⊢
  have b3' := tkS_b T E1.2
  rw [e3] at b3'
  have E3 := tkE_b T b3'.2
  simp only [gI]
  refine ⟨bI_01 _, ?_⟩
  have g5 := g4.trans f3.d
  by_cases w : tkK T tl (nx T tl (nx T tl s)) = 5
  · rw [bI_t w]
    refine hK N3 (a.1, a.2.1, a.2.2 ++ [tkV T tl (nx T tl s)]) (tkE T tl (nx T tl (nx T tl s))) g5 ?_ k3.2.1 E3.2 (hP.2 w)
    refine DRm.t (M := wI (wI N1 31 a.2.2.length (nI (tkV T tl (nx T tl s)))) 26 7 (nI (a.2.2.length + 1))) ?_ f3
    refine ⟨?_, ?_, ?_, fun i hi => ?_, fun i hi => ?_, fun i hi => ?_⟩
    · simp (disch := omega) only [wI_sA, rdA, rdN, rdL, upd_e, upd_n]; rw [f1.1 26 (by omega)]; exact d1
    · simp (disch := omega) only [wI_sA, rdA, rdN, rdL, upd_e, upd_n]; rw [f1.1 26 (by omega)]; exact d2
    · simp (disch := omega) only [wI_sA, rdA, rdN, rdL, upd_e, upd_n]; rw [List.length_append]; rfl
    · simp (disch := omega) only [wI_sA, rdA, rdN, rdL, upd_e, upd_n]; rw [f1.1 27 (by omega), f1.1 28 (by omega)]; exact d4 i hi
    · simp (disch := omega) only [wI_sA, rdA, rdN, rdL, upd_e, upd_n]; rw [f1.1 29 (by omega), f1.1 30 (by omega)]; exact d5 i hi
    · have hi : i < a.2.2.length + 1 := by rw [List.length_append] at hi; exact hi
      by_cases q : i = a.2.2.length
      · subst q
        simp (disch := omega) only [wI_sA, rdA, rdN, rdL, upd_e, upd_n]
        simp
      · simp (disch := omega) only [wI_sA, rdA, rdN, rdL, upd_e, upd_n]
        rw [f1.1 31 (by omega), List.getElem_append_left (by omega)]
        exact d6 i (by omega)
  · rw [bI_f w]
    exact hF N3 _ g5 k3.1 (hP.1 w)
end IC
