/-! the text: tokens -/
def rn (T : Nat → Nat) (p : Nat → Bool) : Nat → Nat → Nat
  | 0, i => i
  | n + 1, i => if p (T i) then rn T p n (i + 1) else i
theorem rn_b (T : Nat → Nat) (p : Nat → Bool) : ∀ n i, i ≤ rn T p n i ∧ rn T p n i ≤ i + n
  | 0, i => ⟨Nat.le_refl _, Nat.le_refl _⟩
  | n + 1, i => by
    have := rn_b T p n (i + 1)
    rw [rn]
    split <;> omega
def isB (b : Nat) : Bool := decide (b = 32)
def isL (b : Nat) : Bool := decide (97 ≤ b ∧ b ≤ 122)
def isD (b : Nat) : Bool := decide (48 ≤ b ∧ b ≤ 57)
def vd (T : Nat → Nat) : Nat → Nat → Nat → Nat
  | 0, _, v => v
  | n + 1, i, v => if isD (T i) then vd T n (i + 1) (min 100 (10 * v + (T i - 48))) else v
theorem vd_le (T : Nat → Nat) : ∀ n i v, v ≤ 100 → vd T n i v ≤ 100
  | 0, i, v, h => h
  | n + 1, i, v, h => by
    rw [vd]
    split
    · exact vd_le T n (i + 1) _ (by omega)
    · exact h
def spel (T : Nat → Nat) (s e : Nat) (cs : List Nat) : Prop := e - s = 5 ∧ ∀ j, j < 5 → T (s + j) = cs.getD j 0
def wP : List Nat := [112, 108, 97, 110, 107]
def wC : List Nat := [99, 104, 105, 108, 100]
def wS : List Nat := [115, 116, 111, 110, 101]
noncomputable def wk (T : Nat → Nat) (s e : Nat) : Nat := @ite _ (spel T s e wP) (Classical.propDecidable _) 1 (@ite _ (spel T s e wC) (Classical.propDecidable _) 2 (@ite _ (spel T s e wS) (Classical.propDecidable _) 3 6))
theorem wk_1 {T : Nat → Nat} {s e : Nat} (h : spel T s e wP) : wk T s e = 1 := if_pos h
theorem wk_2 {T : Nat → Nat} {s e : Nat} (h : ¬ spel T s e wP) (h2 : spel T s e wC) : wk T s e = 2 := by unfold wk; rw [if_neg h, if_pos h2]
theorem wk_3 {T : Nat → Nat} {s e : Nat} (h : ¬ spel T s e wP) (h2 : ¬ spel T s e wC) (h3 : spel T s e wS) : wk T s e = 3 := by unfold wk; rw [if_neg h, if_neg h2, if_pos h3]
theorem wk_6 {T : Nat → Nat} {s e : Nat} (h : ¬ spel T s e wP) (h2 : ¬ spel T s e wC) (h3 : ¬ spel T s e wS) : wk T s e = 6 := by unfold wk; rw [if_neg h, if_neg h2, if_neg h3]
def tkS (T : Nat → Nat) (tl i : Nat) : Nat := rn T isB (tl - i) i
def tkE (T : Nat → Nat) (tl s : Nat) : Nat := if s < tl then (if isL (T s) = true then rn T isL (tl - s) s else if isD (T s) = true then rn T isD (tl - s) s else s + 1) else s
def tkV (T : Nat → Nat) (tl s : Nat) : Nat := vd T (tl - s) s 0
def dK (T : Nat → Nat) (tl s : Nat) : Nat := if (T s = 48 ∧ 1 < rn T isD (tl - s) s - s) ∨ 99 < tkV T tl s then 6 else 4
noncomputable def tkK (T : Nat → Nat) (tl s : Nat) : Nat := if s < tl then (if isL (T s) = true then wk T s (rn T isL (tl - s) s) else if isD (T s) = true then dK T tl s else if T s = 59 then 5 else 6) else 0
theorem tkS_b (T : Nat → Nat) {tl i : Nat} (h : i ≤ tl) : i ≤ tkS T tl i ∧ tkS T tl i ≤ tl := by
  have := rn_b T isB (tl - i) i
  unfold tkS; omega
theorem tkE_b (T : Nat → Nat) {tl s : Nat} (h : s ≤ tl) : s ≤ tkE T tl s ∧ tkE T tl s ≤ tl := by
  have := rn_b T isL (tl - s) s
  have := rn_b T isD (tl - s) s
  unfold tkE
  split
  · split
    · omega
    · split <;> omega
  · omega
theorem tkS_blank {T : Nat → Nat} {tl i : Nat} (h : i < tl) (hb : T i = 32) : tkS T tl i = tkS T tl (i + 1) := by
  unfold tkS
  obtain ⟨n, hn⟩ : ∃ n, tl - i = n + 1 := ⟨tl - i - 1, by omega⟩
  rw [hn, rn, if_pos (by unfold isB; rw [hb]; rfl), show tl - (i + 1) = n by omega]
theorem tkS_stop {T : Nat → Nat} {tl i : Nat} (h : i < tl → ¬ T i = 32) : tkS T tl i = i := by
  unfold tkS
  cases hn : tl - i with
  | zero => rfl
  | succ n => rw [rn, if_neg (by unfold isB; rw [decide_eq_true_eq]; exact h (by omega))]
/-- the class: tokens -/
def TXc (M : PM) (T : Nat → Nat) (tl : Nat) : Prop := M.1 25 2 = nI tl ∧ tl ≤ 300 ∧ ∀ i, i < tl → T i < 256 ∧ M.1 32 i = nI (T i)
def FrT (M N : PM) : Prop := (∀ q, ¬ q = 25 → N.1 q = M.1 q) ∧ (∀ k, ¬ (3 ≤ k ∧ k ≤ 6) → N.1 25 k = M.1 25 k) ∧ N.2 = M.2
theorem FrT.refl (M : PM) : FrT M M := ⟨fun _ _ => rfl, fun _ _ => rfl, rfl⟩
theorem FrT.trans {A B C : PM} (h : FrT A B) (h2 : FrT B C) : FrT A C := ⟨fun q a => (h2.1 q a).trans (h.1 q a), fun k a => (h2.2.1 k a).trans (h.2.1 k a), h2.2.2.trans h.2.2⟩
theorem FrT.wr {M N : PM} {k : Nat} {v : Int32} (h : FrT M N) (hk : 3 ≤ k ∧ k ≤ 6) : FrT M (wI N 25 k v) := ⟨fun q a => by rw [wI_sA, rdN a]; exact h.1 q a, fun j hj => by rw [wI_sA, rdA, upd_n (by omega)]; exact h.2.1 j hj, h.2.2⟩
theorem FrT.tx {M N : PM} {T : Nat → Nat} {tl : Nat} (h : FrT M N) (hT : TXc M T tl) : TXc N T tl := by
  unfold TXc; rw [h.2.1 2 (by omega), h.1 32 (by omega)]; exact hT
def TokC (N : PM) (T : Nat → Nat) (tl s : Nat) : Prop := N.1 25 3 = nI s ∧ N.1 25 4 = nI (tkE T tl s) ∧ N.1 25 5 = nI (tkK T tl s) ∧ (tkK T tl s = 4 → N.1 25 6 = nI (tkV T tl s))
theorem c_X6_isLetter {G : GG} {d : Nat} {M : PM} {Q : Option Value → PM → Prop} {b : Nat} (hb : b < 256) (hQ : Q (some (.int (bI (isL b = true)))) M) : PC G (d + 1) m_X6_isLetter [.int (nI b)] M Q := by
  refine PC.of ok_X6_isLetter (Nat.le_of_ble_eq_true rfl) (g_X6_isLetter_0 ?_)
  simp only [n01a, n01b, true_and]
  simp (disch := omega) only [nle, nlt, neq, nz, nzl, nzg, nzp, nzn, nneg, nneg9, nI_add, ncl, vin, br_T, br_F, br_p, br_n, true_and, and_true, Nat.zero_add, rdA, rdN]
  refine b2 (fun z => ?_) (fun z => b2 (fun y => ?_) (fun y => ?_))
  · rw [bI_f (by unfold isL; rw [decide_eq_true_eq]; omega)] at hQ; exact hQ
  · rw [bI_f (by unfold isL; rw [decide_eq_true_eq]; omega)] at hQ; exact hQ
  · rw [bI_t (by unfold isL; rw [decide_eq_true_eq]; omega)] at hQ; exact hQ
theorem c_X6_isDigit {G : GG} {d : Nat} {M : PM} {Q : Option Value → PM → Prop} {b : Nat} (hb : b < 256) (hQ : Q (some (.int (bI (isD b = true)))) M) : PC G (d + 1) m_X6_isDigit [.int (nI b)] M Q := by
  refine PC.of ok_X6_isDigit (Nat.le_of_ble_eq_true rfl) (g_X6_isDigit_0 ?_)
  simp only [n01a, n01b, true_and]
  simp (disch := omega) only [nle, nlt, neq, nz, nzl, nzg, nzp, nzn, nneg, nneg9, nI_add, ncl, vin, br_T, br_F, br_p, br_n, true_and, and_true, Nat.zero_add, rdA, rdN]
  refine b2 (fun z => ?_) (fun z => b2 (fun y => ?_) (fun y => ?_))
  · rw [bI_f (by unfold isD; rw [decide_eq_true_eq]; omega)] at hQ; exact hQ
  · rw [bI_f (by unfold isD; rw [decide_eq_true_eq]; omega)] at hQ; exact hQ
  · rw [bI_t (by unfold isD; rw [decide_eq_true_eq]; omega)] at hQ; exact hQ
theorem c_checkIndex {G : GG} {d : Nat} {M : PM} {Q : Option Value → PM → Prop} {j : Nat} (hj : j < 5) (hQ : Q none M) : PC G (d + 2) m_J0_checkIndex_df160 [.int (nI j), .int (nI 5)] M Q := by
  refine PC.of ok_J0_checkIndex_df160 (Nat.le_of_ble_eq_true rfl) (g_J0_checkIndex_df160_0 ⟨?_, ?_⟩)
  · refine PC.of ok_J3_checkIndex_8e157 (Nat.le_of_ble_eq_true rfl) (g_J3_checkIndex_8e157v0_0 ?_)
    simp (disch := omega) only [nle, nlt, neq, nz, nzl, nzg, nzp, nzn, nneg, nneg9, nI_add, ncl, vin, br_T, br_F, br_p, br_n, true_and, and_true, Nat.zero_add, rdA, rdN]
    exact hQ
  · refine PC.of ok_J3_checkIndex_8e157 (Nat.le_of_ble_eq_true rfl) (g_J3_checkIndex_8e157v1_0 ?_)
    simp (disch := omega) only [nle, nlt, neq, nz, nzl, nzg, nzp, nzn, nneg, nneg9, nI_add, ncl, vin, br_T, br_F, br_p, br_n, true_and, and_true, Nat.zero_add, rdA, rdN]
    exact hQ
theorem nch {b : Nat} (h : b < 65536) : narrow .char (.int (nI b)) = .int (nI b) := (pk_charN h).1
theorem ct_0 : ∀ j, j < 5 → (((((ctB.getD 0 []).getD j 0) &&& (nI 255)).toUInt32 % 65536).toInt32) = nI (wP.getD j 0) := by decide +kernel
theorem cl_0 : ∀ j, j < 5 → wP.getD j 0 < 256 := by decide
theorem c_length0 {G : GG} {d : Nat} {M : PM} {Q : Option Value → PM → Prop} (hQ : Q (some (.int (nI 5))) M) : PC G (d + 2) m_J0_length_8abf5 [.ref 210] M Q := by
  refine PC.of ok_J0_length_8abf5 (Nat.le_of_ble_eq_true rfl) (g_J0_length_8abf5v0_0 (PC.of ok_J0_coder_7d493 (Nat.le_of_ble_eq_true rfl) (g_J0_coder_7d493v0_0 ?_)))
  refine b0 (by decide) ⟨by decide, ?_⟩
  simp only [gI]
  exact hQ
theorem c_charAt0 {G : GG} {d : Nat} {M : PM} {Q : Option Value → PM → Prop} {j : Nat} (hj : j < 5) (hQ : Q (some (.int (nI (wP.getD j 0)))) M) : PC G (d + 4) m_J0_charAt_5068e [.ref 210, .int (nI j)] M Q := by
  have hb := cl_0 j hj
  refine PC.of ok_J0_charAt_5068e (Nat.le_of_ble_eq_true rfl) (g_J0_charAt_5068ev0_0 (PC.of ok_J0_isLatin1_aae02 (Nat.le_of_ble_eq_true rfl) (g_J0_isLatin1_aae02v0_0 ?_)))
  refine b0 (by decide) (b1 (by decide) ⟨by decide, ?_⟩)
  simp only [gI]
  refine b0 (by decide) (PC.of ok_J1_charAt_3b067 (Nat.le_of_ble_eq_true rfl) (g_J1_charAt_3b067v0_0 (c_checkIndex hj ?_)))
  simp only [gN]
  simp (disch := omega) only [nle, nlt, neq, nz, nzl, nzg, nzp, nzn, nneg, nneg9, nI_add, ncl, vin, br_T, br_F, br_p, br_n, true_and, and_true, Nat.zero_add, rdA, rdN]
  rw [ct_0 j hj]
  exact ⟨nch (by omega), nch (by omega), hQ⟩
theorem c_spells0 {G : GG} {d : Nat} {M : PM} {Q : Option Value → PM → Prop} {T : Nat → Nat} {tl s e : Nat} (hT : TXc M T tl) (h3 : M.1 25 3 = nI s) (h4 : M.1 25 4 = nI e) (hse : s ≤ e) (he : e ≤ tl) (hQ : Q (some (.int (bI (spel T s e wP)))) M) : PC G (d + 5) m_X6_spells [.ref 25, .ref 210] M Q := by
  obtain ⟨t1, t2, t3⟩ := id hT
  refine PC.of ok_X6_spells (Nat.le_of_ble_eq_true rfl) (g_X6_spellsv0_0 (c_length0 ?_))
  simp only [gI, n01a, n01b, true_and]
  rw [h3, h4, nsub hse, neq (by omega) (by omega)]
  refine b2 (fun z => ?_) (fun z => ?_)
  · refine up_ind (n := 5) (P := fun j => (∀ i, i < j → T (s + i) = wP.getD i 0) → PX G (d + 4) m_X6_spells Q 20 [some (.ref 25), some (.ref 210), some (.int (nI j))] [] M) ?_ ?_ 0 (Nat.zero_le _) (fun i hi => absurd hi (by omega))
    · intro hj
      apply g_X6_spellsv0_20
      refine c_length0 ?_
      simp only [gI, n01a, n01b, true_and]
      simp (disch := omega) only [nle, nlt, neq, nz, nzl, nzg, nzp, nzn, nneg, nneg9, nI_add, ncl, vin, br_T, br_F, br_p, br_n, true_and, and_true, Nat.zero_add, rdA, rdN]
      rw [bI_t ⟨z, hj⟩] at hQ
      exact hQ
    · intro j hj ih hi
      apply g_X6_spellsv0_20
      refine c_length0 ?_
      simp only [gI, n01a, n01b, true_and]
      simp (disch := omega) only [nle, nlt, neq, nz, nzl, nzg, nzp, nzn, nneg, nneg9, nI_add, ncl, vin, br_T, br_F, br_p, br_n, true_and, and_true, Nat.zero_add, rdA, rdN, h3]
      refine c_charAt0 hj ?_
      simp only [gI]
      have hb := cl_0 j hj
      have ht := t3 (s + j) (by omega)
      rw [ht.2, neq (by omega) (by omega)]
      refine b2 (fun y => ih (fun i hij => ?_)) (fun y => ?_)
      · by_cases q : i = j
        · subst q; exact y
        · exact hi i (by omega)
      · rw [bI_f (fun q => y (q.2 j hj))] at hQ
        exact hQ
  · rw [bI_f (fun q => z q.1)] at hQ
    exact hQ
theorem ct_1 : ∀ j, j < 5 → (((((ctB.getD 1 []).getD j 0) &&& (nI 255)).toUInt32 % 65536).toInt32) = nI (wC.getD j 0) := by decide +kernel
theorem cl_1 : ∀ j, j < 5 → wC.getD j 0 < 256 := by decide
theorem c_length1 {G : GG} {d : Nat} {M : PM} {Q : Option Value → PM → Prop} (hQ : Q (some (.int (nI 5))) M) : PC G (d + 2) m_J0_length_8abf5 [.ref 211] M Q := by
  refine PC.of ok_J0_length_8abf5 (Nat.le_of_ble_eq_true rfl) (g_J0_length_8abf5v1_0 (PC.of ok_J0_coder_7d493 (Nat.le_of_ble_eq_true rfl) (g_J0_coder_7d493v1_0 ?_)))
  refine b0 (by decide) ⟨by decide, ?_⟩
  simp only [gI]
  exact hQ
theorem c_charAt1 {G : GG} {d : Nat} {M : PM} {Q : Option Value → PM → Prop} {j : Nat} (hj : j < 5) (hQ : Q (some (.int (nI (wC.getD j 0)))) M) : PC G (d + 4) m_J0_charAt_5068e [.ref 211, .int (nI j)] M Q := by
  have hb := cl_1 j hj
  refine PC.of ok_J0_charAt_5068e (Nat.le_of_ble_eq_true rfl) (g_J0_charAt_5068ev1_0 (PC.of ok_J0_isLatin1_aae02 (Nat.le_of_ble_eq_true rfl) (g_J0_isLatin1_aae02v1_0 ?_)))
  refine b0 (by decide) (b1 (by decide) ⟨by decide, ?_⟩)
  simp only [gI]
  refine b0 (by decide) (PC.of ok_J1_charAt_3b067 (Nat.le_of_ble_eq_true rfl) (g_J1_charAt_3b067v1_0 (c_checkIndex hj ?_)))
  simp only [gN]
  simp (disch := omega) only [nle, nlt, neq, nz, nzl, nzg, nzp, nzn, nneg, nneg9, nI_add, ncl, vin, br_T, br_F, br_p, br_n, true_and, and_true, Nat.zero_add, rdA, rdN]
  rw [ct_1 j hj]
  exact ⟨nch (by omega), nch (by omega), hQ⟩
theorem c_spells1 {G : GG} {d : Nat} {M : PM} {Q : Option Value → PM → Prop} {T : Nat → Nat} {tl s e : Nat} (hT : TXc M T tl) (h3 : M.1 25 3 = nI s) (h4 : M.1 25 4 = nI e) (hse : s ≤ e) (he : e ≤ tl) (hQ : Q (some (.int (bI (spel T s e wC)))) M) : PC G (d + 5) m_X6_spells [.ref 25, .ref 211] M Q := by
  obtain ⟨t1, t2, t3⟩ := id hT
  refine PC.of ok_X6_spells (Nat.le_of_ble_eq_true rfl) (g_X6_spellsv1_0 (c_length1 ?_))
  simp only [gI, n01a, n01b, true_and]
  rw [h3, h4, nsub hse, neq (by omega) (by omega)]
  refine b2 (fun z => ?_) (fun z => ?_)
  · refine up_ind (n := 5) (P := fun j => (∀ i, i < j → T (s + i) = wC.getD i 0) → PX G (d + 4) m_X6_spells Q 20 [some (.ref 25), some (.ref 211), some (.int (nI j))] [] M) ?_ ?_ 0 (Nat.zero_le _) (fun i hi => absurd hi (by omega))
    · intro hj
      apply g_X6_spellsv1_20
      refine c_length1 ?_
      simp only [gI, n01a, n01b, true_and]
      simp (disch := omega) only [nle, nlt, neq, nz, nzl, nzg, nzp, nzn, nneg, nneg9, nI_add, ncl, vin, br_T, br_F, br_p, br_n, true_and, and_true, Nat.zero_add, rdA, rdN]
      rw [bI_t ⟨z, hj⟩] at hQ
      exact hQ
    · intro j hj ih hi
      apply g_X6_spellsv1_20
      refine c_length1 ?_
      simp only [gI, n01a, n01b, true_and]
      simp (disch := omega) only [nle, nlt, neq, nz, nzl, nzg, nzp, nzn, nneg, nneg9, nI_add, ncl, vin, br_T, br_F, br_p, br_n, true_and, and_true, Nat.zero_add, rdA, rdN, h3]
      refine c_charAt1 hj ?_
      simp only [gI]
      have hb := cl_1 j hj
      have ht := t3 (s + j) (by omega)
      rw [ht.2, neq (by omega) (by omega)]
      refine b2 (fun y => ih (fun i hij => ?_)) (fun y => ?_)
      · by_cases q : i = j
        · subst q; exact y
        · exact hi i (by omega)
      · rw [bI_f (fun q => y (q.2 j hj))] at hQ
        exact hQ
  · rw [bI_f (fun q => z q.1)] at hQ
    exact hQ
theorem ct_2 : ∀ j, j < 5 → (((((ctB.getD 2 []).getD j 0) &&& (nI 255)).toUInt32 % 65536).toInt32) = nI (wS.getD j 0) := by decide +kernel
theorem cl_2 : ∀ j, j < 5 → wS.getD j 0 < 256 := by decide
theorem c_length2 {G : GG} {d : Nat} {M : PM} {Q : Option Value → PM → Prop} (hQ : Q (some (.int (nI 5))) M) : PC G (d + 2) m_J0_length_8abf5 [.ref 212] M Q := by
  refine PC.of ok_J0_length_8abf5 (Nat.le_of_ble_eq_true rfl) (g_J0_length_8abf5v2_0 (PC.of ok_J0_coder_7d493 (Nat.le_of_ble_eq_true rfl) (g_J0_coder_7d493v2_0 ?_)))
  refine b0 (by decide) ⟨by decide, ?_⟩
  simp only [gI]
  exact hQ
theorem c_charAt2 {G : GG} {d : Nat} {M : PM} {Q : Option Value → PM → Prop} {j : Nat} (hj : j < 5) (hQ : Q (some (.int (nI (wS.getD j 0)))) M) : PC G (d + 4) m_J0_charAt_5068e [.ref 212, .int (nI j)] M Q := by
  have hb := cl_2 j hj
  refine PC.of ok_J0_charAt_5068e (Nat.le_of_ble_eq_true rfl) (g_J0_charAt_5068ev2_0 (PC.of ok_J0_isLatin1_aae02 (Nat.le_of_ble_eq_true rfl) (g_J0_isLatin1_aae02v2_0 ?_)))
  refine b0 (by decide) (b1 (by decide) ⟨by decide, ?_⟩)
  simp only [gI]
  refine b0 (by decide) (PC.of ok_J1_charAt_3b067 (Nat.le_of_ble_eq_true rfl) (g_J1_charAt_3b067v2_0 (c_checkIndex hj ?_)))
  simp only [gN]
  simp (disch := omega) only [nle, nlt, neq, nz, nzl, nzg, nzp, nzn, nneg, nneg9, nI_add, ncl, vin, br_T, br_F, br_p, br_n, true_and, and_true, Nat.zero_add, rdA, rdN]
  rw [ct_2 j hj]
  exact ⟨nch (by omega), nch (by omega), hQ⟩
theorem c_spells2 {G : GG} {d : Nat} {M : PM} {Q : Option Value → PM → Prop} {T : Nat → Nat} {tl s e : Nat} (hT : TXc M T tl) (h3 : M.1 25 3 = nI s) (h4 : M.1 25 4 = nI e) (hse : s ≤ e) (he : e ≤ tl) (hQ : Q (some (.int (bI (spel T s e wS)))) M) : PC G (d + 5) m_X6_spells [.ref 25, .ref 212] M Q := by
  obtain ⟨t1, t2, t3⟩ := id hT
  refine PC.of ok_X6_spells (Nat.le_of_ble_eq_true rfl) (g_X6_spellsv2_0 (c_length2 ?_))
  simp only [gI, n01a, n01b, true_and]
  rw [h3, h4, nsub hse, neq (by omega) (by omega)]
  refine b2 (fun z => ?_) (fun z => ?_)
  · refine up_ind (n := 5) (P := fun j => (∀ i, i < j → T (s + i) = wS.getD i 0) → PX G (d + 4) m_X6_spells Q 20 [some (.ref 25), some (.ref 212), some (.int (nI j))] [] M) ?_ ?_ 0 (Nat.zero_le _) (fun i hi => absurd hi (by omega))
    · intro hj
      apply g_X6_spellsv2_20
      refine c_length2 ?_
      simp only [gI, n01a, n01b, true_and]
      simp (disch := omega) only [nle, nlt, neq, nz, nzl, nzg, nzp, nzn, nneg, nneg9, nI_add, ncl, vin, br_T, br_F, br_p, br_n, true_and, and_true, Nat.zero_add, rdA, rdN]
      rw [bI_t ⟨z, hj⟩] at hQ
      exact hQ
    · intro j hj ih hi
      apply g_X6_spellsv2_20
      refine c_length2 ?_
      simp only [gI, n01a, n01b, true_and]
      simp (disch := omega) only [nle, nlt, neq, nz, nzl, nzg, nzp, nzn, nneg, nneg9, nI_add, ncl, vin, br_T, br_F, br_p, br_n, true_and, and_true, Nat.zero_add, rdA, rdN, h3]
      refine c_charAt2 hj ?_
      simp only [gI]
      have hb := cl_2 j hj
      have ht := t3 (s + j) (by omega)
      rw [ht.2, neq (by omega) (by omega)]
      refine b2 (fun y => ih (fun i hij => ?_)) (fun y => ?_)
      · by_cases q : i = j
        · subst q; exact y
        · exact hi i (by omega)
      · rw [bI_f (fun q => y (q.2 j hj))] at hQ
        exact hQ
  · rw [bI_f (fun q => z q.1)] at hQ
    exact hQ
theorem c_X6_readWord {G : GG} {d : Nat} {M : PM} {Q : Option Value → PM → Prop} {T : Nat → Nat} {tl s : Nat} (hT : TXc M T tl) (h3 : M.1 25 3 = nI s) (h4 : M.1 25 4 = nI s) (hs : s ≤ tl) (hQ : ∀ N, FrT M N → N.1 25 3 = nI s → N.1 25 4 = nI (rn T isL (tl - s) s) → N.1 25 5 = nI (wk T s (rn T isL (tl - s) s)) → Q none N) : PC G (d + 6) m_X6_readWord [.ref 25] M Q := by
  obtain ⟨t1, t2, t3⟩ := id hT
  have fin : ∀ (N : PM) (e : Nat), FrT M N → N.1 25 3 = nI s → N.1 25 4 = nI e → s ≤ e → e ≤ tl → e = rn T isL (tl - s) s →
      PC G (d + 5) m_X6_spells [.ref 25, .ref 210] N (fun v N1 => gI v (fun r1 => br (r1 = 0)
      (PC G (d + 5) m_X6_spells [.ref 25, .ref 211] N1 (fun v N2 => gI v (fun r2 => br (r2 = 0)
        (PC G (d + 5) m_X6_spells [.ref 25, .ref 212] N2 (fun v N3 => gI v (fun r3 => br (r3 = 0)
          (Q none (wI N3 25 5 (nI 6)))
          (Q none (wI N3 25 5 (nI 3))))))
        (Q none (wI N2 25 5 (nI 2))))))
      (Q none (wI N1 25 5 (nI 1))))) := by
    intro N e hf n3 n4 h1 h2 he
    have hTN := hf.tx hT
    have out : ∀ k : Nat, wk T s e = k → Q none (wI N 25 5 (nI k)) := fun k hk => by
      subst he
      refine hQ _ (hf.wr (by omega)) ?_ ?_ ?_
      · simp (disch := omega) only [wI_sA, rdA, rdN, rdL, upd_e, upd_n]; exact n3
      · simp (disch := omega) only [wI_sA, rdA, rdN, rdL, upd_e, upd_n]; exact n4
      · simp (disch := omega) only [wI_sA, rdA, rdN, rdL, upd_e, upd_n]; rw [hk]
    refine c_spells0 hTN n3 n4 h1 h2 ?_
    simp only [gI, bI_z]
    refine b2 (fun z1 => c_spells1 hTN n3 n4 h1 h2 ?_) (fun z1 => out 1 (wk_1 (Classical.not_not.mp z1)))
    simp only [gI, bI_z]
    refine b2 (fun z2 => c_spells2 hTN n3 n4 h1 h2 ?_) (fun z2 => out 2 (wk_2 z1 (Classical.not_not.mp z2)))
    simp only [gI, bI_z]
    refine b2 (fun z3 => out 6 (wk_6 z1 z2 z3)) (fun z3 => out 3 (wk_3 z1 z2 (Classical.not_not.mp z3)))
  refine PC.of ok_X6_readWord (Nat.le_of_ble_eq_true rfl) ?_
  have key : ∀ n i, tl - i = n → s ≤ i → i ≤ tl → rn T isL (tl - i) i = rn T isL (tl - s) s → ∀ N, FrT M N → N.1 25 3 = nI s → N.1 25 4 = nI i → PX G (d + 5) m_X6_readWord Q 0 [some (.ref 25)] [] N := by
    intro n
    induction n with
    | zero =>
      intro i hn h1 h2 hr N hf n3 n4
      apply g_X6_readWord_0
      have n2 := (hf.tx hT).1
      simp (disch := omega) only [nle, nlt, neq, nz, nzl, nzg, nzp, nzn, nneg, nneg9, nI_add, ncl, vin, br_T, br_F, br_p, br_n, true_and, and_true, Nat.zero_add, rdA, rdN, n2, n4]
      rw [hn] at hr
      exact fin N i hf n3 n4 h1 h2 hr
    | succ n ih =>
      intro i hn h1 h2 hr N hf n3 n4
      apply g_X6_readWord_0
      have n2 := (hf.tx hT).1
      have nb := (hf.tx hT).2.2 i (by omega)
      simp (disch := omega) only [nle, nlt, neq, nz, nzl, nzg, nzp, nzn, nneg, nneg9, nI_add, ncl, vin, br_T, br_F, br_p, br_n, true_and, and_true, Nat.zero_add, rdA, rdN, n2, n4, nb.2]
      refine c_X6_isLetter nb.1 ?_
      simp only [gI, bI_z]
      rw [hn, rn] at hr
      refine b2 (fun z => ?_) (fun z => ?_)
      · rw [if_neg z] at hr
        exact fin N i hf n3 n4 h1 h2 hr
      · rw [if_pos (Classical.not_not.mp z)] at hr
        simp (disch := omega) only [nle, nlt, neq, nz, nzl, nzg, nzp, nzn, nneg, nneg9, nI_add, ncl, vin, br_T, br_F, br_p, br_n, true_and, and_true, Nat.zero_add, rdA, rdN, n4]
        refine ih (i + 1) (by omega) (by omega) (by omega) (by rw [show tl - (i + 1) = n by omega]; exact hr) _ (hf.wr (by omega)) ?_ ?_
        · simp (disch := omega) only [wI_sA, rdA, rdN, rdL, upd_e, upd_n]; exact n3
        · simp (disch := omega) only [wI_sA, rdA, rdN, rdL, upd_e, upd_n]
  exact key (tl - s) s rfl (Nat.le_refl _) hs rfl M (FrT.refl M) h3 h4
theorem c_X6_readDigits {G : GG} {d : Nat} {M : PM} {Q : Option Value → PM → Prop} {T : Nat → Nat} {tl s : Nat} (hT : TXc M T tl) (h3 : M.1 25 3 = nI s) (h4 : M.1 25 4 = nI s) (hs : s < tl) (hQ : ∀ N, FrT M N → N.1 25 3 = nI s → N.1 25 4 = nI (rn T isD (tl - s) s) → N.1 25 5 = nI (dK T tl s) → N.1 25 6 = nI (tkV T tl s) → Q none N) : PC G (d + 6) m_X6_readDigits [.ref 25] M Q := by
  obtain ⟨t1, t2, t3⟩ := id hT
  have hvl := vd_le T (tl - s) s 0 (by omega)
  have last : ∀ (N : PM) (z : Bool), FrT M N → N.1 25 3 = nI s → N.1 25 4 = nI (rn T isD (tl - s) s) → N.1 25 6 = nI (tkV T tl s) → (z = true ↔ (T s = 48 ∧ 1 < rn T isD (tl - s) s - s)) → PX G (d + 5) m_X6_readDigits Q 105 [some (.ref 25), none] [.int (nI (if z then 1 else 0))] N := by
    intro N z hf n3 n4 n6 hz
    apply g_X6_readDigits_105
    have hvl : tkV T tl s ≤ 100 := hvl
    have out : ∀ k : Nat, dK T tl s = k → Q none (wI N 25 5 (nI k)) := fun k hk => by
      refine hQ _ (hf.wr (by omega)) ?_ ?_ ?_ ?_
      · simp (disch := omega) only [wI_sA, rdA, rdN, rdL, upd_e, upd_n]; exact n3
      · simp (disch := omega) only [wI_sA, rdA, rdN, rdL, upd_e, upd_n]; exact n4
      · simp (disch := omega) only [wI_sA, rdA, rdN, rdL, upd_e, upd_n]; rw [hk]
      · simp (disch := omega) only [wI_sA, rdA, rdN, rdL, upd_e, upd_n]; exact n6
    simp (disch := omega) only [nle, nlt, neq, nz, nzl, nzg, nzp, nzn, nneg, nneg9, nI_add, ncl, vin, br_T, br_F, br_p, br_n, true_and, and_true, Nat.zero_add, rdA, rdN, n6]
    cases z with
    | true =>
      refine b0 (by decide) (out 6 ?_)
      unfold dK; rw [if_pos (Or.inl (hz.mp rfl))]
    | false =>
      have hno : ¬ (T s = 48 ∧ 1 < rn T isD (tl - s) s - s) := fun q => by have := hz.mpr q; cases this
      refine b1 (by decide) (b2 (fun y => out 4 ?_) (fun y => out 6 ?_))
      · unfold dK; rw [if_neg (fun q => q.elim hno (fun q => by omega))]
      · unfold dK; rw [if_pos (Or.inr (by omega))]
  have fin : ∀ (N : PM) (e : Nat), FrT M N → N.1 25 3 = nI s → N.1 25 4 = nI e → s ≤ e → e ≤ tl → e = rn T isD (tl - s) s → N.1 25 6 = nI (tkV T tl s) →
    (vp_in (N.1 25 3) 300 ∧ (br ((N.1 32 ((N.1 25 3).toNatClampNeg)) = (nI 48))
      (br (((N.1 25 4) - (N.1 25 3)) ≤ (nI 1))
        (PX G (d + 5) m_X6_readDigits Q 105 [some (.ref 25), none] [.int (nI 0)] N)
        (PX G (d + 5) m_X6_readDigits Q 105 [some (.ref 25), none] [.int (nI 1)] N))
      (PX G (d + 5) m_X6_readDigits Q 105 [some (.ref 25), none] [.int (nI 0)] N))) := by
    intro N e hf n3 n4 h1 h2 he n6
    have nb := (hf.tx hT).2.2 s hs
    rw [n3, n4, nsub h1]
    simp (disch := omega) only [nle, nlt, neq, nz, nzl, nzg, nzp, nzn, nneg, nneg9, nI_add, ncl, vin, br_T, br_F, br_p, br_n, true_and, and_true, Nat.zero_add, rdA, rdN, nb.2]
    have n4' : N.1 25 4 = nI (rn T isD (tl - s) s) := by rw [n4, he]
    refine b2 (fun z => b2 (fun y => ?_) (fun y => ?_)) (fun z => ?_)
    · exact last N false hf n3 n4' n6 ⟨fun q => (by cases q), fun q => absurd q.2 (by omega)⟩
    · exact last N true hf n3 n4' n6 ⟨fun _ => ⟨z, by omega⟩, fun _ => rfl⟩
    · exact last N false hf n3 n4' n6 ⟨fun q => (by cases q), fun q => absurd q.1 z⟩
  refine PC.of ok_X6_readDigits (Nat.le_of_ble_eq_true rfl) (g_X6_readDigits_0 ?_)
  have key : ∀ n i v, tl - i = n → s ≤ i → i ≤ tl → v ≤ 100 → rn T isD (tl - i) i = rn T isD (tl - s) s → vd T (tl - i) i v = tkV T tl s → ∀ N, FrT M N → N.1 25 3 = nI s → N.1 25 4 = nI i → N.1 25 6 = nI v → PX G (d + 5) m_X6_readDigits Q 5 [some (.ref 25), none] [] N := by
    intro n
    induction n with
    | zero =>
      intro i v hn h1 h2 hv hr hvd N hf n3 n4 n6
      apply g_X6_readDigits_5
      have n2 := (hf.tx hT).1
      rw [n2, br_p (by rw [n4, nle (by omega) (by omega)]; omega)]
      rw [hn] at hr hvd
      exact fin N i hf n3 n4 h1 h2 hr (by rw [n6]; congr 1)
    | succ n ih =>
      intro i v hn h1 h2 hv hr hvd N hf n3 n4 n6
      apply g_X6_readDigits_5
      have n2 := (hf.tx hT).1
      have nb := (hf.tx hT).2.2 i (by omega)
      rw [n2, br_n (by rw [n4, nle (by omega) (by omega)]; omega)]
      refine ⟨by rw [n4, vin (by omega) (by omega)]; trivial, ?_⟩
      rw [n4, ncl (by omega), nb.2]
      refine c_X6_isDigit nb.1 ?_
      simp only [gI, bI_z]
      rw [hn, rn] at hr
      rw [hn, vd] at hvd
      refine b2 (fun z => ?_) (fun z => ?_)
      · rw [if_neg z] at hr hvd
        exact fin N i hf n3 n4 h1 h2 hr (by rw [n6, hvd])
      · have z := Classical.not_not.mp z
        rw [if_pos z] at hr hvd
        unfold isD at z
        rw [decide_eq_true_eq] at z
        simp (disch := omega) only [nle, nlt, neq, nz, nzl, nzg, nzp, nzn, nneg, nneg9, nI_add, ncl, vin, br_T, br_F, br_p, br_n, true_and, and_true, Nat.zero_add, rdA, rdN, n4, nb.2, n6]
        have ev : (if (nI 10 * nI v + nI (T i)) - nI 48 < nI 100 then (nI 10 * nI v + nI (T i)) - nI 48 else nI 100) = nI (min 100 (10 * v + (T i - 48))) := by
          rw [pk_mul, nI_add, nsub (by omega), show 10 * v + T i - 48 = 10 * v + (T i - 48) by omega]
          by_cases q : 10 * v + (T i - 48) < 100
          · rw [if_pos (by rw [nlt (by omega) (by omega)]; exact q), Nat.min_eq_right (by omega)]
          · rw [if_neg (by rw [nlt (by omega) (by omega)]; exact q), Nat.min_eq_left (by omega)]
        rw [ev]
        refine ih (i + 1) _ (by omega) (by omega) (by omega) (Nat.min_le_left _ _) (by rw [show tl - (i + 1) = n by omega]; exact hr) (by rw [show tl - (i + 1) = n by omega]; exact hvd) _ ((hf.wr (by omega)).wr (by omega)) ?_ ?_ ?_
        · simp (disch := omega) only [wI_sA, rdA, rdN, rdL, upd_e, upd_n]; exact n3
        · simp (disch := omega) only [wI_sA, rdA, rdN, rdL, upd_e, upd_n]
        · simp (disch := omega) only [wI_sA, rdA, rdN, rdL, upd_e, upd_n]
  refine key (tl - s) s 0 rfl (Nat.le_refl _) (by omega) (by omega) rfl rfl _ ((FrT.refl M).wr (by omega)) ?_ ?_ ?_
  · simp (disch := omega) only [wI_sA, rdA, rdN, rdL, upd_e, upd_n]; exact h3
  · simp (disch := omega) only [wI_sA, rdA, rdN, rdL, upd_e, upd_n]; exact h4
  · simp (disch := omega) only [wI_sA, rdA, rdN, rdL, upd_e, upd_n]
theorem c_X6_readToken {G : GG} {d : Nat} {M : PM} {Q : Option Value → PM → Prop} {T : Nat → Nat} {tl i : Nat} (hT : TXc M T tl) (h4 : M.1 25 4 = nI i) (hi : i ≤ tl) (hQ : ∀ N, FrT M N → TokC N T tl (tkS T tl i) → Q none N) : PC G (d + 7) m_X6_readToken [.ref 25] M Q := by
  obtain ⟨t1, t2, t3⟩ := id hT
  refine PC.of ok_X6_readToken (Nat.le_of_ble_eq_true rfl) ?_
  -- the token itself
  have tok : ∀ (N : PM) (s : Nat), FrT M N → N.1 25 4 = nI s → s < tl → tkS T tl i = s → 
      (vp_in (N.1 25 4) 300 ∧ (PC G (d + 6) m_X6_isLetter [.int (N.1 32 ((N.1 25 4).toNatClampNeg))] (wI N 25 3 (N.1 25 4)) (fun v N1 => gI v (fun r1 => br (r1 = 0)
        (PC G (d + 6) m_X6_isDigit [.int (N.1 32 ((N.1 25 4).toNatClampNeg))] N1 (fun v N2 => gI v (fun r2 => br (r2 = 0)
          (br ((N.1 32 ((N.1 25 4).toNatClampNeg)) = (nI 59))
            (Q none (wI (wI N2 25 4 ((N2.1 25 4) + (nI 1))) 25 5 (nI 5)))
            (Q none (wI (wI N2 25 4 ((N2.1 25 4) + (nI 1))) 25 5 (nI 6))))
          (PC G (d + 6) m_X6_readDigits [.ref 25] N2 (fun v N3 => gN v (Q none N3))))))
        (PC G (d + 6) m_X6_readWord [.ref 25] N1 (fun v N4 => gN v (Q none N4))))))) := by
    intro N s hf n4 hs es
    have nb := (hf.tx hT).2.2 s hs
    simp (disch := omega) only [nle, nlt, neq, nz, nzl, nzg, nzp, nzn, nneg, nneg9, nI_add, ncl, vin, br_T, br_F, br_p, br_n, true_and, and_true, Nat.zero_add, rdA, rdN, n4, nb.2]
    have hf2 : FrT M (wI N 25 3 (nI s)) := hf.wr (by omega)
    have n3' : (wI N 25 3 (nI s)).1 25 3 = nI s := by simp (disch := omega) only [wI_sA, rdA, rdN, rdL, upd_e, upd_n]
    have n4' : (wI N 25 3 (nI s)).1 25 4 = nI s := by simp (disch := omega) only [wI_sA, rdA, rdN, rdL, upd_e, upd_n]; exact n4
    generalize wI N 25 3 (nI s) = N2 at hf2 n3' n4' ⊢
    refine c_X6_isLetter nb.1 ?_
    simp only [gI, bI_z]
    refine b2 (fun z1 => c_X6_isDigit nb.1 ?_) (fun z1 => ?_)
    · simp only [gI, bI_z]
      refine b2 (fun z2 => ?_) (fun z2 => ?_)
      · simp (disch := omega) only [nle, nlt, neq, nz, nzl, nzg, nzp, nzn, nneg, nneg9, nI_add, ncl, vin, br_T, br_F, br_p, br_n, true_and, and_true, Nat.zero_add, rdA, rdN, n4']
        have out : ∀ k : Nat, (if T s = 59 then 5 else 6) = k → Q none (wI (wI N2 25 4 (nI (s + 1))) 25 5 (nI k)) := fun k hk => by
          have ek : tkK T tl s = k := by unfold tkK; rw [if_pos hs, if_neg z1, if_neg z2]; exact hk
          refine hQ _ ((hf2.wr (by omega)).wr (by omega)) ?_
          rw [es]
          refine ⟨?_, ?_, ?_, fun q => ?_⟩
          · simp (disch := omega) only [wI_sA, rdA, rdN, rdL, upd_e, upd_n]; exact n3'
          · simp (disch := omega) only [wI_sA, rdA, rdN, rdL, upd_e, upd_n]; unfold tkE; rw [if_pos hs, if_neg z1, if_neg z2]
          · simp (disch := omega) only [wI_sA, rdA, rdN, rdL, upd_e, upd_n]; rw [ek]
          · exfalso; rw [ek] at q; subst q; revert hk; split <;> omega
        refine b2 (fun z3 => out 5 (by rw [if_pos z3])) (fun z3 => out 6 (by rw [if_neg z3]))
      · have z2 := Classical.not_not.mp z2
        refine c_X6_readDigits (hf2.tx hT) n3' n4' hs (fun N3 hf3 m3 m4 m5 m6 => ?_)
        simp only [gN]
        refine hQ _ (hf2.trans hf3) ?_
        rw [es]
        refine ⟨m3, ?_, ?_, fun _ => m6⟩
        · rw [m4]; unfold tkE; rw [if_pos hs, if_neg z1, if_pos z2]
        · rw [m5]; unfold tkK; rw [if_pos hs, if_neg z1, if_pos z2]
    · have z1 := Classical.not_not.mp z1
      refine c_X6_readWord (hf2.tx hT) n3' n4' (by omega) (fun N3 hf3 m3 m4 m5 => ?_)
      simp only [gN]
      refine hQ _ (hf2.trans hf3) ?_
      rw [es]
      have ek : tkK T tl s = wk T s (rn T isL (tl - s) s) := by unfold tkK; rw [if_pos hs, if_pos z1]
      refine ⟨m3, ?_, ?_, fun q => ?_⟩
      · rw [m4]; unfold tkE; rw [if_pos hs, if_pos z1]
      · rw [m5, ek]
      · exfalso
        rw [ek] at q
        unfold wk at q
        revert q
        split
        · omega
        · split
          · omega
          · split <;> omega
  have key : ∀ n j, tl - j = n → j ≤ tl → tkS T tl i = tkS T tl j → ∀ N, FrT M N → N.1 25 4 = nI j → PX G (d + 6) m_X6_readToken Q 0 [some (.ref 25), none] [] N := by
    intro n
    induction n with
    | zero =>
      intro j hn hj es N hf n4
      apply g_X6_readToken_0
      have n2 := (hf.tx hT).1
      have ej : j = tl := by omega
      rw [n2, n4, br_p (by rw [nle (by omega) (by omega)]; omega), br_n (by rw [nlt (by omega) (by omega)]; omega)]
      rw [tkS_stop (i := j) (by omega)] at es
      refine hQ _ ((hf.wr (by omega)).wr (by omega)) ?_
      have ek : tkK T tl j = 0 := by unfold tkK; rw [if_neg (by omega)]
      rw [es]
      refine ⟨?_, ?_, ?_, fun q => by rw [ek] at q; cases q⟩
      · simp (disch := omega) only [wI_sA, rdA, rdN, rdL, upd_e, upd_n]
      · simp (disch := omega) only [wI_sA, rdA, rdN, rdL, upd_e, upd_n]; unfold tkE; rw [if_neg (by omega)]; exact n4
      · simp (disch := omega) only [wI_sA, rdA, rdN, rdL, upd_e, upd_n]; rw [ek]
    | succ n ih =>
      intro j hn hj es N hf n4
      apply g_X6_readToken_0
      have n2 := (hf.tx hT).1
      have nb := (hf.tx hT).2.2 j (by omega)
      rw [n2, br_n (by rw [n4, nle (by omega) (by omega)]; omega)]
      refine ⟨by rw [n4, vin (by omega) (by omega)]; trivial, b2 (fun z => ?_) (fun z => ?_)⟩
      · rw [n4, ncl (by omega), nb.2, neq (by omega) (by omega)] at z
        rw [n4, nI_add]
        refine ih (j + 1) (by omega) (by omega) (by rw [es, tkS_blank (by omega) z]) _ (hf.wr (by omega)) ?_
        simp (disch := omega) only [wI_sA, rdA, rdN, rdL, upd_e, upd_n]
      · refine b1 (by rw [n4, nlt (by omega) (by omega)]; omega) ?_
        rw [n4, ncl (by omega), nb.2, neq (by omega) (by omega)] at z
        rw [tkS_stop (i := j) (fun _ => z)] at es
        exact tok N j hf n4 (by omega) es
  exact key (tl - i) i rfl hi rfl M (FrT.refl M) h4
