/-! the text: tokens, the reference, on -/
theorem c_X9_adv_dig {G : GG} {d : Nat} {M : PM} {Q : Option Value → PM → Prop} {T : Nat → Nat} {tl s : Nat} (hT : TXr M T tl) (h6 : M.1 56 6 = nI s) (h4 : M.1 56 4 = nI s) (h7 : M.1 56 7 = nI 0) (hs : s < tl) (hL : ¬ isL (T s) = true) (hD : isD (T s) = true) (hQ : ∀ N, FrA M N → TokR N T tl s → Q none N) : PX G (d + 3) m_X9_advances Q 175 [some (.ref 56), some (.int (nI (T s))), none, none] [] M := by
  obtain ⟨t1, t2, t3⟩ := id hT
  have hT256 := (t3 s hs).1
  have fin : ∀ (N : PM) (i r : Nat), s ≤ i → i ≤ tl → r ≤ 999 → i = rn T isD (tl - s) s → tkV T tl s = min 100 r → FrA M N → N.1 56 6 = nI s → N.1 56 4 = nI i → N.1 56 7 = nI r →
      br ((nI 99) < (N.1 56 7))
      (Q none (wI N 56 5 (nI 4)))
      (br (nI (T s) = (nI 48))
        (br (((N.1 56 4) - (N.1 56 6)) ≤ (nI 1))
          (Q none (wI N 56 5 (nI 2)))
          (Q none (wI N 56 5 (nI 4))))
        (Q none (wI N 56 5 (nI 2)))) := by
    intro N i r h1 h2 hr er ev hf n6 n4 n7
    have ee : tkE T tl s = i := by unfold tkE; rw [if_pos hs, if_neg hL, if_pos hD, er]
    have ek : tkK T tl s = dK T tl s := by unfold tkK; rw [if_pos hs, if_neg hL, if_pos hD]
    have no : dK T tl s = 6 → Q none (wI N 56 5 (nI 4)) := fun h => by
      refine hQ _ (hf.wr (by omega)) ⟨?_, ?_, ?_, fun _ q => ?_, fun q => ?_⟩
      · simp (disch := omega) only [wI_sA, rdA, rdN, rdL, upd_e, upd_n]; exact n6
      · simp (disch := omega) only [wI_sA, rdA, rdN, rdL, upd_e, upd_n]; rw [ee]; exact n4
      · simp (disch := omega) only [wI_sA, rdA, rdN, rdL, upd_e, upd_n]; rw [ek, h]; rfl
      · rw [ek, h] at q; omega
      · rw [ek, h] at q; omega
    have yes : dK T tl s = 4 → r ≤ 99 → Q none (wI N 56 5 (nI 2)) := fun h h99 => by
      refine hQ _ (hf.wr (by omega)) ⟨?_, ?_, ?_, fun _ q => ?_, fun q => ?_⟩
      · simp (disch := omega) only [wI_sA, rdA, rdN, rdL, upd_e, upd_n]; exact n6
      · simp (disch := omega) only [wI_sA, rdA, rdN, rdL, upd_e, upd_n]; rw [ee]; exact n4
      · simp (disch := omega) only [wI_sA, rdA, rdN, rdL, upd_e, upd_n]; rw [ek, h]; rfl
      · rw [ek, h] at q; omega
      · simp (disch := omega) only [wI_sA, rdA, rdN, rdL, upd_e, upd_n]; rw [ev, Nat.min_eq_right (by omega)]; exact n7
    rw [n7, n4, n6, nsub h1, nlt (by omega) (by omega), neq (by omega) (by omega), nle (by omega) (by omega)]
    have hd : dK T tl s = if (T s = 48 ∧ 1 < i - s) ∨ 99 < min 100 r then 6 else 4 := by unfold dK; rw [ev, er]
    refine b2 (fun z => no ?_) (fun z => b2 (fun y => b2 (fun x => yes ?_ (by omega)) (fun x => no ?_)) (fun y => yes ?_ (by omega)))
    · rw [hd, if_pos (Or.inr (by omega))]
    · rw [hd, if_neg (by omega)]
    · rw [hd, if_pos (Or.inl (by omega))]
    · rw [hd, if_neg (by omega)]
  have key : ∀ n i r, tl - i = n → s ≤ i → i ≤ tl → r ≤ 999 → rn T isD (tl - i) i = rn T isD (tl - s) s → vd T (tl - i) i (min 100 r) = tkV T tl s → ∀ N, FrA M N → N.1 56 6 = nI s → N.1 56 4 = nI i → N.1 56 7 = nI r → PX G (d + 3) m_X9_advances Q 175 [some (.ref 56), some (.int (nI (T s))), none, none] [] N := by
    intro n
    induction n with
    | zero =>
      intro i r hn h1 h2 hr9 hr hvd N hf n6 n4 n7
      apply g_X9_advances_175
      have hTN := hf.tx hT
      rw [n4]
      refine c_X9_byteAt hTN (by omega) ?_
      simp only [gI]
      refine c_X9_in ?_
      simp only [gI, bI_z]
      rw [in_bt (by omega) (by omega) (fun q => (t3 i q).1)]
      refine b1 (fun q => absurd q.1 (by omega)) ?_
      rw [hn] at hr hvd
      exact fin N i r h1 h2 hr9 hr hvd.symm hf n6 n4 n7
    | succ n ih =>
      intro i r hn h1 h2 hr9 hr hvd N hf n6 n4 n7
      apply g_X9_advances_175
      have hTN := hf.tx hT
      rw [n4]
      refine c_X9_byteAt hTN (by omega) ?_
      simp only [gI]
      refine c_X9_in ?_
      simp only [gI, bI_z]
      rw [in_bt (by omega) (by omega) (fun q => (t3 i q).1)]
      rw [hn, rn] at hr
      rw [hn, vd] at hvd
      have hil : i < tl := by omega
      refine b2 (fun z => ?_) (fun z => ?_)
      · have hno : ¬ isD (T i) = true := by unfold isD; rw [decide_eq_true_eq]; exact fun q => z ⟨hil, q⟩
        rw [if_neg hno] at hr hvd
        exact fin N i r h1 h2 hr9 hr hvd.symm hf n6 n4 n7
      · have z := Classical.not_not.mp z
        have hyes : isD (T i) = true := by unfold isD; rw [decide_eq_true_eq]; exact z.2
        rw [if_pos hyes] at hr hvd
        have go : ∀ r', r' ≤ 999 → min 100 r' = min 100 (10 * min 100 r + (T i - 48)) → PX G (d + 3) m_X9_advances Q 175 [some (.ref 56), some (.int (nI (T s))), none, none] [] (wI (wI N 56 7 (nI r')) 56 4 (nI (i + 1))) := fun r' hr' he =>
          ih (i + 1) r' (by omega) (by omega) (by omega) hr' (by rw [show tl - (i + 1) = n by omega]; exact hr) (by rw [show tl - (i + 1) = n by omega, he]; exact hvd) _ ((hf.wr (by omega)).wr (by omega)) (by simp (disch := omega) only [wI_sA, rdA, rdN, rdL, upd_e, upd_n]; exact n6) (by simp (disch := omega) only [wI_sA, rdA, rdN, rdL, upd_e, upd_n]) (by simp (disch := omega) only [wI_sA, rdA, rdN, rdL, upd_e, upd_n])
        rw [n7, nle (by omega) (by omega)]
        refine b2 (fun y => ?_) (fun y => ?_)
        · rw [n4]
          refine c_X9_byteAt hTN (by omega) ?_
          simp only [gI]
          have eb : btI T tl i = nI (T i) := by unfold btI; rw [if_pos hil]
          rw [eb, pk_mul, nI_add, nsub (by omega), n4, nI_add]
          exact go _ (by omega) (by omega)
        · rw [n4, nI_add]
          exact go r hr9 (by omega)
  exact key (tl - s) s 0 rfl (Nat.le_refl _) (by omega) (by omega) rfl rfl M (FrA.refl M) h6 h4 h7
theorem c_X9_advances {G : GG} {d : Nat} {M : PM} {Q : Option Value → PM → Prop} {T : Nat → Nat} {tl i : Nat} (hT : TXr M T tl) (h4 : M.1 56 4 = nI i) (hi : i ≤ tl) (hQ : ∀ N, FrA M N → TokR N T tl (tkS T tl i) → Q none N) : PC G (d + 4) m_X9_advances [.ref 56] M Q := by
  obtain ⟨t1, t2, t3⟩ := id hT
  refine PC.of ok_X9_advances (Nat.le_of_ble_eq_true rfl) ?_
  have key : ∀ n j, tl - j = n → j ≤ tl → tkS T tl i = tkS T tl j → ∀ N, FrA M N → N.1 56 4 = nI j → PX G (d + 3) m_X9_advances Q 0 [some (.ref 56), none, none, none] [] N := by
    intro n
    induction n with
    | zero =>
      intro j hn hj es N hf n4
      apply g_X9_advances_0
      have hTN := hf.tx hT
      rw [n4]
      refine c_X9_byteAt hTN (by omega) ?_
      simp only [gI]
      have eb : btI T tl j = -1 := by unfold btI; rw [if_neg (by omega)]
      rw [eb]
      refine b0 (by decide) ?_
      rw [n4]
      refine c_X9_byteAt ((hf.wr (by omega)).tx hT) (by omega) ?_
      simp only [gI]
      rw [eb]
      refine b0 (by decide) ?_
      rw [tkS_stop (i := j) (by omega)] at es
      have ek : tkK T tl j = 0 := by unfold tkK; rw [if_neg (by omega)]
      refine hQ _ ((hf.wr (by omega)).wr (by omega)) ?_
      rw [es]
      refine ⟨?_, ?_, ?_, fun q => ?_, fun q => ?_⟩
      · simp (disch := omega) only [wI_sA, rdA, rdN, rdL, upd_e, upd_n]
      · simp (disch := omega) only [wI_sA, rdA, rdN, rdL, upd_e, upd_n]; unfold tkE; rw [if_neg (by omega)]; exact n4
      · simp (disch := omega) only [wI_sA, rdA, rdN, rdL, upd_e, upd_n]; rw [ek]; rfl
      · rw [ek] at q; omega
      · rw [ek] at q; omega
    | succ n ih =>
      intro j hn hj es N hf n4
      apply g_X9_advances_0
      have hTN := hf.tx hT
      have hjl : j < tl := by omega
      have hb := (t3 j hjl).1
      have eb : btI T tl j = nI (T j) := by unfold btI; rw [if_pos hjl]
      rw [n4]
      refine c_X9_byteAt hTN (by omega) ?_
      simp only [gI]
      rw [eb, neq (by omega) (by omega), n4, nI_add]
      refine b2 (fun z => ?_) (fun z => ?_)
      · exact ih (j + 1) (by omega) (by omega) (by rw [es, tkS_blank hjl z]) _ (hf.wr (by omega)) (by simp (disch := omega) only [wI_sA, rdA, rdN, rdL, upd_e, upd_n])
      have hf2 : FrA M (wI N 56 6 (nI j)) := hf.wr (by omega)
      have n6' : (wI N 56 6 (nI j)).1 56 6 = nI j := by simp (disch := omega) only [wI_sA, rdA, rdN, rdL, upd_e, upd_n]
      have n4' : (wI N 56 6 (nI j)).1 56 4 = nI j := by simp (disch := omega) only [wI_sA, rdA, rdN, rdL, upd_e, upd_n]; exact n4
      generalize wI N 56 6 (nI j) = N2 at hf2 n6' n4' ⊢
      refine c_X9_byteAt (hf2.tx hT) (by omega) ?_
      simp only [gI]
      rw [tkS_stop (i := j) (fun _ => z)] at es
      rw [es] at hQ
      refine b1 (by rw [eb, nzg (by omega)]; trivial) (c_X9_in ?_)
      simp only [gI, bI_z]
      rw [in_bt (by omega) (by omega) (fun q => (t3 j q).1)]
      refine b2 (fun y => c_X9_in ?_) (fun y => ?_)
      · have hL : ¬ isL (T j) = true := by unfold isL; rw [decide_eq_true_eq]; exact fun q => y ⟨hjl, q⟩
        simp only [gI, bI_z]
        rw [in_bt (by omega) (by omega) (fun q => (t3 j q).1)]
        refine b2 (fun x => ?_) (fun x => ?_)
        · have hD : ¬ isD (T j) = true := by unfold isD; rw [decide_eq_true_eq]; exact fun q => x ⟨hjl, q⟩
          rw [eb, neq (by omega) (by omega), n4', nI_add]
          have out : ∀ k : Nat, (if T j = 59 then 5 else 6) = k → Q none (wI (wI N2 56 4 (nI (j + 1))) 56 5 (nI (rkN k))) := fun k hk => by
            have ek : tkK T tl j = k := by unfold tkK; rw [if_pos hjl, if_neg hL, if_neg hD]; exact hk
            have hk2 : 5 ≤ k := by revert hk; split <;> omega
            refine hQ _ ((hf2.wr (by omega)).wr (by omega)) ⟨?_, ?_, ?_, fun _ q => ?_, fun q => ?_⟩
            · simp (disch := omega) only [wI_sA, rdA, rdN, rdL, upd_e, upd_n]; exact n6'
            · simp (disch := omega) only [wI_sA, rdA, rdN, rdL, upd_e, upd_n]; unfold tkE; rw [if_pos hjl, if_neg hL, if_neg hD]
            · simp (disch := omega) only [wI_sA, rdA, rdN, rdL, upd_e, upd_n]; rw [ek]
            · rw [ek] at q; omega
            · rw [ek] at q; omega
          refine b2 (fun w => ?_) (fun w => ?_)
          · exact out 5 (by rw [if_pos w])
          · exact out 6 (by rw [if_neg w])
        · have x := Classical.not_not.mp x
          have hD : isD (T j) = true := by unfold isD; rw [decide_eq_true_eq]; exact x.2
          rw [eb]
          exact c_X9_adv_dig ((hf2.wr (k := 7) (by omega)).tx hT) (by simp (disch := omega) only [wI_sA, rdA, rdN, rdL, upd_e, upd_n]; exact n6') (by simp (disch := omega) only [wI_sA, rdA, rdN, rdL, upd_e, upd_n]; exact n4') (by simp (disch := omega) only [wI_sA, rdA, rdN, rdL, upd_e, upd_n]) hjl hL hD (fun N3 hf3 h3 => hQ N3 ((hf2.wr (by omega)).trans hf3) h3)
      · have y := Classical.not_not.mp y
        have hL : isL (T j) = true := by unfold isL; rw [decide_eq_true_eq]; exact y.2
        exact c_X9_adv_word (hf2.tx hT) n6' n4' hjl hL (fun N3 hf3 h3 => hQ N3 (hf2.trans hf3) h3)
  exact key (tl - i) i rfl hi rfl M (FrA.refl M) h4
