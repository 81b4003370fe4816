/-! the text: all items, the class -/
section RA
variable {T : Nat → Nat} {tl : Nat}
theorem c_X6_readAll {G : GG} {d : Nat} {M : PM} {Q : Option Value → PM → Prop} {F : Nat → Prop} {K : PSt → Prop} (hT : TXc M T tl) (hPA : PA T tl 17 ([], [], []) (tkS T tl 0) F K) (hF : ∀ N f, FrD M N → N.1 25 3 = nI f → F f → Q (some (.int (-1))) N) (hK : ∀ N a, FrD M N → DRm N a → wfP a → K a → Q (some (.int (nI (tot a)))) N) : PC G (d + 10) m_X6_readAll [.ref 25] M Q := by
  have key : ∀ n a i N, FrD M N → DRm N a → N.1 25 4 = nI i → i ≤ tl → PA T tl n a (tkS T tl i) F K → PX G (d + 9) m_X6_readAll Q 14 [some (.ref 25), some (.int (nI (tot a))), none] [] N := by
    intro n
    induction n with
    | zero => intro a i N _ _ _ _ h; exact absurd h id
    | succ n ih =>
      intro a i N hf hD h4 hi hPA
      obtain ⟨⟨hn, hw⟩, h0, h1⟩ := hPA
      obtain ⟨w1, w2, w3, -⟩ := id hw
      have bs := tkS_b T hi
      have hK6 := tkK_le (T := T) (tl := tl) (s := tkS T tl i)
      apply g_X6_readAll_14
      have ht := tkS_b T hi
      simp (disch := omega) only [nle, nlt, neq, nz, nzl, nzg, nzp, nzn, nneg, nneg9, nI_add, ncl, vin, br_T, br_F, br_p, br_n, true_and, and_true, Nat.zero_add, rdA, rdN]
      refine c_X6_readToken (hf.tx hT) h4 hi (fun N1 f1 k1 => ?_)
      simp only [gN]
      have g1 := hf.trans f1.d
      have D1 := hD.t f1
      rw [k1.2.2.1, nz (by omega), neq (by omega) (by omega), neq (by omega) (by omega), neq (by omega) (by omega)]
      have hFF : ∀ N f, FrD M N → N.1 25 3 = nI f → F f → Q (some (.int (-1))) N := hF
      refine b2 (fun z => hK N1 a g1 D1 hw (h0 z)) (fun z => ?_)
      have h1 := h1 z
      refine b2 (fun y => ?_) (fun y => b2 (fun x => ?_) (fun x => b2 (fun w => ?_) (fun w => ?_)))
      · refine c_X6_readPlank (K := fun a' s' => PA T tl n a' s' F K) w1 hT g1 D1 k1 ht.2 (h1.1 y) (fun N2 f hf2 h3 hff => ?_) (fun N2 a' j hf2 hD2 hj hjl hk => ?_)
        · simp only [gI]
          exact b1 rfl (hF N2 f hf2 h3 hff)
        · simp only [gI]
          refine b0 (by decide) ?_
          cases n with
          | zero => exact absurd hk id
          | succ n =>
            have e : tot a + 1 = tot a' := by have := hk.1.1; omega
            rw [e]
            exact ih a' j N2 hf2 hD2 hj hjl hk
      · refine c_X6_readChild (K := fun a' s' => PA T tl n a' s' F K) w2 hT g1 D1 k1 ht.2 (h1.2.1 x) (fun N2 f hf2 h3 hff => ?_) (fun N2 a' j hf2 hD2 hj hjl hk => ?_)
        · simp only [gI]
          exact b1 rfl (hF N2 f hf2 h3 hff)
        · simp only [gI]
          refine b0 (by decide) ?_
          cases n with
          | zero => exact absurd hk id
          | succ n =>
            have e : tot a + 1 = tot a' := by have := hk.1.1; omega
            rw [e]
            exact ih a' j N2 hf2 hD2 hj hjl hk
      · refine c_X6_readStone (K := fun a' s' => PA T tl n a' s' F K) w3 hT g1 D1 k1 ht.2 (h1.2.2.1 w) (fun N2 f hf2 h3 hff => ?_) (fun N2 a' j hf2 hD2 hj hjl hk => ?_)
        · simp only [gI]
          exact b1 rfl (hF N2 f hf2 h3 hff)
        · simp only [gI]
          refine b0 (by decide) ?_
          cases n with
          | zero => exact absurd hk id
          | succ n =>
            have e : tot a + 1 = tot a' := by have := hk.1.1; omega
            rw [e]
            exact ih a' j N2 hf2 hD2 hj hjl hk
      · exact hF N1 _ g1 k1.1 (h1.2.2.2 (by omega))
  refine PC.of ok_X6_readAll (Nat.le_of_ble_eq_true rfl) (g_X6_readAll_0 (PC.of ok_X3_forget (Nat.le_of_ble_eq_true rfl) (g_X3_forget_0 ?_)))
  simp only [gN]
  have f0 : FrD M (wI (wI (wI M 26 5 (nI 0)) 26 6 (nI 0)) 26 7 (nI 0)) := ((((FrD.refl M).wr (by omega)).wr (by omega)).wr (by omega))
  refine key 17 ([], [], []) 0 _ (f0.trans ((FrT.refl _).wr (by omega)).d) ⟨?_, ?_, ?_, fun i hi => absurd hi (by simp), fun i hi => absurd hi (by simp), fun i hi => absurd hi (by simp)⟩ ?_ (Nat.zero_le _) hPA
  · simp (disch := omega) only [wI_sA, rdA, rdN, rdL, upd_e, upd_n]; rfl
  · simp (disch := omega) only [wI_sA, rdA, rdN, rdL, upd_e, upd_n]; rfl
  · simp (disch := omega) only [wI_sA, rdA, rdN, rdL, upd_e, upd_n]; rfl
  · simp (disch := omega) only [wI_sA, rdA, rdN, rdL, upd_e, upd_n]
end RA
theorem c_X4_reset {G : GG} {d : Nat} {M : PM} {Q : Option Value → PM → Prop} (hQ : ∀ N, (∀ q, ¬ (8 ≤ q ∧ q ≤ 12) → N.1 q = M.1 q) → N.2 = M.2 → (∀ c, c < 8 → N.1 8 c = nI 0 ∧ N.1 9 c = nI 0 ∧ N.1 10 c = nI 0) → (∀ c, c < 5 → N.1 11 c = nI 0 ∧ N.1 12 c = nI 0) → Q none N) : PC G (d + 1) m_X4_reset [.ref 7] M Q := by
  refine PC.of ok_X4_reset (Nat.le_of_ble_eq_true rfl) (g_X4_reset_0 ?_)
  have l2 : ∀ N, (∀ q, ¬ (8 ≤ q ∧ q ≤ 12) → N.1 q = M.1 q) → N.2 = M.2 → (∀ c, c < 8 → N.1 8 c = nI 0 ∧ N.1 9 c = nI 0 ∧ N.1 10 c = nI 0) → PX G d m_X4_reset Q 37 [some (.ref 7), some (.int (nI 0))] [] N := by
    intro N n1 n2 n3
    refine up_ind (n := 5) (P := fun k => ∀ N : PM, (∀ q, ¬ (8 ≤ q ∧ q ≤ 12) → N.1 q = M.1 q) → N.2 = M.2 → (∀ c, c < 8 → N.1 8 c = nI 0 ∧ N.1 9 c = nI 0 ∧ N.1 10 c = nI 0) → (∀ c, c < k → N.1 11 c = nI 0 ∧ N.1 12 c = nI 0) → PX G d m_X4_reset Q 37 [some (.ref 7), some (.int (nI k))] [] N) ?_ ?_ 0 (Nat.zero_le _) N n1 n2 n3 (fun c hc => absurd hc (by omega))
    · intro N n1 n2 n3 n4
      apply g_X4_reset_37
      simp (disch := omega) only [nle, nlt, neq, nz, nzl, nzg, nzp, nzn, nneg, nneg9, nI_add, ncl, vin, br_T, br_F, br_p, br_n, true_and, and_true, Nat.zero_add, rdA, rdN]
      exact hQ N n1 n2 n3 n4
    · intro k hk ih N n1 n2 n3 n4
      apply g_X4_reset_37
      simp (disch := omega) only [nle, nlt, neq, nz, nzl, nzg, nzp, nzn, nneg, nneg9, nI_add, ncl, vin, br_T, br_F, br_p, br_n, true_and, and_true, Nat.zero_add, rdA, rdN]
      refine ih _ (fun q hq => ?_) n2 (fun c hc => ?_) (fun c hc => ?_)
      · simp (disch := omega) only [wI_sA, rdA, rdN, rdL, upd_e, upd_n]; exact n1 q hq
      · simp (disch := omega) only [wI_sA, rdA, rdN, rdL, upd_e, upd_n]; exact n3 c hc
      · by_cases e : c = k
        · subst e; simp (disch := omega) only [wI_sA, rdA, rdN, rdL, upd_e, upd_n]
          exact ⟨trivial, trivial⟩
        · simp (disch := omega) only [wI_sA, rdA, rdN, rdL, upd_e, upd_n]; exact n4 c (by omega)
  refine up_ind (n := 8) (P := fun k => ∀ N : PM, (∀ q, ¬ (8 ≤ q ∧ q ≤ 12) → N.1 q = M.1 q) → N.2 = M.2 → (∀ c, c < k → N.1 8 c = nI 0 ∧ N.1 9 c = nI 0 ∧ N.1 10 c = nI 0) → PX G d m_X4_reset Q 2 [some (.ref 7), some (.int (nI k))] [] N) ?_ ?_ 0 (Nat.zero_le _) M (fun _ _ => rfl) rfl (fun c hc => absurd hc (by omega))
  · intro N n1 n2 n3
    apply g_X4_reset_2
    simp (disch := omega) only [nle, nlt, neq, nz, nzl, nzg, nzp, nzn, nneg, nneg9, nI_add, ncl, vin, br_T, br_F, br_p, br_n, true_and, and_true, Nat.zero_add, rdA, rdN]
    exact l2 N n1 n2 n3
  · intro k hk ih N n1 n2 n3
    apply g_X4_reset_2
    simp (disch := omega) only [nle, nlt, neq, nz, nzl, nzg, nzp, nzn, nneg, nneg9, nI_add, ncl, vin, br_T, br_F, br_p, br_n, true_and, and_true, Nat.zero_add, rdA, rdN]
    refine ih _ (fun q hq => ?_) n2 (fun c hc => ?_)
    · simp (disch := omega) only [wI_sA, rdA, rdN, rdL, upd_e, upd_n]; exact n1 q hq
    · by_cases e : c = k
      · subst e; simp (disch := omega) only [wI_sA, rdA, rdN, rdL, upd_e, upd_n]
        exact ⟨trivial, trivial, trivial⟩
      · simp (disch := omega) only [wI_sA, rdA, rdN, rdL, upd_e, upd_n]; exact n3 c (by omega)
