/-! park, the reference -/
theorem rk_0 {k : Nat} (hk : k ≤ 6) : (nI (rkN k) = 0) = (k = 0) := by
  rw [nz (by unfold rkN; split; omega; split <;> omega)]
  unfold rkN
  apply propext
  split
  · omega
  · split <;> omega
theorem rk_1 {k : Nat} (hk : k ≤ 6) : (nI (rkN k) = nI 1) = (1 ≤ k ∧ k ≤ 3) := by
  rw [neq (by unfold rkN; split; omega; split <;> omega) (by omega)]
  unfold rkN
  apply propext
  split
  · omega
  · split <;> omega
theorem rk_3 {k : Nat} (hk : k ≤ 6) : (nI (rkN k) = nI 3) = (k = 5) := by
  rw [neq (by unfold rkN; split; omega; split <;> omega) (by omega)]
  unfold rkN
  apply propext
  split
  · omega
  · split <;> omega
section PL
variable {T : Nat → Nat} {tl : Nat}
theorem c_X9_park_loop {G : GG} {d : Nat} {M0 : PM} {Q : Option Value → PM → Prop} {F : Nat → Prop} {K : PSt → Prop} (htl : tl ≤ 300) (hT : TXr M0 T tl) (hF : ∀ N f, FrP M0 N → f ≤ tl → F f → Q (some (.int ((-10) - nI f))) N) (hK : ∀ N a, FrP M0 N → DRr N a → wfP a → K a → PX G (d + 8) m_X9_park Q 191 [some (.ref 56), some (.int (nI (tot a))), some (.int (nI 0))] [] (wI (wI (wI N 56 14 (nI a.1.length)) 56 15 (nI a.2.1.length)) 56 16 (nI a.2.2.length))) : ∀ n a s N, FrP M0 N → DRr N a → TokR N T tl s → N.1 56 8 = -1 → s ≤ tl → PA T tl n a s F K → PX G (d + 8) m_X9_park Q 36 [some (.ref 56), some (.int (nI (tot a))), none] [] N := by
  have bad36 : ∀ (N : PM) (f : Nat) (x : Int32), FrP M0 N → N.1 56 8 = nI f → f ≤ tl → F f → PX G (d + 8) m_X9_park Q 36 [some (.ref 56), some (.int x), none] [] N := by
    intro N f x hf h8 hl hff
    apply g_X9_park_36
    refine c_isWell_n (f := f) (by omega) h8 ?_
    simp only [gI]
    refine b1 rfl (c_isWell_n (f := f) (by omega) h8 ?_)
    simp only [gI]
    refine b1 rfl ?_
    rw [h8]
    exact hF N f hf hl hff
  have bad126 : ∀ (N : PM) (f : Nat) (x : Int32), FrP M0 N → N.1 56 8 = nI f → f ≤ tl → F f → PX G (d + 8) m_X9_park Q 126 [some (.ref 56), some (.int x), none] [] N := by
    intro N f x hf h8 hl hff
    apply g_X9_park_126
    refine b2 (fun z => c_takes_b (f := f) (by omega) h8 ?_) (fun z => c_takes_b (f := f) (by omega) h8 ?_)
    · simp only [gI]; exact bad36 N f _ hf h8 hl hff
    · simp only [gI]; exact bad36 N f _ hf h8 hl hff
  intro n
  induction n with
  | zero => intro a s N _ _ _ _ _ h; exact absurd h id
  | succ n ih =>
    intro a s N hf hD hk h8 hs hPA
    obtain ⟨⟨hn, hw⟩, h0, h1⟩ := hPA
    obtain ⟨w1, w2, w3, -⟩ := id hw
    obtain ⟨d1, d2, d3, -⟩ := id hD
    have hK6 := tkK_le (T := T) (tl := tl) (s := s)
    have hE := tkE_b T hs
    have hn2 := tkS_b T hE.2
    have e1 : tkS T tl (tkE T tl s) = nx T tl s := rfl
    rw [e1] at hn2
    -- behind an item
    have aft : ∀ (N : PM) (a' : PSt) (s4 : Nat), FrP M0 N → DRr N a' → TokR N T tl s4 → N.1 56 8 = -1 → s4 ≤ tl → PSm T tl s4 F (fun s5 => PA T tl n a' s5 F K) → PX G (d + 8) m_X9_park Q 126 [some (.ref 56), some (.int (nI (tot a))), none] [] N := by
      intro N a' s4 hf hD hk h8 hs hP
      have hK6 := tkK_le (T := T) (tl := tl) (s := s4)
      have hE := tkE_b T hs
      have hn2 := tkS_b T hE.2
      apply g_X9_park_126
      rw [hk.2.2.1, rk_3 hK6]
      refine b2 (fun z => ?_) (fun z => ?_)
      · refine c_takes_t (hf.tx hT) hk hs h8 (fun N2 f2 k2 => ?_)
        simp only [gI]
        have hP := hP.2 z
        cases n with
        | zero => exact absurd hP id
        | succ n =>
          have e : tot a + 1 = tot a' := by have := hP.1.1; omega
          rw [nI_add, e]
          exact ih a' (nx T tl s4) N2 (hf.a f2) (hD.a f2) k2 (by rw [f2.2.1 8 (by omega)]; exact h8) hn2.2 hP
      · refine c_takes_f h8 ?_
        simp only [gI]
        rw [hk.1]
        exact bad36 _ s4 _ (hf.wr (by omega)) (by simp (disch := omega) only [wI_sA, rdA, rdN, rdL, upd_e, upd_n]) hs (hP.1 z)
    apply g_X9_park_36
    refine c_isWell_y h8 ?_
    simp only [gI]
    refine b0 (by decide) ?_
    rw [hk.2.2.1, rk_0 hK6, rk_1 hK6]
    refine b2 (fun z => c_isWell_y h8 ?_) (fun z => ?_)
    · simp only [gI]
      refine b0 (by decide) ?_
      rw [d1, d2, d3]
      exact hK N a hf hD hw (h0 z)
    have h1 := h1 z
    have flt : F s → PX G (d + 8) m_X9_park Q 110 [some (.ref 56), some (.int (nI (tot a))), none] [.int (nI 0), .ref 56] N := fun hff => by
      apply g_X9_park_110
      refine c_takes_f h8 ?_
      simp only [gI]
      rw [hk.1]
      refine c_isWell_n (f := s) (by omega) (by simp (disch := omega) only [wI_sA, rdA, rdN, rdL, upd_e, upd_n]) ?_
      simp only [gI]
      exact b1 rfl (bad126 _ s _ (hf.wr (by omega)) (by simp (disch := omega) only [wI_sA, rdA, rdN, rdL, upd_e, upd_n]) hs hff)
    refine b2 (fun y => ?_) (fun y => flt (h1.2.2.2 (by omega)))
    have e7 := hk.2.2.2.1 y.1 y.2
    have going : (∀ N1, FrA N N1 → TokR N1 T tl (nx T tl s) → PC G (d + 8) m_X9_readsItem [.ref 56, .int (nI (tkK T tl s - 1))] N1 (fun v N3 => gN v (PX G (d + 8) m_X9_park Q 126 [some (.ref 56), some (.int (nI (tot a))), none] [] N3))) → PX G (d + 8) m_X9_park Q 110 [some (.ref 56), some (.int (nI (tot a))), none] [.int (nI 1), .ref 56] N := fun hi => by
      apply g_X9_park_110
      refine c_takes_t (hf.tx hT) hk hs h8 (fun N1 f1 k1 => ?_)
      simp only [gI]
      refine c_isWell_y (by rw [f1.2.1 8 (by omega)]; exact h8) ?_
      simp only [gI]
      rw [e7]
      exact b0 (by decide) (hi N1 f1 k1)
    rw [e7, nz (by omega), neq (by omega) (by omega), d1, d2, d3, nle (by omega) (by omega), nle (by omega) (by omega), nle (by omega) (by omega)]
    refine b2 (fun x => ?_) (fun x => b2 (fun w => ?_) (fun w => ?_))
    · have h1 := h1.1 (by omega)
      refine b2 (fun l => flt (h1.1 l)) (fun l => going (fun N1 f1 k1 => ?_))
      rw [x]
      refine c_reads_plank (by omega) htl hT (hf.a f1) (hD.a f1) k1 hn2.2 (by rw [f1.2.1 8 (by omega)]; exact h8) (h1.2 (by omega)) (fun N2 f g1 g2 g3 g4 => ?_) (fun N2 a' s4 g1 g2 g3 g4 g5 g6 => ?_)
      · simp only [gN]; exact bad126 N2 f _ g1 g2 g3 g4
      · simp only [gN]; exact aft N2 a' s4 g1 g2 g3 g4 g5 g6
    · have h1 := h1.2.1 (by omega)
      refine b2 (fun l => flt (h1.1 l)) (fun l => going (fun N1 f1 k1 => ?_))
      rw [w]
      refine c_reads_child (by omega) htl hT (hf.a f1) (hD.a f1) k1 hn2.2 (by rw [f1.2.1 8 (by omega)]; exact h8) (h1.2 (by omega)) (fun N2 f g1 g2 g3 g4 => ?_) (fun N2 a' s4 g1 g2 g3 g4 g5 g6 => ?_)
      · simp only [gN]; exact bad126 N2 f _ g1 g2 g3 g4
      · simp only [gN]; exact aft N2 a' s4 g1 g2 g3 g4 g5 g6
    · have h1 := h1.2.2.1 (by omega)
      refine b2 (fun l => flt (h1.1 l)) (fun l => going (fun N1 f1 k1 => ?_))
      rw [show tkK T tl s - 1 = 2 by omega]
      refine c_reads_stone (by omega) htl hT (hf.a f1) (hD.a f1) k1 hn2.2 (by rw [f1.2.1 8 (by omega)]; exact h8) (h1.2 (by omega)) (fun N2 f g1 g2 g3 g4 => ?_) (fun N2 a' s4 g1 g2 g3 g4 g5 g6 => ?_)
      · simp only [gN]; exact bad126 N2 f _ g1 g2 g3 g4
      · simp only [gN]; exact aft N2 a' s4 g1 g2 g3 g4 g5 g6
end PL
theorem c_X9_park_tail {G : GG} {d : Nat} {M : PM} {Q : Option Value → PM → Prop} {x : Int32} (hQ : ∀ N : PM, (∀ q, ¬ q = 56 → ¬ (58 ≤ q ∧ q ≤ 63) → ¬ q = 65 → N.1 q = M.1 q) → (∀ k, ¬ k = 3 → N.1 56 k = M.1 56 k) → N.1 56 3 = nI 0 → (∀ k, k < 3 → N.1 58 k = M.1 58 (3 + k) ∧ N.1 59 k = M.1 59 (3 + k)) → (∀ k, k < 8 → N.1 60 k = M.1 60 (8 + k) ∧ N.1 61 k = M.1 61 (8 + k)) → (∀ k, k < 5 → N.1 62 k = M.1 62 (5 + k)) → N.1 65 0 = nI 0 → N.1 65 1 = nI 0 → (∀ k, k < 34 → N.1 63 k = bgn k) → N.2 = M.2 → Q (some (.int x)) N) : PX G (d + 2) m_X9_park Q 191 [some (.ref 56), some (.int x), some (.int (nI 0))] [] M := by
  have l3 : ∀ N : PM, (∀ q, ¬ (60 ≤ q ∧ q ≤ 62) → N.1 q = M.1 q) → (∀ k, k < 8 → N.1 60 k = M.1 60 (8 + k) ∧ N.1 61 k = M.1 61 (8 + k)) → (∀ k, k < 5 → N.1 62 k = M.1 62 (5 + k)) → N.2 = M.2 → PX G (d + 2) m_X9_park Q 262 [some (.ref 56), some (.int x), some (.int (nI 0))] [] N := by
    intro N n1 n2 n3 n4
    refine up_ind (n := 3) (P := fun k => ∀ N : PM, (∀ q, ¬ (58 ≤ q ∧ q ≤ 62) → N.1 q = M.1 q) → (∀ k, k < 8 → N.1 60 k = M.1 60 (8 + k) ∧ N.1 61 k = M.1 61 (8 + k)) → (∀ k, k < 5 → N.1 62 k = M.1 62 (5 + k)) → N.2 = M.2 → (∀ j, j < k → N.1 58 j = M.1 58 (3 + j) ∧ N.1 59 j = M.1 59 (3 + j)) → (∀ j, 3 ≤ j → N.1 58 j = M.1 58 j ∧ N.1 59 j = M.1 59 j) → PX G (d + 2) m_X9_park Q 262 [some (.ref 56), some (.int x), some (.int (nI k))] [] N) ?_ ?_ 0 (Nat.zero_le _) N (fun q hq => n1 q (by omega)) n2 n3 n4 (fun j hj => absurd hj (by omega)) (fun j hj => ⟨by rw [n1 58 (by omega)], by rw [n1 59 (by omega)]⟩)
    · intro N n1 n2 n3 n4 n5 n6
      apply g_X9_park_262
      simp only [n01a, true_and]
      simp (disch := omega) only [nle, nlt, neq, nz, nzl, nzg, nzp, nzn, nneg, nneg9, nI_add, ncl, vin, br_T, br_F, br_p, br_n, true_and, and_true, Nat.zero_add, rdA, rdN]
      have e0 : (nI 0).toNatClampNeg = 0 := rfl
      have e1 : (nI 1).toNatClampNeg = 1 := rfl
      refine c_X9_begins ?_
      simp only [gN]
      refine hQ _ (fun q q1 q2 q3 => ?_) (fun k hk => ?_) ?_ (fun k hk => ?_) (fun k hk => ?_) (fun k hk => ?_) ?_ ?_ (fun k hk => ?_) n4
      · rw [rdN (by omega), wI_sA, rdN q3, wI_sA, rdN q3, wI_sA, rdN q1]; exact n1 q (by omega)
      · simp (disch := omega) only [wI_sA, rdA, rdN, rdL, upd_e, upd_n]; rw [n1 56 (by omega)]
      · simp (disch := omega) only [wI_sA, rdA, rdN, rdL, upd_e, upd_n]
      · simp (disch := omega) only [wI_sA, rdA, rdN, rdL, upd_e, upd_n]; exact n5 k hk
      · simp (disch := omega) only [wI_sA, rdA, rdN, rdL, upd_e, upd_n]; exact n2 k hk
      · simp (disch := omega) only [wI_sA, rdA, rdN, rdL, upd_e, upd_n]; exact n3 k hk
      · simp (disch := omega) only [wI_sA, rdA, rdN, rdL, upd_e, upd_n]
      · simp (disch := omega) only [wI_sA, rdA, rdN, rdL, upd_e, upd_n]
      · rw [rdA, fo_in0 hk]
    · intro k hk ih N n1 n2 n3 n4 n5 n6
      apply g_X9_park_262
      simp (disch := omega) only [nle, nlt, neq, nz, nzl, nzg, nzp, nzn, nneg, nneg9, nI_add, ncl, vin, br_T, br_F, br_p, br_n, true_and, and_true, Nat.zero_add, rdA, rdN]
      refine ih _ (fun q hq => ?_) (fun j hj => ?_) (fun j hj => ?_) n4 (fun j hj => ?_) (fun j hj => ?_)
      · simp (disch := omega) only [wI_sA, rdA, rdN, rdL, upd_e, upd_n]; exact n1 q hq
      · simp (disch := omega) only [wI_sA, rdA, rdN, rdL, upd_e, upd_n]; exact n2 j hj
      · simp (disch := omega) only [wI_sA, rdA, rdN, rdL, upd_e, upd_n]; exact n3 j hj
      · by_cases e : j = k
        · subst e; simp (disch := omega) only [wI_sA, rdA, rdN, rdL, upd_e, upd_n]; exact n6 (3 + j) (by omega)
        · simp (disch := omega) only [wI_sA, rdA, rdN, rdL, upd_e, upd_n]; exact n5 j (by omega)
      · simp (disch := omega) only [wI_sA, rdA, rdN, rdL, upd_e, upd_n]; exact n6 j hj
  have l2 : ∀ N : PM, (∀ q, ¬ (60 ≤ q ∧ q ≤ 61) → N.1 q = M.1 q) → (∀ k, k < 8 → N.1 60 k = M.1 60 (8 + k) ∧ N.1 61 k = M.1 61 (8 + k)) → N.2 = M.2 → PX G (d + 2) m_X9_park Q 235 [some (.ref 56), some (.int x), some (.int (nI 0))] [] N := by
    intro N n1 n2 n4
    refine up_ind (n := 5) (P := fun k => ∀ N : PM, (∀ q, ¬ (60 ≤ q ∧ q ≤ 62) → N.1 q = M.1 q) → (∀ k, k < 8 → N.1 60 k = M.1 60 (8 + k) ∧ N.1 61 k = M.1 61 (8 + k)) → N.2 = M.2 → (∀ j, j < k → N.1 62 j = M.1 62 (5 + j)) → (∀ j, 5 ≤ j → N.1 62 j = M.1 62 j) → PX G (d + 2) m_X9_park Q 235 [some (.ref 56), some (.int x), some (.int (nI k))] [] N) ?_ ?_ 0 (Nat.zero_le _) N (fun q hq => n1 q (by omega)) n2 n4 (fun j hj => absurd hj (by omega)) (fun j hj => by rw [n1 62 (by omega)])
    · intro N n1 n2 n4 n5 n6
      apply g_X9_park_235
      simp (disch := omega) only [nle, nlt, neq, nz, nzl, nzg, nzp, nzn, nneg, nneg9, nI_add, ncl, vin, br_T, br_F, br_p, br_n, true_and, and_true, Nat.zero_add, rdA, rdN]
      exact l3 N n1 n2 n5 n4
    · intro k hk ih N n1 n2 n4 n5 n6
      apply g_X9_park_235
      simp (disch := omega) only [nle, nlt, neq, nz, nzl, nzg, nzp, nzn, nneg, nneg9, nI_add, ncl, vin, br_T, br_F, br_p, br_n, true_and, and_true, Nat.zero_add, rdA, rdN]
      refine ih _ (fun q hq => ?_) (fun j hj => ?_) n4 (fun j hj => ?_) (fun j hj => ?_)
      · simp (disch := omega) only [wI_sA, rdA, rdN, rdL, upd_e, upd_n]; exact n1 q hq
      · simp (disch := omega) only [wI_sA, rdA, rdN, rdL, upd_e, upd_n]; exact n2 j hj
      · by_cases e : j = k
        · subst e; simp (disch := omega) only [wI_sA, rdA, rdN, rdL, upd_e, upd_n]; exact n6 (5 + j) (by omega)
        · simp (disch := omega) only [wI_sA, rdA, rdN, rdL, upd_e, upd_n]; exact n5 j (by omega)
      · simp (disch := omega) only [wI_sA, rdA, rdN, rdL, upd_e, upd_n]; exact n6 j hj
  refine up_ind (n := 8) (P := fun k => ∀ N : PM, (∀ q, ¬ (60 ≤ q ∧ q ≤ 61) → N.1 q = M.1 q) → N.2 = M.2 → (∀ j, j < k → N.1 60 j = M.1 60 (8 + j) ∧ N.1 61 j = M.1 61 (8 + j)) → (∀ j, 8 ≤ j → N.1 60 j = M.1 60 j ∧ N.1 61 j = M.1 61 j) → PX G (d + 2) m_X9_park Q 191 [some (.ref 56), some (.int x), some (.int (nI k))] [] N) ?_ ?_ 0 (Nat.zero_le _) M (fun _ _ => rfl) rfl (fun j hj => absurd hj (by omega)) (fun _ _ => ⟨rfl, rfl⟩)
  · intro N n1 n4 n5 n6
    apply g_X9_park_191
    simp (disch := omega) only [nle, nlt, neq, nz, nzl, nzg, nzp, nzn, nneg, nneg9, nI_add, ncl, vin, br_T, br_F, br_p, br_n, true_and, and_true, Nat.zero_add, rdA, rdN]
    exact l2 N n1 n5 n4
  · intro k hk ih N n1 n4 n5 n6
    apply g_X9_park_191
    simp (disch := omega) only [nle, nlt, neq, nz, nzl, nzg, nzp, nzn, nneg, nneg9, nI_add, ncl, vin, br_T, br_F, br_p, br_n, true_and, and_true, Nat.zero_add, rdA, rdN]
    refine ih _ (fun q hq => ?_) n4 (fun j hj => ?_) (fun j hj => ?_)
    · simp (disch := omega) only [wI_sA, rdA, rdN, rdL, upd_e, upd_n]; exact n1 q hq
    · by_cases e : j = k
      · subst e; simp (disch := omega) only [wI_sA, rdA, rdN, rdL, upd_e, upd_n]; exact n6 (8 + j) (by omega)
      · simp (disch := omega) only [wI_sA, rdA, rdN, rdL, upd_e, upd_n]; exact n5 j (by omega)
    · simp (disch := omega) only [wI_sA, rdA, rdN, rdL, upd_e, upd_n]; exact n6 j hj
