/-! the law's loop -/
theorem Rel_0 : Rel MI0 := by
  have z : ∀ q, ¬ q = 44 → ¬ q = 56 → ¬ q = 63 → ∀ k, MI0.1 q k = 0 := fun q h1 h2 h3 k => by
    unfold MI0
    rw [rdN h3]
    simp [M00, h1, h2]
  have z44 : ∀ k, MI0.1 44 k = if k = 6 then nI 2 else 0 := fun k => by
    unfold MI0
    rw [rdN (by omega)]
    rfl
  have z56 : ∀ k, MI0.1 56 k = if k = 27 then nI 2 else 0 := fun k => by
    unfold MI0
    rw [rdN (by omega)]
    rfl
  refine ⟨0, 0, 0, 0, 2, 0, ⟨?_, ?_, by omega, ?_, ?_, by omega, ?_, ?_, by omega⟩, ⟨fun p hp => absurd hp (by omega), fun p hp => absurd hp (by omega), fun p hp => absurd hp (by omega), fun p hp => absurd hp (by omega), fun p hp => absurd hp (by omega)⟩, ⟨fun c hc => absurd hc (by omega), fun c hc => absurd hc (by omega), fun c hc => absurd hc (by omega)⟩, ⟨?_, ?_, by omega, fun i hi => absurd hi (by omega)⟩, Or.inl ⟨?_, ?_⟩, Or.inl ⟨?_, ?_⟩, ⟨?_, ?_, by omega, by omega, ?_, ?_, by omega, fun t ht => absurd ht (by omega)⟩, Or.inl ?_, ?_⟩
  · rw [z 1 (by omega) (by omega) (by omega)]; rfl
  · rw [z56]; rfl
  · rw [z 1 (by omega) (by omega) (by omega)]; rfl
  · rw [z56]; rfl
  · rw [z 1 (by omega) (by omega) (by omega)]; rfl
  · rw [z56]; rfl
  · rw [z 25 (by omega) (by omega) (by omega)]; rfl
  · rw [z56]; rfl
  · rw [z 13 (by omega) (by omega) (by omega)]
  · rw [z 65 (by omega) (by omega) (by omega)]
  · rw [z 19 (by omega) (by omega) (by omega)]
  · rw [z 65 (by omega) (by omega) (by omega)]
  · rw [z44]; rfl
  · rw [z56]; rfl
  · rw [z44]; rfl
  · rw [z56]; rfl
  · rw [z44]; rfl
  · rfl
theorem pair_use {G : GG} {f g : Mth} {as : List Value} {M : PM} {K : PM → Prop} {Z : Prop} (h : Pair G f g as M) (hk : ∀ N, Rel N → K N) : PC G 900 f (.ref 0 :: as) M (fun v N1 => gI v (fun r1 => PC G 900 g (.ref 56 :: as) N1 (fun v N2 => gI v (fun r2 => br (r1 = r2) (K N2) Z)))) :=
  h.mono (fun v N ⟨r, e, h2⟩ => by
    subst e
    exact h2.mono (fun w N2 ⟨e2, hr⟩ => by
      subst e2
      exact b1 rfl (hk N2 hr)))
set_option maxRecDepth 100000 in
theorem gl_16 {G : GG} {d sb sl : Nat} {xs : Nat → Int32} {nc ns : Nat} {M : PM} (h : LX G d sb sl xs nc ns 18 [some (.ref 240), some (.ref 0), some (.ref 56), some (.int (nI 0))] [] M) : LX G d sb sl xs nc ns 16 [some (.ref 240), some (.ref 0), some (.ref 56), none] [] M := wpL_ok lawcuts tk_law 60 _ _ _ _ h
section LL
variable {G : GG} {sb L nc ns j : Nat} {xs : Nat → Int32} {M : PM}
theorem ll_156 (hL : L ≤ 256) (hj : j + 4 ≤ L) (hM : Rel M) (go : ∀ N, Rel N → LX G 900 sb L xs nc ns 18 [some (.ref 240), some (.ref 0), some (.ref 56), some (.int (nI (j + 4)))] [] N) : LX G 900 sb L xs nc ns 156 [some (.ref 240), some (.ref 0), some (.ref 56), some (.int (nI j))] [] M := by
  apply gl_156
  simp (disch := omega) only [nle, nlt, neq, nz, nzl, nzg, nzp, nzn, nneg, nneg9, nI_add, ncl, vin, br_T, br_F, br_p, br_n, true_and, and_true, Nat.zero_add, rdA, rdN]
  exact pair_use (pair_type hM) go
theorem ll_219 (hL : L ≤ 256) (hj : j + 4 ≤ L) (hM : Rel M) (go : ∀ N, Rel N → LX G 900 sb L xs nc ns 18 [some (.ref 240), some (.ref 0), some (.ref 56), some (.int (nI (j + 4)))] [] N) : LX G 900 sb L xs nc ns 219 [some (.ref 240), some (.ref 0), some (.ref 56), some (.int (nI j))] [] M := by
  apply gl_219
  rw [nI_add]
  exact pair_use (pair_clear hM) go
theorem ll_232 (hL : L ≤ 256) (hj : j + 4 ≤ L) (hM : Rel M) (go : ∀ N, Rel N → LX G 900 sb L xs nc ns 18 [some (.ref 240), some (.ref 0), some (.ref 56), some (.int (nI (j + 4)))] [] N) : LX G 900 sb L xs nc ns 232 [some (.ref 240), some (.ref 0), some (.ref 56), some (.int (nI j))] [] M := by
  apply gl_232
  rw [nI_add]
  exact pair_use (pair_park hM) go
theorem ll_245 (hL : L ≤ 256) (hj : j + 4 ≤ L) (hM : Rel M) (go : ∀ N, Rel N → LX G 900 sb L xs nc ns 18 [some (.ref 240), some (.ref 0), some (.ref 56), some (.int (nI (j + 4)))] [] N) : LX G 900 sb L xs nc ns 245 [some (.ref 240), some (.ref 0), some (.ref 56), some (.int (nI j))] [] M := by
  apply gl_245
  simp (disch := omega) only [nle, nlt, neq, nz, nzl, nzg, nzp, nzn, nneg, nneg9, nI_add, ncl, vin, br_T, br_F, br_p, br_n, true_and, and_true, Nat.zero_add, rdA, rdN]
  exact pair_use (pair_plank hM) go
theorem ll_278 (hL : L ≤ 256) (hj : j + 4 ≤ L) (hM : Rel M) (go : ∀ N, Rel N → LX G 900 sb L xs nc ns 18 [some (.ref 240), some (.ref 0), some (.ref 56), some (.int (nI (j + 4)))] [] N) : LX G 900 sb L xs nc ns 278 [some (.ref 240), some (.ref 0), some (.ref 56), some (.int (nI j))] [] M := by
  apply gl_278
  simp (disch := omega) only [nle, nlt, neq, nz, nzl, nzg, nzp, nzn, nneg, nneg9, nI_add, ncl, vin, br_T, br_F, br_p, br_n, true_and, and_true, Nat.zero_add, rdA, rdN]
  exact pair_use (pair_child hM) go
theorem ll_311 (hL : L ≤ 256) (hj : j + 4 ≤ L) (hM : Rel M) (go : ∀ N, Rel N → LX G 900 sb L xs nc ns 18 [some (.ref 240), some (.ref 0), some (.ref 56), some (.int (nI (j + 4)))] [] N) : LX G 900 sb L xs nc ns 311 [some (.ref 240), some (.ref 0), some (.ref 56), some (.int (nI j))] [] M := by
  apply gl_311
  simp (disch := omega) only [nle, nlt, neq, nz, nzl, nzg, nzp, nzn, nneg, nneg9, nI_add, ncl, vin, br_T, br_F, br_p, br_n, true_and, and_true, Nat.zero_add, rdA, rdN]
  exact pair_use (pair_stone hM) go
theorem ll_344 (hL : L ≤ 256) (hj : j + 4 ≤ L) (hM : Rel M) (go : ∀ N, Rel N → LX G 900 sb L xs nc ns 18 [some (.ref 240), some (.ref 0), some (.ref 56), some (.int (nI (j + 4)))] [] N) : LX G 900 sb L xs nc ns 344 [some (.ref 240), some (.ref 0), some (.ref 56), some (.int (nI j))] [] M := by
  apply gl_344
  simp (disch := omega) only [nle, nlt, neq, nz, nzl, nzg, nzp, nzn, nneg, nneg9, nI_add, ncl, vin, br_T, br_F, br_p, br_n, true_and, and_true, Nat.zero_add, rdA, rdN]
  exact pair_use (pair_sits hM) go
theorem ll_387 (hL : L ≤ 256) (hj : j + 4 ≤ L) (hM : Rel M) (go : ∀ N, Rel N → LX G 900 sb L xs nc ns 18 [some (.ref 240), some (.ref 0), some (.ref 56), some (.int (nI (j + 4)))] [] N) : LX G 900 sb L xs nc ns 387 [some (.ref 240), some (.ref 0), some (.ref 56), some (.int (nI j))] [] M := by
  apply gl_387
  simp (disch := omega) only [nle, nlt, neq, nz, nzl, nzg, nzp, nzn, nneg, nneg9, nI_add, ncl, vin, br_T, br_F, br_p, br_n, true_and, and_true, Nat.zero_add, rdA, rdN]
  exact pair_use (pair_leaves hM) go
theorem ll_410 (hL : L ≤ 256) (hj : j + 4 ≤ L) (hM : Rel M) (go : ∀ N, Rel N → LX G 900 sb L xs nc ns 18 [some (.ref 240), some (.ref 0), some (.ref 56), some (.int (nI (j + 4)))] [] N) : LX G 900 sb L xs nc ns 410 [some (.ref 240), some (.ref 0), some (.ref 56), some (.int (nI j))] [] M := by
  apply gl_410
  simp (disch := omega) only [nle, nlt, neq, nz, nzl, nzg, nzp, nzn, nneg, nneg9, nI_add, ncl, vin, br_T, br_F, br_p, br_n, true_and, and_true, Nat.zero_add, rdA, rdN]
  exact pair_use (pair_lay hM) go
theorem ll_453 (hL : L ≤ 256) (hj : j + 4 ≤ L) (hM : Rel M) (go : ∀ N, Rel N → LX G 900 sb L xs nc ns 18 [some (.ref 240), some (.ref 0), some (.ref 56), some (.int (nI (j + 4)))] [] N) : LX G 900 sb L xs nc ns 453 [some (.ref 240), some (.ref 0), some (.ref 56), some (.int (nI j))] [] M := by
  apply gl_453
  simp (disch := omega) only [nle, nlt, neq, nz, nzl, nzg, nzp, nzn, nneg, nneg9, nI_add, ncl, vin, br_T, br_F, br_p, br_n, true_and, and_true, Nat.zero_add, rdA, rdN]
  exact pair_use (pair_take hM) go
theorem ll_476 (hL : L ≤ 256) (hj : j + 4 ≤ L) (hM : Rel M) (go : ∀ N, Rel N → LX G 900 sb L xs nc ns 18 [some (.ref 240), some (.ref 0), some (.ref 56), some (.int (nI (j + 4)))] [] N) : LX G 900 sb L xs nc ns 476 [some (.ref 240), some (.ref 0), some (.ref 56), some (.int (nI j))] [] M := by
  apply gl_476
  simp (disch := omega) only [nle, nlt, neq, nz, nzl, nzg, nzp, nzn, nneg, nneg9, nI_add, ncl, vin, br_T, br_F, br_p, br_n, true_and, and_true, Nat.zero_add, rdA, rdN]
  exact pair_use (pair_ways hM) go
theorem ll_519 (hL : L ≤ 256) (hj : j + 4 ≤ L) (hM : Rel M) (go : ∀ N, Rel N → LX G 900 sb L xs nc ns 18 [some (.ref 240), some (.ref 0), some (.ref 56), some (.int (nI (j + 4)))] [] N) : LX G 900 sb L xs nc ns 519 [some (.ref 240), some (.ref 0), some (.ref 56), some (.int (nI j))] [] M := by
  apply gl_519
  simp (disch := omega) only [nle, nlt, neq, nz, nzl, nzg, nzp, nzn, nneg, nneg9, nI_add, ncl, vin, br_T, br_F, br_p, br_n, true_and, and_true, Nat.zero_add, rdA, rdN]
  exact pair_use (pair_most hM) go
theorem ll_552 (hL : L ≤ 256) (hj : j + 4 ≤ L) (hM : Rel M) (go : ∀ N, Rel N → LX G 900 sb L xs nc ns 18 [some (.ref 240), some (.ref 0), some (.ref 56), some (.int (nI (j + 4)))] [] N) : LX G 900 sb L xs nc ns 552 [some (.ref 240), some (.ref 0), some (.ref 56), some (.int (nI j))] [] M := by
  apply gl_552
  simp (disch := omega) only [nle, nlt, neq, nz, nzl, nzg, nzp, nzn, nneg, nneg9, nI_add, ncl, vin, br_T, br_F, br_p, br_n, true_and, and_true, Nat.zero_add, rdA, rdN]
  exact pair_use (pair_moves hM) go
theorem ll_575 (hL : L ≤ 256) (hj : j + 4 ≤ L) (hM : Rel M) (go : ∀ N, Rel N → LX G 900 sb L xs nc ns 18 [some (.ref 240), some (.ref 0), some (.ref 56), some (.int (nI (j + 4)))] [] N) : LX G 900 sb L xs nc ns 575 [some (.ref 240), some (.ref 0), some (.ref 56), some (.int (nI j))] [] M := by
  apply gl_575
  simp (disch := omega) only [nle, nlt, neq, nz, nzl, nzg, nzp, nzn, nneg, nneg9, nI_add, ncl, vin, br_T, br_F, br_p, br_n, true_and, and_true, Nat.zero_add, rdA, rdN]
  exact pair_use (pair_ballast hM) go
theorem ll_608 (hL : L ≤ 256) (hj : j + 4 ≤ L) (hM : Rel M) (go : ∀ N, Rel N → LX G 900 sb L xs nc ns 18 [some (.ref 240), some (.ref 0), some (.ref 56), some (.int (nI (j + 4)))] [] N) : LX G 900 sb L xs nc ns 608 [some (.ref 240), some (.ref 0), some (.ref 56), some (.int (nI j))] [] M := by
  apply gl_608
  simp (disch := omega) only [nle, nlt, neq, nz, nzl, nzg, nzp, nzn, nneg, nneg9, nI_add, ncl, vin, br_T, br_F, br_p, br_n, true_and, and_true, Nat.zero_add, rdA, rdN]
  exact pair_use (pair_game hM) go
theorem ll_641 (hL : L ≤ 256) (hj : j + 4 ≤ L) (hM : Rel M) (go : ∀ N, Rel N → LX G 900 sb L xs nc ns 18 [some (.ref 240), some (.ref 0), some (.ref 56), some (.int (nI (j + 4)))] [] N) : LX G 900 sb L xs nc ns 641 [some (.ref 240), some (.ref 0), some (.ref 56), some (.int (nI j))] [] M := by
  apply gl_641
  simp (disch := omega) only [nle, nlt, neq, nz, nzl, nzg, nzp, nzn, nneg, nneg9, nI_add, ncl, vin, br_T, br_F, br_p, br_n, true_and, and_true, Nat.zero_add, rdA, rdN]
  exact pair_use (pair_strangers hM) go
theorem ll_664 (hL : L ≤ 256) (hj : j + 4 ≤ L) (hM : Rel M) (go : ∀ N, Rel N → LX G 900 sb L xs nc ns 18 [some (.ref 240), some (.ref 0), some (.ref 56), some (.int (nI (j + 4)))] [] N) : LX G 900 sb L xs nc ns 664 [some (.ref 240), some (.ref 0), some (.ref 56), some (.int (nI j))] [] M := by
  apply gl_664
  simp (disch := omega) only [nle, nlt, neq, nz, nzl, nzg, nzp, nzn, nneg, nneg9, nI_add, ncl, vin, br_T, br_F, br_p, br_n, true_and, and_true, Nat.zero_add, rdA, rdN]
  exact pair_use (pair_trial hM) go
theorem ll_707 (hL : L ≤ 256) (hj : j + 4 ≤ L) (hM : Rel M) (go : ∀ N, Rel N → LX G 900 sb L xs nc ns 18 [some (.ref 240), some (.ref 0), some (.ref 56), some (.int (nI (j + 4)))] [] N) : LX G 900 sb L xs nc ns 707 [some (.ref 240), some (.ref 0), some (.ref 56), some (.int (nI j))] [] M := by
  apply gl_707
  simp (disch := omega) only [nle, nlt, neq, nz, nzl, nzg, nzp, nzn, nneg, nneg9, nI_add, ncl, vin, br_T, br_F, br_p, br_n, true_and, and_true, Nat.zero_add, rdA, rdN]
  exact pair_use (pair_could hM) go
theorem ll_740 (hL : L ≤ 256) (hj : j + 4 ≤ L) (hM : Rel M) (go : ∀ N, Rel N → LX G 900 sb L xs nc ns 18 [some (.ref 240), some (.ref 0), some (.ref 56), some (.int (nI (j + 4)))] [] N) : LX G 900 sb L xs nc ns 740 [some (.ref 240), some (.ref 0), some (.ref 56), some (.int (nI j))] [] M := by
  apply gl_740
  simp (disch := omega) only [nle, nlt, neq, nz, nzl, nzg, nzp, nzn, nneg, nneg9, nI_add, ncl, vin, br_T, br_F, br_p, br_n, true_and, and_true, Nat.zero_add, rdA, rdN]
  exact pair_use (pair_sure hM) go
theorem ll_763 (hL : L ≤ 256) (hj : j + 4 ≤ L) (hM : Rel M) (go : ∀ N, Rel N → LX G 900 sb L xs nc ns 18 [some (.ref 240), some (.ref 0), some (.ref 56), some (.int (nI (j + 4)))] [] N) : LX G 900 sb L xs nc ns 763 [some (.ref 240), some (.ref 0), some (.ref 56), some (.int (nI j))] [] M := by
  apply gl_763
  simp (disch := omega) only [nle, nlt, neq, nz, nzl, nzg, nzp, nzn, nneg, nneg9, nI_add, ncl, vin, br_T, br_F, br_p, br_n, true_and, and_true, Nat.zero_add, rdA, rdN]
  exact pair_use (pair_next hM) go
theorem ll_786 (hL : L ≤ 256) (hj : j + 4 ≤ L) (hM : Rel M) (go : ∀ N, Rel N → LX G 900 sb L xs nc ns 18 [some (.ref 240), some (.ref 0), some (.ref 56), some (.int (nI (j + 4)))] [] N) : LX G 900 sb L xs nc ns 786 [some (.ref 240), some (.ref 0), some (.ref 56), some (.int (nI j))] [] M := by
  apply gl_786
  simp (disch := omega) only [nle, nlt, neq, nz, nzl, nzg, nzp, nzn, nneg, nneg9, nI_add, ncl, vin, br_T, br_F, br_p, br_n, true_and, and_true, Nat.zero_add, rdA, rdN]
  exact pair_use (pair_rides hM) go
theorem ll_819 (hL : L ≤ 256) (hj : j + 4 ≤ L) (hM : Rel M) (go : ∀ N, Rel N → LX G 900 sb L xs nc ns 18 [some (.ref 240), some (.ref 0), some (.ref 56), some (.int (nI (j + 4)))] [] N) : LX G 900 sb L xs nc ns 819 [some (.ref 240), some (.ref 0), some (.ref 56), some (.int (nI j))] [] M := by
  apply gl_819
  rw [nI_add]
  exact pair_use (pair_forever hM) go
theorem ll_832 (hL : L ≤ 256) (hj : j + 4 ≤ L) (hM : Rel M) (go : ∀ N, Rel N → LX G 900 sb L xs nc ns 18 [some (.ref 240), some (.ref 0), some (.ref 56), some (.int (nI (j + 4)))] [] N) : LX G 900 sb L xs nc ns 832 [some (.ref 240), some (.ref 0), some (.ref 56), some (.int (nI j))] [] M := by
  apply gl_832
  simp (disch := omega) only [nle, nlt, neq, nz, nzl, nzg, nzp, nzn, nneg, nneg9, nI_add, ncl, vin, br_T, br_F, br_p, br_n, true_and, and_true, Nat.zero_add, rdA, rdN]
  exact pair_use (pair_rate hM) go
theorem ll_865 (hL : L ≤ 256) (hj : j + 4 ≤ L) (hM : Rel M) (go : ∀ N, Rel N → LX G 900 sb L xs nc ns 18 [some (.ref 240), some (.ref 0), some (.ref 56), some (.int (nI (j + 4)))] [] N) : LX G 900 sb L xs nc ns 865 [some (.ref 240), some (.ref 0), some (.ref 56), some (.int (nI j))] [] M := by
  apply gl_865
  simp (disch := omega) only [nle, nlt, neq, nz, nzl, nzg, nzp, nzn, nneg, nneg9, nI_add, ncl, vin, br_T, br_F, br_p, br_n, true_and, and_true, Nat.zero_add, rdA, rdN]
  exact pair_use (pair_keep hM) go
theorem ll_888 (hL : L ≤ 256) (hj : j + 4 ≤ L) (hM : Rel M) (go : ∀ N, Rel N → LX G 900 sb L xs nc ns 18 [some (.ref 240), some (.ref 0), some (.ref 56), some (.int (nI (j + 4)))] [] N) : LX G 900 sb L xs nc ns 888 [some (.ref 240), some (.ref 0), some (.ref 56), some (.int (nI j))] [] M := by
  apply gl_888
  simp (disch := omega) only [nle, nlt, neq, nz, nzl, nzg, nzp, nzn, nneg, nneg9, nI_add, ncl, vin, br_T, br_F, br_p, br_n, true_and, and_true, Nat.zero_add, rdA, rdN]
  exact pair_use (pair_back hM) go
theorem ll_911 (hL : L ≤ 256) (hj : j + 4 ≤ L) (hM : Rel M) (go : ∀ N, Rel N → LX G 900 sb L xs nc ns 18 [some (.ref 240), some (.ref 0), some (.ref 56), some (.int (nI (j + 4)))] [] N) : LX G 900 sb L xs nc ns 911 [some (.ref 240), some (.ref 0), some (.ref 56), some (.int (nI j))] [] M := by
  apply gl_911
  simp (disch := omega) only [nle, nlt, neq, nz, nzl, nzg, nzp, nzn, nneg, nneg9, nI_add, ncl, vin, br_T, br_F, br_p, br_n, true_and, and_true, Nat.zero_add, rdA, rdN]
  exact pair_use (pair_count hM) go
theorem ll_934 (hL : L ≤ 256) (hj : j + 4 ≤ L) (hM : Rel M) (go : ∀ N, Rel N → LX G 900 sb L xs nc ns 18 [some (.ref 240), some (.ref 0), some (.ref 56), some (.int (nI (j + 4)))] [] N) : LX G 900 sb L xs nc ns 934 [some (.ref 240), some (.ref 0), some (.ref 56), some (.int (nI j))] [] M := by
  apply gl_934
  rw [nI_add]
  refine (pair_trace hM).mono (fun v N ⟨r, e, h2⟩ => ?_)
  subst e
  refine h2.mono (fun w N2 ⟨e2, hr⟩ => ?_)
  subst e2
  exact b1 ((lg_cmp_eq _ _).mpr rfl) (go N2 hr)
theorem ll_loop (hL : L ≤ 256) : ∀ (n j : Nat) (M : PM), L - j ≤ n → j ≤ L → Rel M → LX G 900 sb L xs nc ns 18 [some (.ref 240), some (.ref 0), some (.ref 56), some (.int (nI j))] [] M := by
  intro n
  induction n with
  | zero =>
    intro j M hn hj hM
    apply gl_18
    refine b1 ?_ rfl
    have h1 := pk_sub_toInt (a := L) (b := 4) (by omega) (by omega)
    rw [Int32.lt_iff_toInt_lt]
    show (nI L - nI 4).toInt < _
    rw [h1, toInt_nI (by omega)]
    omega
  | succ n ih =>
    intro j M hn hj hM
    apply gl_18
    have h1 := pk_sub_toInt (a := L) (b := 4) (by omega) (by omega)
    have hc : (Int32.ofNat L - nI 4 < nI j) = ((L : Int) - 4 < j) := by
      rw [Int32.lt_iff_toInt_lt]
      show ((nI L - nI 4).toInt < _) = _
      rw [h1, toInt_nI (by omega)]
      rfl
    rw [hc]
    refine b2 (fun _ => rfl) (fun z => ?_)
    have hj4 : j + 4 ≤ L := by omega
    have go : ∀ N, Rel N → LX G 900 sb L xs nc ns 18 [some (.ref 240), some (.ref 0), some (.ref 56), some (.int (nI (j + 4)))] [] N := fun N hr => ih (j + 4) N (by omega) hj4 hr
    refine ⟨by rw [vin (by omega) (by omega)]; trivial, fun _ => ll_156 hL hj4 hM go, fun _ => ll_219 hL hj4 hM go, fun _ => ll_232 hL hj4 hM go, fun _ => ll_245 hL hj4 hM go, fun _ => ll_278 hL hj4 hM go, fun _ => ll_311 hL hj4 hM go, fun _ => ll_344 hL hj4 hM go, fun _ => ll_387 hL hj4 hM go, fun _ => ll_410 hL hj4 hM go, fun _ => ll_453 hL hj4 hM go, fun _ => ll_476 hL hj4 hM go, fun _ => ll_519 hL hj4 hM go, fun _ => ll_552 hL hj4 hM go, fun _ => ll_575 hL hj4 hM go, fun _ => ll_608 hL hj4 hM go, fun _ => ll_641 hL hj4 hM go, fun _ => ll_664 hL hj4 hM go, fun _ => ll_707 hL hj4 hM go, fun _ => ll_740 hL hj4 hM go, fun _ => ll_763 hL hj4 hM go, fun _ => ll_786 hL hj4 hM go, fun _ => ll_819 hL hj4 hM go, fun _ => ll_832 hL hj4 hM go, fun _ => ll_865 hL hj4 hM go, fun _ => ll_888 hL hj4 hM go, fun _ => ll_911 hL hj4 hM go, fun _ => ll_934 hL hj4 hM go, fun _ => ?_⟩
    rw [nI_add]
    exact go M hM
end LL
