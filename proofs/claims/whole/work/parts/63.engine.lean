/-! the reference's search: level by level, seat by seat -/
def foldS {σ : Type} (stop : σ → Bool) (up : σ → List Nat → σ) (a : σ) (l : List (List Nat)) : σ := l.foldl (fun a f => if stop a then a else up a f) a
theorem foldS_nil {σ : Type} {stop : σ → Bool} {up : σ → List Nat → σ} {a : σ} : foldS stop up a [] = a := rfl
theorem foldS_app {σ : Type} {stop : σ → Bool} {up : σ → List Nat → σ} {a : σ} {l k : List (List Nat)} : foldS stop up a (l ++ k) = foldS stop up (foldS stop up a l) k := by unfold foldS; rw [List.foldl_append]
theorem foldS_stop {σ : Type} {stop : σ → Bool} {up : σ → List Nat → σ} {a : σ} (h : stop a = true) : ∀ l : List (List Nat), foldS stop up a l = a
  | [] => rfl
  | f :: l => by
    have ih := foldS_stop (up := up) h l
    unfold foldS at ih ⊢
    rw [List.foldl_cons, if_pos h]; exact ih
theorem foldS_one {σ : Type} {stop : σ → Bool} {up : σ → List Nat → σ} {a : σ} (h : stop a = false) (f : List Nat) : foldS stop up a [f] = up a f := by
  unfold foldS; simp [h]
def frm (S : Nat) (ok : Nat → Bool) (s : Nat) : List Nat := (List.range' s (S - s)).filter ok
theorem frm_S {S : Nat} {ok : Nat → Bool} : frm S ok S = [] := by unfold frm; rw [Nat.sub_self]; rfl
theorem frm_s {S s : Nat} {ok : Nat → Bool} (h : s < S) : frm S ok s = if ok s then s :: frm S ok (s + 1) else frm S ok (s + 1) := by
  unfold frm
  obtain ⟨j, rfl⟩ : ∃ j, S = s + (j + 1) := ⟨S - s - 1, by omega⟩
  rw [show s + (j + 1) - s = j + 1 by omega, show s + (j + 1) - (s + 1) = j by omega, List.range'_succ, List.filter_cons]
theorem flx_skip {S : Nat} {ok : Nat → Bool} {xs : List Nat} {r : Nat} {pre : List Nat} : ∀ (j s : Nat), s + j ≤ S → (∀ x, s ≤ x → x < s + j → x ∈ pre) → flx xs r pre (frm S ok s) = flx xs r pre (frm S ok (s + j))
  | 0, s, _, _ => rfl
  | j + 1, s, h, hp => by
    rw [show s + (j + 1) = (s + 1) + j by omega, ← flx_skip j (s + 1) (by omega) (fun x h1 h2 => hp x (by omega) (by omega)), frm_s (by omega)]
    by_cases ho : ok s = true
    · rw [if_pos ho, flx_in (hp s (by omega) (by omega))]
    · rw [if_neg ho]
def preM (N : PM) (pre : List Nat) : Prop := ∀ i (h : i < pre.length), N.1 67 i = nI pre[i]
theorem preM.push {N : PM} {pre : List Nat} {x : Nat} (h : preM N pre) : preM (wI N 67 pre.length (nI x)) (pre ++ [x]) := by
  intro i hi
  rw [List.length_append, List.length_singleton] at hi
  by_cases e : i = pre.length
  · subst e
    simp (disch := omega) only [wI_sA, rdA, rdN, rdL, upd_e, upd_n]
    simp
  · simp (disch := omega) only [wI_sA, rdA, rdN, rdL, upd_e, upd_n]
    rw [h i (by omega), List.getElem_append_left (by omega)]
theorem preM.st {N : PM} {pre : List Nat} {k : Nat} {v : Int32} (h : preM N pre) (hk : pre.length ≤ k) : preM (wI N 67 k v) pre := by
  intro i hi
  simp (disch := omega) only [wI_sA, rdA, rdN, rdL, upd_e, upd_n]
  exact h i hi
theorem preM.pre {N : PM} {pre g : List Nat} (h : preM N (pre ++ g)) : preM N pre := by
  intro i hi
  have := h i (by rw [List.length_append]; omega)
  rwa [List.getElem_append_left hi] at this
theorem m1n : (-1 : Int32) + nI 1 = nI 0 := by decide
section EN
variable {σ : Type} {S n : Nat} {ok : Nat → Bool} {stop : σ → Bool} {up : σ → List Nat → σ} {g : σ → PM → Prop} {H : Nat → σ → PM → Prop} {X : σ → PM → Prop}
/-- from the head of the loop, one turn -/
def EStep (S n : Nat) (ok : Nat → Bool) (stop : σ → Bool) (up : σ → List Nat → σ) (g : σ → PM → Prop) (H : Nat → σ → PM → Prop) (X : σ → PM → Prop) : Prop := ∀ (a : σ) (N : PM) (pre : List Nat) (s : Nat), pre.length < n → g a N → stop a = false → preM N pre → (∀ x ∈ pre, x < S) → N.1 67 pre.length + nI 1 = nI s → s ≤ S → (∀ s', s ≤ s' → s' ≤ S → (∀ x, s ≤ x → x < s' → x ∈ pre) → (s' < S → ¬ s' ∈ pre) → (s' = S → H pre.length a (wI N 67 pre.length (nI s'))) ∧ (s' < S → ok s' = false → H (pre.length + 1) a (wI N 67 pre.length (nI s'))) ∧ (s' < S → ok s' = true → pre.length + 1 < n → H (pre.length + 2) a (wI (wI N 67 pre.length (nI s')) 67 (pre.length + 1) (-1))) ∧ (s' < S → ok s' = true → pre.length + 1 = n → ∀ N', g (up a (pre ++ [s'])) N' → preM N' (pre ++ [s']) → (stop (up a (pre ++ [s'])) = true → X (up a (pre ++ [s'])) N') ∧ (stop (up a (pre ++ [s'])) = false → H (pre.length + 1) (up a (pre ++ [s'])) N'))) → H (pre.length + 1) a N
theorem engine (hst : EStep S n ok stop up g H X) (hX : ∀ k a N, stop a = true → X a N → H k a N) (hg : ∀ a N k v, g a N → g a (wI N 67 k v)) : ∀ (r : Nat) (j s : Nat) (a : σ) (N : PM) (pre : List Nat), s ≤ S → S - s ≤ j → pre.length + r + 1 = n → g a N → stop a = false → preM N pre → (∀ x ∈ pre, x < S) → N.1 67 pre.length + nI 1 = nI s → (∀ N', g (foldS stop up a (flx (frm S ok 0) r pre (frm S ok s))) N' → preM N' pre → (stop (foldS stop up a (flx (frm S ok 0) r pre (frm S ok s))) = true → X (foldS stop up a (flx (frm S ok 0) r pre (frm S ok s))) N') ∧ (stop (foldS stop up a (flx (frm S ok 0) r pre (frm S ok s))) = false → H pre.length (foldS stop up a (flx (frm S ok 0) r pre (frm S ok s))) N')) → H (pre.length + 1) a N := by
  intro r
  induction r with
  | zero =>
    intro j
    induction j with
    | zero =>
      intro s a N pre h1 h2 h3 hga hsa hp hpx hs hc
      have e : s = S := by omega
      subst e
      refine hst a N pre s (by omega) hga hsa hp hpx hs (Nat.le_refl _) (fun s' q1 q2 q3 q4 => ⟨fun _ => ?_, fun z => absurd z (by omega), fun z => absurd z (by omega), fun z => absurd z (by omega)⟩)
      rw [frm_S, flx_nil, foldS_nil] at hc
      exact (hc _ (hg _ _ _ _ hga) (hp.st (Nat.le_refl _))).2 hsa
    | succ j ihj =>
      intro s a N pre h1 h2 h3 hga hsa hp hpx hs hc
      refine hst a N pre s (by omega) hga hsa hp hpx hs h1 (fun s' q1 q2 q3 q4 => ?_)
      obtain ⟨i, rfl⟩ : ∃ i, s' = s + i := ⟨s' - s, by omega⟩
      rw [flx_skip i s q2 q3] at hc
      refine ⟨fun z => ?_, fun z zo => ?_, fun z zo zk => absurd zk (by omega), fun z zo zk N' hN' hp' => ?_⟩
      · rw [z, frm_S, flx_nil, foldS_nil] at hc
        exact (hc _ (hg _ _ _ _ hga) (hp.st (Nat.le_refl _))).2 hsa
      · rw [frm_s z, if_neg (by rw [zo]; decide)] at hc
        exact ihj (s + i + 1) a _ pre (by omega) (by omega) h3 (hg _ _ _ _ hga) hsa (hp.st (Nat.le_refl _)) hpx (by simp (disch := omega) only [wI_sA, rdA, rdN, rdL, upd_e, upd_n]; rw [nI_add]) hc
      · rw [frm_s z, if_pos zo, flx_out (q4 z), fil, foldS_app, foldS_one hsa] at hc
        refine ⟨fun y => ?_, fun y => ?_⟩
        · rw [foldS_stop y] at hc
          exact (hc N' hN' hp'.pre).1 y
        · have e67 := hp' pre.length (by simp)
          rw [List.getElem_append_right (Nat.le_refl _)] at e67
          simp only [Nat.sub_self, List.getElem_cons_zero] at e67
          exact ihj (s + i + 1) _ _ pre (by omega) (by omega) h3 hN' y hp'.pre hpx (by rw [e67, nI_add]) hc
  | succ r ihr =>
    intro j
    induction j with
    | zero =>
      intro s a N pre h1 h2 h3 hga hsa hp hpx hs hc
      have e : s = S := by omega
      subst e
      refine hst a N pre s (by omega) hga hsa hp hpx hs (Nat.le_refl _) (fun s' q1 q2 q3 q4 => ⟨fun _ => ?_, fun z => absurd z (by omega), fun z => absurd z (by omega), fun z => absurd z (by omega)⟩)
      rw [frm_S, flx_nil, foldS_nil] at hc
      exact (hc _ (hg _ _ _ _ hga) (hp.st (Nat.le_refl _))).2 hsa
    | succ j ihj =>
      intro s a N pre h1 h2 h3 hga hsa hp hpx hs hc
      refine hst a N pre s (by omega) hga hsa hp hpx hs h1 (fun s' q1 q2 q3 q4 => ?_)
      obtain ⟨i, rfl⟩ : ∃ i, s' = s + i := ⟨s' - s, by omega⟩
      rw [flx_skip i s q2 q3] at hc
      refine ⟨fun z => ?_, fun z zo => ?_, fun z zo zk => ?_, fun z zo zk => absurd zk (by omega)⟩
      · rw [z, frm_S, flx_nil, foldS_nil] at hc
        exact (hc _ (hg _ _ _ _ hga) (hp.st (Nat.le_refl _))).2 hsa
      · rw [frm_s z, if_neg (by rw [zo]; decide)] at hc
        exact ihj (s + i + 1) a _ pre (by omega) (by omega) h3 (hg _ _ _ _ hga) hsa (hp.st (Nat.le_refl _)) hpx (by simp (disch := omega) only [wI_sA, rdA, rdN, rdL, upd_e, upd_n]; rw [nI_add]) hc
      · rw [frm_s z, if_pos zo, flx_out (q4 z), fil_s, foldS_app] at hc
        have hlen : (pre ++ [s + i]).length = pre.length + 1 := by simp
        have hp2 : preM (wI (wI N 67 pre.length (nI (s + i))) 67 (pre.length + 1) (-1)) (pre ++ [s + i]) := hp.push.st (by rw [hlen]; exact Nat.le_refl _)
        have hpx2 : ∀ x ∈ pre ++ [s + i], x < S := by
          intro x hx
          rcases List.mem_append.mp hx with y | y
          · exact hpx x y
          · rw [List.mem_singleton] at y; omega
        have key := ihr S 0 a (wI (wI N 67 pre.length (nI (s + i))) 67 (pre.length + 1) (-1)) (pre ++ [s + i]) (by omega) (by omega) (by omega) (hg _ _ _ _ (hg _ _ _ _ hga)) hsa hp2 hpx2 (by rw [hlen]; simp (disch := omega) only [wI_sA, rdA, rdN, rdL, upd_e, upd_n]; exact m1n) ?_
        · rw [hlen] at key; exact key
        · intro N' hN' hp'
          refine ⟨fun y => ?_, fun y => ?_⟩
          · rw [foldS_stop y] at hc
            exact (hc N' hN' hp'.pre).1 y
          · have e67 := hp' pre.length (by simp)
            rw [List.getElem_append_right (Nat.le_refl _)] at e67
            simp only [Nat.sub_self, List.getElem_cons_zero] at e67
            rw [hlen]
            exact ihj (s + i + 1) _ _ pre (by omega) (by omega) h3 hN' y hp'.pre hpx (by rw [e67, nI_add]) hc
end EN
theorem c_X9_freeSeat {G : GG} {d : Nat} {M : PM} {Q : Option Value → PM → Prop} {p h s : Nat} {pre : List Nat} (hp3 : p < 3) (hh : h ≤ 4) (hM : M.1 58 p = nI h) (hp8 : pre.length < 8) (hp : preM M pre) (hpx : ∀ x ∈ pre, x < 2 * h) (hs : M.1 67 pre.length + nI 1 = nI s) (hsS : s ≤ 2 * h) (hQ : ∀ s', s ≤ s' → s' ≤ 2 * h → (∀ x, s ≤ x → x < s' → x ∈ pre) → (s' < 2 * h → ¬ s' ∈ pre) → Q (some (.int (nI s'))) M) : PC G (d + 1) m_X9_freeSeat [.ref 56, .int (nI p), .int (nI pre.length)] M Q := by
  refine PC.of ok_X9_freeSeat (Nat.le_of_ble_eq_true rfl) (g_X9_freeSeat_0 ?_)
  simp (disch := omega) only [nle, nlt, neq, nz, nzl, nzg, nzp, nzn, nneg, nneg9, nI_add, ncl, vin, br_T, br_F, br_p, br_n, true_and, and_true, Nat.zero_add, rdA, rdN]
  rw [hs]
  have e2h : nI 2 * nI h = nI (2 * h) := pk_mul 2 h
  have key : ∀ j u, s ≤ u → u + j = 2 * h → (∀ x, s ≤ x → x < u → x ∈ pre) → PX G d m_X9_freeSeat Q 12 [some (.ref 56), some (.int (nI p)), some (.int (nI pre.length)), some (.int (nI u)), some (.int (nI 0)), none] [] M := by
    intro j
    induction j with
    | zero =>
      intro u h1 h2 h3
      apply g_X9_freeSeat_12
      simp (disch := omega) only [nle, nlt, neq, nz, nzl, nzg, nzp, nzn, nneg, nneg9, nI_add, ncl, vin, br_T, br_F, br_p, br_n, true_and, and_true, Nat.zero_add, rdA, rdN, hM, e2h]
      exact (hQ u h1 (by omega) h3 (fun z => absurd z (by omega)))
    | succ j ih =>
      intro u h1 h2 h3
      apply g_X9_freeSeat_12
      simp (disch := omega) only [nle, nlt, neq, nz, nzl, nzg, nzp, nzn, nneg, nneg9, nI_add, ncl, vin, br_T, br_F, br_p, br_n, true_and, and_true, Nat.zero_add, rdA, rdN, hM, e2h]
      have lp := up_ind (n := pre.length) (P := fun e => ∀ b : Bool, (b = true ↔ ∀ i (hi : i < pre.length), i < e → pre[i] ≠ u) → PX G d m_X9_freeSeat Q 35 [some (.ref 56), some (.int (nI p)), some (.int (nI pre.length)), some (.int (nI u)), some (.int (nI (if b then 1 else 0))), some (.int (nI e))] [] M) ?_ ?_ 0 (Nat.zero_le _)
      · exact lp true (by simp)
      · intro b hb
        apply g_X9_freeSeat_35
        cases b with
        | true =>
          have hno : ¬ u ∈ pre := by
            intro z
            obtain ⟨i, hi, e⟩ := List.getElem_of_mem z
            exact hb.mp rfl i hi hi e
          simp (disch := omega) only [nle, nlt, neq, nz, nzl, nzg, nzp, nzn, nneg, nneg9, nI_add, ncl, vin, br_T, br_F, br_p, br_n, true_and, and_true, Nat.zero_add, rdA, rdN, if_true]
          apply g_X9_freeSeat_12
          simp (disch := omega) only [nle, nlt, neq, nz, nzl, nzg, nzp, nzn, nneg, nneg9, nI_add, ncl, vin, br_T, br_F, br_p, br_n, true_and, and_true, Nat.zero_add, rdA, rdN, hM, e2h]
          exact hQ u h1 (by omega) h3 (fun _ => hno)
        | false =>
          have hin : u ∈ pre := by
            apply Classical.byContradiction
            intro z
            have : (false = true) := hb.mpr (fun i hi _ e => z (e ▸ List.getElem_mem hi))
            cases this
          simp (disch := omega) only [nle, nlt, neq, nz, nzl, nzg, nzp, nzn, nneg, nneg9, nI_add, ncl, vin, br_T, br_F, br_p, br_n, true_and, and_true, Nat.zero_add, rdA, rdN, Bool.false_eq_true, if_false]
          exact ih (u + 1) (by omega) (by omega) (fun x a b => by
            by_cases e : x = u
            · rw [e]; exact hin
            · exact h3 x a (by omega))
      · intro e he ih2 b hb
        have hpe := hp e he
        have hpe2 := hpx _ (List.getElem_mem he)
        apply g_X9_freeSeat_35
        cases b with
        | true =>
          simp (disch := omega) only [nle, nlt, neq, nz, nzl, nzg, nzp, nzn, nneg, nneg9, nI_add, ncl, vin, br_T, br_F, br_p, br_n, true_and, and_true, Nat.zero_add, rdA, rdN, if_true]
          rw [hpe, neq (by omega) (by omega)]
          refine b2 (fun z => ?_) (fun z => ?_)
          · exact ih2 false ⟨fun q => (by cases q), fun q => absurd z (q e he (by omega))⟩
          · exact ih2 true ⟨fun _ i hi hie => by
              by_cases q : i = e
              · subst q; exact z
              · exact hb.mp rfl i hi (by omega), fun _ => rfl⟩
        | false =>
          simp (disch := omega) only [nle, nlt, neq, nz, nzl, nzg, nzp, nzn, nneg, nneg9, nI_add, ncl, vin, br_T, br_F, br_p, br_n, true_and, and_true, Nat.zero_add, rdA, rdN, Bool.false_eq_true, if_false]
          exact ih2 false ⟨fun q => (by cases q), fun q => hb.mpr (fun i hi hie => q i hi (by omega))⟩
  exact key (2 * h - s) s (Nat.le_refl _) (by omega) (fun x a b => absurd a (by omega))
/-- the children of a set -/
def bitsL (t n : Nat) : List Nat := (List.range n).filter (fun c => t.testBit c)
theorem bitsL_s {t n : Nat} : bitsL t (n + 1) = bitsL t n ++ if t.testBit n then [n] else [] := by
  unfold bitsL
  rw [List.range_succ, List.filter_append]
  congr 1
  by_cases h : t.testBit n = true
  · simp [h]
  · simp [h]
theorem bitsL_len (t : Nat) : ∀ n, (bitsL t n).length = cB (fun c => t.testBit c) n
  | 0 => rfl
  | n + 1 => by
    rw [bitsL_s, List.length_append, bitsL_len t n, cB]
    split <;> simp
theorem bitsL_mem {t n c : Nat} : c ∈ bitsL t n ↔ c < n ∧ t.testBit c = true := by
  unfold bitsL; rw [List.mem_filter, List.mem_range]
theorem shr1 : ∀ t, t < 256 → ∀ k, k < 8 → ((nI t >>> (nI k &&& 31)) &&& nI 1) = nI (if t.testBit k then 1 else 0) := by decide +kernel
theorem c_X9_seats {G : GG} {d : Nat} {M : PM} {Q : Option Value → PM → Prop} {nC t : Nat} (hC : nC ≤ 8) (ht : t < 256) (h15 : M.1 56 15 = nI nC) (hQ : ∀ f g : Nat → Int32, (∀ k, ¬ k = 24 → f k = M.1 56 k) → f 24 = nI (bitsL t nC).length → (∀ i (h : i < (bitsL t nC).length), g i = nI (bitsL t nC)[i]) → Q none (sA (sA M 66 g) 56 f)) : PC G (d + 1) m_X9_seats [.ref 56, .int (nI t)] M Q := by
  refine PC.of ok_X9_seats (Nat.le_of_ble_eq_true rfl) (g_X9_seats_0 ?_)
  have key := up_ind (n := nC) (P := fun k => ∀ f g : Nat → Int32, (∀ k, ¬ k = 24 → f k = M.1 56 k) → f 24 = nI (bitsL t k).length → (∀ i (h : i < (bitsL t k).length), g i = nI (bitsL t k)[i]) → PX G d m_X9_seats Q 7 [some (.ref 56), some (.int (nI t)), some (.int (nI k))] [] (sA (sA M 66 g) 56 f)) ?_ ?_ 0 (Nat.zero_le _)
  · have k0 := key (upd (M.1 56) 24 (nI 0)) (M.1 66) (fun k h => by rw [upd_n h]) (by rw [upd_e]; rfl) (fun i h => absurd h (by simp [bitsL]))
    rw [sA_self] at k0
    exact k0
  · intro f g h1 h2 h3
    apply g_X9_seats_7
    have e15 : f 15 = nI nC := by rw [h1 15 (by omega)]; exact h15
    simp (disch := omega) only [nle, nlt, neq, nz, nzl, nzg, nzp, nzn, nneg, nneg9, nI_add, ncl, vin, br_T, br_F, br_p, br_n, true_and, and_true, Nat.zero_add, rdA, rdN, e15]
    exact (hQ f g h1 h2 h3)
  · intro k hk ih f g h1 h2 h3
    apply g_X9_seats_7
    have e15 : f 15 = nI nC := by rw [h1 15 (by omega)]; exact h15
    have hlen := cB_le (fun c => t.testBit c) k
    rw [← bitsL_len] at hlen
    simp (disch := omega) only [nle, nlt, neq, nz, nzl, nzg, nzp, nzn, nneg, nneg9, nI_add, ncl, vin, br_T, br_F, br_p, br_n, true_and, and_true, Nat.zero_add, rdA, rdN, e15, h2]
    rw [shr1 t ht k (by omega), neq (by split <;> omega) (by omega)]
    have hs := bitsL_s (t := t) (n := k)
    refine b2 (fun z => ?_) (fun z => ?_)
    · have hb : t.testBit k = true := by
        apply Classical.byContradiction
        intro q
        rw [if_neg q] at z; omega
      rw [if_pos hb] at hs
      have hl : (bitsL t (k + 1)).length = (bitsL t k).length + 1 := by rw [hs]; simp
      have e := ih (upd f 24 (nI ((bitsL t k).length + 1))) (upd g (bitsL t k).length (nI k)) (fun j hj => by rw [upd_n hj]; exact h1 j hj) (by rw [upd_e, hl]) (fun i hi => by
        rw [hl] at hi
        by_cases q : i = (bitsL t k).length
        · subst q
          rw [upd_e]
          simp only [hs]
          simp
        · rw [upd_n q, h3 i (by omega)]
          simp only [hs]
          rw [List.getElem_append_left (by omega)])
      have emem : wI (wI (sA (sA M 66 g) 56 f) 66 (bitsL t k).length (nI k)) 56 24 (nI ((bitsL t k).length + 1)) = sA (sA M 66 (upd g (bitsL t k).length (nI k))) 56 (upd f 24 (nI ((bitsL t k).length + 1))) := by
        unfold wI sA
        congr 1
        funext a
        by_cases a1 : a = 56
        · subst a1; simp [va_up]
        · by_cases a2 : a = 66
          · subst a2; simp [va_up]
          · simp [va_up, a1, a2]
      rw [emem]
      exact e
    · have hb : ¬ t.testBit k = true := fun q => z (by rw [if_pos q])
      rw [if_neg hb, List.append_nil] at hs
      exact ih f g h1 (by rw [h2, hs]) (fun i hi => by simp only [hs] at hi ⊢; exact h3 i hi)
