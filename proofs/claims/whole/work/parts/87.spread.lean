/-! seat by seat: which moments a set can make -/
def Ach (nC : Nat) (w st : Nat → Int) : Nat → Nat → Int → Prop
  | 0, s, m => s = 0 ∧ m = 0
  | k + 1, s, m => Ach nC w st k s m ∨ ∃ c, c < nC ∧ s.testBit c = true ∧ Ach nC w st k (s ^^^ 2 ^ c) (m - w c * st k)
def bU (st : Nat → Int) : Nat → Int
  | 0 => 0
  | k + 1 => bU st k + max 0 (60 * st k)
def bD (st : Nat → Int) : Nat → Int
  | 0 => 0
  | k + 1 => bD st k + max 0 (-(60 * st k))
theorem mul_u {w s : Int} (h1 : 0 ≤ w) (h2 : w ≤ 60) (h3 : -4 ≤ s) (h4 : s ≤ 4) : w * s ≤ max 0 (60 * s) ∧ -(max 0 (-(60 * s))) ≤ w * s := by
  rcases (show s = -4 ∨ s = -3 ∨ s = -2 ∨ s = -1 ∨ s = 0 ∨ s = 1 ∨ s = 2 ∨ s = 3 ∨ s = 4 by omega) with h | h | h | h | h | h | h | h | h <;> subst h <;> omega
theorem Ach_b {nC : Nat} {w st : Nat → Int} (hw : ∀ c, c < nC → 0 ≤ w c ∧ w c ≤ 60) : ∀ (k s : Nat) (m : Int), (∀ x, x < k → -4 ≤ st x ∧ st x ≤ 4) → Ach nC w st k s m → -(bD st k) ≤ m ∧ m ≤ bU st k
  | 0, s, m, _, h => by obtain ⟨-, rfl⟩ := h; exact ⟨Int.le_refl _, Int.le_refl _⟩
  | k + 1, s, m, hs, h => by
    rw [bU, bD]
    rcases h with h | ⟨c, hc, -, h⟩
    · have := Ach_b hw k s m (fun x hx => hs x (by omega)) h
      omega
    · have := Ach_b hw k _ _ (fun x hx => hs x (by omega)) h
      have := mul_u (hw c hc).1 (hw c hc).2 (hs k (by omega)).1 (hs k (by omega)).2
      omega
theorem b_600 : ∀ h, h ≤ 4 → ∀ k, k ≤ 2 * h → bU (stp h) k ≤ 600 ∧ bD (stp h) k ≤ 600 := by decide
theorem xor_lt8 : ∀ s, s < 256 → ∀ c, c < 8 → s.testBit c = true → s ^^^ 2 ^ c < s := by decide +kernel
section SP
variable {nC h : Nat} {w : Nat → Int}
theorem c_X1_addSeatOf {G : GG} {d : Nat} {M : PM} {Q : Option Value → PM → Prop} {t : Nat} {st : Int} (hC : nC ≤ 8) (ht : t < 2 ^ nC) (h6 : M.1 1 6 = nI nC) (h4 : ∀ c, c < nC → M.1 4 c = zI (w c)) (hw : ∀ c, c < nC → 0 ≤ w c ∧ w c ≤ 60) (hs1 : -4 ≤ st) (hs2 : st ≤ 4) (hQ : ∀ N, FrL M N → (∀ s, ¬ s = t → ∀ j, j < 19 → N.2 40 (19 * s + j) = M.2 40 (19 * s + j)) → (∀ z, bA N t z ↔ bA M t z ∨ ∃ c, c < nC ∧ t.testBit c = true ∧ (0 ≤ z ∧ z < 1216 ∧ bA M (t ^^^ 2 ^ c) (z - w c * st))) → Q none N) : PC G (d + 3) m_X1_addSeatOf [.ref 39, .ref 1, .int (nI t), .int (zI st)] M Q := by
  have hp2 : 2 ^ nC ≤ 2 ^ 8 := Nat.pow_le_pow_right (by decide) hC
  refine PC.of ok_X1_addSeatOf (Nat.le_of_ble_eq_true rfl) (g_X1_addSeatOf_0 ?_)
  refine up_ind (n := nC) (P := fun k => ∀ N, FrL M N → (∀ s, ¬ s = t → ∀ j, j < 19 → N.2 40 (19 * s + j) = M.2 40 (19 * s + j)) → (∀ z, bA N t z ↔ bA M t z ∨ ∃ c, c < k ∧ t.testBit c = true ∧ (0 ≤ z ∧ z < 1216 ∧ bA M (t ^^^ 2 ^ c) (z - w c * st))) → PX G (d + 2) m_X1_addSeatOf Q 3 [some (.ref 39), some (.ref 1), some (.int (nI t)), some (.int (zI st)), some (.int (nI k))] [] N) ?_ ?_ 0 (Nat.zero_le _) M (FrL.refl M) (fun _ _ _ _ => rfl) (fun z => ⟨Or.inl, fun q => q.elim id (fun ⟨c, hc, _⟩ => absurd hc (by omega))⟩)
  · intro N hf hr hb
    apply g_X1_addSeatOf_3
    have e6 : N.1 1 6 = nI nC := by rw [hf.1]; exact h6
    simp (disch := omega) only [nle, nlt, neq, nz, nzl, nzg, nzp, nzn, nneg, nneg9, nI_add, ncl, vin, br_T, br_F, br_p, br_n, true_and, and_true, Nat.zero_add, rdA, rdN, e6]
    exact hQ N hf hr hb
  · intro k hk ih N hf hr hb
    apply g_X1_addSeatOf_3
    have e6 : N.1 1 6 = nI nC := by rw [hf.1]; exact h6
    simp (disch := omega) only [nle, nlt, neq, nz, nzl, nzg, nzp, nzn, nneg, nneg9, nI_add, ncl, vin, br_T, br_F, br_p, br_n, true_and, and_true, Nat.zero_add, rdA, rdN, e6]
    rw [and_bit (by omega)]
    refine b2 (fun z => ih N hf hr (fun y => ?_)) (fun z => ?_)
    · rw [hb y]
      constructor
      · rintro (q | ⟨c, hc, q⟩)
        · exact Or.inl q
        · exact Or.inr ⟨c, by omega, q⟩
      · rintro (q | ⟨c, hc, q⟩)
        · exact Or.inl q
        · by_cases e : c = k
          · subst e; rw [q.1] at z; cases z
          · exact Or.inr ⟨c, by omega, q⟩
    · have hbit : t.testBit k = true := by cases hh : t.testBit k; exact absurd hh z; rfl
      have hlt := xor_lt8 t (by omega) k (by omega) hbit
      have e4 : N.1 4 k = zI (w k) := by rw [hf.1]; exact h4 k hk
      rw [xor_n (by omega), e4, ← zI_mul]
      have hwb := mul_b (hw k hk).1 hs1 hs2
      have hw60 := (hw k hk).2
      refine c_X1_mergeShifted (by omega) (by omega) (by omega) (by omega) (by omega) (fun N2 hf2 hr2 hb2 => ?_)
      simp only [gN]
      have same : ∀ z, bA N (t ^^^ 2 ^ k) z ↔ bA M (t ^^^ 2 ^ k) z := fun z => by
        unfold bA
        constructor
        · rintro ⟨p, q1, q2, q3⟩
          exact ⟨p, q1, q2, by rw [← hr _ (by omega) (p / 64) (by omega)]; exact q3⟩
        · rintro ⟨p, q1, q2, q3⟩
          exact ⟨p, q1, q2, by rw [hr _ (by omega) (p / 64) (by omega)]; exact q3⟩
      refine ih N2 (hf.trans hf2) (fun s hs j hj => by rw [hr2 s hs j hj, hr s hs j hj]) (fun y => ?_)
      rw [hb2 y, hb y, same]
      constructor
      · rintro ((q | ⟨c, hc, q⟩) | q)
        · exact Or.inl q
        · exact Or.inr ⟨c, by omega, q⟩
        · exact Or.inr ⟨k, by omega, hbit, q⟩
      · rintro (q | ⟨c, hc, q⟩)
        · exact Or.inl (Or.inl q)
        · by_cases e : c = k
          · subst e; exact Or.inr q.2
          · exact Or.inl (Or.inr ⟨c, by omega, q⟩)
theorem bit24 : ∀ c, c < 64 → (16777216#64).getLsbD c = decide (c = 24) := by decide
theorem c_X1_spread {G : GG} {d : Nat} {M : PM} {Q : Option Value → PM → Prop} {p : Nat} (hp : p < 3) (hh : h ≤ 4) (hC : nC ≤ 8) (h6 : M.1 1 6 = nI nC) (h2 : M.1 2 p = nI h) (h4 : ∀ c, c < nC → M.1 4 c = zI (w c)) (hw : ∀ c, c < nC → 0 ≤ w c ∧ w c ≤ 60) (hQ : ∀ N, FrL M N → (∀ s, s < 2 ^ nC → ∀ z, bA N s z ↔ Ach nC w (stp h) (2 * h) s (z - 600)) → Q none N) : PC G (d + 4) m_X1_spread [.ref 39, .ref 1, .int (nI p)] M Q := by
  have hp2 : 2 ^ nC ≤ 2 ^ 8 := Nat.pow_le_pow_right (by decide) hC
  have hp1 := Nat.two_pow_pos nC
  have e2h : nI 2 * nI h = nI (2 * h) := pk_mul 2 h
  refine PC.of ok_X1_spread (Nat.le_of_ble_eq_true rfl) (g_X1_spread_0 ?_)
  rw [h6, sh1 nC (by omega)]
  have e19 : nI (2 ^ nC) * nI 19 = nI (2 ^ nC * 19) := pk_mul _ _
  have bnd : ∀ k, k ≤ 2 * h → ∀ s z, Ach nC w (stp h) k s (z - 600) → 0 ≤ z ∧ z < 1216 := fun k hk s z ha => by
    have h1 := Ach_b hw k s _ (fun x hx => by have := stp_b hh (x := x) (by omega); omega) ha
    have h2 := b_600 h hh k hk
    omega
  -- the seats
  have seats : ∀ N, FrL M N → (∀ s, s < 2 ^ nC → ∀ z, bA N s z ↔ Ach nC w (stp h) 0 s (z - 600)) → PX G (d + 3) m_X1_spread Q 54 [some (.ref 39), some (.ref 1), none, some (.int (nI (2 ^ nC))), some (.int (nI h)), some (.int (nI 0)), none, none] [] N := by
    refine up_ind (n := 2 * h) (P := fun k => ∀ N, FrL M N → (∀ s, s < 2 ^ nC → ∀ z, bA N s z ↔ Ach nC w (stp h) k s (z - 600)) → PX G (d + 3) m_X1_spread Q 54 [some (.ref 39), some (.ref 1), none, some (.int (nI (2 ^ nC))), some (.int (nI h)), some (.int (nI k)), none, none] [] N) ?_ ?_ 0 (Nat.zero_le _)
    · intro N hf hb
      apply g_X1_spread_54
      simp (disch := omega) only [nle, nlt, neq, nz, nzl, nzg, nzp, nzn, nneg, nneg9, nI_add, ncl, vin, br_T, br_F, br_p, br_n, true_and, and_true, Nat.zero_add, rdA, rdN, e2h]
      exact hQ N hf hb
    · intro k hk ih N hf hb
      apply g_X1_spread_54
      simp (disch := omega) only [nle, nlt, neq, nz, nzl, nzg, nzp, nzn, nneg, nneg9, nI_add, ncl, vin, br_T, br_F, br_p, br_n, true_and, and_true, Nat.zero_add, rdA, rdN, e2h]
      refine c_stepOfSeat hh hk ?_
      simp only [gI]
      have hsb := stp_b hh hk
      have inner : ∀ j, j < 2 ^ nC → ∀ N, FrL M N → (∀ s, s < 2 ^ nC → j < s → ∀ z, bA N s z ↔ Ach nC w (stp h) (k + 1) s (z - 600)) → (∀ s, s ≤ j → ∀ z, bA N s z ↔ Ach nC w (stp h) k s (z - 600)) → PX G (d + 3) m_X1_spread Q 77 [some (.ref 39), some (.ref 1), none, some (.int (nI (2 ^ nC))), some (.int (nI h)), some (.int (nI k)), some (.int (zI (stp h k))), some (.int (nI j))] [] N := by
        intro j
        induction j with
        | zero =>
          intro _ N hf hb1 hb2
          apply g_X1_spread_77
          simp (disch := omega) only [nle, nlt, neq, nz, nzl, nzg, nzp, nzn, nneg, nneg9, nI_add, ncl, vin, br_T, br_F, br_p, br_n, true_and, and_true, Nat.zero_add, rdA, rdN]
          refine ih N hf (fun s hs z => ?_)
          by_cases e : s = 0
          · subst e
            rw [hb2 0 (Nat.le_refl _)]
            constructor
            · exact Or.inl
            · rintro (q | ⟨c, -, q, -⟩)
              · exact q
              · simp at q
          · exact hb1 s hs (by omega) z
        | succ j ihj =>
          intro hj N hf hb1 hb2
          apply g_X1_spread_77
          simp (disch := omega) only [nle, nlt, neq, nz, nzl, nzg, nzp, nzn, nneg, nneg9, nI_add, ncl, vin, br_T, br_F, br_p, br_n, true_and, and_true, Nat.zero_add, rdA, rdN]
          refine c_X1_addSeatOf (w := w) hC hj (by rw [hf.1]; exact h6) (fun c hc => by rw [hf.1]; exact h4 c hc) hw hsb.1 hsb.2.1 (fun N2 hf2 hr2 hbb => ?_)
          simp only [gN]
          rw [pk_m1]
          have same : ∀ s, ¬ s = j + 1 → ∀ z, bA N2 s z ↔ bA N s z := fun s hs z => by
            unfold bA
            constructor
            · rintro ⟨p, q1, q2, q3⟩
              exact ⟨p, q1, q2, by rw [← hr2 s hs (p / 64) (by omega)]; exact q3⟩
            · rintro ⟨p, q1, q2, q3⟩
              exact ⟨p, q1, q2, by rw [hr2 s hs (p / 64) (by omega)]; exact q3⟩
          refine ihj (by omega) N2 (hf.trans hf2) (fun s hs hjs z => ?_) (fun s hs z => by rw [same s (by omega)]; exact hb2 s (by omega) z)
          by_cases e : s = j + 1
          · subst e
            rw [hbb z, hb2 _ (Nat.le_refl _)]
            constructor
            · rintro (q | ⟨c, hc, hbit, q1, q2, q3⟩)
              · exact Or.inl q
              · refine Or.inr ⟨c, hc, hbit, ?_⟩
                have hlt := xor_lt8 (j + 1) (by omega) c (by omega) hbit
                have := (hb2 _ (by omega) _).mp q3
                rw [show z - w c * stp h k - 600 = z - 600 - w c * stp h k by omega] at this
                exact this
            · intro q
              have hbz := bnd (k + 1) (by omega) _ z q
              rcases q with q | ⟨c, hc, hbit, q⟩
              · exact Or.inl q
              · refine Or.inr ⟨c, hc, hbit, hbz.1, hbz.2, ?_⟩
                have hlt := xor_lt8 (j + 1) (by omega) c (by omega) hbit
                refine (hb2 _ (by omega) _).mpr ?_
                rw [show z - w c * stp h k - 600 = z - 600 - w c * stp h k by omega]
                exact q
          · rw [same s e]; exact hb1 s hs (by omega) z
      rw [nsub (by omega)]
      exact inner (2 ^ nC - 1) (by omega) N hf (fun s hs hjs => absurd hjs (by omega)) (fun s hs z => hb s (by omega) z)
  -- the rows, empty
  refine up_ind (n := 2 ^ nC * 19) (P := fun i => ∀ N, FrL M N → (∀ j, j < i → N.2 40 j = 0) → PX G (d + 3) m_X1_spread Q 10 [some (.ref 39), some (.ref 1), some (.int (nI p)), some (.int (nI (2 ^ nC))), some (.int (nI i)), none, none, none] [] N) ?_ ?_ 0 (Nat.zero_le _) M (FrL.refl M) (fun j hj => absurd hj (by omega))
  · intro N hf hz
    apply g_X1_spread_10
    simp (disch := omega) only [nle, nlt, neq, nz, nzl, nzg, nzp, nzn, nneg, nneg9, nI_add, ncl, vin, br_T, br_F, br_p, br_n, true_and, and_true, Nat.zero_add, rdA, rdN, e19]
    have e9 : (nI 9).toNatClampNeg = 9 := rfl
    have eh : N.1 2 p = nI h := by rw [hf.1]; exact h2
    rw [eh]
    refine seats _ hf.wr (fun s hs z => ?_)
    unfold bA
    constructor
    · rintro ⟨pos, q1, q2, q3⟩
      by_cases e : 19 * s + pos / 64 = 9
      · rw [e, wL_e] at q3
        have q3 : (16777216#64).getLsbD (pos % 64) = true := q3
        rw [bit24 _ (by omega), decide_eq_true_eq] at q3
        exact ⟨by omega, by omega⟩
      · rw [wL_o e, hz _ (by omega)] at q3
        have : (0#64).getLsbD (pos % 64) = true := q3
        simp at this
    · rintro ⟨q1, q2⟩
      subst q1
      refine ⟨600, by omega, by omega, ?_⟩
      have : (wL N 40 9 16777216).2 40 9 = 16777216 := wL_e
      show ((wL N 40 9 16777216).2 40 9).toBitVec.getLsbD 24 = true
      rw [this]
      rfl
  · intro i hi ih N hf hz
    apply g_X1_spread_10
    simp (disch := omega) only [nle, nlt, neq, nz, nzl, nzg, nzp, nzn, nneg, nneg9, nI_add, ncl, vin, br_T, br_F, br_p, br_n, true_and, and_true, Nat.zero_add, rdA, rdN, e19]
    refine ih _ hf.wr (fun j hj => ?_)
    by_cases e : j = i
    · subst e; exact wL_e
    · rw [wL_o e]; exact hz j (by omega)
end SP
