/-! rows of bits -/
def FrL (M N : PM) : Prop := N.1 = M.1 ∧ ∀ q, ¬ q = 40 → N.2 q = M.2 q
theorem FrL.refl (M : PM) : FrL M M := ⟨rfl, fun _ _ => rfl⟩
theorem FrL.trans {A B C : PM} (h : FrL A B) (h2 : FrL B C) : FrL A C := ⟨h2.1.trans h.1, fun q a => (h2.2 q a).trans (h.2 q a)⟩
theorem FrL.eqv {M N : PM} (h : FrL M N) : Eqv M N := ⟨fun q k _ => by rw [h.1], by rw [h.2 0 (by omega)], by rw [h.2 56 (by omega)]⟩
theorem FrL.wr {M N : PM} {k : Nat} {v : Int64} (h : FrL M N) : FrL M (wL N 40 k v) := ⟨h.1, fun q a => by rw [← h.2 q a]; funext j; exact wL_n a⟩
theorem wL_o {M : PM} {q k j : Nat} {v : Int64} (h : ¬ j = k) : (wL M q k v).2 q j = M.2 q j := by simp [wL, va_up, vp_updL, h]
def bA (N : PM) (s : Nat) (z : Int) : Prop := ∃ pos : Nat, (pos : Int) = z ∧ pos < 1216 ∧ (N.2 40 (19 * s + pos / 64)).toBitVec.getLsbD (pos % 64) = true
def wd (N : PM) (s : Nat) (z : Int) : Int64 := if 0 ≤ z ∧ z < 19 then N.2 40 (19 * s + z.toNat) else 0
theorem wd_bit {N : PM} {s b : Nat} {z : Int} (hb : b < 64) : ((wd N s z).toBitVec.getLsbD b = true) ↔ bA N s (64 * z + b) := by
  unfold wd bA
  by_cases h : 0 ≤ z ∧ z < 19
  · rw [if_pos h]
    constructor
    · intro q
      refine ⟨64 * z.toNat + b, by omega, by omega, ?_⟩
      rw [show (64 * z.toNat + b) / 64 = z.toNat by omega, show (64 * z.toNat + b) % 64 = b by omega]
      exact q
    · rintro ⟨pos, e, hp, q⟩
      rw [show pos / 64 = z.toNat by omega, show pos % 64 = b by omega] at q
      exact q
  · rw [if_neg h]
    constructor
    · intro q
      exfalso
      have : (0 : Int64).toBitVec.getLsbD b = false := by show (0#64).getLsbD b = false; simp
      rw [this] at q; cases q
    · rintro ⟨pos, e, hp, q⟩
      exact absurd (show 0 ≤ z ∧ z < 19 by omega) h
theorem c_X1_wordAt {G : GG} {d : Nat} {M : PM} {Q : Option Value → PM → Prop} {s : Nat} {z : Int} (hs : s < 256) (h1 : -1000 ≤ z) (h2 : z ≤ 1000) (hQ : Q (some (.long (wd M s z))) M) : PC G (d + 1) m_X1_wordAt [.ref 39, .int (nI s), .int (zI z)] M Q := by
  refine PC.of ok_X1_wordAt (Nat.le_of_ble_eq_true rfl) (g_X1_wordAt_0 ?_)
  have e0 : (0 : Int32) = zI 0 := by decide
  have e19 : nI 19 = zI 19 := by decide
  unfold wd at hQ
  have c0 : (zI z < 0) = (z < 0) := by rw [e0, zI_lt (by omega) (by omega) (by omega) (by omega)]
  have c19 : (nI 19 ≤ zI z) = (19 ≤ z) := by rw [e19, zI_le (by omega) (by omega) (by omega) (by omega)]
  rw [c0, c19]
  refine b2 (fun q => ?_) (fun q => b2 (fun w => ?_) (fun w => ?_))
  · rw [if_neg (by omega)] at hQ; exact hQ
  · rw [if_neg (by omega)] at hQ; exact hQ
  · obtain ⟨k, rfl⟩ : ∃ k : Nat, z = k := ⟨z.toNat, by omega⟩
    rw [if_pos (by omega)] at hQ
    rw [zI_n, pk_mul, nI_add, vin (by omega) (by omega), ncl (by omega), true_and]
    rw [show s * 19 + k = 19 * s + (k : Int).toNat by omega]
    exact hQ
theorem sh_b : ∀ k : Nat, k < 481 → (zI ((k : Int) - 240)) >>> (nI 6 &&& 31) = zI (((k : Int) - 240) / 64) ∧ zI ((k : Int) - 240) &&& nI 63 = nI (((k : Int) - 240) % 64).toNat := by decide +kernel
theorem shl_k : ∀ k, k < 64 → ((nI k).toInt64 &&& 63) = Int64.ofNat k ∧ ((Int64.ofNat k).toBitVec.smod 64).toNat = k := by decide +kernel
theorem shr_k : ∀ k, k < 64 → ((nI k).toInt64.toUInt64 &&& Int64.toUInt64 63) = UInt64.ofNat k ∧ ((UInt64.ofNat k).toBitVec % 64).toNat = k := by decide +kernel
theorem shr_c : ∀ k, k < 64 → 0 < k → ((nI 64 - nI k).toInt64.toUInt64 &&& Int64.toUInt64 63) = UInt64.ofNat (64 - k) := by decide +kernel
theorem bit_shl (r : Int64) (k i : Nat) (hk : k < 64) (hi : i < 64) : (r <<< ((nI k).toInt64 &&& 63)).toBitVec.getLsbD i = (!decide (i < k) && r.toBitVec.getLsbD (i - k)) := by
  rw [(shl_k k hk).1, Int64.toBitVec_shiftLeft, BitVec.shiftLeft_eq', (shl_k k hk).2, BitVec.getLsbD_shiftLeft]
  simp [hi]
theorem bit_shr (r : Int64) (x : UInt64) (k i : Nat) (hx : x = UInt64.ofNat k) (hk : k < 64) : ((r.toUInt64 >>> x).toInt64).toBitVec.getLsbD i = r.toBitVec.getLsbD (k + i) := by
  subst hx
  show (r.toUInt64 >>> UInt64.ofNat k).toBitVec.getLsbD i = _
  rw [UInt64.toBitVec_shiftRight, BitVec.ushiftRight_eq', (shr_k k hk).2, BitVec.getLsbD_ushiftRight]
  rfl
theorem c_X1_mergeShifted {G : GG} {d : Nat} {M : PM} {Q : Option Value → PM → Prop} {t f : Nat} {b : Int} (ht : t < 256) (hf : f < 256) (hne : ¬ t = f) (h1 : -240 ≤ b) (h2 : b ≤ 240) (hQ : ∀ N, FrL M N → (∀ s, ¬ s = t → ∀ j, j < 19 → N.2 40 (19 * s + j) = M.2 40 (19 * s + j)) → (∀ z, bA N t z ↔ bA M t z ∨ (0 ≤ z ∧ z < 1216 ∧ bA M f (z - b))) → Q none N) : PC G (d + 2) m_X1_mergeShifted [.ref 39, .int (nI t), .int (nI f), .int (zI b)] M Q := by
  refine PC.of ok_X1_mergeShifted (Nat.le_of_ble_eq_true rfl) (g_X1_mergeShifted_0 ?_)
  obtain ⟨e1, e2⟩ := sh_b (b + 240).toNat (by omega)
  rw [show (((b + 240).toNat : Nat) : Int) - 240 = b by omega] at e1 e2
  rw [e1, e2]
  have hk64 : (b % 64).toNat < 64 := by omega
  generalize hkd : (b % 64).toNat = k at hk64 ⊢
  generalize hwd : b / 64 = wz
  have hb : b = 64 * wz + k := by omega
  have frow : ∀ N : PM, (∀ s, ¬ s = t → ∀ j, j < 19 → N.2 40 (19 * s + j) = M.2 40 (19 * s + j)) → ∀ z, bA N f z ↔ bA M f z := fun N hr z => by
    unfold bA
    constructor
    · rintro ⟨p, q1, q2, q3⟩
      exact ⟨p, q1, q2, by rw [← hr f (fun q => hne q.symm) (p / 64) (by omega)]; exact q3⟩
    · rintro ⟨p, q1, q2, q3⟩
      exact ⟨p, q1, q2, by rw [hr f (fun q => hne q.symm) (p / 64) (by omega)]; exact q3⟩
  refine up_ind (n := 19) (P := fun i => ∀ N, FrL M N → (∀ s, ¬ s = t → ∀ j, j < 19 → N.2 40 (19 * s + j) = M.2 40 (19 * s + j)) → (∀ j, j < i → ∀ c, c < 64 → ((N.2 40 (19 * t + j)).toBitVec.getLsbD c = true ↔ (M.2 40 (19 * t + j)).toBitVec.getLsbD c = true ∨ bA M f (64 * j + c - b))) → (∀ j, i ≤ j → N.2 40 (19 * t + j) = M.2 40 (19 * t + j)) → PX G (d + 1) m_X1_mergeShifted Q 15 [some (.ref 39), some (.int (nI t)), some (.int (nI f)), none, some (.int (zI wz)), some (.int (nI k)), some (.int (nI i)), none, none] [] N) ?_ ?_ 0 (Nat.zero_le _) M (FrL.refl M) (fun _ _ _ _ => rfl) (fun j hj => absurd hj (by omega)) (fun _ _ => rfl)
  · intro N hfr hr hbt _
    apply g_X1_mergeShifted_15
    simp (disch := omega) only [nle, nlt, neq, nz, nzl, nzg, nzp, nzn, nneg, nneg9, nI_add, ncl, vin, br_T, br_F, br_p, br_n, true_and, and_true, Nat.zero_add, rdA, rdN]
    refine hQ N hfr hr (fun z => ?_)
    constructor
    · rintro ⟨p, q1, q2, q3⟩
      rcases (hbt (p / 64) (by omega) (p % 64) (by omega)).mp q3 with w | w
      · exact Or.inl ⟨p, q1, q2, w⟩
      · refine Or.inr ⟨by omega, by omega, ?_⟩
        rw [show z - b = 64 * ((p / 64 : Nat) : Int) + ((p % 64 : Nat) : Int) - b by omega]
        exact w
    · rintro (⟨p, q1, q2, q3⟩ | ⟨q1, q2, q3⟩)
      · exact ⟨p, q1, q2, (hbt (p / 64) (by omega) (p % 64) (by omega)).mpr (Or.inl q3)⟩
      · refine ⟨z.toNat, by omega, by omega, (hbt (z.toNat / 64) (by omega) (z.toNat % 64) (by omega)).mpr (Or.inr ?_)⟩
        rw [show 64 * ((z.toNat / 64 : Nat) : Int) + ((z.toNat % 64 : Nat) : Int) - b = z - b by omega]
        exact q3
  · intro i hi ih N hfr hr hbt hold
    apply g_X1_mergeShifted_15
    simp (disch := omega) only [nle, nlt, neq, nz, nzl, nzg, nzp, nzn, nneg, nneg9, nI_add, ncl, vin, br_T, br_F, br_p, br_n, true_and, and_true, Nat.zero_add, rdA, rdN]
    have step : ∀ v : Int64, (∀ c, c < 64 → (v.toBitVec.getLsbD c = true ↔ bA N f (64 * i + c - b))) → PX G (d + 1) m_X1_mergeShifted Q 15 [some (.ref 39), some (.int (nI t)), some (.int (nI f)), none, some (.int (zI wz)), some (.int (nI k)), some (.int (nI (i + 1))), none, none] [] (wL N 40 (t * 19 + i) (N.2 40 (t * 19 + i) ||| v)) := by
      intro v hv
      rw [show t * 19 + i = 19 * t + i by omega]
      refine ih _ hfr.wr (fun s hs j hj => ?_) (fun j hj c hc => ?_) (fun j hj => ?_)
      · rw [wL_o (by omega)]; exact hr s hs j hj
      · by_cases e : j = i
        · subst e
          rw [wL_e, hold j (Nat.le_refl _)]
          show (((M.2 40 (19 * t + j)).toBitVec ||| v.toBitVec).getLsbD c = true) ↔ _
          rw [BitVec.getLsbD_or, Bool.or_eq_true, hv c hc, frow N hr]
        · rw [wL_o (by omega)]; exact hbt j (by omega) c hc
      · rw [wL_o (by omega)]; exact hold j (by omega)
    have ez : nI i - zI wz = zI (i - wz) := by rw [zI_sub, zI_n]
    rw [ez]
    refine c_X1_wordAt hf (by omega) (by omega) ?_
    simp only [gL]
    rw [pk_mul, nI_add]
    refine b2 (fun z => ?_) (fun z => ?_)
    · simp (disch := omega) only [nle, nlt, neq, nz, nzl, nzg, nzp, nzn, nneg, nneg9, nI_add, ncl, vin, br_T, br_F, br_p, br_n, true_and, and_true, Nat.zero_add, rdA, rdN]
      refine step _ (fun c hc => ?_)
      rw [bit_shl _ k c hk64 hc, z, Nat.sub_zero]
      have : decide (c < 0) = false := by simp
      rw [this, Bool.not_false, Bool.true_and, wd_bit hc, show (64 * ((i : Int) - wz) + c) = 64 * i + c - b by omega]
    · have ez2 : zI (i - wz) - nI 1 = zI (i - wz - 1) := by rw [zI_sub (↑i - wz) 1]; rfl
      rw [ez2]
      refine c_X1_wordAt hf (by omega) (by omega) ?_
      simp only [gL]
      simp (disch := omega) only [nle, nlt, neq, nz, nzl, nzg, nzp, nzn, nneg, nneg9, nI_add, ncl, vin, br_T, br_F, br_p, br_n, true_and, and_true, Nat.zero_add, rdA, rdN]
      refine step _ (fun c hc => ?_)
      show (((wd N f (i - wz) <<< ((nI k).toInt64 &&& 63)).toBitVec ||| ((wd N f (i - wz - 1)).toUInt64 >>> ((nI 64 - nI k).toInt64.toUInt64 &&& Int64.toUInt64 63)).toInt64.toBitVec).getLsbD c = true) ↔ _
      rw [BitVec.getLsbD_or, bit_shl _ k c hk64 hc, bit_shr _ _ (64 - k) c (shr_c k hk64 (by omega)) (by omega), Bool.or_eq_true, Bool.and_eq_true]
      by_cases hck : c < k
      · have : decide (c < k) = true := decide_eq_true hck
        rw [this]
        have e3 : bA N f (64 * i + c - b) ↔ ((wd N f (i - wz - 1)).toBitVec.getLsbD (64 - k + c) = true) := by
          rw [wd_bit (by omega), show (64 * ((i : Int) - wz - 1) + ((64 - k + c : Nat) : Int)) = 64 * i + c - b by omega]
        rw [e3]
        simp
      · have : decide (c < k) = false := decide_eq_false hck
        rw [this]
        have e3 : bA N f (64 * i + c - b) ↔ ((wd N f (i - wz)).toBitVec.getLsbD (c - k) = true) := by
          rw [wd_bit (by omega), show (64 * ((i : Int) - wz) + ((c - k : Nat) : Int)) = 64 * i + c - b by omega]
        have e4 : (wd N f (i - wz - 1)).toBitVec.getLsbD (64 - k + c) = false := BitVec.getLsbD_of_ge _ _ (by omega)
        rw [e3, e4]
        simp
