/-! the text: tokens, the reference -/
def TXr (M : PM) (T : Nat → Nat) (tl : Nat) : Prop := M.1 56 3 = nI tl ∧ tl ≤ 300 ∧ ∀ i, i < tl → T i < 256 ∧ M.1 57 i = nI (T i)
def FrA (M N : PM) : Prop := (∀ q, ¬ q = 56 → N.1 q = M.1 q) ∧ (∀ k, ¬ (4 ≤ k ∧ k ≤ 7) → N.1 56 k = M.1 56 k) ∧ N.2 = M.2
theorem FrA.refl (M : PM) : FrA M M := ⟨fun _ _ => rfl, fun _ _ => rfl, rfl⟩
theorem FrA.trans {A B C : PM} (h : FrA A B) (h2 : FrA B C) : FrA A C := ⟨fun q a => (h2.1 q a).trans (h.1 q a), fun k a => (h2.2.1 k a).trans (h.2.1 k a), h2.2.2.trans h.2.2⟩
theorem FrA.wr {M N : PM} {k : Nat} {v : Int32} (h : FrA M N) (hk : 4 ≤ k ∧ k ≤ 7) : FrA M (wI N 56 k v) := ⟨fun q a => by rw [wI_sA, rdN a]; exact h.1 q a, fun j hj => by rw [wI_sA, rdA, upd_n (by omega)]; exact h.2.1 j hj, h.2.2⟩
theorem FrA.tx {M N : PM} {T : Nat → Nat} {tl : Nat} (h : FrA M N) (hT : TXr M T tl) : TXr N T tl := by
  unfold TXr; rw [h.2.1 3 (by omega), h.1 57 (by omega)]; exact hT
def rkN (k : Nat) : Nat := if k = 0 then 0 else if k ≤ 3 then 1 else k - 2
def TokR (N : PM) (T : Nat → Nat) (tl s : Nat) : Prop := N.1 56 6 = nI s ∧ N.1 56 4 = nI (tkE T tl s) ∧ N.1 56 5 = nI (rkN (tkK T tl s)) ∧ (1 ≤ tkK T tl s → tkK T tl s ≤ 3 → N.1 56 7 = nI (tkK T tl s - 1)) ∧ (tkK T tl s = 4 → N.1 56 7 = nI (tkV T tl s))
def btI (T : Nat → Nat) (tl k : Nat) : Int32 := if k < tl then nI (T k) else -1
theorem c_X9_byteAt {G : GG} {d : Nat} {M : PM} {Q : Option Value → PM → Prop} {T : Nat → Nat} {tl k : Nat} (hT : TXr M T tl) (hk : k ≤ 300) (hQ : Q (some (.int (btI T tl k))) M) : PC G (d + 1) m_X9_byteAt [.ref 56, .int (nI k)] M Q := by
  obtain ⟨t1, t2, t3⟩ := id hT
  refine PC.of ok_X9_byteAt (Nat.le_of_ble_eq_true rfl) (g_X9_byteAt_0 ?_)
  unfold btI at hQ
  rw [t1, nle (by omega) (by omega)]
  refine b2 (fun z => ?_) (fun z => ?_)
  · rw [if_neg (by omega)] at hQ; exact hQ
  · rw [if_pos (by omega), ← (t3 k (by omega)).2] at hQ
    refine ⟨by rw [vin (by omega) (by omega)]; trivial, ?_⟩
    rw [ncl (by omega)]; exact hQ
theorem c_X9_add {G : GG} {d : Nat} {M : PM} {Q : Option Value → PM → Prop} {x : Int64} {v b : Nat} (hx : x = lN v) (hb : b < 2147483648) (hQ : Q (some (.long (lN (256 * v + b)))) M) : PC G (d + 1) m_X9_add [.long x, .int (nI b)] M Q := by
  refine PC.of ok_X9_add (Nat.le_of_ble_eq_true rfl) (g_X9_add_0 ?_)
  have e : (256 : Int64) = lN 256 := rfl
  rw [hx, nI_l (by omega), e, lN_mul, lN_add]
  exact hQ
def nmd (a b c e f : Nat) : Nat := 256 * (256 * (256 * (256 * (256 * 0 + a) + b) + c) + e) + f
theorem c_X9_named {G : GG} {d : Nat} {M : PM} {Q : Option Value → PM → Prop} {a b c e f : Nat} (ha : a < 256) (hb : b < 256) (hc : c < 256) (he : e < 256) (hf : f < 256) (hQ : Q (some (.long (lN (nmd a b c e f)))) M) : PC G (d + 2) m_X9_named [.int (nI a), .int (nI b), .int (nI c), .int (nI e), .int (nI f)] M Q := by
  refine PC.of ok_X9_named (Nat.le_of_ble_eq_true rfl) (g_X9_named_0 (c_X9_add (v := 0) rfl (by omega) ?_))
  simp only [gL]
  refine c_X9_add rfl (by omega) ?_
  simp only [gL]
  refine c_X9_add rfl (by omega) ?_
  simp only [gL]
  refine c_X9_add rfl (by omega) ?_
  simp only [gL]
  refine c_X9_add rfl (by omega) ?_
  simp only [gL]
  exact hQ
theorem lN_inj {a b : Nat} (ha : a < 2 ^ 62) (hb : b < 2 ^ 62) : (lg_cmp (lN a) (lN b) = 0) = (a = b) := by
  apply propext
  rw [lg_cmp_eq]
  constructor
  · intro h
    have := congrArg Int64.toInt h
    rw [pk_lT (by omega), pk_lT (by omega)] at this
    omega
  · intro h; rw [h]
def wo (v : Nat) : Int32 := if v = nmd 112 108 97 110 107 then nI 0 else if v = nmd 99 104 105 108 100 then nI 1 else if v = nmd 115 116 111 110 101 then nI 2 else -9
theorem c_X9_wordOf {G : GG} {d : Nat} {M : PM} {Q : Option Value → PM → Prop} {v : Nat} (hv : v < 2 ^ 62) (hQ : Q (some (.int (wo v))) M) : PC G (d + 3) m_X9_wordOf [.long (lN v)] M Q := by
  refine PC.of ok_X9_wordOf (Nat.le_of_ble_eq_true rfl) (g_X9_wordOf_0 (c_X9_named (by omega) (by omega) (by omega) (by omega) (by omega) ?_))
  unfold wo at hQ
  simp only [gL]
  rw [lN_inj hv (by decide)]
  refine b2 (fun z => ?_) (fun z => c_X9_named (by omega) (by omega) (by omega) (by omega) (by omega) ?_)
  · rw [if_pos z] at hQ; exact hQ
  rw [if_neg z] at hQ
  simp only [gL]
  rw [lN_inj hv (by decide)]
  refine b2 (fun z => ?_) (fun z => c_X9_named (by omega) (by omega) (by omega) (by omega) (by omega) ?_)
  · rw [if_pos z] at hQ; exact hQ
  rw [if_neg z] at hQ
  simp only [gL]
  rw [lN_inj hv (by decide)]
  refine b2 (fun z => ?_) (fun z => ?_)
  · rw [if_pos z] at hQ; exact hQ
  · rw [if_neg z] at hQ; exact hQ
def wv (T : Nat → Nat) (s : Nat) : Nat → Nat
  | 0 => 0
  | m + 1 => 256 * wv T s m + T (s + m)
theorem wv_spel {T : Nat → Nat} {s e a b c x y : Nat} (hl : ∀ j, j < e - s → 97 ≤ T (s + j) ∧ T (s + j) ≤ 122) (ha : 97 ≤ a ∧ a ≤ 122) (hb : b ≤ 122) (hc : c ≤ 122) (hx : x ≤ 122) (hy : y ≤ 122) : (wv T s (min 6 (e - s)) = nmd a b c x y) ↔ spel T s e [a, b, c, x, y] := by
  unfold spel nmd
  rcases (show e - s = 0 ∨ e - s = 1 ∨ e - s = 2 ∨ e - s = 3 ∨ e - s = 4 ∨ e - s = 5 ∨ 6 ≤ e - s by omega) with h | h | h | h | h | h | h
  · rw [h, show min 6 0 = 0 by rfl]; simp only [wv]; constructor
    · intro q; omega
    · intro q; have := q.1; omega
  · have h0 := hl 0 (by omega)
    rw [h, show min 6 1 = 1 by rfl]; simp only [wv]; constructor
    · intro q; omega
    · intro q; have := q.1; omega
  · have h0 := hl 0 (by omega)
    have h1 := hl 1 (by omega)
    rw [h, show min 6 2 = 2 by rfl]; simp only [wv]; constructor
    · intro q; omega
    · intro q; have := q.1; omega
  · have h0 := hl 0 (by omega)
    have h1 := hl 1 (by omega)
    have h2 := hl 2 (by omega)
    rw [h, show min 6 3 = 3 by rfl]; simp only [wv]; constructor
    · intro q; omega
    · intro q; have := q.1; omega
  · have h0 := hl 0 (by omega)
    have h1 := hl 1 (by omega)
    have h2 := hl 2 (by omega)
    have h3 := hl 3 (by omega)
    rw [h, show min 6 4 = 4 by rfl]; simp only [wv]; constructor
    · intro q; omega
    · intro q; have := q.1; omega
  · have h0 := hl 0 (by omega)
    have h1 := hl 1 (by omega)
    have h2 := hl 2 (by omega)
    have h3 := hl 3 (by omega)
    have h4 := hl 4 (by omega)
    rw [h, show min 6 5 = 5 by rfl]; simp only [wv]; constructor
    · intro q
      refine ⟨trivial, fun j hj => ?_⟩
      rcases (show j = 0 ∨ j = 1 ∨ j = 2 ∨ j = 3 ∨ j = 4 by omega) with z | z | z | z | z <;> subst z
      · show T (s + 0) = a; omega
      · show T (s + 1) = b; omega
      · show T (s + 2) = c; omega
      · show T (s + 3) = x; omega
      · show T (s + 4) = y; omega
    · rintro ⟨-, q⟩
      have q0 : T (s + 0) = a := q 0 (by omega)
      have q1 : T (s + 1) = b := q 1 (by omega)
      have q2 : T (s + 2) = c := q 2 (by omega)
      have q3 : T (s + 3) = x := q 3 (by omega)
      have q4 : T (s + 4) = y := q 4 (by omega)
      omega
  · have h0 := hl 0 (by omega)
    have h1 := hl 1 (by omega)
    have h2 := hl 2 (by omega)
    have h3 := hl 3 (by omega)
    have h4 := hl 4 (by omega)
    have h5 := hl 5 (by omega)
    rw [Nat.min_eq_left h]; simp only [wv]; constructor
    · intro q; omega
    · intro q; have := q.1; omega
theorem wo_wk {T : Nat → Nat} {s e : Nat} (hl : ∀ j, j < e - s → 97 ≤ T (s + j) ∧ T (s + j) ≤ 122) : (wk T s e ≤ 3 ∧ 1 ≤ wk T s e ∧ wo (wv T s (min 6 (e - s))) = nI (wk T s e - 1)) ∨ (wk T s e = 6 ∧ wo (wv T s (min 6 (e - s))) = -9) := by
  have e1 := wv_spel (a := 112) (b := 108) (c := 97) (x := 110) (y := 107) hl (by omega) (by omega) (by omega) (by omega) (by omega)
  have e2 := wv_spel (a := 99) (b := 104) (c := 105) (x := 108) (y := 100) hl (by omega) (by omega) (by omega) (by omega) (by omega)
  have e3 := wv_spel (a := 115) (b := 116) (c := 111) (x := 110) (y := 101) hl (by omega) (by omega) (by omega) (by omega) (by omega)
  unfold wo
  by_cases h1 : spel T s e wP
  · rw [wk_1 h1, if_pos (e1.mpr h1)]; left; exact ⟨by omega, by omega, rfl⟩
  · rw [if_neg (fun q => h1 (e1.mp q))]
    by_cases h2 : spel T s e wC
    · rw [wk_2 h1 h2, if_pos (e2.mpr h2)]; left; exact ⟨by omega, by omega, rfl⟩
    · rw [if_neg (fun q => h2 (e2.mp q))]
      by_cases h3 : spel T s e wS
      · rw [wk_3 h1 h2 h3, if_pos (e3.mpr h3)]; left; exact ⟨by omega, by omega, rfl⟩
      · rw [wk_6 h1 h2 h3, if_neg (fun q => h3 (e3.mp q))]; right; exact ⟨rfl, rfl⟩
theorem wv_lt {T : Nat → Nat} {s : Nat} : ∀ m, (∀ j, j < m → T (s + j) < 256) → wv T s m < 256 ^ m
  | 0, _ => by simp [wv]
  | m + 1, h => by
    have := wv_lt m (fun j hj => h j (by omega))
    have := h m (by omega)
    rw [wv, Nat.pow_succ]; omega
theorem in_bt {T : Nat → Nat} {tl i lo hi : Nat} (hl : lo < 1000) (hh : hi < 1000) (hb : i < tl → T i < 256) : (nI lo ≤ btI T tl i ∧ btI T tl i ≤ nI hi) = (i < tl ∧ lo ≤ T i ∧ T i ≤ hi) := by
  apply propext
  unfold btI
  by_cases h : i < tl
  · have := hb h
    rw [if_pos h, nle (by omega) (by omega), nle (by omega) (by omega)]
    exact ⟨fun q => ⟨h, q⟩, fun q => q.2⟩
  · rw [if_neg h]
    constructor
    · rintro ⟨q, -⟩
      exfalso
      have := Int32.le_iff_toInt_le.mp q
      rw [toInt_nI (by omega)] at this
      have e : (-1 : Int32).toInt = -1 := by decide
      omega
    · intro q; exact absurd q.1 h
theorem c_X9_adv_word {G : GG} {d : Nat} {M : PM} {Q : Option Value → PM → Prop} {T : Nat → Nat} {tl s : Nat} (hT : TXr M T tl) (h6 : M.1 56 6 = nI s) (h4 : M.1 56 4 = nI s) (hs : s < tl) (hL : isL (T s) = true) (hQ : ∀ N, FrA M N → TokR N T tl s → Q none N) : PX G (d + 3) m_X9_advances Q 68 [some (.ref 56), none, some (.long 0), none] [] M := by
  obtain ⟨t1, t2, t3⟩ := id hT
  have key : ∀ n i, tl - i = n → s ≤ i → i ≤ tl → (∀ j, j < i - s → 97 ≤ T (s + j) ∧ T (s + j) ≤ 122) → rn T isL (tl - i) i = rn T isL (tl - s) s → ∀ N x, x = lN (wv T s (min 6 (i - s))) → FrA M N → N.1 56 6 = nI s → N.1 56 4 = nI i → PX G (d + 3) m_X9_advances Q 68 [some (.ref 56), none, some (.long x), none] [] N := by
    intro n
    induction n with
    | zero =>
      intro i hn h1 h2 hl hr N x hx hf n6 n4
      subst hx
      apply g_X9_advances_68
      have hTN := hf.tx hT
      rw [n4]
      refine c_X9_byteAt hTN (by omega) ?_
      simp only [gI]
      refine c_X9_in ?_
      simp only [gI, bI_z]
      rw [in_bt (by omega) (by omega) (fun q => (t3 i q).1)]
      refine b1 (fun q => absurd q.1 (by omega)) ?_
      have hv := wv_lt (T := T) (s := s) (min 6 (i - s)) (fun j hj => by have := hl j (by omega); omega)
      have hp : 256 ^ (min 6 (i - s)) ≤ 256 ^ 6 := Nat.pow_le_pow_right (by decide) (Nat.min_le_left _ _)
      refine c_X9_wordOf (Nat.lt_of_lt_of_le hv (Nat.le_trans hp (by decide))) ?_
      simp only [gI]
      rw [hn] at hr
      have er : i = rn T isL (tl - s) s := hr
      have ek : tkK T tl s = wk T s i := by unfold tkK; rw [if_pos hs, if_pos hL, er]
      have ee : tkE T tl s = i := by unfold tkE; rw [if_pos hs, if_pos hL, er]
      rcases wo_wk hl with ⟨k1, k2, k3⟩ | ⟨k1, k3⟩
      · rw [k3]
        refine b0 (by rw [nneg9 (by omega)]; exact id) (hQ _ ((hf.wr (by omega)).wr (by omega)) ⟨?_, ?_, ?_, fun _ _ => ?_, fun q => ?_⟩)
        · simp (disch := omega) only [wI_sA, rdA, rdN, rdL, upd_e, upd_n]; exact n6
        · simp (disch := omega) only [wI_sA, rdA, rdN, rdL, upd_e, upd_n]; rw [ee]; exact n4
        · simp (disch := omega) only [wI_sA, rdA, rdN, rdL, upd_e, upd_n]; rw [ek]; unfold rkN; rw [if_neg (by omega), if_pos k1]
        · simp (disch := omega) only [wI_sA, rdA, rdN, rdL, upd_e, upd_n]; rw [ek]
        · rw [ek] at q; omega
      · rw [k3]
        refine b1 rfl (hQ _ ((hf.wr (by omega)).wr (by omega)) ⟨?_, ?_, ?_, fun _ q => ?_, fun q => ?_⟩)
        · simp (disch := omega) only [wI_sA, rdA, rdN, rdL, upd_e, upd_n]; exact n6
        · simp (disch := omega) only [wI_sA, rdA, rdN, rdL, upd_e, upd_n]; rw [ee]; exact n4
        · simp (disch := omega) only [wI_sA, rdA, rdN, rdL, upd_e, upd_n]; rw [ek, k1]; rfl
        · rw [ek, k1] at q; omega
        · rw [ek, k1] at q; omega
    | succ n ih =>
      intro i hn h1 h2 hl hr N x hx hf n6 n4
      subst hx
      apply g_X9_advances_68
      have hTN := hf.tx hT
      rw [n4]
      refine c_X9_byteAt hTN (by omega) ?_
      simp only [gI]
      refine c_X9_in ?_
      simp only [gI, bI_z]
      rw [in_bt (by omega) (by omega) (fun q => (t3 i q).1)]
      rw [hn, rn] at hr
      have hil : i < tl := by omega
      refine b2 (fun z => ?_) (fun z => ?_)
      · have hno : ¬ isL (T i) = true := by unfold isL; rw [decide_eq_true_eq]; exact fun q => z ⟨hil, q⟩
        rw [if_neg hno] at hr
        have hv := wv_lt (T := T) (s := s) (min 6 (i - s)) (fun j hj => by have := hl j (by omega); omega)
        have hp : 256 ^ (min 6 (i - s)) ≤ 256 ^ 6 := Nat.pow_le_pow_right (by decide) (Nat.min_le_left _ _)
        refine c_X9_wordOf (Nat.lt_of_lt_of_le hv (Nat.le_trans hp (by decide))) ?_
        simp only [gI]
        have er : i = rn T isL (tl - s) s := hr
        have ek : tkK T tl s = wk T s i := by unfold tkK; rw [if_pos hs, if_pos hL, er]
        have ee : tkE T tl s = i := by unfold tkE; rw [if_pos hs, if_pos hL, er]
        rcases wo_wk hl with ⟨k1, k2, k3⟩ | ⟨k1, k3⟩
        · rw [k3]
          refine b0 (by rw [nneg9 (by omega)]; exact id) (hQ _ ((hf.wr (by omega)).wr (by omega)) ⟨?_, ?_, ?_, fun _ _ => ?_, fun q => ?_⟩)
          · simp (disch := omega) only [wI_sA, rdA, rdN, rdL, upd_e, upd_n]; exact n6
          · simp (disch := omega) only [wI_sA, rdA, rdN, rdL, upd_e, upd_n]; rw [ee]; exact n4
          · simp (disch := omega) only [wI_sA, rdA, rdN, rdL, upd_e, upd_n]; rw [ek]; unfold rkN; rw [if_neg (by omega), if_pos k1]
          · simp (disch := omega) only [wI_sA, rdA, rdN, rdL, upd_e, upd_n]; rw [ek]
          · rw [ek] at q; omega
        · rw [k3]
          refine b1 rfl (hQ _ ((hf.wr (by omega)).wr (by omega)) ⟨?_, ?_, ?_, fun _ q => ?_, fun q => ?_⟩)
          · simp (disch := omega) only [wI_sA, rdA, rdN, rdL, upd_e, upd_n]; exact n6
          · simp (disch := omega) only [wI_sA, rdA, rdN, rdL, upd_e, upd_n]; rw [ee]; exact n4
          · simp (disch := omega) only [wI_sA, rdA, rdN, rdL, upd_e, upd_n]; rw [ek, k1]; rfl
          · rw [ek, k1] at q; omega
          · rw [ek, k1] at q; omega
      · have z := Classical.not_not.mp z
        have hyes : isL (T i) = true := by unfold isL; rw [decide_eq_true_eq]; exact z.2
        rw [if_pos hyes] at hr
        have hl2 : ∀ j, j < i + 1 - s → 97 ≤ T (s + j) ∧ T (s + j) ≤ 122 := fun j hj => by
          by_cases q : j = i - s
          · subst q; rw [show s + (i - s) = i by omega]; exact z.2
          · exact hl j (by omega)
        rw [n4, n6, nsub h1, nle (by omega) (by omega), nI_add]
        have go : ∀ x, x = lN (wv T s (min 6 (i + 1 - s))) → PX G (d + 3) m_X9_advances Q 68 [some (.ref 56), none, some (.long x), none] [] (wI N 56 4 (nI (i + 1))) := fun x hx =>
          ih (i + 1) (by omega) (by omega) (by omega) hl2 (by rw [show tl - (i + 1) = n by omega]; exact hr) _ x hx (hf.wr (by omega)) (by simp (disch := omega) only [wI_sA, rdA, rdN, rdL, upd_e, upd_n]; exact n6) (by simp (disch := omega) only [wI_sA, rdA, rdN, rdL, upd_e, upd_n])
        refine b2 (fun y => go _ ?_) (fun y => c_X9_byteAt hTN (by omega) ?_)
        · rw [Nat.min_eq_left y, Nat.min_eq_left (by omega)]
        · simp only [gI]
          have eb : btI T tl i = nI (T i) := by unfold btI; rw [if_pos hil]
          rw [eb]
          refine c_X9_add rfl (by omega) ?_
          simp only [gL]
          rw [n4, nI_add]
          refine go _ ?_
          rw [Nat.min_eq_right (by omega), Nat.min_eq_right (by omega), show i + 1 - s = (i - s) + 1 by omega, wv, show s + (i - s) = i by omega]
  exact key (tl - s) s rfl (Nat.le_refl _) (by omega) (fun j hj => absurd hj (by omega)) rfl M 0 (by rw [Nat.sub_self]; rfl) (FrA.refl M) h6 h4
