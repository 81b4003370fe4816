/-! seat by seat, and body by body: the same -/
def smm (W st : Nat → Int) (g : Nat → Nat) (s : Nat) : Nat → Int
  | 0 => 0
  | n + 1 => smm W st g s n + if s.testBit n = true then W n * st (g n) else 0
section AS
variable {nC : Nat} {W st : Nat → Int}
theorem smm_cg {g g' : Nat → Nat} {s t : Nat} : ∀ n, (∀ x, x < n → s.testBit x = t.testBit x) → (∀ x, x < n → s.testBit x = true → g x = g' x) → smm W st g s n = smm W st g' t n
  | 0, _, _ => rfl
  | n + 1, h, h2 => by
    rw [smm, smm, smm_cg n (fun x hx => h x (by omega)) (fun x hx => h2 x (by omega)), ← h n (by omega)]
    by_cases q : s.testBit n = true
    · rw [if_pos q, if_pos q, h2 n (by omega) q]
    · rw [if_neg q, if_neg q]
theorem xb_ne {s c x : Nat} (h : ¬ x = c) : (s ^^^ 2 ^ c).testBit x = s.testBit x := by
  rw [Nat.testBit_xor, Nat.testBit_two_pow, decide_eq_false (fun q => h q.symm), Bool.xor_false]
theorem xb_eq {s c : Nat} (h : s.testBit c = true) : (s ^^^ 2 ^ c).testBit c = false := by
  rw [Nat.testBit_xor, Nat.testBit_two_pow_self, h]; rfl
theorem smm_xor {g : Nat → Nat} {s c : Nat} (h : s.testBit c = true) : ∀ n, c < n → smm W st g s n = smm W st g (s ^^^ 2 ^ c) n + W c * st (g c)
  | 0, hc => absurd hc (by omega)
  | n + 1, hc => by
    rw [smm, smm]
    by_cases e : c = n
    · subst e
      rw [if_pos h, if_neg (by rw [xb_eq h]; decide), smm_cg (s := s) (t := s ^^^ 2 ^ c) (g := g) (g' := g) c (fun x hx => (xb_ne (by omega)).symm) (fun _ _ _ => rfl)]
      omega
    · rw [smm_xor h n (by omega), xb_ne (fun q => e q.symm)]
      omega
theorem smm_0 {g : Nat → Nat} {s : Nat} : ∀ n, (∀ x, x < n → s.testBit x = false) → smm W st g s n = 0
  | 0, _ => rfl
  | n + 1, h => by rw [smm, smm_0 n (fun x hx => h x (by omega)), if_neg (by rw [h n (by omega)]; decide)]; rfl
def Asg (nC : Nat) (W st : Nat → Int) (K s : Nat) (m : Int) : Prop := ∃ g : Nat → Nat, (∀ c, c < nC → s.testBit c = true → g c < K) ∧ (∀ c c', c < nC → c' < nC → s.testBit c = true → s.testBit c' = true → g c = g c' → c = c') ∧ smm W st g s nC = m
theorem ach_asg : ∀ (K s : Nat) (m : Int), s < 2 ^ nC → (Ach nC W st K s m ↔ Asg nC W st K s m)
  | 0, s, m, hs => by
    constructor
    · rintro ⟨rfl, rfl⟩
      exact ⟨fun _ => 0, fun c _ h => by simp at h, fun c c' _ _ h => by simp at h, smm_0 nC (fun x _ => by simp)⟩
    · rintro ⟨g, h1, -, h3⟩
      have hb : ∀ x, x < nC → s.testBit x = false := fun x hx => by
        rw [Bool.eq_false_iff]
        exact fun q => absurd (h1 x hx q) (by omega)
      refine ⟨?_, ?_⟩
      · apply Nat.eq_of_testBit_eq
        intro i
        by_cases e : i < nC
        · rw [hb i e]; simp
        · rw [Nat.testBit_lt_two_pow (Nat.lt_of_lt_of_le hs (Nat.pow_le_pow_right (by decide) (by omega)))]; simp
      · rw [← h3, smm_0 nC hb]
  | K + 1, s, m, hs => by
    constructor
    · rintro (h | ⟨c, hc, hb, h⟩)
      · obtain ⟨g, h1, h2, h3⟩ := (ach_asg K s m hs).mp h
        exact ⟨g, fun c hc hb => by have := h1 c hc hb; omega, h2, h3⟩
      · have hx : s ^^^ 2 ^ c < 2 ^ nC := Nat.xor_lt_two_pow hs (Nat.pow_lt_pow_right (by decide) hc)
        obtain ⟨g, h1, h2, h3⟩ := (ach_asg K _ _ hx).mp h
        refine ⟨fun x => if x = c then K else g x, fun x hx hbx => ?_, fun x y hx hy bx by' e => ?_, ?_⟩
        · by_cases e : x = c
          · simp [e]
          · simp only [if_neg e]
            have := h1 x hx (by rw [xb_ne e]; exact hbx)
            omega
        · by_cases e1 : x = c
          · by_cases e2 : y = c
            · rw [e1, e2]
            · simp only [if_pos e1, if_neg e2] at e
              have := h1 y hy (by rw [xb_ne e2]; exact by')
              omega
          · by_cases e2 : y = c
            · simp only [if_neg e1, if_pos e2] at e
              have := h1 x hx (by rw [xb_ne e1]; exact bx)
              omega
            · simp only [if_neg e1, if_neg e2] at e
              exact h2 x y hx hy (by rw [xb_ne e1]; exact bx) (by rw [xb_ne e2]; exact by') e
        · rw [smm_xor hb nC hc, smm_cg (s := s ^^^ 2 ^ c) (t := s ^^^ 2 ^ c) (g' := g) nC (fun _ _ => rfl) (fun x hx hbx => by
            have : ¬ x = c := fun q => by rw [q, xb_eq hb] at hbx; cases hbx
            simp only [if_neg this]), h3]
          simp only [if_true]
          omega
    · rintro ⟨g, h1, h2, h3⟩
      by_cases h : ∃ c, c < nC ∧ s.testBit c = true ∧ g c = K
      · obtain ⟨c, hc, hb, e⟩ := h
        have hx : s ^^^ 2 ^ c < 2 ^ nC := Nat.xor_lt_two_pow hs (Nat.pow_lt_pow_right (by decide) hc)
        refine Or.inr ⟨c, hc, hb, (ach_asg K _ _ hx).mpr ⟨g, fun x hx hbx => ?_, fun x y hx hy bx by' e' => ?_, ?_⟩⟩
        · have ne : ¬ x = c := fun q => by rw [q, xb_eq hb] at hbx; cases hbx
          rw [xb_ne ne] at hbx
          have := h1 x hx hbx
          have : ¬ g x = K := fun q => ne (h2 x c hx hc hbx hb (by rw [q, e]))
          omega
        · have ne : ¬ x = c := fun q => by rw [q, xb_eq hb] at bx; cases bx
          have ne2 : ¬ y = c := fun q => by rw [q, xb_eq hb] at by'; cases by'
          rw [xb_ne ne] at bx
          rw [xb_ne ne2] at by'
          exact h2 x y hx hy bx by' e'
        · have := smm_xor (W := W) (st := st) (g := g) hb nC hc
          rw [h3, e] at this
          omega
      · refine Or.inl ((ach_asg K s m hs).mpr ⟨g, fun c hc hb => ?_, h2, h3⟩)
        have := h1 c hc hb
        have : ¬ g c = K := fun q => h ⟨c, hc, hb, q⟩
        omega
def sml (W st : Nat → Int) (g : Nat → Nat) : List Nat → Int
  | [] => 0
  | x :: l => W x * st (g x) + sml W st g l
theorem sml_app {g : Nat → Nat} : ∀ (l k : List Nat), sml W st g (l ++ k) = sml W st g l + sml W st g k
  | [], k => by simp [sml]
  | x :: l, k => by rw [List.cons_append, sml, sml, sml_app l k]; omega
theorem sml_bits {g : Nat → Nat} {s : Nat} : ∀ n, sml W st g (bitsL s n) = smm W st g s n
  | 0 => rfl
  | n + 1 => by
    rw [bitsL_s, sml_app, sml_bits n, smm]
    by_cases h : s.testBit n = true
    · rw [if_pos h, if_pos h]; simp [sml]
    · rw [if_neg h, if_neg h]; simp [sml]
theorem mos_map {w' : Nat → Int} {g : Nat → Nat} : ∀ (l : List Nat) (b : Nat), (∀ i (h : i < l.length), w' (b + i) = W l[i]) → mos w' st b (l.map g) = sml W st g l
  | [], b, _ => rfl
  | x :: l, b, h => by
    rw [List.map_cons, mos, sml, mos_map l (b + 1) (fun i hi => by
      have := h (i + 1) (by rw [List.length_cons]; omega)
      rw [List.getElem_cons_succ] at this
      rw [← this]; congr 1; omega)]
    have := h 0 (by rw [List.length_cons]; omega)
    rw [List.getElem_cons_zero, Nat.add_zero] at this
    rw [this]
theorem asg_list {w' : Nat → Int} {K s : Nat} {m : Int} (hw : ∀ i (h : i < (bitsL s nC).length), w' i = W (bitsL s nC)[i]) : Asg nC W st K s m ↔ ∃ f : List Nat, f.length = (bitsL s nC).length ∧ f.Nodup ∧ (∀ x ∈ f, x < K) ∧ mos w' st 0 f = m := by
  constructor
  · rintro ⟨g, h1, h2, h3⟩
    refine ⟨(bitsL s nC).map g, by simp, ?_, fun x hx => ?_, ?_⟩
    · refine List.pairwise_map.mpr (List.Pairwise.imp_of_mem (fun {a b} ha hb hab e => hab ?_) (bitsL_nd s nC))
      have ma := bitsL_mem.mp ha
      have mb := bitsL_mem.mp hb
      exact h2 a b ma.1 mb.1 ma.2 mb.2 e
    · obtain ⟨c, hc, rfl⟩ := List.mem_map.mp hx
      have mc := bitsL_mem.mp hc
      exact h1 c mc.1 mc.2
    · rw [mos_map (W := W) _ 0 (fun i hi => by rw [Nat.zero_add]; exact hw i hi), sml_bits, h3]
  · rintro ⟨f, h1, h2, h3, h4⟩
    have idx : ∀ i (h : i < (bitsL s nC).length), cB (fun c => s.testBit c) (bitsL s nC)[i] = i := fun i hi => by
      have mc := bitsL_mem.mp (List.getElem_mem hi)
      obtain ⟨i1, i2⟩ := List.getElem?_eq_some_iff.mp (bitsL_idx mc.2 nC mc.1)
      exact (List.getElem?_inj i1 (bitsL_nd s nC)).mp (by rw [List.getElem?_eq_getElem i1, List.getElem?_eq_getElem hi, i2])
    have ef : (bitsL s nC).map (fun c => f.getD (cB (fun c => s.testBit c) c) 0) = f := by
      refine List.ext_getElem (by simp [h1]) (fun i a b => ?_)
      rw [List.getElem_map]
      have hi : i < (bitsL s nC).length := by simpa using a
      rw [idx i hi, getD_g b]
    refine ⟨fun c => f.getD (cB (fun c => s.testBit c) c) 0, fun c hc hb => ?_, fun c c' hc hc' hb hb' e => ?_, ?_⟩
    · refine h3 _ ?_
      rw [← ef]
      exact List.mem_map.mpr ⟨c, bitsL_mem.mpr ⟨hc, hb⟩, by rw [ef]⟩
    · obtain ⟨i1, i2⟩ := List.getElem?_eq_some_iff.mp (bitsL_idx hb nC hc)
      obtain ⟨j1, j2⟩ := List.getElem?_eq_some_iff.mp (bitsL_idx hb' nC hc')
      have e : f.getD (cB (fun c => s.testBit c) c) 0 = f.getD (cB (fun c => s.testBit c) c') 0 := e
      rw [getD_g (by omega), getD_g (by omega)] at e
      have ei : cB (fun c => s.testBit c) c = cB (fun c => s.testBit c) c' := (List.getElem?_inj (by omega) h2).mp (by rw [List.getElem?_eq_getElem (by omega), List.getElem?_eq_getElem (by omega), e])
      rw [← i2, ← j2]
      congr 1
    · rw [← h4, ← sml_bits, ← mos_map (w' := w') (W := W) _ 0 (fun i hi => by rw [Nat.zero_add]; exact hw i hi), ef]
theorem lv_ach {w' : Nat → Int} {h s : Nat} {m0 : Int} {sl : Nat} (hs : s < 2 ^ nC) (hw : ∀ i (h : i < (bitsL s nC).length), w' i = W (bitsL s nC)[i]) : (∃ f, f ∈ fil (sq h) (bitsL s nC).length [] ∧ lev w' st m0 sl f = true) ↔ ∃ m, Ach nC W st (2 * h) s m ∧ m0 + m ≤ sl ∧ -(m0 + m) ≤ sl := by
  constructor
  · rintro ⟨f, hf, hl⟩
    obtain ⟨g, e, g1, g2, g3⟩ := (fil_mem _ _ _).mp hf
    rw [List.nil_append] at e
    subst e
    unfold lev at hl
    rw [decide_eq_true_eq] at hl
    exact ⟨mos w' st 0 f, (ach_asg _ _ _ hs).mpr ((asg_list hw).mpr ⟨f, g1, g3, fun x hx => sq_mem.mp (g2 x hx).1, rfl⟩), hl⟩
  · rintro ⟨m, hm, hl⟩
    obtain ⟨f, f1, f2, f3, f4⟩ := (asg_list hw).mp ((ach_asg _ _ _ hs).mp hm)
    refine ⟨f, (fil_mem _ _ _).mpr ⟨f, by simp, f1, fun x hx => ⟨sq_mem.mpr (f3 x hx), by simp⟩, f2⟩, ?_⟩
    unfold lev
    rw [decide_eq_true_eq, f4]
    exact hl
end AS
theorem ffl_0 : ∀ r a, a < r → ffl a r = 0
  | 0, a, h => absurd h (by omega)
  | r + 1, a, h => by
    rw [ffl]
    by_cases e : a = 0
    · rw [e, Nat.zero_mul]
    · rw [ffl_0 r (a - 1) (by omega), Nat.mul_zero]
theorem fil_none {h r : Nat} (hr : 2 * h < r) : fil (sq h) r [] = [] := by
  have h1 := fil_len (xs := sq h) r []
  have h2 : (sq h).countP (fun x => !decide (x ∈ ([] : List Nat))) ≤ 2 * h := by
    have := List.countP_le_length (p := fun x => !decide (x ∈ ([] : List Nat))) (l := sq h)
    rw [sq_len] at this
    exact this
  rw [ffl_0 r _ (by omega)] at h1
  exact List.eq_nil_of_length_eq_zero (by omega)
