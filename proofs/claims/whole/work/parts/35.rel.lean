/-! the class's memory and the reference's, side by side -/
def RSz (M : PM) (nP nC nS : Nat) : Prop := M.1 1 5 = nI nP ∧ M.1 56 14 = nI nP ∧ nP ≤ 3 ∧ M.1 1 6 = nI nC ∧ M.1 56 15 = nI nC ∧ nC ≤ 8 ∧ M.1 1 7 = nI nS ∧ M.1 56 16 = nI nS ∧ nS ≤ 5
def RRo (M : PM) (nP nC nS : Nat) : Prop := (∀ p, p < nP → ∃ h : Nat, 1 ≤ h ∧ h ≤ 4 ∧ M.1 2 p = nI h ∧ M.1 58 p = nI h) ∧ (∀ p, p < nP → ∃ s : Nat, s ≤ 20 ∧ M.1 3 p = nI s ∧ M.1 59 p = nI s) ∧ (∀ c, c < nC → ∃ w : Nat, 1 ≤ w ∧ w ≤ 60 ∧ M.1 4 c = nI w ∧ M.1 60 c = nI w) ∧ (∀ c, c < nC → ∃ w : Nat, 1 ≤ w ∧ w ≤ 30 ∧ M.1 5 c = nI w ∧ M.1 61 c = nI w) ∧ (∀ s, s < nS → ∃ w : Nat, 1 ≤ w ∧ w ≤ 20 ∧ M.1 6 s = nI w ∧ M.1 62 s = nI w)
/-- one who sits, or lies: the class's plank and step, the reference's -/
def SP (hf : Nat → Int32) (nP : Nat) (cp cs rp rs : Int32) : Prop := (cs = 0 ∧ rp = -9 ∧ rs = 0) ∨ (rp = cp ∧ rs = cs ∧ ¬ cs = 0 ∧ ∃ p, p < nP ∧ cp = nI p ∧ -(hf p) ≤ cs ∧ cs ≤ hf p)
def SR (M : PM) (nP nC nS b q o : Nat) : Prop := (∀ c, c < nC → M.1 (b + 3) c = M.1 q (o + (16 + c))) ∧ (∀ c, c < nC → SP (M.1 2) nP (M.1 (b + 1) c) (M.1 (b + 2) c) (M.1 q (o + c)) (M.1 q (o + (8 + c)))) ∧ (∀ s, s < nS → SP (M.1 2) nP (M.1 (b + 4) s) (M.1 (b + 5) s) (M.1 q (o + (24 + s))) (M.1 q (o + (29 + s))))
def RTx (M : PM) (tl : Nat) : Prop := M.1 25 2 = nI tl ∧ M.1 56 3 = nI tl ∧ tl ≤ 300 ∧ ∀ i, i < tl → ∃ b : Nat, b < 256 ∧ M.1 32 i = nI b ∧ M.1 57 i = nI b
def RIm1 (M : PM) (nP nC nS b k o : Nat) : Prop := (M.1 b 6 = 0 ∧ M.1 65 k = 0) ∨ (M.1 b 6 = 1 ∧ M.1 65 k = 1 ∧ SR M nP nC nS b 64 o)
def RTr (M : PM) (sn tn : Nat) : Prop := M.1 44 6 = nI sn ∧ M.1 56 27 = nI sn ∧ 2 ≤ sn ∧ sn ≤ 5 ∧ M.1 44 7 = nI tn ∧ M.1 56 29 = nI tn ∧ tn ≤ 12 ∧ ∀ t, t < tn → ∃ a b : Nat, a < sn ∧ b < sn ∧ a ≠ b ∧ M.1 45 t = nI a ∧ M.1 69 (3 * t) = nI a ∧ M.1 46 t = nI b ∧ M.1 69 (3 * t + 1) = nI b ∧ M.1 47 t = M.1 69 (3 * t + 2) ∧ (M.1 47 t = -1 ∨ M.1 47 t = 0 ∨ M.1 47 t = 1)
/-- how many below n -/
def ctN (p : Nat → Prop) [DecidablePred p] : Nat → Nat
  | 0 => 0
  | n + 1 => ctN p n + (if p n then 1 else 0)
/-- the weight of stranger a in a way -/
def dig (way a : Nat) : Nat := 1 + way / 6 ^ a % 6
def sgN (x y : Nat) : Int32 := if x < y then nI 1 else if y < x then -1 else nI 0
/-- a way fits the trials -/
def FT (M : PM) (tn : Nat) (g : Nat → Nat) : Prop := ∀ t, t < tn → sgN (g (M.1 45 t).toNatClampNeg) (g (M.1 46 t).toNatClampNeg) = M.1 47 t
noncomputable def ctP (p : Nat → Prop) (n : Nat) : Nat := @ctN p (fun _ => Classical.propDecidable _) n
def SVok (M : PM) (sn tn : Nat) : Prop := M.1 44 8 = nI (ctP (fun way => FT M tn (dig way)) (6 ^ sn)) ∧ (∀ a, a < sn → ∀ w, 1 ≤ w → w ≤ 6 → M.1 49 (7 * a + w) = nI (ctP (fun way => FT M tn (dig way) ∧ dig way a = w) (6 ^ sn))) ∧ ∀ a b, a < b → b < sn → ∀ r : Nat, r < 3 → M.1 50 (3 * (5 * a + b) + r) = nI (ctP (fun way => FT M tn (dig way) ∧ sgN (dig way a) (dig way b) = nI r - nI 1) (6 ^ sn))
def RSv (M : PM) (sn tn : Nat) : Prop := M.1 44 9 = 0 ∨ (M.1 44 9 = 1 ∧ SVok M sn tn)
def RelN (M : PM) (nP nC nS tl sn tn : Nat) : Prop := RSz M nP nC nS ∧ RRo M nP nC nS ∧ SR M nP nC nS 7 63 0 ∧ RTx M tl ∧ RIm1 M nP nC nS 13 0 0 ∧ RIm1 M nP nC nS 19 1 34 ∧ RTr M sn tn ∧ RSv M sn tn ∧ M.2 0 10 = M.2 56 1
def Rel (M : PM) : Prop := ∃ nP nC nS tl sn tn, RelN M nP nC nS tl sn tn
/-- what only serves within a call -/
def scr (q k : Nat) : Bool := decide (26 ≤ q ∧ q ≤ 31) || decide (33 ≤ q ∧ q ≤ 43) || decide (q = 48) || decide (51 ≤ q ∧ q ≤ 55) || decide (66 ≤ q ∧ q ≤ 68) || decide (70 ≤ q ∧ q ≤ 74) || (decide (q = 25) && decide (3 ≤ k)) || (decide (q = 56) && decide (k = 0 ∨ (4 ≤ k ∧ k ≤ 8) ∨ (17 ≤ k ∧ k ≤ 19) ∨ k = 24 ∨ k = 32))
def Eqv (M N : PM) : Prop := (∀ q k, scr q k = false → N.1 q k = M.1 q k) ∧ N.2 0 10 = M.2 0 10 ∧ N.2 56 1 = M.2 56 1
theorem Eqv.refl (M : PM) : Eqv M M := ⟨fun _ _ _ => rfl, rfl, rfl⟩
theorem Eqv.trans {A B C : PM} (h : Eqv A B) (h2 : Eqv B C) : Eqv A C := ⟨fun q k hs => (h2.1 q k hs).trans (h.1 q k hs), h2.2.1.trans h.2.1, h2.2.2.trans h.2.2⟩
theorem Eqv.wr {M : PM} {q k : Nat} {v : Int32} (hs : scr q k = true) : Eqv M (wI M q k v) := by
  refine ⟨fun a b h => ?_, rfl, rfl⟩
  by_cases e : a = q
  · subst e
    by_cases e2 : b = k
    · subst e2; rw [hs] at h; cases h
    · simp [wI, va_up, upd, e2]
  · simp [wI, va_up, e]
theorem Eqv.ar {M : PM} {q : Nat} {f : Nat → Int32} (hs : ∀ k, scr q k = true) : Eqv M (sA M q f) := by
  refine ⟨fun a b h => ?_, rfl, rfl⟩
  by_cases e : a = q
  · subst e; rw [hs b] at h; cases h
  · rw [rdN e]
theorem RelN.eqv {M N : PM} {nP nC nS tl sn tn : Nat} (h : RelN M nP nC nS tl sn tn) (he : Eqv M N) : RelN N nP nC nS tl sn tn := by
  obtain ⟨e, e2, e3⟩ := he
  have ar : ∀ q, (∀ k, scr q k = false) → N.1 q = M.1 q := fun q hq => funext fun k => e q k (hq k)
  have z : ∀ q, (q ≤ 24 ∨ q = 32 ∨ (44 ≤ q ∧ q ≤ 47) ∨ q = 49 ∨ q = 50 ∨ (57 ≤ q ∧ q ≤ 65) ∨ q = 69) → N.1 q = M.1 q := by
    intro q hq
    refine ar q (fun k => ?_)
    unfold scr
    simp only [Bool.or_eq_false_iff, Bool.and_eq_false_iff, decide_eq_false_iff_not]
    omega
  have z56 : ∀ k, (k = 3 ∨ k = 14 ∨ k = 15 ∨ k = 16 ∨ k = 27 ∨ k = 29) → N.1 56 k = M.1 56 k := by
    intro k hk
    refine e 56 k ?_
    unfold scr
    simp only [Bool.or_eq_false_iff, Bool.and_eq_false_iff, decide_eq_false_iff_not]
    omega
  have z25 : N.1 25 2 = M.1 25 2 := e 25 2 (by decide)
  have sr : ∀ {b q o : Nat}, b ≤ 19 → (q = 63 ∨ q = 64) → SR M nP nC nS b q o → SR N nP nC nS b q o := by
    intro b q o hb hq h
    unfold SR
    rw [z (b + 1) (by omega), z (b + 2) (by omega), z (b + 3) (by omega), z (b + 4) (by omega), z (b + 5) (by omega), z q (by omega), z 2 (by omega)]
    exact h
  have im : ∀ {b k o : Nat}, b ≤ 19 → RIm1 M nP nC nS b k o → RIm1 N nP nC nS b k o := by
    intro b k o hb h
    unfold RIm1
    rw [z b (by omega), z 65 (by omega)]
    exact h.imp id (fun q => ⟨q.1, q.2.1, sr hb (Or.inr rfl) q.2.2⟩)
  obtain ⟨h1, h2, h3, h4, h5, h6, h7, h8, h9⟩ := h
  refine ⟨?_, ?_, sr (by omega) (Or.inl rfl) h3, ?_, im (by omega) h5, im (by omega) h6, ?_, ?_, by rw [e2, e3]; exact h9⟩
  · unfold RSz; rw [z 1 (by omega), z56 14 (by omega), z56 15 (by omega), z56 16 (by omega)]; exact h1
  · unfold RRo; rw [z 2 (by omega), z 58 (by omega), z 3 (by omega), z 59 (by omega), z 4 (by omega), z 60 (by omega), z 5 (by omega), z 61 (by omega), z 6 (by omega), z 62 (by omega)]; exact h2
  · unfold RTx; rw [z25, z56 3 (by omega), z 32 (by omega), z 57 (by omega)]; exact h4
  · unfold RTr; rw [z 44 (by omega), z56 27 (by omega), z56 29 (by omega), z 45 (by omega), z 46 (by omega), z 47 (by omega), z 69 (by omega)]; exact h7
  · unfold RSv SVok FT; rw [z 44 (by omega), z 45 (by omega), z 46 (by omega), z 47 (by omega), z 49 (by omega), z 50 (by omega)]; exact h8
theorem Rel.eqv {M N : PM} (h : Rel M) (he : Eqv M N) : Rel N := by
  obtain ⟨a, b, c, d, e, f, h⟩ := h
  exact ⟨a, b, c, d, e, f, h.eqv he⟩
theorem Eqv.t0 (M : PM) (v : Int32) : Eqv M (wI M 56 0 v) := Eqv.wr (by decide)
theorem m9n {a : Nat} (h : a < 2147483648) : ¬ (-9 : Int32) = nI a := fun q => cast (nneg9 h) q.symm
/-- the two sides' sums are one -/
theorem st_eq {M : PM} {nP nC nS : Nat} (hz : RSz M nP nC nS) (hr : RRo M nP nC nS) (hs : SR M nP nC nS 7 63 0) {p : Nat} (hp : p < nP) : stC M nS (nI p) = stR M nS (nI p) := by
  refine sumA_congr rfl (fun k hk => ?_)
  have h1 := hs.2.2 k hk
  obtain ⟨w, -, -, e1, e2⟩ := hr.2.2.2.2 k hk
  simp only [Nat.zero_add] at h1
  show (if M.1 11 k = nI p then M.1 6 k * M.1 12 k else nI 0) = (if M.1 63 (24 + k) = nI p then M.1 62 k * M.1 63 (29 + k) else nI 0)
  have h1 : SP (M.1 2) nP (M.1 11 k) (M.1 12 k) (M.1 63 (24 + k)) (M.1 63 (29 + k)) := h1
  rw [e1, e2]
  have hp3 := hz.2.2.1
  rcases h1 with ⟨z1, z2, z3⟩ | ⟨z1, z2, -⟩
  · rw [z1, z2, if_neg (m9n (a := p) (by omega))]
    by_cases h : M.1 11 k = nI p
    · rw [if_pos h, Int32.mul_zero]; rfl
    · rw [if_neg h]
  · rw [z1, z2]
theorem mo_eq {M : PM} {nP nC nS : Nat} (hz : RSz M nP nC nS) (hr : RRo M nP nC nS) (hs : SR M nP nC nS 7 63 0) {p : Nat} (hp : p < nP) : moC M nC nS (nI p) = moR M nC nS (nI p) := by
  refine sumA_congr (st_eq hz hr hs hp) (fun k hk => ?_)
  have h1 := hs.2.1 k hk
  obtain ⟨w, -, -, e1, e2⟩ := hr.2.2.1 k hk
  simp only [Nat.zero_add] at h1
  show (if M.1 8 k = nI p then M.1 4 k * M.1 9 k else nI 0) = (if M.1 63 k = nI p then M.1 60 k * M.1 63 (8 + k) else nI 0)
  have h1 : SP (M.1 2) nP (M.1 8 k) (M.1 9 k) (M.1 63 k) (M.1 63 (8 + k)) := h1
  rw [e1, e2]
  have hp3 := hz.2.2.1
  rcases h1 with ⟨z1, z2, z3⟩ | ⟨z1, z2, -⟩
  · rw [z1, z2, if_neg (m9n (a := p) (by omega))]
    by_cases h : M.1 8 k = nI p
    · rw [if_pos h, Int32.mul_zero]; rfl
    · rw [if_neg h]
  · rw [z1, z2]
section CG
variable {M N : PM} {nP nC nS tl sn tn : Nat}
theorem RSz.cg (h : RSz M nP nC nS) (h1 : ∀ k, 5 ≤ k → k ≤ 7 → N.1 1 k = M.1 1 k) (h2 : ∀ k, 14 ≤ k → k ≤ 16 → N.1 56 k = M.1 56 k) : RSz N nP nC nS := by
  unfold RSz; rw [h1 5 (by omega) (by omega), h1 6 (by omega) (by omega), h1 7 (by omega) (by omega), h2 14 (by omega) (by omega), h2 15 (by omega) (by omega), h2 16 (by omega) (by omega)]; exact h
theorem RRo.cg (h : RRo M nP nC nS) (z : ∀ q, (2 ≤ q ∧ q ≤ 6) ∨ (58 ≤ q ∧ q ≤ 62) → N.1 q = M.1 q) : RRo N nP nC nS := by
  unfold RRo; rw [z 2 (by omega), z 58 (by omega), z 3 (by omega), z 59 (by omega), z 4 (by omega), z 60 (by omega), z 5 (by omega), z 61 (by omega), z 6 (by omega), z 62 (by omega)]; exact h
theorem SR.cg {b q o : Nat} (h : SR M nP nC nS b q o) (z : ∀ r, (r = 2 ∨ (b + 1 ≤ r ∧ r ≤ b + 5) ∨ r = q) → N.1 r = M.1 r) : SR N nP nC nS b q o := by
  unfold SR
  rw [z (b + 1) (by omega), z (b + 2) (by omega), z (b + 3) (by omega), z (b + 4) (by omega), z (b + 5) (by omega), z q (by omega), z 2 (by omega)]
  exact h
theorem RTx.cg (h : RTx M tl) (h1 : N.1 25 2 = M.1 25 2) (h2 : N.1 56 3 = M.1 56 3) (h3 : N.1 32 = M.1 32) (h4 : N.1 57 = M.1 57) : RTx N tl := by
  unfold RTx; rw [h1, h2, h3, h4]; exact h
theorem RIm1.cg {b k o : Nat} (h : RIm1 M nP nC nS b k o) (z : ∀ r, (r = 2 ∨ (b + 1 ≤ r ∧ r ≤ b + 5) ∨ r = 64 ∨ r = 65) → N.1 r = M.1 r) (h6 : N.1 b 6 = M.1 b 6) : RIm1 N nP nC nS b k o := by
  unfold RIm1
  rw [h6, z 65 (by omega)]
  exact h.imp id (fun q => ⟨q.1, q.2.1, q.2.2.cg (fun r hr => z r (by omega))⟩)
theorem RTr.cg (h : RTr M sn tn) (h1 : N.1 44 6 = M.1 44 6) (h2 : N.1 44 7 = M.1 44 7) (h3 : N.1 56 27 = M.1 56 27) (h4 : N.1 56 29 = M.1 56 29) (z : ∀ r, (45 ≤ r ∧ r ≤ 47) ∨ r = 69 → N.1 r = M.1 r) : RTr N sn tn := by
  unfold RTr; rw [h1, h2, h3, h4, z 45 (by omega), z 46 (by omega), z 47 (by omega), z 69 (by omega)]; exact h
theorem RSv.cg (h : RSv M sn tn) (h1 : N.1 44 8 = M.1 44 8) (h2 : N.1 44 9 = M.1 44 9) (z : ∀ r, (45 ≤ r ∧ r ≤ 47) ∨ r = 49 ∨ r = 50 → N.1 r = M.1 r) : RSv N sn tn := by
  unfold RSv SVok FT; rw [h1, h2, z 45 (by omega), z 46 (by omega), z 47 (by omega), z 49 (by omega), z 50 (by omega)]; exact h
end CG
theorem upd_e {f : Nat → Int32} {k : Nat} {v : Int32} : upd f k v k = v := by simp [upd]
theorem upd_n {f : Nat → Int32} {k j : Nat} {v : Int32} (h : ¬ j = k) : upd f k v j = f j := by simp [upd, h]
