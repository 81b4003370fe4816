/-! fillings: seats for bodies, in their order -/
def zI (m : Int) : Int32 := Int32.ofInt m
theorem zI_n (n : Nat) : zI (n : Int) = nI n := Int32.toBitVec_inj.1 (BitVec.ofInt_natCast 32 n)
theorem zI_add (a b : Int) : zI (a + b) = zI a + zI b := Int32.ofInt_add a b
theorem zI_mul (a b : Int) : zI (a * b) = zI a * zI b := Int32.ofInt_mul a b
theorem zI_t (x : Int32) : zI x.toInt = x := Int32.ofInt_toInt x
theorem zI_toInt {m : Int} (h1 : -2147483648 ≤ m) (h2 : m < 2147483648) : (zI m).toInt = m := Int32.toInt_ofInt_of_le (by omega) (by omega)
theorem zI_inj {a b : Int} (h1 : -2147483648 ≤ a) (h2 : a < 2147483648) (h3 : -2147483648 ≤ b) (h4 : b < 2147483648) : (zI a = zI b) = (a = b) := by
  apply propext
  constructor
  · intro h
    have := congrArg Int32.toInt h
    rwa [zI_toInt h1 h2, zI_toInt h3 h4] at this
  · intro h; rw [h]
theorem zI_le {a b : Int} (h1 : -2147483648 ≤ a) (h2 : a < 2147483648) (h3 : -2147483648 ≤ b) (h4 : b < 2147483648) : (zI a ≤ zI b) = (a ≤ b) := by
  rw [Int32.le_iff_toInt_le, zI_toInt h1 h2, zI_toInt h3 h4]
theorem zI_lt {a b : Int} (h1 : -2147483648 ≤ a) (h2 : a < 2147483648) (h3 : -2147483648 ≤ b) (h4 : b < 2147483648) : (zI a < zI b) = (a < b) := by
  rw [Int32.lt_iff_toInt_lt, zI_toInt h1 h2, zI_toInt h3 h4]
theorem zI_neg (a : Int) : zI (-a) = - zI a := Int32.ofInt_neg a
theorem absI_le {m k : Int} (h1 : -1000000 ≤ m) (h2 : m ≤ 1000000) (h3 : -1000000 ≤ k) (h4 : k ≤ 1000000) : (absI (zI m) ≤ zI k) = (m ≤ k ∧ -m ≤ k) := by
  unfold absI
  have e0 : (0 : Int32) = zI 0 := by decide
  have e1 : ((0 : Int32) ≤ zI m) = (0 ≤ m) := by rw [e0, zI_le (by omega) (by omega) (by omega) (by omega)]
  by_cases h : 0 ≤ m
  · rw [if_pos (by rw [e1]; exact h), zI_le (by omega) (by omega) (by omega) (by omega)]; apply propext; omega
  · rw [if_neg (by rw [e1]; exact h), ← zI_neg, zI_le (by omega) (by omega) (by omega) (by omega)]; apply propext; omega
def fil (xs : List Nat) : Nat → List Nat → List (List Nat)
  | 0, pre => [pre]
  | r + 1, pre => xs.flatMap (fun x => if x ∈ pre then [] else fil xs r (pre ++ [x]))
def flx (xs : List Nat) (r : Nat) (pre ys : List Nat) : List (List Nat) := ys.flatMap (fun x => if x ∈ pre then [] else fil xs r (pre ++ [x]))
theorem fil_s {xs : List Nat} {r : Nat} {pre : List Nat} : fil xs (r + 1) pre = flx xs r pre xs := rfl
theorem flx_nil {xs : List Nat} {r : Nat} {pre : List Nat} : flx xs r pre [] = [] := rfl
theorem flx_in {xs : List Nat} {r : Nat} {pre : List Nat} {x : Nat} {ys : List Nat} (h : x ∈ pre) : flx xs r pre (x :: ys) = flx xs r pre ys := by
  unfold flx; rw [List.flatMap_cons, if_pos h, List.nil_append]
theorem flx_out {xs : List Nat} {r : Nat} {pre : List Nat} {x : Nat} {ys : List Nat} (h : ¬ x ∈ pre) : flx xs r pre (x :: ys) = fil xs r (pre ++ [x]) ++ flx xs r pre ys := by
  unfold flx; rw [List.flatMap_cons, if_neg h]
def mos (w st : Nat → Int) : Nat → List Nat → Int
  | _, [] => 0
  | b, x :: l => w b * st x + mos w st (b + 1) l
theorem mos_snoc (w st : Nat → Int) : ∀ (l : List Nat) (b x : Nat), mos w st b (l ++ [x]) = mos w st b l + w (b + l.length) * st x
  | [], b, x => by simp [mos]
  | y :: l, b, x => by
    rw [List.cons_append, mos, mos, mos_snoc w st l (b + 1) x, List.length_cons, show b + 1 + l.length = b + (l.length + 1) by omega]
    omega
def rch (w : Nat → Int) : Nat → Nat → Int
  | _, 0 => 0
  | b, r + 1 => rch w (b + 1) r + 4 * w b
theorem rch_b {w : Nat → Int} (hw : ∀ i, 0 ≤ w i ∧ w i ≤ 60) : ∀ r b, 0 ≤ rch w b r ∧ rch w b r ≤ 240 * r
  | 0, b => by simp [rch]
  | r + 1, b => by
    have := rch_b hw r (b + 1)
    have := hw b
    rw [rch]; omega
theorem mul_b {w s : Int} (h1 : 0 ≤ w) (h2 : -4 ≤ s) (h3 : s ≤ 4) : w * s ≤ 4 * w ∧ -(4 * w) ≤ w * s := by
  rcases (show s = -4 ∨ s = -3 ∨ s = -2 ∨ s = -1 ∨ s = 0 ∨ s = 1 ∨ s = 2 ∨ s = 3 ∨ s = 4 by omega) with h | h | h | h | h | h | h | h | h <;> subst h <;> omega
theorem fil_near {xs : List Nat} {w st : Nat → Int} (hs : ∀ x ∈ xs, -4 ≤ st x ∧ st x ≤ 4) (hw : ∀ i, 0 ≤ w i ∧ w i ≤ 60) : ∀ r pre f, f ∈ fil xs r pre → mos w st 0 f - mos w st 0 pre ≤ rch w pre.length r ∧ mos w st 0 pre - mos w st 0 f ≤ rch w pre.length r
  | 0, pre, f, h => by
    simp only [fil, List.mem_singleton] at h
    subst h
    simp [rch]
  | r + 1, pre, f, h => by
    rw [fil, List.mem_flatMap] at h
    obtain ⟨x, hx, h⟩ := h
    by_cases hp : x ∈ pre
    · rw [if_pos hp] at h; cases h
    · rw [if_neg hp] at h
      have ih := fil_near hs hw r (pre ++ [x]) f h
      rw [mos_snoc, List.length_append, List.length_singleton, Nat.zero_add] at ih
      have := hs x hx
      have := mul_b (hw pre.length).1 (hs x hx).1 (hs x hx).2
      rw [rch]
      omega
theorem mos_b {xs : List Nat} {w st : Nat → Int} (hs : ∀ x ∈ xs, -4 ≤ st x ∧ st x ≤ 4) (hw : ∀ i, 0 ≤ w i ∧ w i ≤ 60) : ∀ (l : List Nat) b, (∀ x ∈ l, x ∈ xs) → mos w st b l ≤ 240 * l.length ∧ -(240 * l.length : Int) ≤ mos w st b l
  | [], b, _ => by simp [mos]
  | x :: l, b, h => by
    have ih := mos_b hs hw l (b + 1) (fun y hy => h y (List.mem_cons_of_mem _ hy))
    have h0 := hs x (h x List.mem_cons_self)
    have := mul_b (hw b).1 h0.1 h0.2
    have := hw b
    rw [mos, List.length_cons]
    omega
theorem fil_mem {xs : List Nat} : ∀ r pre f, f ∈ fil xs r pre ↔ ∃ g : List Nat, f = pre ++ g ∧ g.length = r ∧ (∀ x ∈ g, x ∈ xs ∧ ¬ x ∈ pre) ∧ g.Nodup
  | 0, pre, f => by
    simp only [fil, List.mem_singleton]
    constructor
    · intro h; exact ⟨[], by simp [h]⟩
    · rintro ⟨g, h, h2, -⟩
      rw [List.length_eq_zero_iff] at h2
      subst h2
      simpa using h
  | r + 1, pre, f => by
    rw [fil, List.mem_flatMap]
    constructor
    · rintro ⟨x, hx, h⟩
      by_cases hp : x ∈ pre
      · rw [if_pos hp] at h; cases h
      · rw [if_neg hp, fil_mem r] at h
        obtain ⟨g, h1, h2, h3, h4⟩ := h
        refine ⟨x :: g, by rw [h1]; simp, by simp [h2], ?_, ?_⟩
        · intro y hy
          rcases List.mem_cons.mp hy with rfl | hy
          · exact ⟨hx, hp⟩
          · exact ⟨(h3 y hy).1, fun z => (h3 y hy).2 (List.mem_append_left _ z)⟩
        · rw [List.nodup_cons]
          exact ⟨fun z => (h3 x z).2 (by simp), h4⟩
    · rintro ⟨g, h1, h2, h3, h4⟩
      cases g with
      | nil => simp at h2
      | cons x g =>
        rw [List.nodup_cons] at h4
        refine ⟨x, (h3 x List.mem_cons_self).1, ?_⟩
        rw [if_neg (h3 x List.mem_cons_self).2, fil_mem r]
        refine ⟨g, by rw [h1]; simp, by simpa using h2, ?_, h4.2⟩
        intro y hy
        refine ⟨(h3 y (List.mem_cons_of_mem _ hy)).1, fun z => ?_⟩
        rcases List.mem_append.mp z with z | z
        · exact (h3 y (List.mem_cons_of_mem _ hy)).2 z
        · rw [List.mem_singleton] at z; subst z; exact h4.1 hy
/-- a level filling -/
def lev (w st : Nat → Int) (m0 : Int) (sl : Nat) (f : List Nat) : Bool := decide (m0 + mos w st 0 f ≤ sl ∧ -(m0 + mos w st 0 f) ≤ sl)
/-- what stays the same for a search -/
def SFx (xs : List Nat) (n : Nat) (w st : Nat → Int) (m0 : Int) (sl : Nat) : Prop := xs.length ≤ 8 ∧ xs.Nodup ∧ n ≤ 8 ∧ (∀ x ∈ xs, -4 ≤ st x ∧ st x ≤ 4) ∧ (∀ i, 0 ≤ w i ∧ w i ≤ 60) ∧ -3000 ≤ m0 ∧ m0 ≤ 3000 ∧ sl ≤ 20
def SMm (M : PM) (xs : List Nat) (n : Nat) (w st : Nat → Int) (sl : Nat) : Prop := M.1 33 5 = nI xs.length ∧ M.1 33 6 = nI n ∧ M.1 33 8 = nI sl ∧ (∀ i (h : i < xs.length), M.1 34 i = zI (st xs[i])) ∧ (∀ b, b < n → M.1 35 b = zI (w b))
def RCm (M : PM) (n : Nat) (w : Nat → Int) : Prop := ∀ b r, b + r = n → M.1 38 b = zI (rch w b r)
def TK (xs pre : List Nat) (t : Nat) : Prop := ∀ i (h : i < xs.length), (t.testBit i = true ↔ xs[i] ∈ pre)
theorem TK.nil {xs : List Nat} : TK xs [] 0 := by intro i h; simp
theorem TK.push {xs pre : List Nat} {t i : Nat} (h : TK xs pre t) (hn : xs.Nodup) (hi : i < xs.length) : TK xs (pre ++ [xs[i]]) (t ||| 2 ^ i) := by
  intro j hj
  rw [Nat.testBit_or, Bool.or_eq_true, h j hj, List.mem_append, List.mem_singleton, Nat.testBit_two_pow, decide_eq_true_eq]
  constructor
  · rintro (q | q)
    · exact Or.inl q
    · subst q; exact Or.inr rfl
  · rintro (q | q)
    · exact Or.inl q
    · exact Or.inr ((List.getElem?_inj hj hn).mp (by rw [List.getElem?_eq_getElem hj, List.getElem?_eq_getElem hi, q])).symm
theorem or_n {t i : Nat} (hi : i < 31) : nI t ||| (nI 1 <<< (nI i &&& 31)) = nI (t ||| 2 ^ i) := by rw [sh1 i hi, fa_or]
theorem hop {xs : List Nat} {n : Nat} {w st : Nat → Int} {m0 : Int} {sl : Nat} (hF : SFx xs n w st m0 sl) {r : Nat} {pre : List Nat} (h : ¬ (m0 + mos w st 0 pre ≤ sl + rch w pre.length r ∧ -(m0 + mos w st 0 pre) ≤ sl + rch w pre.length r)) : ∀ f ∈ fil xs r pre, lev w st m0 sl f = false := by
  intro f hf
  have := fil_near hF.2.2.2.1 hF.2.2.2.2.1 r pre f hf
  unfold lev
  rw [decide_eq_false_iff_not]
  omega
