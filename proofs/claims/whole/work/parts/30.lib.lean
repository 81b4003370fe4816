/-! helpers of the pure work -/
theorem b1 {c A B : Prop} (h : c) (a : A) : br c A B := ⟨fun _ => a, fun n => absurd h n⟩
theorem b0 {c A B : Prop} (h : ¬ c) (b : B) : br c A B := ⟨fun y => absurd y h, fun _ => b⟩
theorem b2 {c A B : Prop} (a : c → A) (b : ¬ c → B) : br c A B := ⟨a, b⟩
theorem br_p {c A B : Prop} (h : c) : br c A B = A := propext ⟨fun z => z.1 h, fun a => b1 h a⟩
theorem br_n {c A B : Prop} (h : ¬ c) : br c A B = B := propext ⟨fun z => z.2 h, fun b => b0 h b⟩
theorem br_T {A B : Prop} : br True A B = A := br_p trivial
theorem br_F {A B : Prop} : br False A B = B := br_n (fun h => h)
theorem br_same {c A : Prop} : br c A A = A := propext ⟨fun z => (Classical.em c).elim z.1 z.2, fun a => ⟨fun _ => a, fun _ => a⟩⟩
theorem ncl {k : Nat} (h : k < 2147483648) : (nI k).toNatClampNeg = k := nI_clamp (by omega)
theorem vin {k n : Nat} (h : k < n) (hn : n < 2147483648) : vp_in (nI k) n = True := eq_true (vp_in_nI h (by omega))
theorem nle {a b : Nat} (ha : a < 2147483648) (hb : b < 2147483648) : (nI a ≤ nI b) = (a ≤ b) := propext (nI_leI (by omega) (by omega))
theorem nlt {a b : Nat} (ha : a < 2147483648) (hb : b < 2147483648) : (nI a < nI b) = (a < b) := propext (nI_ltI (by omega) (by omega))
theorem neq {a b : Nat} (ha : a < 2147483648) (hb : b < 2147483648) : (nI a = nI b) = (a = b) := propext (nI_eq (by omega) (by omega))
theorem nz {a : Nat} (ha : a < 2147483648) : (nI a = 0) = (a = 0) := by rw [← nI_0, neq ha (by omega)]
theorem nzl {a : Nat} (ha : a < 2147483648) : (nI a < 0) = False := eq_false (nI_pos (by omega))
theorem nzg {a : Nat} (ha : a < 2147483648) : (0 ≤ nI a) = True := eq_true (nI_pos' (by omega))
theorem nzp {a : Nat} (ha : a < 2147483648) : (0 < nI a) = (0 < a) := by rw [← nI_0, nlt (by omega) ha]
theorem nzn {a : Nat} (ha : a < 2147483648) : (nI a ≤ 0) = (a = 0) := by rw [← nI_0, nle ha (by omega)]; apply propext; omega
theorem nsub {a b : Nat} (h : b ≤ a) : nI a - nI b = nI (a - b) := pk_sub h
theorem nneg {a : Nat} (ha : a < 2147483648) : (nI a = -1) = False := by
  apply eq_false
  intro h
  have := congrArg Int32.toInt h
  rw [nI_toInt (by omega)] at this
  have e : (-1 : Int32).toInt = -1 := by decide
  omega
theorem nneg9 {a : Nat} (ha : a < 2147483648) : (nI a = -9) = False := by
  apply eq_false
  intro h
  have := congrArg Int32.toInt h
  rw [nI_toInt (by omega)] at this
  have e : (-9 : Int32).toInt = -9 := by decide
  omega
theorem up_ind {n : Nat} {P : Nat → Prop} (hn : P n) (hs : ∀ k, k < n → P (k + 1) → P k) : ∀ k, k ≤ n → P k := by
  intro k hk
  obtain ⟨j, rfl⟩ : ∃ j, n = k + j := ⟨n - k, by omega⟩
  induction j generalizing k with
  | zero => exact hn
  | succ j ih =>
    apply hs k (by omega)
    have := ih (k + 1) (by rw [show k + 1 + j = k + (j + 1) by omega]; exact hn) (fun k' h' => hs k' (by omega)) (by omega)
    exact this
def sumI (f : Nat → Int32) : Nat → Int32
  | 0 => nI 0
  | k + 1 => sumI f k + f k
theorem sumI_congr {f g : Nat → Int32} : ∀ {n : Nat}, (∀ k, k < n → f k = g k) → sumI f n = sumI g n
  | 0, _ => rfl
  | n + 1, h => by rw [sumI, sumI, sumI_congr (fun k hk => h k (by omega)), h n (by omega)]
theorem ix3 (x : Int32) {n : Nat} (hn : n < 2147483648) : x < 0 ∨ nI n ≤ x ∨ ∃ j : Nat, j < n ∧ x = nI j := pk_ix x (by omega)
def sumA (a : Int32) (f : Nat → Int32) : Nat → Int32
  | 0 => a
  | k + 1 => sumA a f k + f k
theorem sumA_congr {a b : Int32} (hab : a = b) {f g : Nat → Int32} : ∀ {n : Nat}, (∀ k, k < n → f k = g k) → sumA a f n = sumA b g n
  | 0, _ => hab
  | n + 1, h => by rw [sumA, sumA, sumA_congr hab (fun k hk => h k (by omega)), h n (by omega)]
theorem add_n0 (x : Int32) : x + nI 0 = x := by rw [nI_0]; exact Int32.add_zero x
theorem n0_add (x : Int32) : nI 0 + x = x := by rw [nI_0]; exact Int32.zero_add x
/-- a whole array set -/
def sA (M : PM) (q : Nat) (f : Nat → Int32) : PM := (va_up M.1 q f, M.2)
theorem rdA {M : PM} {q : Nat} {f : Nat → Int32} : (sA M q f).1 q = f := by simp [sA, va_up]
theorem rdN {M : PM} {q r : Nat} {f : Nat → Int32} (h : ¬ r = q) : (sA M q f).1 r = M.1 r := by simp [sA, va_up, h]
theorem rdL {M : PM} {q : Nat} {f : Nat → Int32} : (sA M q f).2 = M.2 := rfl
theorem wI_sA {M : PM} {q k : Nat} {v : Int32} : wI M q k v = sA M q (upd (M.1 q) k v) := rfl
theorem sA_sA {M : PM} {q : Nat} {f g : Nat → Int32} : sA (sA M q f) q g = sA M q g := by
  unfold sA
  congr 1
  funext a
  by_cases h : a = q <;> simp [va_up, h]
theorem sA_self {M : PM} {q : Nat} : sA M q (M.1 q) = M := by
  unfold sA
  have : va_up M.1 q (M.1 q) = M.1 := by
    funext a
    by_cases h : a = q <;> simp [va_up, h]
  rw [this]
theorem sA_eq {M : PM} {q : Nat} {f g : Nat → Int32} (h : f = g) : sA M q f = sA M q g := by rw [h]
noncomputable def bI (c : Prop) : Int32 := @ite _ c (Classical.propDecidable c) (nI 1) (nI 0)
theorem bI_t {c : Prop} (h : c) : bI c = nI 1 := if_pos h
theorem bI_f {c : Prop} (h : ¬ c) : bI c = nI 0 := if_neg h
theorem bI_01 (c : Prop) : bI c = 0 ∨ bI c = 1 := by
  by_cases h : c
  · right; rw [bI_t h]; rfl
  · left; rw [bI_f h]; rfl
theorem bI_z {c : Prop} : (bI c = 0) = ¬ c := by
  by_cases h : c
  · rw [bI_t h]; simp [h]; decide
  · rw [bI_f h]; simp [h]; decide
def absI (x : Int32) : Int32 := if 0 ≤ x then x else -x
theorem abs_c (x : Int32) : (if 0 ≤ x then x else 0 - x) = absI x := by unfold absI; rw [Int32.zero_sub]
def tlt (sl x : Int32) : Int32 := if sl < absI x then (if 0 ≤ x then nI 1 else -1) else nI 0
theorem le_pred {x : Int32} {n : Nat} (hn : n < 1000000) : (x ≤ nI n - nI 1) = (x < nI n) := by
  have h1 := pk_sub_toInt (a := n) (b := 1) (by omega) (by omega)
  have h2 : (nI n).toInt = n := nI_toInt (by omega)
  rw [Int32.le_iff_toInt_le, Int32.lt_iff_toInt_lt, h1, h2]
  apply propext; omega
theorem n01a : (nI 0 = 0 ∨ nI 0 = 1) = True := eq_true (by decide)
theorem n01b : (nI 1 = 0 ∨ nI 1 = 1) = True := eq_true (by decide)
/-- an array filled from o on, k places -/
def fo (f g : Nat → Int32) (o k : Nat) : Nat → Int32 := fun j => if o ≤ j ∧ j < o + k then f (j - o) else g j
theorem fo_0 {f g : Nat → Int32} {o : Nat} : fo f g o 0 = g := by
  funext j; unfold fo; rw [if_neg (by omega)]
theorem fo_up {f g : Nat → Int32} {o k : Nat} {v : Int32} (hv : v = f k) : upd (fo f g o k) (o + k) v = fo f g o (k + 1) := by
  funext j
  unfold upd fo
  by_cases h : j = o + k
  · rw [if_pos h, if_pos (by omega), hv]
    congr 1; omega
  · rw [if_neg h]
    by_cases h2 : o ≤ j ∧ j < o + k
    · rw [if_pos h2, if_pos (by omega)]
    · rw [if_neg h2, if_neg (by omega)]
theorem fo_in {f g : Nat → Int32} {o k j : Nat} (h : j < k) : fo f g o k (o + j) = f j := by
  unfold fo; rw [if_pos (by omega)]; congr 1; omega
theorem fo_in0 {f g : Nat → Int32} {k j : Nat} (h : j < k) : fo f g 0 k j = f j := by
  unfold fo; rw [if_pos (by omega)]; rfl
theorem fo_out {f g : Nat → Int32} {o k j : Nat} (h : j < o ∨ o + k ≤ j) : fo f g o k j = g j := by
  unfold fo; rw [if_neg (by omega)]
theorem sA_fo0 {M : PM} {q o : Nat} {f : Nat → Int32} : sA M q (fo f (M.1 q) o 0) = M := by rw [fo_0]; exact sA_self
theorem wI_fo {M : PM} {q o k : Nat} {f : Nat → Int32} {v : Int32} (hv : v = f k) : wI (sA M q (fo f (M.1 q) o k)) q (o + k) v = sA M q (fo f (M.1 q) o (k + 1)) := by
  rw [wI_sA, sA_sA, rdA, fo_up hv]
theorem wI_fo0 {M : PM} {q k : Nat} {f : Nat → Int32} {v : Int32} (hv : v = f k) : wI (sA M q (fo f (M.1 q) 0 k)) q k v = sA M q (fo f (M.1 q) 0 (k + 1)) := by
  have := wI_fo (M := M) (q := q) (o := 0) hv
  rwa [Nat.zero_add] at this
theorem PC.mono {G : GG} {d : Nat} {μ : Mth} {av : List Value} {M : PM} {P Q : Option Value → PM → Prop} (h : PC G d μ av M P) (hpq : ∀ v N, P v N → Q v N) : PC G d μ av M Q := by
  refine ⟨h.1, MetFree.mono h.2 (fun _ _ z => z) (fun _ _ _ _ _ z => z) ?_⟩
  intro a s o t _ hq
  obtain ⟨⟨⟨r, N, e, hp, hw⟩, hf⟩, hL⟩ := hq
  exact ⟨⟨⟨r, N, e, hpq r N hp, hw⟩, hf⟩, hL⟩
