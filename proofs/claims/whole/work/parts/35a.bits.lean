/-! bits (a family of kit/laws/NUMBERS.to-paste first) -/
theorem fa_and (a b : Nat) : nI a &&& nI b = nI (a &&& b) := by
  apply Int32.toBitVec_inj.1
  show BitVec.ofNat 32 a &&& BitVec.ofNat 32 b = BitVec.ofNat 32 (a &&& b)
  apply BitVec.eq_of_getLsbD_eq
  intro i hi
  simp [hi]
theorem fa_or (a b : Nat) : nI a ||| nI b = nI (a ||| b) := by
  apply Int32.toBitVec_inj.1
  show BitVec.ofNat 32 a ||| BitVec.ofNat 32 b = BitVec.ofNat 32 (a ||| b)
  apply BitVec.eq_of_getLsbD_eq
  intro i hi
  simp [hi]
/-- a remainder by a power of two, as a mask -/
theorem fa_mask (n k : Nat) : nI n &&& nI (2 ^ k - 1) = nI (n % 2 ^ k) := by rw [fa_and, Nat.and_two_pow_sub_one_eq_mod]
/-- 'or' of a high part and a low one that don't meet is their sum -/
theorem fa_or_sum {a k : Nat} (b : Nat) (h : a < 2 ^ k) : nI (2 ^ k * b) ||| nI a = nI (2 ^ k * b + a) := by rw [fa_or, Nat.two_pow_add_eq_or_of_lt h]
/-- one bit, by 'and' with a power of two -/
theorem fa_bit {n j : Nat} (hj : j < 31) : nI n &&& nI (2 ^ j) = 0 ↔ n.testBit j = false := by
  have h2 : (2 : Nat) ^ j < 2 ^ 31 := Nat.pow_lt_pow_right (by decide) hj
  have hle : n &&& 2 ^ j ≤ 2 ^ j := Nat.and_le_right
  have e : n &&& 2 ^ j = 0 ↔ n.testBit j = false := by
    constructor
    · intro h
      have h1 : (n &&& 2 ^ j).testBit j = false := by rw [h]; simp
      rw [Nat.testBit_and] at h1
      first | simpa using h1 | simpa [Nat.testBit_two_pow_self] using h1 | simpa [Nat.testBit_two_pow] using h1
    · intro h
      apply Nat.eq_of_testBit_eq
      intro i
      rw [Nat.testBit_and]
      by_cases hi : j = i
      · subst hi; simp [h]
      · first | (simp [Nat.testBit_two_pow, hi]; done) | (simp [Nat.testBit_two_pow_of_ne hi]; done)
  rw [fa_and]
  constructor
  · intro h
    apply e.mp
    rcases Nat.eq_zero_or_pos (n &&& 2 ^ j) with z | z
    · exact z
    · exact absurd h (nI_ne0 z (Nat.lt_of_le_of_lt hle h2))
  · intro h
    rw [e.mpr h]; exact nI_0
theorem sh1 : ∀ k, k < 31 → nI 1 <<< (nI k &&& 31) = nI (2 ^ k) := by decide +kernel
theorem or_bit {m k : Nat} (hk : k < 31) (hm : m < 2 ^ k) : nI m ||| (nI 1 <<< (nI k &&& 31)) = nI (m + 2 ^ k) := by
  rw [sh1 k hk, fa_or, Nat.add_comm]
  have := Nat.two_pow_add_eq_or_of_lt hm 1
  rw [Nat.mul_one] at this
  rw [this, Nat.or_comm]
theorem and_bit {m k : Nat} (hk : k < 31) : (nI m &&& (nI 1 <<< (nI k &&& 31)) = 0) = (m.testBit k = false) := by
  rw [sh1 k hk]; exact propext (fa_bit hk)
def mkN (p : Nat → Bool) : Nat → Nat
  | 0 => 0
  | k + 1 => mkN p k + if p k then 2 ^ k else 0
theorem mkN_lt (p : Nat → Bool) : ∀ k, mkN p k < 2 ^ k
  | 0 => by simp [mkN]
  | k + 1 => by
    have := mkN_lt p k
    rw [mkN, Nat.pow_succ]
    split <;> omega
theorem mkN_bit (p : Nat → Bool) : ∀ n i, (mkN p n).testBit i = (decide (i < n) && p i)
  | 0, i => by simp [mkN]
  | k + 1, i => by
    have ih := mkN_bit p k
    have hl := mkN_lt p k
    rw [mkN]
    by_cases hp : p k = true
    · rw [if_pos hp, Nat.add_comm]
      rcases Nat.lt_trichotomy i k with h | h | h
      · rw [Nat.testBit_two_pow_add_gt h, ih]; simp [h]; omega
      · subst h; rw [Nat.testBit_two_pow_add_eq, ih]; simp [hp]
      · have : 2 ^ k + mkN p k < 2 ^ i := by
          have : 2 ^ (k + 1) ≤ 2 ^ i := Nat.pow_le_pow_right (by decide) h
          rw [Nat.pow_succ] at this; omega
        rw [Nat.testBit_lt_two_pow this]; simp; omega
    · rw [if_neg hp, Nat.add_zero, ih]
      by_cases h : i = k
      · subst h; simp [hp]
      · have : decide (i < k) = decide (i < k + 1) := by simp; omega
        rw [this]
theorem mkN_congr {p q : Nat → Bool} : ∀ {n : Nat}, (∀ k, k < n → p k = q k) → mkN p n = mkN q n
  | 0, _ => rfl
  | n + 1, h => by rw [mkN, mkN, mkN_congr (fun k hk => h k (by omega)), h n (by omega)]
/-- ones among the lowest 8 bits -/
def popc (m : Nat) : Nat := m % 2 + m / 2 % 2 + m / 4 % 2 + m / 8 % 2 + m / 16 % 2 + m / 32 % 2 + m / 64 % 2 + m / 128 % 2
def cB (p : Nat → Bool) : Nat → Nat
  | 0 => 0
  | k + 1 => cB p k + if p k then 1 else 0
theorem popc_add : ∀ k, k < 8 → ∀ m, m < 2 ^ k → popc (m + 2 ^ k) = popc m + 1 := by decide +kernel
theorem popc_mk (p : Nat → Bool) : ∀ n, n ≤ 8 → popc (mkN p n) = cB p n
  | 0, _ => by simp [mkN, cB, popc]
  | n + 1, h => by
    have ih := popc_mk p n (by omega)
    rw [mkN, cB]
    by_cases hp : p n = true
    · rw [if_pos hp, if_pos hp, popc_add n (by omega) _ (mkN_lt p n), ih]
    · rw [if_neg hp, if_neg hp, Nat.add_zero, ih, Nat.add_zero]
theorem cB_le (p : Nat → Bool) : ∀ n, cB p n ≤ n
  | 0 => Nat.le_refl _
  | n + 1 => by have := cB_le p n; rw [cB]; split <;> omega
theorem cB_congr {p q : Nat → Bool} : ∀ {n : Nat}, (∀ k, k < n → p k = q k) → cB p n = cB q n
  | 0, _ => rfl
  | n + 1, h => by rw [cB, cB, cB_congr (fun k hk => h k (by omega)), h n (by omega)]
theorem sumA_cB {f : Nat → Int32} {p : Nat → Bool} : ∀ {n : Nat}, (∀ k, k < n → f k = if p k then nI 1 else nI 0) → sumA (nI 0) f n = nI (cB p n)
  | 0, _ => rfl
  | n + 1, h => by
    rw [sumA, sumA_cB (fun k hk => h k (by omega)), h n (by omega), cB]
    split
    · rw [nI_add]
    · rw [add_n0, Nat.add_zero]
