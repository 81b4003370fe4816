/-! the best of sets -/
def BestO (key : Nat → Nat) (P : Nat → Prop) (n : Nat) : Option Nat → Prop
  | none => ∀ s, s < n → ¬ P s
  | some r => r < n ∧ P r ∧ ∀ s, s < n → P s → key r < key s ∨ (key r = key s ∧ r ≤ s)
theorem BestO.uniq {key : Nat → Nat} {P : Nat → Prop} {n : Nat} : ∀ {a b : Option Nat}, BestO key P n a → BestO key P n b → a = b
  | none, none, _, _ => rfl
  | none, some r, h, h2 => absurd h2.2.1 (h r h2.1)
  | some r, none, h, h2 => absurd h.2.1 (h2 r h.1)
  | some r, some t, h, h2 => by
    have a := h.2.2 t h2.1 h2.2.1
    have b := h2.2.2 r h.1 h.2.1
    have : r = t := by omega
    rw [this]
theorem BestO.no {key : Nat → Nat} {P : Nat → Prop} {n : Nat} {o : Option Nat} (h : BestO key P n o) (hn : ¬ (P n ∧ ∀ r, o = some r → key n < key r)) : BestO key P (n + 1) o := by
  cases o with
  | none =>
    intro s hs hp
    by_cases e : s = n
    · subst e; exact hn ⟨hp, fun r z => by cases z⟩
    · exact h s (by omega) hp
  | some r =>
    obtain ⟨h1, h2, h3⟩ := h
    refine ⟨by omega, h2, fun s hs hp => ?_⟩
    by_cases e : s = n
    · subst e
      have : ¬ key s < key r := fun q => hn ⟨hp, fun r' z => by cases z; exact q⟩
      omega
    · exact h3 s (by omega) hp
theorem BestO.yes {key : Nat → Nat} {P : Nat → Prop} {n : Nat} {o : Option Nat} (h : BestO key P n o) (hp : P n) (hk : ∀ r, o = some r → key n < key r) : BestO key P (n + 1) (some n) := by
  refine ⟨Nat.lt_succ_self n, hp, fun s hs hps => ?_⟩
  by_cases e : s = n
  · subst e; exact Or.inr ⟨rfl, Nat.le_refl _⟩
  · cases o with
    | none => exact absurd hps (h s (by omega))
    | some r =>
      have h3 := h.2.2 s (by omega) hps
      have := hk r rfl
      left; omega
def oI (z : Int32) : Option Nat → Int32
  | none => z
  | some r => nI r
def ans (x : Int32) : Option Nat → Int32
  | none => -9
  | some r => if x = 0 then nI (popc r) else nI r
theorem popc_le : ∀ n, n ≤ 8 → ∀ s, s < 2 ^ n → popc s ≤ n := by decide +kernel
theorem c_X9_ones {G : GG} {d : Nat} {M : PM} {Q : Option Value → PM → Prop} {t : Nat} (ht : t < 256) (hQ : Q (some (.int (nI (popc t)))) M) : PC G (d + 1) m_X9_ones [.int (nI t)] M Q := by
  have e8 : t = mkN (fun c => t.testBit c) 8 := by rw [← mod_mk]; exact (Nat.mod_eq_of_lt ht).symm
  have ep : popc t = cB (fun c => t.testBit c) 8 := by
    have := popc_mk (fun c => t.testBit c) 8 (Nat.le_refl _)
    rwa [← e8] at this
  refine PC.of ok_X9_ones (Nat.le_of_ble_eq_true rfl) (g_X9_ones_0 ?_)
  refine up_ind (n := 8) (P := fun k => PX G d m_X9_ones Q 4 [some (.int (nI t)), some (.int (nI (cB (fun c => t.testBit c) k))), some (.int (nI k))] [] M) ?_ ?_ 0 (Nat.zero_le _)
  · apply g_X9_ones_4
    simp (disch := omega) only [nle, nlt, neq, nz, nzl, nzg, nzp, nzn, nneg, nneg9, nI_add, ncl, vin, br_T, br_F, br_p, br_n, true_and, and_true, Nat.zero_add, rdA, rdN]
    rw [ep] at hQ
    exact hQ
  · intro k hk ih
    apply g_X9_ones_4
    simp (disch := omega) only [nle, nlt, neq, nz, nzl, nzg, nzp, nzn, nneg, nneg9, nI_add, ncl, vin, br_T, br_F, br_p, br_n, true_and, and_true, Nat.zero_add, rdA, rdN]
    rw [shr1 t ht k hk, nI_add]
    exact ih
theorem c_countOrSet {G : GG} {d : Nat} {M : PM} {Q : Option Value → PM → Prop} {o : Option Nat} {x : Int32} (ho : ∀ r, o = some r → r < 256) (hQ : Q (some (.int (ans x o))) M) : PC G (d + 2) m_X8_countOrSet [.int (oI (-1) o), .int x] M Q := by
  refine PC.of ok_X8_countOrSet (Nat.le_of_ble_eq_true rfl) (g_X8_countOrSet_0 ?_)
  cases o with
  | none => exact b0 (by decide) hQ
  | some r =>
    have hr := ho r rfl
    simp only [oI]
    simp (disch := omega) only [nle, nlt, neq, nz, nzl, nzg, nzp, nzn, nneg, nneg9, nI_add, ncl, vin, br_T, br_F, br_p, br_n, true_and, and_true, Nat.zero_add, rdA, rdN]
    simp only [ans] at hQ
    refine b2 (fun z => c_bitCount hr ?_) (fun z => ?_)
    · simp only [gI]
      rw [if_pos z] at hQ; exact hQ
    · rw [if_neg z] at hQ; exact hQ
