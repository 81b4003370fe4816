/-! strangers: counting by ways, and by guesses -/
noncomputable def i1 (p : Prop) : Nat := @ite _ p (Classical.propDecidable p) 1 0
theorem i1_t {p : Prop} (h : p) : i1 p = 1 := if_pos h
theorem i1_f {p : Prop} (h : ¬ p) : i1 p = 0 := if_neg h
theorem i1_c {p q : Prop} (h : p ↔ q) : i1 p = i1 q := by rw [propext h]
theorem ctP_s (p : Nat → Prop) (n : Nat) : ctP p (n + 1) = ctP p n + i1 (p n) := rfl
theorem ctP_c {p q : Nat → Prop} : ∀ {n : Nat}, (∀ k, k < n → (p k ↔ q k)) → ctP p n = ctP q n
  | 0, _ => rfl
  | n + 1, h => by rw [ctP_s, ctP_s, ctP_c (fun k hk => h k (by omega)), i1_c (h n (by omega))]
theorem i1_le (p : Prop) : i1 p ≤ 1 := by
  by_cases h : p
  · rw [i1_t h]; omega
  · rw [i1_f h]; omega
theorem ctP_le (p : Nat → Prop) : ∀ n, ctP p n ≤ n
  | 0 => Nat.le_refl _
  | n + 1 => by
    have := ctP_le p n
    have := i1_le (p n)
    rw [ctP_s]; omega
def sumF (f : Nat → Nat) : Nat → Nat
  | 0 => 0
  | k + 1 => sumF f k + f k
theorem sumF_c {f g : Nat → Nat} : ∀ {n : Nat}, (∀ k, k < n → f k = g k) → sumF f n = sumF g n
  | 0, _ => rfl
  | n + 1, h => by rw [sumF, sumF, sumF_c (fun k hk => h k (by omega)), h n (by omega)]
theorem ct6 (R : Nat → Prop) : ∀ n, sumF (fun w => ctP (fun v => R (6 * v + w)) n) 6 = ctP R (6 * n)
  | 0 => rfl
  | n + 1 => by
    have ih := ct6 R n
    have e : 6 * (n + 1) = 6 * n + 0 + 1 + 1 + 1 + 1 + 1 + 1 := by omega
    rw [e, ctP_s, ctP_s, ctP_s, ctP_s, ctP_s, ctP_s]
    simp only [sumF, ctP_s] at ih ⊢
    rw [Nat.add_zero, ← ih]
    omega
def updN (g : Nat → Nat) (a v : Nat) : Nat → Nat := fun j => if j = a then v else g j
def comb (g : Nat → Nat) (a v : Nat) : Nat → Nat := fun j => if j < a then g j else dig v (j - a)
noncomputable def cG : Nat → Nat → (Nat → Nat) → ((Nat → Nat) → Prop) → Nat
  | 0, _, g, P => i1 (P g)
  | k + 1, a, g, P => sumF (fun w => cG k (a + 1) (updN g a (w + 1)) P) 6
theorem comb_up {g : Nat → Nat} {a v w : Nat} (hw : w < 6) : comb (updN g a (w + 1)) (a + 1) v = comb g a (6 * v + w) := by
  funext j
  unfold comb updN
  by_cases h : j < a
  · rw [if_pos (by omega), if_neg (by omega), if_pos h]
  · by_cases h2 : j = a
    · subst h2
      rw [if_pos (by omega), if_pos rfl, if_neg h]
      unfold dig
      rw [Nat.sub_self, Nat.pow_zero, Nat.div_one]
      omega
    · rw [if_neg (by omega), if_neg h]
      unfold dig
      obtain ⟨t, rfl⟩ : ∃ t, j = a + 1 + t := ⟨j - (a + 1), by omega⟩
      rw [show a + 1 + t - (a + 1) = t by omega, show a + 1 + t - a = t + 1 by omega, Nat.pow_succ, Nat.mul_comm (6 ^ t) 6, ← Nat.div_div_eq_div_mul, show (6 * v + w) / 6 = v by omega]
theorem cG_ct {sn : Nat} {P : (Nat → Nat) → Prop} (hP : ∀ g h : Nat → Nat, (∀ j, j < sn → g j = h j) → (P g ↔ P h)) : ∀ k a g, a + k = sn → cG k a g P = ctP (fun v => P (comb g a v)) (6 ^ k)
  | 0, a, g, h => by
    show i1 (P g) = ctP _ 1
    have : ctP (fun v => P (comb g a v)) 1 = i1 (P (comb g a 0)) := by rw [show (1 : Nat) = 0 + 1 by rfl, ctP_s]; exact Nat.zero_add _
    rw [this]
    refine i1_c (hP _ _ (fun j hj => ?_))
    unfold comb; rw [if_pos (by omega)]
  | k + 1, a, g, h => by
    rw [cG, Nat.pow_succ, Nat.mul_comm, ← ct6]
    refine sumF_c (fun w hw => ?_)
    rw [cG_ct hP k (a + 1) _ (by omega)]
    refine ctP_c (fun v hv => ?_)
    rw [comb_up hw]
/-- what is tallied so far -/
def TS (A M : PM) (sn tn : Nat) (κ : ((Nat → Nat) → Prop) → Nat) : Prop := M.1 44 8 = nI (κ (fun g => FT A tn g)) ∧ (∀ a, a < sn → ∀ w, 1 ≤ w → w ≤ 6 → M.1 49 (7 * a + w) = nI (κ (fun g => FT A tn g ∧ g a = w))) ∧ ∀ a b, a < b → b < sn → ∀ r : Nat, r < 3 → M.1 50 (3 * (5 * a + b) + r) = nI (κ (fun g => FT A tn g ∧ sgN (g a) (g b) = nI r - nI 1))
def GF (A M : PM) : Prop := (∀ q k, ¬ (48 ≤ q ∧ q ≤ 50) → ¬ (q = 44 ∧ k = 8) → M.1 q k = A.1 q k) ∧ M.2 = A.2
theorem GF.w {A M : PM} (h : GF A M) {q k : Nat} {v : Int32} (hq : (48 ≤ q ∧ q ≤ 50) ∨ (q = 44 ∧ k = 8)) : GF A (wI M q k v) := by
  refine ⟨fun r j h1 h2 => ?_, h.2⟩
  by_cases e : r = q
  · subst e
    have : ¬ j = k := fun z => by subst z; omega
    simp (disch := omega) only [wI_sA, rdA, rdN, rdL, upd_e, upd_n]; exact h.1 r j h1 h2
  · simp (disch := omega) only [wI_sA, rdA, rdN, rdL, upd_e, upd_n]; exact h.1 r j h1 h2
theorem sg2 : ∀ x, x < 7 → ∀ y, y < 7 → sgX (nI y - nI x) = sgN x y := by decide +kernel
def rN (x y : Nat) : Nat := if x < y then 2 else if y < x then 0 else 1
theorem rN_e : ∀ x, x < 7 → ∀ y, y < 7 → sgN x y + nI 1 = nI (rN x y) ∧ rN x y < 3 ∧ ∀ r, r < 3 → (sgN x y = nI r - nI 1 ↔ r = rN x y) := by decide +kernel
section
variable {A : PM} {sn tn : Nat} {g : Nat → Nat} {κ : ((Nat → Nat) → Prop) → Nat}
theorem c_X7_tally {G : GG} {d : Nat} {M : PM} {Q : Option Value → PM → Prop} (hA : RTr A sn tn) (hf : GF A M) (hg : ∀ j, j < sn → M.1 48 j = nI (g j) ∧ 1 ≤ g j ∧ g j ≤ 6) (hF : FT A tn g) (ht : TS A M sn tn κ) (hQ : ∀ N, GF A N → N.1 48 = M.1 48 → TS A N sn tn (fun P => κ P + i1 (P g)) → Q none N) : PC G (d + 2) m_X7_tally [.ref 44] M Q := by
  obtain ⟨c1, c2, c3, c4, c5, c6, c7, c8⟩ := id hA
  obtain ⟨t1, t2, t3⟩ := ht
  refine PC.of ok_X7_tally (Nat.le_of_ble_eq_true rfl) (g_X7_tally_0 ?_)
  rw [t1, nI_add]
  refine up_ind (P := fun x => ∀ N, GF A N → N.1 48 = M.1 48 → N.1 44 8 = nI (κ (fun g => FT A tn g) + 1) → (∀ a, a < sn → ∀ w, 1 ≤ w → w ≤ 6 → N.1 49 (7 * a + w) = nI (κ (fun g => FT A tn g ∧ g a = w) + i1 (a < x ∧ g a = w))) → (∀ a b, a < b → b < sn → ∀ r : Nat, r < 3 → N.1 50 (3 * (5 * a + b) + r) = nI (κ (fun g => FT A tn g ∧ sgN (g a) (g b) = nI r - nI 1) + i1 (a < x ∧ sgN (g a) (g b) = nI r - nI 1))) → PX G (d + 1) m_X7_tally Q 12 [some (.ref 44), some (.int (nI x)), none] [] N) ?_ ?_ 0 (Nat.zero_le sn) _ (hf.w (by omega)) (by simp (disch := omega) only [wI_sA, rdA, rdN, rdL, upd_e, upd_n]) (by simp (disch := omega) only [wI_sA, rdA, rdN, rdL, upd_e, upd_n]) (fun a ha w w1 w2 => ?_) (fun a b hab hb r hr => ?_)
  · intro N n1 n2 n3 n4 n5
    apply g_X7_tally_12
    rw [n1.1 44 6 (by omega) (by omega), c1]
    simp (disch := omega) only [nle, nlt, neq, nz, nzl, nzg, nzp, nzn, nneg, nneg9, nI_add, ncl, vin, br_T, br_F, br_p, br_n, true_and, and_true, Nat.zero_add, rdA, rdN]
    refine hQ N n1 n2 ⟨?_, fun a ha w w1 w2 => ?_, fun a b hab hb r hr => ?_⟩
    · show _ = nI (κ (fun g => FT A tn g) + i1 (FT A tn g)); rw [i1_t hF]; exact n3
    · rw [n4 a ha w w1 w2]
      show _ = nI (κ (fun g => FT A tn g ∧ g a = w) + i1 (FT A tn g ∧ g a = w))
      rw [i1_c (p := a < sn ∧ g a = w) (q := FT A tn g ∧ g a = w) ⟨fun z => ⟨hF, z.2⟩, fun z => ⟨ha, z.2⟩⟩]
    · rw [n5 a b hab hb r hr]
      show _ = nI (κ (fun g => FT A tn g ∧ sgN (g a) (g b) = nI r - nI 1) + i1 (FT A tn g ∧ sgN (g a) (g b) = nI r - nI 1))
      rw [i1_c (p := a < sn ∧ sgN (g a) (g b) = nI r - nI 1) (q := FT A tn g ∧ sgN (g a) (g b) = nI r - nI 1) ⟨fun z => ⟨hF, z.2⟩, fun z => ⟨by omega, z.2⟩⟩]
  · intro x hx ih N n1 n2 n3 n4 n5
    obtain ⟨gx, gx1, gx2⟩ := hg x hx
    apply g_X7_tally_12
    rw [n1.1 44 6 (by omega) (by omega), c1, n2]
    simp (disch := omega) only [nle, nlt, neq, nz, nzl, nzg, nzp, nzn, nneg, nneg9, nI_add, ncl, vin, br_T, br_F, br_p, br_n, true_and, and_true, Nat.zero_add, rdA, rdN, gx, nmul]
    refine up_ind (P := fun y => x < y → ∀ N, GF A N → N.1 48 = M.1 48 → N.1 44 8 = nI (κ (fun g => FT A tn g) + 1) → (∀ a, a < sn → ∀ w, 1 ≤ w → w ≤ 6 → N.1 49 (7 * a + w) = nI (κ (fun g => FT A tn g ∧ g a = w) + i1 (a < x + 1 ∧ g a = w))) → (∀ a b, a < b → b < sn → ∀ r : Nat, r < 3 → N.1 50 (3 * (5 * a + b) + r) = nI (κ (fun g => FT A tn g ∧ sgN (g a) (g b) = nI r - nI 1) + i1 ((a < x ∨ (a = x ∧ b < y)) ∧ sgN (g a) (g b) = nI r - nI 1))) → PX G (d + 1) m_X7_tally Q 44 [some (.ref 44), some (.int (nI x)), some (.int (nI y))] [] N) ?_ ?_ (x + 1) (show x + 1 ≤ sn by omega) (by omega) _ (n1.w (by omega)) (by simp (disch := omega) only [wI_sA, rdA, rdN, rdL, upd_e, upd_n]; exact n2) (by simp (disch := omega) only [wI_sA, rdA, rdN, rdL, upd_e, upd_n]; exact n3) (fun a ha w w1 w2 => ?_) (fun a b hab hb r hr => ?_)
    · intro _ N n1 n2 n3 n4 n5
      apply g_X7_tally_44
      rw [n1.1 44 6 (by omega) (by omega), c1]
      simp (disch := omega) only [nle, nlt, neq, nz, nzl, nzg, nzp, nzn, nneg, nneg9, nI_add, ncl, vin, br_T, br_F, br_p, br_n, true_and, and_true, Nat.zero_add, rdA, rdN]
      refine ih N n1 n2 n3 n4 (fun a b hab hb r hr => ?_)
      rw [n5 a b hab hb r hr]
      rw [i1_c (p := (a < x ∨ (a = x ∧ b < sn)) ∧ sgN (g a) (g b) = nI r - nI 1) (q := a < x + 1 ∧ sgN (g a) (g b) = nI r - nI 1) ⟨fun z => ⟨by omega, z.2⟩, fun z => ⟨by omega, z.2⟩⟩]
    · intro y hy ih2 hxy N n1 n2 n3 n4 n5
      obtain ⟨gy, gy1, gy2⟩ := hg y hy
      obtain ⟨r1, r2, r3⟩ := rN_e (g x) (by omega) (g y) (by omega)
      apply g_X7_tally_44
      rw [n1.1 44 6 (by omega) (by omega), c1, n2]
      simp (disch := omega) only [nle, nlt, neq, nz, nzl, nzg, nzp, nzn, nneg, nneg9, nI_add, ncl, vin, br_T, br_F, br_p, br_n, true_and, and_true, Nat.zero_add, rdA, rdN, gx, gy]
      refine c_signum ?_
      simp only [gI]
      rw [sg2 _ (by omega) _ (by omega)]
      refine PC.of ok_X7_outcomeCell (Nat.le_of_ble_eq_true rfl) (g_X7_outcomeCell_0 ?_)
      simp only [gI]
      rw [Int32.add_assoc, r1]
      simp (disch := omega) only [nle, nlt, neq, nz, nzl, nzg, nzp, nzn, nneg, nneg9, nI_add, ncl, vin, br_T, br_F, br_p, br_n, true_and, and_true, Nat.zero_add, rdA, rdN, nmul]
      have ec : (x * 5 + y) * 3 + rN (g x) (g y) = 3 * (5 * x + y) + rN (g x) (g y) := by omega
      rw [ec]
      have hc := n5 x y hxy hy (rN (g x) (g y)) r2
      rw [hc, i1_f (fun z => absurd z.1 (by omega)), Nat.add_zero, nI_add]
      refine ih2 (by omega) _ (n1.w (by omega)) (by simp (disch := omega) only [wI_sA, rdA, rdN, rdL, upd_e, upd_n]; exact n2) (by simp (disch := omega) only [wI_sA, rdA, rdN, rdL, upd_e, upd_n]; exact n3) (fun a ha w w1 w2 => by simp (disch := omega) only [wI_sA, rdA, rdN, rdL, upd_e, upd_n]; exact n4 a ha w w1 w2) (fun a b hab hb r hr => ?_)
      by_cases e : a = x ∧ b = y
      · obtain ⟨rfl, rfl⟩ := e
        by_cases er : r = rN (g a) (g b)
        · subst er
          simp (disch := omega) only [wI_sA, rdA, rdN, rdL, upd_e, upd_n]
          rw [i1_t (p := (_ ∨ _) ∧ _) ⟨Or.inr ⟨by trivial, by omega⟩, (r3 _ r2).mpr rfl⟩]
        · simp (disch := omega) only [wI_sA, rdA, rdN, rdL, upd_e, upd_n]
          rw [n5 a b hab hb r hr]
          have nn : ¬ sgN (g a) (g b) = nI r - nI 1 := fun z => er ((r3 r hr).mp z)
          rw [i1_f (fun z => nn z.2), i1_f (fun z => nn z.2)]
      · have : ¬ 3 * (5 * a + b) + r = 3 * (5 * x + y) + rN (g x) (g y) := by omega
        simp (disch := omega) only [wI_sA, rdA, rdN, rdL, upd_e, upd_n]
        rw [n5 a b hab hb r hr]
        rw [i1_c (p := (a < x ∨ (a = x ∧ b < y)) ∧ sgN (g a) (g b) = nI r - nI 1) (q := (a < x ∨ (a = x ∧ b < y + 1)) ∧ sgN (g a) (g b) = nI r - nI 1) ⟨fun z => ⟨by omega, z.2⟩, fun z => ⟨by omega, z.2⟩⟩]
    · have hc := n4 x hx (g x) gx1 gx2
      have ec : x * 7 + g x = 7 * x + g x := by omega
      rw [ec, hc]
      by_cases e : a = x
      · subst e
        by_cases ew : w = g a
        · subst ew
          simp (disch := omega) only [wI_sA, rdA, rdN, rdL, upd_e, upd_n]
          rw [i1_f (fun z => absurd z.1 (by omega)), i1_t ⟨by omega, by trivial⟩, Nat.add_zero, nI_add]
        · simp (disch := omega) only [wI_sA, rdA, rdN, rdL, upd_e, upd_n]
          rw [n4 a ha w w1 w2, i1_f (fun z => ew z.2.symm), i1_f (fun z => ew z.2.symm)]
      · have : ¬ 7 * a + w = 7 * x + g x := by omega
        simp (disch := omega) only [wI_sA, rdA, rdN, rdL, upd_e, upd_n]
        rw [n4 a ha w w1 w2]
        rw [i1_c (p := a < x ∧ g a = w) (q := a < x + 1 ∧ g a = w) ⟨fun z => ⟨by omega, z.2⟩, fun z => ⟨by omega, z.2⟩⟩]
    · simp (disch := omega) only [wI_sA, rdA, rdN, rdL, upd_e, upd_n]
      rw [n5 a b hab hb r hr]
      rw [i1_c (p := a < x ∧ sgN (g a) (g b) = nI r - nI 1) (q := (a < x ∨ (a = x ∧ b < x + 1)) ∧ sgN (g a) (g b) = nI r - nI 1) ⟨fun z => ⟨by omega, z.2⟩, fun z => ⟨by omega, z.2⟩⟩]
  · simp (disch := omega) only [wI_sA, rdA, rdN, rdL, upd_e, upd_n]; rw [t2 a ha w w1 w2, i1_f (fun z => absurd z.1 (by omega)), Nat.add_zero]
  · simp (disch := omega) only [wI_sA, rdA, rdN, rdL, upd_e, upd_n]; rw [t3 a b hab hb r hr, i1_f (fun z => absurd z.1 (by omega)), Nat.add_zero]
theorem c_X7_guessFits {G : GG} {d : Nat} {M : PM} {Q : Option Value → PM → Prop} (hA : RTr A sn tn) (hf : GF A M) (hg : ∀ j, j < sn → M.1 48 j = nI (g j) ∧ 1 ≤ g j ∧ g j ≤ 6) (hQ : Q (some (.int (bI (FT A tn g)))) M) : PC G (d + 2) m_X7_guessFits [.ref 44] M Q := by
  obtain ⟨c1, c2, c3, c4, c5, c6, c7, c8⟩ := id hA
  refine PC.of ok_X7_guessFits (Nat.le_of_ble_eq_true rfl) (g_X7_guessFits_0 ?_)
  refine up_ind (P := fun k => (∀ t, t < k → sgN (g (A.1 45 t).toNatClampNeg) (g (A.1 46 t).toNatClampNeg) = A.1 47 t) → PX G (d + 1) m_X7_guessFits Q 2 [some (.ref 44), some (.int (nI k))] [] M) ?_ ?_ 0 (Nat.zero_le tn) (fun j hj => absurd hj (by omega))
  · intro hall
    apply g_X7_guessFits_2
    simp only [n01a, n01b, true_and]
    rw [hf.1 44 7 (by omega) (by omega), c5]
    simp (disch := omega) only [nle, nlt, neq, nz, nzl, nzg, nzp, nzn, nneg, nneg9, nI_add, ncl, vin, br_T, br_F, br_p, br_n, true_and, and_true, Nat.zero_add, rdA, rdN]
    rw [bI_t (show FT A tn g from hall)] at hQ
    exact hQ
  · intro k hk ih hall
    obtain ⟨a, b, ha, hb, hab, e1, -, e2, -, -, -⟩ := c8 k hk
    obtain ⟨ga, ga1, ga2⟩ := hg a ha
    obtain ⟨gb, gb1, gb2⟩ := hg b hb
    have m45 : M.1 45 k = nI a := by rw [hf.1 45 k (by omega) (by omega), e1]
    have m46 : M.1 46 k = nI b := by rw [hf.1 46 k (by omega) (by omega), e2]
    have m47 : M.1 47 k = A.1 47 k := hf.1 47 k (by omega) (by omega)
    apply g_X7_guessFits_2
    simp only [n01a, n01b, true_and]
    rw [hf.1 44 7 (by omega) (by omega), c5]
    simp (disch := omega) only [nle, nlt, neq, nz, nzl, nzg, nzp, nzn, nneg, nneg9, nI_add, ncl, vin, br_T, br_F, br_p, br_n, true_and, and_true, Nat.zero_add, rdA, rdN, m45, m46, ga, gb, m47]
    refine c_signum ?_
    simp only [gI]
    rw [sg2 _ (by omega) _ (by omega), m47]
    have ek : (sgN (g (A.1 45 k).toNatClampNeg) (g (A.1 46 k).toNatClampNeg) = A.1 47 k) = (sgN (g a) (g b) = A.1 47 k) := by rw [e1, e2, ncl (by omega), ncl (by omega)]
    refine b2 (fun q => ih (fun j hj => ?_)) (fun q => ?_)
    · by_cases e : j = k
      · subst e; rw [ek]; exact q
      · exact hall j (by omega)
    · rw [bI_f (fun z => q (by rw [← ek]; exact z k hk))] at hQ
      exact hQ
theorem TS.no {M : PM} (h : TS A M sn tn κ) (hF : ¬ FT A tn g) : TS A M sn tn (fun P => κ P + i1 (P g)) := by
  obtain ⟨h1, h2, h3⟩ := h
  refine ⟨?_, fun a ha w w1 w2 => ?_, fun a b hab hb r hr => ?_⟩
  · show _ = nI (_ + i1 (FT A tn g)); rw [i1_f hF]; exact h1
  · show _ = nI (_ + i1 (FT A tn g ∧ g a = w)); rw [i1_f (fun z => hF z.1)]; exact h2 a ha w w1 w2
  · show _ = nI (_ + i1 (FT A tn g ∧ sgN (g a) (g b) = nI r - nI 1)); rw [i1_f (fun z => hF z.1)]; exact h3 a b hab hb r hr
theorem c_X7_guessFrom {G : GG} {d : Nat} (hA : RTr A sn tn) : ∀ (k a : Nat) (g : Nat → Nat) (κ : ((Nat → Nat) → Prop) → Nat) (M : PM) (Q : Option Value → PM → Prop), a + k = sn → GF A M → (∀ j, j < a → M.1 48 j = nI (g j) ∧ 1 ≤ g j ∧ g j ≤ 6) → TS A M sn tn κ → (∀ N, GF A N → (∀ j, j < a → N.1 48 j = M.1 48 j) → TS A N sn tn (fun P => κ P + cG k a g P) → Q none N) → PC G (d + k + 3) m_X7_guessFrom [.ref 44, .int (nI a)] M Q
  | 0, a, g, κ, M, Q, ha, hf, hg, ht, hQ => by
    obtain ⟨c1, c2, c3, c4, c5, c6, c7, c8⟩ := id hA
    have ha : a = sn := by omega
    subst ha
    refine PC.of ok_X7_guessFrom (Nat.le_of_ble_eq_true rfl) (g_X7_guessFrom_0 ?_)
    rw [hf.1 44 6 (by omega) (by omega), c1]
    simp (disch := omega) only [nle, nlt, neq, nz, nzl, nzg, nzp, nzn, nneg, nneg9, nI_add, ncl, vin, br_T, br_F, br_p, br_n, true_and, and_true, Nat.zero_add, rdA, rdN]
    refine c_X7_guessFits hA hf hg ?_
    simp only [gI, bI_z]
    refine b2 (fun q => hQ M hf (fun _ _ => rfl) (ht.no q)) (fun q => c_X7_tally hA hf hg (Classical.not_not.mp q) ht (fun N n1 n2 n3 => ?_))
    simp only [gN]
    exact hQ N n1 (fun j _ => by rw [n2]) n3
  | k + 1, a, g, κ, M, Q, ha, hf, hg, ht, hQ => by
    obtain ⟨c1, c2, c3, c4, c5, c6, c7, c8⟩ := id hA
    refine PC.of (d := d + k + 3) ok_X7_guessFrom (Nat.le_of_ble_eq_true rfl) (g_X7_guessFrom_0 ?_)
    rw [hf.1 44 6 (by omega) (by omega), c1]
    simp (disch := omega) only [nle, nlt, neq, nz, nzl, nzg, nzp, nzn, nneg, nneg9, nI_add, ncl, vin, br_T, br_F, br_p, br_n, true_and, and_true, Nat.zero_add, rdA, rdN]
    refine up_ind (P := fun i => ∀ N, GF A N → (∀ j, j < a → N.1 48 j = M.1 48 j) → TS A N sn tn (fun P => κ P + sumF (fun w => cG k (a + 1) (updN g a (w + 1)) P) i) → PX G (d + k + 3) m_X7_guessFrom Q 22 [some (.ref 44), some (.int (nI a)), some (.int (nI (i + 1)))] [] N) ?_ ?_ 0 (Nat.zero_le 6) M hf (fun _ _ => rfl) ht
    · intro N n1 n2 n3
      apply g_X7_guessFrom_22
      simp (disch := omega) only [nle, nlt, neq, nz, nzl, nzg, nzp, nzn, nneg, nneg9, nI_add, ncl, vin, br_T, br_F, br_p, br_n, true_and, and_true, Nat.zero_add, rdA, rdN]
      exact hQ N n1 n2 n3
    · intro i hi ih N n1 n2 n3
      apply g_X7_guessFrom_22
      simp (disch := omega) only [nle, nlt, neq, nz, nzl, nzg, nzp, nzn, nneg, nneg9, nI_add, ncl, vin, br_T, br_F, br_p, br_n, true_and, and_true, Nat.zero_add, rdA, rdN]
      refine c_X7_guessFrom hA k (a + 1) (updN g a (i + 1)) (fun P => κ P + sumF (fun w => cG k (a + 1) (updN g a (w + 1)) P) i) _ _ (by omega) (n1.w (by omega)) (fun j hj => ?_) ?_ (fun N2 z1 z2 z3 => ?_)
      · unfold updN
        by_cases e : j = a
        · subst e; rw [if_pos rfl]; simp (disch := omega) only [wI_sA, rdA, rdN, rdL, upd_e, upd_n]; exact ⟨trivial, by omega, by omega⟩
        · rw [if_neg e]; simp (disch := omega) only [wI_sA, rdA, rdN, rdL, upd_e, upd_n]; rw [n2 j (by omega)]; exact hg j (by omega)
      · obtain ⟨u1, u2, u3⟩ := n3
        refine ⟨?_, fun a ha w w1 w2 => ?_, fun a b hab hb r hr => ?_⟩
        · simp (disch := omega) only [wI_sA, rdA, rdN, rdL, upd_e, upd_n]; exact u1
        · simp (disch := omega) only [wI_sA, rdA, rdN, rdL, upd_e, upd_n]; exact u2 a ha w w1 w2
        · simp (disch := omega) only [wI_sA, rdA, rdN, rdL, upd_e, upd_n]; exact u3 a b hab hb r hr
      · simp only [gN]
        refine ih N2 z1 (fun j hj => ?_) ?_
        · rw [z2 j (by omega)]; simp (disch := omega) only [wI_sA, rdA, rdN, rdL, upd_e, upd_n]; exact n2 j hj
        · have e : (fun P => κ P + sumF (fun w => cG k (a + 1) (updN g a (w + 1)) P) (i + 1)) = (fun P => κ P + sumF (fun w => cG k (a + 1) (updN g a (w + 1)) P) i + cG k (a + 1) (updN g a (i + 1)) P) := by
            funext P; rw [sumF, Nat.add_assoc]
          rw [e]; exact z3
end
theorem c_fill49 {G : GG} {d : Nat} {M : PM} {Q : Option Value → PM → Prop} (hQ : Q none (sA M 49 (fo (fun _ => nI 0) (M.1 49) 0 35))) : PC G (d + 1) m_J7_fill_53178 [.ref 49, .int (nI 0)] M Q := by
  refine PC.of ok_J7_fill_53178 (Nat.le_of_ble_eq_true rfl) (g_J7_fill_53178v0_0 ?_)
  have key := up_ind (P := fun k => PX G d m_J7_fill_53178 Q 5 [some (.ref 49), some (.int (nI 0)), some (.int (nI k)), some (.int (nI 35))] [] (sA M 49 (fo (fun _ => nI 0) (M.1 49) 0 k))) (n := 35) ?_ ?_ 0 (Nat.zero_le _)
  · rw [sA_fo0] at key
    exact key
  · apply g_J7_fill_53178v0_5
    simp (disch := omega) only [nle, nlt, neq, nz, nzl, nzg, nzp, nzn, nneg, nneg9, nI_add, ncl, vin, br_T, br_F, br_p, br_n, true_and, and_true, Nat.zero_add, rdA, rdN]
    exact hQ
  · intro k hk ih
    apply g_J7_fill_53178v0_5
    simp (disch := omega) only [nle, nlt, neq, nz, nzl, nzg, nzp, nzn, nneg, nneg9, nI_add, ncl, vin, br_T, br_F, br_p, br_n, true_and, and_true, Nat.zero_add, rdA, rdN]
    rw [wI_fo0 rfl]; exact ih
theorem c_fill50 {G : GG} {d : Nat} {M : PM} {Q : Option Value → PM → Prop} (hQ : Q none (sA M 50 (fo (fun _ => nI 0) (M.1 50) 0 75))) : PC G (d + 1) m_J7_fill_53178 [.ref 50, .int (nI 0)] M Q := by
  refine PC.of ok_J7_fill_53178 (Nat.le_of_ble_eq_true rfl) (g_J7_fill_53178v1_0 ?_)
  have key := up_ind (P := fun k => PX G d m_J7_fill_53178 Q 5 [some (.ref 50), some (.int (nI 0)), some (.int (nI k)), some (.int (nI 75))] [] (sA M 50 (fo (fun _ => nI 0) (M.1 50) 0 k))) (n := 75) ?_ ?_ 0 (Nat.zero_le _)
  · rw [sA_fo0] at key
    exact key
  · apply g_J7_fill_53178v1_5
    simp (disch := omega) only [nle, nlt, neq, nz, nzl, nzg, nzp, nzn, nneg, nneg9, nI_add, ncl, vin, br_T, br_F, br_p, br_n, true_and, and_true, Nat.zero_add, rdA, rdN]
    exact hQ
  · intro k hk ih
    apply g_J7_fill_53178v1_5
    simp (disch := omega) only [nle, nlt, neq, nz, nzl, nzg, nzp, nzn, nneg, nneg9, nI_add, ncl, vin, br_T, br_F, br_p, br_n, true_and, and_true, Nat.zero_add, rdA, rdN]
    rw [wI_fo0 rfl]; exact ih
theorem FT_ext {A : PM} {sn tn : Nat} (h : RTr A sn tn) {g h' : Nat → Nat} (hg : ∀ j, j < sn → g j = h' j) : FT A tn g ↔ FT A tn h' := by
  have key : ∀ g h' : Nat → Nat, (∀ j, j < sn → g j = h' j) → FT A tn g → FT A tn h' := by
    intro g h' hg f t ht
    obtain ⟨a, b, ha, hb, hab, e1, -, e2, -, -, -⟩ := h.2.2.2.2.2.2.2 t ht
    have hs := h.2.2.2.1
    have := f t ht
    rw [e1, e2, ncl (by omega), ncl (by omega)] at this ⊢
    rw [← hg a ha, ← hg b hb]; exact this
  exact ⟨key g h' hg, key h' g (fun j hj => (hg j hj).symm)⟩
/-- after a survey -/
def SD (M : PM) (nP nC nS tl sn tn : Nat) : Prop := RelN M nP nC nS tl sn tn ∧ SVok M sn tn ∧ M.1 44 9 = 1
theorem c_X7_survey {G : GG} {d : Nat} {M : PM} {Q : Option Value → PM → Prop} {nP nC nS tl sn tn : Nat} (hM : RelN M nP nC nS tl sn tn) (hQ : ∀ N, SD N nP nC nS tl sn tn → Q none N) : PC G (d + 10) m_X7_survey [.ref 44] M Q := by
  refine PC.of ok_X7_survey (Nat.le_of_ble_eq_true rfl) (g_X7_survey_0 ?_)
  obtain ⟨h1, h2, h3, h4, h5, h6, h7, h8, h9⟩ := id hM
  have hsn := h7.2.2.2.1
  rcases id h8 with q | ⟨q, q2⟩
  · refine b1 q ⟨by decide, c_fill49 ?_⟩
    simp only [gN]
    refine c_fill50 ?_
    simp only [gN]
    rw [show d + 9 = (d + 6 - sn) + sn + 3 by omega]
    have hA : RTr (wI M 44 9 (nI 1)) sn tn := h7.cg (by simp (disch := omega) only [wI_sA, rdA, rdN, rdL, upd_e, upd_n]) (by simp (disch := omega) only [wI_sA, rdA, rdN, rdL, upd_e, upd_n]) (by simp (disch := omega) only [wI_sA, rdA, rdN, rdL, upd_e, upd_n]) (by simp (disch := omega) only [wI_sA, rdA, rdN, rdL, upd_e, upd_n]) (fun r hr => by simp (disch := omega) only [wI_sA, rdA, rdN, rdL, upd_e, upd_n])
    have hf : GF (wI M 44 9 (nI 1)) (sA (sA (wI (wI M 44 9 (nI 1)) 44 8 (nI 0)) 49 (fo (fun _ => nI 0) ((wI (wI M 44 9 (nI 1)) 44 8 (nI 0)).1 49) 0 35)) 50 (fo (fun _ => nI 0) ((sA (wI (wI M 44 9 (nI 1)) 44 8 (nI 0)) 49 (fo (fun _ => nI 0) ((wI (wI M 44 9 (nI 1)) 44 8 (nI 0)).1 49) 0 35)).1 50) 0 75)) := by
      refine ⟨fun q k hq hk => ?_, rfl⟩
      by_cases e : q = 44
      · subst e; simp (disch := omega) only [wI_sA, rdA, rdN, rdL, upd_e, upd_n]
      · simp (disch := omega) only [wI_sA, rdA, rdN, rdL, upd_e, upd_n]
    refine c_X7_guessFrom hA sn 0 (fun _ => 0) (fun _ => 0) _ _ (by omega) hf (fun j hj => absurd hj (by omega)) ⟨?_, fun a ha w w1 w2 => ?_, fun a b hab hb r hr => ?_⟩ (fun N n1 n2 n3 => ?_)
    · simp (disch := omega) only [wI_sA, rdA, rdN, rdL, upd_e, upd_n]
    · simp (disch := omega) only [wI_sA, rdA, rdN, rdL, upd_e, upd_n]; exact fo_in0 (by omega)
    · simp (disch := omega) only [wI_sA, rdA, rdN, rdL, upd_e, upd_n]; exact fo_in0 (by omega)
    · simp only [gN]
      have rd : ∀ q k, ¬ (48 ≤ q ∧ q ≤ 50) → ¬ (q = 44 ∧ (k = 8 ∨ k = 9)) → N.1 q k = M.1 q k := by
        intro q k hq hk
        rw [n1.1 q k hq (by omega)]
        by_cases e : q = 44
        · subst e; simp (disch := omega) only [wI_sA, rdA, rdN, rdL, upd_e, upd_n]
        · simp (disch := omega) only [wI_sA, rdA, rdN, rdL, upd_e, upd_n]
      have ra : ∀ q, ¬ (48 ≤ q ∧ q ≤ 50) → ¬ q = 44 → N.1 q = M.1 q := fun q hq hk => funext fun k => rd q k hq (by omega)
      have e9 : N.1 44 9 = 1 := by rw [n1.1 44 9 (by omega) (by omega)]; simp (disch := omega) only [wI_sA, rdA, rdN, rdL, upd_e, upd_n]; rfl
      have hFT : ∀ g, FT N tn g = FT (wI M 44 9 (nI 1)) tn g := by
        intro g; unfold FT; rw [ra 45 (by omega) (by omega), ra 46 (by omega) (by omega), ra 47 (by omega) (by omega)]; simp (disch := omega) only [wI_sA, rdA, rdN, rdL, upd_e, upd_n]
      have comb0 : ∀ v, comb (fun _ => 0) 0 v = dig v := by
        intro v; funext j; unfold comb; rw [if_neg (by omega), Nat.sub_zero]
      have hct : ∀ P : (Nat → Nat) → Prop, (∀ g h : Nat → Nat, (∀ j, j < sn → g j = h j) → (P g ↔ P h)) → 0 + cG sn 0 (fun _ => 0) P = ctP (fun way => P (dig way)) (6 ^ sn) := by
        intro P hP
        rw [Nat.zero_add, cG_ct hP sn 0 _ (by omega)]
        exact ctP_c (fun v hv => by rw [comb0])
      have hSV : SVok N sn tn := by
        obtain ⟨s1, s2, s3⟩ := n3
        refine ⟨?_, fun a ha w w1 w2 => ?_, fun a b hab hb r hr => ?_⟩
        · simp only [hFT]
          exact s1.trans (congrArg nI (hct (fun g => FT (wI M 44 9 (nI 1)) tn g) (fun g h hh => FT_ext hA hh)))
        · simp only [hFT]
          exact (s2 a ha w w1 w2).trans (congrArg nI (hct (fun g => FT (wI M 44 9 (nI 1)) tn g ∧ g a = w) (fun g h hh => by rw [hh a ha, propext (FT_ext hA hh)])))
        · simp only [hFT]
          exact (s3 a b hab hb r hr).trans (congrArg nI (hct (fun g => FT (wI M 44 9 (nI 1)) tn g ∧ sgN (g a) (g b) = nI r - nI 1) (fun g h hh => by rw [hh a (by omega), hh b hb, propext (FT_ext hA hh)])))
      refine hQ N ⟨⟨h1.cg (fun k _ _ => rd 1 k (by omega) (by omega)) (fun k _ _ => rd 56 k (by omega) (by omega)), h2.cg (fun q hq => ra q (by omega) (by omega)), h3.cg (fun q hq => ra q (by omega) (by omega)), h4.cg (rd 25 2 (by omega) (by omega)) (rd 56 3 (by omega) (by omega)) (ra 32 (by omega) (by omega)) (ra 57 (by omega) (by omega)), h5.cg (fun r hr => ra r (by omega) (by omega)) (rd 13 6 (by omega) (by omega)), h6.cg (fun r hr => ra r (by omega) (by omega)) (rd 19 6 (by omega) (by omega)), h7.cg (rd 44 6 (by omega) (by omega)) (rd 44 7 (by omega) (by omega)) (rd 56 27 (by omega) (by omega)) (rd 56 29 (by omega) (by omega)) (fun r hr => ra r (by omega) (by omega)), Or.inr ⟨e9, hSV⟩, ?_⟩, hSV, e9⟩
      rw [n1.2]; exact h9
  · refine b0 (by rw [q]; decide) (hQ M ⟨hM, q2, q⟩)
