/-! the class's search for the fewest who move; how far the rest can turn; who is asked -/
def chg (nw st : Nat → Int) : Nat → List Nat → Nat
  | _, [] => 0
  | b, x :: l => (if st x = nw b then 0 else 1) + chg nw st (b + 1) l
theorem chg_snoc (nw st : Nat → Int) : ∀ (l : List Nat) (b x : Nat), chg nw st b (l ++ [x]) = chg nw st b l + (if st x = nw (b + l.length) then 0 else 1)
  | [], b, x => by simp [chg]
  | y :: l, b, x => by
    rw [List.cons_append, chg, chg, chg_snoc nw st l (b + 1) x, List.length_cons, show b + 1 + l.length = b + (l.length + 1) by omega]
    omega
theorem chg_app (nw st : Nat → Int) : ∀ (l g : List Nat) (b : Nat), chg nw st b (l ++ g) = chg nw st b l + chg nw st (b + l.length) g
  | [], g, b => by simp [chg]
  | y :: l, g, b => by
    rw [List.cons_append, chg, chg, chg_app nw st l g (b + 1), List.length_cons, show b + 1 + l.length = b + (l.length + 1) by omega]
    omega
theorem chg_le (nw st : Nat → Int) : ∀ (l : List Nat) (b : Nat), chg nw st b l ≤ l.length
  | [], b => by simp [chg]
  | y :: l, b => by
    have := chg_le nw st l (b + 1)
    rw [chg, List.length_cons]; split <;> omega
def mnf (p : List Nat → Bool) (q : List Nat → Nat) (a : Nat) (l : List (List Nat)) : Nat := l.foldl (fun a f => if p f then min a (q f) else a) a
theorem mnf_app {p : List Nat → Bool} {q : List Nat → Nat} {a : Nat} {l k : List (List Nat)} : mnf p q a (l ++ k) = mnf p q (mnf p q a l) k := by unfold mnf; rw [List.foldl_append]
theorem mnf_le {p : List Nat → Bool} {q : List Nat → Nat} : ∀ (l : List (List Nat)) (a : Nat), mnf p q a l ≤ a
  | [], a => Nat.le_refl _
  | f :: l, a => by
    have := mnf_le (p := p) (q := q) l (if p f then min a (q f) else a)
    unfold mnf at this ⊢
    rw [List.foldl_cons]
    split at this <;> rename_i hp
    · rw [if_pos hp]; omega
    · rw [if_neg hp]; omega
theorem mnf_no {p : List Nat → Bool} {q : List Nat → Nat} : ∀ (l : List (List Nat)) (a : Nat), (∀ f ∈ l, p f = true → a ≤ q f) → mnf p q a l = a
  | [], a, _ => rfl
  | f :: l, a, h => by
    have ih := mnf_no (p := p) (q := q) l a (fun g hg => h g (List.mem_cons_of_mem _ hg))
    unfold mnf at ih ⊢
    rw [List.foldl_cons]
    have e : (if p f = true then min a (q f) else a) = a := by
      by_cases hp : p f = true
      · rw [if_pos hp, Nat.min_eq_left (h f List.mem_cons_self hp)]
      · rw [if_neg hp]
    rw [e]; exact ih
theorem upd_self {f : Nat → Int32} {k : Nat} : upd f k (f k) = f := by
  funext j; unfold upd; by_cases h : j = k
  · rw [if_pos h, h]
  · rw [if_neg h]
theorem wI_self {M : PM} {q k : Nat} : wI M q k (M.1 q k) = M := by rw [wI_sA, upd_self, sA_self]
theorem upd_upd {f : Nat → Int32} {k : Nat} {v u : Int32} : upd (upd f k v) k u = upd f k u := by
  funext j; unfold upd; by_cases h : j = k
  · rw [if_pos h, if_pos h]
  · rw [if_neg h, if_neg h, if_neg h]
theorem wI_wI {M : PM} {q k : Nat} {v u : Int32} : wI (wI M q k v) q k u = wI M q k u := by rw [wI_sA, wI_sA, rdA, upd_upd, sA_sA, ← wI_sA]
section SC
variable {xs : List Nat} {n : Nat} {w st nw : Nat → Int} {m0 : Int} {sl : Nat}
theorem c_X5_changeFrom (hF : SFx xs n w st m0 sl) (hw : ∀ b, -4 ≤ nw b ∧ nw b ≤ 4) {G : GG} : ∀ (r : Nat) {d : Nat} {M : PM} {Q : Option Value → PM → Prop} {pre : List Nat} {t fw : Nat}, SMm M xs n w st sl → RCm M n w → (∀ b, b < n → M.1 36 b = zI (nw b)) → M.1 33 9 = nI fw → fw ≤ 9 → pre.length + r = n → TK xs pre t → (∀ x ∈ pre, x ∈ xs) → Q none (wI M 33 9 (nI (mnf (lev w st m0 sl) (chg nw st 0) fw (fil xs r pre)))) → PC G (d + r + 2) m_X5_changeFrom [.ref 33, .int (nI pre.length), .int (nI t), .int (zI (m0 + mos w st 0 pre)), .int (nI (chg nw st 0 pre))] M Q := by
  obtain ⟨f1, f2, f3, f4, f5, f6, f7, f8⟩ := id hF
  intro r
  induction r with
  | zero =>
    intro d M Q pre t fw hM hR hN h9 hfw hl ht hx hQ
    have hb := pre_len hF hl hx
    have hcl := chg_le nw st pre 0
    refine PC.of ok_X5_changeFrom (Nat.le_of_ble_eq_true rfl) (g_X5_changeFrom_0 ?_)
    simp (disch := omega) only [nle, nlt, neq, nz, nzl, nzg, nzp, nzn, nneg, nneg9, nI_add, ncl, vin, br_T, br_F, br_p, br_n, true_and, and_true, Nat.zero_add, rdA, rdN, h9]
    refine b2 (fun hh => ?_) (fun hh => ?_)
    · rw [mnf_no _ _ (fun f hf _ => by simp only [fil, List.mem_singleton] at hf; subst hf; exact hh), ← h9, wI_self] at hQ
      exact hQ
    refine c_X5_isHopeless (by omega) hM.2.2.1 (hR _ 0 hl) (by omega) (by omega) hb.2.2.1 (by omega) f8 ?_
    simp only [gI, bI_z]
    refine b2 (fun h => ?_) (fun h => ?_)
    · simp (disch := omega) only [nle, nlt, neq, nz, nzl, nzg, nzp, nzn, nneg, nneg9, nI_add, ncl, vin, br_T, br_F, br_p, br_n, true_and, and_true, Nat.zero_add, rdA, rdN, hM.2.1]
      have e : lev w st m0 sl pre = true := by
        have := Classical.not_not.mp h
        unfold lev; rw [decide_eq_true_eq]; simp only [rch] at this; omega
      simp only [fil, mnf, List.foldl_cons, List.foldl_nil, e, if_true] at hQ
      rw [Nat.min_eq_right (by omega)] at hQ
      exact hQ
    · have e := hop hF (Classical.not_not.mp h)
      rw [mnf_no _ _ (fun f hf z => by rw [e f hf] at z; cases z), ← h9, wI_self] at hQ
      exact hQ
  | succ r ih =>
    intro d M Q pre t fw hM hR hN h9 hfw hl ht hx hQ
    have hb := pre_len hF hl hx
    have hcl := chg_le nw st pre 0
    refine PC.of ok_X5_changeFrom (Nat.le_of_ble_eq_true rfl) (g_X5_changeFrom_0 ?_)
    simp (disch := omega) only [nle, nlt, neq, nz, nzl, nzg, nzp, nzn, nneg, nneg9, nI_add, ncl, vin, br_T, br_F, br_p, br_n, true_and, and_true, Nat.zero_add, rdA, rdN, h9]
    refine b2 (fun hh => ?_) (fun hh => ?_)
    · rw [mnf_no _ _ (fun f hf _ => by
        obtain ⟨g, rfl, -⟩ := (fil_mem _ _ _).mp hf
        rw [chg_app]; omega), ← h9, wI_self] at hQ
      exact hQ
    refine c_X5_isHopeless (by omega) hM.2.2.1 (hR _ (r + 1) hl) (by omega) (by omega) hb.2.2.1 (by omega) f8 ?_
    simp only [gI, bI_z]
    refine b2 (fun h => ?_) (fun h => ?_)
    · simp (disch := omega) only [nle, nlt, neq, nz, nzl, nzg, nzp, nzn, nneg, nneg9, nI_add, ncl, vin, br_T, br_F, br_p, br_n, true_and, and_true, Nat.zero_add, rdA, rdN, hM.2.1]
      rw [fil_s] at hQ
      have key := up_ind (n := xs.length) (P := fun i => ∀ a, a ≤ 9 → Q none (wI M 33 9 (nI (mnf (lev w st m0 sl) (chg nw st 0) a (flx xs r pre (xs.drop i))))) → PX G (d + r + 2) m_X5_changeFrom Q 37 [some (.ref 33), some (.int (nI pre.length)), some (.int (nI t)), some (.int (zI (m0 + mos w st 0 pre))), some (.int (nI (chg nw st 0 pre))), some (.int (nI i)), none] [] (wI M 33 9 (nI a))) ?_ ?_ 0 (Nat.zero_le _)
      · have k := key fw hfw (by rw [List.drop_zero]; exact hQ)
        rw [← h9, wI_self] at k
        exact k
      · intro a ha hq
        apply g_X5_changeFrom_37
        simp (disch := omega) only [wI_sA, rdA, rdN, rdL, upd_e, upd_n]
        simp (disch := omega) only [nle, nlt, neq, nz, nzl, nzg, nzp, nzn, nneg, nneg9, nI_add, ncl, vin, br_T, br_F, br_p, br_n, true_and, and_true, Nat.zero_add, rdA, rdN, hM.1]
        rw [List.drop_length, flx_nil] at hq
        exact hq
      · intro i hi ih2 a ha hq
        apply g_X5_changeFrom_37
        have e33 : (wI M 33 9 (nI a)).1 33 5 = nI xs.length := by simp (disch := omega) only [wI_sA, rdA, rdN, rdL, upd_e, upd_n]; exact hM.1
        have e34 : (wI M 33 9 (nI a)).1 34 i = zI (st xs[i]) := by simp (disch := omega) only [wI_sA, rdA, rdN, rdL, upd_e, upd_n]; exact hM.2.2.2.1 i hi
        have e36 : (wI M 33 9 (nI a)).1 36 pre.length = zI (nw pre.length) := by simp (disch := omega) only [wI_sA, rdA, rdN, rdL, upd_e, upd_n]; exact hN _ (by omega)
        have hM2 : SMm (wI M 33 9 (nI a)) xs n w st sl := hM.of (fun k hk => by simp (disch := omega) only [wI_sA, rdA, rdN, rdL, upd_e, upd_n]) (by simp (disch := omega) only [wI_sA, rdA, rdN, rdL, upd_e, upd_n]) (by simp (disch := omega) only [wI_sA, rdA, rdN, rdL, upd_e, upd_n])
        have hR2 : RCm (wI M 33 9 (nI a)) n w := fun b r h => by simp (disch := omega) only [wI_sA, rdA, rdN, rdL, upd_e, upd_n]; exact hR b r h
        have hN2 : ∀ b, b < n → (wI M 33 9 (nI a)).1 36 b = zI (nw b) := fun b hb => by simp (disch := omega) only [wI_sA, rdA, rdN, rdL, upd_e, upd_n]; exact hN b hb
        simp (disch := omega) only [nle, nlt, neq, nz, nzl, nzg, nzp, nzn, nneg, nneg9, nI_add, ncl, vin, br_T, br_F, br_p, br_n, true_and, and_true, Nat.zero_add, rdA, rdN, e33]
        rw [and_bit (by omega)]
        rw [List.drop_eq_getElem_cons hi] at hq
        refine b2 (fun hbt => ?_) (fun hbt => ?_)
        · have hno : ¬ xs[i] ∈ pre := fun z => by rw [(ht i hi).mpr z] at hbt; cases hbt
          rw [flx_out hno, mnf_app] at hq
          rw [or_n (by omega), mom_step hM2 (by omega) hi, e34, e36]
          have hst := f4 _ (List.getElem_mem hi)
          have hnw := hw pre.length
          rw [zI_inj (by omega) (by omega) (by omega) (by omega)]
          have hin : ∀ x ∈ pre ++ [xs[i]], x ∈ xs := by
            intro x hx2
            rcases List.mem_append.mp hx2 with z | z
            · exact hx x z
            · rw [List.mem_singleton] at z; rw [z]; exact List.getElem_mem hi
          have hle := mnf_le (p := lev w st m0 sl) (q := chg nw st 0) (fil xs r (pre ++ [xs[i]])) a
          have hc := ih (d := d) (M := wI M 33 9 (nI a)) (Q := fun v N1 => gN v (PX G (d + r + 2) m_X5_changeFrom Q 37 [some (.ref 33), some (.int (nI pre.length)), some (.int (nI t)), some (.int (zI (m0 + mos w st 0 pre))), some (.int (nI (chg nw st 0 pre))), some (.int (nI (i + 1))), none] [] N1)) (pre := pre ++ [xs[i]]) (t := t ||| 2 ^ i) (fw := a) hM2 hR2 hN2 (by simp (disch := omega) only [wI_sA, rdA, rdN, rdL, upd_e, upd_n]) ha (by simp; omega) (ht.push f2 hi) hin (by
            simp only [gN]
            rw [wI_wI]
            exact ih2 _ (by omega) hq)
          rw [List.length_append, List.length_singleton, chg_snoc, Nat.zero_add] at hc
          refine b2 (fun hz => ?_) (fun hz => ?_)
          · rw [if_pos hz] at hc
            exact hc
          · rw [if_neg hz] at hc
            exact hc
        · have hin : xs[i] ∈ pre := (ht i hi).mp (by cases hh : t.testBit i; exact absurd hh hbt; rfl)
          rw [flx_in hin] at hq
          exact ih2 a ha hq
    · have e := hop hF (Classical.not_not.mp h)
      rw [mnf_no _ _ (fun f hf z => by rw [e f hf] at z; cases z), ← h9, wI_self] at hQ
      exact hQ
theorem c_X5_measureReach {G : GG} {d : Nat} {M : PM} {Q : Option Value → PM → Prop} (hn : n ≤ 8) (h6 : M.1 33 6 = nI n) (hw : ∀ b, b < n → M.1 35 b = zI (w b)) (hQ : ∀ g : Nat → Int32, (∀ b r, b + r = n → g b = zI (rch w b r)) → Q none (sA M 38 g)) : PC G (d + 1) m_X5_measureReach [.ref 33] M Q := by
  refine PC.of ok_X5_measureReach (Nat.le_of_ble_eq_true rfl) (g_X5_measureReach_0 ?_)
  simp (disch := omega) only [nle, nlt, neq, nz, nzl, nzg, nzp, nzn, nneg, nneg9, nI_add, ncl, vin, br_T, br_F, br_p, br_n, true_and, and_true, Nat.zero_add, rdA, rdN, h6]
  have key : ∀ k, k ≤ n → ∀ g : Nat → Int32, (∀ b r, b + r = n → k ≤ b → g b = zI (rch w b r)) → PX G d m_X5_measureReach Q 17 [some (.ref 33), some (.int (nI k - nI 1))] [] (sA M 38 g) := by
    intro k
    induction k with
    | zero =>
      intro _ g hg
      apply g_X5_measureReach_17
      exact b1 (by decide) (hQ g (fun b r h => hg b r h (Nat.zero_le _)))
    | succ k ih =>
      intro hk g hg
      apply g_X5_measureReach_17
      rw [nsub (by omega), Nat.add_sub_cancel]
      simp (disch := omega) only [nle, nlt, neq, nz, nzl, nzg, nzp, nzn, nneg, nneg9, nI_add, ncl, vin, br_T, br_F, br_p, br_n, true_and, and_true, Nat.zero_add, rdA, rdN]
      rw [hw k (by omega)]
      have e := ih (by omega) (upd g k (g (k + 1) + nI 4 * zI (w k))) (by
        intro b r hbr hkb
        by_cases hb : b = k
        · subst hb
          rw [upd_e]
          obtain ⟨r, rfl⟩ : ∃ r', r = r' + 1 := ⟨r - 1, by omega⟩
          rw [hg (b + 1) r (by omega) (by omega), rch, zI_add, zI_mul]
          rfl
        · rw [upd_n hb]; exact hg b r hbr (by omega))
      rw [wI_sA, sA_sA, rdA]
      have e1 : nI k + -1 = nI k - nI 1 := by rw [Int32.sub_eq_add_neg]; rfl
      rw [e1]
      exact e
  rw [wI_sA]
  refine key n (Nat.le_refl _) _ ?_
  intro b r h hb
  have h1 : b = n := by omega
  have h2 : r = 0 := by omega
  subst h1 h2
  rw [upd_e]; rfl
end SC
/-- the step of a seat -/
def stp (h x : Nat) : Int := if x < h then (x : Int) - h else (x : Int) - h + 1
theorem stp_b {h x : Nat} (hh : h ≤ 4) (hx : x < 2 * h) : -4 ≤ stp h x ∧ stp h x ≤ 4 ∧ -(h : Int) ≤ stp h x ∧ stp h x ≤ h ∧ stp h x ≠ 0 := by
  unfold stp; split <;> omega
theorem zI_sub (a b : Int) : zI (a - b) = zI a - zI b := Int32.ofInt_sub a b
theorem c_stepOfSeat {G : GG} {d : Nat} {M : PM} {Q : Option Value → PM → Prop} {h x : Nat} (hh : h ≤ 4) (hx : x < 2 * h) (hQ : Q (some (.int (zI (stp h x)))) M) : PC G (d + 1) m_X8_stepOfSeat [.int (nI x), .int (nI h)] M Q := by
  refine PC.of ok_X8_stepOfSeat (Nat.le_of_ble_eq_true rfl) (g_X8_stepOfSeat_0 ?_)
  simp (disch := omega) only [nle, nlt, neq, nz, nzl, nzg, nzp, nzn, nneg, nneg9, nI_add, ncl, vin, br_T, br_F, br_p, br_n, true_and, and_true, Nat.zero_add, rdA, rdN]
  unfold stp at hQ
  refine b2 (fun q => ?_) (fun q => ?_)
  · rw [if_neg (by omega), zI_add, zI_sub, zI_n, zI_n] at hQ; exact hQ
  · rw [if_pos (by omega), zI_sub, zI_n, zI_n] at hQ; exact hQ
theorem c_X9_stepOf {G : GG} {d : Nat} {M : PM} {Q : Option Value → PM → Prop} {h x p : Nat} (hp : p < 3) (hh : h ≤ 4) (hx : x < 2 * h) (hM : M.1 58 p = nI h) (hQ : Q (some (.int (zI (stp h x)))) M) : PC G (d + 1) m_X9_stepOf [.ref 56, .int (nI p), .int (nI x)] M Q := by
  refine PC.of ok_X9_stepOf (Nat.le_of_ble_eq_true rfl) (g_X9_stepOf_0 ?_)
  simp (disch := omega) only [nle, nlt, neq, nz, nzl, nzg, nzp, nzn, nneg, nneg9, nI_add, ncl, vin, br_T, br_F, br_p, br_n, true_and, and_true, Nat.zero_add, rdA, rdN, hM]
  unfold stp at hQ
  refine b2 (fun q => ?_) (fun q => ?_)
  · rw [if_neg (by omega), zI_add, zI_sub, zI_n, zI_n] at hQ; exact hQ
  · rw [if_pos (by omega), zI_sub, zI_n, zI_n] at hQ; exact hQ
