/-! the game: who can move, and wins -/
def prs (xs : List Nat) : Nat → Nat → List (Nat × Nat)
  | _, 0 => []
  | c, n + 1 => xs.map (fun x => (c, x)) ++ prs xs (c + 1) n
theorem prs_mem {xs : List Nat} {q : Nat × Nat} : ∀ n c, q ∈ prs xs c n → c ≤ q.1 ∧ q.1 < c + n ∧ q.2 ∈ xs
  | 0, c, h => by cases h
  | n + 1, c, h => by
    rw [prs, List.mem_append] at h
    rcases h with h | h
    · obtain ⟨x, hx, e⟩ := List.mem_map.mp h
      subst e
      exact ⟨Nat.le_refl _, by show c < c + (n + 1); omega, hx⟩
    · have := prs_mem n (c + 1) h
      exact ⟨by omega, by omega, this.2.2⟩
def lvl (sl : Nat) (m : Int) : Bool := decide (m ≤ sl ∧ -m ≤ sl)
def tst (idl : Nat → Bool) (w st : Nat → Int) (sl : Nat) (r : List Nat → List Nat → Int → Option (Nat × Nat)) (us ys : List Nat) (m : Int) (q : Nat × Nat) : Bool := idl q.1 && !decide (q.1 ∈ us) && !decide (q.2 ∈ ys) && lvl sl (m + w q.1 * st q.2) && (r (us ++ [q.1]) (ys ++ [q.2]) (m + w q.1 * st q.2)).isNone
def mv (nC : Nat) (xs : List Nat) (idl : Nat → Bool) (w st : Nat → Int) (sl : Nat) : Nat → List Nat → List Nat → Int → Option (Nat × Nat)
  | 0 => fun _ _ _ => none
  | k + 1 => fun us ys m => (prs xs 0 nC).find? (tst idl w st sl (mv nC xs idl w st sl k) us ys m)
theorem tst_t {idl : Nat → Bool} {w st : Nat → Int} {sl : Nat} {r : List Nat → List Nat → Int → Option (Nat × Nat)} {us ys : List Nat} {m : Int} {c x : Nat} : tst idl w st sl r us ys m (c, x) = true ↔ idl c = true ∧ ¬ c ∈ us ∧ ¬ x ∈ ys ∧ (m + w c * st x ≤ sl ∧ -(m + w c * st x) ≤ sl) ∧ r (us ++ [c]) (ys ++ [x]) (m + w c * st x) = none := by
  unfold tst lvl
  simp only [Bool.and_eq_true, Bool.not_eq_true', decide_eq_false_iff_not, decide_eq_true_eq, Option.isNone_iff_eq_none]
  constructor
  · rintro ⟨⟨⟨⟨a, b⟩, c⟩, d⟩, e⟩; exact ⟨a, b, c, d, e⟩
  · rintro ⟨a, b, c, d, e⟩; exact ⟨⟨⟨⟨a, b⟩, c⟩, d⟩, e⟩
theorem fd_congr {α : Type} {p q : α → Bool} : ∀ {l : List α}, (∀ x ∈ l, p x = q x) → l.find? p = l.find? q
  | [], _ => rfl
  | x :: l, h => by
    rw [List.find?_cons, List.find?_cons, h x List.mem_cons_self, fd_congr (l := l) (fun y hy => h y (List.mem_cons_of_mem _ hy))]
section GP
variable {nC : Nat} {xs : List Nat} {idl : Nat → Bool} {w st : Nat → Int} {sl : Nat}
theorem mv_mem {k : Nat} {us ys : List Nat} {m : Int} {q : Nat × Nat} (h : mv nC xs idl w st sl k us ys m = some q) : q.1 < nC ∧ q.2 ∈ xs := by
  cases k with
  | zero => cases h
  | succ k =>
    have := prs_mem nC 0 (List.mem_of_find?_eq_some h)
    exact ⟨by omega, this.2.2⟩
def rmn (nC : Nat) (idl : Nat → Bool) (us : List Nat) : Nat := (List.range nC).countP (fun c => idl c && !decide (c ∈ us))
theorem rmn_lt {us : List Nat} {c : Nat} (hc : c < nC) (hi : idl c = true) (hu : ¬ c ∈ us) : rmn nC idl (us ++ [c]) + 1 ≤ rmn nC idl us := by
  unfold rmn
  refine cP_lt (p := fun y => idl y && !decide (y ∈ us ++ [c])) (q := fun y => idl y && !decide (y ∈ us)) (fun y hy => ?_) (x := c) ?_ ?_ _ (List.mem_range.mpr hc)
  · simp only [Bool.and_eq_true, Bool.not_eq_true', decide_eq_false_iff_not] at hy ⊢
    exact ⟨hy.1, fun q => hy.2 (List.mem_append_left _ q)⟩
  · simp [hi, hu]
  · simp
theorem mv_none {us : List Nat} (h : rmn nC idl us = 0) : ∀ (k : Nat) (ys : List Nat) (m : Int), mv nC xs idl w st sl k us ys m = none
  | 0, _, _ => rfl
  | k + 1, ys, m => by
    refine List.find?_eq_none.mpr (fun q hq hp => ?_)
    have h1 := prs_mem nC 0 hq
    obtain ⟨c, x⟩ := q
    obtain ⟨a, b, -⟩ := tst_t.mp hp
    have := rmn_lt (idl := idl) (nC := nC) (us := us) (c := c) (by have := h1.2.1; simp at this; omega) a b
    omega
theorem mv_enough : ∀ (k j : Nat) (us ys : List Nat) (m : Int), rmn nC idl us ≤ k → rmn nC idl us ≤ j → mv nC xs idl w st sl k us ys m = mv nC xs idl w st sl j us ys m
  | 0, j, us, ys, m, h1, _ => by rw [mv_none (by omega), mv_none (by omega)]
  | k + 1, 0, us, ys, m, _, h2 => by rw [mv_none (by omega), mv_none (by omega)]
  | k + 1, j + 1, us, ys, m, h1, h2 => by
    refine fd_congr (fun q hq => ?_)
    have hm := prs_mem nC 0 hq
    obtain ⟨c, x⟩ := q
    have hc : c < nC := by have := hm.2.1; simp at this; exact this
    by_cases hi : idl c = true ∧ ¬ c ∈ us
    · have := rmn_lt (idl := idl) (nC := nC) hc hi.1 hi.2
      unfold tst
      rw [mv_enough k j (us ++ [c]) (ys ++ [x]) (m + w c * st x) (by omega) (by omega)]
    · have e : ∀ r, tst idl w st sl r us ys m (c, x) = false := fun r => by
        rw [Bool.eq_false_iff]
        intro z
        have := tst_t.mp z
        exact hi ⟨this.1, this.2.1⟩
      rw [e, e]
theorem rmn_nil : rmn nC idl [] = cB idl nC := by
  unfold rmn
  induction nC with
  | zero => rfl
  | succ n ih =>
    rw [List.range_succ, List.countP_append, ih, cB]
    congr 1
    by_cases h : idl n = true <;> simp [h]
/-- a search over children, then seats, by their places in a list -/
theorem gloopC {A : Nat → Prop} {B : Nat → Nat → Prop} {Fin : Option (Nat × Nat) → Prop} {p : Nat × Nat → Bool} (hA0 : Fin none → A nC) (hA : ∀ c, c < nC → B c 0 → ((∀ x ∈ xs, p (c, x) = false) → A (c + 1)) → A c) (hB0 : ∀ c, c < nC → A (c + 1) → B c xs.length) (hB : ∀ c i, c < nC → ∀ hi : i < xs.length, (p (c, xs[i]) = true → Fin (some (c, xs[i]))) → (p (c, xs[i]) = false → B c (i + 1)) → B c i) (hF : Fin ((prs xs 0 nC).find? p)) : A 0 := by
  have main : ∀ j c, c + j = nC → Fin ((prs xs c j).find? p) → A c := by
    intro j
    induction j with
    | zero =>
      intro c hc h
      rw [show c = nC by omega]
      exact hA0 h
    | succ j ih =>
      intro c hc h
      rw [prs] at h
      refine hA c (by omega) ?_ (fun hno => ?_)
      · have inner := up_ind (n := xs.length) (P := fun i => Fin ((((xs.drop i).map (fun x => (c, x))) ++ prs xs (c + 1) j).find? p) → B c i) ?_ ?_ 0 (Nat.zero_le _)
        · exact inner h
        · intro h
          rw [List.drop_length, List.map_nil, List.nil_append] at h
          exact hB0 c (by omega) (ih (c + 1) (by omega) h)
        · intro i hi ih2 h
          rw [List.drop_eq_getElem_cons hi, List.map_cons, List.cons_append, List.find?_cons] at h
          refine hB c i (by omega) hi (fun z => ?_) (fun z => ?_)
          · rw [z] at h; exact h
          · rw [z] at h; exact ih2 h
      · refine ih (c + 1) (by omega) ?_
        have : (xs.map (fun x => (c, x))).find? p = none := List.find?_eq_none.mpr (fun q hq => by
          obtain ⟨x, hx, e⟩ := List.mem_map.mp hq
          subst e
          rw [hno x hx]; decide)
        rw [List.find?_append, this, Option.none_or] at h
        exact h
  exact main nC 0 (by omega) hF
/-- the same, over all seats of which some are free -/
theorem gloopR {A : Nat → Prop} {B : Nat → Nat → Prop} {Fin : Option (Nat × Nat) → Prop} {p : Nat × Nat → Bool} {S : Nat} {ok : Nat → Bool} (hA0 : Fin none → A nC) (hA : ∀ c, c < nC → B c 0 → A c) (hB0 : ∀ c, c < nC → A (c + 1) → B c S) (hB : ∀ c x, c < nC → x < S → (ok x = true → p (c, x) = true → Fin (some (c, x))) → (¬ (ok x = true ∧ p (c, x) = true) → B c (x + 1)) → B c x) (hF : Fin ((prs (frm S ok 0) 0 nC).find? p)) : A 0 := by
  have main : ∀ j c, c + j = nC → Fin ((prs (frm S ok 0) c j).find? p) → A c := by
    intro j
    induction j with
    | zero =>
      intro c hc h
      rw [show c = nC by omega]
      exact hA0 h
    | succ j ih =>
      intro c hc h
      rw [prs] at h
      refine hA c (by omega) ?_
      have inner := up_ind (n := S) (P := fun x => Fin ((((frm S ok x).map (fun x => (c, x))) ++ prs (frm S ok 0) (c + 1) j).find? p) → B c x) ?_ ?_ 0 (Nat.zero_le _)
      · exact inner h
      · intro h
        rw [frm_S, List.map_nil, List.nil_append] at h
        exact hB0 c (by omega) (ih (c + 1) (by omega) h)
      · intro x hx ih2 h
        rw [frm_s hx] at h
        by_cases o : ok x = true
        · rw [if_pos o, List.map_cons, List.cons_append, List.find?_cons] at h
          refine hB c x (by omega) hx (fun _ z => ?_) (fun z => ?_)
          · rw [z] at h; exact h
          · have : p (c, x) = false := by rw [Bool.eq_false_iff]; exact fun q => z ⟨o, q⟩
            rw [this] at h; exact ih2 h
        · rw [if_neg o] at h
          exact hB c x (by omega) hx (fun z => absurd z o) (fun _ => ih2 h)
  exact main nC 0 (by omega) hF
end GP
def cI (st : Nat → Int) : Option (Nat × Nat) → Int32
  | none => -1
  | some q => nI 100 * nI q.1 + zI (st q.2) + nI 4
def rI : Option (Nat × Nat) → Int32
  | none => -9
  | some q => nI (8 * q.1 + q.2)
theorem cI_z {st : Nat → Int} {q : Nat × Nat} : cI st (some q) = zI (100 * q.1 + st q.2 + 4) := by
  rw [zI_add, zI_add, zI_mul, zI_n]; rfl
theorem cI_nn {st : Nat → Int} {q : Nat × Nat} (h1 : q.1 < 8) (h2 : -4 ≤ st q.2 ∧ st q.2 ≤ 4) : (0 ≤ cI st (some q)) ∧ ¬ cI st (some q) = -1 := by
  rw [cI_z]
  have e0 : (0 : Int32) = zI 0 := by decide
  have e1 : (-1 : Int32) = zI (-1) := by decide
  rw [e0, e1, zI_le (by omega) (by omega) (by omega) (by omega), zI_inj (by omega) (by omega) (by omega) (by omega)]
  omega
theorem fa_xor (a b : Nat) : nI a ^^^ nI b = nI (a ^^^ b) := by
  apply Int32.toBitVec_inj.1
  show BitVec.ofNat 32 a ^^^ BitVec.ofNat 32 b = BitVec.ofNat 32 (a ^^^ b)
  apply BitVec.eq_of_getLsbD_eq
  intro i hi
  simp [hi]
