/-! rides: what both do, as one run over numbers -/
def QS : Type := Nat × (Nat → Nat) × (Nat → Nat) × (Nat → Option (Nat × Nat))
def QS.n (s : QS) : Nat := s.1
def QS.ro (s : QS) : Nat → Nat := s.2.1
def QS.rd (s : QS) : Nat → Nat := s.2.2.1
def QS.pl (s : QS) : Nat → Option (Nat × Nat) := s.2.2.2
def QS.push (s : QS) (c : Nat) : QS := ⟨s.n + 1, fun i => if i = s.n then c else s.ro i, s.rd, s.pl⟩
def QS.drop (s : QS) (a : Nat) : QS := ⟨s.n - 1, fun i => if i < a then s.ro i else s.ro (i + 1), s.rd, s.pl⟩
def QS.set (s : QS) (p : Nat) (v : Option (Nat × Nat)) : QS := ⟨s.n, s.ro, s.rd, fun q => if q = p then v else s.pl q⟩
def QS.off (W : Nat → Nat) (s : QS) (p : Nat) : QS := match s.pl p with
  | none => s
  | some (a, b) => if s.rd a < W a ∧ s.rd b < W b then s else if s.rd a < W a then (s.set p none).push a else if s.rd b < W b then (s.set p none).push b else s.set p none
def QS.FP (F : Nat → Nat → Nat → Prop) (s : QS) (p i j : Nat) : Prop := i < j ∧ j < s.n ∧ F p (s.ro i) (s.ro j) ∧ ∀ i' j', i' < j' → j' < s.n → (i' < i ∨ (i' = i ∧ j' < j)) → ¬ F p (s.ro i') (s.ro j')
theorem QS.FP.u {F : Nat → Nat → Nat → Prop} {s : QS} {p i j k l : Nat} (h : s.FP F p i j) (h2 : s.FP F p k l) : i = k ∧ j = l := by
  obtain ⟨a1, a2, a3, a4⟩ := h
  obtain ⟨b1, b2, b3, b4⟩ := h2
  by_cases e : i < k ∨ (i = k ∧ j < l)
  · exact absurd a3 (b4 i j a1 a2 e)
  · by_cases e2 : k < i ∨ (k = i ∧ l < j)
    · exact absurd b3 (a4 k l b1 b2 e2)
    · omega
def QS.take (s : QS) (p i j : Nat) : QS := ((s.set p (some (s.ro i, s.ro j))).drop j).drop i
noncomputable def QS.on (F : Nat → Nat → Nat → Prop) (s : QS) (p : Nat) : QS := @ite _ (s.pl p = none) (Classical.propDecidable _) (@dite _ (∃ ij : Nat × Nat, s.FP F p ij.1 ij.2) (Classical.propDecidable _) (fun h => s.take p h.choose.1 h.choose.2) (fun _ => s)) s
theorem QS.on_y {F : Nat → Nat → Nat → Prop} {s : QS} {p i j : Nat} (h0 : s.pl p = none) (h : s.FP F p i j) : s.on F p = s.take p i j := by
  unfold QS.on
  have hx : ∃ ij : Nat × Nat, s.FP F p ij.1 ij.2 := ⟨(i, j), h⟩
  rw [if_pos h0, dif_pos hx]
  obtain ⟨e1, e2⟩ := h.u hx.choose_spec
  rw [e1, e2]
theorem QS.on_n {F : Nat → Nat → Nat → Prop} {s : QS} {p : Nat} (h : ¬ ∃ i j, s.FP F p i j) : s.on F p = s := by
  unfold QS.on
  split
  · rw [dif_neg (fun ⟨ij, q⟩ => h ⟨ij.1, ij.2, q⟩)]
  · rfl
theorem QS.on_s {F : Nat → Nat → Nat → Prop} {s : QS} {p : Nat} (h : ¬ s.pl p = none) : s.on F p = s := by
  unfold QS.on; rw [if_neg h]
def bmp (f : Nat → Nat) (a : Nat) : Nat → Nat := fun c => if c = a then f c + 1 else f c
def rdq (s : QS) : Nat → Nat → Nat
  | 0 => s.rd
  | k + 1 => match s.pl k with
    | none => rdq s k
    | some (a, b) => bmp (bmp (rdq s k) a) b
def QS.ride (s : QS) (k : Nat) : QS := ⟨s.n, s.ro, rdq s k, s.pl⟩
def QS.R (s : QS) (p c : Nat) : Prop := ∃ a b, s.pl p = some (a, b) ∧ (c = a ∨ c = b)
def vl (o : Option (Nat × Nat)) : Nat := if o.isSome then 2 else 0
def oc (f : Nat → Option (Nat × Nat)) : Nat → Nat
  | 0 => 0
  | k + 1 => oc f k + vl (f k)
theorem oc_up (f : Nat → Option (Nat × Nat)) (p : Nat) (v : Option (Nat × Nat)) : ∀ n, oc (fun q => if q = p then v else f q) n + (if p < n then vl (f p) else 0) = oc f n + (if p < n then vl v else 0)
  | 0 => by simp [oc]
  | k + 1 => by
    have ih := oc_up f p v k
    rw [oc, oc]
    by_cases h : k = p
    · subst h
      simp only [Nat.lt_irrefl, if_false, if_true, Nat.lt_succ_self] at ih ⊢
      omega
    · rw [if_neg h]
      by_cases h2 : p < k
      · rw [if_pos (by omega), if_pos (by omega)]; rw [if_pos h2, if_pos h2] at ih; omega
      · rw [if_neg (by omega), if_neg (by omega)]; rw [if_neg h2, if_neg h2] at ih; omega
def QW (nP nC : Nat) (W : Nat → Nat) (s : QS) : Prop :=
  (s.n + oc s.pl nP ≤ nC) ∧ (∀ i, i < s.n → s.ro i < nC ∧ s.rd (s.ro i) < W (s.ro i)) ∧ (∀ p, p < nP → ∀ a b, s.pl p = some (a, b) → a < nC ∧ b < nC ∧ a ≠ b) ∧
  (∀ i j, i < s.n → j < s.n → s.ro i = s.ro j → i = j) ∧ (∀ p q c, p < nP → q < nP → s.R p c → s.R q c → p = q) ∧ (∀ p i, p < nP → i < s.n → ¬ s.R p (s.ro i)) ∧ ∀ c, c < nC → s.rd c ≤ W c
section
variable {nP nC : Nat} {W : Nat → Nat} {s : QS}
theorem QW.cnt (h : QW nP nC W s) : s.n + oc s.pl nP ≤ nC := h.1
theorem QW.rb (h : QW nP nC W s) : ∀ i, i < s.n → s.ro i < nC ∧ s.rd (s.ro i) < W (s.ro i) := h.2.1
theorem QW.pb (h : QW nP nC W s) : ∀ p, p < nP → ∀ a b, s.pl p = some (a, b) → a < nC ∧ b < nC ∧ a ≠ b := h.2.2.1
theorem QW.d1 (h : QW nP nC W s) : ∀ i j, i < s.n → j < s.n → s.ro i = s.ro j → i = j := h.2.2.2.1
theorem QW.d3 (h : QW nP nC W s) : ∀ p q c, p < nP → q < nP → s.R p c → s.R q c → p = q := h.2.2.2.2.1
theorem QW.d4 (h : QW nP nC W s) : ∀ p i, p < nP → i < s.n → ¬ s.R p (s.ro i) := h.2.2.2.2.2.1
theorem QW.le (h : QW nP nC W s) : ∀ c, c < nC → s.rd c ≤ W c := h.2.2.2.2.2.2
end
def QS.FR (W : Nat → Nat) (s : QS) (p : Nat) : Prop := ∀ a b, s.pl p = some (a, b) → s.rd a < W a ∧ s.rd b < W b
section
variable {nP nC : Nat} {W : Nat → Nat} {s : QS}
theorem QS.set_R {p q c : Nat} {v : Option (Nat × Nat)} : (s.set p v).R q c ↔ (q = p ∧ ∃ a b, v = some (a, b) ∧ (c = a ∨ c = b)) ∨ (q ≠ p ∧ s.R q c) := by
  unfold QS.R QS.set
  by_cases h : q = p
  · simp [h, QS.pl]
  · simp [h, QS.pl]
theorem QW.set0 (h : QW nP nC W s) {p a b : Nat} (hp : p < nP) (hs : s.pl p = some (a, b)) : QW nP nC W (s.set p none) ∧ (s.set p none).n + oc (s.set p none).pl nP + 2 ≤ nC ∧ ∀ q, q < nP → ∀ c, (c = a ∨ c = b) → ¬ (s.set p none).R q c := by
  have e := oc_up s.pl p none nP
  rw [if_pos hp, if_pos hp, hs] at e
  have e1 : vl (some (a, b)) = 2 := rfl
  have e2 : vl none = 0 := rfl
  rw [e1, e2] at e
  have c := h.cnt
  have hR : ∀ q c, (s.set p none).R q c → q ≠ p ∧ s.R q c := fun q c z => by
    rcases QS.set_R.mp z with ⟨_, a, b, h, _⟩ | z
    · cases h
    · exact z
  refine ⟨⟨?_, h.rb, ?_, h.d1, ?_, ?_, h.le⟩, ?_, ?_⟩
  · show s.n + oc (fun q => if q = p then none else s.pl q) nP ≤ nC; omega
  · intro q hq x y hx
    have hx : (if q = p then none else s.pl q) = some (x, y) := hx
    by_cases z : q = p
    · rw [if_pos z] at hx; cases hx
    · rw [if_neg z] at hx; exact h.pb q hq x y hx
  · intro x y c hx hy r1 r2; exact h.d3 x y c hx hy (hR _ _ r1).2 (hR _ _ r2).2
  · intro x i hx hi r; exact h.d4 x i hx hi (hR _ _ r).2
  · show s.n + oc (fun q => if q = p then none else s.pl q) nP + 2 ≤ nC; omega
  · intro q hq c hc r
    obtain ⟨r1, r2⟩ := hR _ _ r
    exact r1 (h.d3 q p c hq hp r2 ⟨a, b, hs, hc⟩)
theorem QW.push (h : QW nP nC W s) {c : Nat} (h1 : s.n + oc s.pl nP + 1 ≤ nC) (h2 : c < nC) (h3 : s.rd c < W c) (h4 : ∀ i, i < s.n → ¬ s.ro i = c) (h5 : ∀ p, p < nP → ¬ s.R p c) : QW nP nC W (s.push c) := by
  have er : ∀ i, i < s.n → (s.push c).ro i = s.ro i := fun i hi => if_neg (by omega)
  have ee : (s.push c).ro s.n = c := if_pos rfl
  have en : (s.push c).n = s.n + 1 := rfl
  refine ⟨?_, ?_, h.pb, ?_, h.d3, ?_, h.le⟩
  · show s.n + 1 + oc s.pl nP ≤ nC; omega
  · intro i hi
    by_cases e : i = s.n
    · subst e; rw [ee]; exact ⟨h2, h3⟩
    · rw [er i (by omega)]; exact h.rb i (by omega)
  · intro i j hi hj hij
    by_cases e : i = s.n
    · by_cases e2 : j = s.n
      · omega
      · subst e; rw [ee, er j (by omega)] at hij; exact absurd hij.symm (h4 j (by omega))
    · by_cases e2 : j = s.n
      · subst e2; rw [ee, er i (by omega)] at hij; exact absurd hij (h4 i (by omega))
      · rw [er i (by omega), er j (by omega)] at hij; exact h.d1 i j (by omega) (by omega) hij
  · intro p i hp hi r
    have r : s.R p ((s.push c).ro i) := r
    by_cases e : i = s.n
    · subst e; rw [ee] at r; exact h5 p hp r
    · rw [er i (by omega)] at r; exact h.d4 p i hp (by omega) r
theorem QS.off_none {p : Nat} (hs : s.pl p = none) : s.off W p = s := by unfold QS.off; rw [hs]
theorem QS.off_some {p a b : Nat} (hs : s.pl p = some (a, b)) : s.off W p = if s.rd a < W a ∧ s.rd b < W b then s else if s.rd a < W a then (s.set p none).push a else if s.rd b < W b then (s.set p none).push b else s.set p none := by unfold QS.off; rw [hs]
theorem QW.off (h : QW nP nC W s) {p : Nat} (hp : p < nP) : QW nP nC W (s.off W p) ∧ (s.off W p).FR W p ∧ (∀ q, ¬ q = p → (s.off W p).pl q = s.pl q) ∧ (s.off W p).rd = s.rd := by
  cases hs : s.pl p with
  | none =>
    rw [QS.off_none hs]
    refine ⟨h, fun a b z => ?_, fun _ _ => rfl, rfl⟩
    rw [hs] at z; cases z
  | some ab =>
    obtain ⟨a, b⟩ := ab
    obtain ⟨k1, k2, k3⟩ := h.set0 hp hs
    obtain ⟨b1, b2, b3⟩ := h.pb p hp a b hs
    have nn : ∀ c, (c = a ∨ c = b) → ∀ i, i < s.n → ¬ s.ro i = c := fun c hc i hi e => h.d4 p i hp hi ⟨a, b, hs, by rw [e]; exact hc⟩
    have f0 : (if p = p then (none : Option (Nat × Nat)) else s.pl p) = none := if_pos rfl
    rw [QS.off_some hs]
    by_cases q : s.rd a < W a ∧ s.rd b < W b
    · rw [if_pos q]
      refine ⟨h, fun x y z => ?_, fun _ _ => rfl, rfl⟩
      rw [hs] at z; cases z; exact q
    · rw [if_neg q]
      by_cases q2 : s.rd a < W a
      · rw [if_pos q2]
        refine ⟨k1.push (by omega) b1 q2 (nn a (Or.inl rfl)) (fun q hq => k3 q hq a (Or.inl rfl)), fun x y z => ?_, fun q hq => if_neg hq, rfl⟩
        have z : (if p = p then (none : Option (Nat × Nat)) else s.pl p) = some (x, y) := z
        rw [f0] at z; cases z
      · rw [if_neg q2]
        by_cases q3 : s.rd b < W b
        · rw [if_pos q3]
          refine ⟨k1.push (by omega) b2 q3 (nn b (Or.inr rfl)) (fun q hq => k3 q hq b (Or.inr rfl)), fun x y z => ?_, fun q hq => if_neg hq, rfl⟩
          have z : (if p = p then (none : Option (Nat × Nat)) else s.pl p) = some (x, y) := z
          rw [f0] at z; cases z
        · rw [if_neg q3]
          refine ⟨k1, fun x y z => ?_, fun q hq => if_neg hq, rfl⟩
          have z : (if p = p then (none : Option (Nat × Nat)) else s.pl p) = some (x, y) := z
          rw [f0] at z; cases z
theorem QS.take_ro {p i j k : Nat} (hij : i < j) (hj : j < s.n) (hk : k < s.n - 2) : ∃ l, l < s.n ∧ l ≠ i ∧ l ≠ j ∧ (s.take p i j).ro k = s.ro l ∧ l = (if k < i then k else if k + 1 < j then k + 1 else k + 2) := by
  have e : (s.take p i j).ro k = (if k < i then (if k < j then s.ro k else s.ro (k + 1)) else (if k + 1 < j then s.ro (k + 1) else s.ro (k + 1 + 1))) := rfl
  by_cases h1 : k < i
  · refine ⟨k, by omega, by omega, by omega, ?_, by rw [if_pos h1]⟩
    rw [e, if_pos h1, if_pos (by omega)]
  · by_cases h2 : k + 1 < j
    · refine ⟨k + 1, by omega, by omega, by omega, ?_, by rw [if_neg h1, if_pos h2]⟩
      rw [e, if_neg h1, if_pos h2]
    · refine ⟨k + 2, by omega, by omega, by omega, ?_, by rw [if_neg h1, if_neg h2]⟩
      rw [e, if_neg h1, if_neg h2]
theorem QW.take (h : QW nP nC W s) {p i j : Nat} (hp : p < nP) (h0 : s.pl p = none) (hij : i < j) (hj : j < s.n) : QW nP nC W (s.take p i j) ∧ (s.take p i j).FR W p := by
  have epl : (s.take p i j).pl = fun q => if q = p then some (s.ro i, s.ro j) else s.pl q := rfl
  have en : (s.take p i j).n = s.n - 1 - 1 := rfl
  have erd : (s.take p i j).rd = s.rd := rfl
  have eR : ∀ q c, (s.take p i j).R q c → (q = p ∧ (c = s.ro i ∨ c = s.ro j)) ∨ (q ≠ p ∧ s.R q c) := by
    rintro q c ⟨a, b, h1, h2⟩
    rw [epl] at h1
    by_cases e : q = p
    · have h1 : (if q = p then some (s.ro i, s.ro j) else s.pl q) = some (a, b) := h1
      rw [if_pos e] at h1
      cases h1
      exact Or.inl ⟨e, h2⟩
    · have h1 : (if q = p then some (s.ro i, s.ro j) else s.pl q) = some (a, b) := h1
      rw [if_neg e] at h1
      exact Or.inr ⟨e, a, b, h1, h2⟩
  have bi := h.rb i (by omega)
  have bj := h.rb j hj
  have e := oc_up s.pl p (some (s.ro i, s.ro j)) nP
  rw [if_pos hp, if_pos hp, h0] at e
  have e1 : vl (some (s.ro i, s.ro j)) = 2 := rfl
  have e2 : vl none = 0 := rfl
  rw [e1, e2] at e
  have cn := h.cnt
  refine ⟨⟨?_, ?_, ?_, ?_, ?_, ?_, h.le⟩, ?_⟩
  · rw [en, epl]; omega
  · intro k hk
    obtain ⟨l, l1, l2, l3, l4, -⟩ := QS.take_ro (p := p) hij hj (show k < s.n - 2 by omega)
    rw [l4]; exact h.rb l l1
  · intro q hq a b hab
    rw [epl] at hab
    by_cases e : q = p
    · have hab : (if q = p then some (s.ro i, s.ro j) else s.pl q) = some (a, b) := hab
      rw [if_pos e] at hab
      cases hab
      exact ⟨bi.1, bj.1, fun z => absurd (h.d1 i j (by omega) hj z) (by omega)⟩
    · have hab : (if q = p then some (s.ro i, s.ro j) else s.pl q) = some (a, b) := hab
      rw [if_neg e] at hab
      exact h.pb q hq a b hab
  · intro k l hk hl hkl
    obtain ⟨x, x1, x2, x3, x4, x5⟩ := QS.take_ro (p := p) hij hj (show k < s.n - 2 by omega)
    obtain ⟨y, y1, y2, y3, y4, y5⟩ := QS.take_ro (p := p) hij hj (show l < s.n - 2 by omega)
    rw [x4, y4] at hkl
    have := h.d1 x y x1 y1 hkl
    rw [x5, y5] at this
    split at this <;> split at this <;> (try split at this) <;> (try split at this) <;> omega
  · intro q r c hq hr r1 r2
    rcases eR q c r1 with ⟨z1, z2⟩ | ⟨z1, z2⟩
    · rcases eR r c r2 with ⟨y1, y2⟩ | ⟨y1, y2⟩
      · omega
      · exfalso
        rcases z2 with rfl | rfl
        · exact h.d4 r i hr (by omega) y2
        · exact h.d4 r j hr hj y2
    · rcases eR r c r2 with ⟨y1, y2⟩ | ⟨y1, y2⟩
      · exfalso
        rcases y2 with rfl | rfl
        · exact h.d4 q i hq (by omega) z2
        · exact h.d4 q j hq hj z2
      · exact h.d3 q r c hq hr z2 y2
  · intro q k hq hk r
    obtain ⟨l, l1, l2, l3, l4, -⟩ := QS.take_ro (p := p) hij hj (show k < s.n - 2 by omega)
    rw [l4] at r
    rcases eR q _ r with ⟨z1, z2 | z2⟩ | ⟨z1, z2⟩
    · exact l2 (h.d1 l i l1 (by omega) z2)
    · exact l3 (h.d1 l j l1 hj z2)
    · exact h.d4 q l hq l1 z2
  · intro a b hab
    rw [epl] at hab
    have hab : (if p = p then some (s.ro i, s.ro j) else s.pl p) = some (a, b) := hab
    rw [if_pos rfl] at hab
    cases hab
    exact ⟨bi.2, bj.2⟩
theorem QW.on {F : Nat → Nat → Nat → Prop} (h : QW nP nC W s) {p : Nat} (hp : p < nP) (hf : s.FR W p) : QW nP nC W (s.on F p) ∧ (s.on F p).FR W p ∧ (∀ q, ¬ q = p → (s.on F p).pl q = s.pl q) ∧ (s.on F p).rd = s.rd := by
  by_cases h0 : s.pl p = none
  · by_cases hx : ∃ i j, s.FP F p i j
    · obtain ⟨i, j, hx⟩ := hx
      rw [QS.on_y h0 hx]
      obtain ⟨k1, k2⟩ := h.take hp h0 hx.1 hx.2.1
      exact ⟨k1, k2, fun q hq => if_neg hq, rfl⟩
    · rw [QS.on_n hx]; exact ⟨h, hf, fun _ _ => rfl, rfl⟩
  · rw [QS.on_s h0]; exact ⟨h, hf, fun _ _ => rfl, rfl⟩
theorem rdq_eq (h : QW nP nC W s) : ∀ k, k ≤ nP → ∀ c, ((∃ p, p < k ∧ s.R p c) → rdq s k c = s.rd c + 1) ∧ ((¬ ∃ p, p < k ∧ s.R p c) → rdq s k c = s.rd c)
  | 0, _, c => ⟨fun ⟨p, hp, _⟩ => absurd hp (by omega), fun _ => rfl⟩
  | k + 1, hk, c => by
    obtain ⟨i1, i2⟩ := rdq_eq h k (by omega) c
    have un : ∀ p, p < k → s.R p c → ¬ s.R k c := fun p hp r r2 => absurd (h.d3 p k c (by omega) (by omega) r r2) (by omega)
    rw [rdq]
    cases hs : s.pl k with
    | none =>
      have nk : ¬ s.R k c := fun ⟨a, b, z, _⟩ => by rw [hs] at z; cases z
      refine ⟨fun ⟨p, hp, r⟩ => i1 ⟨p, ?_, r⟩, fun z => i2 (fun ⟨p, hp, r⟩ => z ⟨p, by omega, r⟩)⟩
      have : ¬ p = k := fun e => by subst e; exact nk r
      omega
    | some ab =>
      obtain ⟨a, b⟩ := ab
      have hab := (h.pb k (by omega) a b hs).2.2
      show (_ → bmp (bmp (rdq s k) a) b c = _) ∧ (_ → bmp (bmp (rdq s k) a) b c = _)
      by_cases hc : c = a ∨ c = b
      · have rk : s.R k c := ⟨a, b, hs, hc⟩
        have e := i2 (fun ⟨p, hp, r⟩ => un p hp r rk)
        refine ⟨fun _ => ?_, fun z => absurd ⟨k, by omega, rk⟩ z⟩
        unfold bmp
        rcases hc with rfl | rfl
        · rw [if_neg hab, if_pos rfl, e]
        · rw [if_pos rfl, if_neg (fun z => hab z.symm), e]
      · have nk : ¬ s.R k c := by
          rintro ⟨x, y, z, w⟩
          rw [hs] at z; cases z; exact hc w
        have e : bmp (bmp (rdq s k) a) b c = rdq s k c := by
          unfold bmp; rw [if_neg (fun z => hc (Or.inr z)), if_neg (fun z => hc (Or.inl z))]
        rw [e]
        refine ⟨fun ⟨p, hp, r⟩ => i1 ⟨p, ?_, r⟩, fun z => i2 (fun ⟨p, hp, r⟩ => z ⟨p, by omega, r⟩)⟩
        have : ¬ p = k := fun e => by subst e; exact nk r
        omega
theorem QW.ride (h : QW nP nC W s) (hf : ∀ p, p < nP → s.FR W p) : QW nP nC W (s.ride nP) := by
  refine ⟨h.cnt, ?_, h.pb, h.d1, h.d3, h.d4, ?_⟩
  · intro i hi
    have b := h.rb i hi
    refine ⟨b.1, ?_⟩
    show rdq s nP (s.ro i) < W (s.ro i)
    rw [(rdq_eq h nP (Nat.le_refl _) (s.ro i)).2 (fun ⟨p, hp, r⟩ => h.d4 p i hp hi r)]
    exact b.2
  · intro c hc
    show rdq s nP c ≤ W c
    by_cases e : ∃ p, p < nP ∧ s.R p c
    · rw [(rdq_eq h nP (Nat.le_refl _) c).1 e]
      obtain ⟨p, hp, a, b, z, w⟩ := e
      have := hf p hp a b z
      rcases w with rfl | rfl
      · exact this.1
      · exact this.2
    · rw [(rdq_eq h nP (Nat.le_refl _) c).2 e]
      exact h.le c hc
end
/-- the first k planks of a minute -/
noncomputable def QS.pk (F : Nat → Nat → Nat → Prop) (W : Nat → Nat) (s : QS) : Nat → QS
  | 0 => s
  | k + 1 => ((s.pk F W k).off W k).on F k
theorem QW.pk {nP nC : Nat} {F : Nat → Nat → Nat → Prop} {W : Nat → Nat} {s : QS} (h : QW nP nC W s) : ∀ k, k ≤ nP → QW nP nC W (s.pk F W k) ∧ (∀ q, q < k → (s.pk F W k).FR W q)
  | 0, _ => ⟨h, fun q hq => absurd hq (by omega)⟩
  | k + 1, hk => by
    obtain ⟨h1, h2⟩ := QW.pk (F := F) h k (by omega)
    obtain ⟨o1, o2, o3, o4⟩ := h1.off (p := k) (by omega)
    obtain ⟨p1, p2, p3, p4⟩ := o1.on (F := F) (p := k) (by omega) o2
    refine ⟨p1, fun q hq => ?_⟩
    by_cases e : q = k
    · subst e; exact p2
    · intro a b hab
      have hab : ((((s.pk F W k).off W k).on F k)).pl q = some (a, b) := hab
      rw [p3 q e, o3 q e] at hab
      show (((s.pk F W k).off W k).on F k).rd a < W a ∧ (((s.pk F W k).off W k).on F k).rd b < W b
      rw [p4, o4]
      exact h2 q (by omega) a b hab
/-- the minutes -/
noncomputable def QS.go (F : Nat → Nat → Nat → Prop) (W : Nat → Nat) (nP : Nat) (s : QS) : Nat → QS
  | 0 => s
  | m + 1 => ((s.go F W nP m).pk F W nP).ride nP
theorem QW.go {nP nC : Nat} {F : Nat → Nat → Nat → Prop} {W : Nat → Nat} {s : QS} (h : QW nP nC W s) : ∀ m, QW nP nC W (s.go F W nP m)
  | 0 => h
  | m + 1 => by
    obtain ⟨h1, h2⟩ := (QW.go (F := F) h m).pk (F := F) nP (Nat.le_refl _)
    exact h1.ride h2
