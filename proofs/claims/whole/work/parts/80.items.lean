/-! the text: items -/
abbrev PSt : Type := List (Nat × Nat) × List (Nat × Nat) × List Nat
noncomputable def nx (T : Nat → Nat) (tl s : Nat) : Nat := tkS T tl (tkE T tl s)
def isN (T : Nat → Nat) (tl lo hi s : Nat) : Prop := tkK T tl s = 4 ∧ lo ≤ tkV T tl s ∧ tkV T tl s ≤ hi
def P1 (T : Nat → Nat) (tl lo hi s : Nat) (F : Nat → Prop) (K : Nat → Nat → Prop) : Prop := (¬ isN T tl lo hi s → F s) ∧ (isN T tl lo hi s → K (tkV T tl s) (nx T tl s))
def PSm (T : Nat → Nat) (tl s : Nat) (F : Nat → Prop) (K : Nat → Prop) : Prop := (¬ tkK T tl s = 5 → F s) ∧ (tkK T tl s = 5 → K (nx T tl s))
def Pp (T : Nat → Nat) (tl : Nat) (a : PSt) (s : Nat) (F : Nat → Prop) (K : PSt → Nat → Prop) : Prop := P1 T tl 1 4 s F (fun v s3 => P1 T tl 0 20 s3 F (fun u s4 => K (a.1 ++ [(v, u)], a.2.1, a.2.2) s4))
def Pc (T : Nat → Nat) (tl : Nat) (a : PSt) (s : Nat) (F : Nat → Prop) (K : PSt → Nat → Prop) : Prop := P1 T tl 1 60 s F (fun v s3 => P1 T tl 1 30 s3 F (fun u s4 => K (a.1, a.2.1 ++ [(v, u)], a.2.2) s4))
def Ps (T : Nat → Nat) (tl : Nat) (a : PSt) (s : Nat) (F : Nat → Prop) (K : PSt → Nat → Prop) : Prop := P1 T tl 1 20 s F (fun v s4 => K (a.1, a.2.1, a.2.2 ++ [v]) s4)
def PI (T : Nat → Nat) (tl : Nat) (a : PSt) (s : Nat) (F : Nat → Prop) (K : PSt → Nat → Prop) : Prop :=
  (tkK T tl s = 1 → (3 ≤ a.1.length → F s) ∧ (a.1.length < 3 → Pp T tl a (nx T tl s) F (fun a' s4 => PSm T tl s4 F (K a')))) ∧
  (tkK T tl s = 2 → (8 ≤ a.2.1.length → F s) ∧ (a.2.1.length < 8 → Pc T tl a (nx T tl s) F (fun a' s4 => PSm T tl s4 F (K a')))) ∧
  (tkK T tl s = 3 → (5 ≤ a.2.2.length → F s) ∧ (a.2.2.length < 5 → Ps T tl a (nx T tl s) F (fun a' s4 => PSm T tl s4 F (K a')))) ∧
  (3 < tkK T tl s → F s)
def tot (a : PSt) : Nat := a.1.length + a.2.1.length + a.2.2.length
def wfP (a : PSt) : Prop := a.1.length ≤ 3 ∧ a.2.1.length ≤ 8 ∧ a.2.2.length ≤ 5 ∧ (∀ q ∈ a.1, 1 ≤ q.1 ∧ q.1 ≤ 4 ∧ q.2 ≤ 20) ∧ (∀ q ∈ a.2.1, 1 ≤ q.1 ∧ q.1 ≤ 60 ∧ 1 ≤ q.2 ∧ q.2 ≤ 30) ∧ (∀ q ∈ a.2.2, 1 ≤ q ∧ q ≤ 20)
def PA (T : Nat → Nat) (tl : Nat) : Nat → PSt → Nat → (Nat → Prop) → (PSt → Prop) → Prop
  | 0, _, _, _, _ => False
  | n + 1, a, s, F, K => (n + 1 + tot a = 17 ∧ wfP a) ∧ (tkK T tl s = 0 → K a) ∧ (¬ tkK T tl s = 0 → PI T tl a s F (fun a' s' => PA T tl n a' s' F K))
/-- what a text comes to -/
def Ends (X : (Nat → Prop) → (PSt → Prop) → Prop) : Prop := (∃ f, ∀ F K, F f → X F K) ∨ (∃ a, wfP a ∧ ∀ F K, K a → X F K)
theorem ends_1 {T : Nat → Nat} {tl lo hi s : Nat} {R : Nat → Nat → (Nat → Prop) → (PSt → Prop) → Prop} (h : isN T tl lo hi s → Ends (R (tkV T tl s) (nx T tl s))) : Ends (fun F K => P1 T tl lo hi s F (fun v s' => R v s' F K)) := by
  by_cases z : isN T tl lo hi s
  · rcases h z with ⟨f, hf⟩ | ⟨a, ha, hf⟩
    · exact Or.inl ⟨f, fun F K q => ⟨fun y => absurd z y, fun _ => hf F K q⟩⟩
    · exact Or.inr ⟨a, ha, fun F K q => ⟨fun y => absurd z y, fun _ => hf F K q⟩⟩
  · exact Or.inl ⟨s, fun F K q => ⟨fun _ => q, fun y => absurd y z⟩⟩
theorem ends_s {T : Nat → Nat} {tl s : Nat} {R : Nat → (Nat → Prop) → (PSt → Prop) → Prop} (h : tkK T tl s = 5 → Ends (R (nx T tl s))) : Ends (fun F K => PSm T tl s F (fun s' => R s' F K)) := by
  by_cases z : tkK T tl s = 5
  · rcases h z with ⟨f, hf⟩ | ⟨a, ha, hf⟩
    · exact Or.inl ⟨f, fun F K q => ⟨fun y => absurd z y, fun _ => hf F K q⟩⟩
    · exact Or.inr ⟨a, ha, fun F K q => ⟨fun y => absurd z y, fun _ => hf F K q⟩⟩
  · exact Or.inl ⟨s, fun F K q => ⟨fun _ => q, fun y => absurd y z⟩⟩
theorem Ends.imp {X Y : (Nat → Prop) → (PSt → Prop) → Prop} (h : Ends X) (hi : ∀ F K, X F K → Y F K) : Ends Y := Or.imp (fun ⟨f, q⟩ => ⟨f, fun F K z => hi F K (q F K z)⟩) (fun ⟨a, w, q⟩ => ⟨a, w, fun F K z => hi F K (q F K z)⟩) h
theorem ends_f {X : (Nat → Prop) → (PSt → Prop) → Prop} {s : Nat} (h : ∀ F K, F s → X F K) : Ends X := Or.inl ⟨s, h⟩
theorem PA_ends {T : Nat → Nat} {tl : Nat} : ∀ (n : Nat) (a : PSt) (s : Nat), wfP a → n + tot a = 17 → Ends (fun F K => PA T tl n a s F K)
  | 0, a, s, hw, hn => by
    exfalso
    obtain ⟨w1, w2, w3, -⟩ := hw
    unfold tot at hn
    omega
  | n + 1, a, s, hw, hn => by
    obtain ⟨w1, w2, w3, w4, w5, w6⟩ := id hw
    have hn0 : n + 1 + tot a = 17 ∧ wfP a := ⟨hn, hw⟩
    unfold tot at hn
    by_cases k0 : tkK T tl s = 0
    · exact Or.inr ⟨a, hw, fun F K q => ⟨hn0, fun _ => q, fun y => absurd k0 y⟩⟩
    by_cases k1 : tkK T tl s = 1
    · by_cases hl : 3 ≤ a.1.length
      · exact ends_f (s := s) (fun F K q => ⟨hn0, fun y => absurd y k0, fun _ => ⟨fun _ => ⟨fun _ => q, fun y => absurd y (by omega)⟩, fun y => absurd y (by omega), fun y => absurd y (by omega), fun y => absurd y (by omega)⟩⟩)
      · refine Ends.imp (X := fun F K => Pp T tl a (nx T tl s) F (fun a' s4 => PSm T tl s4 F (fun s5 => PA T tl n a' s5 F K))) ?_ (fun F K q => ⟨hn0, fun y => absurd y k0, fun _ => ⟨fun _ => ⟨fun y => absurd y (by omega), fun _ => q⟩, fun y => absurd y (by omega), fun y => absurd y (by omega), fun y => absurd y (by omega)⟩⟩)
        unfold Pp
        refine ends_1 (R := fun v s3 F K => P1 T tl 0 20 s3 F (fun u s4 => PSm T tl s4 F (fun s5 => PA T tl n (a.1 ++ [(v, u)], a.2.1, a.2.2) s5 F K))) (fun z1 => ?_)
        refine ends_1 (R := fun u s4 F K => PSm T tl s4 F (fun s5 => PA T tl n (a.1 ++ [(_, u)], a.2.1, a.2.2) s5 F K)) (fun z2 => ?_)
        refine ends_s (R := fun s5 F K => PA T tl n (a.1 ++ [(_, _)], a.2.1, a.2.2) s5 F K) (fun z3 => ?_)
        refine PA_ends n _ _ ⟨by simp; omega, w2, w3, fun q hq => ?_, w5, w6⟩ (by unfold tot; simp; omega)
        rcases List.mem_append.mp hq with y | y
        · exact w4 q y
        · rw [List.mem_singleton] at y; subst y; exact ⟨z1.2.1, z1.2.2, z2.2.2⟩
    by_cases k2 : tkK T tl s = 2
    · by_cases hl : 8 ≤ a.2.1.length
      · exact ends_f (s := s) (fun F K q => ⟨hn0, fun y => absurd y k0, fun _ => ⟨fun y => absurd y (by omega), fun _ => ⟨fun _ => q, fun y => absurd y (by omega)⟩, fun y => absurd y (by omega), fun y => absurd y (by omega)⟩⟩)
      · refine Ends.imp (X := fun F K => Pc T tl a (nx T tl s) F (fun a' s4 => PSm T tl s4 F (fun s5 => PA T tl n a' s5 F K))) ?_ (fun F K q => ⟨hn0, fun y => absurd y k0, fun _ => ⟨fun y => absurd y (by omega), fun _ => ⟨fun y => absurd y (by omega), fun _ => q⟩, fun y => absurd y (by omega), fun y => absurd y (by omega)⟩⟩)
        unfold Pc
        refine ends_1 (R := fun v s3 F K => P1 T tl 1 30 s3 F (fun u s4 => PSm T tl s4 F (fun s5 => PA T tl n (a.1, a.2.1 ++ [(v, u)], a.2.2) s5 F K))) (fun z1 => ?_)
        refine ends_1 (R := fun u s4 F K => PSm T tl s4 F (fun s5 => PA T tl n (a.1, a.2.1 ++ [(_, u)], a.2.2) s5 F K)) (fun z2 => ?_)
        refine ends_s (R := fun s5 F K => PA T tl n (a.1, a.2.1 ++ [(_, _)], a.2.2) s5 F K) (fun z3 => ?_)
        refine PA_ends n _ _ ⟨w1, by simp; omega, w3, w4, fun q hq => ?_, w6⟩ (by unfold tot; simp; omega)
        rcases List.mem_append.mp hq with y | y
        · exact w5 q y
        · rw [List.mem_singleton] at y; subst y; exact ⟨z1.2.1, z1.2.2, z2.2.1, z2.2.2⟩
    by_cases k3 : tkK T tl s = 3
    · by_cases hl : 5 ≤ a.2.2.length
      · exact ends_f (s := s) (fun F K q => ⟨hn0, fun y => absurd y k0, fun _ => ⟨fun y => absurd y (by omega), fun y => absurd y (by omega), fun _ => ⟨fun _ => q, fun y => absurd y (by omega)⟩, fun y => absurd y (by omega)⟩⟩)
      · refine Ends.imp (X := fun F K => Ps T tl a (nx T tl s) F (fun a' s4 => PSm T tl s4 F (fun s5 => PA T tl n a' s5 F K))) ?_ (fun F K q => ⟨hn0, fun y => absurd y k0, fun _ => ⟨fun y => absurd y (by omega), fun y => absurd y (by omega), fun _ => ⟨fun y => absurd y (by omega), fun _ => q⟩, fun y => absurd y (by omega)⟩⟩)
        unfold Ps
        refine ends_1 (R := fun v s4 F K => PSm T tl s4 F (fun s5 => PA T tl n (a.1, a.2.1, a.2.2 ++ [v]) s5 F K)) (fun z1 => ?_)
        refine ends_s (R := fun s5 F K => PA T tl n (a.1, a.2.1, a.2.2 ++ [_]) s5 F K) (fun z3 => ?_)
        refine PA_ends n _ _ ⟨w1, w2, by simp; omega, w4, w5, fun q hq => ?_⟩ (by unfold tot; simp; omega)
        rcases List.mem_append.mp hq with y | y
        · exact w6 q y
        · rw [List.mem_singleton] at y; subst y; exact ⟨z1.2.1, z1.2.2⟩
    · exact ends_f (s := s) (fun F K q => ⟨hn0, fun y => absurd y k0, fun _ => ⟨fun y => absurd y k1, fun y => absurd y k2, fun y => absurd y k3, fun _ => q⟩⟩)
