/-! the world as a table of places: a pure memory M (ints by place and slot, longs by place and slot), the shapes 'shp', addresses 'ad' -/
abbrev PM : Type := (Nat → Nat → Int32) × (Nat → Nat → Int64)
abbrev GG : Type := Launch × va_G × (Nat → ClassId) × (Nat → Nat)
def cv (ad : Nat → Nat) : Value → Value
  | .ref i => .ref (ad i)
  | v => v
def pfv (ad : Nat → Nat) (M : PM) (i k : Nat) (q : Nat × Nat) : Value := match q.1 with
  | 1 => .long (M.2 i k)
  | 2 => .ref (ad q.2)
  | _ => .int (M.1 i k)
def pid : Nat → Nat := fun x => x
theorem cv_pfv (ad : Nat → Nat) (M : PM) (i k : Nat) (q : Nat × Nat) : cv ad (pfv pid M i k q) = pfv ad M i k q := by
  obtain ⟨a, b⟩ := q
  match a with
  | 0 => rfl
  | 1 => rfl
  | 2 => rfl
  | n + 3 => rfl
def pce (ad : Nat → Nat) (cA : Nat → ClassId) (M : PM) (i : Nat) : Shp → va_E
  | .inl (t, n) => .inl (cA t, n, if t = 2 then .inr (.inl (M.2 i)) else .inl (M.1 i))
  | .inr (ci, ks) => .inr (ci, ks.zipIdx.map (fun p => pfv ad M i p.2 p.1))
def pws (ad : Nat → Nat) (cA : Nat → ClassId) (M : PM) : va_W := shp.zipIdx.map (fun p => (ad p.2, pce ad cA M p.2 p.1))
theorem shp_len : shp.length = 75 := by decide +kernel
theorem pws_get {ad : Nat → Nat} {cA : Nat → ClassId} {M : PM} {i : Nat} {sh : Shp} (h : shp[i]? = some sh) : (pws ad cA M)[i]? = some (ad i, pce ad cA M i sh) := by
  simp [pws, List.getElem?_map, List.getElem?_zipIdx, h]
theorem pws_some {ad : Nat → Nat} {cA : Nat → ClassId} {M : PM} {k : Nat} {q : Nat × va_E} (h : (pws ad cA M)[k]? = some q) : ∃ sh, shp[k]? = some sh ∧ q = (ad k, pce ad cA M k sh) := by
  cases hs : shp[k]? with
  | none => simp [pws, List.getElem?_map, List.getElem?_zipIdx, hs] at h
  | some sh => rw [pws_get hs] at h; exact ⟨sh, rfl, (Option.some.inj h).symm⟩
theorem pws_len {ad : Nat → Nat} {cA : Nat → ClassId} {M : PM} : (pws ad cA M).length = shp.length := by simp [pws]
theorem pce_congr {ad : Nat → Nat} {cA : Nat → ClassId} {M M' : PM} {i : Nat} (h1 : M'.1 i = M.1 i) (h2 : M'.2 i = M.2 i) (sh : Shp) : pce ad cA M' i sh = pce ad cA M i sh := by
  cases sh with
  | inl a => simp only [pce, h1, h2]
  | inr a => simp only [pce, pfv, h1, h2]
theorem pws_set {ad : Nat → Nat} {cA : Nat → ClassId} {M M' : PM} {i : Nat} {sh : Shp} (h : shp[i]? = some sh) (h1 : ∀ a, a ≠ i → M'.1 a = M.1 a ∧ M'.2 a = M.2 a) {e : va_E} (he : e = pce ad cA M' i sh) : (pws ad cA M).set i (ad i, e) = pws ad cA M' := by
  subst he
  apply List.ext_getElem?
  intro j
  rw [List.getElem?_set]
  by_cases hj : i = j
  · subst hj
    rw [if_pos rfl, pws_get h, pws_len, if_pos]
    exact (List.getElem?_eq_some_iff.mp h).1
  · rw [if_neg hj]
    cases hs : shp[j]? with
    | none =>
      have : shp.length ≤ j := List.getElem?_eq_none_iff.mp hs
      rw [List.getElem?_eq_none_iff.mpr (by rw [pws_len]; exact this), List.getElem?_eq_none_iff.mpr (by rw [pws_len]; exact this)]
    | some sj =>
      rw [pws_get hs, pws_get hs]
      have := h1 j (fun e => hj e.symm)
      rw [pce_congr this.1 this.2]
def AA (ad : Nat → Nat) : Nat → Prop := fun q => ∃ i, i < 75 ∧ q = ad i
def inj75 (ad : Nat → Nat) : Prop := ∀ i j, i < 75 → j < 75 → ad i = ad j → i = j
theorem shp_lt {i : Nat} {sh : Shp} (h : shp[i]? = some sh) : i < 75 := by
  have := (List.getElem?_eq_some_iff.mp h).1
  rw [shp_len] at this
  exact this
theorem pws_D {ad : Nat → Nat} {cA : Nat → ClassId} {M : PM} (hi : inj75 ad) : va_D (AA ad) (pws ad cA M) := by
  refine ⟨fun i j p q hp hq e => ?_, fun k q hk => ?_⟩
  · obtain ⟨s1, a1, rfl⟩ := pws_some hp
    obtain ⟨s2, a2, rfl⟩ := pws_some hq
    exact hi i j (shp_lt a1) (shp_lt a2) e
  · obtain ⟨s1, a1, rfl⟩ := pws_some hk
    exact ⟨k, shp_lt a1, rfl⟩
/-- a store of an int, of a long -/
def wI (M : PM) (i k : Nat) (v : Int32) : PM := (va_up M.1 i (upd (M.1 i) k v), M.2)
def wL (M : PM) (i k : Nat) (v : Int64) : PM := (M.1, va_up M.2 i (vp_updL (M.2 i) k v))
theorem wI_ne {M : PM} {i k : Nat} {v : Int32} : ∀ a, a ≠ i → (wI M i k v).1 a = M.1 a ∧ (wI M i k v).2 a = M.2 a := fun a h => ⟨by simp [wI, va_up, h], rfl⟩
theorem wL_ne {M : PM} {i k : Nat} {v : Int64} : ∀ a, a ≠ i → (wL M i k v).1 a = M.1 a ∧ (wL M i k v).2 a = M.2 a := fun a h => ⟨rfl, by simp [wL, va_up, h]⟩
/-- what stands still: static arrays, strings -/
def ctA : List Int32 := [-1, 0, 0, 1, 2, 0]
def ctM : List Int32 := [1, 10, 100, 1000, 10000, 100000]
def ctB : List (List Int32) := [[112, 108, 97, 110, 107], [99, 104, 105, 108, 100], [115, 116, 111, 110, 101]]
def SF (ad : Nat → Nat) (A : Nat → Prop) (s : State) (H : Heap) : Prop :=
  va_Z "SeesawPark" "KIND_ABOVE" "[I" (.ref (ad 200)) A s H ∧ va_T .int (ad 200) 6 (fun j => .int (ctA.getD j 0)) A s H ∧
  va_Z "SeesawPark" "KIND_MARK" "[I" (.ref (ad 201)) A s H ∧ va_T .int (ad 201) 6 (fun j => .int (ctM.getD j 0)) A s H ∧
  va_Z "java/lang/String" "COMPACT_STRINGS" "Z" (.int 1) A s H ∧
  (va_Z "jdk/internal/util/Preconditions" "SIOOBE_FORMATTER" "Ljava/util/function/BiFunction;" .null A s H ∨ va_Z "jdk/internal/util/Preconditions" "SIOOBE_FORMATTER" "Ljava/util/function/BiFunction;" (.ref (ad 230)) A s H) ∧
  vk_S 3 [5, 5, 5] ctB (fun i => ad (210 + i)) (fun i => ad (220 + i)) A s H
def y_seat : MethodName := ⟨"SeesawPark", "stepOfSeat", "(II)I"⟩
def VF (ad : Nat → Nat) (s : State) : Prop :=
  vk_R "SeesawPark$Told" 98 "plank" (ad 210) s ∧ vk_R "SeesawPark$Told" 104 "child" (ad 211) s ∧ vk_R "SeesawPark$Told" 106 "stone" (ad 212) s ∧
  va_Nw (.methodLinkNest "SeesawPark$Crowd" 27 y_seat "SeesawPark") s ∧ va_Nw (.methodLinkNest "SeesawPark$Contest" 45 y_seat "SeesawPark") s
def tysl (cA : Nat → ClassId) : List (ClassId × FieldType) := [(cA 0, .int), (cA 1, .boolean), (cA 2, .long)]
def WK (G : GG) (s : State) : Prop := va_K G.2.1 cls (tysl G.2.2.1) s ∧ inj75 G.2.2.2 ∧ SF G.2.2.2 (AA G.2.2.2) s s.heap ∧ VF G.2.2.2 s
theorem SF.moved {ad : Nat → Nat} {A : Nat → Prop} {u U : State} {H : Heap} (hvm : u.vm.Alike U.vm) (h : SF ad A u H) : SF ad A U H := by
  obtain ⟨h1, h2, h3, h4, h5, h6, h7⟩ := h
  exact ⟨h1.moved hvm, h2.moved hvm, h3.moved hvm, h4.moved hvm, h5.moved hvm, h6.imp (fun z => z.moved hvm) (fun z => z.moved hvm), h7.moved hvm⟩
theorem SF.kept {ad : Nat → Nat} {A : Nat → Prop} {U : State} {H H1 : Heap} (h : SF ad A U H) (hq : ∀ a : Nat, a < H.size → ¬ A a → H1[a]? = H[a]?) : SF ad A U H1 := by
  obtain ⟨h1, h2, h3, h4, h5, h6, h7⟩ := h
  exact ⟨h1.kept hq, h2.kept hq, h3.kept hq, h4.kept hq, h5.kept hq, h6.imp (fun z => z.kept hq) (fun z => z.kept hq), h7.kept hq⟩
theorem WK.move {G : GG} {s U : State} (h : WK G s) (hW : s.WarmedH U.vm) (hq : ∀ a : Nat, a < s.heap.size → ¬ AA G.2.2.2 a → U.heap[a]? = s.heap[a]?) : WK G U := by
  obtain ⟨h1, h2, h3, h4, h5, h6, h7, h8⟩ := h
  exact ⟨va_K.moved hW.alike h1, h2, (h3.kept hq).moved hW.alike, h4.warm hW, h5.warm hW, h6.warm hW, h7.warmM hW, h8.warmM hW⟩
theorem WK.blind {G : GG} {U : State} {g : JFrame} {mk : MethodId} {a : Array Value} (h : WK G U) : WK G (U.calling g mk a) := by
  obtain ⟨h1, h2, h3, h4, h5, h6, h7, h8⟩ := h
  exact ⟨va_K.moved (u := U) (U := U.calling g mk a) (Vm.Alike.refl U.vm) h1, h2, SF.moved (u := U) (U := U.calling g mk a) (Vm.Alike.refl U.vm) h3, h4.same rfl, h5.same rfl, h6.same rfl, va_Nw.same rfl (u := U) rfl h7, va_Nw.same rfl (u := U) rfl h8⟩
/-! contracts over the table's world -/
def rmd (d : Nat) : Room := { frames := d, cells := 0, slots := 0, locals := 64 * d }
def Qp (G : GG) (Post : Option Value → PM → Prop) : Array Value → State → Outcome → State → Prop := fun _ st o t =>
  (∃ (r : Option Value) (M : PM), o = .returned (r.map (cv G.2.2.2)) ∧ Post r M ∧ va_P G.2.1 cls (pws G.2.2.2 G.2.2.1 M) t.heap) ∧ va_F (AA G.2.2.2) st t
def PC (G : GG) (d : Nat) (μ : Mth) (args : List Value) (M : PM) (Post : Option Value → PM → Prop) : Prop :=
  mok μ ∧ Met G.1 μ.2.1 (mcode μ :: gw) (rmd d) (va_Pc (args.map (cv G.2.2.2)) (fun U => WK G U ∧ va_P G.2.1 cls (pws G.2.2.2 G.2.2.1 M) U.heap)) (Qp G Post) 0 0 (AA G.2.2.2)
/-- locals: what is known of each place -/
def lg : List (Option Value) → Nat → Option Value
  | [], _ => none
  | o :: _, 0 => o
  | _ :: r, k + 1 => lg r k
def lvH (ad : Nat → Nat) (ls : Array Slot) (n : Nat) (L : List (Option Value)) : Prop := ls.size = n ∧ lv_wf ls ∧ ∀ i v, lg L i = some v → ls[i]? = some (.val (cv ad v))
def wide : Option Value → Option Value
  | some (.long _) => none
  | some (.double _) => none
  | o => o
def stL : List (Option Value) → Nat → Value → List (Option Value)
  | [], _, _ => []
  | _ :: r, 0, v => some v :: r
  | o :: r, 1, v => wide o :: stL r 0 v
  | o :: r, i + 2, v => o :: stL r (i + 1) v
def noL : List (Option Value) → Nat → List (Option Value)
  | [], _ => []
  | _ :: r, 0 => none :: r
  | o :: r, i + 1 => o :: noL r i
theorem wide_some {o : Option Value} {v : Value} (h : wide o = some v) : o = some v ∧ v.category = 1 := by
  match o with
  | none => cases h
  | some (.long _) => cases h
  | some (.double _) => cases h
  | some (.int _) => cases h; exact ⟨rfl, rfl⟩
  | some (.float _) => cases h; exact ⟨rfl, rfl⟩
  | some .null => cases h; exact ⟨rfl, rfl⟩
  | some (.ref _) => cases h; exact ⟨rfl, rfl⟩
  | some (.retAddr _) => cases h; exact ⟨rfl, rfl⟩
theorem lg_stL : ∀ {L : List (Option Value)} {i j : Nat} {v w : Value}, lg (stL L i v) j = some w → (j = i ∧ w = v) ∨ (j ≠ i ∧ lg L j = some w ∧ (j + 1 = i → w.category = 1))
  | [], i, j, v, w, h => by simp [stL, lg] at h
  | o :: r, 0, 0, v, w, h => Or.inl ⟨rfl, (Option.some.inj h).symm⟩
  | o :: r, 0, j + 1, v, w, h => Or.inr ⟨by omega, h, by omega⟩
  | o :: r, 1, 0, v, w, h => Or.inr ⟨by omega, (wide_some h).1, fun _ => (wide_some h).2⟩
  | o :: r, 1, j + 1, v, w, h => by
    have h : lg (stL r 0 v) j = some w := h
    rcases lg_stL h with ⟨a, b⟩ | ⟨a, b, c⟩
    · exact Or.inl ⟨by omega, b⟩
    · exact Or.inr ⟨by omega, b, by omega⟩
  | o :: r, i + 2, 0, v, w, h => Or.inr ⟨by omega, h, by omega⟩
  | o :: r, i + 2, j + 1, v, w, h => by
    have h : lg (stL r (i + 1) v) j = some w := h
    rcases lg_stL h with ⟨a, b⟩ | ⟨a, b, c⟩
    · exact Or.inl ⟨by omega, b⟩
    · exact Or.inr ⟨by omega, b, fun e => c (by omega)⟩
theorem lg_noL : ∀ {L : List (Option Value)} {i j : Nat} {w : Value}, lg (noL L i) j = some w → j ≠ i ∧ lg L j = some w
  | [], i, j, w, h => by simp [noL, lg] at h
  | o :: r, 0, 0, w, h => by cases h
  | o :: r, 0, j + 1, w, h => ⟨by omega, h⟩
  | o :: r, i + 1, 0, w, h => ⟨by omega, h⟩
  | o :: r, i + 1, j + 1, w, h => by
    have h : lg (noL r i) j = some w := h
    obtain ⟨a, b⟩ := lg_noL h
    exact ⟨by omega, b⟩
/-- all that is known, as the kit's list -/
def cvl (ad : Nat → Nat) (L : List (Option Value)) : List (Nat × Value) := (List.range L.length).filterMap (fun i => (lg L i).map (fun v => (i, cv ad v)))
theorem lg_lt : ∀ {L : List (Option Value)} {i : Nat} {v : Value}, lg L i = some v → i < L.length
  | [], _, _, h => by cases h
  | _ :: _, 0, _, _ => by simp
  | _ :: r, i + 1, v, h => by
    have : i < r.length := lg_lt (show lg r i = some v from h)
    simp; omega
theorem cvl_mem {ad : Nat → Nat} {L : List (Option Value)} {i : Nat} {v : Value} (h : lg L i = some v) : (i, cv ad v) ∈ cvl ad L :=
  List.mem_filterMap.mpr ⟨i, List.mem_range.mpr (lg_lt h), by rw [h]; rfl⟩
theorem lvH.has {ad : Nat → Nat} {ls : Array Slot} {n : Nat} {L : List (Option Value)} (h : lvH ad ls n L) : lv_has ls n (cvl ad L) := by
  refine ⟨h.1, h.2.1, fun q hq => ?_⟩
  obtain ⟨i, -, hi⟩ := List.mem_filterMap.mp hq
  cases hv : lg L i with
  | none => rw [hv] at hi; cases hi
  | some v => rw [hv] at hi; cases hi; exact h.2.2 i v hv
theorem cv_cat (ad : Nat → Nat) (v : Value) : (cv ad v).category = v.category := by cases v <;> rfl
theorem lvH.st1 {ad : Nat → Nat} {ls' : Array Slot} {n i : Nat} {L : List (Option Value)} {v : Value} (h : lv_has ls' n ((i, cv ad v) :: (cvl ad L).filter (fun q => !(q.1 == i) && !(q.1 + 1 == i && q.2.category == 2)))) : lvH ad ls' n (stL L i v) := by
  refine ⟨h.1, h.2.1, fun j w hj => ?_⟩
  rcases lg_stL hj with ⟨rfl, rfl⟩ | ⟨a, b, c⟩
  · exact h.2.2 _ List.mem_cons_self
  · refine h.2.2 (j, cv ad w) (List.mem_cons_of_mem _ (List.mem_filter.mpr ⟨cvl_mem b, ?_⟩))
    simp only [Bool.and_eq_true, Bool.not_eq_true', beq_eq_false_iff_ne, ne_eq, Bool.and_eq_false_iff]
    refine ⟨a, ?_⟩
    by_cases e : j + 1 = i
    · right; rw [cv_cat, c e]; decide
    · left; exact e
theorem lvH.st2 {ad : Nat → Nat} {ls' : Array Slot} {n i : Nat} {L : List (Option Value)} {v : Value} (h : lv_has ls' n ((i, cv ad v) :: (cvl ad L).filter (fun q => !(q.1 == i) && (!(q.1 == i + 1) && !(q.1 + 1 == i && q.2.category == 2))))) : lvH ad ls' n (stL (noL L (i + 1)) i v) := by
  refine ⟨h.1, h.2.1, fun j w hj => ?_⟩
  rcases lg_stL hj with ⟨rfl, rfl⟩ | ⟨a, b, c⟩
  · exact h.2.2 _ List.mem_cons_self
  · obtain ⟨a2, b2⟩ := lg_noL b
    refine h.2.2 (j, cv ad w) (List.mem_cons_of_mem _ (List.mem_filter.mpr ⟨cvl_mem b2, ?_⟩))
    simp only [Bool.and_eq_true, Bool.not_eq_true', beq_eq_false_iff_ne, ne_eq, Bool.and_eq_false_iff]
    refine ⟨a, a2, ?_⟩
    by_cases e : j + 1 = i
    · right; rw [cv_cat, c e]; decide
    · left; exact e
def PX (G : GG) (d : Nat) (μ : Mth) (Post : Option Value → PM → Prop) (pc : Nat) (L : List (Option Value)) (st : List Value) (M : PM) : Prop :=
  ∀ (p : Program) (e : Env) (s : State) (m : MethodId) (args : Array Value) (below : List Frame) (meth : Method) (c : Code) (H : Heap) (locs : List Loc) (ls : Array Slot),
    p.tables.exec = Jvm.exec → c.code = μ.2.2.1 → c.maxLocals = μ.2.2.2.1 → meth.sig.returnType = μ.2.2.2.2.1 → meth.locks = false → s.vm.findClass (nmo μ.1) = some m.cls → (∀ w ∈ gw, w.before args s = true) → WK G s → va_P G.2.1 cls (pws G.2.2.2 G.2.2.1 M) H → va_S (AA G.2.2.2) s.heap H locs → lvH G.2.2.2 ls μ.2.2.2.1 L →
    W p G.1 e (rmd (d + 1)) s m args below meth c H locs 0 0 (MQ below (Qp G Post) args s 0 0 (AA G.2.2.2)) (F0 m pc ls (st.map (cv G.2.2.2)))
/-! from the body to the contract -/
def entL : List Value → List (Option Value)
  | [] => []
  | .long x :: r => some (.long x) :: none :: entL r
  | .double x :: r => some (.double x) :: none :: entL r
  | v :: r => some v :: entL r
theorem entL_len (ad : Nat → Nat) : ∀ vs : List Value, (lg_sl (vs.map (cv ad))).length = (entL vs).length
  | [] => rfl
  | v :: r => by
    have ih := entL_len ad r
    cases v <;> simp [lg_sl, entL, cv, Value.category] at ih ⊢ <;> omega
theorem lg_pad : ∀ {L : List (Option Value)} {n i : Nat} {v : Value}, lg (L ++ List.replicate n none) i = some v → lg L i = some v
  | [], 0, i, v, h => h
  | [], n + 1, 0, v, h => by cases h
  | [], n + 1, i + 1, v, h => by
    have h : lg ([] ++ List.replicate n none) i = some v := h
    exact absurd (lg_pad h) (by simp [lg])
  | o :: r, n, 0, v, h => h
  | o :: r, n, i + 1, v, h => lg_pad (L := r) (n := n) (i := i) (v := v) h
theorem entL_args (ad : Nat → Nat) : ∀ (vs : List Value) (k i : Nat) (v : Value), lg (entL vs) i = some v → (k + i, cv ad v) ∈ lv_args k (vs.map (cv ad))
  | [], k, i, v, h => by cases h
  | .long x :: r, k, 0, v, h => by cases h; exact List.mem_cons_self
  | .long x :: r, k, 1, v, h => by cases h
  | .long x :: r, k, i + 2, v, h => by
    have := entL_args ad r (k + 2) i v h
    rw [show k + (i + 2) = k + 2 + i by omega]
    exact List.mem_cons_of_mem _ this
  | .double x :: r, k, 0, v, h => by cases h; exact List.mem_cons_self
  | .double x :: r, k, 1, v, h => by cases h
  | .double x :: r, k, i + 2, v, h => by
    have := entL_args ad r (k + 2) i v h
    rw [show k + (i + 2) = k + 2 + i by omega]
    exact List.mem_cons_of_mem _ this
  | .int x :: r, k, 0, v, h => by cases h; exact List.mem_cons_self
  | .int x :: r, k, i + 1, v, h => by
    have := entL_args ad r (k + 1) i v h
    rw [show k + (i + 1) = k + 1 + i by omega]
    exact List.mem_cons_of_mem _ this
  | .float x :: r, k, 0, v, h => by cases h; exact List.mem_cons_self
  | .float x :: r, k, i + 1, v, h => by
    have := entL_args ad r (k + 1) i v h
    rw [show k + (i + 1) = k + 1 + i by omega]
    exact List.mem_cons_of_mem _ this
  | .null :: r, k, 0, v, h => by cases h; exact List.mem_cons_self
  | .null :: r, k, i + 1, v, h => by
    have := entL_args ad r (k + 1) i v h
    rw [show k + (i + 1) = k + 1 + i by omega]
    exact List.mem_cons_of_mem _ this
  | .ref x :: r, k, 0, v, h => by cases h; exact List.mem_cons_self
  | .ref x :: r, k, i + 1, v, h => by
    have := entL_args ad r (k + 1) i v h
    rw [show k + (i + 1) = k + 1 + i by omega]
    exact List.mem_cons_of_mem _ this
  | .retAddr x :: r, k, 0, v, h => by cases h; exact List.mem_cons_self
  | .retAddr x :: r, k, i + 1, v, h => by
    have := entL_args ad r (k + 1) i v h
    rw [show k + (i + 1) = k + 1 + i by omega]
    exact List.mem_cons_of_mem _ this
theorem PC.of {G : GG} {d : Nat} {μ : Mth} {av : List Value} {M : PM} {Post : Option Value → PM → Prop} (hm : mok μ) (hlen : (entL av).length ≤ μ.2.2.2.1) (h : PX G d μ Post 0 (entL av ++ List.replicate (μ.2.2.2.1 - (entL av).length) none) [] M) : PC G (d + 1) μ av M Post := by
  refine ⟨hm, Met.ofW (cc := μ.2.2.1) (maxL := μ.2.2.2.1) (ret := μ.2.2.2.2.1) (ws' := gw) hm.2.2.2.2.2.1 rfl ?_⟩
  intro p e s m args below meth c s₁ B hml hv
  obtain ⟨rfl, hWK, hP⟩ := hv
  have hts := atoms_spec (ws := mcode μ :: gw) B.pre
  have hl := lv_entry (av.map (cv G.2.2.2)) (n := μ.2.2.2.1) (by rw [entL_len]; exact hlen)
  rw [lg_entry_eq]
  refine h p e s m _ below meth c s.heap [] _ B.exec B.bytes hml B.returns B.notSynchronized ?_ (fun w hw => hts w (List.mem_cons_of_mem _ hw)) hWK hP va_S.rf ⟨hl.1, hl.2.1, fun i v hv => ?_⟩
  · rw [hm.2.2.1]; exact findClass_of_methodNamed B.named
  · have h1 := entL_args G.2.2.2 av 0 i v (lg_pad hv)
    rw [Nat.zero_add] at h1
    exact hl.2.2 _ h1
