def m_X0_init : Mth := (0, ⟨"SeesawPark$Contest", "<init>", "()V"⟩, prog_2_method_1_code, 1, none, false, 0)
theorem ic_X0_init : mcode m_X0_init ∈ gw := (gt1 (i := 208) rfl rfl)
theorem ii_X0_init : Cond.instanceMethod m_X0_init.2.1 ∈ gw := (gt1 (i := 207) rfl rfl)
def m_X1_init : Mth := (1, ⟨"SeesawPark$Crowd", "<init>", "()V"⟩, prog_3_method_1_code, 1, none, false, 0)
theorem ic_X1_init : mcode m_X1_init ∈ gw := (gt1 (i := 197) rfl rfl)
theorem ii_X1_init : Cond.instanceMethod m_X1_init.2.1 ∈ gw := (gt1 (i := 196) rfl rfl)
def m_X2_init : Mth := (2, ⟨"SeesawPark$Queue", "<init>", "(LSeesawPark$Roster;)V"⟩, prog_4_method_1_code, 2, none, false, 1)
theorem ic_X2_init : mcode m_X2_init ∈ gw := (gt2 (i := 29) rfl rfl)
theorem ii_X2_init : Cond.instanceMethod m_X2_init.2.1 ∈ gw := (gt2 (i := 28) rfl rfl)
def m_X3_init : Mth := (3, ⟨"SeesawPark$Roster", "<init>", "()V"⟩, prog_5_method_1_code, 1, none, false, 0)
theorem ic_X3_init : mcode m_X3_init ∈ gw := (gt1 (i := 31) rfl rfl)
theorem ii_X3_init : Cond.instanceMethod m_X3_init.2.1 ∈ gw := (gt1 (i := 30) rfl rfl)
def m_X4_init : Mth := (4, ⟨"SeesawPark$Scene", "<init>", "(LSeesawPark$Roster;)V"⟩, prog_6_method_1_code, 2, none, false, 1)
theorem ic_X4_init : mcode m_X4_init ∈ gw := (gt1 (i := 94) rfl rfl)
theorem ii_X4_init : Cond.instanceMethod m_X4_init.2.1 ∈ gw := (gt1 (i := 93) rfl rfl)
def m_X5_init : Mth := (5, ⟨"SeesawPark$Seating", "<init>", "()V"⟩, prog_7_method_1_code, 1, none, false, 0)
theorem ic_X5_init : mcode m_X5_init ∈ gw := (gt1 (i := 160) rfl rfl)
theorem ii_X5_init : Cond.instanceMethod m_X5_init.2.1 ∈ gw := (gt1 (i := 159) rfl rfl)
def m_X6_init : Mth := (6, ⟨"SeesawPark$Told", "<init>", "()V"⟩, prog_8_method_1_code, 1, none, false, 0)
theorem ic_X6_init : mcode m_X6_init ∈ gw := (gt1 (i := 127) rfl rfl)
theorem ii_X6_init : Cond.instanceMethod m_X6_init.2.1 ∈ gw := (gt1 (i := 126) rfl rfl)
def m_X7_init : Mth := (7, ⟨"SeesawPark$Weighing", "<init>", "()V"⟩, prog_9_method_1_code, 1, none, false, 0)
theorem ic_X7_init : mcode m_X7_init ∈ gw := (gt1 (i := 230) rfl rfl)
theorem ii_X7_init : Cond.instanceMethod m_X7_init.2.1 ∈ gw := (gt1 (i := 229) rfl rfl)
def m_X8_init : Mth := (8, ⟨"SeesawPark", "<init>", "()V"⟩, prog_1_method_1_code, 1, none, false, 0)
theorem ic_X8_init : mcode m_X8_init ∈ gw := (gt1 (i := 23) rfl rfl)
theorem ii_X8_init : Cond.instanceMethod m_X8_init.2.1 ∈ gw := (gt1 (i := 22) rfl rfl)
def m_X9_init : Mth := (9, ⟨"SeesawParkModel", "<init>", "()V"⟩, prog_11_method_1_code, 1, none, false, 0)
theorem ic_X9_init : mcode m_X9_init ∈ gw := (gt4 (i := 162) rfl rfl)
theorem ii_X9_init : Cond.instanceMethod m_X9_init.2.1 ∈ gw := (gt4 (i := 161) rfl rfl)
theorem oi_c : Cond.code Lib.objectInit ⟨#[0xb1]⟩ 1 none ∈ gw := (gt1 (i := 26) rfl rfl)
theorem oi_i : Cond.instanceMethod Lib.objectInit ∈ gw := (gt1 (i := 25) rfl rfl)
theorem ar_0 : Cond.arrayClass .int ∈ gw := (gt1 (i := 89) rfl rfl)
theorem ar_1 : Cond.arrayClass .boolean ∈ gw := (gt5 (i := 40) rfl rfl)
theorem ar_2 : Cond.arrayClass .long ∈ gw := (gt1 (i := 203) rfl rfl)
theorem ol_8 : Cond.methodLink "SeesawPark" 3 Lib.objectInit ∈ gw := (gt1 (i := 24) rfl rfl)
theorem ol_3 : Cond.methodLink "SeesawPark$Roster" 3 Lib.objectInit ∈ gw := (gt1 (i := 32) rfl rfl)
theorem ol_4 : Cond.methodLink "SeesawPark$Scene" 3 Lib.objectInit ∈ gw := (gt1 (i := 95) rfl rfl)
theorem ol_6 : Cond.methodLink "SeesawPark$Told" 3 Lib.objectInit ∈ gw := (gt1 (i := 128) rfl rfl)
theorem ol_5 : Cond.methodLink "SeesawPark$Seating" 3 Lib.objectInit ∈ gw := (gt1 (i := 161) rfl rfl)
theorem ol_1 : Cond.methodLink "SeesawPark$Crowd" 5 Lib.objectInit ∈ gw := (gt1 (i := 198) rfl rfl)
theorem ol_0 : Cond.methodLink "SeesawPark$Contest" 3 Lib.objectInit ∈ gw := (gt1 (i := 209) rfl rfl)
theorem ol_7 : Cond.methodLink "SeesawPark$Weighing" 1 Lib.objectInit ∈ gw := (gt1 (i := 231) rfl rfl)
theorem ol_2 : Cond.methodLink "SeesawPark$Queue" 3 Lib.objectInit ∈ gw := (gt2 (i := 30) rfl rfl)
theorem ol_9 : Cond.methodLink "SeesawParkModel" 1 Lib.objectInit ∈ gw := (gt4 (i := 163) rfl rfl)
theorem pl_L_9 : Cond.methodLink "SeesawParkLaw" 9 m_X8_init.2.1 ∈ gw := (gt1 (i := 21) rfl rfl)
theorem pl_8_18 : Cond.methodLink "SeesawPark" 18 m_X4_init.2.1 ∈ gw := (gt1 (i := 92) rfl rfl)
theorem pl_8_61 : Cond.methodLink "SeesawPark" 61 m_X7_init.2.1 ∈ gw := (gt1 (i := 228) rfl rfl)
theorem pl_8_68 : Cond.methodLink "SeesawPark" 68 m_X2_init.2.1 ∈ gw := (gt2 (i := 27) rfl rfl)
theorem pl_L_12 : Cond.methodLink "SeesawParkLaw" 12 m_X9_init.2.1 ∈ gw := (gt4 (i := 160) rfl rfl)
theorem cl_L_7 : Cond.classLink "SeesawParkLaw" 7 "SeesawPark" ∈ gw := (gt1 (i := 19) rfl rfl)
theorem cl_8_9 : Cond.classLink "SeesawPark" 9 "SeesawPark$Roster" ∈ gw := (gt1 (i := 27) rfl rfl)
theorem cl_8_16 : Cond.classLink "SeesawPark" 16 "SeesawPark$Scene" ∈ gw := (gt1 (i := 90) rfl rfl)
theorem cl_8_31 : Cond.classLink "SeesawPark" 31 "SeesawPark$Told" ∈ gw := (gt1 (i := 123) rfl rfl)
theorem cl_6_9 : Cond.classLink "SeesawPark$Told" 9 "SeesawPark$Roster" ∈ gw := (gt1 (i := 129) rfl rfl)
theorem cl_8_38 : Cond.classLink "SeesawPark" 38 "SeesawPark$Seating" ∈ gw := (gt1 (i := 156) rfl rfl)
theorem cl_8_45 : Cond.classLink "SeesawPark" 45 "SeesawPark$Crowd" ∈ gw := (gt1 (i := 193) rfl rfl)
theorem cl_8_52 : Cond.classLink "SeesawPark" 52 "SeesawPark$Contest" ∈ gw := (gt1 (i := 204) rfl rfl)
theorem cl_8_59 : Cond.classLink "SeesawPark" 59 "SeesawPark$Weighing" ∈ gw := (gt1 (i := 226) rfl rfl)
theorem cl_8_66 : Cond.classLink "SeesawPark" 66 "SeesawPark$Queue" ∈ gw := (gt2 (i := 25) rfl rfl)
theorem cl_L_10 : Cond.classLink "SeesawParkLaw" 10 "SeesawParkModel" ∈ gw := (gt4 (i := 158) rfl rfl)
theorem in_8 : Cond.instantiable "SeesawPark" 11 ∈ gw := (gt1 (i := 20) rfl rfl)
theorem in_3 : Cond.instantiable "SeesawPark$Roster" 8 ∈ gw := (gt1 (i := 28) rfl rfl)
theorem in_4 : Cond.instantiable "SeesawPark$Scene" 7 ∈ gw := (gt1 (i := 91) rfl rfl)
theorem in_6 : Cond.instantiable "SeesawPark$Told" 7 ∈ gw := (gt1 (i := 124) rfl rfl)
theorem in_5 : Cond.instantiable "SeesawPark$Seating" 10 ∈ gw := (gt1 (i := 157) rfl rfl)
theorem in_1 : Cond.instantiable "SeesawPark$Crowd" 1 ∈ gw := (gt1 (i := 194) rfl rfl)
theorem in_0 : Cond.instantiable "SeesawPark$Contest" 5 ∈ gw := (gt1 (i := 205) rfl rfl)
theorem in_7 : Cond.instantiable "SeesawPark$Weighing" 10 ∈ gw := (gt1 (i := 227) rfl rfl)
theorem in_2 : Cond.instantiable "SeesawPark$Queue" 6 ∈ gw := (gt2 (i := 26) rfl rfl)
theorem in_9 : Cond.instantiable "SeesawParkModel" 36 ∈ gw := (gt4 (i := 159) rfl rfl)
def nestl : List (String × Nat × MethodName) := [("SeesawPark", 11, m_X3_init.2.1), ("SeesawPark", 33, m_X6_init.2.1), ("SeesawPark$Told", 11, m_X3_init.2.1), ("SeesawPark", 40, m_X5_init.2.1), ("SeesawPark", 47, m_X1_init.2.1), ("SeesawPark", 54, m_X0_init.2.1)]
abbrev PE : Type := (Nat × Nat) ⊕ (Nat × List Value)
abbrev ZZ : Type := List PE × Nat × Nat
abbrev KC : Type := Nat → List (Option Value) → List Value → ZZ → Prop
def pec (ad : Nat → Nat) (cA : Nat → ClassId) : PE → va_E
  | .inl (t, n) => .inl (cA t, n, if t = 2 then .inr (.inl (fun _ => 0)) else .inl (fun _ => 0))
  | .inr (ci, fs) => .inr (ci, fs.map (cv ad))
def cws (ad : Nat → Nat) (cA : Nat → ClassId) (ws : List PE) : va_W := ws.zipIdx.map (fun p => (ad p.2, pec ad cA p.1))
def CW (G : GG) (h0 : Nat) (ws : List PE) (H : Heap) : Prop := va_P G.2.1 cls (cws G.2.2.2 G.2.2.1 ws) H ∧ H.size = h0 + ws.length ∧ ws.length ≤ 75
def NF (G : GG) (h0 : Nat) (s : State) : Prop := (∀ i, i < 75 → G.2.2.2 i = h0 + i) ∧ ∀ q ∈ nestl, va_Nw (.methodLinkNest q.1 q.2.1 q.2.2 "SeesawPark") s
def WKC (G : GG) (h0 : Nat) (s : State) (meth : Method) : Prop := WK G s ∧ NF G h0 s ∧ meth.name = "<init>"
theorem NF.move {G : GG} {h0 : Nat} {s U : State} (h : NF G h0 s) (hW : s.WarmedH U.vm) : NF G h0 U := ⟨h.1, fun q hq => (h.2 q hq).warmM hW⟩
theorem NF.blind {G : GG} {h0 : Nat} {U : State} {g : JFrame} {mk : MethodId} {a : Array Value} (h : NF G h0 U) : NF G h0 (U.calling g mk a) := ⟨h.1, fun q hq => va_Nw.same rfl (u := U) rfl (h.2 q hq)⟩
def rmc (d mc ms : Nat) : Room := { frames := d, cells := mc, slots := ms, locals := 64 * d }
def Qcc (G : GG) (Q : Heap → Prop) : Array Value → State → Outcome → State → Prop := fun _ st o t => (o = .returned none ∧ Q t.heap) ∧ va_F (AA G.2.2.2) st t
def mokI (μ : Mth) : Prop := mcode μ ∈ gw ∧ Cond.initialized μ.2.1.cls ∈ gw ∧ nmo μ.1 = μ.2.1.cls ∧ (μ.2.1.cls ≠ "java/lang/invoke/MethodHandle" ∧ μ.2.1.cls ≠ "java/lang/invoke/VarHandle" ∧ (parseMethodDescriptor μ.2.1.desc).map (fun d => d.parameters.length) = some μ.2.2.2.2.2.2) ∧ μ.2.2.2.1 ≤ 30 ∧ plainName μ.2.1.cls = true ∧ Cond.instanceMethod μ.2.1 ∈ gw ∧ μ.2.1.name = "<init>" ∧ μ.2.2.2.2.1 = none
def PCc (G : GG) (h0 d : Nat) (μ : Mth) (mc ms : Nat) (args : List Value) (ws : List PE) (Q : Heap → Prop) : Prop :=
  mokI μ ∧ Met G.1 μ.2.1 (mcode μ :: gw) (rmc d mc ms) (va_Pc (args.map (cv G.2.2.2)) (fun U => WK G U ∧ NF G h0 U ∧ CW G h0 ws U.heap)) (Qcc G Q) mc ms (AA G.2.2.2)
def PY (G : GG) (h0 d : Nat) (μ : Mth) (mc ms : Nat) (Q : Heap → Prop) (pc : Nat) (L : List (Option Value)) (st : List Value) (M : ZZ) : Prop :=
  ∀ (p : Program) (e : Env) (s : State) (m : MethodId) (args : Array Value) (below : List Frame) (meth : Method) (c : Code) (H : Heap) (locs : List Loc) (ls : Array Slot),
    p.tables.exec = Jvm.exec → c.code = μ.2.2.1 → c.maxLocals = μ.2.2.2.1 → meth.sig.returnType = μ.2.2.2.2.1 → meth.locks = false → s.vm.findClass (nmo μ.1) = some m.cls → (∀ w ∈ gw, w.before args s = true) → WKC G h0 s meth → CW G h0 M.1 H → va_S (AA G.2.2.2) s.heap H locs → lvH G.2.2.2 ls μ.2.2.2.1 L →
    W p G.1 e (rmc (d + 1) mc ms) s m args below meth c H locs M.2.1 M.2.2 (MQ below (Qcc G Q) args s mc ms (AA G.2.2.2)) (F0 m pc ls (st.map (cv G.2.2.2)))
def HY (G : GG) (h0 d : Nat) (μ : Mth) (mc ms : Nat) (Q : Heap → Prop) (K : KC) : Prop := ∀ pc L st M, K pc L st M → PY G h0 d μ mc ms Q pc L st M
theorem cws_get {ad : Nat → Nat} {cA : Nat → ClassId} {ws : List PE} {i : Nat} {e : PE} (h : ws[i]? = some e) : (cws ad cA ws)[i]? = some (ad i, pec ad cA e) := by
  simp [cws, List.getElem?_map, List.getElem?_zipIdx, h]
theorem cws_some {ad : Nat → Nat} {cA : Nat → ClassId} {ws : List PE} {k : Nat} {q : Nat × va_E} (h : (cws ad cA ws)[k]? = some q) : ∃ e, ws[k]? = some e ∧ q = (ad k, pec ad cA e) := by
  cases hs : ws[k]? with
  | none => simp [cws, List.getElem?_map, List.getElem?_zipIdx, hs] at h
  | some sh => rw [cws_get hs] at h; exact ⟨sh, rfl, (Option.some.inj h).symm⟩
theorem cws_len {ad : Nat → Nat} {cA : Nat → ClassId} {ws : List PE} : (cws ad cA ws).length = ws.length := by simp [cws]
theorem cws_push {ad : Nat → Nat} {cA : Nat → ClassId} {ws : List PE} {e : PE} : cws ad cA (ws ++ [e]) = cws ad cA ws ++ [(ad ws.length, pec ad cA e)] := by
  simp [cws, List.zipIdx_append]
theorem cws_set {ad : Nat → Nat} {cA : Nat → ClassId} {ws : List PE} {i : Nat} {e : PE} : (cws ad cA ws).set i (ad i, pec ad cA e) = cws ad cA (ws.set i e) := by
  apply List.ext_getElem?
  intro j
  rw [List.getElem?_set]
  by_cases hj : i = j
  · subst hj
    rw [if_pos rfl, cws_len]
    by_cases hi : i < ws.length
    · rw [if_pos hi, cws_get (e := e) (by rw [List.getElem?_set]; simp [hi])]
    · rw [if_neg hi]
      rw [List.getElem?_eq_none_iff.mpr]
      rw [cws_len, List.length_set]; omega
  · rw [if_neg hj]
    cases hs : ws[j]? with
    | none =>
      have : ws.length ≤ j := List.getElem?_eq_none_iff.mp hs
      rw [List.getElem?_eq_none_iff.mpr (by rw [cws_len]; exact this), List.getElem?_eq_none_iff.mpr (by rw [cws_len, List.length_set]; exact this)]
    | some sj => rw [cws_get hs, cws_get (by rw [List.getElem?_set, if_neg hj]; exact hs)]
theorem cws_D {G : GG} {h0 : Nat} {s : State} {ws : List PE} (hn : NF G h0 s) (hl : ws.length ≤ 75) : va_D (AA G.2.2.2) (cws G.2.2.2 G.2.2.1 ws) := by
  have lt : ∀ {i : Nat} {e : PE}, ws[i]? = some e → i < 75 := fun h => Nat.lt_of_lt_of_le (List.getElem?_eq_some_iff.mp h).1 hl
  refine ⟨fun i j p q hp hq e => ?_, fun k q hk => ?_⟩
  · obtain ⟨s1, a1, rfl⟩ := cws_some hp
    obtain ⟨s2, a2, rfl⟩ := cws_some hq
    have e : G.2.2.2 i = G.2.2.2 j := e
    rw [hn.1 i (lt a1), hn.1 j (lt a2)] at e
    omega
  · obtain ⟨s1, a1, rfl⟩ := cws_some hk
    exact ⟨k, lt a1, rfl⟩
theorem PCc.of {G : GG} {h0 d : Nat} {μ : Mth} {mc ms : Nat} {av : List Value} {ws : List PE} {Q : Heap → Prop} (hm : mokI μ) (hlen : (entL av).length ≤ μ.2.2.2.1) (h : PY G h0 d μ mc ms Q 0 (entL av ++ List.replicate (μ.2.2.2.1 - (entL av).length) none) [] (ws, 0, 0)) : PCc G h0 (d + 1) μ mc ms av ws Q := by
  refine ⟨hm, Met.ofW (cc := μ.2.2.1) (maxL := μ.2.2.2.1) (ret := μ.2.2.2.2.1) (ws' := gw) hm.2.2.2.2.2.1 rfl ?_⟩
  intro p e s m args below meth c s₁ B hml hv
  obtain ⟨rfl, hWK, hN, hP⟩ := hv
  have hts := atoms_spec (ws := mcode μ :: gw) B.pre
  have hl := lv_entry (av.map (cv G.2.2.2)) (n := μ.2.2.2.1) (by rw [entL_len]; exact hlen)
  have hin : meth.name = "<init>" := by rw [(name_of_methodNamed B.named B.method).1]; exact hm.2.2.2.2.2.2.2.1
  rw [lg_entry_eq]
  refine h p e s m _ below meth c s.heap [] _ B.exec B.bytes hml B.returns B.notSynchronized ?_ (fun w hw => hts w (List.mem_cons_of_mem _ hw)) ⟨hWK, hN, hin⟩ hP va_S.rf ⟨hl.1, hl.2.1, fun i v hv => ?_⟩
  · rw [hm.2.2.1]; exact findClass_of_methodNamed B.named
  · have h1 := entL_args G.2.2.2 av 0 i v (lg_pad hv)
    rw [Nat.zero_add] at h1
    exact hl.2.2 _ h1
section Z1
variable {G : GG} {h0 d : Nat} {μ : Mth} {mc ms : Nat} {Q : Heap → Prop} {pc : Nat} {L : List (Option Value)} {st : List Value} {M : ZZ}
theorem z_iconst {K : KC} (hK : HY G h0 d μ mc ms Q K) {n : Int} {kv : Int32} (hv : Int32.ofInt n = kv) (hd : decode μ.2.2.1 pc = .ok (.iconst n, 1)) (h : K (pc + 1) L (.int kv :: st) M) : PY G h0 d μ mc ms Q pc L st M := by
  intro p e s m args below meth c H locs ls hx hb hml hr hk hown hts hW hP hS hl
  exact lv_iconst hx hb hd hv (hK _ _ _ _ h p e s m args below meth c H locs ls hx hb hml hr hk hown hts hW hP hS hl)
theorem z_bipush {K : KC} (hK : HY G h0 d μ mc ms Q K) {n : Int} {kv : Int32} (hv : (Int8.ofInt n).toInt32 = kv) (hd : decode μ.2.2.1 pc = .ok (.bipush n, 2)) (h : K (pc + 2) L (.int kv :: st) M) : PY G h0 d μ mc ms Q pc L st M := by
  intro p e s m args below meth c H locs ls hx hb hml hr hk hown hts hW hP hS hl
  exact lv_bipush hx hb hd hv (hK _ _ _ _ h p e s m args below meth c H locs ls hx hb hml hr hk hown hts hW hP hS hl)
theorem z_sipush {K : KC} (hK : HY G h0 d μ mc ms Q K) {n : Int} {kv : Int32} (hv : (Int16.ofInt n).toInt32 = kv) (hd : decode μ.2.2.1 pc = .ok (.sipush n, 3)) (h : K (pc + 3) L (.int kv :: st) M) : PY G h0 d μ mc ms Q pc L st M := by
  intro p e s m args below meth c H locs ls hx hb hml hr hk hown hts hW hP hS hl
  exact lv_sipush hx hb hd hv (hK _ _ _ _ h p e s m args below meth c H locs ls hx hb hml hr hk hown hts hW hP hS hl)
theorem z_lconst {K : KC} (hK : HY G h0 d μ mc ms Q K) {k : Fin 2} (hd : decode μ.2.2.1 pc = .ok (.lconst k, 1)) (h : K (pc + 1) L (.long (Int64.ofNat (k : Nat)) :: st) M) : PY G h0 d μ mc ms Q pc L st M := by
  intro p e s m args below meth c H locs ls hx hb hml hr hk hown hts hW hP hS hl
  exact lv_lconst hx hb hd rfl (hK _ _ _ _ h p e s m args below meth c H locs ls hx hb hml hr hk hown hts hW hP hS hl)
theorem z_aload_n {K : KC} (hK : HY G h0 d μ mc ms Q K) {k : Fin 4} (hd : decode μ.2.2.1 pc = .ok (.aload_n k, 1)) (h : gR (lg L (k : Nat)) (fun x => K (pc + 1) L (.ref x :: st) M)) : PY G h0 d μ mc ms Q pc L st M := by
  intro p e s m args below meth c H locs ls hx hb hml hr hk hown hts hW hP hS hl
  obtain ⟨x, e1, h1⟩ := gR_inv h
  exact lv_aload_n hx hb hd rfl (hl.2.2 _ _ e1) (hK _ _ _ _ h1 p e s m args below meth c H locs ls hx hb hml hr hk hown hts hW hP hS hl)
theorem z_dup {K : KC} (hK : HY G h0 d μ mc ms Q K) (hd : decode μ.2.2.1 pc = .ok (.dup, 1)) (h : dp1 st (fun v r => K (pc + 1) L (v :: v :: r) M)) : PY G h0 d μ mc ms Q pc L st M := by
  intro p e s m args below meth c H locs ls hx hb hml hr hk hown hts hW hP hS hl
  obtain ⟨v, r, rfl, hc, h1⟩ := dp1_inv h
  exact lv_dup hx hb hd (by rw [cv_cat]; exact hc) (hK _ _ _ _ h1 p e s m args below meth c H locs ls hx hb hml hr hk hown hts hW hP hS hl)
theorem z_return (hd : decode μ.2.2.1 pc = .ok (.return_, 1)) (hn : μ.2.2.2.2.1 = none) (h : (∀ H, CW G h0 M.1 H → Q H) ∧ M.2.1 ≤ mc ∧ M.2.2 ≤ ms) (hst : st = []) : PY G h0 d μ mc ms Q pc L st M := by
  intro p e s m args below meth c H locs ls hx hb hml hr hk hown hts hW hP hS hl
  subst hst
  rw [hn] at hr
  refine W.widen (k := mc) (n := ms) h.2.1 h.2.2 ?_
  exact W.vret hx hb hr (fun t ht hw => ⟨⟨rfl, by rw [ht]; exact h.1 H hP⟩, hS.F ht⟩) hS.2.2 hd (hlocks := hk)
def dvl (ci : Nat) : List Value := (List.range (fcl ci).2.2).map (fun k => defaultValue (kty ci k))
theorem dv_cv (ad : Nat → Nat) (ty : FieldType) : cv ad (defaultValue ty) = defaultValue ty := by cases ty <;> rfl
theorem z_new {K : KC} (hK : HY G h0 d μ mc ms Q K) {idx ci : Nat} (hci : ci < 10) (hcl : Cond.classLink (nmo μ.1) idx (fcl ci).1 ∈ gw) (hin : Cond.instantiable (fcl ci).1 (fcl ci).2.2 ∈ gw) (hini : Cond.initialized (fcl ci).1 ∈ gw) (hd : decode μ.2.2.1 pc = .ok (.new idx, 3)) (hlt : M.1.length < 75) (hcc : M.2.1 + 1 ≤ mc) (hss : M.2.2 + (fcl ci).2.2 ≤ ms) (h : K (pc + 3) L (.ref M.1.length :: st) (M.1 ++ [.inr (ci, dvl ci)], M.2.1 + 1, M.2.2 + (fcl ci).2.2)) : PY G h0 d μ mc ms Q pc L st M := by
  intro p e s m args below meth c H locs ls hx hb hml hr hk hown hts hW hP hS hl
  have hKn := hW.1.1.1 ci _ (fcl_get hci)
  refine W.newcK (n := (fcl ci).2.2) hx hb hown (hts _ hcl) (hts _ hin) (hts _ hini) rfl hd hcc hss hKn.2.1 hP.2.1 fun H1 kC hkC e1 z1 o1 => ?_
  have hk2 : ∀ (k : Nat) (x : Nat × va_E), (cws G.2.2.2 G.2.2.1 M.1)[k]? = some x → H1[x.1]? = H[x.1]? := fun k x hq => o1 x.1 (by have := (hP.1 k x hq).lt; rw [hP.2.1] at this; exact this)
  have ha : G.2.2.2 M.1.length = h0 + M.1.length := hW.2.1.1 _ hlt
  have hP1 : CW G h0 (M.1 ++ [.inr (ci, dvl ci)]) H1 := by
    refine ⟨?_, by rw [z1, List.length_append]; simp; omega, by rw [List.length_append]; simp; omega⟩
    rw [cws_push]
    refine (hP.1.kept hk2).app (fun k x hq => ?_)
    have hz : k < 1 := (List.getElem?_eq_some_iff.mp hq).1
    rw [show k = 0 by omega] at hq
    cases hq
    rw [ha]
    refine ⟨_, fcl_get hci, (u_born (kty ci) hts (lay_ok ci hci) hKn hkC e1 (kty_ok ci hci)).to (fun j hj => ?_)⟩
    have hj2 : (dvl ci)[j]? = some (defaultValue (kty ci j)) := by simp [dvl, List.getElem?_map, List.getElem?_range hj]
    simp [vp_V, List.getElem?_map, hj2, dv_cv]
  have hS1 : va_S (AA G.2.2.2) s.heap H1 locs := ⟨Nat.le_trans hS.1 (by rw [z1, hP.2.1]; omega), fun x h1 h2 => (o1 x (by have := Nat.lt_of_lt_of_le h1 hS.1; rw [hP.2.1] at this; exact this)).trans (hS.2.1 x h1 h2), hS.2.2⟩
  have h9 := hK _ _ _ _ h p e s m args below meth c H1 locs ls hx hb hml hr hk hown hts hW hP1 hS1 hl
  rw [List.map_cons] at h9
  show W p G.1 e _ s m args below meth c H1 locs _ _ _ (F0 m (pc + 3) ls (.ref (h0 + M.1.length) :: st.map (cv G.2.2.2)))
  rw [← ha]
  exact h9
def aty (t : Nat) : FieldType := if t = 0 then .int else if t = 1 then .boolean else .long
def aat (t : Nat) : ArrayType := if t = 0 then .int else if t = 1 then .boolean else .long
theorem z_newarray {K : KC} (hK : HY G h0 d μ mc ms Q K) {t n : Nat} (ht : t ≤ 2) (hn : n ≤ 100000) (hd : decode μ.2.2.1 pc = .ok (.newarray (aat t), 2)) (hlt : M.1.length < 75) (hcc : M.2.1 + 1 ≤ mc) (hss : M.2.2 + n ≤ ms) (h : K (pc + 2) L (.ref M.1.length :: st) (M.1 ++ [.inl (t, n)], M.2.1 + 1, M.2.2 + n)) : PY G h0 d μ mc ms Q pc L (.int (nI n) :: st) M := by
  intro p e s m args below meth c H locs ls hx hb hml hr hk hown hts hW hP hS hl
  have hty : newarray.typeOf (aat t) = aty t := by
    match t, ht with
    | 0, _ => rfl
    | 1, _ => rfl
    | 2, _ => rfl
    | k + 3, h => omega
  have hw : Cond.arrayClass (aty t) ∈ gw := by
    match t, ht with
    | 0, _ => exact ar_0
    | 1, _ => exact ar_1
    | 2, _ => exact ar_2
    | k + 3, h => omega
  have hbt : n * componentBytes (newarray.typeOf (aat t)) ≤ 536870912 := by
    rw [hty]
    match t, ht with
    | 0, _ => have : componentBytes (aty 0) = 4 := rfl; rw [this]; omega
    | 1, _ => have : componentBytes (aty 1) = 1 := rfl; rw [this]; omega
    | 2, _ => have : componentBytes (aty 2) = 8 := rfl; rw [this]; omega
    | k + 3, h => omega
  refine va_newaK hx hb (by rw [hty]; exact hts _ hw) rfl hd rfl (nI_pos (by omega)) (nI_clamp (by omega)) hbt hcc hss hP.2.1 fun H1 cA e1 z1 o1 hAr hNm => ?_
  have hcA : cA = G.2.2.1 t := by
    have h7 := (hW.1.1.2 t _ (tysl_get G.2.2.1 ht)).2
    have h8 : s.vm.findClass ("[" ++ (aty t).toString) = some (G.2.2.1 t) := by
      match t, ht, h7 with
      | 0, _, h7 => exact h7
      | 1, _, h7 => exact h7
      | 2, _, h7 => exact h7
      | k + 3, h, _ => omega
    rw [hty] at hNm
    exact Option.some.inj (hNm.symm.trans h8)
  subst hcA
  have hk2 : ∀ (k : Nat) (x : Nat × va_E), (cws G.2.2.2 G.2.2.1 M.1)[k]? = some x → H1[x.1]? = H[x.1]? := fun k x hq => o1 x.1 (by have := (hP.1 k x hq).lt; rw [hP.2.1] at this; exact this)
  have ha : G.2.2.2 M.1.length = h0 + M.1.length := hW.2.1.1 _ hlt
  have hP1 : CW G h0 (M.1 ++ [.inl (t, n)]) H1 := by
    refine ⟨?_, by rw [z1, List.length_append]; simp; omega, by rw [List.length_append]; simp; omega⟩
    rw [cws_push]
    refine (hP.1.kept hk2).app (fun k x hq => ?_)
    have hz : k < 1 := (List.getElem?_eq_some_iff.mp hq).1
    rw [show k = 0 by omega] at hq
    cases hq
    rw [ha]
    show H1[h0 + M.1.length]? = some (vp_cell _ _)
    rw [e1, hty]
    match t, ht with
    | 0, _ => rfl
    | 1, _ => rfl
    | 2, _ => rfl
    | k + 3, h => omega
  have hS1 : va_S (AA G.2.2.2) s.heap H1 locs := ⟨Nat.le_trans hS.1 (by rw [z1, hP.2.1]; omega), fun x h1 h2 => (o1 x (by have := Nat.lt_of_lt_of_le h1 hS.1; rw [hP.2.1] at this; exact this)).trans (hS.2.1 x h1 h2), hS.2.2⟩
  have h9 := hK _ _ _ _ h p e s m args below meth c H1 locs ls hx hb hml hr hk hown hts hW hP1 hS1 hl
  rw [List.map_cons] at h9
  show W p G.1 e _ s m args below meth c H1 locs _ _ _ (F0 m (pc + 2) ls (.ref (h0 + M.1.length) :: st.map (cv G.2.2.2)))
  rw [← ha]
  exact h9
def kvok (ty : FieldType) (v : Value) : Bool := match ty, v with
  | .int, .int _ => true
  | .long, .long _ => true
  | .object _, .ref _ => true
  | .array _, .ref _ => true
  | _, _ => false
theorem kvok_fit {ty : FieldType} {v : Value} (ad : Nat → Nat) (h : kvok ty v = true) : narrow ty (cv ad v) = cv ad v ∧ fits ty (cv ad v) = true := by
  unfold kvok at h
  split at h
  · exact ⟨rfl, rfl⟩
  · exact ⟨rfl, rfl⟩
  · exact ⟨rfl, rfl⟩
  · exact ⟨rfl, rfl⟩
  · cases h
theorem z_putfield {K : KC} (hK : HY G h0 d μ mc ms Q K) {idx a ci k : Nat} {v : Value} {fs : List Value} (hd : decode μ.2.2.1 pc = .ok (.putfield idx, 3)) (hl0 : lkp (fll.getD μ.1 []) idx = some (ci, k)) (hs : M.1[a]? = some (.inr (ci, fs))) (hv : kvok (kty ci k) v = true) (hdc : ((fcl ci).2.1 k).1 = nmo μ.1) (hkl : k < fs.length) (h : K (pc + 3) L st (M.1.set a (.inr (ci, fs.set k v)), M.2.1, M.2.2)) : PY G h0 d μ mc ms Q pc L (v :: .ref a :: st) M := by
  intro p e s m args below meth c H locs ls hx hb hml hr hk hown hts hW hP hS hl
  have hfl : flok μ.1 (idx, ci, k) := by
    have hm := lkp_mem hl0
    cases ho : fll[μ.1]? with
    | none => rw [List.getD_eq_getElem?_getD, ho] at hm; cases hm
    | some row => rw [List.getD_eq_getElem?_getD, ho] at hm; exact fll_ok μ.1 row ho _ hm
  have hnf := kvok_fit G.2.2.2 hv
  have hfin : ∀ (H1 : Heap) (locs1 : List Loc), va_P G.2.1 cls ((cws G.2.2.2 G.2.2.1 M.1).set a (G.2.2.2 a, .inr (ci, (fs.map (cv G.2.2.2)).set k (cv G.2.2.2 v)))) H1 → va_D (AA G.2.2.2) ((cws G.2.2.2 G.2.2.1 M.1).set a (G.2.2.2 a, .inr (ci, (fs.map (cv G.2.2.2)).set k (cv G.2.2.2 v)))) → va_S (AA G.2.2.2) s.heap H1 locs1 → H1.size = H.size → W p G.1 e (rmc (d + 1) mc ms) s m args below meth c H1 locs1 M.2.1 M.2.2 (MQ below (Qcc G Q) args s mc ms (AA G.2.2.2)) (F0 m (pc + 3) ls (st.map (cv G.2.2.2))) := by
    intro H1 locs1 hP1 hD1 hS1 hz
    have e1 : ((cws G.2.2.2 G.2.2.1 M.1).set a (G.2.2.2 a, .inr (ci, (fs.map (cv G.2.2.2)).set k (cv G.2.2.2 v)))) = cws G.2.2.2 G.2.2.1 (M.1.set a (.inr (ci, fs.set k v))) := by
      rw [← cws_set]; simp only [pec, List.map_set]
    rw [e1] at hP1
    exact hK _ _ _ _ h p e s m args below meth c H1 locs1 ls hx hb hml hr hk hown hts hW ⟨hP1, by rw [hz, hP.2.1, List.length_set], by rw [List.length_set]; exact hP.2.2⟩ hS1 hl
  have hD := cws_D hW.2.1 hP.2.2
  have hcl := fcl_get hfl.2.1
  have hap := va_apart (own := nmo μ.1) (ci := ci) hts (lay_ok ci hfl.2.1) (kty ci) (kty_ok ci hfl.2.1) (kty_nm ci hfl.2.1) hW.1.1 hcl
  obtain ⟨r, h1, cell, q1, q2, q3, q4⟩ := hP.1 a _ (cws_get hs)
  have hr1 : r = ((fcl ci).1, (fcl ci).2.1, (fcl ci).2.2) := Option.some.inj (h1.symm.trans hcl)
  subst hr1
  obtain ⟨hSl, hfc, kC, hkC, hkind⟩ := hW.1.1.1 ci _ hcl
  obtain ⟨cf, kf, fi, f, hi, hsl⟩ := hSl k hfl.2.2
  have hlink := hts _ hfl.1
  have hd0 := kty_ok ci hfl.2.1 k hfl.2.2
  have hlay := hts _ (lay_ok ci hfl.2.1 _ (u_in_lay (C := (fcl ci).1) (T := (fcl ci).2.1) hfl.2.2))
  have hst := (u_facts hfc hkC (u_lays hts (lay_ok ci hfl.2.1) hfl.2.2) hi).1
  unfold u_lay at hlay
  have hlm : k < (fs.map (cv G.2.2.2)).length := by rw [List.length_map]; exact hkl
  cases hf : ((fcl ci).2.1 k).2.2.2 with
  | false =>
    rw [if_neg (by rw [hf]; decide)] at hlay
    have h6 := u_store hfc hkC hkind hlay hi hd0 hnf.1 hnf.2
    refine W.putK hx hb (f := f) ⟨hown, hlink, ⟨_, _, _, hi⟩, hst⟩ (by rw [q2]; exact h6) q1 q3 (by rw [hsl]; exact k2_hasslot (q4 k hfl.2.2)) rfl rfl hd fun H' e1 e2 e3 => ?_
    rw [hsl] at e1 ⊢
    exact hfin H' _ (hP.1.set hD (cws_get hs) ⟨_, hcl, t_OB.to (V := updV (vp_V (fs.map (cv G.2.2.2))) k (cv G.2.2.2 v)) ⟨_, e1, q2, q3, t_set q4 hap hfl.2.2 _⟩ (fun j _ => vp_updV_set hlm _ j)⟩ e3) (hD.set (cws_get hs)) (hS.put e2 e3 (hD.2 a _ (cws_get hs))) e2
  | true =>
    rw [if_pos hf] at hlay
    have hcf : m.cls = cf := by
      obtain ⟨_, _, c', _, _, _, -, -, hf', -, -, -, hown2, -⟩ := Cond.laysFinal_spec hlay
      have e1 : c' = cf := by have := hi.symm.trans hf'; simp at this; exact this.1.symm
      rw [hdc] at hown2
      rw [← e1]; exact Option.some.inj (hown.symm.trans hown2)
    have h6 := u_fits hfc hkC hkind (Or.inr hlay) hi hd0 hnf.1 hnf.2
    refine W.putFinK hx hb hown hlink hi hst hcf hW.2.2 (by rw [q2]; exact h6) q1 q3 (by rw [hsl]; exact k2_hasslot (q4 k hfl.2.2)) rfl rfl hd fun H' e1 e2 e3 => ?_
    rw [hsl] at e1 ⊢
    exact hfin H' _ (hP.1.set hD (cws_get hs) ⟨_, hcl, t_OB.to (V := updV (vp_V (fs.map (cv G.2.2.2))) k (cv G.2.2.2 v)) ⟨_, e1, q2, q3, t_set q4 hap hfl.2.2 _⟩ (fun j _ => vp_updV_set hlm _ j)⟩ e3) (hD.set (cws_get hs)) (hS.put e2 e3 (hD.2 a _ (cws_get hs))) e2
theorem z_getfield {K : KC} (hK : HY G h0 d μ mc ms Q K) {idx a ci k : Nat} {v : Value} {fs : List Value} (hd : decode μ.2.2.1 pc = .ok (.getfield idx, 3)) (hl0 : lkp (fll.getD μ.1 []) idx = some (ci, k)) (hs : M.1[a]? = some (.inr (ci, fs))) (hv : fs[k]? = some v) (h : K (pc + 3) L (v :: st) M) : PY G h0 d μ mc ms Q pc L (.ref a :: st) M := by
  intro p e s m args below meth c H locs ls hx hb hml hr hk hown hts hW hP hS hl
  have hfl : flok μ.1 (idx, ci, k) := by
    have hm := lkp_mem hl0
    cases ho : fll[μ.1]? with
    | none => rw [List.getD_eq_getElem?_getD, ho] at hm; cases hm
    | some row => rw [List.getD_eq_getElem?_getD, ho] at hm; exact fll_ok μ.1 row ho _ hm
  exact va_get (D := G.2.1) (ci := ci) (v := cv G.2.2.2 v) (C := (fcl ci).1) (T := (fcl ci).2.1) (N := (fcl ci).2.2) hx hb hts (lay_ok ci hfl.2.1) hown hW.1.1 hP.1 a (cws_get hs) (fcl_get hfl.2.1) k hfl.2.2 (hts _ hfl.1) (fun _ z => z) (by rw [List.getElem?_map, hv]; rfl) hd (hK _ _ _ _ h p e s m args below meth c H locs ls hx hb hml hr hk hown hts hW hP hS hl)
theorem z_objinit {K : KC} (hK : HY G h0 d μ mc ms Q K) {idx a : Nat} (hlk : Cond.methodLink (nmo μ.1) idx Lib.objectInit ∈ gw) (hd : decode μ.2.2.1 pc = .ok (.invokespecial idx, 3)) (hc : csum st ≤ 8) (h : K (pc + 3) L st M) : PY G h0 d μ mc ms Q pc L (.ref a :: st) M := by
  intro p e s m args below meth c H locs ls hx hb hml hr hk hown hts hW hP hS hl
  refine W.objInit hx hb hown (hts _ hlk) (hts _ oi_i) (hts _ oi_c) rfl (by rw [hml]; exact hl.1) rfl hd (by show 1 ≤ d + 1; omega) (by show 2 * 0 + _ + 12 ≤ 64 * (d + 1); rw [csum_cv]; omega) ?_
  exact hK _ _ _ _ h p e s m args below meth c H locs ls hx hb hml hr hk hown hts hW hP hS hl
theorem z_back {p : Program} {e : Env} {s : State} {m : MethodId} {args : Array Value} {below : List Frame} {meth : Method} {c : Code} {H : Heap} {locs : List Loc} {ls : Array Slot} {a : Array Value} {st0 rest : List Value} {R : Room} {Q0 : State → Prop} {P2 : Heap → Prop} {c0 s0 mc2 ms2 : Nat}
    (hr : va_Run p G.1 e R s m args below meth c H locs c0 s0 mc2 ms2 (F0 m pc ls st0) rest (Qcc G P2 a) (AA G.2.2.2)) (hS : va_S (AA G.2.2.2) s.heap H locs)
    (kk : ∀ (H1 : Heap) (locs1 : List Loc), P2 H1 → va_S (AA G.2.2.2) s.heap H1 locs1 → W p G.1 e R s m args below meth c H1 locs1 (c0 + mc2) (s0 + ms2) Q0 (F0 m (pc + 3) ls rest)) :
    W p G.1 e R s m args below meth c H locs c0 s0 Q0 (F0 m pc ls st0) := by
  intro T hT X
  obtain ⟨v, st₀, t, T', L, h0', X', hL, e1, e2, ⟨⟨hv, hP2⟩, hz, hk⟩, stp⟩ := hr T hT X
  rw [h0'] at hz hk
  cases hv
  rw [← e1] at hP2 hz hk
  obtain ⟨t2, a1, b1⟩ := kk T'.heap (locs ++ L) hP2 ⟨Nat.le_trans hS.1 hz, fun q h1 h2 => by rw [hk q (Nat.lt_of_lt_of_le h1 hS.1) h2]; exact hS.2.1 q h1 h2, fun q hq => by
      rcases List.mem_append.mp hq with h | h
      · exact hS.2.2 q h
      · exact hL q h⟩ T' rfl X'
  exact ⟨t2, stp t2 a1, b1⟩
theorem z_pre {s : State} {ws : List PE} {H : Heap} {locs : List Loc} {av : List Value} (hW : WK G s) (hN : NF G h0 s) (hP : CW G h0 ws H) (hS : va_S (AA G.2.2.2) s.heap H locs) :
    FrameBlind (va_Pc (av.map (cv G.2.2.2)) (fun U => WK G U ∧ NF G h0 U ∧ CW G h0 ws U.heap)) ∧ ∀ U : State, U.heap = H → s.WarmedH U.vm → va_Pc (av.map (cv G.2.2.2)) (fun U => WK G U ∧ NF G h0 U ∧ CW G h0 ws U.heap) (av.map (cv G.2.2.2)).toArray U := by
  refine ⟨fun a U g mk h => ⟨h.1, h.2.1.blind, h.2.2.1.blind, h.2.2.2⟩, fun U hU hw => ⟨rfl, hW.move hw (fun a h1 h2 => by rw [hU]; exact hS.2.1 a h1 h2), hN.move hw, by rw [hU]; exact hP⟩⟩
theorem gw_inI {μ2 : Mth} (hm : mokI μ2) : GoodIn gw (mcode μ2 :: gw) := by
  intro w hw
  rcases List.mem_cons.mp hw with rfl | hw
  · exact ⟨hm.1, gw_good hm.1⟩
  · exact ⟨hw, gw_good hw⟩
/-- a constructor calls a constructor: the link is plain or a nest mate's -/
theorem z_init {K : KC} (hK : HY G h0 d μ mc ms Q K) {idx a : Nat} {μ2 : Mth} {mc2 ms2 : Nat} {av : List Value} {ws1 : List PE} (hlk : Cond.methodLink (nmo μ.1) idx μ2.2.1 ∈ gw ∨ (nmo μ.1, idx, μ2.2.1) ∈ nestl) (hd : decode μ.2.2.1 pc = .ok (.invokespecial idx, 3)) (hn : av.length = μ2.2.2.2.2.2.2) (hc : csum st ≤ 8) (hcc : M.2.1 + mc2 ≤ mc) (hss : M.2.2 + ms2 ≤ ms) (hM : PCc G h0 d μ2 mc2 ms2 (.ref a :: av) M.1 (fun H => CW G h0 ws1 H)) (h : K (pc + 3) L st (ws1, M.2.1 + mc2, M.2.2 + ms2)) : PY G h0 d μ mc ms Q pc L (av.reverse ++ .ref a :: st) M := by
  intro p e s m args below meth c H locs ls hx hb hml hr hk hown hts hW hP hS hl
  obtain ⟨hm, hM⟩ := hM
  have hpre := z_pre (av := .ref a :: av) hW.1 hW.2.1 hP hS
  have hR : (rmc d mc2 ms2).frames + 1 ≤ (rmc (d + 1) mc ms).frames ∧ 8 + (μ2.2.2.2.1 + 11) + (rmc d mc2 ms2).locals ≤ (rmc (d + 1) mc ms).locals := ⟨Nat.le_refl _, by have := hm.2.2.2.2.1; show 8 + (μ2.2.2.2.1 + 11) + 64 * d ≤ 64 * (d + 1); omega⟩
  have hstk : (av.reverse ++ .ref a :: st).map (cv G.2.2.2) = (av.map (cv G.2.2.2)).reverse ++ .ref (G.2.2.2 a) :: st.map (cv G.2.2.2) := by rw [List.map_append, List.map_reverse]; rfl
  have hrest : 2 * (F0 m pc ls ((av.reverse ++ .ref a :: st).map (cv G.2.2.2))).monitorRoom + ((st.map (cv G.2.2.2)).map fun v => v.category).sum ≤ 8 := by
    show 2 * 0 + _ ≤ 8
    rw [csum_cv]; omega
  have fin : ∀ (H1 : Heap) (locs1 : List Loc), CW G h0 ws1 H1 → va_S (AA G.2.2.2) s.heap H1 locs1 → W p G.1 e (rmc (d + 1) mc ms) s m args below meth c H1 locs1 (M.2.1 + mc2) (M.2.2 + ms2) (MQ below (Qcc G Q) args s mc ms (AA G.2.2.2)) (F0 m (pc + 3) ls (st.map (cv G.2.2.2))) := fun H1 locs1 hP1 hS1 => hK _ _ _ _ h p e s m args below meth c H1 locs1 ls hx hb hml hr hk hown hts hW hP1 hS1 hl
  have hret := hm.2.2.2.2.2.2.2.2
  rcases hlk with hlk | hlk
  · have cb : CallB (rmc (d + 1) mc ms) s args (nmo μ.1) idx μ2.2.1 μ2.2.2.1 μ2.2.2.2.1 none (mcode μ2 :: gw) (rmc d mc2 ms2) mc2 ms2 μ2.2.2.2.2.2.2 :=
      callB_of μ2.2.2.2.2.2.2 hts (gw_inI hm) (by unfold mcode; rw [hret]) rfl rfl (hts _ hm.2.1) (hts _ hlk) hm.2.2.2.1 hR
    exact z_back (va_runI (As := av.map (cv G.2.2.2)) (rest := st.map (cv G.2.2.2)) (b := G.2.2.2 a) (bytes := μ2.2.2.1) (maxL := μ2.2.2.2.1) (n := μ2.2.2.2.2.2.2) (own := nmo μ.1) ⟨hx, hb, hml, hown, hts⟩ hM ⟨cb, hm.2.2.2.2.2.2.2.1, hts _ hm.2.2.2.2.2.2.1⟩ hpre rfl (by rw [List.length_map]; exact hn) hl.1 hstk hrest hd ⟨hcc, hss⟩) hS fin
  · have cw := va_cnB (R := rmc (d + 1) mc ms) (own := nmo μ.1) (host := "SeesawPark") (index := idx) (maxL := μ2.2.2.2.1) (mc := mc2) (ms := ms2) (y := μ2.2.1) (bytes := μ2.2.2.1) (ret := none) (ws := mcode μ2 :: gw) (rm := rmc d mc2 ms2) μ2.2.2.2.2.2.2 hts (gw_inI hm) (by unfold mcode; rw [hret]) rfl rfl (hW.2.1.2 _ hlk) (hts _ hm.2.1) hm.2.2.2.1 hR
    exact z_back (va_runIN (As := av.map (cv G.2.2.2)) (rest := st.map (cv G.2.2.2)) (b := G.2.2.2 a) (bytes := μ2.2.2.1) (maxL := μ2.2.2.2.1) (n := μ2.2.2.2.2.2.2) (own := nmo μ.1) ⟨hx, hb, hml, hown, hts⟩ hM ⟨cw, hm.2.2.2.2.2.2.2.1, hts _ hm.2.2.2.2.2.2.1⟩ hpre rfl (by rw [List.length_map]; exact hn) hl.1 hstk hrest hd ⟨hcc, hss⟩) hS fin
end Z1
