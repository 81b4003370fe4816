def WKQ (G : GG) (h0 d sb sl : Nat) (xs : Nat → Int32) (s : State) (args : Array Value) : Prop := WK G s ∧ NF G h0 s ∧ d ≤ 1000 ∧ args = #[.ref sb] ∧ va_X sb sl xs s s.heap ∧ sb < s.heap.size ∧ h0 = s.heap.size ∧ G.2.2.2 240 = sb
def LY (G : GG) (h0 d sb sl : Nat) (xs : Nat → Int32) (pc : Nat) (L : List (Option Value)) (st : List Value) (M : ZZ) : Prop :=
  ∀ (p : Program) (e : Env) (s : State) (m : MethodId) (args : Array Value) (below : List Frame) (meth : Method) (c : Code) (H : Heap) (locs : List Loc) (ls : Array Slot),
    p.tables.exec = Jvm.exec → c.code = code → c.maxLocals = 4 → meth.sig.returnType = ret → meth.locks = false → s.vm.findClass R_law = some m.cls → (∀ w ∈ gw, w.before args s = true) → WKQ G h0 d sb sl xs s args → CW G h0 M.1 H → va_S (AA G.2.2.2) s.heap H locs → lvH G.2.2.2 ls 4 L →
    W p G.1 e room_1 s m args below meth c H locs M.2.1 M.2.2 (lw_Z below args s) (F0 m pc ls (st.map (cv G.2.2.2)))
def HLY (G : GG) (h0 d sb sl : Nat) (xs : Nat → Int32) (K : KC) : Prop := ∀ pc L st M, K pc L st M → LY G h0 d sb sl xs pc L st M
section QL
variable {G : GG} {h0 d sb sl : Nat} {xs : Nat → Int32} {pc : Nat} {L : List (Option Value)} {st : List Value} {M : ZZ}
theorem q_new {K : KC} (hK : HLY G h0 d sb sl xs K) {idx ci : Nat} (hci : ci < 10) (hcl : Cond.classLink (R_law) idx (fcl ci).1 ∈ gw) (hin : Cond.instantiable (fcl ci).1 (fcl ci).2.2 ∈ gw) (hini : Cond.initialized (fcl ci).1 ∈ gw) (hd : decode code pc = .ok (.new idx, 3)) (hlt : M.1.length < 75) (hcc : M.2.1 + 1 ≤ 600000) (hss : M.2.2 + (fcl ci).2.2 ≤ 7302250) (h : K (pc + 3) L (.ref M.1.length :: st) (M.1 ++ [.inr (ci, dvl ci)], M.2.1 + 1, M.2.2 + (fcl ci).2.2)) : LY G h0 d sb sl xs pc L st M := by
  intro p e s m args below meth c H locs ls hx hb hml hr hk hown hts hW hP hS hl
  have hKn := hW.1.1.1 ci _ (fcl_get hci)
  refine W.newcK (n := (fcl ci).2.2) hx hb hown (hts _ hcl) (hts _ hin) (hts _ hini) rfl hd hcc hss hKn.2.1 hP.2.1 fun H1 kC hkC e1 z1 o1 => ?_
  have hk2 : ∀ (k : Nat) (x : Nat × va_E), (cws G.2.2.2 G.2.2.1 M.1)[k]? = some x → H1[x.1]? = H[x.1]? := fun k x hq => o1 x.1 (by have := (hP.1 k x hq).lt; rw [hP.2.1] at this; exact this)
  have ha : G.2.2.2 M.1.length = h0 + M.1.length := hW.2.1.1 _ hlt
  have hP1 : CW G h0 (M.1 ++ [.inr (ci, dvl ci)]) H1 := by
    refine ⟨?_, by rw [z1, List.length_append]; simp; omega, by rw [List.length_append]; simp; omega⟩
    rw [cws_push]
    refine (hP.1.kept hk2).app (fun k x hq => ?_)
    have hz : k < 1 := (List.getElem?_eq_some_iff.mp hq).1
    rw [show k = 0 by omega] at hq
    cases hq
    rw [ha]
    refine ⟨_, fcl_get hci, (u_born (kty ci) hts (lay_ok ci hci) hKn hkC e1 (kty_ok ci hci)).to (fun j hj => ?_)⟩
    have hj2 : (dvl ci)[j]? = some (defaultValue (kty ci j)) := by simp [dvl, List.getElem?_map, List.getElem?_range hj]
    simp [vp_V, List.getElem?_map, hj2, dv_cv]
  have hS1 : va_S (AA G.2.2.2) s.heap H1 locs := ⟨Nat.le_trans hS.1 (by rw [z1, hP.2.1]; omega), fun x h1 h2 => (o1 x (by have := Nat.lt_of_lt_of_le h1 hS.1; rw [hP.2.1] at this; exact this)).trans (hS.2.1 x h1 h2), hS.2.2⟩
  have h9 := hK _ _ _ _ h p e s m args below meth c H1 locs ls hx hb hml hr hk hown hts hW hP1 hS1 hl
  rw [List.map_cons] at h9
  show W p G.1 e _ s m args below meth c H1 locs _ _ _ (F0 m (pc + 3) ls (.ref (h0 + M.1.length) :: st.map (cv G.2.2.2)))
  rw [← ha]
  exact h9
theorem q_dup {K : KC} (hK : HLY G h0 d sb sl xs K) (hd : decode code pc = .ok (.dup, 1)) (h : dp1 st (fun v r => K (pc + 1) L (v :: v :: r) M)) : LY G h0 d sb sl xs pc L st M := by
  intro p e s m args below meth c H locs ls hx hb hml hr hk hown hts hW hP hS hl
  obtain ⟨v, r, rfl, hc, h1⟩ := dp1_inv h
  exact lv_dup hx hb hd (by rw [cv_cat]; exact hc) (hK _ _ _ _ h1 p e s m args below meth c H locs ls hx hb hml hr hk hown hts hW hP hS hl)
theorem q_astore_n {K : KC} (hK : HLY G h0 d sb sl xs K) {k : Fin 4} (hd : decode code pc = .ok (.astore_n k, 1)) (h : r1 st (fun x r => gd (Nat.blt (k : Nat) 4) (K (pc + 1) (stL L (k : Nat) (.ref x)) r M))) : LY G h0 d sb sl xs pc L st M := by
  intro p e s m args below meth c H locs ls hx hb hml hr hk hown hts hW hP hS hl
  obtain ⟨x, r, rfl, h1⟩ := r1_inv h
  obtain ⟨hk1, h1⟩ := gd_inv h1
  exact lv_astore_n hx hb hd rfl hl.has (Nat.le_of_ble_eq_true hk1) rfl (fun ls2 hl2 => hK _ _ _ _ (h1) p e s m args below meth c H locs ls2 hx hb hml hr hk hown hts hW hP hS (lvH.st1 hl2))
theorem q_init {K : KC} (hK : HLY G h0 d sb sl xs K) {idx a : Nat} {μ2 : Mth} {mc2 ms2 : Nat} {av : List Value} {ws1 : List PE} (hlk : Cond.methodLink (R_law) idx μ2.2.1 ∈ gw) (hd : decode code pc = .ok (.invokespecial idx, 3)) (hn : av.length = μ2.2.2.2.2.2.2) (hc : csum st ≤ 8) (hcc : M.2.1 + mc2 ≤ 600000) (hss : M.2.2 + ms2 ≤ 7302250) (hM : PCc G h0 d μ2 mc2 ms2 (.ref a :: av) M.1 (fun H => CW G h0 ws1 H)) (h : K (pc + 3) L st (ws1, M.2.1 + mc2, M.2.2 + ms2)) : LY G h0 d sb sl xs pc L (av.reverse ++ .ref a :: st) M := by
  intro p e s m args below meth c H locs ls hx hb hml hr hk hown hts hW hP hS hl
  obtain ⟨hm, hM⟩ := hM
  have hpre := z_pre (av := .ref a :: av) hW.1 hW.2.1 hP hS
  have hd1 := hW.2.2.1
  have hR : (rmc d mc2 ms2).frames + 1 ≤ room_1.frames ∧ 8 + (μ2.2.2.2.1 + 11) + (rmc d mc2 ms2).locals ≤ room_1.locals := ⟨by show d + 1 ≤ 2048; omega, by have := hm.2.2.2.2.1; show 8 + (μ2.2.2.2.1 + 11) + 64 * d ≤ 84000; omega⟩
  have hstk : (av.reverse ++ .ref a :: st).map (cv G.2.2.2) = (av.map (cv G.2.2.2)).reverse ++ .ref (G.2.2.2 a) :: st.map (cv G.2.2.2) := by rw [List.map_append, List.map_reverse]; rfl
  have hrest : 2 * (F0 m pc ls ((av.reverse ++ .ref a :: st).map (cv G.2.2.2))).monitorRoom + ((st.map (cv G.2.2.2)).map fun v => v.category).sum ≤ 8 := by
    show 2 * 0 + _ ≤ 8
    rw [csum_cv]; omega
  have fin : ∀ (H1 : Heap) (locs1 : List Loc), CW G h0 ws1 H1 → va_S (AA G.2.2.2) s.heap H1 locs1 → W p G.1 e (room_1) s m args below meth c H1 locs1 (M.2.1 + mc2) (M.2.2 + ms2) (lw_Z below args s) (F0 m (pc + 3) ls (st.map (cv G.2.2.2))) := fun H1 locs1 hP1 hS1 => hK _ _ _ _ h p e s m args below meth c H1 locs1 ls hx hb hml hr hk hown hts hW hP1 hS1 hl
  have hret := hm.2.2.2.2.2.2.2.2
  have cb : CallB (room_1) s args (R_law) idx μ2.2.1 μ2.2.2.1 μ2.2.2.2.1 none (mcode μ2 :: gw) (rmc d mc2 ms2) mc2 ms2 μ2.2.2.2.2.2.2 :=
    callB_of μ2.2.2.2.2.2.2 hts (gw_inI hm) (by unfold mcode; rw [hret]) rfl rfl (hts _ hm.2.1) (hts _ hlk) hm.2.2.2.1 hR
  exact z_back (va_runI (As := av.map (cv G.2.2.2)) (rest := st.map (cv G.2.2.2)) (b := G.2.2.2 a) (bytes := μ2.2.2.1) (maxL := μ2.2.2.2.1) (n := μ2.2.2.2.2.2.2) (own := R_law) ⟨hx, hb, hml, hown, hts⟩ hM ⟨cb, hm.2.2.2.2.2.2.2.1, hts _ hm.2.2.2.2.2.2.1⟩ hpre rfl (by rw [List.length_map]; exact hn) hl.1 hstk hrest hd ⟨hcc, hss⟩) hS fin
theorem q_initH {idx a : Nat} {μ2 : Mth} {mc2 ms2 : Nat} {av : List Value} {P2 : Heap → Prop} (hlk : Cond.methodLink (R_law) idx μ2.2.1 ∈ gw) (hd : decode code pc = .ok (.invokespecial idx, 3)) (hn : av.length = μ2.2.2.2.2.2.2) (hc : csum st ≤ 8) (hcc : M.2.1 + mc2 ≤ 600000) (hss : M.2.2 + ms2 ≤ 7302250) (hM : PCc G h0 d μ2 mc2 ms2 (.ref a :: av) M.1 P2) (h : ∀ (p : Program) (e : Env) (s : State) (m : MethodId) (args : Array Value) (below : List Frame) (meth : Method) (c : Code) (H : Heap) (locs : List Loc) (ls : Array Slot), p.tables.exec = Jvm.exec → c.code = code → c.maxLocals = 4 → meth.sig.returnType = ret → meth.locks = false → s.vm.findClass R_law = some m.cls → (∀ w ∈ gw, w.before args s = true) → WKQ G h0 d sb sl xs s args → P2 H → va_S (AA G.2.2.2) s.heap H locs → lvH G.2.2.2 ls 4 L → W p G.1 e room_1 s m args below meth c H locs (M.2.1 + mc2) (M.2.2 + ms2) (lw_Z below args s) (F0 m (pc + 3) ls (st.map (cv G.2.2.2)))) : LY G h0 d sb sl xs pc L (av.reverse ++ .ref a :: st) M := by
  intro p e s m args below meth c H locs ls hx hb hml hr hk hown hts hW hP hS hl
  obtain ⟨hm, hM⟩ := hM
  have hpre := z_pre (av := .ref a :: av) hW.1 hW.2.1 hP hS
  have hd1 := hW.2.2.1
  have hR : (rmc d mc2 ms2).frames + 1 ≤ room_1.frames ∧ 8 + (μ2.2.2.2.1 + 11) + (rmc d mc2 ms2).locals ≤ room_1.locals := ⟨by show d + 1 ≤ 2048; omega, by have := hm.2.2.2.2.1; show 8 + (μ2.2.2.2.1 + 11) + 64 * d ≤ 84000; omega⟩
  have hstk : (av.reverse ++ .ref a :: st).map (cv G.2.2.2) = (av.map (cv G.2.2.2)).reverse ++ .ref (G.2.2.2 a) :: st.map (cv G.2.2.2) := by rw [List.map_append, List.map_reverse]; rfl
  have hrest : 2 * (F0 m pc ls ((av.reverse ++ .ref a :: st).map (cv G.2.2.2))).monitorRoom + ((st.map (cv G.2.2.2)).map fun v => v.category).sum ≤ 8 := by
    show 2 * 0 + _ ≤ 8
    rw [csum_cv]; omega
  have fin : ∀ (H1 : Heap) (locs1 : List Loc), P2 H1 → va_S (AA G.2.2.2) s.heap H1 locs1 → W p G.1 e (room_1) s m args below meth c H1 locs1 (M.2.1 + mc2) (M.2.2 + ms2) (lw_Z below args s) (F0 m (pc + 3) ls (st.map (cv G.2.2.2))) := fun H1 locs1 hP1 hS1 => h p e s m args below meth c H1 locs1 ls hx hb hml hr hk hown hts hW hP1 hS1 hl
  have hret := hm.2.2.2.2.2.2.2.2
  have cb : CallB (room_1) s args (R_law) idx μ2.2.1 μ2.2.2.1 μ2.2.2.2.1 none (mcode μ2 :: gw) (rmc d mc2 ms2) mc2 ms2 μ2.2.2.2.2.2.2 :=
    callB_of μ2.2.2.2.2.2.2 hts (gw_inI hm) (by unfold mcode; rw [hret]) rfl rfl (hts _ hm.2.1) (hts _ hlk) hm.2.2.2.1 hR
  exact z_back (va_runI (As := av.map (cv G.2.2.2)) (rest := st.map (cv G.2.2.2)) (b := G.2.2.2 a) (bytes := μ2.2.2.1) (maxL := μ2.2.2.2.1) (n := μ2.2.2.2.2.2.2) (own := R_law) ⟨hx, hb, hml, hown, hts⟩ hM ⟨cb, hm.2.2.2.2.2.2.2.1, hts _ hm.2.2.2.2.2.2.1⟩ hpre rfl (by rw [List.length_map]; exact hn) hl.1 hstk hrest hd ⟨hcc, hss⟩) hS fin
end QL
theorem y_astore_n {G : GG} {d sb sl : Nat} {xs : Nat → Int32} {nc ns : Nat} {pc : Nat} {L : List (Option Value)} {st : List Value} {M : PM} {K : KK} (hK : HL G d sb sl xs nc ns K) {k : Fin 4} (hd : decode code pc = .ok (.astore_n k, 1)) (h : r1 st (fun x r => gd (Nat.blt (k : Nat) 4) (K (pc + 1) (stL L (k : Nat) (.ref x)) r M))) : LX G d sb sl xs nc ns pc L st M := by
  intro p e s m args below meth c H locs ls hx hb hml hr hk hown hts hW hP hS hl
  obtain ⟨x, r, rfl, h1⟩ := r1_inv h
  obtain ⟨hk1, h1⟩ := gd_inv h1
  exact lv_astore_n hx hb hd rfl hl.has (Nat.le_of_ble_eq_true hk1) rfl (fun ls2 hl2 => hK _ _ _ _ (h1) p e s m args below meth c H locs ls2 hx hb hml hr hk hown hts hW hP hS (lvH.st1 hl2))
/-- the memory behind the constructors, but for begins() -/
def M00 : PM := (fun a => if a = 44 then (fun k => if k = 6 then nI 2 else 0) else if a = 56 then (fun k => if k = 27 then nI 2 else 0) else fun _ => 0, fun _ _ => 0)
set_option maxRecDepth 100000 in
theorem w75_M {ad : Nat → Nat} {cA : Nat → ClassId} : cws ad cA w_154 = pws ad cA M00 := by rfl
def MI0 : PM := sA M00 63 (fo bgn (M00.1 63) 0 34)
set_option maxRecDepth 100000 in
theorem z_begins {G : GG} {h0 d : Nat} {Q : Heap → Prop} (hQ : ∀ H, va_P G.2.1 cls (pws G.2.2.2 G.2.2.1 MI0) H → Q H) : PY G h0 (d + 2) m_X9_init 18 543 Q 151 [some (.ref 56)] [.ref 56] (w_154, 18, 543) := by
  intro p e s m args below meth c H locs ls hx hb hml hr hk hown hts hW hP hS hl
  have hP2 : va_P G.2.1 cls (pws G.2.2.2 G.2.2.1 M00) H := by
    have h1 : va_P G.2.1 cls (cws G.2.2.2 G.2.2.1 w_154) H := hP.1
    rw [w75_M] at h1
    exact h1
  have hc : PC G (d + 2) m_X9_begins [.ref 56] M00 (fun v N => v = none ∧ N = MI0) := c_X9_begins ⟨rfl, rfl⟩
  obtain ⟨hm, hM⟩ := hc
  have hpre := x_pre (p := p) (av := [.ref 56]) hW.1 hP2 hS
  have hlast := hm.2.2.2.2.2.2
  rw [if_neg (by decide)] at hlast
  have hrecv : ∃ cellB : Cell, H[G.2.2.2 56]? = some cellB ∧ cellB.vm.isStatics = false ∧ s.vm.findClass m_X9_begins.2.1.cls = some cellB.cls := va_recv (q := ((fcl 9).1, (fcl 9).2.1, (fcl 9).2.2)) hW.1.1 hP2 (fcl_get (ci := 9) (by decide)) (pws_get (i := 56) rfl)
  have cb : CallB (rmc (d + 2 + 1) 18 543) s args (nmo 9) 69 m_X9_begins.2.1 m_X9_begins.2.2.1 m_X9_begins.2.2.2.1 m_X9_begins.2.2.2.2.1 (mcode m_X9_begins :: gw) (rmd (d + 2)) 0 0 m_X9_begins.2.2.2.2.2.2 :=
    callB_of m_X9_begins.2.2.2.2.2.2 hts (gw_in hm) rfl rfl rfl (hts _ hm.2.1) (hts _ (callee_ok (own := 9) (idx := 69) (q := (m_X9_begins, 0)) rfl)) hm.2.2.2.1 ⟨Nat.le_refl _, by have := hm.2.2.2.2.1; show 8 + (m_X9_begins.2.2.2.1 + 11) + 64 * (d + 2) ≤ 64 * (d + 2 + 1); omega⟩
  have hrun := va_runV (e := e) (As := []) (rest := []) (b := G.2.2.2 56) (C := m_X9_begins.2.1.cls) (bytes := m_X9_begins.2.2.1) (maxL := m_X9_begins.2.2.2.1) (ret := m_X9_begins.2.2.2.2.1) (n := m_X9_begins.2.2.2.2.2.2) (own := nmo 9) (g := F0 m 151 ls [.ref (G.2.2.2 56)]) (locs := locs) (cells := 18) (slots := 543) (below := below) (meth := meth) ⟨hx, hb, hml, hown, hts⟩ hM ⟨cb, hts _ hlast.1, hts _ hlast.2⟩ ⟨hpre.1, hrecv, hpre.2⟩ rfl rfl hl.1 rfl (Nat.le_of_ble_eq_true rfl) (show decode m_X9_init.2.2.1 151 = .ok (.invokevirtual 69, 3) by decide +kernel) ⟨Nat.le_refl _, Nat.le_refl _⟩
  intro T hT X
  obtain ⟨v, st₀, t, T', L, h0', X', hL, e1, e2, ⟨⟨r, N, hv, ⟨hr0, hN⟩, hPN⟩, hz, hkk⟩, stp⟩ := hrun T hT X
  subst hr0; subst hN
  rw [h0'] at hz hkk
  cases hv
  rw [← e1] at hPN hz hkk
  have hS1 : va_S (AA G.2.2.2) s.heap T'.heap (locs ++ L) := ⟨Nat.le_trans hS.1 hz, fun q h1 h2 => by rw [hkk q (Nat.lt_of_lt_of_le h1 hS.1) h2]; exact hS.2.1 q h1 h2, fun q hq => by
      rcases List.mem_append.mp hq with h | h
      · exact hS.2.2 q h
      · exact hL q h⟩
  have hr2 : meth.sig.returnType = none := hr
  have hw : W p G.1 e (rmc (d + 2 + 1) 18 543) s m args below meth c T'.heap (locs ++ L) 18 543 (MQ below (Qcc G Q) args s 18 543 (AA G.2.2.2)) (F0 m 154 ls []) :=
    W.vret hx hb hr2 (fun t ht hw => ⟨⟨rfl, by rw [ht]; exact hQ _ hPN⟩, hS1.F ht⟩) hS1.2.2 (show decode m_X9_init.2.2.1 154 = .ok (.return_, 1) by decide +kernel) (hlocks := hk)
  obtain ⟨t2, a1, b1⟩ := hw T' rfl X'
  exact ⟨t2, stp t2 a1, b1⟩

theorem law_first {p : Program} {e : Env} {s : State} {m : MethodId} {below : List Frame} {meth : Method} {c : Code} (l : Launch) {b L : Nat} {xs : Nat → Int32} (C0 : lw_At p s m meth c b L xs)
    (hloop : ∀ G : GG, LX G 900 b L xs 75 6216 16 [some (.ref 240), some (.ref 0), some (.ref 56), none] [] MI0) : W p l e room_1 s m #[Value.ref b] below meth c s.heap [] 0 0 (lw_Z below #[Value.ref b] s) (entryFrame m ([Value.ref b] : List Value).toArray 4) := by
  obtain ⟨G, rfl, hWK, hNF, hb240⟩ := law_G l C0
  obtain ⟨hx, hb, hr, hml, hown, hts, hX, hbl, hlocks, hgv⟩ := id C0
  have hts2 : ∀ w ∈ gw, w.before #[Value.ref b] s = true := fun w h => hts w (gw_tbl h)
  have key : LY G s.heap.size 900 b L xs 0 [some (.ref 240), none, none, none] [] ([], 0, 0) := by
    refine q_new (fun _ _ _ _ h => h) (idx := 7) (ci := 8) (by decide) cl_L_7 in_8 ini_8 (by decide +kernel) (by decide +kernel) (by decide) (by decide) ?_
    show LY G s.heap.size 900 b L xs 3 [some (.ref 240), none, none, none] [.ref 0] (w_0, 1, 11)
    refine q_dup (fun _ _ _ _ h => h) (by decide +kernel) ?_
    show LY G s.heap.size 900 b L xs 4 [some (.ref 240), none, none, none] [.ref 0, .ref 0] (w_0, 1, 11)
    refine q_init (fun _ _ _ _ h => h) (idx := 9) (a := 0) (av := []) (mc2 := 55) (ms2 := 5626) (ws1 := w_116) pl_L_9 (by decide +kernel) rfl (by decide) (by decide) (by decide) (ct_0_X8_init (fun _ h => h)) ?_
    show LY G s.heap.size 900 b L xs 7 [some (.ref 240), none, none, none] [.ref 0] (w_116, 56, 5637)
    refine q_astore_n (fun _ _ _ _ h => h) (k := 1) (by decide +kernel) ?_
    show LY G s.heap.size 900 b L xs 8 [some (.ref 240), some (.ref 0), none, none] [] (w_116, 56, 5637)
    refine q_new (fun _ _ _ _ h => h) (idx := 10) (ci := 9) (by decide) cl_L_10 in_9 ini_9 (by decide +kernel) (by decide +kernel) (by decide) (by decide) ?_
    show LY G s.heap.size 900 b L xs 11 [some (.ref 240), some (.ref 0), none, none] [.ref 56] (w_117, 57, 5673)
    refine q_dup (fun _ _ _ _ h => h) (by decide +kernel) ?_
    show LY G s.heap.size 900 b L xs 12 [some (.ref 240), some (.ref 0), none, none] [.ref 56, .ref 56] (w_117, 57, 5673)
    refine q_initH (idx := 12) (a := 56) (av := []) (mc2 := 18) (ms2 := 543) (P2 := fun H => va_P G.2.1 cls (pws G.2.2.2 G.2.2.1 MI0) H) pl_L_12 (by decide +kernel) rfl (by decide) (by decide) (by decide) (ct_12_X9_init (z_begins (fun _ h => h))) ?_
    intro p e s2 m args below meth c H locs ls hx hb hml hr hk hown hts hW hP hS hl
    have h9 : LX G 900 b L xs 75 6216 15 [some (.ref 240), some (.ref 0), none, none] [.ref 56] MI0 := y_astore_n (fun _ _ _ _ h => h) (k := 2) (by decide +kernel) (hloop G)
    refine h9 p e s2 m args below meth c H locs ls hx hb hml hr hk hown hts ⟨hW.1, hW.2.2.2.1, hW.2.2.2.2.1, hW.2.2.2.2.2.1, fun i hi => ?_, hW.2.2.2.2.2.2.2, by decide, by decide, by decide⟩ hP hS hl
    rw [hW.2.1.1 i hi, hW.2.2.2.2.2.2.1]; omega
  have hl := lv_entry ([Value.ref b]) (n := 4) (Nat.le_of_ble_eq_true rfl)
  rw [lg_entry_eq]
  refine key p e s m #[Value.ref b] below meth c s.heap [] _ hx hb hml hr hlocks hown hts2 ⟨hWK, hNF, by decide, rfl, hX, hbl, rfl, hb240⟩ ⟨fun k q hq => by simp [cws] at hq, by simp, by decide⟩ va_S.rf ⟨hl.1, hl.2.1, fun i v hv => ?_⟩
  match i, hv with
  | 0, hv =>
    cases hv
    show _ = some (Slot.val (Value.ref (G.2.2.2 240)))
    rw [hb240]
    exact hl.2.2 (0, .ref b) List.mem_cons_self
  | 1, hv => cases hv
  | 2, hv => cases hv
  | 3, hv => cases hv
  | n + 4, hv => cases hv

