def lawcl : List (Nat × Mth) := [(15, m_X8_type), (19, m_X9_type), (20, m_X8_clear), (24, m_X9_clear), (25, m_X8_park), (28, m_X9_park), (29, m_X8_plank), (33, m_X9_plank), (34, m_X8_child), (37, m_X9_child), (38, m_X8_stone), (41, m_X9_stone), (42, m_X8_sits), (46, m_X9_sits), (47, m_X8_leaves), (51, m_X9_leaves), (52, m_X8_lay), (55, m_X9_lay), (56, m_X8_take), (59, m_X9_take), (60, m_X8_ways), (63, m_X9_ways), (64, m_X8_most), (67, m_X9_most), (68, m_X8_moves), (71, m_X9_moves), (72, m_X8_ballast), (75, m_X9_ballast), (76, m_X8_game), (79, m_X9_game), (80, m_X8_strangers), (83, m_X9_strangers), (84, m_X8_trial), (87, m_X9_trial), (88, m_X8_could), (91, m_X9_could), (92, m_X8_sure), (95, m_X9_sure), (96, m_X8_next), (99, m_X9_next), (100, m_X8_rides), (103, m_X9_rides), (104, m_X8_forever), (107, m_X9_forever), (108, m_X8_rate), (111, m_X9_rate), (112, m_X8_keep), (115, m_X9_keep), (116, m_X8_back), (119, m_X9_back), (120, m_X8_count), (123, m_X9_count), (124, m_X8_trace), (128, m_X9_trace)]
theorem lawc_0 : Cond.methodLink "SeesawParkLaw" 15 m_X8_type.2.1 ∈ gw := (gt2 (i := 86) rfl rfl)
theorem lawc_1 : Cond.methodLink "SeesawParkLaw" 19 m_X9_type.2.1 ∈ gw := (gt5 (i := 41) rfl rfl)
theorem lawc_2 : Cond.methodLink "SeesawParkLaw" 20 m_X8_clear.2.1 ∈ gw := (gt2 (i := 95) rfl rfl)
theorem lawc_3 : Cond.methodLink "SeesawParkLaw" 24 m_X9_clear.2.1 ∈ gw := (gt5 (i := 46) rfl rfl)
theorem lawc_4 : Cond.methodLink "SeesawParkLaw" 25 m_X8_park.2.1 ∈ gw := (gt2 (i := 99) rfl rfl)
theorem lawc_5 : Cond.methodLink "SeesawParkLaw" 28 m_X9_park.2.1 ∈ gw := (gt5 (i := 50) rfl rfl)
theorem lawc_6 : Cond.methodLink "SeesawParkLaw" 29 m_X8_plank.2.1 ∈ gw := (gt2 (i := 219) rfl rfl)
theorem lawc_7 : Cond.methodLink "SeesawParkLaw" 33 m_X9_plank.2.1 ∈ gw := (gt5 (i := 88) rfl rfl)
theorem lawc_8 : Cond.methodLink "SeesawParkLaw" 34 m_X8_child.2.1 ∈ gw := (gt3 (i := 14) rfl rfl)
theorem lawc_9 : Cond.methodLink "SeesawParkLaw" 37 m_X9_child.2.1 ∈ gw := (gt5 (i := 120) rfl rfl)
theorem lawc_10 : Cond.methodLink "SeesawParkLaw" 38 m_X8_stone.2.1 ∈ gw := (gt3 (i := 22) rfl rfl)
theorem lawc_11 : Cond.methodLink "SeesawParkLaw" 41 m_X9_stone.2.1 ∈ gw := (gt5 (i := 128) rfl rfl)
theorem lawc_12 : Cond.methodLink "SeesawParkLaw" 42 m_X8_sits.2.1 ∈ gw := (gt3 (i := 30) rfl rfl)
theorem lawc_13 : Cond.methodLink "SeesawParkLaw" 46 m_X9_sits.2.1 ∈ gw := (gt5 (i := 136) rfl rfl)
theorem lawc_14 : Cond.methodLink "SeesawParkLaw" 47 m_X8_leaves.2.1 ∈ gw := (gt3 (i := 59) rfl rfl)
theorem lawc_15 : Cond.methodLink "SeesawParkLaw" 51 m_X9_leaves.2.1 ∈ gw := (gt5 (i := 152) rfl rfl)
theorem lawc_16 : Cond.methodLink "SeesawParkLaw" 52 m_X8_lay.2.1 ∈ gw := (gt3 (i := 63) rfl rfl)
theorem lawc_17 : Cond.methodLink "SeesawParkLaw" 55 m_X9_lay.2.1 ∈ gw := (gt5 (i := 156) rfl rfl)
theorem lawc_18 : Cond.methodLink "SeesawParkLaw" 56 m_X8_take.2.1 ∈ gw := (gt3 (i := 79) rfl rfl)
theorem lawc_19 : Cond.methodLink "SeesawParkLaw" 59 m_X9_take.2.1 ∈ gw := (gt5 (i := 160) rfl rfl)
theorem lawc_20 : Cond.methodLink "SeesawParkLaw" 60 m_X8_ways.2.1 ∈ gw := (gt3 (i := 83) rfl rfl)
theorem lawc_21 : Cond.methodLink "SeesawParkLaw" 63 m_X9_ways.2.1 ∈ gw := (gt5 (i := 164) rfl rfl)
theorem lawc_22 : Cond.methodLink "SeesawParkLaw" 64 m_X8_most.2.1 ∈ gw := (gt3 (i := 140) rfl rfl)
theorem lawc_23 : Cond.methodLink "SeesawParkLaw" 67 m_X9_most.2.1 ∈ gw := (gt5 (i := 189) rfl rfl)
theorem lawc_24 : Cond.methodLink "SeesawParkLaw" 68 m_X8_moves.2.1 ∈ gw := (gt3 (i := 177) rfl rfl)
theorem lawc_25 : Cond.methodLink "SeesawParkLaw" 71 m_X9_moves.2.1 ∈ gw := (gt5 (i := 196) rfl rfl)
theorem lawc_26 : Cond.methodLink "SeesawParkLaw" 72 m_X8_ballast.2.1 ∈ gw := (gt3 (i := 189) rfl rfl)
theorem lawc_27 : Cond.methodLink "SeesawParkLaw" 75 m_X9_ballast.2.1 ∈ gw := (gt5 (i := 200) rfl rfl)
theorem lawc_28 : Cond.methodLink "SeesawParkLaw" 76 m_X8_game.2.1 ∈ gw := (gt3 (i := 205) rfl rfl)
theorem lawc_29 : Cond.methodLink "SeesawParkLaw" 79 m_X9_game.2.1 ∈ gw := (gt5 (i := 212) rfl rfl)
theorem lawc_30 : Cond.methodLink "SeesawParkLaw" 80 m_X8_strangers.2.1 ∈ gw := (gt3 (i := 229) rfl rfl)
theorem lawc_31 : Cond.methodLink "SeesawParkLaw" 83 m_X9_strangers.2.1 ∈ gw := (gt6 (i := 0) rfl rfl)
theorem lawc_32 : Cond.methodLink "SeesawParkLaw" 84 m_X8_trial.2.1 ∈ gw := (gt3 (i := 237) rfl rfl)
theorem lawc_33 : Cond.methodLink "SeesawParkLaw" 87 m_X9_trial.2.1 ∈ gw := (gt6 (i := 4) rfl rfl)
theorem lawc_34 : Cond.methodLink "SeesawParkLaw" 88 m_X8_could.2.1 ∈ gw := (gt4 (i := 9) rfl rfl)
theorem lawc_35 : Cond.methodLink "SeesawParkLaw" 91 m_X9_could.2.1 ∈ gw := (gt6 (i := 12) rfl rfl)
theorem lawc_36 : Cond.methodLink "SeesawParkLaw" 92 m_X8_sure.2.1 ∈ gw := (gt4 (i := 44) rfl rfl)
theorem lawc_37 : Cond.methodLink "SeesawParkLaw" 95 m_X9_sure.2.1 ∈ gw := (gt6 (i := 34) rfl rfl)
theorem lawc_38 : Cond.methodLink "SeesawParkLaw" 96 m_X8_next.2.1 ∈ gw := (gt4 (i := 53) rfl rfl)
theorem lawc_39 : Cond.methodLink "SeesawParkLaw" 99 m_X9_next.2.1 ∈ gw := (gt6 (i := 38) rfl rfl)
theorem lawc_40 : Cond.methodLink "SeesawParkLaw" 100 m_X8_rides.2.1 ∈ gw := (gt4 (i := 69) rfl rfl)
theorem lawc_41 : Cond.methodLink "SeesawParkLaw" 103 m_X9_rides.2.1 ∈ gw := (gt6 (i := 42) rfl rfl)
theorem lawc_42 : Cond.methodLink "SeesawParkLaw" 104 m_X8_forever.2.1 ∈ gw := (gt4 (i := 106) rfl rfl)
theorem lawc_43 : Cond.methodLink "SeesawParkLaw" 107 m_X9_forever.2.1 ∈ gw := (gt6 (i := 73) rfl rfl)
theorem lawc_44 : Cond.methodLink "SeesawParkLaw" 108 m_X8_rate.2.1 ∈ gw := (gt4 (i := 115) rfl rfl)
theorem lawc_45 : Cond.methodLink "SeesawParkLaw" 111 m_X9_rate.2.1 ∈ gw := (gt6 (i := 77) rfl rfl)
theorem lawc_46 : Cond.methodLink "SeesawParkLaw" 112 m_X8_keep.2.1 ∈ gw := (gt4 (i := 127) rfl rfl)
theorem lawc_47 : Cond.methodLink "SeesawParkLaw" 115 m_X9_keep.2.1 ∈ gw := (gt6 (i := 86) rfl rfl)
theorem lawc_48 : Cond.methodLink "SeesawParkLaw" 116 m_X8_back.2.1 ∈ gw := (gt4 (i := 146) rfl rfl)
theorem lawc_49 : Cond.methodLink "SeesawParkLaw" 119 m_X9_back.2.1 ∈ gw := (gt6 (i := 94) rfl rfl)
theorem lawc_50 : Cond.methodLink "SeesawParkLaw" 120 m_X8_count.2.1 ∈ gw := (gt4 (i := 150) rfl rfl)
theorem lawc_51 : Cond.methodLink "SeesawParkLaw" 123 m_X9_count.2.1 ∈ gw := (gt6 (i := 98) rfl rfl)
theorem lawc_52 : Cond.methodLink "SeesawParkLaw" 124 m_X8_trace.2.1 ∈ gw := (gt4 (i := 154) rfl rfl)
theorem lawc_53 : Cond.methodLink "SeesawParkLaw" 128 m_X9_trace.2.1 ∈ gw := (gt6 (i := 102) rfl rfl)
theorem lawcl_ok : ∀ q ∈ lawcl, Cond.methodLink "SeesawParkLaw" q.1 q.2.2.1 ∈ gw := List.forall_mem_cons.mpr ⟨lawc_0, List.forall_mem_cons.mpr ⟨lawc_1, List.forall_mem_cons.mpr ⟨lawc_2, List.forall_mem_cons.mpr ⟨lawc_3, List.forall_mem_cons.mpr ⟨lawc_4, List.forall_mem_cons.mpr ⟨lawc_5, List.forall_mem_cons.mpr ⟨lawc_6, List.forall_mem_cons.mpr ⟨lawc_7, List.forall_mem_cons.mpr ⟨lawc_8, List.forall_mem_cons.mpr ⟨lawc_9, List.forall_mem_cons.mpr ⟨lawc_10, List.forall_mem_cons.mpr ⟨lawc_11, List.forall_mem_cons.mpr ⟨lawc_12, List.forall_mem_cons.mpr ⟨lawc_13, List.forall_mem_cons.mpr ⟨lawc_14, List.forall_mem_cons.mpr ⟨lawc_15, List.forall_mem_cons.mpr ⟨lawc_16, List.forall_mem_cons.mpr ⟨lawc_17, List.forall_mem_cons.mpr ⟨lawc_18, List.forall_mem_cons.mpr ⟨lawc_19, List.forall_mem_cons.mpr ⟨lawc_20, List.forall_mem_cons.mpr ⟨lawc_21, List.forall_mem_cons.mpr ⟨lawc_22, List.forall_mem_cons.mpr ⟨lawc_23, List.forall_mem_cons.mpr ⟨lawc_24, List.forall_mem_cons.mpr ⟨lawc_25, List.forall_mem_cons.mpr ⟨lawc_26, List.forall_mem_cons.mpr ⟨lawc_27, List.forall_mem_cons.mpr ⟨lawc_28, List.forall_mem_cons.mpr ⟨lawc_29, List.forall_mem_cons.mpr ⟨lawc_30, List.forall_mem_cons.mpr ⟨lawc_31, List.forall_mem_cons.mpr ⟨lawc_32, List.forall_mem_cons.mpr ⟨lawc_33, List.forall_mem_cons.mpr ⟨lawc_34, List.forall_mem_cons.mpr ⟨lawc_35, List.forall_mem_cons.mpr ⟨lawc_36, List.forall_mem_cons.mpr ⟨lawc_37, List.forall_mem_cons.mpr ⟨lawc_38, List.forall_mem_cons.mpr ⟨lawc_39, List.forall_mem_cons.mpr ⟨lawc_40, List.forall_mem_cons.mpr ⟨lawc_41, List.forall_mem_cons.mpr ⟨lawc_42, List.forall_mem_cons.mpr ⟨lawc_43, List.forall_mem_cons.mpr ⟨lawc_44, List.forall_mem_cons.mpr ⟨lawc_45, List.forall_mem_cons.mpr ⟨lawc_46, List.forall_mem_cons.mpr ⟨lawc_47, List.forall_mem_cons.mpr ⟨lawc_48, List.forall_mem_cons.mpr ⟨lawc_49, List.forall_mem_cons.mpr ⟨lawc_50, List.forall_mem_cons.mpr ⟨lawc_51, List.forall_mem_cons.mpr ⟨lawc_52, List.forall_mem_cons.mpr ⟨lawc_53, fun _ h => absurd h List.not_mem_nil⟩⟩⟩⟩⟩⟩⟩⟩⟩⟩⟩⟩⟩⟩⟩⟩⟩⟩⟩⟩⟩⟩⟩⟩⟩⟩⟩⟩⟩⟩⟩⟩⟩⟩⟩⟩⟩⟩⟩⟩⟩⟩⟩⟩⟩⟩⟩⟩⟩⟩⟩⟩⟩⟩
theorem lawk13 : Cond.constantLong "SeesawParkLaw" 13 4294967295 ∈ gw := (gt6 (i := 106) rfl rfl)
/-! THE CLAIM OUT OF ONE WALK OF THE LAW'S BODY. Your part is whole_start (and what it stands on); all else here is the same for every law, but numbers. -/
def R_law : String := "SeesawParkLaw"
def lw_P (b : Addr) (xs : List Int32) (args : Array Value) (s : State) : Prop := args = #[.ref b] ∧ s.IntsAt b xs ∧ xs.length ≤ 256 ∧ (Jvm.Cond.and given_1 narrow_1).before args s = true
def lw_Q (_ : Array Value) (s : State) (o : Outcome) (t : State) : Prop := o = .returned (some (.int 1)) ∧ Framed s o t [] 600000 7302250
def lw_Z (below : List Frame) (a : Array Value) (s : State) : State → Prop := fun t => ∃ o, t.status = .running ∧ Ended t below o ∧ lw_Q a s o t
/-- the law's own end, with 1 on the stack, nothing written that was there before, its room as the claim has it -/
theorem lw_ret {p : Program} {l : Launch} {e : Env} {s : State} {m : MethodId} {below : List Frame} {meth : Method} {c : Code} {b : Nat} (hx : p.tables.exec = Jvm.exec) (hb : c.code = code) (hr : meth.sig.returnType = ret) (hlocks : meth.locks = false) {pc : Nat} {H : Heap} {ls : Array Slot} (hdg : decode code pc = .ok (.ireturn, 1)) : W p l e room_1 s m #[Value.ref b] below meth c H [] 600000 7302250 (lw_Z below #[Value.ref b] s) (F0 m pc ls [.int 1]) := by
  intro T hT X
  obtain ⟨fs, hret, hrun, hended, hW, hframe⟩ := X.leave (v := some (.int 1)) (hlocks := hlocks) (fun h => by rw [hr] at h; cases h)
  have hmeth' : T.vm.method? m = some meth := X.method'
  refine ⟨T.setFrames fs, ?_, .returned (some (.int 1)), hrun, hended, rfl, ⟨_, rfl⟩, hW, hframe⟩
  jvm_step X.here [X.here.top, hx, hb, hdg, hmeth', hr, ret, narrow_b1]
  (try refine ⟨rfl, ?_⟩); (try refine ⟨rfl, ?_⟩)
  first | (intro acts; rw [hret _ acts rfl rfl rfl]) | rw [hret _ _ rfl rfl rfl]
  exact Steps.refl _
/-- what holds at the law's entry: the machine, the code, the tables' words (any of lw_tbl by 'hts w (by decide +kernel)'), the script of L ints xs at the cell b, what the Statement gives of the start (any of its parts by flat_of_before) -/
def lw_At (p : Program) (s : State) (m : MethodId) (meth : Method) (c : Code) (b L : Nat) (xs : Nat → Int32) : Prop :=
  p.tables.exec = Jvm.exec ∧ c.code = code ∧ meth.sig.returnType = ret ∧ c.maxLocals = 4 ∧ s.vm.findClass R_law = some m.cls ∧ (∀ w ∈ lw_tbl, w.before #[Value.ref b] s = true) ∧ va_X b L xs s s.heap ∧ b < s.heap.size ∧ meth.locks = false ∧ (Jvm.Cond.and given_1 narrow_1).before #[Value.ref b] s = true
def WKL (G : GG) (d sb sl : Nat) (xs : Nat → Int32) (nc ns : Nat) (s : State) (args : Array Value) : Prop := WK G s ∧ args = #[.ref sb] ∧ va_X sb sl xs s s.heap ∧ sb < s.heap.size ∧ (∀ i, i < 75 → s.heap.size ≤ G.2.2.2 i) ∧ G.2.2.2 240 = sb ∧ d ≤ 1000 ∧ nc ≤ 600000 ∧ ns ≤ 7302250
def LX (G : GG) (d sb sl : Nat) (xs : Nat → Int32) (nc ns : Nat) (pc : Nat) (L : List (Option Value)) (st : List Value) (M : PM) : Prop :=
  ∀ (p : Program) (e : Env) (s : State) (m : MethodId) (args : Array Value) (below : List Frame) (meth : Method) (c : Code) (H : Heap) (locs : List Loc) (ls : Array Slot),
    p.tables.exec = Jvm.exec → c.code = code → c.maxLocals = 4 → meth.sig.returnType = ret → meth.locks = false → s.vm.findClass R_law = some m.cls → (∀ w ∈ gw, w.before args s = true) → WKL G d sb sl xs nc ns s args → va_P G.2.1 cls (pws G.2.2.2 G.2.2.1 M) H → va_S (AA G.2.2.2) s.heap H locs → lvH G.2.2.2 ls 4 L →
    W p G.1 e room_1 s m args below meth c H locs nc ns (lw_Z below args s) (F0 m pc ls (st.map (cv G.2.2.2)))
def HL (G : GG) (d sb sl : Nat) (xs : Nat → Int32) (nc ns : Nat) (K : KK) : Prop := ∀ pc L st M, K pc L st M → LX G d sb sl xs nc ns pc L st M
section Y1
variable {G : GG} {d sb sl : Nat} {xs : Nat → Int32} {nc ns : Nat} {pc : Nat} {L : List (Option Value)} {st : List Value} {M : PM}
theorem y_iconst {K : KK} (hK : HL G d sb sl xs nc ns K) {n : Int} {kv : Int32} (hv : Int32.ofInt n = kv) (hd : decode code pc = .ok (.iconst n, 1)) (h : K (pc + 1) L (.int kv :: st) M) : LX G d sb sl xs nc ns pc L st M := by
  intro p e s m args below meth c H locs ls hx hb hml hr hk hown hts hW hP hS hl
  exact lv_iconst hx hb hd hv (hK _ _ _ _ h p e s m args below meth c H locs ls hx hb hml hr hk hown hts hW hP hS hl)
theorem y_bipush {K : KK} (hK : HL G d sb sl xs nc ns K) {n : Int} {kv : Int32} (hv : (Int8.ofInt n).toInt32 = kv) (hd : decode code pc = .ok (.bipush n, 2)) (h : K (pc + 2) L (.int kv :: st) M) : LX G d sb sl xs nc ns pc L st M := by
  intro p e s m args below meth c H locs ls hx hb hml hr hk hown hts hW hP hS hl
  exact lv_bipush hx hb hd hv (hK _ _ _ _ h p e s m args below meth c H locs ls hx hb hml hr hk hown hts hW hP hS hl)
theorem y_aload_n {K : KK} (hK : HL G d sb sl xs nc ns K) {k : Fin 4} (hd : decode code pc = .ok (.aload_n k, 1)) (h : gR (lg L (k : Nat)) (fun x => K (pc + 1) L (.ref x :: st) M)) : LX G d sb sl xs nc ns pc L st M := by
  intro p e s m args below meth c H locs ls hx hb hml hr hk hown hts hW hP hS hl
  obtain ⟨x, e1, h1⟩ := gR_inv h
  exact lv_aload_n hx hb hd rfl (hl.2.2 _ _ e1) (hK _ _ _ _ h1 p e s m args below meth c H locs ls hx hb hml hr hk hown hts hW hP hS hl)
theorem y_iload_n {K : KK} (hK : HL G d sb sl xs nc ns K) {k : Fin 4} (hd : decode code pc = .ok (.iload_n k, 1)) (h : gI (lg L (k : Nat)) (fun x => K (pc + 1) L (.int x :: st) M)) : LX G d sb sl xs nc ns pc L st M := by
  intro p e s m args below meth c H locs ls hx hb hml hr hk hown hts hW hP hS hl
  obtain ⟨x, e1, h1⟩ := gI_inv h
  exact lv_iload_n hx hb hd rfl (hl.2.2 _ _ e1) (hK _ _ _ _ h1 p e s m args below meth c H locs ls hx hb hml hr hk hown hts hW hP hS hl)
theorem y_istore_n {K : KK} (hK : HL G d sb sl xs nc ns K) {k : Fin 4} (hd : decode code pc = .ok (.istore_n k, 1)) (h : p1 st (fun x r => gd (Nat.blt (k : Nat) 4) (K (pc + 1) (stL L (k : Nat) (.int x)) r M))) : LX G d sb sl xs nc ns pc L st M := by
  intro p e s m args below meth c H locs ls hx hb hml hr hk hown hts hW hP hS hl
  obtain ⟨x, r, rfl, h1⟩ := p1_inv h
  obtain ⟨hk1, h1⟩ := gd_inv h1
  exact lv_istore_n hx hb hd rfl hl.has (Nat.le_of_ble_eq_true hk1) rfl (fun ls2 hl2 => hK _ _ _ _ (h1) p e s m args below meth c H locs ls2 hx hb hml hr hk hown hts hW hP hS (lvH.st1 hl2))
theorem y_iinc {K : KK} (hK : HL G d sb sl xs nc ns K) {k : Nat} {n : Int} {kv : Int32} (hv : Int32.ofInt n = kv) (hd : decode code pc = .ok (.iinc k n, 3)) (h : gI (lg L k) (fun x => gd (Nat.blt k 4) (K (pc + 3) (stL L k (.int (x + kv))) st M))) : LX G d sb sl xs nc ns pc L st M := by
  intro p e s m args below meth c H locs ls hx hb hml hr hk hown hts hW hP hS hl
  obtain ⟨x, e1, h1⟩ := gI_inv h
  obtain ⟨hk1, h1⟩ := gd_inv h1
  obtain ⟨j, hj⟩ := List.mem_iff_getElem?.mp (cvl_mem (ad := G.2.2.2) e1)
  exact lv_iinc hx hb hd hl.has (k := j) hj (by rw [hv]) (Nat.le_of_ble_eq_true hk1) rfl (fun ls2 hl2 => hK _ _ _ _ (h1) p e s m args below meth c H locs ls2 hx hb hml hr hk hown hts hW hP hS (lvH.st1 hl2))
theorem y_iadd {K : KK} (hK : HL G d sb sl xs nc ns K) (hd : decode code pc = .ok (.iadd, 1)) (h : p2 st (fun a b r => K (pc + 1) L (.int (a + b) :: r) M)) : LX G d sb sl xs nc ns pc L st M := by
  intro p e s m args below meth c H locs ls hx hb hml hr hk hown hts hW hP hS hl
  obtain ⟨a, b, r, rfl, h1⟩ := p2_inv h
  exact lv_iadd hx hb hd (hK _ _ _ _ h1 p e s m args below meth c H locs ls hx hb hml hr hk hown hts hW hP hS hl)
theorem y_isub {K : KK} (hK : HL G d sb sl xs nc ns K) (hd : decode code pc = .ok (.isub, 1)) (h : p2 st (fun a b r => K (pc + 1) L (.int (a - b) :: r) M)) : LX G d sb sl xs nc ns pc L st M := by
  intro p e s m args below meth c H locs ls hx hb hml hr hk hown hts hW hP hS hl
  obtain ⟨a, b, r, rfl, h1⟩ := p2_inv h
  exact lv_isub hx hb hd (hK _ _ _ _ h1 p e s m args below meth c H locs ls hx hb hml hr hk hown hts hW hP hS hl)
theorem y_iand {K : KK} (hK : HL G d sb sl xs nc ns K) (hd : decode code pc = .ok (.iand, 1)) (h : p2 st (fun a b r => K (pc + 1) L (.int (a &&& b) :: r) M)) : LX G d sb sl xs nc ns pc L st M := by
  intro p e s m args below meth c H locs ls hx hb hml hr hk hown hts hW hP hS hl
  obtain ⟨a, b, r, rfl, h1⟩ := p2_inv h
  exact lv_iand hx hb hd (hK _ _ _ _ h1 p e s m args below meth c H locs ls hx hb hml hr hk hown hts hW hP hS hl)
theorem y_i2l {K : KK} (hK : HL G d sb sl xs nc ns K) (hd : decode code pc = .ok (.i2l, 1)) (h : p1 st (fun a r => K (pc + 1) L (.long a.toInt64 :: r) M)) : LX G d sb sl xs nc ns pc L st M := by
  intro p e s m args below meth c H locs ls hx hb hml hr hk hown hts hW hP hS hl
  obtain ⟨a, r, rfl, h1⟩ := p1_inv h
  exact lv_i2l hx hb hd rfl (hK _ _ _ _ h1 p e s m args below meth c H locs ls hx hb hml hr hk hown hts hW hP hS hl)
theorem y_lshl {K : KK} (hK : HL G d sb sl xs nc ns K) (hd : decode code pc = .ok (.lshl, 1)) (h : qi st (fun a b r => K (pc + 1) L (.long (a <<< (b.toInt64 &&& 63)) :: r) M)) : LX G d sb sl xs nc ns pc L st M := by
  intro p e s m args below meth c H locs ls hx hb hml hr hk hown hts hW hP hS hl
  obtain ⟨a, b, r, rfl, h1⟩ := qi_inv h
  exact lv_lshl hx hb hd rfl (hK _ _ _ _ h1 p e s m args below meth c H locs ls hx hb hml hr hk hown hts hW hP hS hl)
theorem y_land {K : KK} (hK : HL G d sb sl xs nc ns K) (hd : decode code pc = .ok (.land, 1)) (h : q2 st (fun a b r => K (pc + 1) L (.long (a &&& b) :: r) M)) : LX G d sb sl xs nc ns pc L st M := by
  intro p e s m args below meth c H locs ls hx hb hml hr hk hown hts hW hP hS hl
  obtain ⟨a, b, r, rfl, h1⟩ := q2_inv h
  exact lv_land hx hb hd (hK _ _ _ _ h1 p e s m args below meth c H locs ls hx hb hml hr hk hown hts hW hP hS hl)
theorem y_lor {K : KK} (hK : HL G d sb sl xs nc ns K) (hd : decode code pc = .ok (.lor, 1)) (h : q2 st (fun a b r => K (pc + 1) L (.long (a ||| b) :: r) M)) : LX G d sb sl xs nc ns pc L st M := by
  intro p e s m args below meth c H locs ls hx hb hml hr hk hown hts hW hP hS hl
  obtain ⟨a, b, r, rfl, h1⟩ := q2_inv h
  exact lv_lor hx hb hd (hK _ _ _ _ h1 p e s m args below meth c H locs ls hx hb hml hr hk hown hts hW hP hS hl)
theorem y_lcmp {K : KK} (hK : HL G d sb sl xs nc ns K) (hd : decode code pc = .ok (.lcmp, 1)) (h : q2 st (fun a b r => K (pc + 1) L (.int (lg_cmp a b) :: r) M)) : LX G d sb sl xs nc ns pc L st M := by
  intro p e s m args below meth c H locs ls hx hb hml hr hk hown hts hW hP hS hl
  obtain ⟨a, b, r, rfl, h1⟩ := q2_inv h
  exact W.lcmp hx hb hd (hK _ _ _ _ h1 p e s m args below meth c H locs ls hx hb hml hr hk hown hts hW hP hS hl)
theorem y_ifCond {K : KK} (hK : HL G d sb sl xs nc ns K) {cc : ClassFile.Cond} {f : Int} {tg : List Nat} (hv : (pc : Int) + f = ((tg.getD 0 0 : Nat) : Int)) (hd : decode code pc = .ok (.ifCond cc f, 3)) (h : p1 st (fun a r => bz cc a (K (tg.getD 0 0) L r M) (K (pc + 3) L r M))) : LX G d sb sl xs nc ns pc L st M := by
  intro p e s m args below meth c H locs ls hx hb hml hr hk hown hts hW hP hS hl
  obtain ⟨a, r, rfl, h1⟩ := p1_inv h
  cases cc with
  | eq => exact lv_if_eq hx hb hd hv (fun q => hK _ _ _ _ (h1.1 q) p e s m args below meth c H locs ls hx hb hml hr hk hown hts hW hP hS hl) (fun q => hK _ _ _ _ (h1.2 q) p e s m args below meth c H locs ls hx hb hml hr hk hown hts hW hP hS hl)
  | ne => exact lv_if_ne hx hb hd hv (fun q => hK _ _ _ _ (h1.2 q) p e s m args below meth c H locs ls hx hb hml hr hk hown hts hW hP hS hl) (fun q => hK _ _ _ _ (h1.1 q) p e s m args below meth c H locs ls hx hb hml hr hk hown hts hW hP hS hl)
  | lt => exact lv_if_lt hx hb hd hv (fun q => hK _ _ _ _ (h1.1 q) p e s m args below meth c H locs ls hx hb hml hr hk hown hts hW hP hS hl) (fun q => hK _ _ _ _ (h1.2 q) p e s m args below meth c H locs ls hx hb hml hr hk hown hts hW hP hS hl)
  | ge => exact lv_if_ge hx hb hd hv (fun q => hK _ _ _ _ (h1.1 q) p e s m args below meth c H locs ls hx hb hml hr hk hown hts hW hP hS hl) (fun q => hK _ _ _ _ (h1.2 q) p e s m args below meth c H locs ls hx hb hml hr hk hown hts hW hP hS hl)
  | gt => exact lv_if_gt hx hb hd hv (fun q => hK _ _ _ _ (h1.1 q) p e s m args below meth c H locs ls hx hb hml hr hk hown hts hW hP hS hl) (fun q => hK _ _ _ _ (h1.2 q) p e s m args below meth c H locs ls hx hb hml hr hk hown hts hW hP hS hl)
  | le => exact lv_if_le hx hb hd hv (fun q => hK _ _ _ _ (h1.1 q) p e s m args below meth c H locs ls hx hb hml hr hk hown hts hW hP hS hl) (fun q => hK _ _ _ _ (h1.2 q) p e s m args below meth c H locs ls hx hb hml hr hk hown hts hW hP hS hl)
theorem y_if_icmp {K : KK} (hK : HL G d sb sl xs nc ns K) {cc : ClassFile.Cond} {f : Int} {tg : List Nat} (hv : (pc : Int) + f = ((tg.getD 0 0 : Nat) : Int)) (hd : decode code pc = .ok (.if_icmp cc f, 3)) (h : p2 st (fun a b r => bc cc a b (K (tg.getD 0 0) L r M) (K (pc + 3) L r M))) : LX G d sb sl xs nc ns pc L st M := by
  intro p e s m args below meth c H locs ls hx hb hml hr hk hown hts hW hP hS hl
  obtain ⟨a, b, r, rfl, h1⟩ := p2_inv h
  cases cc with
  | eq => exact lv_icmp_eq hx hb hd hv (fun q => hK _ _ _ _ (h1.1 q) p e s m args below meth c H locs ls hx hb hml hr hk hown hts hW hP hS hl) (fun q => hK _ _ _ _ (h1.2 q) p e s m args below meth c H locs ls hx hb hml hr hk hown hts hW hP hS hl)
  | ne => exact lv_icmp_ne hx hb hd hv (fun q => hK _ _ _ _ (h1.2 q) p e s m args below meth c H locs ls hx hb hml hr hk hown hts hW hP hS hl) (fun q => hK _ _ _ _ (h1.1 q) p e s m args below meth c H locs ls hx hb hml hr hk hown hts hW hP hS hl)
  | lt => exact lv_icmp_lt hx hb hd hv (fun q => hK _ _ _ _ (h1.1 q) p e s m args below meth c H locs ls hx hb hml hr hk hown hts hW hP hS hl) (fun q => hK _ _ _ _ (h1.2 q) p e s m args below meth c H locs ls hx hb hml hr hk hown hts hW hP hS hl)
  | ge => exact lv_icmp_ge hx hb hd hv (fun q => hK _ _ _ _ (h1.1 q) p e s m args below meth c H locs ls hx hb hml hr hk hown hts hW hP hS hl) (fun q => hK _ _ _ _ (h1.2 q) p e s m args below meth c H locs ls hx hb hml hr hk hown hts hW hP hS hl)
  | gt => exact lv_icmp_gt hx hb hd hv (fun q => hK _ _ _ _ (h1.1 q) p e s m args below meth c H locs ls hx hb hml hr hk hown hts hW hP hS hl) (fun q => hK _ _ _ _ (h1.2 q) p e s m args below meth c H locs ls hx hb hml hr hk hown hts hW hP hS hl)
  | le => exact lv_icmp_le hx hb hd hv (fun q => hK _ _ _ _ (h1.1 q) p e s m args below meth c H locs ls hx hb hml hr hk hown hts hW hP hS hl) (fun q => hK _ _ _ _ (h1.2 q) p e s m args below meth c H locs ls hx hb hml hr hk hown hts hW hP hS hl)
theorem y_goto {K : KK} (hK : HL G d sb sl xs nc ns K) {f : Int} {tg : List Nat} (hv : (pc : Int) + f = ((tg.getD 0 0 : Nat) : Int)) (hd : decode code pc = .ok (.goto f, 3)) (h : K (tg.getD 0 0) L st M) : LX G d sb sl xs nc ns pc L st M := by
  intro p e s m args below meth c H locs ls hx hb hml hr hk hown hts hW hP hS hl
  exact lv_goto hx hb hd hv (hK _ _ _ _ h p e s m args below meth c H locs ls hx hb hml hr hk hown hts hW hP hS hl)
theorem y_tableswitch {K : KK} (hK : HL G d sb sl xs nc ns K) {df lo hi : Int} {os : Array Int} {ln : Nat} {tg : List Nat} (hv : tg.map (fun t : Nat => (t : Int) - (pc : Int)) = df :: os.toList) (hs : (os.size : Int) = hi - lo + 1) (hd : decode code pc = .ok (.tableswitch df lo hi os, ln)) (h : p1 st (fun a r => swt (fun t => K t L r M) a lo hi (tg.getD 0 0) lo tg.tail)) : LX G d sb sl xs nc ns pc L st M := by
  intro p e s m args below meth c H locs ls hx hb hml hr hk hown hts hW hP hS hl
  obtain ⟨a, r, rfl, h1⟩ := p1_inv h
  cases tg with
  | nil => cases hv
  | cons t0 ts =>
    simp only [List.map_cons, List.cons.injEq] at hv
    obtain ⟨e1, e2⟩ := hv
    by_cases ho : a.toInt < lo ∨ hi < a.toInt
    · exact lv_tableOut hx hb hd ho (tgt := t0) (by omega) (hK _ _ _ _ (swt_out ho lo ts h1) p e s m args below meth c H locs ls hx hb hml hr hk hown hts hW hP hS hl)
    · have hlo : ¬ a.toInt < lo := fun q => ho (Or.inl q)
      have hhi : ¬ hi < a.toInt := fun q => ho (Or.inr q)
      have hj : (a.toInt - lo).toNat < os.toList.length := by rw [Array.length_toList]; omega
      have hj2 : (a.toInt - lo).toNat < ts.length := by rw [← e2] at hj; simpa using hj
      have hk1 : ts[(a.toInt - lo).toNat]? = some ts[(a.toInt - lo).toNat] := List.getElem?_eq_getElem hj2
      have ho2 : os[(a.toInt - lo).toNat]? = some ((ts[(a.toInt - lo).toNat] : Int) - (pc : Int)) := by
        rw [← Array.getElem?_toList, ← e2, List.getElem?_map, hk1]; rfl
      exact lv_tableIn hx hb hd hlo hhi ho2 (tgt := ts[(a.toInt - lo).toNat]) (by omega) (hK _ _ _ _ (swt_in lo ts (a.toInt - lo).toNat _ h1 (by omega) hk1) p e s m args below meth c H locs ls hx hb hml hr hk hown hts hW hP hS hl)
theorem WKL.out {s : State} {args : Array Value} (h : WKL G d sb sl xs nc ns s args) : ¬ AA G.2.2.2 sb := by
  rintro ⟨i, hi, e⟩
  have := h.2.2.2.2.1 i hi
  have h2 := h.2.2.2.1
  omega
theorem y_iaload {K : KK} (hK : HL G d sb sl xs nc ns K) (hd : decode code pc = .ok (.iaload, 1)) (h : p1 st (fun i st1 => r1 st1 (fun a r => gd (Nat.beq a 240) (vp_in i sl ∧ K (pc + 1) L (.int (xs i.toNatClampNeg) :: r) M)))) : LX G d sb sl xs nc ns pc L st M := by
  intro p e s m args below meth c H locs ls hx hb hml hr hk hown hts hW hP hS hl
  obtain ⟨i, st1, rfl, hA⟩ := p1_inv h
  obtain ⟨a, r, rfl, hB⟩ := r1_inv hA
  obtain ⟨e0, h1, h2⟩ := gd_inv hB
  have e0 := Nat.eq_of_beq_eq_true e0
  subst e0
  have h3 := va_sld (xs := xs) (rest := r.map (cv G.2.2.2)) hx hb hW.2.2.1 hW.2.2.2.1 hW.out hS h1 hd (hK _ _ _ _ h2 p e s m args below meth c H locs ls hx hb hml hr hk hown hts hW hP hS hl)
  rw [← hW.2.2.2.2.2.1] at h3
  exact h3
theorem y_arraylength {K : KK} (hK : HL G d sb sl xs nc ns K) (hd : decode code pc = .ok (.arraylength, 1)) (h : r1 st (fun a r => gd (Nat.beq a 240) (K (pc + 1) L (.int (Int32.ofNat sl) :: r) M))) : LX G d sb sl xs nc ns pc L st M := by
  intro p e s m args below meth c H locs ls hx hb hml hr hk hown hts hW hP hS hl
  obtain ⟨a, r, rfl, hB⟩ := r1_inv h
  obtain ⟨e0, h2⟩ := gd_inv hB
  have e0 := Nat.eq_of_beq_eq_true e0
  subst e0
  have h3 := va_slen (rest := r.map (cv G.2.2.2)) hx hb hW.2.2.1 hW.2.2.2.1 hW.out hS hd (hK _ _ _ _ h2 p e s m args below meth c H locs ls hx hb hml hr hk hown hts hW hP hS hl)
  rw [← hW.2.2.2.2.2.1] at h3
  exact h3
theorem y_ldc2_w {K : KK} (hK : HL G d sb sl xs nc ns K) (hd : decode code pc = .ok (.ldc2_w 13, 3)) (h : K (pc + 3) L (.long 4294967295 :: st) M) : LX G d sb sl xs nc ns pc L st M := by
  intro p e s m args below meth c H locs ls hx hb hml hr hk hown hts hW hP hS hl
  exact lv_ldc2 hx hb hown (hts _ lawk13) hd (hK _ _ _ _ h p e s m args below meth c H locs ls hx hb hml hr hk hown hts hW hP hS hl)
theorem y_ireturn (hd : decode code pc = .ok (.ireturn, 1)) (h : st = [.int 1]) : LX G d sb sl xs nc ns pc L st M := by
  intro p e s m args below meth c H locs ls hx hb hml hr hk hown hts hW hP hS hl
  subst h
  obtain ⟨-, rfl, -, -, hge, -, -, h8, h9⟩ := hW
  refine va_forget (fun q hq => ?_) ?_
  · obtain ⟨i, hi, e1⟩ := hS.2.2 q hq
    rw [e1]; exact hge i hi
  · refine W.widen (k := 600000) (n := 7302250) h8 h9 ?_
    exact lw_ret hx hb hr hk hd
theorem y_back {p : Program} {e : Env} {s : State} {m : MethodId} {args : Array Value} {below : List Frame} {meth : Method} {c : Code} {H : Heap} {locs : List Loc} {ls : Array Slot} {a : Array Value} {st0 rest : List Value} {Q : State → Prop} {P2 : Option Value → PM → Prop}
    (hr : va_Run p G.1 e room_1 s m args below meth c H locs nc ns 0 0 (F0 m pc ls st0) rest (Qp G P2 a) (AA G.2.2.2)) (hS : va_S (AA G.2.2.2) s.heap H locs)
    (kk : ∀ (v : Option Value) (M2 : PM) (H1 : Heap) (locs1 : List Loc), P2 v M2 → va_P G.2.1 cls (pws G.2.2.2 G.2.2.1 M2) H1 → va_S (AA G.2.2.2) s.heap H1 locs1 → W p G.1 e room_1 s m args below meth c H1 locs1 nc ns Q (F0 m (pc + 3) ls ((v.map (cv G.2.2.2)).toList ++ rest))) :
    W p G.1 e room_1 s m args below meth c H locs nc ns Q (F0 m pc ls st0) := by
  intro T hT X
  obtain ⟨v, st₀, t, T', L, h0, X', hL, e1, e2, ⟨⟨r, M2, hv, hp, hP2⟩, hz, hk⟩, stp⟩ := hr T hT X
  rw [h0] at hz hk
  cases hv
  rw [← e1] at hP2 hz hk
  obtain ⟨t2, a1, b1⟩ := kk r M2 T'.heap (locs ++ L) hp hP2 ⟨Nat.le_trans hS.1 hz, fun q h1 h2 => by rw [hk q (Nat.lt_of_lt_of_le h1 hS.1) h2]; exact hS.2.1 q h1 h2, fun q hq => by
      rcases List.mem_append.mp hq with h | h
      · exact hS.2.2 q h
      · exact hL q h⟩ T' rfl X'
  exact ⟨t2, stp t2 a1, b1⟩
theorem y_invokevirtual {K : KK} (hK : HL G d sb sl xs nc ns K) {idx : Nat} (hd : decode code pc = .ok (.invokevirtual idx, 3)) (h : match lkp lawcl idx with
    | some μ2 => gd (!μ2.2.2.2.2.2.1) (r1 (st.drop μ2.2.2.2.2.2.2) (fun a r => gd (Nat.ble (csum r) 8 && recv a μ2.1) (PC G d μ2 (.ref a :: (st.take μ2.2.2.2.2.2.2).reverse) M (rk μ2.2.2.2.2.1 K (pc + 3) L r))))
    | none => False) : LX G d sb sl xs nc ns pc L st M := by
  intro p e s m args below meth c H locs ls hx hb hml hr hk hown hts hW hP hS hl
  cases hc : lkp lawcl idx with
  | none => rw [hc] at h; exact h.elim
  | some μ2 =>
    rw [hc] at h
    obtain ⟨hst, h2⟩ := gd_inv h
    obtain ⟨a, r, hdr, h3⟩ := r1_inv h2
    obtain ⟨hb8, hm, hM⟩ := gd_inv h3
    simp only [Bool.and_eq_true] at hb8
    have hlink : Cond.methodLink R_law idx μ2.2.1 ∈ gw := lawcl_ok _ (lkp_mem hc)
    have hstat : μ2.2.2.2.2.2.1 = false := by simpa using hst
    have hlast := hm.2.2.2.2.2.2
    rw [if_neg (by rw [hstat]; decide)] at hlast
    have hsplit : st = (st.take μ2.2.2.2.2.2.2) ++ .ref a :: r := by rw [← hdr]; exact (List.take_append_drop _ _).symm
    have hlen : (st.take μ2.2.2.2.2.2.2).length = μ2.2.2.2.2.2.2 := by
      have : (st.drop μ2.2.2.2.2.2.2).length = r.length + 1 := by rw [hdr]; rfl
      rw [List.length_drop] at this
      rw [List.length_take]; omega
    have hrecv : ∃ cellB : Cell, H[G.2.2.2 a]? = some cellB ∧ cellB.vm.isStatics = false ∧ s.vm.findClass μ2.2.1.cls = some cellB.cls := by
      have h4 := hb8.2
      have str : (Nat.beq μ2.1 13 && Nat.ble 210 a && Nat.ble a 212) = true → ∃ cellB : Cell, H[G.2.2.2 a]? = some cellB ∧ cellB.vm.isStatics = false ∧ s.vm.findClass μ2.2.1.cls = some cellB.cls := by
        intro h5
        simp only [Bool.and_eq_true] at h5
        have e13 := Nat.eq_of_beq_eq_true h5.1.1
        have a1 := Nat.le_of_ble_eq_true h5.1.2
        have a2 := Nat.le_of_ble_eq_true h5.2
        have h6 := vk_recv (i := a - 210) hW.1.2.2.1.2.2.2.2.2.2 (by omega) hS
        have z1 : 210 + (a - 210) = a := by omega
        simp only [z1] at h6
        rw [← hm.2.2.1, e13]
        exact h6
      unfold recv at h4
      cases hs : shp[a]? with
      | none => rw [hs] at h4; exact str h4
      | some sh =>
        cases sh with
        | inl z => rw [hs] at h4; exact str h4
        | inr z =>
          obtain ⟨ci, ks⟩ := z
          rw [hs] at h4
          have e5 : ci = μ2.1 := Nat.eq_of_beq_eq_true h4
          subst e5
          have hci : μ2.1 < 10 := by
            have h7 := List.all_eq_true.mp shp_ci _ (List.mem_of_getElem? hs)
            simpa using h7
          have h8 := va_recv hW.1.1 hP (fcl_get hci) (pws_get hs)
          rw [← hm.2.2.1, show nmo μ2.1 = (fcl μ2.1).1 from nmo_fcl hci]
          exact h8
    have hpre := x_pre (p := p) (av := .ref a :: (st.take μ2.2.2.2.2.2.2).reverse) hW.1 hP hS
    have cb : CallB room_1 s args R_law idx μ2.2.1 μ2.2.2.1 μ2.2.2.2.1 μ2.2.2.2.2.1 (mcode μ2 :: gw) (rmd d) 0 0 μ2.2.2.2.2.2.2 :=
      callB_of μ2.2.2.2.2.2.2 hts (gw_in hm) rfl rfl rfl (hts _ hm.2.1) (hts _ hlink) hm.2.2.2.1 ⟨by have := hW.2.2.2.2.2.2.1; show d + 1 ≤ 2048; omega, by have := hm.2.2.2.2.1; have := hW.2.2.2.2.2.2.1; show 8 + (μ2.2.2.2.1 + 11) + 64 * d ≤ 84000; omega⟩
    refine y_back (va_runV (As := ((st.take μ2.2.2.2.2.2.2).reverse).map (cv G.2.2.2)) (rest := r.map (cv G.2.2.2)) (b := G.2.2.2 a) (C := μ2.2.1.cls) (bytes := μ2.2.2.1) (maxL := μ2.2.2.2.1) (ret := μ2.2.2.2.2.1) (n := μ2.2.2.2.2.2.2) (own := R_law) ⟨hx, hb, hml, hown, hts⟩ hM ⟨cb, hts _ hlast.1, hts _ hlast.2⟩ ⟨hpre.1, hrecv, hpre.2⟩ rfl (by rw [List.length_map, List.length_reverse]; exact hlen) hl.1 ?_ ?_ hd ⟨hW.2.2.2.2.2.2.2.1, hW.2.2.2.2.2.2.2.2⟩) hS ?_
    · show st.map (cv G.2.2.2) = _
      rw [← List.map_reverse, List.reverse_reverse]
      conv => lhs; rw [hsplit]
      rw [List.map_append]; rfl
    · show 2 * 0 + _ ≤ 8
      have := Nat.le_of_ble_eq_true hb8.1
      rw [csum_cv]; omega
    · intro v M2 H1 locs1 hp hP1 hS1
      have h9 := hK _ _ _ _ (rk_inv hp) p e s m args below meth c H1 locs1 ls hx hb hml hr hk hown hts hW hP1 hS1 hl
      rw [List.map_append] at h9
      cases v <;> exact h9
end Y1
def st1L (G : GG) (d sl : Nat) (xs : Nat → Int32) (i : Instr) (tg : List Nat) (kv : Int32) (pc : Nat) (L : List (Option Value)) (st : List Value) (M : PM) (K : KK) : Prop := match i with
  | .iconst _ => K (pc + 1) L (.int kv :: st) M
  | .bipush _ => K (pc + 2) L (.int kv :: st) M
  | .aload_n k => gR (lg L (k : Nat)) (fun x => K (pc + 1) L (.ref x :: st) M)
  | .iload_n k => gI (lg L (k : Nat)) (fun x => K (pc + 1) L (.int x :: st) M)
  | .istore_n k => p1 st (fun x r => gd (Nat.blt (k : Nat) 4) (K (pc + 1) (stL L (k : Nat) (.int x)) r M))
  | .iinc k _ => gI (lg L k) (fun x => gd (Nat.blt k 4) (K (pc + 3) (stL L k (.int (x + kv))) st M))
  | .iadd => p2 st (fun a b r => K (pc + 1) L (.int (a + b) :: r) M)
  | .isub => p2 st (fun a b r => K (pc + 1) L (.int (a - b) :: r) M)
  | .iand => p2 st (fun a b r => K (pc + 1) L (.int (a &&& b) :: r) M)
  | .i2l => p1 st (fun a r => K (pc + 1) L (.long a.toInt64 :: r) M)
  | .lshl => qi st (fun a b r => K (pc + 1) L (.long (a <<< (b.toInt64 &&& 63)) :: r) M)
  | .land => q2 st (fun a b r => K (pc + 1) L (.long (a &&& b) :: r) M)
  | .lor => q2 st (fun a b r => K (pc + 1) L (.long (a ||| b) :: r) M)
  | .lcmp => q2 st (fun a b r => K (pc + 1) L (.int (lg_cmp a b) :: r) M)
  | .ifCond c _ => p1 st (fun a r => bz c a (K (tg.getD 0 0) L r M) (K (pc + 3) L r M))
  | .if_icmp c _ => p2 st (fun a b r => bc c a b (K (tg.getD 0 0) L r M) (K (pc + 3) L r M))
  | .goto _ => K (tg.getD 0 0) L st M
  | .tableswitch _ lo hi _ => p1 st (fun a r => swt (fun t => K t L r M) a lo hi (tg.getD 0 0) lo tg.tail)
  | .iaload => p1 st (fun i st1 => r1 st1 (fun a r => gd (Nat.beq a 240) (vp_in i sl ∧ K (pc + 1) L (.int (xs i.toNatClampNeg) :: r) M)))
  | .arraylength => r1 st (fun a r => gd (Nat.beq a 240) (K (pc + 1) L (.int (Int32.ofNat sl) :: r) M))
  | .ldc2_w idx => gd (Nat.beq idx 13) (K (pc + 3) L (.long 4294967295 :: st) M)
  | .invokevirtual idx => (match lkp lawcl idx with
    | some μ2 => gd (!μ2.2.2.2.2.2.1) (r1 (st.drop μ2.2.2.2.2.2.2) (fun a r => gd (Nat.ble (csum r) 8 && recv a μ2.1) (PC G d μ2 (.ref a :: (st.take μ2.2.2.2.2.2.2).reverse) M (rk μ2.2.2.2.2.1 K (pc + 3) L r))))
    | none => False)
  | .ireturn => st = [.int 1]
  | _ => False
def rchkL (pc : Nat) (i : Instr) (ln : Nat) (tg : List Nat) (kv : Int32) : Bool := match i with
  | .iconst n => Nat.beq ln 1 && decide (Int32.ofInt n = kv)
  | .bipush n => Nat.beq ln 2 && decide ((Int8.ofInt n).toInt32 = kv)
  | .iinc _ n => Nat.beq ln 3 && decide (Int32.ofInt n = kv)
  | .ifCond _ f => Nat.beq ln 3 && decide ((pc : Int) + f = ((tg.getD 0 0 : Nat) : Int))
  | .if_icmp _ f => Nat.beq ln 3 && decide ((pc : Int) + f = ((tg.getD 0 0 : Nat) : Int))
  | .goto f => Nat.beq ln 3 && decide ((pc : Int) + f = ((tg.getD 0 0 : Nat) : Int))
  | .tableswitch df lo hi os => decide (tg.map (fun t : Nat => (t : Int) - (pc : Int)) = df :: os.toList) && decide ((os.size : Int) = hi - lo + 1)
  | .invokevirtual _ => Nat.beq ln 3
  | .ldc2_w _ => Nat.beq ln 3
  | _ => Nat.beq ln 1
theorem st1L_ok {G : GG} {d sb sl : Nat} {xs : Nat → Int32} {nc ns : Nat} {K : KK} (hK : HL G d sb sl xs nc ns K) {pc : Nat} {L : List (Option Value)} {st : List Value} {M : PM} {i : Instr} {ln : Nat} {tg : List Nat} {kv : Int32} (hd : decode code pc = .ok (i, ln)) (hc : rchkL pc i ln tg kv = true) (h : st1L G d sl xs i tg kv pc L st M K) : LX G d sb sl xs nc ns pc L st M := by
  cases i with
  | aload_n k => have e1 := Nat.eq_of_beq_eq_true hc; subst e1; exact y_aload_n hK hd h
  | iload_n k => have e1 := Nat.eq_of_beq_eq_true hc; subst e1; exact y_iload_n hK hd h
  | istore_n k => have e1 := Nat.eq_of_beq_eq_true hc; subst e1; exact y_istore_n hK hd h
  | iadd => have e1 := Nat.eq_of_beq_eq_true hc; subst e1; exact y_iadd hK hd h
  | isub => have e1 := Nat.eq_of_beq_eq_true hc; subst e1; exact y_isub hK hd h
  | iand => have e1 := Nat.eq_of_beq_eq_true hc; subst e1; exact y_iand hK hd h
  | i2l => have e1 := Nat.eq_of_beq_eq_true hc; subst e1; exact y_i2l hK hd h
  | lshl => have e1 := Nat.eq_of_beq_eq_true hc; subst e1; exact y_lshl hK hd h
  | land => have e1 := Nat.eq_of_beq_eq_true hc; subst e1; exact y_land hK hd h
  | lor => have e1 := Nat.eq_of_beq_eq_true hc; subst e1; exact y_lor hK hd h
  | lcmp => have e1 := Nat.eq_of_beq_eq_true hc; subst e1; exact y_lcmp hK hd h
  | iaload => have e1 := Nat.eq_of_beq_eq_true hc; subst e1; exact y_iaload hK hd h
  | arraylength => have e1 := Nat.eq_of_beq_eq_true hc; subst e1; exact y_arraylength hK hd h
  | invokevirtual k => have e1 := Nat.eq_of_beq_eq_true hc; subst e1; exact y_invokevirtual hK hd h
  | ireturn => have e1 := Nat.eq_of_beq_eq_true hc; subst e1; exact y_ireturn hd h
  | ldc2_w k => have e1 := Nat.eq_of_beq_eq_true hc; subst e1; have h1 := gd_inv h; have e2 := Nat.eq_of_beq_eq_true h1.1; subst e2; exact y_ldc2_w hK hd h1.2
  | iconst n => simp only [rchkL, Bool.and_eq_true, decide_eq_true_eq] at hc; have e1 := Nat.eq_of_beq_eq_true hc.1; subst e1; exact y_iconst hK hc.2 hd h
  | bipush n => simp only [rchkL, Bool.and_eq_true, decide_eq_true_eq] at hc; have e1 := Nat.eq_of_beq_eq_true hc.1; subst e1; exact y_bipush hK hc.2 hd h
  | iinc k n => simp only [rchkL, Bool.and_eq_true, decide_eq_true_eq] at hc; have e1 := Nat.eq_of_beq_eq_true hc.1; subst e1; exact y_iinc hK hc.2 hd h
  | ifCond cc f => simp only [rchkL, Bool.and_eq_true, decide_eq_true_eq] at hc; have e1 := Nat.eq_of_beq_eq_true hc.1; subst e1; exact y_ifCond hK hc.2 hd h
  | if_icmp cc f => simp only [rchkL, Bool.and_eq_true, decide_eq_true_eq] at hc; have e1 := Nat.eq_of_beq_eq_true hc.1; subst e1; exact y_if_icmp hK hc.2 hd h
  | goto f => simp only [rchkL, Bool.and_eq_true, decide_eq_true_eq] at hc; have e1 := Nat.eq_of_beq_eq_true hc.1; subst e1; exact y_goto hK hc.2 hd h
  | tableswitch df lo hi os => simp only [rchkL, Bool.and_eq_true, decide_eq_true_eq] at hc; exact y_tableswitch hK hc.1 hc.2 hd h
  | _ => exact h.elim
def tbokL (tb : List Row) : Bool := tb.all fun q => decide (decode code q.1 = .ok (q.2.1, q.2.2.1)) && rchkL q.1 q.2.1 q.2.2.1 q.2.2.2.1 q.2.2.2.2
def wpL (G : GG) (d sl : Nat) (xs : Nat → Int32) (tb : List Row) (cuts : List (Nat × List Bool)) (K : KK) : Nat → KK
  | 0 => K
  | n + 1 => fun pc L st M => match lkp tb pc with
    | none => False
    | some (i, _, tg, kv) => st1L G d sl xs i tg kv pc L st M (fun pc2 L2 st2 M2 => match lkp cuts pc2 with
      | some ms => K pc2 (msk ms L2) st2 M2
      | none => wpL G d sl xs tb cuts K n pc2 L2 st2 M2)
theorem LX.weak {G : GG} {d sb sl : Nat} {xs : Nat → Int32} {nc ns : Nat} {pc : Nat} {L L2 : List (Option Value)} {st : List Value} {M : PM} (hw : ∀ i v, lg L i = some v → lg L2 i = some v) (h : LX G d sb sl xs nc ns pc L st M) : LX G d sb sl xs nc ns pc L2 st M :=
  fun p e s m args below meth c H locs ls hx hb hml hr hk hown hts hW hP hS hl => h p e s m args below meth c H locs ls hx hb hml hr hk hown hts hW hP hS ⟨hl.1, hl.2.1, fun i v hv => hl.2.2 i v (hw i v hv)⟩
theorem wpL_ok {G : GG} {d sb sl : Nat} {xs : Nat → Int32} {nc ns : Nat} {tb : List Row} (cuts : List (Nat × List Bool)) (ht : tbokL tb = true) : ∀ (n pc : Nat) (L : List (Option Value)) (st : List Value) (M : PM), wpL G d sl xs tb cuts (LX G d sb sl xs nc ns) n pc L st M → LX G d sb sl xs nc ns pc L st M
  | 0, _, _, _, _, h => h
  | n + 1, pc, L, st, M, h => by
    unfold wpL at h
    cases hl : lkp tb pc with
    | none => rw [hl] at h; exact h.elim
    | some q =>
      obtain ⟨i, ln, tg, kv⟩ := q
      rw [hl] at h
      have h1 := List.all_eq_true.mp ht _ (lkp_mem hl)
      simp only [Bool.and_eq_true, decide_eq_true_eq] at h1
      refine st1L_ok (fun pc2 L2 st2 M2 h2 => ?_) h1.1 h1.2 h
      cases hq : lkp cuts pc2 with
      | some ms => rw [hq] at h2; exact LX.weak (fun _ _ => lg_msk) h2
      | none => rw [hq] at h2; exact wpL_ok cuts ht n pc2 L2 st2 M2 h2

