theorem ht1 {i : Nat} {w : Cond} (h0 : tables_1_1[i]? = some w) : w ∈ lw_tbl := by
  have h := List.mem_of_getElem? h0
  have h1 : w ∈ tables_1 := List.mem_append_left _ h
  exact List.mem_append_right _ h1
theorem ht2 {i : Nat} {w : Cond} (h0 : tables_1_2[i]? = some w) : w ∈ lw_tbl := by
  have h := List.mem_of_getElem? h0
  have h1 : w ∈ tables_1 := List.mem_append_right _ (List.mem_append_left _ h)
  exact List.mem_append_right _ h1
theorem ht3 {i : Nat} {w : Cond} (h0 : tables_1_3[i]? = some w) : w ∈ lw_tbl := by
  have h := List.mem_of_getElem? h0
  have h1 : w ∈ tables_1 := List.mem_append_right _ (List.mem_append_right _ (List.mem_append_left _ h))
  exact List.mem_append_right _ h1
theorem ht4 {i : Nat} {w : Cond} (h0 : tables_1_4[i]? = some w) : w ∈ lw_tbl := by
  have h := List.mem_of_getElem? h0
  have h1 : w ∈ tables_1 := List.mem_append_right _ (List.mem_append_right _ (List.mem_append_right _ (List.mem_append_left _ h)))
  exact List.mem_append_right _ h1
theorem ht5 {i : Nat} {w : Cond} (h0 : tables_1_5[i]? = some w) : w ∈ lw_tbl := by
  have h := List.mem_of_getElem? h0
  have h1 : w ∈ tables_1 := List.mem_append_right _ (List.mem_append_right _ (List.mem_append_right _ (List.mem_append_right _ (List.mem_append_left _ h))))
  exact List.mem_append_right _ h1
theorem ht6 {i : Nat} {w : Cond} (h0 : tables_1_6[i]? = some w) : w ∈ lw_tbl := by
  have h := List.mem_of_getElem? h0
  have h1 : w ∈ tables_1 := List.mem_append_right _ (List.mem_append_right _ (List.mem_append_right _ (List.mem_append_right _ (List.mem_append_right _ (h)))))
  exact List.mem_append_right _ h1
theorem ls_0 : Cond.laysStatic "SeesawPark" "KIND_ABOVE" "[I" ∈ lw_tbl := (ht4 (i := 126) rfl)
theorem ls_1 : Cond.laysStatic "SeesawPark" "KIND_MARK" "[I" ∈ lw_tbl := (ht4 (i := 124) rfl)
theorem ls_2 : Cond.laysStatic "java/lang/String" "COMPACT_STRINGS" "Z" ∈ lw_tbl := (ht2 (i := 136) rfl)
theorem ls_3 : Cond.laysStatic "jdk/internal/util/Preconditions" "SIOOBE_FORMATTER" "Ljava/util/function/BiFunction;" ∈ lw_tbl := (ht2 (i := 152) rfl)
theorem sr_98 : Cond.stringRef "SeesawPark$Told" 98 "plank" ∈ lw_tbl := (ht2 (i := 122) rfl)
theorem sr_104 : Cond.stringRef "SeesawPark$Told" 104 "child" ∈ lw_tbl := (ht2 (i := 175) rfl)
theorem sr_106 : Cond.stringRef "SeesawPark$Told" 106 "stone" ∈ lw_tbl := (ht2 (i := 176) rfl)
theorem nw_8_11 : Cond.methodLinkNest "SeesawPark" 11 ⟨"SeesawPark$Roster", "<init>", "()V"⟩ "SeesawPark" ∈ lw_tbl := (ht1 (i := 29) rfl)
theorem nw_8_33 : Cond.methodLinkNest "SeesawPark" 33 ⟨"SeesawPark$Told", "<init>", "()V"⟩ "SeesawPark" ∈ lw_tbl := (ht1 (i := 125) rfl)
theorem nw_6_11 : Cond.methodLinkNest "SeesawPark$Told" 11 ⟨"SeesawPark$Roster", "<init>", "()V"⟩ "SeesawPark" ∈ lw_tbl := (ht1 (i := 130) rfl)
theorem nw_8_40 : Cond.methodLinkNest "SeesawPark" 40 ⟨"SeesawPark$Seating", "<init>", "()V"⟩ "SeesawPark" ∈ lw_tbl := (ht1 (i := 158) rfl)
theorem nw_8_47 : Cond.methodLinkNest "SeesawPark" 47 ⟨"SeesawPark$Crowd", "<init>", "()V"⟩ "SeesawPark" ∈ lw_tbl := (ht1 (i := 195) rfl)
theorem nw_8_54 : Cond.methodLinkNest "SeesawPark" 54 ⟨"SeesawPark$Contest", "<init>", "()V"⟩ "SeesawPark" ∈ lw_tbl := (ht1 (i := 206) rfl)
theorem nw_1_27 : Cond.methodLinkNest "SeesawPark$Crowd" 27 ⟨"SeesawPark", "stepOfSeat", "(II)I"⟩ "SeesawPark" ∈ lw_tbl := (ht3 (i := 152) rfl)
theorem nw_0_45 : Cond.methodLinkNest "SeesawPark$Contest" 45 ⟨"SeesawPark", "stepOfSeat", "(II)I"⟩ "SeesawPark" ∈ lw_tbl := (ht3 (i := 218) rfl)
theorem nest_ok : ∀ q ∈ nestl, Cond.methodLinkNest q.1 q.2.1 q.2.2 "SeesawPark" ∈ lw_tbl := List.forall_mem_cons.mpr ⟨nw_8_11, List.forall_mem_cons.mpr ⟨nw_8_33, List.forall_mem_cons.mpr ⟨nw_6_11, List.forall_mem_cons.mpr ⟨nw_8_40, List.forall_mem_cons.mpr ⟨nw_8_47, List.forall_mem_cons.mpr ⟨nw_8_54, fun _ h => absurd h List.not_mem_nil⟩⟩⟩⟩⟩⟩
abbrev nar1 : Cond := Jvm.Cond.and given_1 narrow_1
theorem gw_tbl {w : Cond} (h : w ∈ gw) : w ∈ lw_tbl := (List.mem_filter.mp h).1
def tmS (i : Nat) : Term := .string "SeesawPark$Told" (if i = 0 then 98 else if i = 1 then 104 else 106)
def kst (n : String) : Term := .static "SeesawPark" n "[I"
theorem fl_kA : ∀ j, j < 6 → Cond.eq (.elem (kst "KIND_ABOVE") (.int (Int32.ofNat j))) (.int (ctA.getD j 0)) ∈ flatC nar1 := by decide +kernel
theorem fl_kM : ∀ j, j < 6 → Cond.eq (.elem (kst "KIND_MARK") (.int (Int32.ofNat j))) (.int (ctM.getD j 0)) ∈ flatC nar1 := by decide +kernel
theorem fl_1 : Cond.arrayOf (kst "KIND_ABOVE") .int ∈ flatC nar1 ∧ Cond.eq (.length (kst "KIND_ABOVE")) (.int 6) ∈ flatC nar1 ∧ Cond.arrayOf (kst "KIND_MARK") .int ∈ flatC nar1 ∧ Cond.eq (.length (kst "KIND_MARK")) (.int 6) ∈ flatC nar1 ∧ Cond.eq (.static "java/lang/String" "COMPACT_STRINGS" "Z") (.int 1) ∈ flatC nar1 ∧ Cond.isRef (.static "jdk/internal/util/Preconditions" "SIOOBE_FORMATTER" "Ljava/util/function/BiFunction;") ∈ flatC nar1 := by decide +kernel
theorem fl_2 : ∀ i, i < 3 → Cond.exactly (tmS i) "java/lang/String" ∈ flatC nar1 ∧ Cond.eq (.field (tmS i) "java/lang/String" "coder" "B") (.int 0) ∈ flatC nar1 ∧ Cond.arrayOf (.field (tmS i) "java/lang/String" "value" "[B") .byte ∈ flatC nar1 ∧ Cond.eq (.length (.field (tmS i) "java/lang/String" "value" "[B")) (.int (Int32.ofNat (([5, 5, 5] : List Nat).getD i 0))) ∈ flatC nar1 := by decide +kernel
theorem fl_3 : ∀ i, i < 3 → ∀ j, j < ([5, 5, 5] : List Nat).getD i 0 → Cond.eq (.elem (.field (tmS i) "java/lang/String" "value" "[B") (.int (Int32.ofNat j))) (.int ((ctB.getD i []).getD j 0)) ∈ flatC nar1 := by decide +kernel
theorem fl_4 : ∀ i, i < 3 → ∀ j, j < 3 → i ≠ j → Cond.not (Cond.eq (tmS i) (tmS j)) ∈ flatC nar1 ∨ Cond.not (Cond.eq (tmS j) (tmS i)) ∈ flatC nar1 := by decide +kernel
theorem law_G {p : Program} {s : State} {m : MethodId} {meth : Method} {c : Code} (l : Launch) {b L : Nat} {xs : Nat → Int32} (C0 : lw_At p s m meth c b L xs) : ∃ G : GG, G.1 = l ∧ WK G s ∧ NF G s.heap.size s ∧ G.2.2.2 240 = b := by
  obtain ⟨hx, hb, hr, hml, hown, hts, hX, hbl, hlocks, hgv⟩ := id C0
  have hts2 : ∀ w ∈ gw, w.before #[Value.ref b] s = true := fun w h => hts w (gw_tbl h)
  have hf := flat_of_before _ hgv
  let A0 : Nat → Prop := fun q => ∃ i, i < 75 ∧ q = s.heap.size + i
  have hA : ∀ a : Nat, a < s.heap.size → ¬ A0 a := by rintro a ha ⟨i, -, rfl⟩; omega
  have hKn : ∀ k, ∃ q : ClassId × (Nat → Nat), k < 10 → u_Kn s (fcl k).1 (fcl k).2.1 (fcl k).2.2 q.1 q.2 := by
    intro k
    by_cases hk : k < 10
    · have hi : ∃ n, Cond.instantiable (fcl k).1 n ∈ gw := by
        match k, hk with
        | 0, _ => exact ⟨_, in_0⟩
        | 1, _ => exact ⟨_, in_1⟩
        | 2, _ => exact ⟨_, in_2⟩
        | 3, _ => exact ⟨_, in_3⟩
        | 4, _ => exact ⟨_, in_4⟩
        | 5, _ => exact ⟨_, in_5⟩
        | 6, _ => exact ⟨_, in_6⟩
        | 7, _ => exact ⟨_, in_7⟩
        | 8, _ => exact ⟨_, in_8⟩
        | 9, _ => exact ⟨_, in_9⟩
        | n + 10, h => omega
      obtain ⟨n, hi⟩ := hi
      obtain ⟨c1, i1, h1⟩ := u_known hts2 (lay_ok k hk) (hts2 _ hi)
      exact ⟨(c1, i1), fun _ => h1⟩
    · exact ⟨(0, fun _ => 0), fun h => absurd h hk⟩
  obtain ⟨D0, hD0⟩ := Classical.axiomOfChoice hKn
  obtain ⟨cI, kI, mI, i1, i2, i3⟩ := Cond.arrayClass_spec (hts2 _ ar_0)
  obtain ⟨cZ, kZ, mZ, z1, z2, z3⟩ := Cond.arrayClass_spec (hts2 _ ar_1)
  obtain ⟨cJ, kJ, mJ, j1, j2, j3⟩ := Cond.arrayClass_spec (hts2 _ ar_2)
  have hK : va_K (fun k => (D0 k).1, fun k => (D0 k).2) cls [(cI, .int), (cZ, .boolean), (cJ, .long)] s := by
    refine ⟨fun k q hq => ?_, fun k q hq => ?_⟩
    · have hk : k < 10 := (List.getElem?_eq_some_iff.mp hq).1
      rw [fcl_get hk] at hq
      cases hq
      exact hD0 k hk
    · match k, hq with
      | 0, hq => cases hq; exact ⟨fun n z => ⟨fun k h => (by cases h), kI, i2, mI, i3⟩, i1⟩
      | 1, hq => cases hq; exact ⟨fun n z => ⟨fun k h => (by cases h), kZ, z2, mZ, z3⟩, z1⟩
      | 2, hq => cases hq; exact ⟨fun n z => ⟨fun k h => (by cases h), kJ, j2, mJ, j3⟩, j1⟩
      | n + 3, hq => simp at hq
  obtain ⟨tA, eA, hTA⟩ := va_Tof (N := 6) (f := fun j => .int (ctA.getD j 0)) (A := A0) (by decide) (hf _ fl_1.1) (va_eqt (hf _ fl_1.2.1)) (fun j hj => va_eqt (hf _ (fl_kA j hj))) hA
  obtain ⟨tM, eM, hTM⟩ := va_Tof (N := 6) (f := fun j => .int (ctM.getD j 0)) (A := A0) (by decide) (hf _ fl_1.2.2.1) (va_eqt (hf _ fl_1.2.2.2.1)) (fun j hj => va_eqt (hf _ (fl_kM j hj))) hA
  have hZA := va_Zref (hts _ ls_0) (hts2 _ ini_8) eA hA
  have hZM := va_Zref (hts _ ls_1) (hts2 _ ini_8) eM hA
  have hZc := va_Zof (hts _ ls_2) (hts2 _ ini_13) (va_eqi (hf _ fl_1.2.2.2.2.1)) hA
  have hZq := va_Zqof (hts _ ls_3) (hts2 _ ini_15) (hf _ fl_1.2.2.2.2.2) hA
  obtain ⟨adK, adV, hVS, hev⟩ := vk_Sof (N := 3) (tm := tmS) (len := [5, 5, 5]) (byt := ctB) (A := A0) (by decide) (fun i h => hf _ (fl_2 i h).1) (fun i h => hf _ (fl_2 i h).2.1) (fun i h => hf _ (fl_2 i h).2.2.1) (fun i h => hf _ (fl_2 i h).2.2.2) (fun i h j hj => hf _ (fl_3 i h j hj)) (fun i j hi hj hij => (fl_4 i hi j hj hij).imp (hf _) (hf _)) hA
  have hq : ∃ tq : Nat, va_Z "jdk/internal/util/Preconditions" "SIOOBE_FORMATTER" "Ljava/util/function/BiFunction;" .null A0 s s.heap ∨ va_Z "jdk/internal/util/Preconditions" "SIOOBE_FORMATTER" "Ljava/util/function/BiFunction;" (.ref tq) A0 s s.heap := by
    rcases hZq with z | ⟨t, z⟩
    · exact ⟨0, Or.inl z⟩
    · exact ⟨t, Or.inr z⟩
  obtain ⟨tq, hq⟩ := hq
  let ad : Nat → Nat := fun i => if i < 75 then s.heap.size + i else if i = 200 then tA else if i = 201 then tM else if i = 230 then tq else if i = 240 then b else if i < 220 then adK (i - 210) else adV (i - 220)
  have had : ∀ i, i < 75 → ad i = s.heap.size + i := fun i h => if_pos h
  have hAA : AA ad = A0 := by
    funext q
    apply propext
    constructor
    · rintro ⟨i, hi, rfl⟩; exact ⟨i, hi, had i hi⟩
    · rintro ⟨i, hi, rfl⟩; exact ⟨i, hi, (had i hi).symm⟩
  have hV2 : ∀ i, i < 3 → ad (220 + i) = adV i := by
    intro i h
    show (if 220 + i < 75 then _ else _) = _
    rw [if_neg (by omega), if_neg (by omega), if_neg (by omega), if_neg (by omega), if_neg (by omega), if_neg (by omega), show 220 + i - 220 = i by omega]
  have hK3 : ∀ i, i < 3 → ad (210 + i) = adK i := by
    intro i h
    show (if 210 + i < 75 then _ else _) = _
    rw [if_neg (by omega), if_neg (by omega), if_neg (by omega), if_neg (by omega), if_neg (by omega), if_pos (by omega), show 210 + i - 210 = i by omega]
  refine ⟨(l, (fun k => (D0 k).1, fun k => (D0 k).2), (fun t => if t = 0 then cI else if t = 1 then cZ else cJ), ad), rfl, ⟨hK, ?_, ?_, ?_⟩, ⟨had, fun q hq => va_Nw.of rfl (hts _ (nest_ok q hq))⟩, rfl⟩
  · intro i j hi hj e
    have e : ad i = ad j := e
    rw [had i hi, had j hj] at e
    omega
  · show SF ad (AA ad) s s.heap
    rw [hAA]
    refine ⟨hZA, hTA, hZM, hTM, hZc, hq, fun i hi => ?_, fun i j hi hj e => ?_⟩
    · have h1 := hVS.1 i hi
      have e1 := hK3 i hi
      have e2 := hV2 i hi
      dsimp only
      rw [e1, e2]
      exact h1
    · dsimp only at e
      rw [hK3 i hi, hK3 j hj] at e
      exact hVS.2 i j hi hj e
  · refine ⟨?_, ?_, ?_, va_Nw.of rfl (hts _ nw_1_27), va_Nw.of rfl (hts _ nw_0_45)⟩
    · have h1 := hev 0 (by decide)
      have e1 : ad 210 = adK 0 := hK3 0 (by decide)
      show vk_R _ _ _ (ad 210) s
      rw [e1]
      exact vk_R.of (hts _ sr_98) h1
    · have h1 := hev 1 (by decide)
      have e1 : ad 211 = adK 1 := hK3 1 (by decide)
      show vk_R _ _ _ (ad 211) s
      rw [e1]
      exact vk_R.of (hts _ sr_104) h1
    · have h1 := hev 2 (by decide)
      have e1 : ad 212 = adK 2 := hK3 2 (by decide)
      show vk_R _ _ _ (ad 212) s
      rw [e1]
      exact vk_R.of (hts _ sr_106) h1

