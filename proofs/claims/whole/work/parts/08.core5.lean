theorem shp_ci : shp.all (fun sh => match sh with | .inl _ => true | .inr q => decide (q.1 < 10)) = true := by decide +kernel
theorem nmo_fcl {ci : Nat} (h : ci < 10) : nmo ci = (fcl ci).1 := by
  match ci, h with
  | 0, _ => rfl
  | 1, _ => rfl
  | 2, _ => rfl
  | 3, _ => rfl
  | 4, _ => rfl
  | 5, _ => rfl
  | 6, _ => rfl
  | 7, _ => rfl
  | 8, _ => rfl
  | 9, _ => rfl
  | n + 10, h => omega
section X4
variable {G : GG} {d : Nat} {μ : Mth} {Post : Option Value → PM → Prop} {pc : Nat} {L : List (Option Value)} {st : List Value} {M : PM}
/-- behind a call over the table's world -/
theorem x_back {p : Program} {e : Env} {s : State} {m : MethodId} {args : Array Value} {below : List Frame} {meth : Method} {c : Code} {H : Heap} {locs : List Loc} {ls : Array Slot} {a : Array Value} {st0 rest : List Value} {Q : State → Prop} {P2 : Option Value → PM → Prop}
    (hr : va_Run p G.1 e (rmd (d + 1)) s m args below meth c H locs 0 0 0 0 (F0 m pc ls st0) rest (Qp G P2 a) (AA G.2.2.2)) (hS : va_S (AA G.2.2.2) s.heap H locs)
    (kk : ∀ (v : Option Value) (M2 : PM) (H1 : Heap) (locs1 : List Loc), P2 v M2 → va_P G.2.1 cls (pws G.2.2.2 G.2.2.1 M2) H1 → va_S (AA G.2.2.2) s.heap H1 locs1 → W p G.1 e (rmd (d + 1)) s m args below meth c H1 locs1 0 0 Q (F0 m (pc + 3) ls ((v.map (cv G.2.2.2)).toList ++ rest))) :
    W p G.1 e (rmd (d + 1)) s m args below meth c H locs 0 0 Q (F0 m pc ls st0) := by
  intro T hT X
  obtain ⟨v, st₀, t, T', L, h0, X', hL, e1, e2, ⟨⟨r, M2, hv, hp, hP2⟩, hz, hk⟩, stp⟩ := hr T hT X
  rw [h0] at hz hk
  cases hv
  rw [← e1] at hP2 hz hk
  obtain ⟨t2, a1, b1⟩ := kk r M2 T'.heap (locs ++ L) hp hP2 ⟨Nat.le_trans hS.1 hz, fun q h1 h2 => by rw [hk q (Nat.lt_of_lt_of_le h1 hS.1) h2]; exact hS.2.1 q h1 h2, fun q hq => by
      rcases List.mem_append.mp hq with h | h
      · exact hS.2.2 q h
      · exact hL q h⟩ T' rfl X'
  exact ⟨t2, stp t2 a1, b1⟩
theorem gw_good {w : Cond} (h : w ∈ gw) : (w.onTables && w.keeps) = true ∨ ∃ ty, w = .arrayClass ty := good_of_word (List.mem_filter.mp h).2
theorem gw_in {μ2 : Mth} (hm : mok μ2) : GoodIn gw (mcode μ2 :: gw) := by
  intro w hw
  rcases List.mem_cons.mp hw with rfl | hw
  · exact ⟨hm.1, gw_good hm.1⟩
  · exact ⟨hw, gw_good hw⟩
theorem x_pre {p : Program} {s : State} {H : Heap} {locs : List Loc} {av : List Value} (hW : WK G s) (hP : va_P G.2.1 cls (pws G.2.2.2 G.2.2.1 M) H) (hS : va_S (AA G.2.2.2) s.heap H locs) :
    FrameBlind (va_Pc (av.map (cv G.2.2.2)) (fun U => WK G U ∧ va_P G.2.1 cls (pws G.2.2.2 G.2.2.1 M) U.heap)) ∧ ∀ U : State, U.heap = H → s.WarmedH U.vm → va_Pc (av.map (cv G.2.2.2)) (fun U => WK G U ∧ va_P G.2.1 cls (pws G.2.2.2 G.2.2.1 M) U.heap) (av.map (cv G.2.2.2)).toArray U := by
  refine ⟨fun a U g mk h => ⟨h.1, h.2.1.blind, h.2.2⟩, fun U hU hw => ⟨rfl, hW.move hw (fun a h1 h2 => by rw [hU]; exact hS.2.1 a h1 h2), by rw [hU]; exact hP⟩⟩
theorem csum_cv (ad : Nat → Nat) : ∀ st : List Value, ((st.map (cv ad)).map fun v => v.category).sum = csum st
  | [] => rfl
  | v :: r => by
    have := csum_cv ad r
    simp only [csum, List.map_cons, List.sum_cons, cv_cat] at this ⊢
    omega
theorem x_calledB {p : Program} {s : State} {args : Array Value} {own : String} {idx : Nat} {μ2 : Mth} (hts : ∀ w ∈ gw, w.before args s = true) (hm : mok μ2) (hl : (Cond.methodLink own idx μ2.2.1).before args s = true) : CallB (rmd (d + 1)) s args own idx μ2.2.1 μ2.2.2.1 μ2.2.2.2.1 μ2.2.2.2.2.1 (mcode μ2 :: gw) (rmd d) 0 0 μ2.2.2.2.2.2.2 :=
  callB_of μ2.2.2.2.2.2.2 hts (gw_in hm) rfl rfl rfl (hts _ hm.2.1) hl hm.2.2.2.1 ⟨Nat.le_refl _, by have := hm.2.2.2.2.1; show 8 + (μ2.2.2.2.1 + 11) + 64 * d ≤ 64 * (d + 1); omega⟩
theorem x_invokevirtual {K : KK} (hK : HK G d μ Post K) {idx : Nat} (hd : decode μ.2.2.1 pc = .ok (.invokevirtual idx, 3)) (h : match callee μ.1 idx with
    | some (μ2, kd) => gd (Nat.beq kd 0) (gd (!μ2.2.2.2.2.2.1) (r1 (st.drop μ2.2.2.2.2.2.2) (fun a r => gd (Nat.ble (csum r) 8 && recv a μ2.1) (PC G d μ2 (.ref a :: (st.take μ2.2.2.2.2.2.2).reverse) M (rk μ2.2.2.2.2.1 K (pc + 3) L r)))))
    | none => False) : PX G d μ Post pc L st M := by
  intro p e s m args below meth c H locs ls hx hb hml hr hk hown hts hW hP hS hl
  cases hc : callee μ.1 idx with
  | none => rw [hc] at h; exact h.elim
  | some q =>
    obtain ⟨μ2, kd⟩ := q
    rw [hc] at h
    obtain ⟨e0, h1⟩ := gd_inv h
    have e0 := Nat.eq_of_beq_eq_true e0
    subst e0
    obtain ⟨hst, h2⟩ := gd_inv h1
    obtain ⟨a, r, hdr, h3⟩ := r1_inv h2
    obtain ⟨hb8, hm, hM⟩ := gd_inv h3
    simp only [Bool.and_eq_true] at hb8
    have hlink : Cond.methodLink (nmo μ.1) idx μ2.2.1 ∈ gw := callee_ok hc
    have hstat : μ2.2.2.2.2.2.1 = false := by simpa using hst
    have hlast := hm.2.2.2.2.2.2
    rw [if_neg (by rw [hstat]; decide)] at hlast
    have hsplit : st = (st.take μ2.2.2.2.2.2.2) ++ .ref a :: r := by rw [← hdr]; exact (List.take_append_drop _ _).symm
    have hlen : (st.take μ2.2.2.2.2.2.2).length = μ2.2.2.2.2.2.2 := by
      have : (st.drop μ2.2.2.2.2.2.2).length = r.length + 1 := by rw [hdr]; rfl
      rw [List.length_drop] at this
      rw [List.length_take]; omega
    have hrecv : ∃ cellB : Cell, H[G.2.2.2 a]? = some cellB ∧ cellB.vm.isStatics = false ∧ s.vm.findClass μ2.2.1.cls = some cellB.cls := by
      have h4 := hb8.2
      have str : (Nat.beq μ2.1 13 && Nat.ble 210 a && Nat.ble a 212) = true → ∃ cellB : Cell, H[G.2.2.2 a]? = some cellB ∧ cellB.vm.isStatics = false ∧ s.vm.findClass μ2.2.1.cls = some cellB.cls := by
        intro h5
        simp only [Bool.and_eq_true] at h5
        have e13 := Nat.eq_of_beq_eq_true h5.1.1
        have a1 := Nat.le_of_ble_eq_true h5.1.2
        have a2 := Nat.le_of_ble_eq_true h5.2
        have h6 := vk_recv (i := a - 210) hW.2.2.1.2.2.2.2.2.2 (by omega) hS
        have z1 : 210 + (a - 210) = a := by omega
        simp only [z1] at h6
        rw [← hm.2.2.1, e13]
        exact h6
      unfold recv at h4
      cases hs : shp[a]? with
      | none => rw [hs] at h4; exact str h4
      | some sh =>
        cases sh with
        | inl z => rw [hs] at h4; exact str h4
        | inr z =>
          obtain ⟨ci, ks⟩ := z
          rw [hs] at h4
          have e5 : ci = μ2.1 := Nat.eq_of_beq_eq_true h4
          subst e5
          have hci : μ2.1 < 10 := by
            have h7 := List.all_eq_true.mp shp_ci _ (List.mem_of_getElem? hs)
            simpa using h7
          have h8 := va_recv hW.1 hP (fcl_get hci) (pws_get hs)
          rw [← hm.2.2.1, show nmo μ2.1 = (fcl μ2.1).1 from nmo_fcl hci]
          exact h8
    have hpre := x_pre (p := p) (av := .ref a :: (st.take μ2.2.2.2.2.2.2).reverse) hW hP hS
    refine x_back (va_runV (As := ((st.take μ2.2.2.2.2.2.2).reverse).map (cv G.2.2.2)) (rest := r.map (cv G.2.2.2)) (b := G.2.2.2 a) (C := μ2.2.1.cls) (bytes := μ2.2.2.1) (maxL := μ2.2.2.2.1) (ret := μ2.2.2.2.2.1) (n := μ2.2.2.2.2.2.2) (own := nmo μ.1) ⟨hx, hb, hml, hown, hts⟩ hM ⟨x_calledB (p := p) hts hm (hts _ hlink), hts _ hlast.1, hts _ hlast.2⟩ ⟨hpre.1, hrecv, hpre.2⟩ rfl (by rw [List.length_map, List.length_reverse]; exact hlen) hl.1 ?_ ?_ hd ⟨Nat.le_refl _, Nat.le_refl _⟩) hS ?_
    · show st.map (cv G.2.2.2) = _
      rw [← List.map_reverse, List.reverse_reverse]
      conv => lhs; rw [hsplit]
      rw [List.map_append]; rfl
    · show 2 * 0 + _ ≤ 8
      have := Nat.le_of_ble_eq_true hb8.1
      rw [csum_cv]; omega
    · intro v M2 H1 locs1 hp hP1 hS1
      have h9 := hK _ _ _ _ (rk_inv hp) p e s m args below meth c H1 locs1 ls hx hb hml hr hk hown hts hW hP1 hS1 hl
      rw [List.map_append] at h9
      cases v <;> exact h9
theorem x_invokestatic {K : KK} (hK : HK G d μ Post K) {idx : Nat} (hd : decode μ.2.2.1 pc = .ok (.invokestatic idx, 3)) (h : match callee μ.1 idx with
    | some (μ2, kd) => (match kd with
      | 3 => ac5 st (fun a b sp dp n r => gd (Nat.ble (csum r) 8) (ar2 a b (fun n0 n1 => (¬ sp < 0 ∧ ¬ dp < 0 ∧ ¬ n < 0 ∧ sp.toNatClampNeg + n.toNatClampNeg ≤ n0 ∧ dp.toNatClampNeg + n.toNatClampNeg ≤ n1) ∧ K (pc + 3) L r (cpI M b a sp.toNatClampNeg dp.toNatClampNeg n.toNatClampNeg))))
      | 4 => p1 st (fun x r => gd (Nat.ble (csum r) 8) (K (pc + 3) L (.int (if 0 ≤ x then x else 0 - x) :: r) M))
      | 5 => p2 st (fun x y r => gd (Nat.ble (csum r) 8) (K (pc + 3) L (.int (if x < y then y else x) :: r) M))
      | 6 => p2 st (fun x y r => gd (Nat.ble (csum r) 8) (K (pc + 3) L (.int (if y < x then y else x) :: r) M))
      | 0 => False
      | _ => gd (μ2.2.2.2.2.2.1 && Nat.ble μ2.2.2.2.2.2.2 st.length && Nat.ble (csum (st.drop μ2.2.2.2.2.2.2)) 8) (PC G d μ2 ((st.take μ2.2.2.2.2.2.2).reverse) M (rk μ2.2.2.2.2.1 K (pc + 3) L (st.drop μ2.2.2.2.2.2.2))))
    | none => False) (hnest : ∀ μ2, callee μ.1 idx = some (μ2, 2) → (μ.1 = 0 ∧ idx = 45 ∨ μ.1 = 1 ∧ idx = 27) ∧ μ2.2.1 = y_seat) (hkd : ∀ q, callee μ.1 idx = some q → q.2 ≤ 6) : PX G d μ Post pc L st M := by
  intro p e s m args below meth c H locs ls hx hb hml hr hk hown hts hW hP hS hl
  cases hc : callee μ.1 idx with
  | none => rw [hc] at h; exact h.elim
  | some q =>
    obtain ⟨μ2, kd⟩ := q
    rw [hc] at h
    have hok := callee_ok hc
    have hini : Cond.initialized "java/lang/Math" ∈ gw := ini_11
    have plain : ∀ (cw : gd (μ2.2.2.2.2.2.1 && Nat.ble μ2.2.2.2.2.2.2 st.length && Nat.ble (csum (st.drop μ2.2.2.2.2.2.2)) 8) (PC G d μ2 ((st.take μ2.2.2.2.2.2.2).reverse) M (rk μ2.2.2.2.2.1 K (pc + 3) L (st.drop μ2.2.2.2.2.2.2)))), (kd = 1 ∨ kd = 2) → W p G.1 e (rmd (d + 1)) s m args below meth c H locs 0 0 (MQ below (Qp G Post) args s 0 0 (AA G.2.2.2)) (F0 m pc ls (st.map (cv G.2.2.2))) := by
      intro cw h12
      obtain ⟨hb8, hm, hM⟩ := gd_inv cw
      simp only [Bool.and_eq_true] at hb8
      have hlast := hm.2.2.2.2.2.2
      rw [if_pos hb8.1.1] at hlast
      have hlen : (st.take μ2.2.2.2.2.2.2).length = μ2.2.2.2.2.2.2 := by
        have := Nat.le_of_ble_eq_true hb8.1.2
        rw [List.length_take]; omega
      have hpre := x_pre (p := p) (av := (st.take μ2.2.2.2.2.2.2).reverse) hW hP hS
      have hrest : 2 * (F0 m pc ls (st.map (cv G.2.2.2))).monitorRoom + (((st.drop μ2.2.2.2.2.2.2).map (cv G.2.2.2)).map fun v => v.category).sum ≤ 8 := by
        show 2 * 0 + _ ≤ 8
        have := Nat.le_of_ble_eq_true hb8.2
        rw [csum_cv]; omega
      have hstk : st.map (cv G.2.2.2) = (((st.take μ2.2.2.2.2.2.2).reverse).map (cv G.2.2.2)).reverse ++ (st.drop μ2.2.2.2.2.2.2).map (cv G.2.2.2) := by
        rw [← List.map_reverse, List.reverse_reverse, ← List.map_append, List.take_append_drop]
      have fin : ∀ (v : Option Value) (M2 : PM) (H1 : Heap) (locs1 : List Loc), rk μ2.2.2.2.2.1 K (pc + 3) L (st.drop μ2.2.2.2.2.2.2) v M2 → va_P G.2.1 cls (pws G.2.2.2 G.2.2.1 M2) H1 → va_S (AA G.2.2.2) s.heap H1 locs1 → W p G.1 e (rmd (d + 1)) s m args below meth c H1 locs1 0 0 (MQ below (Qp G Post) args s 0 0 (AA G.2.2.2)) (F0 m (pc + 3) ls ((v.map (cv G.2.2.2)).toList ++ (st.drop μ2.2.2.2.2.2.2).map (cv G.2.2.2))) := by
        intro v M2 H1 locs1 hp hP1 hS1
        have h9 := hK _ _ _ _ (rk_inv hp) p e s m args below meth c H1 locs1 ls hx hb hml hr hk hown hts hW hP1 hS1 hl
        rw [List.map_append] at h9
        cases v <;> exact h9
      rcases h12 with rfl | rfl
      · exact x_back (va_runS (As := ((st.take μ2.2.2.2.2.2.2).reverse).map (cv G.2.2.2)) (rest := (st.drop μ2.2.2.2.2.2.2).map (cv G.2.2.2)) (bytes := μ2.2.2.1) (maxL := μ2.2.2.2.1) (ret := μ2.2.2.2.2.1) (n := μ2.2.2.2.2.2.2) (own := nmo μ.1) ⟨hx, hb, hml, hown, hts⟩ hM ⟨x_calledB (p := p) hts hm (hts _ hok), hts _ hlast⟩ hpre rfl (by rw [List.length_map, List.length_reverse]; exact hlen) hl.1 hstk hrest hd ⟨Nat.le_refl _, Nat.le_refl _⟩) hS fin
      · obtain ⟨hn1, hn2⟩ := hnest μ2 hc
        have hnw : va_Nw (.methodLinkNest (nmo μ.1) idx μ2.2.1 "SeesawPark") s := by
          rcases hn1 with ⟨z1, z2⟩ | ⟨z1, z2⟩
          · rw [z1, z2, hn2]; exact hW.2.2.2.2.2.2.2
          · rw [z1, z2, hn2]; exact hW.2.2.2.2.2.2.1
        have cw := va_cnB (R := rmd (d + 1)) (own := nmo μ.1) (host := "SeesawPark") (index := idx) (maxL := μ2.2.2.2.1) (mc := 0) (ms := 0) (y := μ2.2.1) (bytes := μ2.2.2.1) (ret := μ2.2.2.2.2.1) (ws := mcode μ2 :: gw) (rm := rmd d) μ2.2.2.2.2.2.2 hts (gw_in hm) rfl rfl rfl hnw (hts _ hm.2.1) hm.2.2.2.1 ⟨Nat.le_refl _, by have := hm.2.2.2.2.1; show 8 + (μ2.2.2.2.1 + 11) + 64 * d ≤ 64 * (d + 1); omega⟩
        exact x_back (va_runSN (As := ((st.take μ2.2.2.2.2.2.2).reverse).map (cv G.2.2.2)) (rest := (st.drop μ2.2.2.2.2.2.2).map (cv G.2.2.2)) (bytes := μ2.2.2.1) (maxL := μ2.2.2.2.1) (ret := μ2.2.2.2.2.1) (n := μ2.2.2.2.2.2.2) (own := nmo μ.1) ⟨hx, hb, hml, hown, hts⟩ hM ⟨cw, hts _ hlast, trivial⟩ hpre rfl (by rw [List.length_map, List.length_reverse]; exact hlen) hl.1 hstk hrest hd ⟨Nat.le_refl _, Nat.le_refl _⟩) hS fin
    have hcat : ∀ r : List Value, Nat.ble (csum r) 8 = true → ((r.map (cv G.2.2.2)).map fun v => v.category).sum + 13 ≤ (rmd (d + 1)).locals := by
      intro r h8
      have := Nat.le_of_ble_eq_true h8
      rw [csum_cv]
      show _ ≤ 64 * (d + 1)
      omega
    have hml2 : c.maxLocals = ls.size := hml.trans hl.1.symm
    match kd, hok, h, plain, hkd _ hc with
    | 0, _, h, _, _ => exact h.elim
    | 1, _, h, plain, _ => exact plain h (Or.inl rfl)
    | 2, _, h, plain, _ => exact plain h (Or.inr rfl)
    | 3, hok, h, _, _ =>
      obtain ⟨a, b, sp, dp, n, r, rfl, h0⟩ := ac5_inv h
      obtain ⟨h8, h1⟩ := gd_inv h0
      obtain ⟨n0, n1, hs1, hs2, ⟨k1, k2, k3, k4, k5⟩, h4⟩ := ar2_inv h1
      refine va_copyi hx hb hml2 hown (hts _ hok.1) (hts _ hok.2.1) (hts _ hok.2.2.1) (hts _ hok.2.2.2) hW.1 hP (pws_D hW.2.1) hS a b 0 0 (pws_arr hs1 (by decide)) (pws_arr hs2 (by decide)) rfl rfl rfl k1 k2 k3 k4 k5 (fun _ _ => rfl) (by show 1 ≤ d + 1; omega) (by have := Nat.le_of_ble_eq_true h8; rw [csum_cv]; show csum r + 18 ≤ 64 * (d + 1); omega) hd (fun H1 locs1 hP1 hD1 hS1 => ?_)
      rw [pws_set (M := M) (ad := G.2.2.2) (cA := G.2.2.1) hs2 (M' := cpI M b a sp.toNatClampNeg dp.toNatClampNeg n.toNatClampNeg) (fun q hq => ⟨by simp [cpI, va_up, hq], rfl⟩) (by simp [pce, cpI, va_up])] at hP1
      exact hK _ _ _ _ h4 p e s m args below meth c H1 locs1 ls hx hb hml hr hk hown hts hW hP1 hS1 hl
    | 4, hok, h, _, _ =>
      obtain ⟨x, r, rfl, h1⟩ := p1_inv h
      obtain ⟨h8, h2⟩ := gd_inv h1
      exact va_mabs hx hb hml2 hown (hts _ hok) (hts _ mt_abs_s) (hts _ hini) (hts _ mt_abs_c) (by show 1 ≤ d + 1; omega) (hcat r h8) (Nat.le_refl _) (Nat.le_refl _) hd (hK _ _ _ _ (h2) p e s m args below meth c H locs ls hx hb hml hr hk hown hts hW hP hS hl)
    | 5, hok, h, _, _ =>
      obtain ⟨x, y, r, rfl, h1⟩ := p2_inv h
      obtain ⟨h8, h2⟩ := gd_inv h1
      exact va_mmax hx hb hml2 hown (hts _ hok) (hts _ mt_max_s) (hts _ hini) (hts _ mt_max_c) (by show 1 ≤ d + 1; omega) (hcat r h8) (Nat.le_refl _) (Nat.le_refl _) hd (hK _ _ _ _ (h2) p e s m args below meth c H locs ls hx hb hml hr hk hown hts hW hP hS hl)
    | 6, hok, h, _, _ =>
      obtain ⟨x, y, r, rfl, h1⟩ := p2_inv h
      obtain ⟨h8, h2⟩ := gd_inv h1
      exact va_mmin hx hb hml2 hown (hts _ hok) (hts _ mt_min_s) (hts _ hini) (hts _ mt_min_c) (by show 1 ≤ d + 1; omega) (hcat r h8) (Nat.le_refl _) (Nat.le_refl _) hd (hK _ _ _ _ (h2) p e s m args below meth c H locs ls hx hb hml hr hk hown hts hW hP hS hl)
    | n + 7, _, _, _, h7 => exact absurd h7 (by show ¬ n + 7 ≤ 6; omega)
end X4
