section X3
variable {G : GG} {d : Nat} {μ : Mth} {Post : Option Value → PM → Prop} {pc : Nat} {L : List (Option Value)} {st : List Value} {M : PM}
theorem allv_mem {f : Value → Prop} : ∀ {vs : List Value}, allv f vs → ∀ v ∈ vs, f v
  | [], _, v, hv => by cases hv
  | [w], h, v, hv => by rw [List.mem_singleton.mp hv]; exact h
  | w :: x :: r, h, v, hv => by
    rcases List.mem_cons.mp hv with rfl | hv
    · exact h.1
    · exact allv_mem h.2 v hv
theorem x_getstatic {K : KK} (hK : HK G d μ Post K) {idx : Nat} (hd : decode μ.2.2.1 pc = .ok (.getstatic idx, 3)) (h : match gst μ.1 idx with | some vs => allv (fun v => K (pc + 3) L (v :: st) M) vs | none => False) : PX G d μ Post pc L st M := by
  intro p e s m args below meth c H locs ls hx hb hml hr hk hown hts hW hP hS hl
  cases hg : gst μ.1 idx with
  | none => rw [hg] at h; exact h.elim
  | some vs =>
    rw [hg] at h
    have h := allv_mem h
    have hZ := hW.2.2.1
    unfold gst at hg
    cases h8 : Nat.beq μ.1 8 with
    | true =>
      rw [h8] at hg
      have e8 := Nat.eq_of_beq_eq_true h8
      have hown2 := hown
      rw [e8] at hown2
      cases h1 : Nat.beq idx 322 with
      | true =>
        rw [h1] at hg; cases hg
        have e1 := Nat.eq_of_beq_eq_true h1
        subst e1
        exact va_gets hx hb hZ.2.2.1 hS hown2 (hts _ sfl_8_322) (fun _ z => z) hd (hK _ _ _ _ (h (.ref 201) (by simp)) p e s m args below meth c H locs ls hx hb hml hr hk hown hts hW hP hS hl)
      | false =>
        rw [h1] at hg
        cases h2 : Nat.beq idx 325 with
        | true =>
          rw [h2] at hg; cases hg
          have e1 := Nat.eq_of_beq_eq_true h2
          subst e1
          exact va_gets hx hb hZ.1 hS hown2 (hts _ sfl_8_325) (fun _ z => z) hd (hK _ _ _ _ (h (.ref 200) (by simp)) p e s m args below meth c H locs ls hx hb hml hr hk hown hts hW hP hS hl)
        | false => rw [h2] at hg; cases hg
    | false =>
      rw [h8] at hg
      cases h13 : Nat.beq μ.1 13 with
      | false => rw [h13] at hg; cases hg
      | true =>
        rw [h13] at hg
        have e13 := Nat.eq_of_beq_eq_true h13
        have hown2 := hown
        rw [e13] at hown2
        cases h1 : Nat.beq idx 38 with
        | true =>
          rw [h1] at hg; cases hg
          have e1 := Nat.eq_of_beq_eq_true h1
          subst e1
          exact va_gets hx hb hZ.2.2.2.2.1 hS hown2 (hts _ sfl_13_38) (fun _ z => z) hd (hK _ _ _ _ (h (.int 1) (by simp)) p e s m args below meth c H locs ls hx hb hml hr hk hown hts hW hP hS hl)
        | false =>
          rw [h1] at hg
          cases h2 : Nat.beq idx 1053 with
          | true =>
            rw [h2] at hg; cases hg
            have e1 := Nat.eq_of_beq_eq_true h2
            subst e1
            rcases hZ.2.2.2.2.2.1 with z | z
            · exact va_gets hx hb z hS hown2 (hts _ sfl_13_1053) (fun _ z => z) hd (hK _ _ _ _ (h .null (by simp)) p e s m args below meth c H locs ls hx hb hml hr hk hown hts hW hP hS hl)
            · exact va_gets hx hb z hS hown2 (hts _ sfl_13_1053) (fun _ z => z) hd (hK _ _ _ _ (h (.ref 230) (by simp)) p e s m args below meth c H locs ls hx hb hml hr hk hown hts hW hP hS hl)
          | false => rw [h2] at hg; cases hg
theorem pws_arr {ad : Nat → Nat} {cA : Nat → ClassId} {a t n : Nat} (h : shp[a]? = some (.inl (t, n))) (ht : ¬ t = 2) : (pws ad cA M)[a]? = some (ad a, .inl (cA t, n, .inl (M.1 a))) := by
  rw [pws_get h]; simp [pce, ht]
theorem pws_arrL {ad : Nat → Nat} {cA : Nat → ClassId} {a n : Nat} (h : shp[a]? = some (.inl (2, n))) : (pws ad cA M)[a]? = some (ad a, .inl (cA 2, n, .inr (.inl (M.2 a)))) := by
  rw [pws_get h]; rfl
theorem x_iaload {K : KK} (hK : HK G d μ Post K) (hd : decode μ.2.2.1 pc = .ok (.iaload, 1)) (h : p1 st (fun i st1 => r1 st1 (fun a r => match shp[a]? with
    | some (.inl (t, n)) => gd (Nat.beq t 0) (vp_in i n ∧ K (pc + 1) L (.int (M.1 a i.toNatClampNeg) :: r) M)
    | _ => (match cti a with | some l => vp_in i 6 ∧ K (pc + 1) L (.int (l.getD i.toNatClampNeg 0) :: r) M | none => False)))) : PX G d μ Post pc L st M := by
  intro p e s m args below meth c H locs ls hx hb hml hr hk hown hts hW hP hS hl
  obtain ⟨i, st1, rfl, hA⟩ := p1_inv h
  obtain ⟨a, r, rfl, hB⟩ := r1_inv hA
  have key : ∀ (l : List Int32), cti a = some l → vp_in i 6 ∧ K (pc + 1) L (.int (l.getD i.toNatClampNeg 0) :: r) M → W p G.1 e (rmd (d + 1)) s m args below meth c H locs 0 0 (MQ below (Qp G Post) args s 0 0 (AA G.2.2.2)) (F0 m pc ls ((.int i :: .ref a :: r).map (cv G.2.2.2))) := by
    intro l hc ⟨h1, h2⟩
    have hZ := hW.2.2.1
    unfold cti at hc
    cases e1 : Nat.beq a 200 with
    | true =>
      rw [e1] at hc; cases hc
      have e2 := Nat.eq_of_beq_eq_true e1
      subst e2
      exact va_ti hx hb hZ.2.1 hS h1 rfl hd (hK _ _ _ _ (h2) p e s m args below meth c H locs ls hx hb hml hr hk hown hts hW hP hS hl)
    | false =>
      rw [e1] at hc
      cases e3 : Nat.beq a 201 with
      | true =>
        rw [e3] at hc; cases hc
        have e2 := Nat.eq_of_beq_eq_true e3
        subst e2
        exact va_ti hx hb hZ.2.2.2.1 hS h1 rfl hd (hK _ _ _ _ (h2) p e s m args below meth c H locs ls hx hb hml hr hk hown hts hW hP hS hl)
      | false => rw [e3] at hc; cases hc
  cases hs : shp[a]? with
  | none =>
    rw [hs] at hB
    cases hc : cti a with
    | none => rw [hc] at hB; exact hB.elim
    | some l => rw [hc] at hB; exact key l hc hB
  | some sh =>
    cases sh with
    | inr z =>
      rw [hs] at hB
      cases hc : cti a with
      | none => rw [hc] at hB; exact hB.elim
      | some l => rw [hc] at hB; exact key l hc hB
    | inl z =>
      obtain ⟨t, n⟩ := z
      rw [hs] at hB
      obtain ⟨e0, h1, h2⟩ := gd_inv hB
      have e0 := Nat.eq_of_beq_eq_true e0
      subst e0
      exact va_iald hx hb hW.1 hP a 0 (pws_arr hs (by decide)) rfl h1 hd (hK _ _ _ _ (h2) p e s m args below meth c H locs ls hx hb hml hr hk hown hts hW hP hS hl)
theorem x_baload {K : KK} (hK : HK G d μ Post K) (hd : decode μ.2.2.1 pc = .ok (.baload, 1)) (h : p1 st (fun i st1 => r1 st1 (fun a r => match shp[a]? with
    | some (.inl (t, n)) => gd (Nat.beq t 1) (vp_in i n ∧ K (pc + 1) L (.int (M.1 a i.toNatClampNeg) :: r) M)
    | _ => gd (Nat.ble 220 a && Nat.ble a 222) (vp_in i 5 ∧ K (pc + 1) L (.int ((ctB.getD (a - 220) []).getD i.toNatClampNeg 0) :: r) M)))) : PX G d μ Post pc L st M := by
  intro p e s m args below meth c H locs ls hx hb hml hr hk hown hts hW hP hS hl
  obtain ⟨i, st1, rfl, hA⟩ := p1_inv h
  obtain ⟨a, r, rfl, hB⟩ := r1_inv hA
  have key : gd (Nat.ble 220 a && Nat.ble a 222) (vp_in i 5 ∧ K (pc + 1) L (.int ((ctB.getD (a - 220) []).getD i.toNatClampNeg 0) :: r) M) → W p G.1 e (rmd (d + 1)) s m args below meth c H locs 0 0 (MQ below (Qp G Post) args s 0 0 (AA G.2.2.2)) (F0 m pc ls ((.int i :: .ref a :: r).map (cv G.2.2.2))) := by
    intro h
    obtain ⟨h0, h1, h2⟩ := gd_inv h
    simp only [Bool.and_eq_true] at h0
    have a1 := Nat.le_of_ble_eq_true h0.1
    have a2 := Nat.le_of_ble_eq_true h0.2
    have hS7 := hW.2.2.1.2.2.2.2.2.2
    have h3 := (hS7.1 (a - 220) (by omega)).2.2.2
    have z2 : 220 + (a - 220) = a := by omega
    have z3 : ([5, 5, 5] : List Nat).getD (a - 220) 0 = 5 := by
      have : a - 220 = 0 ∨ a - 220 = 1 ∨ a - 220 = 2 := by omega
      rcases this with q | q | q <;> rw [q] <;> rfl
    simp only [z2, z3] at h3
    exact va_tb hx hb h3 hS h1 rfl hd (hK _ _ _ _ (h2) p e s m args below meth c H locs ls hx hb hml hr hk hown hts hW hP hS hl)
  cases hs : shp[a]? with
  | none => rw [hs] at hB; exact key hB
  | some sh =>
    cases sh with
    | inr z => rw [hs] at hB; exact key hB
    | inl z =>
      obtain ⟨t, n⟩ := z
      rw [hs] at hB
      obtain ⟨e0, h1, h2⟩ := gd_inv hB
      have e0 := Nat.eq_of_beq_eq_true e0
      subst e0
      exact va_zald hx hb hW.1 hP a 1 (pws_arr hs (by decide)) rfl h1 hd (hK _ _ _ _ (h2) p e s m args below meth c H locs ls hx hb hml hr hk hown hts hW hP hS hl)
theorem x_laload {K : KK} (hK : HK G d μ Post K) (hd : decode μ.2.2.1 pc = .ok (.laload, 1)) (h : p1 st (fun i st1 => r1 st1 (fun a r => match shp[a]? with
    | some (.inl (t, n)) => gd (Nat.beq t 2) (vp_in i n ∧ K (pc + 1) L (.long (M.2 a i.toNatClampNeg) :: r) M)
    | _ => False))) : PX G d μ Post pc L st M := by
  intro p e s m args below meth c H locs ls hx hb hml hr hk hown hts hW hP hS hl
  obtain ⟨i, st1, rfl, hA⟩ := p1_inv h
  obtain ⟨a, r, rfl, hB⟩ := r1_inv hA
  cases hs : shp[a]? with
  | none => rw [hs] at hB; exact hB.elim
  | some sh =>
    cases sh with
    | inr z => rw [hs] at hB; exact hB.elim
    | inl z =>
      obtain ⟨t, n⟩ := z
      rw [hs] at hB
      obtain ⟨e0, h1, h2⟩ := gd_inv hB
      have e0 := Nat.eq_of_beq_eq_true e0
      subst e0
      exact va_lald hx hb hW.1 hP a 2 (pws_arrL hs) rfl h1 hd (hK _ _ _ _ (h2) p e s m args below meth c H locs ls hx hb hml hr hk hown hts hW hP hS hl)
theorem x_iastore {K : KK} (hK : HK G d μ Post K) (hd : decode μ.2.2.1 pc = .ok (.iastore, 1)) (h : p2 st (fun i v st1 => r1 st1 (fun a r => match shp[a]? with
    | some (.inl (t, n)) => gd (Nat.beq t 0) (vp_in i n ∧ K (pc + 1) L r (wI M a i.toNatClampNeg v))
    | _ => False))) : PX G d μ Post pc L st M := by
  intro p e s m args below meth c H locs ls hx hb hml hr hk hown hts hW hP hS hl
  obtain ⟨i, v, st1, rfl, hA⟩ := p2_inv h
  obtain ⟨a, r, rfl, hB⟩ := r1_inv hA
  cases hs : shp[a]? with
  | none => rw [hs] at hB; exact hB.elim
  | some sh =>
    cases sh with
    | inr z => rw [hs] at hB; exact hB.elim
    | inl z =>
      obtain ⟨t, n⟩ := z
      rw [hs] at hB
      obtain ⟨e0, h1, h2⟩ := gd_inv hB
      have e0 := Nat.eq_of_beq_eq_true e0
      subst e0
      refine va_iast hx hb hW.1 hP (pws_D hW.2.1) hS a 0 (pws_arr hs (by decide)) rfl h1 hd (fun H1 locs1 hP1 hD1 hS1 => ?_)
      rw [pws_set hs (M' := wI M a i.toNatClampNeg v) wI_ne (by simp [pce, wI, va_up])] at hP1
      exact hK _ _ _ _ h2 p e s m args below meth c H1 locs1 ls hx hb hml hr hk hown hts hW hP1 hS1 hl
theorem x_bastore {K : KK} (hK : HK G d μ Post K) (hd : decode μ.2.2.1 pc = .ok (.bastore, 1)) (h : p2 st (fun i v st1 => r1 st1 (fun a r => match shp[a]? with
    | some (.inl (t, n)) => gd (Nat.beq t 1) (vp_in i n ∧ (v = 0 ∨ v = 1) ∧ K (pc + 1) L r (wI M a i.toNatClampNeg v))
    | _ => False))) : PX G d μ Post pc L st M := by
  intro p e s m args below meth c H locs ls hx hb hml hr hk hown hts hW hP hS hl
  obtain ⟨i, v, st1, rfl, hA⟩ := p2_inv h
  obtain ⟨a, r, rfl, hB⟩ := r1_inv hA
  cases hs : shp[a]? with
  | none => rw [hs] at hB; exact hB.elim
  | some sh =>
    cases sh with
    | inr z => rw [hs] at hB; exact hB.elim
    | inl z =>
      obtain ⟨t, n⟩ := z
      rw [hs] at hB
      obtain ⟨e0, h1, h3, h2⟩ := gd_inv hB
      have e0 := Nat.eq_of_beq_eq_true e0
      subst e0
      refine va_zast hx hb hW.1 hP (pws_D hW.2.1) hS a 1 (pws_arr hs (by decide)) rfl h1 hd (fun H1 locs1 hP1 hD1 hS1 => ?_)
      have hv : vp_nar .boolean v = v := by rcases h3 with rfl | rfl <;> decide
      rw [hv, pws_set hs (M' := wI M a i.toNatClampNeg v) wI_ne (by simp [pce, wI, va_up])] at hP1
      exact hK _ _ _ _ h2 p e s m args below meth c H1 locs1 ls hx hb hml hr hk hown hts hW hP1 hS1 hl
theorem x_lastore {K : KK} (hK : HK G d μ Post K) (hd : decode μ.2.2.1 pc = .ok (.lastore, 1)) (h : q1 st (fun v st0 => p1 st0 (fun i st1 => r1 st1 (fun a r => match shp[a]? with
    | some (.inl (t, n)) => gd (Nat.beq t 2) (vp_in i n ∧ K (pc + 1) L r (wL M a i.toNatClampNeg v))
    | _ => False)))) : PX G d μ Post pc L st M := by
  intro p e s m args below meth c H locs ls hx hb hml hr hk hown hts hW hP hS hl
  obtain ⟨v, st0, rfl, hA⟩ := q1_inv h
  obtain ⟨i, st1, rfl, hB⟩ := p1_inv hA
  obtain ⟨a, r, rfl, hC⟩ := r1_inv hB
  cases hs : shp[a]? with
  | none => rw [hs] at hC; exact hC.elim
  | some sh =>
    cases sh with
    | inr z => rw [hs] at hC; exact hC.elim
    | inl z =>
      obtain ⟨t, n⟩ := z
      rw [hs] at hC
      obtain ⟨e0, h1, h2⟩ := gd_inv hC
      have e0 := Nat.eq_of_beq_eq_true e0
      subst e0
      refine va_last hx hb hW.1 hP (pws_D hW.2.1) hS a 2 (pws_arrL hs) rfl h1 hd (fun H1 locs1 hP1 hD1 hS1 => ?_)
      rw [pws_set hs (M' := wL M a i.toNatClampNeg v) wL_ne (by simp [pce, wL, va_up])] at hP1
      exact hK _ _ _ _ h2 p e s m args below meth c H1 locs1 ls hx hb hml hr hk hown hts hW hP1 hS1 hl
theorem x_arraylength {K : KK} (hK : HK G d μ Post K) (hd : decode μ.2.2.1 pc = .ok (.arraylength, 1)) (h : r1 st (fun a r => match shp[a]? with
    | some (.inl (t, n)) => gd (Nat.ble t 2) (K (pc + 1) L (.int (Int32.ofNat n) :: r) M)
    | _ => gd (Nat.ble 220 a && Nat.ble a 222) (K (pc + 1) L (.int 5 :: r) M))) : PX G d μ Post pc L st M := by
  intro p e s m args below meth c H locs ls hx hb hml hr hk hown hts hW hP hS hl
  obtain ⟨a, r, rfl, hA⟩ := r1_inv h
  have key : gd (Nat.ble 220 a && Nat.ble a 222) (K (pc + 1) L (.int 5 :: r) M) → W p G.1 e (rmd (d + 1)) s m args below meth c H locs 0 0 (MQ below (Qp G Post) args s 0 0 (AA G.2.2.2)) (F0 m pc ls ((.ref a :: r).map (cv G.2.2.2))) := by
    intro h
    obtain ⟨h0, h2⟩ := gd_inv h
    simp only [Bool.and_eq_true] at h0
    have a1 := Nat.le_of_ble_eq_true h0.1
    have a2 := Nat.le_of_ble_eq_true h0.2
    have hS7 := hW.2.2.1.2.2.2.2.2.2
    have h3 := (hS7.1 (a - 220) (by omega)).2.2.2
    have z2 : 220 + (a - 220) = a := by omega
    have z3 : ([5, 5, 5] : List Nat).getD (a - 220) 0 = 5 := by
      have : a - 220 = 0 ∨ a - 220 = 1 ∨ a - 220 = 2 := by omega
      rcases this with q | q | q <;> rw [q] <;> rfl
    simp only [z2, z3] at h3
    exact va_tlen hx hb h3 hS rfl hd (hK _ _ _ _ (h2) p e s m args below meth c H locs ls hx hb hml hr hk hown hts hW hP hS hl)
  cases hs : shp[a]? with
  | none => rw [hs] at hA; exact key hA
  | some sh =>
    cases sh with
    | inr z => rw [hs] at hA; exact key hA
    | inl z =>
      obtain ⟨t, n⟩ := z
      rw [hs] at hA
      obtain ⟨e0, h2⟩ := gd_inv hA
      have e0 := Nat.le_of_ble_eq_true e0
      have h4 := hK _ _ _ _ h2 p e s m args below meth c H locs ls hx hb hml hr hk hown hts hW hP hS hl
      by_cases ht : t = 2
      · subst ht
        exact va_alen hx hb hW.1 hP a 2 (pws_arrL hs) (tysl_get G.2.2.1 (by decide)) rfl hd h4
      · exact va_alen hx hb hW.1 hP a t (pws_arr hs ht) (tysl_get G.2.2.1 e0) rfl hd h4
theorem x_ldc {K : KK} (hK : HK G d μ Post K) {idx : Nat} (hd : decode μ.2.2.1 pc = .ok (.ldc idx, 2)) (h : match kci μ.1 idx with
    | some v => K (pc + 2) L (.int v :: st) M
    | none => gd (Nat.beq μ.1 6) (bif Nat.beq idx 98 then K (pc + 2) L (.ref 210 :: st) M else bif Nat.beq idx 104 then K (pc + 2) L (.ref 211 :: st) M else bif Nat.beq idx 106 then K (pc + 2) L (.ref 212 :: st) M else False)) : PX G d μ Post pc L st M := by
  intro p e s m args below meth c H locs ls hx hb hml hr hk hown hts hW hP hS hl
  cases hc : kci μ.1 idx with
  | some v =>
    rw [hc] at h
    exact lv_ldc hx hb hown (hts _ (kci_ok hc)) hd (hK _ _ _ _ (h) p e s m args below meth c H locs ls hx hb hml hr hk hown hts hW hP hS hl)
  | none =>
    rw [hc] at h
    obtain ⟨e6, hA⟩ := gd_inv h
    have e6 := Nat.eq_of_beq_eq_true e6
    have hown2 := hown
    rw [e6] at hown2
    have hV := hW.2.2.2
    cases h1 : Nat.beq idx 98 with
    | true =>
      rw [h1] at hA
      have e1 := Nat.eq_of_beq_eq_true h1
      subst e1
      exact va_ldcS hx hb hown2 hV.1 hd (hK _ _ _ _ (hA) p e s m args below meth c H locs ls hx hb hml hr hk hown hts hW hP hS hl)
    | false =>
      rw [h1] at hA
      cases h2 : Nat.beq idx 104 with
      | true =>
        rw [h2] at hA
        have e1 := Nat.eq_of_beq_eq_true h2
        subst e1
        exact va_ldcS hx hb hown2 hV.2.1 hd (hK _ _ _ _ (hA) p e s m args below meth c H locs ls hx hb hml hr hk hown hts hW hP hS hl)
      | false =>
        rw [h2] at hA
        cases h3 : Nat.beq idx 106 with
        | true =>
          rw [h3] at hA
          have e1 := Nat.eq_of_beq_eq_true h3
          subst e1
          exact va_ldcS hx hb hown2 hV.2.2.1 hd (hK _ _ _ _ (hA) p e s m args below meth c H locs ls hx hb hml hr hk hown hts hW hP hS hl)
        | false => rw [h3] at hA; exact hA.elim
theorem x_ldc_w {K : KK} (hK : HK G d μ Post K) {idx : Nat} (hd : decode μ.2.2.1 pc = .ok (.ldc_w idx, 3)) (h : match kci μ.1 idx with | some v => K (pc + 3) L (.int v :: st) M | none => False) : PX G d μ Post pc L st M := by
  intro p e s m args below meth c H locs ls hx hb hml hr hk hown hts hW hP hS hl
  cases hc : kci μ.1 idx with
  | some v =>
    rw [hc] at h
    exact lv_ldcw hx hb hown (hts _ (kci_ok hc)) hd (hK _ _ _ _ (h) p e s m args below meth c H locs ls hx hb hml hr hk hown hts hW hP hS hl)
  | none => rw [hc] at h; exact h.elim
theorem x_ldc2_w {K : KK} (hK : HK G d μ Post K) {idx : Nat} (hd : decode μ.2.2.1 pc = .ok (.ldc2_w idx, 3)) (h : match kcl μ.1 idx with | some v => K (pc + 3) L (.long v :: st) M | none => False) : PX G d μ Post pc L st M := by
  intro p e s m args below meth c H locs ls hx hb hml hr hk hown hts hW hP hS hl
  cases hc : kcl μ.1 idx with
  | some v =>
    rw [hc] at h
    exact lv_ldc2 hx hb hown (hts _ (kcl_ok hc)) hd (hK _ _ _ _ (h) p e s m args below meth c H locs ls hx hb hml hr hk hown hts hW hP hS hl)
  | none => rw [hc] at h; exact h.elim
/-- an answer -/
theorem Qp.ret {G : GG} {Post : Option Value → PM → Prop} {as : Array Value} {s t : State} {H : Heap} {locs : List Loc} {v : Option Value} {M : PM} (hp : Post v M) (hP : va_P G.2.1 cls (pws G.2.2.2 G.2.2.1 M) H) (hS : va_S (AA G.2.2.2) s.heap H locs) (ht : t.heap = H) : Qp G Post as s (.returned (v.map (cv G.2.2.2))) t :=
  ⟨⟨v, M, rfl, hp, by rw [ht]; exact hP⟩, hS.F ht⟩
theorem x_ireturn (hd : decode μ.2.2.1 pc = .ok (.ireturn, 1)) (h : match st with | [.int v] => ret1 μ.2.2.2.2.1 v (Post (some (.int v)) M) | _ => False) : PX G d μ Post pc L st M := by
  intro p e s m args below meth c H locs ls hx hb hml hr hk hown hts hW hP hS hl
  split at h
  · rename_i v
    cases hq : μ.2.2.2.2.1 with
    | none => rw [hq] at h; exact h.elim
    | some ty =>
      rw [hq] at h hr
      have h1 : narrow ty (.int v) = .int v ∧ Post (some (.int v)) M := by
        cases ty with
        | int => exact ⟨rfl, h⟩
        | boolean => refine ⟨?_, h.2⟩; rcases h.1 with rfl | rfl <;> decide
        | byte => exact h
        | char => exact h
        | double => exact h
        | float => exact h
        | long => exact h
        | short => exact h
        | object _ => exact h
        | array _ => exact h
      exact W.zret hx hb hr h1.1 (fun t ht hw => Qp.ret h1.2 hP hS ht) hS.2.2 hd (hlocks := hk)
  · exact h.elim
theorem x_lreturn (hd : decode μ.2.2.1 pc = .ok (.lreturn, 1)) (h : match st with | [.long v] => gd (decide (μ.2.2.2.2.1 = some .long)) (Post (some (.long v)) M) | _ => False) : PX G d μ Post pc L st M := by
  intro p e s m args below meth c H locs ls hx hb hml hr hk hown hts hW hP hS hl
  split at h
  · rename_i v
    obtain ⟨h0, h1⟩ := gd_inv h
    rw [of_decide_eq_true h0] at hr
    exact W.lret hx hb hr (fun t ht hw => Qp.ret h1 hP hS ht) hS.2.2 hd (hlocks := hk)
  · exact h.elim
theorem x_areturn (hd : decode μ.2.2.1 pc = .ok (.areturn, 1)) (h : match st with | [.ref v] => (match μ.2.2.2.2.1 with | some (.object _) => Post (some (.ref v)) M | _ => False) | _ => False) : PX G d μ Post pc L st M := by
  intro p e s m args below meth c H locs ls hx hb hml hr hk hown hts hW hP hS hl
  split at h
  · rename_i v
    split at h
    · rename_i nm hq
      rw [hq] at hr
      exact W.aret hx hb hr (Or.inl ⟨_, rfl⟩) (Or.inr ⟨_, rfl⟩) (fun t ht hw => Qp.ret h hP hS ht) hS.2.2 hd (hlocks := hk)
    · exact h.elim
  · exact h.elim
theorem x_return (hd : decode μ.2.2.1 pc = .ok (.return_, 1)) (h : match st with | [] => (match μ.2.2.2.2.1 with | none => Post none M | _ => False) | _ => False) : PX G d μ Post pc L st M := by
  intro p e s m args below meth c H locs ls hx hb hml hr hk hown hts hW hP hS hl
  split at h
  · split at h
    · rename_i hq
      rw [hq] at hr
      exact W.vret hx hb hr (fun t ht hw => Qp.ret (v := none) h hP hS ht) hS.2.2 hd (hlocks := hk)
    · exact h.elim
  · exact h.elim
end X3
