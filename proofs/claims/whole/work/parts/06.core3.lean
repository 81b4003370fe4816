theorem fb_asI' (x : Int32) : Int32.ofInt x.toInt = x := by simp
section X2
variable {G : GG} {d : Nat} {μ : Mth} {Post : Option Value → PM → Prop} {pc : Nat} {L : List (Option Value)} {st : List Value} {M : PM}
theorem swt_out {K : Nat → Prop} {a : Int32} {lo hi : Int} {dt : Nat} (ho : a.toInt < lo ∨ hi < a.toInt) : ∀ (n : Int) (ts : List Nat), swt K a lo hi dt n ts → K dt
  | _, [], h => h ho
  | n, _ :: ts, h => swt_out ho (n + 1) ts h.2
theorem swt_in {K : Nat → Prop} {a : Int32} {lo hi : Int} {dt : Nat} : ∀ (n : Int) (ts : List Nat) (j t : Nat), swt K a lo hi dt n ts → a.toInt = n + j → ts[j]? = some t → K t
  | n, t0 :: ts, 0, t, h, ha, ht => by
    cases ht
    refine h.1 ?_
    rw [show n = a.toInt by omega]
    exact (fb_asI' a).symm
  | n, t0 :: ts, j + 1, t, h, ha, ht => swt_in (n + 1) ts j t h.2 (by omega) ht
theorem x_tableswitch {K : KK} (hK : HK G d μ Post K) {df lo hi : Int} {os : Array Int} {ln : Nat} {tg : List Nat} (hv : tg.map (fun t : Nat => (t : Int) - (pc : Int)) = df :: os.toList) (hs : (os.size : Int) = hi - lo + 1) (hd : decode μ.2.2.1 pc = .ok (.tableswitch df lo hi os, ln)) (h : p1 st (fun a r => swt (fun t => K t L r M) a lo hi (tg.getD 0 0) lo tg.tail)) : PX G d μ Post pc L st M := by
  intro p e s m args below meth c H locs ls hx hb hml hr hk hown hts hW hP hS hl
  obtain ⟨a, r, rfl, h1⟩ := p1_inv h
  cases tg with
  | nil => cases hv
  | cons t0 ts =>
    simp only [List.map_cons, List.cons.injEq] at hv
    obtain ⟨e1, e2⟩ := hv
    by_cases ho : a.toInt < lo ∨ hi < a.toInt
    · exact lv_tableOut hx hb hd ho (tgt := t0) (by omega) (hK _ _ _ _ (swt_out ho lo ts h1) p e s m args below meth c H locs ls hx hb hml hr hk hown hts hW hP hS hl)
    · have hlo : ¬ a.toInt < lo := fun q => ho (Or.inl q)
      have hhi : ¬ hi < a.toInt := fun q => ho (Or.inr q)
      have hj : (a.toInt - lo).toNat < os.toList.length := by rw [Array.length_toList]; omega
      have hj2 : (a.toInt - lo).toNat < ts.length := by rw [← e2] at hj; simpa using hj
      have hk1 : ts[(a.toInt - lo).toNat]? = some ts[(a.toInt - lo).toNat] := List.getElem?_eq_getElem hj2
      have ho2 : os[(a.toInt - lo).toNat]? = some ((ts[(a.toInt - lo).toNat] : Int) - (pc : Int)) := by
        rw [← Array.getElem?_toList, ← e2, List.getElem?_map, hk1]; rfl
      exact lv_tableIn hx hb hd hlo hhi ho2 (tgt := ts[(a.toInt - lo).toNat]) (by omega) (hK _ _ _ _ (swt_in lo ts (a.toInt - lo).toNat _ h1 (by omega) hk1) p e s m args below meth c H locs ls hx hb hml hr hk hown hts hW hP hS hl)
theorem tysl_get (cA : Nat → ClassId) {t : Nat} (h : t ≤ 2) : (tysl cA)[t]? = some (cA t, if t = 0 then .int else if t = 1 then .boolean else .long) := by
  match t, h with
  | 0, _ => rfl
  | 1, _ => rfl
  | 2, _ => rfl
  | n + 3, h => omega
theorem fcl_get {ci : Nat} (h : ci < 10) : cls[ci]? = some ((fcl ci).1, (fcl ci).2.1, (fcl ci).2.2) := by
  match ci, h with
  | 0, _ => rfl
  | 1, _ => rfl
  | 2, _ => rfl
  | 3, _ => rfl
  | 4, _ => rfl
  | 5, _ => rfl
  | 6, _ => rfl
  | 7, _ => rfl
  | 8, _ => rfl
  | 9, _ => rfl
  | n + 10, h => omega
/-- slots' kinds and types go together -/
def kty (ci k : Nat) : FieldType := (tyc.getD ci ty0) k
theorem kty_nm : ∀ ci, ci < 10 → ∀ a, a < (fcl ci).2.2 → ∀ b, b < (fcl ci).2.2 → a ≠ b → ((fcl ci).2.1 a).2.1 ≠ ((fcl ci).2.1 b).2.1 := by
  intro ci h
  match ci, h with
  | 0, _ => exact nm0
  | 1, _ => exact nm1
  | 2, _ => exact nm2
  | 3, _ => exact nm3
  | 4, _ => exact nm4
  | 5, _ => exact nm5
  | 6, _ => exact nm6
  | 7, _ => exact nm7
  | 8, _ => exact nm8
  | 9, _ => exact nm9
  | n + 10, h => omega
theorem kty_ok : ∀ ci, ci < 10 → ∀ k, k < (fcl ci).2.2 → parseFieldDescriptor ((fcl ci).2.1 k).2.2.1 = some (kty ci k) := by
  intro ci h
  match ci, h with
  | 0, _ => exact tyok0
  | 1, _ => exact tyok1
  | 2, _ => exact tyok2
  | 3, _ => exact tyok3
  | 4, _ => exact tyok4
  | 5, _ => exact tyok5
  | 6, _ => exact tyok6
  | 7, _ => exact tyok7
  | 8, _ => exact tyok8
  | 9, _ => exact tyok9
  | n + 10, h => omega
def kfit (ci k kd : Nat) : Bool := match kd with
  | 0 => decide (kty ci k = .int)
  | 1 => decide (kty ci k = .long)
  | 3 => decide (kty ci k = .boolean)
  | _ => true
theorem shp_fit : shp.all (fun sh => match sh with | .inl q => decide (q.1 ≤ 2) | .inr q => q.2.zipIdx.all (fun z => kfit q.1 z.2 z.1.1)) = true := by decide +kernel
theorem shp_kd {a ci k kd rp : Nat} {ks : List (Nat × Nat)} (h : shp[a]? = some (.inr (ci, ks))) (hk : ks[k]? = some (kd, rp)) : kfit ci k kd = true := by
  have h1 := List.all_eq_true.mp shp_fit _ (List.mem_of_getElem? h)
  have h2 := List.all_eq_true.mp h1 ((kd, rp), k) (List.mem_of_getElem? (i := k) (by simp [List.getElem?_zipIdx, hk]))
  exact h2
theorem shp_ty {a t n : Nat} (h : shp[a]? = some (.inl (t, n))) : t ≤ 2 := by
  have h1 := List.all_eq_true.mp shp_fit _ (List.mem_of_getElem? h)
  simpa using h1
theorem pfs_get {ad : Nat → Nat} {a k kd rp : Nat} {ks : List (Nat × Nat)} (hk : ks[k]? = some (kd, rp)) : (ks.zipIdx.map (fun p => pfv ad M a p.2 p.1))[k]? = some (pfv ad M a k (kd, rp)) := by
  rw [List.getElem?_map, List.getElem?_zipIdx, hk]
  simp
theorem x_getfield {K : KK} (hK : HK G d μ Post K) {idx : Nat} (hd : decode μ.2.2.1 pc = .ok (.getfield idx, 3)) (h : r1 st (fun a r => match fld μ.1 idx a with | some (_, k, kd, rp) => K (pc + 3) L (pfv pid M a k (kd, rp) :: r) M | none => (match sfl μ.1 idx a with | some v => K (pc + 3) L (v :: r) M | none => False))) (hm : mok μ) : PX G d μ Post pc L st M := by
  intro p e s m args below meth c H locs ls hx hb hml hr hk hown hts hW hP hS hl
  obtain ⟨a, r, rfl, h1⟩ := r1_inv h
  cases hf : fld μ.1 idx a with
  | none =>
    rw [hf] at h1
    cases hz : sfl μ.1 idx a with
    | none => rw [hz] at h1; exact h1.elim
    | some v =>
      rw [hz] at h1
      dsimp only at h1
      have hq : μ.1 = 13 ∧ 210 ≤ a ∧ a ≤ 212 ∧ ((idx = 9 ∧ v = .ref (a + 10)) ∨ (idx = 15 ∧ v = .int 0)) := by
        unfold sfl at hz
        cases hb1 : (Nat.beq μ.1 13 && Nat.ble 210 a && Nat.ble a 212) with
        | false => rw [hb1] at hz; cases hz
        | true =>
          rw [hb1] at hz
          simp only [Bool.and_eq_true] at hb1
          refine ⟨Nat.eq_of_beq_eq_true hb1.1.1, Nat.le_of_ble_eq_true hb1.1.2, Nat.le_of_ble_eq_true hb1.2, ?_⟩
          cases hb2 : Nat.beq idx 9 with
          | true => rw [hb2] at hz; cases hz; exact Or.inl ⟨Nat.eq_of_beq_eq_true hb2, rfl⟩
          | false =>
            rw [hb2] at hz
            cases hb3 : Nat.beq idx 15 with
            | true => rw [hb3] at hz; cases hz; exact Or.inr ⟨Nat.eq_of_beq_eq_true hb3, rfl⟩
            | false => rw [hb3] at hz; cases hz
      obtain ⟨e1, e2, e3, e4⟩ := hq
      have hS7 := hW.2.2.1.2.2.2.2.2.2
      have h3 := (hS7.1 (a - 210) (by omega))
      have z1 : 210 + (a - 210) = a := by omega
      have z2 : 220 + (a - 210) = a + 10 := by omega
      simp only [z1, z2] at h3
      rw [e1] at hown
      rcases e4 with ⟨rfl, rfl⟩ | ⟨rfl, rfl⟩
      · exact vk_getf hx hb h3.2.2.1 hS hown (hts _ sfl_13_9) (fun _ z => z) hd (hK _ _ _ _ (h1) p e s m args below meth c H locs ls hx hb hml hr hk (by rw [e1]; exact hown) hts hW hP hS hl)
      · exact vk_getf hx hb h3.2.1 hS hown (hts _ sfl_13_15) (fun _ z => z) hd (hK _ _ _ _ (h1) p e s m args below meth c H locs ls hx hb hml hr hk (by rw [e1]; exact hown) hts hW hP hS hl)
  | some q =>
    obtain ⟨ci, k, kd, rp⟩ := q
    rw [hf] at h1
    dsimp only at h1
    obtain ⟨ks, hfl, hs, hkk⟩ := fld_inv hf
    have h2 := hK _ _ _ _ h1 p e s m args below meth c H locs ls hx hb hml hr hk hown hts hW hP hS hl
    rw [List.map_cons, cv_pfv] at h2
    exact va_get (D := G.2.1) (ci := ci) (v := pfv G.2.2.2 M a k (kd, rp)) (C := (fcl ci).1) (T := (fcl ci).2.1) (N := (fcl ci).2.2) hx hb hts (lay_ok ci hfl.2.1) hown hW.1 hP a (pws_get hs) (fcl_get hfl.2.1) k hfl.2.2 (hts _ hfl.1) (fun _ z => z) (pfs_get hkk) hd h2
theorem x_putI {K : KK} (hK : HK G d μ Post K) {idx : Nat} {v : Int32} {a ci k kd rp : Nat} {r : List Value} (hd : decode μ.2.2.1 pc = .ok (.putfield idx, 3)) (hf : fld μ.1 idx a = some (ci, k, kd, rp)) (hn : ((fcl ci).2.1 k).2.2.2 = false) (hkd : kd = 0 ∨ (kd = 3 ∧ (v = 0 ∨ v = 1))) (h : K (pc + 3) L r (wI M a k v)) : PX G d μ Post pc L (.int v :: .ref a :: r) M := by
  intro p e s m args below meth c H locs ls hx hb hml hr hk hown hts hW hP hS hl
  obtain ⟨ks, hfl, hs, hkk⟩ := fld_inv hf
  have hfit := shp_kd hs hkk
  have hlen : k < ks.length := (List.getElem?_eq_some_iff.mp hkk).1
  have hnf : narrow (kty ci k) (.int v) = .int v ∧ fits (kty ci k) (.int v) = true := by
    rcases hkd with rfl | ⟨rfl, h01⟩
    · have e0 : kty ci k = .int := by simpa [kfit] using hfit
      rw [e0]; exact ⟨rfl, rfl⟩
    · have e0 : kty ci k = .boolean := by simpa [kfit] using hfit
      rw [e0]
      rcases h01 with rfl | rfl
      · exact ⟨by decide, by decide⟩
      · exact ⟨by decide, by decide⟩
  refine va_put (D := G.2.1) (ci := ci) (v := .int v) (ty := kty ci k) (C := (fcl ci).1) (T := (fcl ci).2.1) (N := (fcl ci).2.2) hx hb hts (lay_ok ci hfl.2.1) (kty ci) (kty_ok ci hfl.2.1) (kty_nm ci hfl.2.1) hown hW.1 hP (pws_D hW.2.1) hS a (pws_get hs) (fcl_get hfl.2.1) k hfl.2.2 (hts _ hfl.1) (fun _ z => z) hn (kty_ok ci hfl.2.1 k hfl.2.2) hnf.1 hnf.2 (by simpa using hlen) hd (fun H1 locs1 hP1 hD1 hS1 => ?_)
  rw [pws_set hs (M' := wI M a k v) wI_ne] at hP1
  · exact hK _ _ _ _ h p e s m args below meth c H1 locs1 ls hx hb hml hr hk hown hts hW hP1 hS1 hl
  · simp only [pce]
    congr 2
    apply List.ext_getElem?
    intro j
    rw [List.getElem?_set, List.getElem?_map, List.getElem?_map, List.getElem?_zipIdx]
    by_cases hj : k = j
    · subst hj
      rw [if_pos rfl, if_pos (by simpa using hlen), hkk]
      rcases hkd with rfl | ⟨rfl, h01⟩ <;> simp [pfv, wI, va_up, upd]
    · rw [if_neg hj]
      cases ks[j]? with
      | none => rfl
      | some z =>
        have hj2 : ¬ j = k := fun q => hj q.symm
        simp [pfv, wI, va_up, upd, hj2]
theorem x_putL {K : KK} (hK : HK G d μ Post K) {idx : Nat} {v : Int64} {a ci k rp : Nat} {r : List Value} (hd : decode μ.2.2.1 pc = .ok (.putfield idx, 3)) (hf : fld μ.1 idx a = some (ci, k, 1, rp)) (hn : ((fcl ci).2.1 k).2.2.2 = false) (h : K (pc + 3) L r (wL M a k v)) : PX G d μ Post pc L (.long v :: .ref a :: r) M := by
  intro p e s m args below meth c H locs ls hx hb hml hr hk hown hts hW hP hS hl
  obtain ⟨ks, hfl, hs, hkk⟩ := fld_inv hf
  have hfit := shp_kd hs hkk
  have hlen : k < ks.length := (List.getElem?_eq_some_iff.mp hkk).1
  have e0 : kty ci k = .long := by simpa [kfit] using hfit
  refine va_put (D := G.2.1) (ci := ci) (v := .long v) (ty := kty ci k) (C := (fcl ci).1) (T := (fcl ci).2.1) (N := (fcl ci).2.2) hx hb hts (lay_ok ci hfl.2.1) (kty ci) (kty_ok ci hfl.2.1) (kty_nm ci hfl.2.1) hown hW.1 hP (pws_D hW.2.1) hS a (pws_get hs) (fcl_get hfl.2.1) k hfl.2.2 (hts _ hfl.1) (fun _ z => z) hn (kty_ok ci hfl.2.1 k hfl.2.2) (by rw [e0]; rfl) (by rw [e0]; rfl) (by simpa using hlen) hd (fun H1 locs1 hP1 hD1 hS1 => ?_)
  rw [pws_set hs (M' := wL M a k v) wL_ne] at hP1
  · exact hK _ _ _ _ h p e s m args below meth c H1 locs1 ls hx hb hml hr hk hown hts hW hP1 hS1 hl
  · simp only [pce]
    congr 2
    apply List.ext_getElem?
    intro j
    rw [List.getElem?_set, List.getElem?_map, List.getElem?_map, List.getElem?_zipIdx]
    by_cases hj : k = j
    · subst hj
      rw [if_pos rfl, if_pos (by simpa using hlen), hkk]
      simp [pfv, wL, va_up, vp_updL]
    · rw [if_neg hj]
      cases ks[j]? with
      | none => rfl
      | some z =>
        have hj2 : ¬ j = k := fun q => hj q.symm
        simp [pfv, wL, va_up, vp_updL, hj2]
end X2
