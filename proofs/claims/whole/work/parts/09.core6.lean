def rchk (own pc : Nat) (i : Instr) (ln : Nat) (tg : List Nat) (kv : Int32) : Bool := match i with
  | .iconst n => Nat.beq ln 1 && decide (Int32.ofInt n = kv)
  | .bipush n => Nat.beq ln 2 && decide ((Int8.ofInt n).toInt32 = kv)
  | .sipush n => Nat.beq ln 3 && decide ((Int16.ofInt n).toInt32 = kv)
  | .iinc _ n => Nat.beq ln 3 && decide (Int32.ofInt n = kv)
  | .ifCond _ f => Nat.beq ln 3 && decide ((pc : Int) + f = ((tg.getD 0 0 : Nat) : Int))
  | .if_icmp _ f => Nat.beq ln 3 && decide ((pc : Int) + f = ((tg.getD 0 0 : Nat) : Int))
  | .goto f => Nat.beq ln 3 && decide ((pc : Int) + f = ((tg.getD 0 0 : Nat) : Int))
  | .tableswitch df lo hi os => decide (tg.map (fun t : Nat => (t : Int) - (pc : Int)) = df :: os.toList) && decide ((os.size : Int) = hi - lo + 1)
  | .invokestatic idx => Nat.beq ln 3 && (match callee own idx with | some (μ2, kd) => Nat.ble kd 6 && (!(Nat.beq kd 2) || decide ((own = 0 ∧ idx = 45 ∨ own = 1 ∧ idx = 27) ∧ μ2.2.1 = y_seat)) | none => true)
  | .iload _ => Nat.beq ln 2
  | .lload _ => Nat.beq ln 2
  | .istore _ => Nat.beq ln 2
  | .lstore _ => Nat.beq ln 2
  | .ldc _ => Nat.beq ln 2
  | .getfield _ => Nat.beq ln 3
  | .putfield _ => Nat.beq ln 3
  | .getstatic _ => Nat.beq ln 3
  | .ldc_w _ => Nat.beq ln 3
  | .ldc2_w _ => Nat.beq ln 3
  | .invokevirtual _ => Nat.beq ln 3
  | _ => Nat.beq ln 1
theorem st1_ok {G : GG} {d : Nat} {μ : Mth} {Post : Option Value → PM → Prop} {K : KK} (hK : HK G d μ Post K) (hm : mok μ) {pc : Nat} {L : List (Option Value)} {st : List Value} {M : PM} {i : Instr} {ln : Nat} {tg : List Nat} {kv : Int32} (hd : decode μ.2.2.1 pc = .ok (i, ln)) (hc : rchk μ.1 pc i ln tg kv = true) (h : st1 G d μ Post i tg kv pc L st M K) : PX G d μ Post pc L st M := by
  cases i with
  | lload_n k => have e1 := Nat.eq_of_beq_eq_true hc; subst e1; exact x_lload_n hK hd h
  | iload_n k => have e1 := Nat.eq_of_beq_eq_true hc; subst e1; exact x_iload_n hK hd h
  | aload_n k => have e1 := Nat.eq_of_beq_eq_true hc; subst e1; exact x_aload_n hK hd h
  | istore_n k => have e1 := Nat.eq_of_beq_eq_true hc; subst e1; exact x_istore_n hK hd h
  | astore_n k => have e1 := Nat.eq_of_beq_eq_true hc; subst e1; exact x_astore_n hK hd h
  | lstore_n k => have e1 := Nat.eq_of_beq_eq_true hc; subst e1; exact x_lstore_n hK hd h
  | lconst k => have e1 := Nat.eq_of_beq_eq_true hc; subst e1; exact x_lconst hK hd h
  | iadd => have e1 := Nat.eq_of_beq_eq_true hc; subst e1; exact x_iadd hK hd h
  | isub => have e1 := Nat.eq_of_beq_eq_true hc; subst e1; exact x_isub hK hd h
  | imul => have e1 := Nat.eq_of_beq_eq_true hc; subst e1; exact x_imul hK hd h
  | ishl => have e1 := Nat.eq_of_beq_eq_true hc; subst e1; exact x_ishl hK hd h
  | ishr => have e1 := Nat.eq_of_beq_eq_true hc; subst e1; exact x_ishr hK hd h
  | iand => have e1 := Nat.eq_of_beq_eq_true hc; subst e1; exact x_iand hK hd h
  | ior => have e1 := Nat.eq_of_beq_eq_true hc; subst e1; exact x_ior hK hd h
  | ixor => have e1 := Nat.eq_of_beq_eq_true hc; subst e1; exact x_ixor hK hd h
  | idiv => have e1 := Nat.eq_of_beq_eq_true hc; subst e1; exact x_idiv hK hd h
  | irem => have e1 := Nat.eq_of_beq_eq_true hc; subst e1; exact x_irem hK hd h
  | iushr => have e1 := Nat.eq_of_beq_eq_true hc; subst e1; exact x_iushr hK hd h
  | ineg => have e1 := Nat.eq_of_beq_eq_true hc; subst e1; exact x_ineg hK hd h
  | i2c => have e1 := Nat.eq_of_beq_eq_true hc; subst e1; exact x_i2c hK hd h
  | i2l => have e1 := Nat.eq_of_beq_eq_true hc; subst e1; exact x_i2l hK hd h
  | l2i => have e1 := Nat.eq_of_beq_eq_true hc; subst e1; exact x_l2i hK hd h
  | ladd => have e1 := Nat.eq_of_beq_eq_true hc; subst e1; exact x_ladd hK hd h
  | lmul => have e1 := Nat.eq_of_beq_eq_true hc; subst e1; exact x_lmul hK hd h
  | land => have e1 := Nat.eq_of_beq_eq_true hc; subst e1; exact x_land hK hd h
  | lor => have e1 := Nat.eq_of_beq_eq_true hc; subst e1; exact x_lor hK hd h
  | lshl => have e1 := Nat.eq_of_beq_eq_true hc; subst e1; exact x_lshl hK hd h
  | lshr => have e1 := Nat.eq_of_beq_eq_true hc; subst e1; exact x_lshr hK hd h
  | lushr => have e1 := Nat.eq_of_beq_eq_true hc; subst e1; exact x_lushr hK hd h
  | lcmp => have e1 := Nat.eq_of_beq_eq_true hc; subst e1; exact x_lcmp hK hd h
  | dup => have e1 := Nat.eq_of_beq_eq_true hc; subst e1; exact x_dup hK hd h
  | pop => have e1 := Nat.eq_of_beq_eq_true hc; subst e1; exact x_pop hK hd h
  | dup2 => have e1 := Nat.eq_of_beq_eq_true hc; subst e1; exact x_dup2 hK hd h
  | iaload => have e1 := Nat.eq_of_beq_eq_true hc; subst e1; exact x_iaload hK hd h
  | baload => have e1 := Nat.eq_of_beq_eq_true hc; subst e1; exact x_baload hK hd h
  | laload => have e1 := Nat.eq_of_beq_eq_true hc; subst e1; exact x_laload hK hd h
  | iastore => have e1 := Nat.eq_of_beq_eq_true hc; subst e1; exact x_iastore hK hd h
  | bastore => have e1 := Nat.eq_of_beq_eq_true hc; subst e1; exact x_bastore hK hd h
  | lastore => have e1 := Nat.eq_of_beq_eq_true hc; subst e1; exact x_lastore hK hd h
  | arraylength => have e1 := Nat.eq_of_beq_eq_true hc; subst e1; exact x_arraylength hK hd h
  | iload k => have e1 := Nat.eq_of_beq_eq_true hc; subst e1; exact x_iload hK hd h
  | lload k => have e1 := Nat.eq_of_beq_eq_true hc; subst e1; exact x_lload hK hd h
  | istore k => have e1 := Nat.eq_of_beq_eq_true hc; subst e1; exact x_istore hK hd h
  | lstore k => have e1 := Nat.eq_of_beq_eq_true hc; subst e1; exact x_lstore hK hd h
  | ldc k => have e1 := Nat.eq_of_beq_eq_true hc; subst e1; exact x_ldc hK hd h
  | getstatic k => have e1 := Nat.eq_of_beq_eq_true hc; subst e1; exact x_getstatic hK hd h
  | ldc_w k => have e1 := Nat.eq_of_beq_eq_true hc; subst e1; exact x_ldc_w hK hd h
  | ldc2_w k => have e1 := Nat.eq_of_beq_eq_true hc; subst e1; exact x_ldc2_w hK hd h
  | invokevirtual k => have e1 := Nat.eq_of_beq_eq_true hc; subst e1; exact x_invokevirtual hK hd h
  | iconst n => simp only [rchk, Bool.and_eq_true, decide_eq_true_eq] at hc; have e1 := Nat.eq_of_beq_eq_true hc.1; subst e1; exact x_iconst hK hc.2 hd h
  | bipush n => simp only [rchk, Bool.and_eq_true, decide_eq_true_eq] at hc; have e1 := Nat.eq_of_beq_eq_true hc.1; subst e1; exact x_bipush hK hc.2 hd h
  | sipush n => simp only [rchk, Bool.and_eq_true, decide_eq_true_eq] at hc; have e1 := Nat.eq_of_beq_eq_true hc.1; subst e1; exact x_sipush hK hc.2 hd h
  | iinc k n => simp only [rchk, Bool.and_eq_true, decide_eq_true_eq] at hc; have e1 := Nat.eq_of_beq_eq_true hc.1; subst e1; exact x_iinc hK hc.2 hd h
  | ifCond cc f => simp only [rchk, Bool.and_eq_true, decide_eq_true_eq] at hc; have e1 := Nat.eq_of_beq_eq_true hc.1; subst e1; exact x_ifCond hK hc.2 hd h
  | if_icmp cc f => simp only [rchk, Bool.and_eq_true, decide_eq_true_eq] at hc; have e1 := Nat.eq_of_beq_eq_true hc.1; subst e1; exact x_if_icmp hK hc.2 hd h
  | goto f => simp only [rchk, Bool.and_eq_true, decide_eq_true_eq] at hc; have e1 := Nat.eq_of_beq_eq_true hc.1; subst e1; exact x_goto hK hc.2 hd h
  | tableswitch df lo hi os => simp only [rchk, Bool.and_eq_true, decide_eq_true_eq] at hc; exact x_tableswitch hK hc.1 hc.2 hd h
  | getfield k => have e1 := Nat.eq_of_beq_eq_true hc; subst e1; exact x_getfield hK hd h hm
  | ireturn => have e1 := Nat.eq_of_beq_eq_true hc; subst e1; exact x_ireturn hd h
  | lreturn => have e1 := Nat.eq_of_beq_eq_true hc; subst e1; exact x_lreturn hd h
  | areturn => have e1 := Nat.eq_of_beq_eq_true hc; subst e1; exact x_areturn hd h
  | return_ => have e1 := Nat.eq_of_beq_eq_true hc; subst e1; exact x_return hd h
  | putfield idx =>
    have e1 := Nat.eq_of_beq_eq_true hc; subst e1
    simp only [st1] at h
    split at h
    · rename_i v a r
      cases hf : fld μ.1 idx a with
      | none => rw [hf] at h; exact h.elim
      | some q =>
        obtain ⟨ci, k, kd, rp⟩ := q
        rw [hf] at h
        obtain ⟨h1, h2⟩ := gd_inv h
        have h1 : ((fcl ci).2.1 k).2.2.2 = false := by simpa using h1
        match kd, hf, h2 with
        | 0, hf, h2 => exact x_putI hK hd hf h1 (Or.inl rfl) h2
        | 3, hf, h2 => exact x_putI hK hd hf h1 (Or.inr ⟨rfl, h2.1⟩) h2.2
        | 1, _, h2 => exact h2.elim
        | 2, _, h2 => exact h2.elim
        | n + 4, _, h2 => exact h2.elim
    · rename_i v a r
      cases hf : fld μ.1 idx a with
      | none => rw [hf] at h; exact h.elim
      | some q =>
        obtain ⟨ci, k, kd, rp⟩ := q
        rw [hf] at h
        obtain ⟨h1, h2⟩ := gd_inv h
        have h1 : ((fcl ci).2.1 k).2.2.2 = false := by simpa using h1
        match kd, hf, h2 with
        | 1, hf, h2 => exact x_putL hK hd hf h1 h2
        | 0, _, h2 => exact h2.elim
        | 2, _, h2 => exact h2.elim
        | n + 3, _, h2 => exact h2.elim
    · exact h.elim
  | invokestatic idx =>
    simp only [rchk, Bool.and_eq_true] at hc
    have e1 := Nat.eq_of_beq_eq_true hc.1; subst e1
    refine x_invokestatic hK hd h (fun μ2 hq => ?_) (fun q hq => ?_)
    · have h2 := hc.2
      rw [hq] at h2
      simp at h2
      exact h2
    · have h2 := hc.2
      obtain ⟨μ2, kd⟩ := q
      rw [hq] at h2
      simp only [Bool.and_eq_true] at h2
      exact Nat.le_of_ble_eq_true h2.1
  | _ => exact h.elim
abbrev Row : Type := Nat × Instr × Nat × List Nat × Int32
def tbok (μ : Mth) (tb : List Row) : Bool := tb.all fun q => decide (decode μ.2.2.1 q.1 = .ok (q.2.1, q.2.2.1)) && rchk μ.1 q.1 q.2.1 q.2.2.1 q.2.2.2.1 q.2.2.2.2
/-- fewer locals known -/
def msk : List Bool → List (Option Value) → List (Option Value)
  | _, [] => []
  | [], r => r
  | b :: bs, o :: r => (bif b then o else none) :: msk bs r
theorem lg_msk : ∀ {bs : List Bool} {L : List (Option Value)} {i : Nat} {v : Value}, lg (msk bs L) i = some v → lg L i = some v
  | [], [], _, _, h => h
  | _ :: _, [], _, _, h => h
  | [], _ :: _, _, _, h => h
  | true :: bs, o :: r, 0, v, h => h
  | false :: bs, o :: r, 0, v, h => by cases h
  | b :: bs, o :: r, i + 1, v, h => lg_msk (bs := bs) (L := r) h
theorem PX.weak {G : GG} {d : Nat} {μ : Mth} {Post : Option Value → PM → Prop} {pc : Nat} {L L2 : List (Option Value)} {st : List Value} {M : PM} (hw : ∀ i v, lg L i = some v → lg L2 i = some v) (h : PX G d μ Post pc L st M) : PX G d μ Post pc L2 st M :=
  fun p e s m args below meth c H locs ls hx hb hml hr hk hown hts hW hP hS hl => h p e s m args below meth c H locs ls hx hb hml hr hk hown hts hW hP hS ⟨hl.1, hl.2.1, fun i v hv => hl.2.2 i v (hw i v hv)⟩
/-- all the steps up to a cut, as one precondition; a cut names the locals that live there -/
def wp (G : GG) (d : Nat) (μ : Mth) (Post : Option Value → PM → Prop) (tb : List Row) (cuts : List (Nat × List Bool)) (K : KK) : Nat → KK
  | 0 => K
  | n + 1 => fun pc L st M => match lkp tb pc with
    | none => False
    | some (i, _, tg, kv) => st1 G d μ Post i tg kv pc L st M (fun pc2 L2 st2 M2 => match lkp cuts pc2 with
      | some ms => K pc2 (msk ms L2) st2 M2
      | none => wp G d μ Post tb cuts K n pc2 L2 st2 M2)
theorem wp_ok {G : GG} {d : Nat} {μ : Mth} {Post : Option Value → PM → Prop} {tb : List Row} (cuts : List (Nat × List Bool)) (hm : mok μ) (ht : tbok μ tb = true) : ∀ (n pc : Nat) (L : List (Option Value)) (st : List Value) (M : PM), wp G d μ Post tb cuts (PX G d μ Post) n pc L st M → PX G d μ Post pc L st M
  | 0, _, _, _, _, h => h
  | n + 1, pc, L, st, M, h => by
    unfold wp at h
    cases hl : lkp tb pc with
    | none => rw [hl] at h; exact h.elim
    | some q =>
      obtain ⟨i, ln, tg, kv⟩ := q
      rw [hl] at h
      have h1 := List.all_eq_true.mp ht _ (lkp_mem hl)
      simp only [Bool.and_eq_true, decide_eq_true_eq] at h1
      refine st1_ok (fun pc2 L2 st2 M2 h2 => ?_) hm h1.1 h1.2 h
      cases hq : lkp cuts pc2 with
      | some ms => rw [hq] at h2; exact PX.weak (fun _ _ => lg_msk) h2
      | none => rw [hq] at h2; exact wp_ok cuts hm ht n pc2 L2 st2 M2 h2
