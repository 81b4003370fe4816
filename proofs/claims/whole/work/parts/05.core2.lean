/-! one step, as a weakest precondition; its soundness -/
abbrev KK : Type := Nat → List (Option Value) → List Value → PM → Prop
def gd (b : Bool) (P : Prop) : Prop := match b with
  | true => P
  | false => False
theorem gd_inv {b : Bool} {P : Prop} (h : gd b P) : b = true ∧ P := by
  cases b with
  | true => exact ⟨rfl, h⟩
  | false => exact h.elim
def p1 (st : List Value) (f : Int32 → List Value → Prop) : Prop := match st with
  | .int a :: r => f a r
  | _ => False
def p2 (st : List Value) (f : Int32 → Int32 → List Value → Prop) : Prop := match st with
  | .int b :: .int a :: r => f a b r
  | _ => False
def q1 (st : List Value) (f : Int64 → List Value → Prop) : Prop := match st with
  | .long a :: r => f a r
  | _ => False
def q2 (st : List Value) (f : Int64 → Int64 → List Value → Prop) : Prop := match st with
  | .long b :: .long a :: r => f a b r
  | _ => False
def qi (st : List Value) (f : Int64 → Int32 → List Value → Prop) : Prop := match st with
  | .int b :: .long a :: r => f a b r
  | _ => False
def r1 (st : List Value) (f : Nat → List Value → Prop) : Prop := match st with
  | .ref a :: r => f a r
  | _ => False
def gI (o : Option Value) (f : Int32 → Prop) : Prop := match o with
  | some (.int x) => f x
  | _ => False
def gL (o : Option Value) (f : Int64 → Prop) : Prop := match o with
  | some (.long x) => f x
  | _ => False
def gR (o : Option Value) (f : Nat → Prop) : Prop := match o with
  | some (.ref x) => f x
  | _ => False
theorem p1_inv {st : List Value} {f : Int32 → List Value → Prop} (h : p1 st f) : ∃ a r, st = .int a :: r ∧ f a r := by
  unfold p1 at h; split at h
  · exact ⟨_, _, rfl, h⟩
  · exact h.elim
theorem p2_inv {st : List Value} {f : Int32 → Int32 → List Value → Prop} (h : p2 st f) : ∃ a b r, st = .int b :: .int a :: r ∧ f a b r := by
  unfold p2 at h; split at h
  · exact ⟨_, _, _, rfl, h⟩
  · exact h.elim
theorem q1_inv {st : List Value} {f : Int64 → List Value → Prop} (h : q1 st f) : ∃ a r, st = .long a :: r ∧ f a r := by
  unfold q1 at h; split at h
  · exact ⟨_, _, rfl, h⟩
  · exact h.elim
theorem q2_inv {st : List Value} {f : Int64 → Int64 → List Value → Prop} (h : q2 st f) : ∃ a b r, st = .long b :: .long a :: r ∧ f a b r := by
  unfold q2 at h; split at h
  · exact ⟨_, _, _, rfl, h⟩
  · exact h.elim
theorem qi_inv {st : List Value} {f : Int64 → Int32 → List Value → Prop} (h : qi st f) : ∃ a b r, st = .int b :: .long a :: r ∧ f a b r := by
  unfold qi at h; split at h
  · exact ⟨_, _, _, rfl, h⟩
  · exact h.elim
theorem r1_inv {st : List Value} {f : Nat → List Value → Prop} (h : r1 st f) : ∃ (a : Nat) (r : List Value), st = .ref a :: r ∧ f a r := by
  unfold r1 at h; split at h
  · exact ⟨_, _, rfl, h⟩
  · exact h.elim
theorem gI_inv {x : Option Value} {f : Int32 → Prop} (h : gI x f) : ∃ a, x = some (.int a) ∧ f a := by
  unfold gI at h; split at h
  · exact ⟨_, rfl, h⟩
  · exact h.elim
theorem gL_inv {x : Option Value} {f : Int64 → Prop} (h : gL x f) : ∃ a, x = some (.long a) ∧ f a := by
  unfold gL at h; split at h
  · exact ⟨_, rfl, h⟩
  · exact h.elim
theorem gR_inv {x : Option Value} {f : Nat → Prop} (h : gR x f) : ∃ a : Nat, x = some (.ref a) ∧ f a := by
  unfold gR at h; split at h
  · exact ⟨_, rfl, h⟩
  · exact h.elim
def ac5 (st : List Value) (f : Nat → Nat → Int32 → Int32 → Int32 → List Value → Prop) : Prop := match st with
  | .int n :: .int dp :: .ref b :: .int sp :: .ref a :: r => f a b sp dp n r
  | _ => False
theorem ac5_inv {st : List Value} {f : Nat → Nat → Int32 → Int32 → Int32 → List Value → Prop} (h : ac5 st f) : ∃ (a b : Nat) (sp dp n : Int32) (r : List Value), st = .int n :: .int dp :: .ref b :: .int sp :: .ref a :: r ∧ f a b sp dp n r := by
  unfold ac5 at h; split at h
  · exact ⟨_, _, _, _, _, _, rfl, h⟩
  · exact h.elim
def ar2 (a b : Nat) (f : Nat → Nat → Prop) : Prop := match shp[a]?, shp[b]? with
  | some (.inl (t, n0)), some (.inl (t2, n1)) => gd (Nat.beq t 0 && Nat.beq t2 0) (f n0 n1)
  | _, _ => False
theorem ar2_inv {a b : Nat} {f : Nat → Nat → Prop} (h : ar2 a b f) : ∃ n0 n1, shp[a]? = some (.inl (0, n0)) ∧ shp[b]? = some (.inl (0, n1)) ∧ f n0 n1 := by
  unfold ar2 at h; split at h
  · rename_i t n0 t2 n1 h1 h2
    obtain ⟨h3, h4⟩ := gd_inv h
    rw [Bool.and_eq_true] at h3
    have z1 := Nat.eq_of_beq_eq_true h3.1
    have z2 := Nat.eq_of_beq_eq_true h3.2
    subst z1; subst z2
    exact ⟨_, _, h1, h2, h4⟩
  · exact h.elim
def cpI (M : PM) (b a sp dp n : Nat) : PM := (va_up M.1 b (va_cpy (M.1 a) (M.1 b) sp dp n), M.2)
def br (c A B : Prop) : Prop := (c → A) ∧ (¬ c → B)
def bz (c : ClassFile.Cond) (a : Int32) (A B : Prop) : Prop := match c with
  | .eq => br (a = 0) A B
  | .ne => br (a = 0) B A
  | .lt => br (a < 0) A B
  | .ge => br (0 ≤ a) A B
  | .gt => br (0 < a) A B
  | .le => br (a ≤ 0) A B
def bc (c : ClassFile.Cond) (a b : Int32) (A B : Prop) : Prop := match c with
  | .eq => br (a = b) A B
  | .ne => br (a = b) B A
  | .lt => br (a < b) A B
  | .ge => br (b ≤ a) A B
  | .gt => br (b < a) A B
  | .le => br (a ≤ b) A B
/-- a field by the constant pool's entry, at a place: its class, its slot, its kind -/
def fld (own idx a : Nat) : Option (Nat × Nat × Nat × Nat) := match lkp (fll.getD own []) idx with
  | none => none
  | some q => match shp[a]? with
    | some (.inr (ci, ks)) => bif Nat.beq ci q.1 then (match ks[q.2]? with | some kd => some (ci, q.2, kd.1, kd.2) | none => none) else none
    | _ => none
theorem fld_inv {own idx a ci k kd rp : Nat} (h : fld own idx a = some (ci, k, kd, rp)) : ∃ ks, flok own (idx, ci, k) ∧ shp[a]? = some (.inr (ci, ks)) ∧ ks[k]? = some (kd, rp) := by
  unfold fld at h
  cases hl : lkp (fll.getD own []) idx with
  | none => rw [hl] at h; cases h
  | some q =>
    rw [hl] at h
    cases hs : shp[a]? with
    | none => rw [hs] at h; cases h
    | some sh =>
      rw [hs] at h
      cases sh with
      | inl z => cases h
      | inr z =>
        obtain ⟨c0, ks⟩ := z
        dsimp only at h
        cases hb : Nat.beq c0 q.1 with
        | false => rw [hb] at h; cases h
        | true =>
          rw [hb] at h
          cases hk : ks[q.2]? with
          | none => simp only [hk, cond_true] at h; cases h
          | some kd0 =>
            simp only [hk, cond_true] at h
            have hc : c0 = q.1 := Nat.eq_of_beq_eq_true hb
            obtain ⟨q1, q2⟩ := q
            obtain ⟨k1, k2⟩ := kd0
            simp only [Option.some.injEq, Prod.mk.injEq] at h
            obtain ⟨e1, e2, e3, e4⟩ := h
            subst e1; subst e2; subst e3; subst e4
            dsimp only at hc hk
            subst hc
            refine ⟨ks, ?_, rfl, hk⟩
            have hm := lkp_mem hl
            cases ho : fll[own]? with
            | none => rw [List.getD_eq_getElem?_getD, ho] at hm; cases hm
            | some row => rw [List.getD_eq_getElem?_getD, ho] at hm; exact fll_ok own row ho _ hm
/-- the fields of the constant Strings -/
def sfl (own idx a : Nat) : Option Value := bif Nat.beq own 13 && Nat.ble 210 a && Nat.ble a 212 then (bif Nat.beq idx 9 then some (.ref (a + 10)) else bif Nat.beq idx 15 then some (.int 0) else none) else none
/-- constant arrays of ints -/
def cti (a : Nat) : Option (List Int32) := bif Nat.beq a 200 then some ctA else bif Nat.beq a 201 then some ctM else none
/-- an answer fits its type -/
def ret1 (ret : Option FieldType) (v : Int32) (P : Prop) : Prop := match ret with
  | some .int => P
  | some .boolean => (v = 0 ∨ v = 1) ∧ P
  | some ty => narrow ty (.int v) = .int v ∧ P
  | none => False
def csum (st : List Value) : Nat := (st.map fun v => v.category).sum
def swt (K : Nat → Prop) (a : Int32) (lo hi : Int) (dt : Nat) : Int → List Nat → Prop
  | _, [] => (a.toInt < lo ∨ hi < a.toInt) → K dt
  | n, t :: ts => (a = Int32.ofInt n → K t) ∧ swt K a lo hi dt (n + 1) ts
def recv (a ci : Nat) : Bool := match shp[a]? with
  | some (.inr (c0, _)) => Nat.beq c0 ci
  | _ => Nat.beq ci 13 && Nat.ble 210 a && Nat.ble a 212
def gst (own idx : Nat) : Option (List Value) :=
  bif Nat.beq own 8 then (bif Nat.beq idx 322 then some [.ref 201] else bif Nat.beq idx 325 then some [.ref 200] else none)
  else bif Nat.beq own 13 then (bif Nat.beq idx 38 then some [.int 1] else bif Nat.beq idx 1053 then some [.null, .ref 230] else none) else none
def allv (f : Value → Prop) : List Value → Prop
  | [] => True
  | [v] => f v
  | v :: r => f v ∧ allv f r
def gN (v : Option Value) (P : Prop) : Prop := match v with
  | none => P
  | some _ => False
theorem gN_inv {v : Option Value} {P : Prop} (h : gN v P) : v = none ∧ P := by
  cases v with
  | none => exact ⟨rfl, h⟩
  | some _ => exact h.elim
def rk (ret : Option FieldType) (K : KK) (pc : Nat) (L : List (Option Value)) (r : List Value) : Option Value → PM → Prop := match ret with
  | none => fun v M2 => gN v (K pc L r M2)
  | some .long => fun v M2 => gL v (fun x => K pc L (.long x :: r) M2)
  | some (.object _) => fun v M2 => gR v (fun x => K pc L (.ref x :: r) M2)
  | some _ => fun v M2 => gI v (fun x => K pc L (.int x :: r) M2)
theorem rk_inv {ret : Option FieldType} {K : KK} {pc : Nat} {L : List (Option Value)} {r : List Value} {v : Option Value} {M2 : PM} (h : rk ret K pc L r v M2) : K pc L (v.toList ++ r) M2 := by
  unfold rk at h
  split at h
  · obtain ⟨rfl, h1⟩ := gN_inv h; exact h1
  · obtain ⟨x, rfl, h1⟩ := gL_inv h; exact h1
  · obtain ⟨x, rfl, h1⟩ := gR_inv h; exact h1
  · obtain ⟨x, rfl, h1⟩ := gI_inv h; exact h1
def callee (own idx : Nat) : Option (Mth × Nat) := lkp (cll.getD own []) idx
theorem callee_ok {own idx : Nat} {q : Mth × Nat} (h : callee own idx = some q) : clok own (idx, q) := by
  have hm := lkp_mem h
  cases ho : cll[own]? with
  | none => rw [List.getD_eq_getElem?_getD, ho] at hm; cases hm
  | some row => rw [List.getD_eq_getElem?_getD, ho] at hm; exact cll_ok own row ho _ hm
def kci (own idx : Nat) : Option Int32 := lkp (kil.getD own []) idx
def kcl (own idx : Nat) : Option Int64 := lkp (kll.getD own []) idx
theorem kci_ok {own idx : Nat} {q : Int32} (h : kci own idx = some q) : Cond.constant (nmo own) idx q ∈ gw := by
  have hm := lkp_mem h
  cases ho : kil[own]? with
  | none => rw [List.getD_eq_getElem?_getD, ho] at hm; cases hm
  | some row => rw [List.getD_eq_getElem?_getD, ho] at hm; exact kil_ok own row ho _ hm
theorem kcl_ok {own idx : Nat} {q : Int64} (h : kcl own idx = some q) : Cond.constantLong (nmo own) idx q ∈ gw := by
  have hm := lkp_mem h
  cases ho : kll[own]? with
  | none => rw [List.getD_eq_getElem?_getD, ho] at hm; cases hm
  | some row => rw [List.getD_eq_getElem?_getD, ho] at hm; exact kll_ok own row ho _ hm

def dp1 (st : List Value) (f : Value → List Value → Prop) : Prop := match st with
  | v :: r => gd (Nat.beq v.category 1) (f v r)
  | _ => False
theorem dp1_inv {st : List Value} {f : Value → List Value → Prop} (h : dp1 st f) : ∃ v r, st = v :: r ∧ v.category = 1 ∧ f v r := by
  unfold dp1 at h; split at h
  · obtain ⟨h1, h2⟩ := gd_inv h; exact ⟨_, _, rfl, Nat.eq_of_beq_eq_true h1, h2⟩
  · exact h.elim
def dp2 (st : List Value) (f : Value → Value → List Value → Prop) : Prop := match st with
  | v :: w :: r => gd (Nat.beq v.category 1) (gd (Nat.beq w.category 1) (f v w r))
  | _ => False
theorem dp2_inv {st : List Value} {f : Value → Value → List Value → Prop} (h : dp2 st f) : ∃ v w r, st = v :: w :: r ∧ v.category = 1 ∧ w.category = 1 ∧ f v w r := by
  unfold dp2 at h; split at h
  · obtain ⟨h1, h2⟩ := gd_inv h; obtain ⟨h2, h3⟩ := gd_inv h2; exact ⟨_, _, _, rfl, Nat.eq_of_beq_eq_true h1, Nat.eq_of_beq_eq_true h2, h3⟩
  · exact h.elim

def st1 (G : GG) (d : Nat) (μ : Mth) (Post : Option Value → PM → Prop) (i : Instr) (tg : List Nat) (kv : Int32) (pc : Nat) (L : List (Option Value)) (st : List Value) (M : PM) (K : KK) : Prop := match i with
  | .iconst _ => K (pc + 1) L (.int kv :: st) M
  | .bipush _ => K (pc + 2) L (.int kv :: st) M
  | .sipush _ => K (pc + 3) L (.int kv :: st) M
  | .lconst k => K (pc + 1) L (.long (Int64.ofNat (k : Nat)) :: st) M
  | .iload k => gI (lg L k) (fun x => K (pc + 2) L (.int x :: st) M)
  | .iload_n k => gI (lg L (k : Nat)) (fun x => K (pc + 1) L (.int x :: st) M)
  | .lload k => gL (lg L k) (fun x => K (pc + 2) L (.long x :: st) M)
  | .lload_n k => gL (lg L (k : Nat)) (fun x => K (pc + 1) L (.long x :: st) M)
  | .aload_n k => gR (lg L (k : Nat)) (fun x => K (pc + 1) L (.ref x :: st) M)
  | .istore k => p1 st (fun x r => gd (Nat.blt k μ.2.2.2.1) (K (pc + 2) (stL L k (.int x)) r M))
  | .istore_n k => p1 st (fun x r => gd (Nat.blt (k : Nat) μ.2.2.2.1) (K (pc + 1) (stL L (k : Nat) (.int x)) r M))
  | .astore_n k => r1 st (fun x r => gd (Nat.blt (k : Nat) μ.2.2.2.1) (K (pc + 1) (stL L (k : Nat) (.ref x)) r M))
  | .lstore k => q1 st (fun x r => gd (Nat.blt (k + 1) μ.2.2.2.1) (K (pc + 2) (stL (noL L (k + 1)) k (.long x)) r M))
  | .lstore_n k => q1 st (fun x r => gd (Nat.blt ((k : Nat) + 1) μ.2.2.2.1) (K (pc + 1) (stL (noL L ((k : Nat) + 1)) (k : Nat) (.long x)) r M))
  | .iinc k _ => gI (lg L k) (fun x => gd (Nat.blt k μ.2.2.2.1) (K (pc + 3) (stL L k (.int (x + kv))) st M))
  | .iadd => p2 st (fun a b r => K (pc + 1) L (.int (a + b) :: r) M)
  | .isub => p2 st (fun a b r => K (pc + 1) L (.int (a - b) :: r) M)
  | .imul => p2 st (fun a b r => K (pc + 1) L (.int (a * b) :: r) M)
  | .ishl => p2 st (fun a b r => K (pc + 1) L (.int (a <<< (b &&& 31)) :: r) M)
  | .ishr => p2 st (fun a b r => K (pc + 1) L (.int (a >>> (b &&& 31)) :: r) M)
  | .iand => p2 st (fun a b r => K (pc + 1) L (.int (a &&& b) :: r) M)
  | .ior => p2 st (fun a b r => K (pc + 1) L (.int (a ||| b) :: r) M)
  | .ixor => p2 st (fun a b r => K (pc + 1) L (.int (a ^^^ b) :: r) M)
  | .idiv => p2 st (fun a b r => ¬ b = 0 ∧ K (pc + 1) L (.int (a / b) :: r) M)
  | .irem => p2 st (fun a b r => ¬ b = 0 ∧ K (pc + 1) L (.int (a - a / b * b) :: r) M)
  | .iushr => p2 st (fun a b r => K (pc + 1) L (.int ((a.toUInt32 >>> (b.toUInt32 &&& Int32.toUInt32 31)).toInt32) :: r) M)
  | .ineg => p1 st (fun a r => K (pc + 1) L (.int (-a) :: r) M)
  | .i2c => p1 st (fun a r => K (pc + 1) L (.int (a.toUInt32 % 65536).toInt32 :: r) M)
  | .i2l => p1 st (fun a r => K (pc + 1) L (.long a.toInt64 :: r) M)
  | .l2i => q1 st (fun a r => K (pc + 1) L (.int a.toInt32 :: r) M)
  | .ladd => q2 st (fun a b r => K (pc + 1) L (.long (a + b) :: r) M)
  | .lmul => q2 st (fun a b r => K (pc + 1) L (.long (a * b) :: r) M)
  | .land => q2 st (fun a b r => K (pc + 1) L (.long (a &&& b) :: r) M)
  | .lor => q2 st (fun a b r => K (pc + 1) L (.long (a ||| b) :: r) M)
  | .lshl => qi st (fun a b r => K (pc + 1) L (.long (a <<< (b.toInt64 &&& 63)) :: r) M)
  | .lshr => qi st (fun a b r => K (pc + 1) L (.long (a >>> (b.toInt64 &&& 63)) :: r) M)
  | .lushr => qi st (fun a b r => K (pc + 1) L (.long ((a.toUInt64 >>> (b.toInt64.toUInt64 &&& Int64.toUInt64 63)).toInt64) :: r) M)
  | .lcmp => q2 st (fun a b r => K (pc + 1) L (.int (lg_cmp a b) :: r) M)
  | .dup => dp1 st (fun v r => K (pc + 1) L (v :: v :: r) M)
  | .pop => dp1 st (fun _ r => K (pc + 1) L r M)
  | .dup2 => dp2 st (fun v w r => K (pc + 1) L (v :: w :: v :: w :: r) M)
  | .ifCond c _ => p1 st (fun a r => bz c a (K (tg.getD 0 0) L r M) (K (pc + 3) L r M))
  | .if_icmp c _ => p2 st (fun a b r => bc c a b (K (tg.getD 0 0) L r M) (K (pc + 3) L r M))
  | .goto _ => K (tg.getD 0 0) L st M
  | .tableswitch _ lo hi _ => p1 st (fun a r => swt (fun t => K t L r M) a lo hi (tg.getD 0 0) lo tg.tail)
  | .getfield idx => r1 st (fun a r => match fld μ.1 idx a with | some (_, k, kd, rp) => K (pc + 3) L (pfv pid M a k (kd, rp) :: r) M | none => (match sfl μ.1 idx a with | some v => K (pc + 3) L (v :: r) M | none => False))
  | .putfield idx => match st with
    | .int v :: .ref a :: r => (match fld μ.1 idx a with | some (ci, k, kd, _) => gd (!((fcl ci).2.1 k).2.2.2) (match kd with | 0 => K (pc + 3) L r (wI M a k v) | 3 => (v = 0 ∨ v = 1) ∧ K (pc + 3) L r (wI M a k v) | _ => False) | none => False)
    | .long v :: .ref a :: r => (match fld μ.1 idx a with | some (ci, k, kd, _) => gd (!((fcl ci).2.1 k).2.2.2) (match kd with | 1 => K (pc + 3) L r (wL M a k v) | _ => False) | none => False)
    | _ => False
  | .getstatic idx => match gst μ.1 idx with | some vs => allv (fun v => K (pc + 3) L (v :: st) M) vs | none => False
  | .iaload => p1 st (fun i st1 => r1 st1 (fun a r => match shp[a]? with
    | some (.inl (t, n)) => gd (Nat.beq t 0) (vp_in i n ∧ K (pc + 1) L (.int (M.1 a i.toNatClampNeg) :: r) M)
    | _ => (match cti a with | some l => vp_in i 6 ∧ K (pc + 1) L (.int (l.getD i.toNatClampNeg 0) :: r) M | none => False)))
  | .baload => p1 st (fun i st1 => r1 st1 (fun a r => match shp[a]? with
    | some (.inl (t, n)) => gd (Nat.beq t 1) (vp_in i n ∧ K (pc + 1) L (.int (M.1 a i.toNatClampNeg) :: r) M)
    | _ => gd (Nat.ble 220 a && Nat.ble a 222) (vp_in i 5 ∧ K (pc + 1) L (.int ((ctB.getD (a - 220) []).getD i.toNatClampNeg 0) :: r) M)))
  | .laload => p1 st (fun i st1 => r1 st1 (fun a r => match shp[a]? with
    | some (.inl (t, n)) => gd (Nat.beq t 2) (vp_in i n ∧ K (pc + 1) L (.long (M.2 a i.toNatClampNeg) :: r) M)
    | _ => False))
  | .iastore => p2 st (fun i v st1 => r1 st1 (fun a r => match shp[a]? with
    | some (.inl (t, n)) => gd (Nat.beq t 0) (vp_in i n ∧ K (pc + 1) L r (wI M a i.toNatClampNeg v))
    | _ => False))
  | .bastore => p2 st (fun i v st1 => r1 st1 (fun a r => match shp[a]? with
    | some (.inl (t, n)) => gd (Nat.beq t 1) (vp_in i n ∧ (v = 0 ∨ v = 1) ∧ K (pc + 1) L r (wI M a i.toNatClampNeg v))
    | _ => False))
  | .lastore => q1 st (fun v st0 => p1 st0 (fun i st1 => r1 st1 (fun a r => match shp[a]? with
    | some (.inl (t, n)) => gd (Nat.beq t 2) (vp_in i n ∧ K (pc + 1) L r (wL M a i.toNatClampNeg v))
    | _ => False)))
  | .arraylength => r1 st (fun a r => match shp[a]? with
    | some (.inl (t, n)) => gd (Nat.ble t 2) (K (pc + 1) L (.int (Int32.ofNat n) :: r) M)
    | _ => gd (Nat.ble 220 a && Nat.ble a 222) (K (pc + 1) L (.int 5 :: r) M))
  | .ldc idx => match kci μ.1 idx with
    | some v => K (pc + 2) L (.int v :: st) M
    | none => gd (Nat.beq μ.1 6) (bif Nat.beq idx 98 then K (pc + 2) L (.ref 210 :: st) M else bif Nat.beq idx 104 then K (pc + 2) L (.ref 211 :: st) M else bif Nat.beq idx 106 then K (pc + 2) L (.ref 212 :: st) M else False)
  | .ldc_w idx => match kci μ.1 idx with | some v => K (pc + 3) L (.int v :: st) M | none => False
  | .ldc2_w idx => match kcl μ.1 idx with | some v => K (pc + 3) L (.long v :: st) M | none => False
  | .invokevirtual idx => match callee μ.1 idx with
    | some (μ2, kd) => gd (Nat.beq kd 0) (gd (!μ2.2.2.2.2.2.1) (r1 (st.drop μ2.2.2.2.2.2.2) (fun a r => gd (Nat.ble (csum r) 8 && recv a μ2.1) (PC G d μ2 (.ref a :: (st.take μ2.2.2.2.2.2.2).reverse) M (rk μ2.2.2.2.2.1 K (pc + 3) L r)))))
    | none => False
  | .invokestatic idx => match callee μ.1 idx with
    | some (μ2, kd) => (match kd with
      | 3 => ac5 st (fun a b sp dp n r => gd (Nat.ble (csum r) 8) (ar2 a b (fun n0 n1 => (¬ sp < 0 ∧ ¬ dp < 0 ∧ ¬ n < 0 ∧ sp.toNatClampNeg + n.toNatClampNeg ≤ n0 ∧ dp.toNatClampNeg + n.toNatClampNeg ≤ n1) ∧ K (pc + 3) L r (cpI M b a sp.toNatClampNeg dp.toNatClampNeg n.toNatClampNeg))))
      | 4 => p1 st (fun x r => gd (Nat.ble (csum r) 8) (K (pc + 3) L (.int (if 0 ≤ x then x else 0 - x) :: r) M))
      | 5 => p2 st (fun x y r => gd (Nat.ble (csum r) 8) (K (pc + 3) L (.int (if x < y then y else x) :: r) M))
      | 6 => p2 st (fun x y r => gd (Nat.ble (csum r) 8) (K (pc + 3) L (.int (if y < x then y else x) :: r) M))
      | 0 => False
      | _ => gd (μ2.2.2.2.2.2.1 && Nat.ble μ2.2.2.2.2.2.2 st.length && Nat.ble (csum (st.drop μ2.2.2.2.2.2.2)) 8) (PC G d μ2 ((st.take μ2.2.2.2.2.2.2).reverse) M (rk μ2.2.2.2.2.1 K (pc + 3) L (st.drop μ2.2.2.2.2.2.2))))
    | none => False
  | .ireturn => match st with | [.int v] => ret1 μ.2.2.2.2.1 v (Post (some (.int v)) M) | _ => False
  | .lreturn => match st with | [.long v] => gd (decide (μ.2.2.2.2.1 = some .long)) (Post (some (.long v)) M) | _ => False
  | .areturn => match st with | [.ref v] => (match μ.2.2.2.2.1 with | some (.object _) => Post (some (.ref v)) M | _ => False) | _ => False
  | .return_ => match st with | [] => (match μ.2.2.2.2.1 with | none => Post none M | _ => False) | _ => False
  | _ => False
def HK (G : GG) (d : Nat) (μ : Mth) (Post : Option Value → PM → Prop) (K : KK) : Prop := ∀ pc L st M, K pc L st M → PX G d μ Post pc L st M
section X1
variable {G : GG} {d : Nat} {μ : Mth} {Post : Option Value → PM → Prop} {pc : Nat} {L : List (Option Value)} {st : List Value} {M : PM}

theorem x_iconst {K : KK} (hK : HK G d μ Post K) {n : Int} {kv : Int32} (hv : Int32.ofInt n = kv) (hd : decode μ.2.2.1 pc = .ok (.iconst n, 1)) (h : K (pc + 1) L (.int kv :: st) M) : PX G d μ Post pc L st M := by
  intro p e s m args below meth c H locs ls hx hb hml hr hk hown hts hW hP hS hl
  exact lv_iconst hx hb hd hv (hK _ _ _ _ h p e s m args below meth c H locs ls hx hb hml hr hk hown hts hW hP hS hl)
theorem x_bipush {K : KK} (hK : HK G d μ Post K) {n : Int} {kv : Int32} (hv : (Int8.ofInt n).toInt32 = kv) (hd : decode μ.2.2.1 pc = .ok (.bipush n, 2)) (h : K (pc + 2) L (.int kv :: st) M) : PX G d μ Post pc L st M := by
  intro p e s m args below meth c H locs ls hx hb hml hr hk hown hts hW hP hS hl
  exact lv_bipush hx hb hd hv (hK _ _ _ _ h p e s m args below meth c H locs ls hx hb hml hr hk hown hts hW hP hS hl)
theorem x_sipush {K : KK} (hK : HK G d μ Post K) {n : Int} {kv : Int32} (hv : (Int16.ofInt n).toInt32 = kv) (hd : decode μ.2.2.1 pc = .ok (.sipush n, 3)) (h : K (pc + 3) L (.int kv :: st) M) : PX G d μ Post pc L st M := by
  intro p e s m args below meth c H locs ls hx hb hml hr hk hown hts hW hP hS hl
  exact lv_sipush hx hb hd hv (hK _ _ _ _ h p e s m args below meth c H locs ls hx hb hml hr hk hown hts hW hP hS hl)
theorem x_lconst {K : KK} (hK : HK G d μ Post K) {k : Fin 2} (hd : decode μ.2.2.1 pc = .ok (.lconst k, 1)) (h : K (pc + 1) L (.long (Int64.ofNat (k : Nat)) :: st) M) : PX G d μ Post pc L st M := by
  intro p e s m args below meth c H locs ls hx hb hml hr hk hown hts hW hP hS hl
  exact lv_lconst hx hb hd rfl (hK _ _ _ _ h p e s m args below meth c H locs ls hx hb hml hr hk hown hts hW hP hS hl)
theorem x_iload {K : KK} (hK : HK G d μ Post K) {k : Nat} (hd : decode μ.2.2.1 pc = .ok (.iload k, 2)) (h : gI (lg L k) (fun x => K (pc + 2) L (.int x :: st) M)) : PX G d μ Post pc L st M := by
  intro p e s m args below meth c H locs ls hx hb hml hr hk hown hts hW hP hS hl
  obtain ⟨x, e1, h1⟩ := gI_inv h
  exact lv_iload hx hb hd (hl.2.2 _ _ e1) (hK _ _ _ _ h1 p e s m args below meth c H locs ls hx hb hml hr hk hown hts hW hP hS hl)
theorem x_iload_n {K : KK} (hK : HK G d μ Post K) {k : Fin 4} (hd : decode μ.2.2.1 pc = .ok (.iload_n k, 1)) (h : gI (lg L (k : Nat)) (fun x => K (pc + 1) L (.int x :: st) M)) : PX G d μ Post pc L st M := by
  intro p e s m args below meth c H locs ls hx hb hml hr hk hown hts hW hP hS hl
  obtain ⟨x, e1, h1⟩ := gI_inv h
  exact lv_iload_n hx hb hd rfl (hl.2.2 _ _ e1) (hK _ _ _ _ h1 p e s m args below meth c H locs ls hx hb hml hr hk hown hts hW hP hS hl)
theorem x_lload {K : KK} (hK : HK G d μ Post K) {k : Nat} (hd : decode μ.2.2.1 pc = .ok (.lload k, 2)) (h : gL (lg L k) (fun x => K (pc + 2) L (.long x :: st) M)) : PX G d μ Post pc L st M := by
  intro p e s m args below meth c H locs ls hx hb hml hr hk hown hts hW hP hS hl
  obtain ⟨x, e1, h1⟩ := gL_inv h
  exact lv_lload hx hb hd (hl.2.2 _ _ e1) (hK _ _ _ _ h1 p e s m args below meth c H locs ls hx hb hml hr hk hown hts hW hP hS hl)
theorem x_lload_n {K : KK} (hK : HK G d μ Post K) {k : Fin 4} (hd : decode μ.2.2.1 pc = .ok (.lload_n k, 1)) (h : gL (lg L (k : Nat)) (fun x => K (pc + 1) L (.long x :: st) M)) : PX G d μ Post pc L st M := by
  intro p e s m args below meth c H locs ls hx hb hml hr hk hown hts hW hP hS hl
  obtain ⟨x, e1, h1⟩ := gL_inv h
  exact lv_lload_n hx hb hd rfl (hl.2.2 _ _ e1) (hK _ _ _ _ h1 p e s m args below meth c H locs ls hx hb hml hr hk hown hts hW hP hS hl)
theorem x_aload_n {K : KK} (hK : HK G d μ Post K) {k : Fin 4} (hd : decode μ.2.2.1 pc = .ok (.aload_n k, 1)) (h : gR (lg L (k : Nat)) (fun x => K (pc + 1) L (.ref x :: st) M)) : PX G d μ Post pc L st M := by
  intro p e s m args below meth c H locs ls hx hb hml hr hk hown hts hW hP hS hl
  obtain ⟨x, e1, h1⟩ := gR_inv h
  exact lv_aload_n hx hb hd rfl (hl.2.2 _ _ e1) (hK _ _ _ _ h1 p e s m args below meth c H locs ls hx hb hml hr hk hown hts hW hP hS hl)
theorem x_istore {K : KK} (hK : HK G d μ Post K) {k : Nat} (hd : decode μ.2.2.1 pc = .ok (.istore k, 2)) (h : p1 st (fun x r => gd (Nat.blt k μ.2.2.2.1) (K (pc + 2) (stL L k (.int x)) r M))) : PX G d μ Post pc L st M := by
  intro p e s m args below meth c H locs ls hx hb hml hr hk hown hts hW hP hS hl
  obtain ⟨x, r, rfl, h1⟩ := p1_inv h
  obtain ⟨hk1, h1⟩ := gd_inv h1
  exact lv_istore hx hb hd hl.has (Nat.le_of_ble_eq_true hk1) rfl (fun ls2 hl2 => hK _ _ _ _ (h1) p e s m args below meth c H locs ls2 hx hb hml hr hk hown hts hW hP hS (lvH.st1 hl2))
theorem x_istore_n {K : KK} (hK : HK G d μ Post K) {k : Fin 4} (hd : decode μ.2.2.1 pc = .ok (.istore_n k, 1)) (h : p1 st (fun x r => gd (Nat.blt (k : Nat) μ.2.2.2.1) (K (pc + 1) (stL L (k : Nat) (.int x)) r M))) : PX G d μ Post pc L st M := by
  intro p e s m args below meth c H locs ls hx hb hml hr hk hown hts hW hP hS hl
  obtain ⟨x, r, rfl, h1⟩ := p1_inv h
  obtain ⟨hk1, h1⟩ := gd_inv h1
  exact lv_istore_n hx hb hd rfl hl.has (Nat.le_of_ble_eq_true hk1) rfl (fun ls2 hl2 => hK _ _ _ _ (h1) p e s m args below meth c H locs ls2 hx hb hml hr hk hown hts hW hP hS (lvH.st1 hl2))
theorem x_astore_n {K : KK} (hK : HK G d μ Post K) {k : Fin 4} (hd : decode μ.2.2.1 pc = .ok (.astore_n k, 1)) (h : r1 st (fun x r => gd (Nat.blt (k : Nat) μ.2.2.2.1) (K (pc + 1) (stL L (k : Nat) (.ref x)) r M))) : PX G d μ Post pc L st M := by
  intro p e s m args below meth c H locs ls hx hb hml hr hk hown hts hW hP hS hl
  obtain ⟨x, r, rfl, h1⟩ := r1_inv h
  obtain ⟨hk1, h1⟩ := gd_inv h1
  exact lv_astore_n hx hb hd rfl hl.has (Nat.le_of_ble_eq_true hk1) rfl (fun ls2 hl2 => hK _ _ _ _ (h1) p e s m args below meth c H locs ls2 hx hb hml hr hk hown hts hW hP hS (lvH.st1 hl2))
theorem x_lstore {K : KK} (hK : HK G d μ Post K) {k : Nat} (hd : decode μ.2.2.1 pc = .ok (.lstore k, 2)) (h : q1 st (fun x r => gd (Nat.blt (k + 1) μ.2.2.2.1) (K (pc + 2) (stL (noL L (k + 1)) k (.long x)) r M))) : PX G d μ Post pc L st M := by
  intro p e s m args below meth c H locs ls hx hb hml hr hk hown hts hW hP hS hl
  obtain ⟨x, r, rfl, h1⟩ := q1_inv h
  obtain ⟨hk1, h1⟩ := gd_inv h1
  exact lv_lstore hx hb hd hl.has (Nat.le_of_ble_eq_true hk1) rfl (fun ls2 hl2 => hK _ _ _ _ (h1) p e s m args below meth c H locs ls2 hx hb hml hr hk hown hts hW hP hS (lvH.st2 hl2))
theorem x_lstore_n {K : KK} (hK : HK G d μ Post K) {k : Fin 4} (hd : decode μ.2.2.1 pc = .ok (.lstore_n k, 1)) (h : q1 st (fun x r => gd (Nat.blt ((k : Nat) + 1) μ.2.2.2.1) (K (pc + 1) (stL (noL L ((k : Nat) + 1)) (k : Nat) (.long x)) r M))) : PX G d μ Post pc L st M := by
  intro p e s m args below meth c H locs ls hx hb hml hr hk hown hts hW hP hS hl
  obtain ⟨x, r, rfl, h1⟩ := q1_inv h
  obtain ⟨hk1, h1⟩ := gd_inv h1
  exact lv_lstore_n hx hb hd rfl hl.has (Nat.le_of_ble_eq_true hk1) rfl (fun ls2 hl2 => hK _ _ _ _ (h1) p e s m args below meth c H locs ls2 hx hb hml hr hk hown hts hW hP hS (lvH.st2 hl2))
theorem x_iinc {K : KK} (hK : HK G d μ Post K) {k : Nat} {n : Int} {kv : Int32} (hv : Int32.ofInt n = kv) (hd : decode μ.2.2.1 pc = .ok (.iinc k n, 3)) (h : gI (lg L k) (fun x => gd (Nat.blt k μ.2.2.2.1) (K (pc + 3) (stL L k (.int (x + kv))) st M))) : PX G d μ Post pc L st M := by
  intro p e s m args below meth c H locs ls hx hb hml hr hk hown hts hW hP hS hl
  obtain ⟨x, e1, h1⟩ := gI_inv h
  obtain ⟨hk1, h1⟩ := gd_inv h1
  obtain ⟨j, hj⟩ := List.mem_iff_getElem?.mp (cvl_mem (ad := G.2.2.2) e1)
  exact lv_iinc hx hb hd hl.has (k := j) hj (by rw [hv]) (Nat.le_of_ble_eq_true hk1) rfl (fun ls2 hl2 => hK _ _ _ _ (h1) p e s m args below meth c H locs ls2 hx hb hml hr hk hown hts hW hP hS (lvH.st1 hl2))
theorem x_iadd {K : KK} (hK : HK G d μ Post K) (hd : decode μ.2.2.1 pc = .ok (.iadd, 1)) (h : p2 st (fun a b r => K (pc + 1) L (.int (a + b) :: r) M)) : PX G d μ Post pc L st M := by
  intro p e s m args below meth c H locs ls hx hb hml hr hk hown hts hW hP hS hl
  obtain ⟨a, b, r, rfl, h1⟩ := p2_inv h
  exact lv_iadd hx hb hd (hK _ _ _ _ h1 p e s m args below meth c H locs ls hx hb hml hr hk hown hts hW hP hS hl)
theorem x_isub {K : KK} (hK : HK G d μ Post K) (hd : decode μ.2.2.1 pc = .ok (.isub, 1)) (h : p2 st (fun a b r => K (pc + 1) L (.int (a - b) :: r) M)) : PX G d μ Post pc L st M := by
  intro p e s m args below meth c H locs ls hx hb hml hr hk hown hts hW hP hS hl
  obtain ⟨a, b, r, rfl, h1⟩ := p2_inv h
  exact lv_isub hx hb hd (hK _ _ _ _ h1 p e s m args below meth c H locs ls hx hb hml hr hk hown hts hW hP hS hl)
theorem x_imul {K : KK} (hK : HK G d μ Post K) (hd : decode μ.2.2.1 pc = .ok (.imul, 1)) (h : p2 st (fun a b r => K (pc + 1) L (.int (a * b) :: r) M)) : PX G d μ Post pc L st M := by
  intro p e s m args below meth c H locs ls hx hb hml hr hk hown hts hW hP hS hl
  obtain ⟨a, b, r, rfl, h1⟩ := p2_inv h
  exact lv_imul hx hb hd (hK _ _ _ _ h1 p e s m args below meth c H locs ls hx hb hml hr hk hown hts hW hP hS hl)
theorem x_ishl {K : KK} (hK : HK G d μ Post K) (hd : decode μ.2.2.1 pc = .ok (.ishl, 1)) (h : p2 st (fun a b r => K (pc + 1) L (.int (a <<< (b &&& 31)) :: r) M)) : PX G d μ Post pc L st M := by
  intro p e s m args below meth c H locs ls hx hb hml hr hk hown hts hW hP hS hl
  obtain ⟨a, b, r, rfl, h1⟩ := p2_inv h
  exact lv_ishl hx hb hd (hK _ _ _ _ h1 p e s m args below meth c H locs ls hx hb hml hr hk hown hts hW hP hS hl)
theorem x_ishr {K : KK} (hK : HK G d μ Post K) (hd : decode μ.2.2.1 pc = .ok (.ishr, 1)) (h : p2 st (fun a b r => K (pc + 1) L (.int (a >>> (b &&& 31)) :: r) M)) : PX G d μ Post pc L st M := by
  intro p e s m args below meth c H locs ls hx hb hml hr hk hown hts hW hP hS hl
  obtain ⟨a, b, r, rfl, h1⟩ := p2_inv h
  exact lv_ishr hx hb hd (hK _ _ _ _ h1 p e s m args below meth c H locs ls hx hb hml hr hk hown hts hW hP hS hl)
theorem x_iand {K : KK} (hK : HK G d μ Post K) (hd : decode μ.2.2.1 pc = .ok (.iand, 1)) (h : p2 st (fun a b r => K (pc + 1) L (.int (a &&& b) :: r) M)) : PX G d μ Post pc L st M := by
  intro p e s m args below meth c H locs ls hx hb hml hr hk hown hts hW hP hS hl
  obtain ⟨a, b, r, rfl, h1⟩ := p2_inv h
  exact lv_iand hx hb hd (hK _ _ _ _ h1 p e s m args below meth c H locs ls hx hb hml hr hk hown hts hW hP hS hl)
theorem x_ior {K : KK} (hK : HK G d μ Post K) (hd : decode μ.2.2.1 pc = .ok (.ior, 1)) (h : p2 st (fun a b r => K (pc + 1) L (.int (a ||| b) :: r) M)) : PX G d μ Post pc L st M := by
  intro p e s m args below meth c H locs ls hx hb hml hr hk hown hts hW hP hS hl
  obtain ⟨a, b, r, rfl, h1⟩ := p2_inv h
  exact lv_ior hx hb hd (hK _ _ _ _ h1 p e s m args below meth c H locs ls hx hb hml hr hk hown hts hW hP hS hl)
theorem x_ixor {K : KK} (hK : HK G d μ Post K) (hd : decode μ.2.2.1 pc = .ok (.ixor, 1)) (h : p2 st (fun a b r => K (pc + 1) L (.int (a ^^^ b) :: r) M)) : PX G d μ Post pc L st M := by
  intro p e s m args below meth c H locs ls hx hb hml hr hk hown hts hW hP hS hl
  obtain ⟨a, b, r, rfl, h1⟩ := p2_inv h
  exact lv_ixor hx hb hd (hK _ _ _ _ h1 p e s m args below meth c H locs ls hx hb hml hr hk hown hts hW hP hS hl)
theorem x_idiv {K : KK} (hK : HK G d μ Post K) (hd : decode μ.2.2.1 pc = .ok (.idiv, 1)) (h : p2 st (fun a b r => ¬ b = 0 ∧ K (pc + 1) L (.int (a / b) :: r) M)) : PX G d μ Post pc L st M := by
  intro p e s m args below meth c H locs ls hx hb hml hr hk hown hts hW hP hS hl
  obtain ⟨a, b, r, rfl, h0, h1⟩ := p2_inv h
  exact lv_idiv hx hb hd h0 (hK _ _ _ _ h1 p e s m args below meth c H locs ls hx hb hml hr hk hown hts hW hP hS hl)
theorem x_irem {K : KK} (hK : HK G d μ Post K) (hd : decode μ.2.2.1 pc = .ok (.irem, 1)) (h : p2 st (fun a b r => ¬ b = 0 ∧ K (pc + 1) L (.int (a - a / b * b) :: r) M)) : PX G d μ Post pc L st M := by
  intro p e s m args below meth c H locs ls hx hb hml hr hk hown hts hW hP hS hl
  obtain ⟨a, b, r, rfl, h0, h1⟩ := p2_inv h
  exact lv_irem hx hb hd h0 (hK _ _ _ _ h1 p e s m args below meth c H locs ls hx hb hml hr hk hown hts hW hP hS hl)
theorem x_iushr {K : KK} (hK : HK G d μ Post K) (hd : decode μ.2.2.1 pc = .ok (.iushr, 1)) (h : p2 st (fun a b r => K (pc + 1) L (.int ((a.toUInt32 >>> (b.toUInt32 &&& Int32.toUInt32 31)).toInt32) :: r) M)) : PX G d μ Post pc L st M := by
  intro p e s m args below meth c H locs ls hx hb hml hr hk hown hts hW hP hS hl
  obtain ⟨a, b, r, rfl, h1⟩ := p2_inv h
  exact lv_iushr hx hb hd rfl (hK _ _ _ _ h1 p e s m args below meth c H locs ls hx hb hml hr hk hown hts hW hP hS hl)
theorem x_ineg {K : KK} (hK : HK G d μ Post K) (hd : decode μ.2.2.1 pc = .ok (.ineg, 1)) (h : p1 st (fun a r => K (pc + 1) L (.int (-a) :: r) M)) : PX G d μ Post pc L st M := by
  intro p e s m args below meth c H locs ls hx hb hml hr hk hown hts hW hP hS hl
  obtain ⟨a, r, rfl, h1⟩ := p1_inv h
  have h2 := hK _ _ _ _ h1 p e s m args below meth c H locs ls hx hb hml hr hk hown hts hW hP hS hl
  first | exact lv_ineg hx hb hd h2 | exact lv_ineg hx hb hd rfl h2 | exact lv_ineg hx hb hd (by rw [show (0 - a : Int32) = -a by simp]; exact h2)
theorem x_i2c {K : KK} (hK : HK G d μ Post K) (hd : decode μ.2.2.1 pc = .ok (.i2c, 1)) (h : p1 st (fun a r => K (pc + 1) L (.int (a.toUInt32 % 65536).toInt32 :: r) M)) : PX G d μ Post pc L st M := by
  intro p e s m args below meth c H locs ls hx hb hml hr hk hown hts hW hP hS hl
  obtain ⟨a, r, rfl, h1⟩ := p1_inv h
  exact lv_i2c hx hb hd rfl (hK _ _ _ _ h1 p e s m args below meth c H locs ls hx hb hml hr hk hown hts hW hP hS hl)
theorem x_i2l {K : KK} (hK : HK G d μ Post K) (hd : decode μ.2.2.1 pc = .ok (.i2l, 1)) (h : p1 st (fun a r => K (pc + 1) L (.long a.toInt64 :: r) M)) : PX G d μ Post pc L st M := by
  intro p e s m args below meth c H locs ls hx hb hml hr hk hown hts hW hP hS hl
  obtain ⟨a, r, rfl, h1⟩ := p1_inv h
  exact lv_i2l hx hb hd rfl (hK _ _ _ _ h1 p e s m args below meth c H locs ls hx hb hml hr hk hown hts hW hP hS hl)
theorem x_l2i {K : KK} (hK : HK G d μ Post K) (hd : decode μ.2.2.1 pc = .ok (.l2i, 1)) (h : q1 st (fun a r => K (pc + 1) L (.int a.toInt32 :: r) M)) : PX G d μ Post pc L st M := by
  intro p e s m args below meth c H locs ls hx hb hml hr hk hown hts hW hP hS hl
  obtain ⟨a, r, rfl, h1⟩ := q1_inv h
  exact lv_l2i hx hb hd rfl (hK _ _ _ _ h1 p e s m args below meth c H locs ls hx hb hml hr hk hown hts hW hP hS hl)
theorem x_ladd {K : KK} (hK : HK G d μ Post K) (hd : decode μ.2.2.1 pc = .ok (.ladd, 1)) (h : q2 st (fun a b r => K (pc + 1) L (.long (a + b) :: r) M)) : PX G d μ Post pc L st M := by
  intro p e s m args below meth c H locs ls hx hb hml hr hk hown hts hW hP hS hl
  obtain ⟨a, b, r, rfl, h1⟩ := q2_inv h
  exact lv_ladd hx hb hd (hK _ _ _ _ h1 p e s m args below meth c H locs ls hx hb hml hr hk hown hts hW hP hS hl)
theorem x_lmul {K : KK} (hK : HK G d μ Post K) (hd : decode μ.2.2.1 pc = .ok (.lmul, 1)) (h : q2 st (fun a b r => K (pc + 1) L (.long (a * b) :: r) M)) : PX G d μ Post pc L st M := by
  intro p e s m args below meth c H locs ls hx hb hml hr hk hown hts hW hP hS hl
  obtain ⟨a, b, r, rfl, h1⟩ := q2_inv h
  exact lv_lmul hx hb hd (hK _ _ _ _ h1 p e s m args below meth c H locs ls hx hb hml hr hk hown hts hW hP hS hl)
theorem x_land {K : KK} (hK : HK G d μ Post K) (hd : decode μ.2.2.1 pc = .ok (.land, 1)) (h : q2 st (fun a b r => K (pc + 1) L (.long (a &&& b) :: r) M)) : PX G d μ Post pc L st M := by
  intro p e s m args below meth c H locs ls hx hb hml hr hk hown hts hW hP hS hl
  obtain ⟨a, b, r, rfl, h1⟩ := q2_inv h
  exact lv_land hx hb hd (hK _ _ _ _ h1 p e s m args below meth c H locs ls hx hb hml hr hk hown hts hW hP hS hl)
theorem x_lor {K : KK} (hK : HK G d μ Post K) (hd : decode μ.2.2.1 pc = .ok (.lor, 1)) (h : q2 st (fun a b r => K (pc + 1) L (.long (a ||| b) :: r) M)) : PX G d μ Post pc L st M := by
  intro p e s m args below meth c H locs ls hx hb hml hr hk hown hts hW hP hS hl
  obtain ⟨a, b, r, rfl, h1⟩ := q2_inv h
  exact lv_lor hx hb hd (hK _ _ _ _ h1 p e s m args below meth c H locs ls hx hb hml hr hk hown hts hW hP hS hl)
theorem x_lshl {K : KK} (hK : HK G d μ Post K) (hd : decode μ.2.2.1 pc = .ok (.lshl, 1)) (h : qi st (fun a b r => K (pc + 1) L (.long (a <<< (b.toInt64 &&& 63)) :: r) M)) : PX G d μ Post pc L st M := by
  intro p e s m args below meth c H locs ls hx hb hml hr hk hown hts hW hP hS hl
  obtain ⟨a, b, r, rfl, h1⟩ := qi_inv h
  exact lv_lshl hx hb hd rfl (hK _ _ _ _ h1 p e s m args below meth c H locs ls hx hb hml hr hk hown hts hW hP hS hl)
theorem x_lshr {K : KK} (hK : HK G d μ Post K) (hd : decode μ.2.2.1 pc = .ok (.lshr, 1)) (h : qi st (fun a b r => K (pc + 1) L (.long (a >>> (b.toInt64 &&& 63)) :: r) M)) : PX G d μ Post pc L st M := by
  intro p e s m args below meth c H locs ls hx hb hml hr hk hown hts hW hP hS hl
  obtain ⟨a, b, r, rfl, h1⟩ := qi_inv h
  exact lv_lshr hx hb hd rfl (hK _ _ _ _ h1 p e s m args below meth c H locs ls hx hb hml hr hk hown hts hW hP hS hl)
theorem x_lushr {K : KK} (hK : HK G d μ Post K) (hd : decode μ.2.2.1 pc = .ok (.lushr, 1)) (h : qi st (fun a b r => K (pc + 1) L (.long ((a.toUInt64 >>> (b.toInt64.toUInt64 &&& Int64.toUInt64 63)).toInt64) :: r) M)) : PX G d μ Post pc L st M := by
  intro p e s m args below meth c H locs ls hx hb hml hr hk hown hts hW hP hS hl
  obtain ⟨a, b, r, rfl, h1⟩ := qi_inv h
  exact lv_lushr hx hb hd rfl (hK _ _ _ _ h1 p e s m args below meth c H locs ls hx hb hml hr hk hown hts hW hP hS hl)
theorem x_lcmp {K : KK} (hK : HK G d μ Post K) (hd : decode μ.2.2.1 pc = .ok (.lcmp, 1)) (h : q2 st (fun a b r => K (pc + 1) L (.int (lg_cmp a b) :: r) M)) : PX G d μ Post pc L st M := by
  intro p e s m args below meth c H locs ls hx hb hml hr hk hown hts hW hP hS hl
  obtain ⟨a, b, r, rfl, h1⟩ := q2_inv h
  exact W.lcmp hx hb hd (hK _ _ _ _ h1 p e s m args below meth c H locs ls hx hb hml hr hk hown hts hW hP hS hl)
theorem x_dup {K : KK} (hK : HK G d μ Post K) (hd : decode μ.2.2.1 pc = .ok (.dup, 1)) (h : dp1 st (fun v r => K (pc + 1) L (v :: v :: r) M)) : PX G d μ Post pc L st M := by
  intro p e s m args below meth c H locs ls hx hb hml hr hk hown hts hW hP hS hl
  obtain ⟨v, r, rfl, hc, h1⟩ := dp1_inv h
  exact lv_dup hx hb hd (by rw [cv_cat]; exact hc) (hK _ _ _ _ h1 p e s m args below meth c H locs ls hx hb hml hr hk hown hts hW hP hS hl)
theorem x_pop {K : KK} (hK : HK G d μ Post K) (hd : decode μ.2.2.1 pc = .ok (.pop, 1)) (h : dp1 st (fun _ r => K (pc + 1) L r M)) : PX G d μ Post pc L st M := by
  intro p e s m args below meth c H locs ls hx hb hml hr hk hown hts hW hP hS hl
  obtain ⟨v, r, rfl, hc, h1⟩ := dp1_inv h
  exact lv_pop hx hb hd (by rw [cv_cat]; exact hc) (hK _ _ _ _ h1 p e s m args below meth c H locs ls hx hb hml hr hk hown hts hW hP hS hl)
theorem x_dup2 {K : KK} (hK : HK G d μ Post K) (hd : decode μ.2.2.1 pc = .ok (.dup2, 1)) (h : dp2 st (fun v w r => K (pc + 1) L (v :: w :: v :: w :: r) M)) : PX G d μ Post pc L st M := by
  intro p e s m args below meth c H locs ls hx hb hml hr hk hown hts hW hP hS hl
  obtain ⟨v, w, r, rfl, hc, hc2, h1⟩ := dp2_inv h
  exact lv_dup2_11 hx hb hd (by rw [cv_cat]; exact hc) (by rw [cv_cat]; exact hc2) (hK _ _ _ _ h1 p e s m args below meth c H locs ls hx hb hml hr hk hown hts hW hP hS hl)
theorem x_ifCond {K : KK} (hK : HK G d μ Post K) {cc : ClassFile.Cond} {f : Int} {tg : List Nat} (hv : (pc : Int) + f = ((tg.getD 0 0 : Nat) : Int)) (hd : decode μ.2.2.1 pc = .ok (.ifCond cc f, 3)) (h : p1 st (fun a r => bz cc a (K (tg.getD 0 0) L r M) (K (pc + 3) L r M))) : PX G d μ Post pc L st M := by
  intro p e s m args below meth c H locs ls hx hb hml hr hk hown hts hW hP hS hl
  obtain ⟨a, r, rfl, h1⟩ := p1_inv h
  cases cc with
  | eq => exact lv_if_eq hx hb hd hv (fun q => hK _ _ _ _ (h1.1 q) p e s m args below meth c H locs ls hx hb hml hr hk hown hts hW hP hS hl) (fun q => hK _ _ _ _ (h1.2 q) p e s m args below meth c H locs ls hx hb hml hr hk hown hts hW hP hS hl)
  | ne => exact lv_if_ne hx hb hd hv (fun q => hK _ _ _ _ (h1.2 q) p e s m args below meth c H locs ls hx hb hml hr hk hown hts hW hP hS hl) (fun q => hK _ _ _ _ (h1.1 q) p e s m args below meth c H locs ls hx hb hml hr hk hown hts hW hP hS hl)
  | lt => exact lv_if_lt hx hb hd hv (fun q => hK _ _ _ _ (h1.1 q) p e s m args below meth c H locs ls hx hb hml hr hk hown hts hW hP hS hl) (fun q => hK _ _ _ _ (h1.2 q) p e s m args below meth c H locs ls hx hb hml hr hk hown hts hW hP hS hl)
  | ge => exact lv_if_ge hx hb hd hv (fun q => hK _ _ _ _ (h1.1 q) p e s m args below meth c H locs ls hx hb hml hr hk hown hts hW hP hS hl) (fun q => hK _ _ _ _ (h1.2 q) p e s m args below meth c H locs ls hx hb hml hr hk hown hts hW hP hS hl)
  | gt => exact lv_if_gt hx hb hd hv (fun q => hK _ _ _ _ (h1.1 q) p e s m args below meth c H locs ls hx hb hml hr hk hown hts hW hP hS hl) (fun q => hK _ _ _ _ (h1.2 q) p e s m args below meth c H locs ls hx hb hml hr hk hown hts hW hP hS hl)
  | le => exact lv_if_le hx hb hd hv (fun q => hK _ _ _ _ (h1.1 q) p e s m args below meth c H locs ls hx hb hml hr hk hown hts hW hP hS hl) (fun q => hK _ _ _ _ (h1.2 q) p e s m args below meth c H locs ls hx hb hml hr hk hown hts hW hP hS hl)

theorem x_if_icmp {K : KK} (hK : HK G d μ Post K) {cc : ClassFile.Cond} {f : Int} {tg : List Nat} (hv : (pc : Int) + f = ((tg.getD 0 0 : Nat) : Int)) (hd : decode μ.2.2.1 pc = .ok (.if_icmp cc f, 3)) (h : p2 st (fun a b r => bc cc a b (K (tg.getD 0 0) L r M) (K (pc + 3) L r M))) : PX G d μ Post pc L st M := by
  intro p e s m args below meth c H locs ls hx hb hml hr hk hown hts hW hP hS hl
  obtain ⟨a, b, r, rfl, h1⟩ := p2_inv h
  cases cc with
  | eq => exact lv_icmp_eq hx hb hd hv (fun q => hK _ _ _ _ (h1.1 q) p e s m args below meth c H locs ls hx hb hml hr hk hown hts hW hP hS hl) (fun q => hK _ _ _ _ (h1.2 q) p e s m args below meth c H locs ls hx hb hml hr hk hown hts hW hP hS hl)
  | ne => exact lv_icmp_ne hx hb hd hv (fun q => hK _ _ _ _ (h1.2 q) p e s m args below meth c H locs ls hx hb hml hr hk hown hts hW hP hS hl) (fun q => hK _ _ _ _ (h1.1 q) p e s m args below meth c H locs ls hx hb hml hr hk hown hts hW hP hS hl)
  | lt => exact lv_icmp_lt hx hb hd hv (fun q => hK _ _ _ _ (h1.1 q) p e s m args below meth c H locs ls hx hb hml hr hk hown hts hW hP hS hl) (fun q => hK _ _ _ _ (h1.2 q) p e s m args below meth c H locs ls hx hb hml hr hk hown hts hW hP hS hl)
  | ge => exact lv_icmp_ge hx hb hd hv (fun q => hK _ _ _ _ (h1.1 q) p e s m args below meth c H locs ls hx hb hml hr hk hown hts hW hP hS hl) (fun q => hK _ _ _ _ (h1.2 q) p e s m args below meth c H locs ls hx hb hml hr hk hown hts hW hP hS hl)
  | gt => exact lv_icmp_gt hx hb hd hv (fun q => hK _ _ _ _ (h1.1 q) p e s m args below meth c H locs ls hx hb hml hr hk hown hts hW hP hS hl) (fun q => hK _ _ _ _ (h1.2 q) p e s m args below meth c H locs ls hx hb hml hr hk hown hts hW hP hS hl)
  | le => exact lv_icmp_le hx hb hd hv (fun q => hK _ _ _ _ (h1.1 q) p e s m args below meth c H locs ls hx hb hml hr hk hown hts hW hP hS hl) (fun q => hK _ _ _ _ (h1.2 q) p e s m args below meth c H locs ls hx hb hml hr hk hown hts hW hP hS hl)

theorem x_goto {K : KK} (hK : HK G d μ Post K) {f : Int} {tg : List Nat} (hv : (pc : Int) + f = ((tg.getD 0 0 : Nat) : Int)) (hd : decode μ.2.2.1 pc = .ok (.goto f, 3)) (h : K (tg.getD 0 0) L st M) : PX G d μ Post pc L st M := by
  intro p e s m args below meth c H locs ls hx hb hml hr hk hown hts hW hP hS hl
  exact lv_goto hx hb hd hv (hK _ _ _ _ h p e s m args below meth c H locs ls hx hb hml hr hk hown hts hW hP hS hl)
end X1
