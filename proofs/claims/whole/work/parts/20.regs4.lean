set_option maxRecDepth 100000 in
theorem g_X0_begin_0 {G : GG} {d : Nat} {Post : Option Value → PM → Prop} {M : PM} {x3 : Int32} (h : (¬ (nI 0) < 0 ∧ ¬ (nI 0) < 0 ∧ ¬ (nI 8) < 0 ∧ (nI 0).toNatClampNeg + (nI 8).toNatClampNeg ≤ 8 ∧ (nI 0).toNatClampNeg + (nI 8).toNatClampNeg ≤ 8) ∧ (vp_in x3 3 ∧ (vp_in x3 3 ∧ (PX G d m_X0_begin Post 49 [some (.ref 41), none, some (.ref 7), some (.int x3), some (.int (M.1 2 x3.toNatClampNeg)), some (.int (nI 0)), none] [] (wI (wI (cpI (wI M 41 2 (M.1 1 6)) 42 4 (nI 0).toNatClampNeg (nI 0).toNatClampNeg (nI 8).toNatClampNeg) 41 4 (M.1 3 x3.toNatClampNeg)) 41 3 (nI 0)))))) :
  PX G d m_X0_begin Post 0 [some (.ref 41), some (.ref 1), some (.ref 7), some (.int x3), none, none, none] [] M := wp_ok [(49, [true, false, true, true, true, true, false])] ok_X0_begin tk_X0_begin 300 _ _ _ _ h
set_option maxRecDepth 100000 in
theorem g_X0_begin_49 {G : GG} {d : Nat} {Post : Option Value → PM → Prop} {M : PM} {x3 : Int32} {x4 : Int32} {x5 : Int32} (h : br (((nI 2) * x4) ≤ x5)
    (Post none M)
    (PC G d m_X8_stepOfSeat [.int x5, .int x4] M (fun v N1 => gI v (fun r1 => PC G d m_X4_hasChildAt [.ref 7, .int x3, .int r1] N1 (fun v N2 => gI v (fun r2 => br (r2 = 0)
      (vp_in (N2.1 41 3) 8 ∧ (PX G d m_X0_begin Post 49 [some (.ref 41), none, some (.ref 7), some (.int x3), some (.int x4), some (.int (x5 + nI 1)), none] [] (wI (wI N2 43 ((N2.1 41 3).toNatClampNeg) r1) 41 3 ((N2.1 41 3) + (nI 1)))))
      (PX G d m_X0_begin Post 49 [some (.ref 41), none, some (.ref 7), some (.int x3), some (.int x4), some (.int (x5 + nI 1)), none] [] N2))))))) :
  PX G d m_X0_begin Post 49 [some (.ref 41), none, some (.ref 7), some (.int x3), some (.int x4), some (.int x5), none] [] M := wp_ok [(49, [true, false, true, true, true, true, false])] ok_X0_begin tk_X0_begin 300 _ _ _ _ h
set_option maxRecDepth 100000 in
theorem g_X0_winningMove_0 {G : GG} {d : Nat} {Post : Option Value → PM → Prop} {M : PM} {x1 : Int32} {x2 : Int32} (h : PC G d m_X0_moveFrom [.ref 41, .int x1, .int (nI 0), .int x2, .int (nI 0)] M (fun v N1 => gI v (fun r1 => Post (some (.int r1)) N1))) :
  PX G d m_X0_winningMove Post 0 [some (.ref 41), some (.int x1), some (.int x2)] [] M := wp_ok [] ok_X0_winningMove tk_X0_winningMove 300 _ _ _ _ h
set_option maxRecDepth 100000 in
theorem g_X0_moveFrom_0 {G : GG} {d : Nat} {Post : Option Value → PM → Prop} {M : PM} {x1 : Int32} {x2 : Int32} {x3 : Int32} {x4 : Int32} (h : br (x4 ≤ (nI 4))
    (PX G d m_X0_moveFrom Post 11 [some (.ref 41), some (.int x1), some (.int x2), some (.int x3), some (.int x4), some (.int (nI 0)), none, none] [] M)
    (Post (some (.int (-1))) M)) :
  PX G d m_X0_moveFrom Post 0 [some (.ref 41), some (.int x1), some (.int x2), some (.int x3), some (.int x4), none, none, none] [] M := wp_ok [(11, [true, true, true, true, true, true, false, false]), (35, [true, true, true, true, true, true, true, false])] ok_X0_moveFrom tk_X0_moveFrom 300 _ _ _ _ h
set_option maxRecDepth 100000 in
theorem g_X0_moveFrom_11 {G : GG} {d : Nat} {Post : Option Value → PM → Prop} {M : PM} {x1 : Int32} {x2 : Int32} {x3 : Int32} {x4 : Int32} {x5 : Int32} (h : br ((M.1 41 2) ≤ x5)
    (Post (some (.int (-1))) M)
    (br ((x1 &&& ((nI 1) <<< (x5 &&& 31))) = 0)
      (PX G d m_X0_moveFrom Post 11 [some (.ref 41), some (.int x1), some (.int x2), some (.int x3), some (.int x4), some (.int (x5 + nI 1)), none, none] [] M)
      (PX G d m_X0_moveFrom Post 35 [some (.ref 41), some (.int x1), some (.int x2), some (.int x3), some (.int x4), some (.int x5), some (.int (nI 0)), none] [] M))) :
  PX G d m_X0_moveFrom Post 11 [some (.ref 41), some (.int x1), some (.int x2), some (.int x3), some (.int x4), some (.int x5), none, none] [] M := wp_ok [(11, [true, true, true, true, true, true, false, false]), (35, [true, true, true, true, true, true, true, false])] ok_X0_moveFrom tk_X0_moveFrom 300 _ _ _ _ h
set_option maxRecDepth 100000 in
theorem g_X0_moveFrom_35 {G : GG} {d : Nat} {Post : Option Value → PM → Prop} {M : PM} {x1 : Int32} {x2 : Int32} {x3 : Int32} {x4 : Int32} {x5 : Int32} {x6 : Int32} (h : br ((M.1 41 3) ≤ x6)
    (PX G d m_X0_moveFrom Post 11 [some (.ref 41), some (.int x1), some (.int x2), some (.int x3), some (.int x4), some (.int (x5 + nI 1)), none, none] [] M)
    (vp_in x5 8 ∧ (vp_in x6 8 ∧ (br ((x2 &&& ((nI 1) <<< (x6 &&& 31))) = 0)
      (br ((M.1 41 4) < (if 0 ≤ (x3 + ((M.1 42 x5.toNatClampNeg) * (M.1 43 x6.toNatClampNeg))) then (x3 + ((M.1 42 x5.toNatClampNeg) * (M.1 43 x6.toNatClampNeg))) else 0 - (x3 + ((M.1 42 x5.toNatClampNeg) * (M.1 43 x6.toNatClampNeg)))))
        (PX G d m_X0_moveFrom Post 35 [some (.ref 41), some (.int x1), some (.int x2), some (.int x3), some (.int x4), some (.int x5), some (.int (x6 + nI 1)), none] [] M)
        (PC G d m_X0_moveFrom [.ref 41, .int (x1 ^^^ ((nI 1) <<< (x5 &&& 31))), .int (x2 ||| ((nI 1) <<< (x6 &&& 31))), .int (x3 + ((M.1 42 x5.toNatClampNeg) * (M.1 43 x6.toNatClampNeg))), .int (x4 + (nI 1))] M (fun v N1 => gI v (fun r1 => br (r1 = (-1 : Int32))
          (vp_in x6 8 ∧ (Post (some (.int ((((nI 100) * x5) + (N1.1 43 x6.toNatClampNeg)) + (nI 4)))) N1))
          (PX G d m_X0_moveFrom Post 35 [some (.ref 41), some (.int x1), some (.int x2), some (.int x3), some (.int x4), some (.int x5), some (.int (x6 + nI 1)), none] [] N1)))))
      (PX G d m_X0_moveFrom Post 35 [some (.ref 41), some (.int x1), some (.int x2), some (.int x3), some (.int x4), some (.int x5), some (.int (x6 + nI 1)), none] [] M))))) :
  PX G d m_X0_moveFrom Post 35 [some (.ref 41), some (.int x1), some (.int x2), some (.int x3), some (.int x4), some (.int x5), some (.int x6), none] [] M := wp_ok [(11, [true, true, true, true, true, true, false, false]), (35, [true, true, true, true, true, true, true, false])] ok_X0_moveFrom tk_X0_moveFrom 300 _ _ _ _ h
set_option maxRecDepth 100000 in
theorem g_X1_spread_0 {G : GG} {d : Nat} {Post : Option Value → PM → Prop} {M : PM} {x2 : Int32} (h : PX G d m_X1_spread Post 10 [some (.ref 39), some (.ref 1), some (.int x2), some (.int ((nI 1) <<< ((M.1 1 6) &&& 31))), some (.int (nI 0)), none, none, none] [] M) :
  PX G d m_X1_spread Post 0 [some (.ref 39), some (.ref 1), some (.int x2), none, none, none, none, none] [] M := wp_ok [(10, [true, true, true, true, true, false, false, false]), (54, [true, true, false, true, true, true, false, false]), (77, [true, true, false, true, true, true, true, true])] ok_X1_spread tk_X1_spread 300 _ _ _ _ h
set_option maxRecDepth 100000 in
theorem g_X1_spread_10 {G : GG} {d : Nat} {Post : Option Value → PM → Prop} {M : PM} {x2 : Int32} {x3 : Int32} {x4 : Int32} (h : br ((x3 * (nI 19)) ≤ x4)
    (vp_in (nI 9) 4864 ∧ (vp_in x2 3 ∧ (PX G d m_X1_spread Post 54 [some (.ref 39), some (.ref 1), none, some (.int x3), some (.int (M.1 2 x2.toNatClampNeg)), some (.int (nI 0)), none, none] [] (wL M 40 ((nI 9).toNatClampNeg) 16777216))))
    (vp_in x4 4864 ∧ (PX G d m_X1_spread Post 10 [some (.ref 39), some (.ref 1), some (.int x2), some (.int x3), some (.int (x4 + nI 1)), none, none, none] [] (wL M 40 x4.toNatClampNeg 0)))) :
  PX G d m_X1_spread Post 10 [some (.ref 39), some (.ref 1), some (.int x2), some (.int x3), some (.int x4), none, none, none] [] M := wp_ok [(10, [true, true, true, true, true, false, false, false]), (54, [true, true, false, true, true, true, false, false]), (77, [true, true, false, true, true, true, true, true])] ok_X1_spread tk_X1_spread 300 _ _ _ _ h
set_option maxRecDepth 100000 in
theorem g_X1_spread_54 {G : GG} {d : Nat} {Post : Option Value → PM → Prop} {M : PM} {x3 : Int32} {x4 : Int32} {x5 : Int32} (h : br (((nI 2) * x4) ≤ x5)
    (Post none M)
    (PC G d m_X8_stepOfSeat [.int x5, .int x4] M (fun v N1 => gI v (fun r1 => PX G d m_X1_spread Post 77 [some (.ref 39), some (.ref 1), none, some (.int x3), some (.int x4), some (.int x5), some (.int r1), some (.int (x3 - (nI 1)))] [] N1)))) :
  PX G d m_X1_spread Post 54 [some (.ref 39), some (.ref 1), none, some (.int x3), some (.int x4), some (.int x5), none, none] [] M := wp_ok [(10, [true, true, true, true, true, false, false, false]), (54, [true, true, false, true, true, true, false, false]), (77, [true, true, false, true, true, true, true, true])] ok_X1_spread tk_X1_spread 300 _ _ _ _ h
set_option maxRecDepth 100000 in
theorem g_X1_spread_77 {G : GG} {d : Nat} {Post : Option Value → PM → Prop} {M : PM} {x3 : Int32} {x4 : Int32} {x5 : Int32} {x6 : Int32} {x7 : Int32} (h : br (x7 ≤ 0)
    (PX G d m_X1_spread Post 54 [some (.ref 39), some (.ref 1), none, some (.int x3), some (.int x4), some (.int (x5 + nI 1)), none, none] [] M)
    (PC G d m_X1_addSeatOf [.ref 39, .ref 1, .int x7, .int x6] M (fun v N1 => gN v (PX G d m_X1_spread Post 77 [some (.ref 39), some (.ref 1), none, some (.int x3), some (.int x4), some (.int x5), some (.int x6), some (.int (x7 + (-1)))] [] N1)))) :
  PX G d m_X1_spread Post 77 [some (.ref 39), some (.ref 1), none, some (.int x3), some (.int x4), some (.int x5), some (.int x6), some (.int x7)] [] M := wp_ok [(10, [true, true, true, true, true, false, false, false]), (54, [true, true, false, true, true, true, false, false]), (77, [true, true, false, true, true, true, true, true])] ok_X1_spread tk_X1_spread 300 _ _ _ _ h
set_option maxRecDepth 100000 in
theorem g_X1_addSeatOf_0 {G : GG} {d : Nat} {Post : Option Value → PM → Prop} {M : PM} {x2 : Int32} {x3 : Int32} (h : PX G d m_X1_addSeatOf Post 3 [some (.ref 39), some (.ref 1), some (.int x2), some (.int x3), some (.int (nI 0))] [] M) :
  PX G d m_X1_addSeatOf Post 0 [some (.ref 39), some (.ref 1), some (.int x2), some (.int x3), none] [] M := wp_ok [(3, [true, true, true, true, true])] ok_X1_addSeatOf tk_X1_addSeatOf 300 _ _ _ _ h
set_option maxRecDepth 100000 in
theorem g_X1_addSeatOf_3 {G : GG} {d : Nat} {Post : Option Value → PM → Prop} {M : PM} {x2 : Int32} {x3 : Int32} {x4 : Int32} (h : br ((M.1 1 6) ≤ x4)
    (Post none M)
    (br ((x2 &&& ((nI 1) <<< (x4 &&& 31))) = 0)
      (PX G d m_X1_addSeatOf Post 3 [some (.ref 39), some (.ref 1), some (.int x2), some (.int x3), some (.int (x4 + nI 1))] [] M)
      (vp_in x4 8 ∧ (PC G d m_X1_mergeShifted [.ref 39, .int x2, .int (x2 ^^^ ((nI 1) <<< (x4 &&& 31))), .int ((M.1 4 x4.toNatClampNeg) * x3)] M (fun v N1 => gN v (PX G d m_X1_addSeatOf Post 3 [some (.ref 39), some (.ref 1), some (.int x2), some (.int x3), some (.int (x4 + nI 1))] [] N1)))))) :
  PX G d m_X1_addSeatOf Post 3 [some (.ref 39), some (.ref 1), some (.int x2), some (.int x3), some (.int x4)] [] M := wp_ok [(3, [true, true, true, true, true])] ok_X1_addSeatOf tk_X1_addSeatOf 300 _ _ _ _ h
set_option maxRecDepth 100000 in
theorem g_X1_mergeShifted_0 {G : GG} {d : Nat} {Post : Option Value → PM → Prop} {M : PM} {x1 : Int32} {x2 : Int32} {x3 : Int32} (h : PX G d m_X1_mergeShifted Post 15 [some (.ref 39), some (.int x1), some (.int x2), none, some (.int (x3 >>> ((nI 6) &&& 31))), some (.int (x3 &&& (nI 63))), some (.int (nI 0)), none, none] [] M) :
  PX G d m_X1_mergeShifted Post 0 [some (.ref 39), some (.int x1), some (.int x2), some (.int x3), none, none, none, none, none] [] M := wp_ok [(15, [true, true, true, false, true, true, true, false, false])] ok_X1_mergeShifted tk_X1_mergeShifted 300 _ _ _ _ h
set_option maxRecDepth 100000 in
theorem g_X1_mergeShifted_15 {G : GG} {d : Nat} {Post : Option Value → PM → Prop} {M : PM} {x1 : Int32} {x2 : Int32} {x4 : Int32} {x5 : Int32} {x6 : Int32} (h : br ((nI 19) ≤ x6)
    (Post none M)
    (PC G d m_X1_wordAt [.ref 39, .int x2, .int (x6 - x4)] M (fun v N1 => gL v (fun r1 => br (x5 = 0)
      (vp_in ((x1 * (nI 19)) + x6) 4864 ∧ (vp_in ((x1 * (nI 19)) + x6) 4864 ∧ (PX G d m_X1_mergeShifted Post 15 [some (.ref 39), some (.int x1), some (.int x2), none, some (.int x4), some (.int x5), some (.int (x6 + nI 1)), none, none] [] (wL N1 40 (((x1 * (nI 19)) + x6).toNatClampNeg) ((N1.2 40 (((x1 * (nI 19)) + x6).toNatClampNeg)) ||| (r1 <<< (x5.toInt64 &&& 63)))))))
      (PC G d m_X1_wordAt [.ref 39, .int x2, .int ((x6 - x4) - (nI 1))] N1 (fun v N2 => gL v (fun r2 => vp_in ((x1 * (nI 19)) + x6) 4864 ∧ (vp_in ((x1 * (nI 19)) + x6) 4864 ∧ (PX G d m_X1_mergeShifted Post 15 [some (.ref 39), some (.int x1), some (.int x2), none, some (.int x4), some (.int x5), some (.int (x6 + nI 1)), none, none] [] (wL N2 40 (((x1 * (nI 19)) + x6).toNatClampNeg) ((N2.2 40 (((x1 * (nI 19)) + x6).toNatClampNeg)) ||| ((r1 <<< (x5.toInt64 &&& 63)) ||| ((r2.toUInt64 >>> (((nI 64) - x5).toInt64.toUInt64 &&& Int64.toUInt64 63)).toInt64))))))))))))) :
  PX G d m_X1_mergeShifted Post 15 [some (.ref 39), some (.int x1), some (.int x2), none, some (.int x4), some (.int x5), some (.int x6), none, none] [] M := wp_ok [(15, [true, true, true, false, true, true, true, false, false])] ok_X1_mergeShifted tk_X1_mergeShifted 300 _ _ _ _ h
set_option maxRecDepth 100000 in
theorem g_X1_wordAt_0 {G : GG} {d : Nat} {Post : Option Value → PM → Prop} {M : PM} {x1 : Int32} {x2 : Int32} (h : br (x2 < 0)
    (Post (some (.long 0)) M)
    (br ((nI 19) ≤ x2)
      (Post (some (.long 0)) M)
      (vp_in ((x1 * (nI 19)) + x2) 4864 ∧ (Post (some (.long (M.2 40 (((x1 * (nI 19)) + x2).toNatClampNeg)))) M)))) :
  PX G d m_X1_wordAt Post 0 [some (.ref 39), some (.int x1), some (.int x2)] [] M := wp_ok [] ok_X1_wordAt tk_X1_wordAt 300 _ _ _ _ h
set_option maxRecDepth 100000 in
theorem g_X1_largestLevel_0 {G : GG} {d : Nat} {Post : Option Value → PM → Prop} {M : PM} {x1 : Int32} {x2 : Int32} {x3 : Int32} (h : PX G d m_X1_largestLevel Post 3 [some (.ref 39), some (.int x1), some (.int x2), some (.int x3), some (.int x1), none] [] M) :
  PX G d m_X1_largestLevel Post 0 [some (.ref 39), some (.int x1), some (.int x2), some (.int x3), none, none] [] M := wp_ok [(3, [true, true, true, true, true, false]), (11, [true, true, true, true, true, true])] ok_X1_largestLevel tk_X1_largestLevel 300 _ _ _ _ h
set_option maxRecDepth 100000 in
theorem g_X1_largestLevel_3 {G : GG} {d : Nat} {Post : Option Value → PM → Prop} {M : PM} {x1 : Int32} {x2 : Int32} {x3 : Int32} {x4 : Int32} (h : br (x4 < 0)
    (Post (some (.int (-1))) M)
    (PX G d m_X1_largestLevel Post 11 [some (.ref 39), some (.int x1), some (.int x2), some (.int x3), some (.int x4), some (.int (nI 0))] [] M)) :
  PX G d m_X1_largestLevel Post 3 [some (.ref 39), some (.int x1), some (.int x2), some (.int x3), some (.int x4), none] [] M := wp_ok [(3, [true, true, true, true, true, false]), (11, [true, true, true, true, true, true])] ok_X1_largestLevel tk_X1_largestLevel 300 _ _ _ _ h
set_option maxRecDepth 100000 in
theorem g_X1_largestLevel_11 {G : GG} {d : Nat} {Post : Option Value → PM → Prop} {M : PM} {x1 : Int32} {x2 : Int32} {x3 : Int32} {x4 : Int32} {x5 : Int32} (h : br (((nI 1) <<< (x1 &&& 31)) ≤ x5)
    (PX G d m_X1_largestLevel Post 3 [some (.ref 39), some (.int x1), some (.int x2), some (.int x3), some (.int (x4 + (-1))), none] [] M)
    (PC G d m_J6_bitCount_0f7a4 [.int x5] M (fun v N1 => gI v (fun r1 => br (r1 = x4)
      (PC G d m_X1_canLevel [.ref 39, .int x5, .int x2, .int x3] N1 (fun v N2 => gI v (fun r2 => br (r2 = 0)
        (PX G d m_X1_largestLevel Post 11 [some (.ref 39), some (.int x1), some (.int x2), some (.int x3), some (.int x4), some (.int (x5 + nI 1))] [] N2)
        (Post (some (.int x5)) N2))))
      (PX G d m_X1_largestLevel Post 11 [some (.ref 39), some (.int x1), some (.int x2), some (.int x3), some (.int x4), some (.int (x5 + nI 1))] [] N1))))) :
  PX G d m_X1_largestLevel Post 11 [some (.ref 39), some (.int x1), some (.int x2), some (.int x3), some (.int x4), some (.int x5)] [] M := wp_ok [(3, [true, true, true, true, true, false]), (11, [true, true, true, true, true, true])] ok_X1_largestLevel tk_X1_largestLevel 300 _ _ _ _ h
set_option maxRecDepth 100000 in
theorem g_X1_canLevel_0 {G : GG} {d : Nat} {Post : Option Value → PM → Prop} {M : PM} {x1 : Int32} {x2 : Int32} {x3 : Int32} (h : PX G d m_X1_canLevel Post 6 [some (.ref 39), some (.int x1), some (.int x2), some (.int x3), some (.int ((-x2) - x3)), none] [] M) :
  PX G d m_X1_canLevel Post 0 [some (.ref 39), some (.int x1), some (.int x2), some (.int x3), none, none] [] M := wp_ok [(6, [true, true, true, true, true, false])] ok_X1_canLevel tk_X1_canLevel 300 _ _ _ _ h
set_option maxRecDepth 100000 in
theorem g_X1_canLevel_6 {G : GG} {d : Nat} {Post : Option Value → PM → Prop} {M : PM} {x1 : Int32} {x2 : Int32} {x3 : Int32} {x4 : Int32} (h : br ((x3 - x2) < x4)
    (((nI 0) = 0 ∨ (nI 0) = 1) ∧ Post (some (.int (nI 0))) M)
    (PC G d m_X1_wordAt [.ref 39, .int x1, .int ((x4 + (nI 600)) >>> ((nI 6) &&& 31))] M (fun v N1 => gL v (fun r1 => br ((lg_cmp (((r1.toUInt64 >>> (((x4 + (nI 600)) &&& (nI 63)).toInt64.toUInt64 &&& Int64.toUInt64 63)).toInt64) &&& 1) 0) = 0)
      (PX G d m_X1_canLevel Post 6 [some (.ref 39), some (.int x1), some (.int x2), some (.int x3), some (.int (x4 + nI 1)), none] [] N1)
      (((nI 1) = 0 ∨ (nI 1) = 1) ∧ Post (some (.int (nI 1))) N1))))) :
  PX G d m_X1_canLevel Post 6 [some (.ref 39), some (.int x1), some (.int x2), some (.int x3), some (.int x4), none] [] M := wp_ok [(6, [true, true, true, true, true, false])] ok_X1_canLevel tk_X1_canLevel 300 _ _ _ _ h
set_option maxRecDepth 100000 in
theorem g_X2_run_0 {G : GG} {d : Nat} {Post : Option Value → PM → Prop} {M : PM} {x1 : Int32} (h : PX G d m_X2_run Post 7 [some (.ref 51), some (.int x1), some (.int (nI 0)), none] [] (wI M 51 5 (nI 0))) :
  PX G d m_X2_run Post 0 [some (.ref 51), some (.int x1), none, none] [] M := wp_ok [(7, [true, true, true, false]), (38, [true, true, true, false]), (71, [true, true, true, false]), (78, [true, true, true, true])] ok_X2_run tk_X2_run 300 _ _ _ _ h
set_option maxRecDepth 100000 in
theorem g_X2_run_7 {G : GG} {d : Nat} {Post : Option Value → PM → Prop} {M : PM} {x1 : Int32} {x2 : Int32} (h : br ((M.1 1 6) ≤ x2)
    (PX G d m_X2_run Post 38 [some (.ref 51), some (.int x1), some (.int (nI 0)), none] [] M)
    (vp_in x2 8 ∧ (PC G d m_X2_joinRow [.ref 51, .int x2] (wI M 52 x2.toNatClampNeg (nI 0)) (fun v N1 => gN v (PX G d m_X2_run Post 7 [some (.ref 51), some (.int x1), some (.int (x2 + nI 1)), none] [] N1))))) :
  PX G d m_X2_run Post 7 [some (.ref 51), some (.int x1), some (.int x2), none] [] M := wp_ok [(7, [true, true, true, false]), (38, [true, true, true, false]), (71, [true, true, true, false]), (78, [true, true, true, true])] ok_X2_run tk_X2_run 300 _ _ _ _ h
set_option maxRecDepth 100000 in
theorem g_X2_run_38 {G : GG} {d : Nat} {Post : Option Value → PM → Prop} {M : PM} {x1 : Int32} {x2 : Int32} (h : br ((M.1 1 5) ≤ x2)
    (PX G d m_X2_run Post 71 [some (.ref 51), some (.int x1), some (.int (nI 0)), none] [] M)
    (vp_in x2 3 ∧ (vp_in x2 3 ∧ (PX G d m_X2_run Post 38 [some (.ref 51), some (.int x1), some (.int (x2 + nI 1)), none] [] (wI (wI M 54 x2.toNatClampNeg (-1)) 55 x2.toNatClampNeg (-1)))))) :
  PX G d m_X2_run Post 38 [some (.ref 51), some (.int x1), some (.int x2), none] [] M := wp_ok [(7, [true, true, true, false]), (38, [true, true, true, false]), (71, [true, true, true, false]), (78, [true, true, true, true])] ok_X2_run tk_X2_run 300 _ _ _ _ h
set_option maxRecDepth 100000 in
theorem g_X2_run_71 {G : GG} {d : Nat} {Post : Option Value → PM → Prop} {M : PM} {x1 : Int32} {x2 : Int32} (h : br (x1 ≤ x2)
    (Post none M)
    (PX G d m_X2_run Post 78 [some (.ref 51), some (.int x1), some (.int x2), some (.int (nI 0))] [] M)) :
  PX G d m_X2_run Post 71 [some (.ref 51), some (.int x1), some (.int x2), none] [] M := wp_ok [(7, [true, true, true, false]), (38, [true, true, true, false]), (71, [true, true, true, false]), (78, [true, true, true, true])] ok_X2_run tk_X2_run 300 _ _ _ _ h
set_option maxRecDepth 100000 in
theorem g_X2_run_78 {G : GG} {d : Nat} {Post : Option Value → PM → Prop} {M : PM} {x1 : Int32} {x2 : Int32} {x3 : Int32} (h : br ((M.1 1 5) ≤ x3)
    (PC G d m_X2_rideOn [.ref 51] M (fun v N1 => gN v (PX G d m_X2_run Post 71 [some (.ref 51), some (.int x1), some (.int (x2 + nI 1)), none] [] N1)))
    (PC G d m_X2_letOff [.ref 51, .int x3] M (fun v N2 => gN v (PC G d m_X2_letOn [.ref 51, .int x3] N2 (fun v N3 => gN v (PX G d m_X2_run Post 78 [some (.ref 51), some (.int x1), some (.int x2), some (.int (x3 + nI 1))] [] N3)))))) :
  PX G d m_X2_run Post 78 [some (.ref 51), some (.int x1), some (.int x2), some (.int x3)] [] M := wp_ok [(7, [true, true, true, false]), (38, [true, true, true, false]), (71, [true, true, true, false]), (78, [true, true, true, true])] ok_X2_run tk_X2_run 300 _ _ _ _ h
set_option maxRecDepth 100000 in
theorem g_X2_letOff_0 {G : GG} {d : Nat} {Post : Option Value → PM → Prop} {M : PM} {x1 : Int32} (h : vp_in x1 3 ∧ (vp_in x1 3 ∧ (br ((M.1 54 x1.toNatClampNeg) = (-1 : Int32))
    (Post none M)
    (br ((M.1 55 x1.toNatClampNeg) = (-1 : Int32))
      (Post none M)
      (PC G d m_X2_wantsMore [.ref 51, .int (M.1 54 x1.toNatClampNeg)] M (fun v N1 => gI v (fun r1 => br (r1 = 0)
        (vp_in x1 3 ∧ (vp_in x1 3 ∧ (PC G d m_X2_wantsMore [.ref 51, .int (M.1 54 x1.toNatClampNeg)] (wI (wI N1 54 x1.toNatClampNeg (-1)) 55 x1.toNatClampNeg (-1)) (fun v N2 => gI v (fun r2 => br (r2 = 0)
          (PC G d m_X2_wantsMore [.ref 51, .int (M.1 55 x1.toNatClampNeg)] N2 (fun v N3 => gI v (fun r3 => br (r3 = 0)
            (Post none N3)
            (PC G d m_X2_joinRow [.ref 51, .int (M.1 55 x1.toNatClampNeg)] N3 (fun v N4 => gN v (Post none N4))))))
          (PC G d m_X2_joinRow [.ref 51, .int (M.1 54 x1.toNatClampNeg)] N2 (fun v N5 => gN v (PC G d m_X2_wantsMore [.ref 51, .int (M.1 55 x1.toNatClampNeg)] N5 (fun v N6 => gI v (fun r6 => br (r6 = 0)
            (Post none N6)
            (PC G d m_X2_joinRow [.ref 51, .int (M.1 55 x1.toNatClampNeg)] N6 (fun v N7 => gN v (Post none N7)))))))))))))
        (PC G d m_X2_wantsMore [.ref 51, .int (M.1 55 x1.toNatClampNeg)] N1 (fun v N8 => gI v (fun r8 => br (r8 = 0)
          (vp_in x1 3 ∧ (vp_in x1 3 ∧ (PC G d m_X2_wantsMore [.ref 51, .int (M.1 54 x1.toNatClampNeg)] (wI (wI N8 54 x1.toNatClampNeg (-1)) 55 x1.toNatClampNeg (-1)) (fun v N9 => gI v (fun r9 => br (r9 = 0)
            (PC G d m_X2_wantsMore [.ref 51, .int (M.1 55 x1.toNatClampNeg)] N9 (fun v N10 => gI v (fun r10 => br (r10 = 0)
              (Post none N10)
              (PC G d m_X2_joinRow [.ref 51, .int (M.1 55 x1.toNatClampNeg)] N10 (fun v N11 => gN v (Post none N11))))))
            (PC G d m_X2_joinRow [.ref 51, .int (M.1 54 x1.toNatClampNeg)] N9 (fun v N12 => gN v (PC G d m_X2_wantsMore [.ref 51, .int (M.1 55 x1.toNatClampNeg)] N12 (fun v N13 => gI v (fun r13 => br (r13 = 0)
              (Post none N13)
              (PC G d m_X2_joinRow [.ref 51, .int (M.1 55 x1.toNatClampNeg)] N13 (fun v N14 => gN v (Post none N14)))))))))))))
          (Post none N8))))))))))) :
  PX G d m_X2_letOff Post 0 [some (.ref 51), some (.int x1), none, none] [] M := wp_ok [] ok_X2_letOff tk_X2_letOff 300 _ _ _ _ h
set_option maxRecDepth 100000 in
theorem g_X2_wantsMore_0 {G : GG} {d : Nat} {Post : Option Value → PM → Prop} {M : PM} {x1 : Int32} (h : vp_in x1 8 ∧ (vp_in x1 8 ∧ (br ((M.1 5 x1.toNatClampNeg) ≤ (M.1 52 x1.toNatClampNeg))
    (((nI 0) = 0 ∨ (nI 0) = 1) ∧ Post (some (.int (nI 0))) M)
    (((nI 1) = 0 ∨ (nI 1) = 1) ∧ Post (some (.int (nI 1))) M)))) :
  PX G d m_X2_wantsMore Post 0 [some (.ref 51), some (.int x1)] [] M := wp_ok [] ok_X2_wantsMore tk_X2_wantsMore 300 _ _ _ _ h
set_option maxRecDepth 100000 in
theorem g_X2_letOn_0 {G : GG} {d : Nat} {Post : Option Value → PM → Prop} {M : PM} {x1 : Int32} (h : vp_in x1 3 ∧ (br ((M.1 54 x1.toNatClampNeg) = (-1 : Int32))
    (PX G d m_X2_letOn Post 13 [some (.ref 51), some (.int x1), some (.int (nI 0)), none] [] M)
    (Post none M))) :
  PX G d m_X2_letOn Post 0 [some (.ref 51), some (.int x1), none, none] [] M := wp_ok [(13, [true, true, true, false]), (25, [true, true, true, true])] ok_X2_letOn tk_X2_letOn 300 _ _ _ _ h
set_option maxRecDepth 100000 in
theorem g_X2_letOn_13 {G : GG} {d : Nat} {Post : Option Value → PM → Prop} {M : PM} {x1 : Int32} {x2 : Int32} (h : br ((M.1 51 5) ≤ x2)
    (Post none M)
    (PX G d m_X2_letOn Post 25 [some (.ref 51), some (.int x1), some (.int x2), some (.int (x2 + (nI 1)))] [] M)) :
  PX G d m_X2_letOn Post 13 [some (.ref 51), some (.int x1), some (.int x2), none] [] M := wp_ok [(13, [true, true, true, false]), (25, [true, true, true, true])] ok_X2_letOn tk_X2_letOn 300 _ _ _ _ h
set_option maxRecDepth 100000 in
theorem g_X2_letOn_25 {G : GG} {d : Nat} {Post : Option Value → PM → Prop} {M : PM} {x1 : Int32} {x2 : Int32} {x3 : Int32} (h : br ((M.1 51 5) ≤ x3)
    (PX G d m_X2_letOn Post 13 [some (.ref 51), some (.int x1), some (.int (x2 + nI 1)), none] [] M)
    (vp_in x2 8 ∧ (vp_in x3 8 ∧ (PC G d m_X3_fits [.ref 1, .int x1, .int (M.1 53 x2.toNatClampNeg), .int (M.1 53 x3.toNatClampNeg)] M (fun v N1 => gI v (fun r1 => br (r1 = 0)
      (PX G d m_X2_letOn Post 25 [some (.ref 51), some (.int x1), some (.int x2), some (.int (x3 + nI 1))] [] N1)
      (vp_in x2 8 ∧ (vp_in x1 3 ∧ (vp_in x3 8 ∧ (vp_in x1 3 ∧ (PC G d m_X2_leaveRow [.ref 51, .int x3] (wI (wI N1 54 x1.toNatClampNeg (N1.1 53 x2.toNatClampNeg)) 55 x1.toNatClampNeg (N1.1 53 x3.toNatClampNeg)) (fun v N2 => gN v (PC G d m_X2_leaveRow [.ref 51, .int x2] N2 (fun v N3 => gN v (Post none N3))))))))))))))) :
  PX G d m_X2_letOn Post 25 [some (.ref 51), some (.int x1), some (.int x2), some (.int x3)] [] M := wp_ok [(13, [true, true, true, false]), (25, [true, true, true, true])] ok_X2_letOn tk_X2_letOn 300 _ _ _ _ h
set_option maxRecDepth 100000 in
theorem g_X2_rideOn_0 {G : GG} {d : Nat} {Post : Option Value → PM → Prop} {M : PM} (h : PX G d m_X2_rideOn Post 2 [some (.ref 51), some (.int (nI 0))] [] M) :
  PX G d m_X2_rideOn Post 0 [some (.ref 51), none] [] M := wp_ok [(2, [true, true])] ok_X2_rideOn tk_X2_rideOn 300 _ _ _ _ h
set_option maxRecDepth 100000 in
theorem g_X2_rideOn_2 {G : GG} {d : Nat} {Post : Option Value → PM → Prop} {M : PM} {x1 : Int32} (h : br ((M.1 1 5) ≤ x1)
    (Post none M)
    (vp_in x1 3 ∧ (br ((M.1 54 x1.toNatClampNeg) = (-1 : Int32))
      (PX G d m_X2_rideOn Post 2 [some (.ref 51), some (.int (x1 + nI 1))] [] M)
      (vp_in x1 3 ∧ (br ((M.1 55 x1.toNatClampNeg) = (-1 : Int32))
        (PX G d m_X2_rideOn Post 2 [some (.ref 51), some (.int (x1 + nI 1))] [] M)
        (vp_in x1 3 ∧ (vp_in (M.1 54 x1.toNatClampNeg) 8 ∧ (vp_in (M.1 54 x1.toNatClampNeg) 8 ∧ (vp_in x1 3 ∧ (vp_in (M.1 55 x1.toNatClampNeg) 8 ∧ (vp_in (M.1 55 x1.toNatClampNeg) 8 ∧ (PX G d m_X2_rideOn Post 2 [some (.ref 51), some (.int (x1 + nI 1))] [] (wI (wI M 52 ((M.1 54 x1.toNatClampNeg).toNatClampNeg) ((M.1 52 ((M.1 54 x1.toNatClampNeg).toNatClampNeg)) + (nI 1))) 52 ((M.1 55 x1.toNatClampNeg).toNatClampNeg) (((wI M 52 ((M.1 54 x1.toNatClampNeg).toNatClampNeg) ((M.1 52 ((M.1 54 x1.toNatClampNeg).toNatClampNeg)) + (nI 1))).1 52 ((M.1 55 x1.toNatClampNeg).toNatClampNeg)) + (nI 1))))))))))))))) :
  PX G d m_X2_rideOn Post 2 [some (.ref 51), some (.int x1)] [] M := wp_ok [(2, [true, true])] ok_X2_rideOn tk_X2_rideOn 300 _ _ _ _ h
set_option maxRecDepth 100000 in
theorem g_X2_joinRow_0 {G : GG} {d : Nat} {Post : Option Value → PM → Prop} {M : PM} {x1 : Int32} (h : br ((nI 8) ≤ (M.1 51 5))
    (Post none M)
    (vp_in (M.1 51 5) 8 ∧ (Post none (wI (wI M 53 ((M.1 51 5).toNatClampNeg) x1) 51 5 ((M.1 51 5) + (nI 1)))))) :
  PX G d m_X2_joinRow Post 0 [some (.ref 51), some (.int x1)] [] M := wp_ok [] ok_X2_joinRow tk_X2_joinRow 300 _ _ _ _ h
set_option maxRecDepth 100000 in
theorem g_X2_leaveRow_0 {G : GG} {d : Nat} {Post : Option Value → PM → Prop} {M : PM} {x1 : Int32} (h : PX G d m_X2_leaveRow Post 12 [some (.ref 51), none, some (.int x1)] [] (wI M 51 5 ((M.1 51 5) - (nI 1)))) :
  PX G d m_X2_leaveRow Post 0 [some (.ref 51), some (.int x1), none] [] M := wp_ok [(12, [true, false, true])] ok_X2_leaveRow tk_X2_leaveRow 300 _ _ _ _ h
set_option maxRecDepth 100000 in
theorem g_X2_leaveRow_12 {G : GG} {d : Nat} {Post : Option Value → PM → Prop} {M : PM} {x2 : Int32} (h : br ((M.1 51 5) ≤ x2)
    (Post none M)
    (vp_in (x2 + (nI 1)) 8 ∧ (vp_in x2 8 ∧ (PX G d m_X2_leaveRow Post 12 [some (.ref 51), none, some (.int (x2 + nI 1))] [] (wI M 53 x2.toNatClampNeg (M.1 53 ((x2 + (nI 1)).toNatClampNeg))))))) :
  PX G d m_X2_leaveRow Post 12 [some (.ref 51), none, some (.int x2)] [] M := wp_ok [(12, [true, false, true])] ok_X2_leaveRow tk_X2_leaveRow 300 _ _ _ _ h
set_option maxRecDepth 100000 in
theorem g_X3_forget_0 {G : GG} {d : Nat} {Post : Option Value → PM → Prop} {M : PM} (h : Post none (wI (wI (wI M 26 5 (nI 0)) 26 6 (nI 0)) 26 7 (nI 0))) :
  PX G d m_X3_forget Post 0 [some (.ref 26)] [] M := wp_ok [] ok_X3_forget tk_X3_forget 300 _ _ _ _ h
set_option maxRecDepth 100000 in
theorem g_X3_copyFrom_0 {G : GG} {d : Nat} {Post : Option Value → PM → Prop} {M : PM} (h : (¬ (nI 0) < 0 ∧ ¬ (nI 0) < 0 ∧ ¬ (nI 3) < 0 ∧ (nI 0).toNatClampNeg + (nI 3).toNatClampNeg ≤ 3 ∧ (nI 0).toNatClampNeg + (nI 3).toNatClampNeg ≤ 3) ∧ ((¬ (nI 0) < 0 ∧ ¬ (nI 0) < 0 ∧ ¬ (nI 3) < 0 ∧ (nI 0).toNatClampNeg + (nI 3).toNatClampNeg ≤ 3 ∧ (nI 0).toNatClampNeg + (nI 3).toNatClampNeg ≤ 3) ∧ ((¬ (nI 0) < 0 ∧ ¬ (nI 0) < 0 ∧ ¬ (nI 8) < 0 ∧ (nI 0).toNatClampNeg + (nI 8).toNatClampNeg ≤ 8 ∧ (nI 0).toNatClampNeg + (nI 8).toNatClampNeg ≤ 8) ∧ ((¬ (nI 0) < 0 ∧ ¬ (nI 0) < 0 ∧ ¬ (nI 8) < 0 ∧ (nI 0).toNatClampNeg + (nI 8).toNatClampNeg ≤ 8 ∧ (nI 0).toNatClampNeg + (nI 8).toNatClampNeg ≤ 8) ∧ ((¬ (nI 0) < 0 ∧ ¬ (nI 0) < 0 ∧ ¬ (nI 5) < 0 ∧ (nI 0).toNatClampNeg + (nI 5).toNatClampNeg ≤ 5 ∧ (nI 0).toNatClampNeg + (nI 5).toNatClampNeg ≤ 5) ∧ (Post none (wI (wI (wI (cpI (cpI (cpI (cpI (cpI M 2 27 (nI 0).toNatClampNeg (nI 0).toNatClampNeg (nI 3).toNatClampNeg) 3 28 (nI 0).toNatClampNeg (nI 0).toNatClampNeg (nI 3).toNatClampNeg) 4 29 (nI 0).toNatClampNeg (nI 0).toNatClampNeg (nI 8).toNatClampNeg) 5 30 (nI 0).toNatClampNeg (nI 0).toNatClampNeg (nI 8).toNatClampNeg) 6 31 (nI 0).toNatClampNeg (nI 0).toNatClampNeg (nI 5).toNatClampNeg) 1 5 (M.1 26 5)) 1 6 (M.1 26 6)) 1 7 (M.1 26 7)))))))) :
  PX G d m_X3_copyFrom Post 0 [some (.ref 1), some (.ref 26)] [] M := wp_ok [] ok_X3_copyFrom tk_X3_copyFrom 300 _ _ _ _ h
set_option maxRecDepth 100000 in
theorem g_X3_hasPlank_0 {G : GG} {d : Nat} {Post : Option Value → PM → Prop} {M : PM} {x1 : Int32} (h : br (x1 < 0)
    (((nI 0) = 0 ∨ (nI 0) = 1) ∧ Post (some (.int (nI 0))) M)
    (br ((M.1 1 5) ≤ x1)
      (((nI 0) = 0 ∨ (nI 0) = 1) ∧ Post (some (.int (nI 0))) M)
      (((nI 1) = 0 ∨ (nI 1) = 1) ∧ Post (some (.int (nI 1))) M))) :
  PX G d m_X3_hasPlank Post 0 [some (.ref 1), some (.int x1)] [] M := wp_ok [] ok_X3_hasPlank tk_X3_hasPlank 300 _ _ _ _ h
set_option maxRecDepth 100000 in
theorem g_X3_hasChild_0 {G : GG} {d : Nat} {Post : Option Value → PM → Prop} {M : PM} {x1 : Int32} (h : br (x1 < 0)
    (((nI 0) = 0 ∨ (nI 0) = 1) ∧ Post (some (.int (nI 0))) M)
    (br ((M.1 1 6) ≤ x1)
      (((nI 0) = 0 ∨ (nI 0) = 1) ∧ Post (some (.int (nI 0))) M)
      (((nI 1) = 0 ∨ (nI 1) = 1) ∧ Post (some (.int (nI 1))) M))) :
  PX G d m_X3_hasChild Post 0 [some (.ref 1), some (.int x1)] [] M := wp_ok [] ok_X3_hasChild tk_X3_hasChild 300 _ _ _ _ h
set_option maxRecDepth 100000 in
theorem g_X3_hasStone_0 {G : GG} {d : Nat} {Post : Option Value → PM → Prop} {M : PM} {x1 : Int32} (h : br (x1 < 0)
    (((nI 0) = 0 ∨ (nI 0) = 1) ∧ Post (some (.int (nI 0))) M)
    (br ((M.1 1 7) ≤ x1)
      (((nI 0) = 0 ∨ (nI 0) = 1) ∧ Post (some (.int (nI 0))) M)
      (((nI 1) = 0 ∨ (nI 1) = 1) ∧ Post (some (.int (nI 1))) M))) :
  PX G d m_X3_hasStone Post 0 [some (.ref 1), some (.int x1)] [] M := wp_ok [] ok_X3_hasStone tk_X3_hasStone 300 _ _ _ _ h
set_option maxRecDepth 100000 in
theorem g_X3_hasSeat_0 {G : GG} {d : Nat} {Post : Option Value → PM → Prop} {M : PM} {x1 : Int32} {x2 : Int32} (h : PC G d m_X3_hasPlank [.ref 1, .int x1] M (fun v N1 => gI v (fun r1 => br (r1 = 0)
    (((nI 0) = 0 ∨ (nI 0) = 1) ∧ Post (some (.int (nI 0))) N1)
    (br (x2 = 0)
      (((nI 0) = 0 ∨ (nI 0) = 1) ∧ Post (some (.int (nI 0))) N1)
      (vp_in x1 3 ∧ (br (x2 < (-(N1.1 2 x1.toNatClampNeg)))
        (((nI 0) = 0 ∨ (nI 0) = 1) ∧ Post (some (.int (nI 0))) N1)
        (vp_in x1 3 ∧ (br ((N1.1 2 x1.toNatClampNeg) < x2)
          (((nI 0) = 0 ∨ (nI 0) = 1) ∧ Post (some (.int (nI 0))) N1)
          (((nI 1) = 0 ∨ (nI 1) = 1) ∧ Post (some (.int (nI 1))) N1))))))))) :
  PX G d m_X3_hasSeat Post 0 [some (.ref 1), some (.int x1), some (.int x2)] [] M := wp_ok [] ok_X3_hasSeat tk_X3_hasSeat 300 _ _ _ _ h
set_option maxRecDepth 100000 in
theorem g_X3_allChildren_0 {G : GG} {d : Nat} {Post : Option Value → PM → Prop} {M : PM} (h : Post (some (.int (((nI 1) <<< ((M.1 1 6) &&& 31)) - (nI 1)))) M) :
  PX G d m_X3_allChildren Post 0 [some (.ref 1)] [] M := wp_ok [] ok_X3_allChildren tk_X3_allChildren 300 _ _ _ _ h
set_option maxRecDepth 100000 in
theorem g_X3_fits_0 {G : GG} {d : Nat} {Post : Option Value → PM → Prop} {M : PM} {x1 : Int32} {x2 : Int32} {x3 : Int32} (h : vp_in x2 8 ∧ (vp_in x3 8 ∧ (vp_in x1 3 ∧ (br ((M.1 3 x1.toNatClampNeg) < (if 0 ≤ ((M.1 4 x2.toNatClampNeg) - (M.1 4 x3.toNatClampNeg)) then ((M.1 4 x2.toNatClampNeg) - (M.1 4 x3.toNatClampNeg)) else 0 - ((M.1 4 x2.toNatClampNeg) - (M.1 4 x3.toNatClampNeg))))
    (((nI 0) = 0 ∨ (nI 0) = 1) ∧ Post (some (.int (nI 0))) M)
    (((nI 1) = 0 ∨ (nI 1) = 1) ∧ Post (some (.int (nI 1))) M))))) :
  PX G d m_X3_fits Post 0 [some (.ref 1), some (.int x1), some (.int x2), some (.int x3)] [] M := wp_ok [] ok_X3_fits tk_X3_fits 300 _ _ _ _ h
set_option maxRecDepth 100000 in
theorem g_X4_reset_0 {G : GG} {d : Nat} {Post : Option Value → PM → Prop} {M : PM} (h : PX G d m_X4_reset Post 2 [some (.ref 7), some (.int (nI 0))] [] M) :
  PX G d m_X4_reset Post 0 [some (.ref 7), none] [] M := wp_ok [(2, [true, true]), (37, [true, true])] ok_X4_reset tk_X4_reset 300 _ _ _ _ h
set_option maxRecDepth 100000 in
theorem g_X4_reset_2 {G : GG} {d : Nat} {Post : Option Value → PM → Prop} {M : PM} {x1 : Int32} (h : br ((nI 8) ≤ x1)
    (PX G d m_X4_reset Post 37 [some (.ref 7), some (.int (nI 0))] [] M)
    (vp_in x1 8 ∧ (vp_in x1 8 ∧ (vp_in x1 8 ∧ (PX G d m_X4_reset Post 2 [some (.ref 7), some (.int (x1 + nI 1))] [] (wI (wI (wI M 8 x1.toNatClampNeg (nI 0)) 9 x1.toNatClampNeg (nI 0)) 10 x1.toNatClampNeg (nI 0))))))) :
  PX G d m_X4_reset Post 2 [some (.ref 7), some (.int x1)] [] M := wp_ok [(2, [true, true]), (37, [true, true])] ok_X4_reset tk_X4_reset 300 _ _ _ _ h
set_option maxRecDepth 100000 in
theorem g_X4_reset_37 {G : GG} {d : Nat} {Post : Option Value → PM → Prop} {M : PM} {x1 : Int32} (h : br ((nI 5) ≤ x1)
    (Post none M)
    (vp_in x1 5 ∧ (vp_in x1 5 ∧ (PX G d m_X4_reset Post 37 [some (.ref 7), some (.int (x1 + nI 1))] [] (wI (wI M 11 x1.toNatClampNeg (nI 0)) 12 x1.toNatClampNeg (nI 0)))))) :
  PX G d m_X4_reset Post 37 [some (.ref 7), some (.int x1)] [] M := wp_ok [(2, [true, true]), (37, [true, true])] ok_X4_reset tk_X4_reset 300 _ _ _ _ h
set_option maxRecDepth 100000 in
theorem g_X4_copyFromv0_0 {G : GG} {d : Nat} {Post : Option Value → PM → Prop} {M : PM} (h : (¬ (nI 0) < 0 ∧ ¬ (nI 0) < 0 ∧ ¬ (nI 8) < 0 ∧ (nI 0).toNatClampNeg + (nI 8).toNatClampNeg ≤ 8 ∧ (nI 0).toNatClampNeg + (nI 8).toNatClampNeg ≤ 8) ∧ ((¬ (nI 0) < 0 ∧ ¬ (nI 0) < 0 ∧ ¬ (nI 8) < 0 ∧ (nI 0).toNatClampNeg + (nI 8).toNatClampNeg ≤ 8 ∧ (nI 0).toNatClampNeg + (nI 8).toNatClampNeg ≤ 8) ∧ ((¬ (nI 0) < 0 ∧ ¬ (nI 0) < 0 ∧ ¬ (nI 8) < 0 ∧ (nI 0).toNatClampNeg + (nI 8).toNatClampNeg ≤ 8 ∧ (nI 0).toNatClampNeg + (nI 8).toNatClampNeg ≤ 8) ∧ ((¬ (nI 0) < 0 ∧ ¬ (nI 0) < 0 ∧ ¬ (nI 5) < 0 ∧ (nI 0).toNatClampNeg + (nI 5).toNatClampNeg ≤ 5 ∧ (nI 0).toNatClampNeg + (nI 5).toNatClampNeg ≤ 5) ∧ ((¬ (nI 0) < 0 ∧ ¬ (nI 0) < 0 ∧ ¬ (nI 5) < 0 ∧ (nI 0).toNatClampNeg + (nI 5).toNatClampNeg ≤ 5 ∧ (nI 0).toNatClampNeg + (nI 5).toNatClampNeg ≤ 5) ∧ (Post none (cpI (cpI (cpI (cpI (cpI M 14 8 (nI 0).toNatClampNeg (nI 0).toNatClampNeg (nI 8).toNatClampNeg) 15 9 (nI 0).toNatClampNeg (nI 0).toNatClampNeg (nI 8).toNatClampNeg) 16 10 (nI 0).toNatClampNeg (nI 0).toNatClampNeg (nI 8).toNatClampNeg) 17 11 (nI 0).toNatClampNeg (nI 0).toNatClampNeg (nI 5).toNatClampNeg) 18 12 (nI 0).toNatClampNeg (nI 0).toNatClampNeg (nI 5).toNatClampNeg))))))) :
  PX G d m_X4_copyFrom Post 0 [some (.ref 13), some (.ref 7)] [] M := wp_ok [] ok_X4_copyFrom tk_X4_copyFrom 300 _ _ _ _ h
set_option maxRecDepth 100000 in
theorem g_X4_copyFromv1_0 {G : GG} {d : Nat} {Post : Option Value → PM → Prop} {M : PM} (h : (¬ (nI 0) < 0 ∧ ¬ (nI 0) < 0 ∧ ¬ (nI 8) < 0 ∧ (nI 0).toNatClampNeg + (nI 8).toNatClampNeg ≤ 8 ∧ (nI 0).toNatClampNeg + (nI 8).toNatClampNeg ≤ 8) ∧ ((¬ (nI 0) < 0 ∧ ¬ (nI 0) < 0 ∧ ¬ (nI 8) < 0 ∧ (nI 0).toNatClampNeg + (nI 8).toNatClampNeg ≤ 8 ∧ (nI 0).toNatClampNeg + (nI 8).toNatClampNeg ≤ 8) ∧ ((¬ (nI 0) < 0 ∧ ¬ (nI 0) < 0 ∧ ¬ (nI 8) < 0 ∧ (nI 0).toNatClampNeg + (nI 8).toNatClampNeg ≤ 8 ∧ (nI 0).toNatClampNeg + (nI 8).toNatClampNeg ≤ 8) ∧ ((¬ (nI 0) < 0 ∧ ¬ (nI 0) < 0 ∧ ¬ (nI 5) < 0 ∧ (nI 0).toNatClampNeg + (nI 5).toNatClampNeg ≤ 5 ∧ (nI 0).toNatClampNeg + (nI 5).toNatClampNeg ≤ 5) ∧ ((¬ (nI 0) < 0 ∧ ¬ (nI 0) < 0 ∧ ¬ (nI 5) < 0 ∧ (nI 0).toNatClampNeg + (nI 5).toNatClampNeg ≤ 5 ∧ (nI 0).toNatClampNeg + (nI 5).toNatClampNeg ≤ 5) ∧ (Post none (cpI (cpI (cpI (cpI (cpI M 20 8 (nI 0).toNatClampNeg (nI 0).toNatClampNeg (nI 8).toNatClampNeg) 21 9 (nI 0).toNatClampNeg (nI 0).toNatClampNeg (nI 8).toNatClampNeg) 22 10 (nI 0).toNatClampNeg (nI 0).toNatClampNeg (nI 8).toNatClampNeg) 23 11 (nI 0).toNatClampNeg (nI 0).toNatClampNeg (nI 5).toNatClampNeg) 24 12 (nI 0).toNatClampNeg (nI 0).toNatClampNeg (nI 5).toNatClampNeg))))))) :
  PX G d m_X4_copyFrom Post 0 [some (.ref 19), some (.ref 7)] [] M := wp_ok [] ok_X4_copyFrom tk_X4_copyFrom 300 _ _ _ _ h
set_option maxRecDepth 100000 in
theorem g_X4_copyFromv2_0 {G : GG} {d : Nat} {Post : Option Value → PM → Prop} {M : PM} (h : (¬ (nI 0) < 0 ∧ ¬ (nI 0) < 0 ∧ ¬ (nI 8) < 0 ∧ (nI 0).toNatClampNeg + (nI 8).toNatClampNeg ≤ 8 ∧ (nI 0).toNatClampNeg + (nI 8).toNatClampNeg ≤ 8) ∧ ((¬ (nI 0) < 0 ∧ ¬ (nI 0) < 0 ∧ ¬ (nI 8) < 0 ∧ (nI 0).toNatClampNeg + (nI 8).toNatClampNeg ≤ 8 ∧ (nI 0).toNatClampNeg + (nI 8).toNatClampNeg ≤ 8) ∧ ((¬ (nI 0) < 0 ∧ ¬ (nI 0) < 0 ∧ ¬ (nI 8) < 0 ∧ (nI 0).toNatClampNeg + (nI 8).toNatClampNeg ≤ 8 ∧ (nI 0).toNatClampNeg + (nI 8).toNatClampNeg ≤ 8) ∧ ((¬ (nI 0) < 0 ∧ ¬ (nI 0) < 0 ∧ ¬ (nI 5) < 0 ∧ (nI 0).toNatClampNeg + (nI 5).toNatClampNeg ≤ 5 ∧ (nI 0).toNatClampNeg + (nI 5).toNatClampNeg ≤ 5) ∧ ((¬ (nI 0) < 0 ∧ ¬ (nI 0) < 0 ∧ ¬ (nI 5) < 0 ∧ (nI 0).toNatClampNeg + (nI 5).toNatClampNeg ≤ 5 ∧ (nI 0).toNatClampNeg + (nI 5).toNatClampNeg ≤ 5) ∧ (Post none (cpI (cpI (cpI (cpI (cpI M 8 14 (nI 0).toNatClampNeg (nI 0).toNatClampNeg (nI 8).toNatClampNeg) 9 15 (nI 0).toNatClampNeg (nI 0).toNatClampNeg (nI 8).toNatClampNeg) 10 16 (nI 0).toNatClampNeg (nI 0).toNatClampNeg (nI 8).toNatClampNeg) 11 17 (nI 0).toNatClampNeg (nI 0).toNatClampNeg (nI 5).toNatClampNeg) 12 18 (nI 0).toNatClampNeg (nI 0).toNatClampNeg (nI 5).toNatClampNeg))))))) :
  PX G d m_X4_copyFrom Post 0 [some (.ref 7), some (.ref 13)] [] M := wp_ok [] ok_X4_copyFrom tk_X4_copyFrom 300 _ _ _ _ h
set_option maxRecDepth 100000 in
theorem g_X4_copyFromv3_0 {G : GG} {d : Nat} {Post : Option Value → PM → Prop} {M : PM} (h : (¬ (nI 0) < 0 ∧ ¬ (nI 0) < 0 ∧ ¬ (nI 8) < 0 ∧ (nI 0).toNatClampNeg + (nI 8).toNatClampNeg ≤ 8 ∧ (nI 0).toNatClampNeg + (nI 8).toNatClampNeg ≤ 8) ∧ ((¬ (nI 0) < 0 ∧ ¬ (nI 0) < 0 ∧ ¬ (nI 8) < 0 ∧ (nI 0).toNatClampNeg + (nI 8).toNatClampNeg ≤ 8 ∧ (nI 0).toNatClampNeg + (nI 8).toNatClampNeg ≤ 8) ∧ ((¬ (nI 0) < 0 ∧ ¬ (nI 0) < 0 ∧ ¬ (nI 8) < 0 ∧ (nI 0).toNatClampNeg + (nI 8).toNatClampNeg ≤ 8 ∧ (nI 0).toNatClampNeg + (nI 8).toNatClampNeg ≤ 8) ∧ ((¬ (nI 0) < 0 ∧ ¬ (nI 0) < 0 ∧ ¬ (nI 5) < 0 ∧ (nI 0).toNatClampNeg + (nI 5).toNatClampNeg ≤ 5 ∧ (nI 0).toNatClampNeg + (nI 5).toNatClampNeg ≤ 5) ∧ ((¬ (nI 0) < 0 ∧ ¬ (nI 0) < 0 ∧ ¬ (nI 5) < 0 ∧ (nI 0).toNatClampNeg + (nI 5).toNatClampNeg ≤ 5 ∧ (nI 0).toNatClampNeg + (nI 5).toNatClampNeg ≤ 5) ∧ (Post none (cpI (cpI (cpI (cpI (cpI M 8 20 (nI 0).toNatClampNeg (nI 0).toNatClampNeg (nI 8).toNatClampNeg) 9 21 (nI 0).toNatClampNeg (nI 0).toNatClampNeg (nI 8).toNatClampNeg) 10 22 (nI 0).toNatClampNeg (nI 0).toNatClampNeg (nI 8).toNatClampNeg) 11 23 (nI 0).toNatClampNeg (nI 0).toNatClampNeg (nI 5).toNatClampNeg) 12 24 (nI 0).toNatClampNeg (nI 0).toNatClampNeg (nI 5).toNatClampNeg))))))) :
  PX G d m_X4_copyFrom Post 0 [some (.ref 7), some (.ref 19)] [] M := wp_ok [] ok_X4_copyFrom tk_X4_copyFrom 300 _ _ _ _ h
set_option maxRecDepth 100000 in
theorem g_X4_hasChildAt_0 {G : GG} {d : Nat} {Post : Option Value → PM → Prop} {M : PM} {x1 : Int32} {x2 : Int32} (h : PX G d m_X4_hasChildAt Post 2 [some (.ref 7), some (.int x1), some (.int x2), some (.int (nI 0))] [] M) :
  PX G d m_X4_hasChildAt Post 0 [some (.ref 7), some (.int x1), some (.int x2), none] [] M := wp_ok [(2, [true, true, true, true])] ok_X4_hasChildAt tk_X4_hasChildAt 300 _ _ _ _ h
set_option maxRecDepth 100000 in
theorem g_X4_hasChildAt_2 {G : GG} {d : Nat} {Post : Option Value → PM → Prop} {M : PM} {x1 : Int32} {x2 : Int32} {x3 : Int32} (h : br ((M.1 1 6) ≤ x3)
    (((nI 0) = 0 ∨ (nI 0) = 1) ∧ Post (some (.int (nI 0))) M)
    (vp_in x3 8 ∧ (br ((M.1 9 x3.toNatClampNeg) = x2)
      (vp_in x3 8 ∧ (br ((M.1 8 x3.toNatClampNeg) = x1)
        (((nI 1) = 0 ∨ (nI 1) = 1) ∧ Post (some (.int (nI 1))) M)
        (PX G d m_X4_hasChildAt Post 2 [some (.ref 7), some (.int x1), some (.int x2), some (.int (x3 + nI 1))] [] M)))
      (PX G d m_X4_hasChildAt Post 2 [some (.ref 7), some (.int x1), some (.int x2), some (.int (x3 + nI 1))] [] M)))) :
  PX G d m_X4_hasChildAt Post 2 [some (.ref 7), some (.int x1), some (.int x2), some (.int x3)] [] M := wp_ok [(2, [true, true, true, true])] ok_X4_hasChildAt tk_X4_hasChildAt 300 _ _ _ _ h
set_option maxRecDepth 100000 in
theorem g_X4_hasStoneAt_0 {G : GG} {d : Nat} {Post : Option Value → PM → Prop} {M : PM} {x1 : Int32} {x2 : Int32} (h : PX G d m_X4_hasStoneAt Post 2 [some (.ref 7), some (.int x1), some (.int x2), some (.int (nI 0))] [] M) :
  PX G d m_X4_hasStoneAt Post 0 [some (.ref 7), some (.int x1), some (.int x2), none] [] M := wp_ok [(2, [true, true, true, true])] ok_X4_hasStoneAt tk_X4_hasStoneAt 300 _ _ _ _ h
set_option maxRecDepth 100000 in
theorem g_X4_hasStoneAt_2 {G : GG} {d : Nat} {Post : Option Value → PM → Prop} {M : PM} {x1 : Int32} {x2 : Int32} {x3 : Int32} (h : br ((M.1 1 7) ≤ x3)
    (((nI 0) = 0 ∨ (nI 0) = 1) ∧ Post (some (.int (nI 0))) M)
    (vp_in x3 5 ∧ (br ((M.1 12 x3.toNatClampNeg) = x2)
      (vp_in x3 5 ∧ (br ((M.1 11 x3.toNatClampNeg) = x1)
        (((nI 1) = 0 ∨ (nI 1) = 1) ∧ Post (some (.int (nI 1))) M)
        (PX G d m_X4_hasStoneAt Post 2 [some (.ref 7), some (.int x1), some (.int x2), some (.int (x3 + nI 1))] [] M)))
      (PX G d m_X4_hasStoneAt Post 2 [some (.ref 7), some (.int x1), some (.int x2), some (.int (x3 + nI 1))] [] M)))) :
  PX G d m_X4_hasStoneAt Post 2 [some (.ref 7), some (.int x1), some (.int x2), some (.int x3)] [] M := wp_ok [(2, [true, true, true, true])] ok_X4_hasStoneAt tk_X4_hasStoneAt 300 _ _ _ _ h
set_option maxRecDepth 100000 in
theorem g_X4_childrenOn_0 {G : GG} {d : Nat} {Post : Option Value → PM → Prop} {M : PM} {x1 : Int32} (h : PX G d m_X4_childrenOn Post 4 [some (.ref 7), some (.int x1), some (.int (nI 0)), some (.int (nI 0))] [] M) :
  PX G d m_X4_childrenOn Post 0 [some (.ref 7), some (.int x1), none, none] [] M := wp_ok [(4, [true, true, true, true])] ok_X4_childrenOn tk_X4_childrenOn 300 _ _ _ _ h
set_option maxRecDepth 100000 in
theorem g_X4_childrenOn_4 {G : GG} {d : Nat} {Post : Option Value → PM → Prop} {M : PM} {x1 : Int32} {x2 : Int32} {x3 : Int32} (h : br ((M.1 1 6) ≤ x3)
    (Post (some (.int x2)) M)
    (vp_in x3 8 ∧ (br ((M.1 9 x3.toNatClampNeg) = 0)
      (PX G d m_X4_childrenOn Post 4 [some (.ref 7), some (.int x1), some (.int x2), some (.int (x3 + nI 1))] [] M)
      (vp_in x3 8 ∧ (br ((M.1 8 x3.toNatClampNeg) = x1)
        (PX G d m_X4_childrenOn Post 4 [some (.ref 7), some (.int x1), some (.int (x2 ||| ((nI 1) <<< (x3 &&& 31)))), some (.int (x3 + nI 1))] [] M)
        (PX G d m_X4_childrenOn Post 4 [some (.ref 7), some (.int x1), some (.int x2), some (.int (x3 + nI 1))] [] M)))))) :
  PX G d m_X4_childrenOn Post 4 [some (.ref 7), some (.int x1), some (.int x2), some (.int x3)] [] M := wp_ok [(4, [true, true, true, true])] ok_X4_childrenOn tk_X4_childrenOn 300 _ _ _ _ h
set_option maxRecDepth 100000 in
theorem g_X4_idleChildren_0 {G : GG} {d : Nat} {Post : Option Value → PM → Prop} {M : PM} (h : PX G d m_X4_idleChildren Post 4 [some (.ref 7), some (.int (nI 0)), some (.int (nI 0))] [] M) :
  PX G d m_X4_idleChildren Post 0 [some (.ref 7), none, none] [] M := wp_ok [(4, [true, true, true])] ok_X4_idleChildren tk_X4_idleChildren 300 _ _ _ _ h
set_option maxRecDepth 100000 in
theorem g_X4_idleChildren_4 {G : GG} {d : Nat} {Post : Option Value → PM → Prop} {M : PM} {x1 : Int32} {x2 : Int32} (h : br ((M.1 1 6) ≤ x2)
    (Post (some (.int x1)) M)
    (vp_in x2 8 ∧ (br ((M.1 9 x2.toNatClampNeg) = 0)
      (PX G d m_X4_idleChildren Post 4 [some (.ref 7), some (.int (x1 ||| ((nI 1) <<< (x2 &&& 31)))), some (.int (x2 + nI 1))] [] M)
      (PX G d m_X4_idleChildren Post 4 [some (.ref 7), some (.int x1), some (.int (x2 + nI 1))] [] M)))) :
  PX G d m_X4_idleChildren Post 4 [some (.ref 7), some (.int x1), some (.int x2)] [] M := wp_ok [(4, [true, true, true])] ok_X4_idleChildren tk_X4_idleChildren 300 _ _ _ _ h
set_option maxRecDepth 100000 in
theorem g_X4_idleStones_0 {G : GG} {d : Nat} {Post : Option Value → PM → Prop} {M : PM} (h : PX G d m_X4_idleStones Post 4 [some (.ref 7), some (.int (nI 0)), some (.int (nI 0))] [] M) :
  PX G d m_X4_idleStones Post 0 [some (.ref 7), none, none] [] M := wp_ok [(4, [true, true, true])] ok_X4_idleStones tk_X4_idleStones 300 _ _ _ _ h
set_option maxRecDepth 100000 in
theorem g_X4_idleStones_4 {G : GG} {d : Nat} {Post : Option Value → PM → Prop} {M : PM} {x1 : Int32} {x2 : Int32} (h : br ((M.1 1 7) ≤ x2)
    (Post (some (.int x1)) M)
    (vp_in x2 5 ∧ (br ((M.1 12 x2.toNatClampNeg) = 0)
      (PX G d m_X4_idleStones Post 4 [some (.ref 7), some (.int (x1 ||| ((nI 1) <<< (x2 &&& 31)))), some (.int (x2 + nI 1))] [] M)
      (PX G d m_X4_idleStones Post 4 [some (.ref 7), some (.int x1), some (.int (x2 + nI 1))] [] M)))) :
  PX G d m_X4_idleStones Post 4 [some (.ref 7), some (.int x1), some (.int x2)] [] M := wp_ok [(4, [true, true, true])] ok_X4_idleStones tk_X4_idleStones 300 _ _ _ _ h
set_option maxRecDepth 100000 in
theorem g_X4_seatedChildren_0 {G : GG} {d : Nat} {Post : Option Value → PM → Prop} {M : PM} (h : PC G d m_X4_idleChildren [.ref 7] M (fun v N1 => gI v (fun r1 => PC G d m_J6_bitCount_0f7a4 [.int r1] N1 (fun v N2 => gI v (fun r2 => Post (some (.int ((M.1 1 6) - r2))) N2))))) :
  PX G d m_X4_seatedChildren Post 0 [some (.ref 7)] [] M := wp_ok [] ok_X4_seatedChildren tk_X4_seatedChildren 300 _ _ _ _ h
set_option maxRecDepth 100000 in
theorem g_X4_stoneMoment_0 {G : GG} {d : Nat} {Post : Option Value → PM → Prop} {M : PM} {x1 : Int32} (h : PX G d m_X4_stoneMoment Post 4 [some (.ref 7), some (.int x1), some (.int (nI 0)), some (.int (nI 0))] [] M) :
  PX G d m_X4_stoneMoment Post 0 [some (.ref 7), some (.int x1), none, none] [] M := wp_ok [(4, [true, true, true, true])] ok_X4_stoneMoment tk_X4_stoneMoment 300 _ _ _ _ h
set_option maxRecDepth 100000 in
theorem g_X4_stoneMoment_4 {G : GG} {d : Nat} {Post : Option Value → PM → Prop} {M : PM} {x1 : Int32} {x2 : Int32} {x3 : Int32} (h : br ((M.1 1 7) ≤ x3)
    (Post (some (.int x2)) M)
    (vp_in x3 5 ∧ (br ((M.1 11 x3.toNatClampNeg) = x1)
      (vp_in x3 5 ∧ (vp_in x3 5 ∧ (PX G d m_X4_stoneMoment Post 4 [some (.ref 7), some (.int x1), some (.int (x2 + ((M.1 6 x3.toNatClampNeg) * (M.1 12 x3.toNatClampNeg)))), some (.int (x3 + nI 1))] [] M)))
      (PX G d m_X4_stoneMoment Post 4 [some (.ref 7), some (.int x1), some (.int x2), some (.int (x3 + nI 1))] [] M)))) :
  PX G d m_X4_stoneMoment Post 4 [some (.ref 7), some (.int x1), some (.int x2), some (.int x3)] [] M := wp_ok [(4, [true, true, true, true])] ok_X4_stoneMoment tk_X4_stoneMoment 300 _ _ _ _ h
set_option maxRecDepth 100000 in
theorem g_X4_moment_0 {G : GG} {d : Nat} {Post : Option Value → PM → Prop} {M : PM} {x1 : Int32} (h : PC G d m_X4_stoneMoment [.ref 7, .int x1] M (fun v N1 => gI v (fun r1 => PX G d m_X4_moment Post 8 [some (.ref 7), some (.int x1), some (.int r1), some (.int (nI 0))] [] N1))) :
  PX G d m_X4_moment Post 0 [some (.ref 7), some (.int x1), none, none] [] M := wp_ok [(8, [true, true, true, true])] ok_X4_moment tk_X4_moment 300 _ _ _ _ h
set_option maxRecDepth 100000 in
theorem g_X4_moment_8 {G : GG} {d : Nat} {Post : Option Value → PM → Prop} {M : PM} {x1 : Int32} {x2 : Int32} {x3 : Int32} (h : br ((M.1 1 6) ≤ x3)
    (Post (some (.int x2)) M)
    (vp_in x3 8 ∧ (br ((M.1 8 x3.toNatClampNeg) = x1)
      (vp_in x3 8 ∧ (vp_in x3 8 ∧ (PX G d m_X4_moment Post 8 [some (.ref 7), some (.int x1), some (.int (x2 + ((M.1 4 x3.toNatClampNeg) * (M.1 9 x3.toNatClampNeg)))), some (.int (x3 + nI 1))] [] M)))
      (PX G d m_X4_moment Post 8 [some (.ref 7), some (.int x1), some (.int x2), some (.int (x3 + nI 1))] [] M)))) :
  PX G d m_X4_moment Post 8 [some (.ref 7), some (.int x1), some (.int x2), some (.int x3)] [] M := wp_ok [(8, [true, true, true, true])] ok_X4_moment tk_X4_moment 300 _ _ _ _ h
set_option maxRecDepth 100000 in
theorem g_X4_tilt_0 {G : GG} {d : Nat} {Post : Option Value → PM → Prop} {M : PM} {x1 : Int32} (h : PC G d m_X4_moment [.ref 7, .int x1] M (fun v N1 => gI v (fun r1 => vp_in x1 3 ∧ (br ((N1.1 3 x1.toNatClampNeg) < (if 0 ≤ r1 then r1 else 0 - r1))
    (br (0 ≤ r1)
      (Post (some (.int (nI 1))) N1)
      (Post (some (.int (-1))) N1))
    (Post (some (.int (nI 0))) N1))))) :
  PX G d m_X4_tilt Post 0 [some (.ref 7), some (.int x1), none] [] M := wp_ok [] ok_X4_tilt tk_X4_tilt 300 _ _ _ _ h
set_option maxRecDepth 100000 in
theorem g_X4_seatChild_0 {G : GG} {d : Nat} {Post : Option Value → PM → Prop} {M : PM} {x1 : Int32} {x2 : Int32} {x3 : Int32} (h : PC G d m_X4_tilt [.ref 7, .int x2] M (fun v N1 => gI v (fun r1 => vp_in x1 8 ∧ (vp_in x1 8 ∧ (PC G d m_X4_settle [.ref 7, .int x2, .int r1] (wI (wI N1 8 x1.toNatClampNeg x2) 9 x1.toNatClampNeg x3) (fun v N2 => gI v (fun r2 => Post (some (.int r2)) N2))))))) :
  PX G d m_X4_seatChild Post 0 [some (.ref 7), some (.int x1), some (.int x2), some (.int x3), none] [] M := wp_ok [] ok_X4_seatChild tk_X4_seatChild 300 _ _ _ _ h
set_option maxRecDepth 100000 in
theorem g_X4_unseatChild_0 {G : GG} {d : Nat} {Post : Option Value → PM → Prop} {M : PM} {x1 : Int32} (h : vp_in x1 8 ∧ (PC G d m_X4_tilt [.ref 7, .int (M.1 8 x1.toNatClampNeg)] M (fun v N1 => gI v (fun r1 => vp_in x1 8 ∧ (PC G d m_X4_settle [.ref 7, .int (M.1 8 x1.toNatClampNeg), .int r1] (wI N1 9 x1.toNatClampNeg (nI 0)) (fun v N2 => gI v (fun r2 => Post (some (.int r2)) N2))))))) :
  PX G d m_X4_unseatChild Post 0 [some (.ref 7), some (.int x1), none, none] [] M := wp_ok [] ok_X4_unseatChild tk_X4_unseatChild 300 _ _ _ _ h
set_option maxRecDepth 100000 in
theorem g_X4_putStone_0 {G : GG} {d : Nat} {Post : Option Value → PM → Prop} {M : PM} {x1 : Int32} {x2 : Int32} {x3 : Int32} (h : PC G d m_X4_tilt [.ref 7, .int x2] M (fun v N1 => gI v (fun r1 => vp_in x1 5 ∧ (vp_in x1 5 ∧ (PC G d m_X4_settle [.ref 7, .int x2, .int r1] (wI (wI N1 11 x1.toNatClampNeg x2) 12 x1.toNatClampNeg x3) (fun v N2 => gI v (fun r2 => Post (some (.int r2)) N2))))))) :
  PX G d m_X4_putStone Post 0 [some (.ref 7), some (.int x1), some (.int x2), some (.int x3), none] [] M := wp_ok [] ok_X4_putStone tk_X4_putStone 300 _ _ _ _ h
set_option maxRecDepth 100000 in
theorem g_X4_liftStone_0 {G : GG} {d : Nat} {Post : Option Value → PM → Prop} {M : PM} {x1 : Int32} (h : vp_in x1 5 ∧ (PC G d m_X4_tilt [.ref 7, .int (M.1 11 x1.toNatClampNeg)] M (fun v N1 => gI v (fun r1 => vp_in x1 5 ∧ (PC G d m_X4_settle [.ref 7, .int (M.1 11 x1.toNatClampNeg), .int r1] (wI N1 12 x1.toNatClampNeg (nI 0)) (fun v N2 => gI v (fun r2 => Post (some (.int r2)) N2))))))) :
  PX G d m_X4_liftStone Post 0 [some (.ref 7), some (.int x1), none, none] [] M := wp_ok [] ok_X4_liftStone tk_X4_liftStone 300 _ _ _ _ h
set_option maxRecDepth 100000 in
theorem g_X4_settle_0 {G : GG} {d : Nat} {Post : Option Value → PM → Prop} {M : PM} {x1 : Int32} {x2 : Int32} (h : PC G d m_X4_tilt [.ref 7, .int x1] M (fun v N1 => gI v (fun r1 => br (r1 = 0)
    (Post (some (.int (nI 0))) N1)
    (br (r1 = x2)
      (Post (some (.int (nI 0))) N1)
      (PX G d m_X4_settle Post 23 [some (.ref 7), some (.int x1), none, some (.int r1), some (.int (nI 0)), some (.int (nI 0))] [] N1))))) :
  PX G d m_X4_settle Post 0 [some (.ref 7), some (.int x1), some (.int x2), none, none, none] [] M := wp_ok [(23, [true, true, false, true, true, true])] ok_X4_settle tk_X4_settle 300 _ _ _ _ h
set_option maxRecDepth 100000 in
theorem g_X4_settle_23 {G : GG} {d : Nat} {Post : Option Value → PM → Prop} {M : PM} {x1 : Int32} {x3 : Int32} {x4 : Int32} {x5 : Int32} (h : br ((M.1 1 6) ≤ x5)
    (Post (some (.int x4)) M)
    (vp_in x5 8 ∧ (br ((M.1 8 x5.toNatClampNeg) = x1)
      (vp_in x5 8 ∧ (PC G d m_J6_signum_0f7a4 [.int (M.1 9 x5.toNatClampNeg)] M (fun v N1 => gI v (fun r1 => br (r1 = x3)
        (vp_in x5 8 ∧ (vp_in x5 8 ∧ (PX G d m_X4_settle Post 23 [some (.ref 7), some (.int x1), none, some (.int x3), some (.int (x4 + nI 1)), some (.int (x5 + nI 1))] [] (wI N1 10 x5.toNatClampNeg ((N1.1 10 x5.toNatClampNeg) + (nI 1))))))
        (PX G d m_X4_settle Post 23 [some (.ref 7), some (.int x1), none, some (.int x3), some (.int x4), some (.int (x5 + nI 1))] [] N1)))))
      (PX G d m_X4_settle Post 23 [some (.ref 7), some (.int x1), none, some (.int x3), some (.int x4), some (.int (x5 + nI 1))] [] M)))) :
  PX G d m_X4_settle Post 23 [some (.ref 7), some (.int x1), none, some (.int x3), some (.int x4), some (.int x5)] [] M := wp_ok [(23, [true, true, false, true, true, true])] ok_X4_settle tk_X4_settle 300 _ _ _ _ h
set_option maxRecDepth 100000 in
theorem g_J6_bitCount_0f7a4_0 {G : GG} {d : Nat} {Post : Option Value → PM → Prop} {M : PM} {x0 : Int32} (h : Post (some (.int ((((((((x0 - (((x0.toUInt32 >>> ((nI 1).toUInt32 &&& Int32.toUInt32 31)).toInt32) &&& (nI 1431655765))) &&& (nI 858993459)) + ((((x0 - (((x0.toUInt32 >>> ((nI 1).toUInt32 &&& Int32.toUInt32 31)).toInt32) &&& (nI 1431655765))).toUInt32 >>> ((nI 2).toUInt32 &&& Int32.toUInt32 31)).toInt32) &&& (nI 858993459))) + (((((x0 - (((x0.toUInt32 >>> ((nI 1).toUInt32 &&& Int32.toUInt32 31)).toInt32) &&& (nI 1431655765))) &&& (nI 858993459)) + ((((x0 - (((x0.toUInt32 >>> ((nI 1).toUInt32 &&& Int32.toUInt32 31)).toInt32) &&& (nI 1431655765))).toUInt32 >>> ((nI 2).toUInt32 &&& Int32.toUInt32 31)).toInt32) &&& (nI 858993459))).toUInt32 >>> ((nI 4).toUInt32 &&& Int32.toUInt32 31)).toInt32)) &&& (nI 252645135)) + (((((((x0 - (((x0.toUInt32 >>> ((nI 1).toUInt32 &&& Int32.toUInt32 31)).toInt32) &&& (nI 1431655765))) &&& (nI 858993459)) + ((((x0 - (((x0.toUInt32 >>> ((nI 1).toUInt32 &&& Int32.toUInt32 31)).toInt32) &&& (nI 1431655765))).toUInt32 >>> ((nI 2).toUInt32 &&& Int32.toUInt32 31)).toInt32) &&& (nI 858993459))) + (((((x0 - (((x0.toUInt32 >>> ((nI 1).toUInt32 &&& Int32.toUInt32 31)).toInt32) &&& (nI 1431655765))) &&& (nI 858993459)) + ((((x0 - (((x0.toUInt32 >>> ((nI 1).toUInt32 &&& Int32.toUInt32 31)).toInt32) &&& (nI 1431655765))).toUInt32 >>> ((nI 2).toUInt32 &&& Int32.toUInt32 31)).toInt32) &&& (nI 858993459))).toUInt32 >>> ((nI 4).toUInt32 &&& Int32.toUInt32 31)).toInt32)) &&& (nI 252645135)).toUInt32 >>> ((nI 8).toUInt32 &&& Int32.toUInt32 31)).toInt32)) + ((((((((x0 - (((x0.toUInt32 >>> ((nI 1).toUInt32 &&& Int32.toUInt32 31)).toInt32) &&& (nI 1431655765))) &&& (nI 858993459)) + ((((x0 - (((x0.toUInt32 >>> ((nI 1).toUInt32 &&& Int32.toUInt32 31)).toInt32) &&& (nI 1431655765))).toUInt32 >>> ((nI 2).toUInt32 &&& Int32.toUInt32 31)).toInt32) &&& (nI 858993459))) + (((((x0 - (((x0.toUInt32 >>> ((nI 1).toUInt32 &&& Int32.toUInt32 31)).toInt32) &&& (nI 1431655765))) &&& (nI 858993459)) + ((((x0 - (((x0.toUInt32 >>> ((nI 1).toUInt32 &&& Int32.toUInt32 31)).toInt32) &&& (nI 1431655765))).toUInt32 >>> ((nI 2).toUInt32 &&& Int32.toUInt32 31)).toInt32) &&& (nI 858993459))).toUInt32 >>> ((nI 4).toUInt32 &&& Int32.toUInt32 31)).toInt32)) &&& (nI 252645135)) + (((((((x0 - (((x0.toUInt32 >>> ((nI 1).toUInt32 &&& Int32.toUInt32 31)).toInt32) &&& (nI 1431655765))) &&& (nI 858993459)) + ((((x0 - (((x0.toUInt32 >>> ((nI 1).toUInt32 &&& Int32.toUInt32 31)).toInt32) &&& (nI 1431655765))).toUInt32 >>> ((nI 2).toUInt32 &&& Int32.toUInt32 31)).toInt32) &&& (nI 858993459))) + (((((x0 - (((x0.toUInt32 >>> ((nI 1).toUInt32 &&& Int32.toUInt32 31)).toInt32) &&& (nI 1431655765))) &&& (nI 858993459)) + ((((x0 - (((x0.toUInt32 >>> ((nI 1).toUInt32 &&& Int32.toUInt32 31)).toInt32) &&& (nI 1431655765))).toUInt32 >>> ((nI 2).toUInt32 &&& Int32.toUInt32 31)).toInt32) &&& (nI 858993459))).toUInt32 >>> ((nI 4).toUInt32 &&& Int32.toUInt32 31)).toInt32)) &&& (nI 252645135)).toUInt32 >>> ((nI 8).toUInt32 &&& Int32.toUInt32 31)).toInt32)).toUInt32 >>> ((nI 16).toUInt32 &&& Int32.toUInt32 31)).toInt32)) &&& (nI 63)))) M) :
  PX G d m_J6_bitCount_0f7a4 Post 0 [some (.int x0)] [] M := wp_ok [] ok_J6_bitCount_0f7a4 tk_J6_bitCount_0f7a4 300 _ _ _ _ h
set_option maxRecDepth 100000 in
theorem g_J6_signum_0f7a4_0 {G : GG} {d : Nat} {Post : Option Value → PM → Prop} {M : PM} {x0 : Int32} (h : Post (some (.int ((x0 >>> ((nI 31) &&& 31)) ||| (((-x0).toUInt32 >>> ((nI 31).toUInt32 &&& Int32.toUInt32 31)).toInt32)))) M) :
  PX G d m_J6_signum_0f7a4 Post 0 [some (.int x0)] [] M := wp_ok [] ok_J6_signum_0f7a4 tk_J6_signum_0f7a4 300 _ _ _ _ h
set_option maxRecDepth 100000 in
theorem g_J0_length_8abf5v0_0 {G : GG} {d : Nat} {Post : Option Value → PM → Prop} {M : PM} (h : PC G d m_J0_coder_7d493 [.ref 210] M (fun v N1 => gI v (fun r1 => Post (some (.int ((nI 5) >>> (r1 &&& 31)))) N1))) :
  PX G d m_J0_length_8abf5 Post 0 [some (.ref 210)] [] M := wp_ok [] ok_J0_length_8abf5 tk_J0_length_8abf5 300 _ _ _ _ h
set_option maxRecDepth 100000 in
theorem g_J0_length_8abf5v1_0 {G : GG} {d : Nat} {Post : Option Value → PM → Prop} {M : PM} (h : PC G d m_J0_coder_7d493 [.ref 211] M (fun v N1 => gI v (fun r1 => Post (some (.int ((nI 5) >>> (r1 &&& 31)))) N1))) :
  PX G d m_J0_length_8abf5 Post 0 [some (.ref 211)] [] M := wp_ok [] ok_J0_length_8abf5 tk_J0_length_8abf5 300 _ _ _ _ h
set_option maxRecDepth 100000 in
theorem g_J0_length_8abf5v2_0 {G : GG} {d : Nat} {Post : Option Value → PM → Prop} {M : PM} (h : PC G d m_J0_coder_7d493 [.ref 212] M (fun v N1 => gI v (fun r1 => Post (some (.int ((nI 5) >>> (r1 &&& 31)))) N1))) :
  PX G d m_J0_length_8abf5 Post 0 [some (.ref 212)] [] M := wp_ok [] ok_J0_length_8abf5 tk_J0_length_8abf5 300 _ _ _ _ h
set_option maxRecDepth 100000 in
theorem g_J0_charAt_5068ev0_0 {G : GG} {d : Nat} {Post : Option Value → PM → Prop} {M : PM} {x1 : Int32} (h : PC G d m_J0_isLatin1_aae02 [.ref 210] M (fun v N1 => gI v (fun r1 => br (r1 = 0)
    (False)
    (PC G d m_J1_charAt_3b067 [.ref 220, .int x1] N1 (fun v N2 => gI v (fun r2 => narrow .char (.int r2) = .int r2 ∧ Post (some (.int r2)) N2)))))) :
  PX G d m_J0_charAt_5068e Post 0 [some (.ref 210), some (.int x1)] [] M := wp_ok [] ok_J0_charAt_5068e tk_J0_charAt_5068e 300 _ _ _ _ h
set_option maxRecDepth 100000 in
theorem g_J0_charAt_5068ev1_0 {G : GG} {d : Nat} {Post : Option Value → PM → Prop} {M : PM} {x1 : Int32} (h : PC G d m_J0_isLatin1_aae02 [.ref 211] M (fun v N1 => gI v (fun r1 => br (r1 = 0)
    (False)
    (PC G d m_J1_charAt_3b067 [.ref 221, .int x1] N1 (fun v N2 => gI v (fun r2 => narrow .char (.int r2) = .int r2 ∧ Post (some (.int r2)) N2)))))) :
  PX G d m_J0_charAt_5068e Post 0 [some (.ref 211), some (.int x1)] [] M := wp_ok [] ok_J0_charAt_5068e tk_J0_charAt_5068e 300 _ _ _ _ h
set_option maxRecDepth 100000 in
theorem g_J0_charAt_5068ev2_0 {G : GG} {d : Nat} {Post : Option Value → PM → Prop} {M : PM} {x1 : Int32} (h : PC G d m_J0_isLatin1_aae02 [.ref 212] M (fun v N1 => gI v (fun r1 => br (r1 = 0)
    (False)
    (PC G d m_J1_charAt_3b067 [.ref 222, .int x1] N1 (fun v N2 => gI v (fun r2 => narrow .char (.int r2) = .int r2 ∧ Post (some (.int r2)) N2)))))) :
  PX G d m_J0_charAt_5068e Post 0 [some (.ref 212), some (.int x1)] [] M := wp_ok [] ok_J0_charAt_5068e tk_J0_charAt_5068e 300 _ _ _ _ h
set_option maxRecDepth 100000 in
theorem g_J0_coder_7d493v0_0 {G : GG} {d : Nat} {Post : Option Value → PM → Prop} {M : PM} (h : br ((nI 1) = 0)
    (narrow .byte (.int (nI 1)) = .int (nI 1) ∧ Post (some (.int (nI 1))) M)
    (narrow .byte (.int (nI 0)) = .int (nI 0) ∧ Post (some (.int (nI 0))) M)) :
  PX G d m_J0_coder_7d493 Post 0 [some (.ref 210)] [] M := wp_ok [] ok_J0_coder_7d493 tk_J0_coder_7d493 300 _ _ _ _ h
set_option maxRecDepth 100000 in
theorem g_J0_coder_7d493v1_0 {G : GG} {d : Nat} {Post : Option Value → PM → Prop} {M : PM} (h : br ((nI 1) = 0)
    (narrow .byte (.int (nI 1)) = .int (nI 1) ∧ Post (some (.int (nI 1))) M)
    (narrow .byte (.int (nI 0)) = .int (nI 0) ∧ Post (some (.int (nI 0))) M)) :
  PX G d m_J0_coder_7d493 Post 0 [some (.ref 211)] [] M := wp_ok [] ok_J0_coder_7d493 tk_J0_coder_7d493 300 _ _ _ _ h
set_option maxRecDepth 100000 in
theorem g_J0_coder_7d493v2_0 {G : GG} {d : Nat} {Post : Option Value → PM → Prop} {M : PM} (h : br ((nI 1) = 0)
    (narrow .byte (.int (nI 1)) = .int (nI 1) ∧ Post (some (.int (nI 1))) M)
    (narrow .byte (.int (nI 0)) = .int (nI 0) ∧ Post (some (.int (nI 0))) M)) :
  PX G d m_J0_coder_7d493 Post 0 [some (.ref 212)] [] M := wp_ok [] ok_J0_coder_7d493 tk_J0_coder_7d493 300 _ _ _ _ h
set_option maxRecDepth 100000 in
theorem g_J0_isLatin1_aae02v0_0 {G : GG} {d : Nat} {Post : Option Value → PM → Prop} {M : PM} (h : br ((nI 1) = 0)
    (((nI 0) = 0 ∨ (nI 0) = 1) ∧ Post (some (.int (nI 0))) M)
    (br ((nI 0) = 0)
      (((nI 1) = 0 ∨ (nI 1) = 1) ∧ Post (some (.int (nI 1))) M)
      (((nI 0) = 0 ∨ (nI 0) = 1) ∧ Post (some (.int (nI 0))) M))) :
  PX G d m_J0_isLatin1_aae02 Post 0 [some (.ref 210)] [] M := wp_ok [] ok_J0_isLatin1_aae02 tk_J0_isLatin1_aae02 300 _ _ _ _ h
set_option maxRecDepth 100000 in
theorem g_J0_isLatin1_aae02v1_0 {G : GG} {d : Nat} {Post : Option Value → PM → Prop} {M : PM} (h : br ((nI 1) = 0)
    (((nI 0) = 0 ∨ (nI 0) = 1) ∧ Post (some (.int (nI 0))) M)
    (br ((nI 0) = 0)
      (((nI 1) = 0 ∨ (nI 1) = 1) ∧ Post (some (.int (nI 1))) M)
      (((nI 0) = 0 ∨ (nI 0) = 1) ∧ Post (some (.int (nI 0))) M))) :
  PX G d m_J0_isLatin1_aae02 Post 0 [some (.ref 211)] [] M := wp_ok [] ok_J0_isLatin1_aae02 tk_J0_isLatin1_aae02 300 _ _ _ _ h
set_option maxRecDepth 100000 in
theorem g_J0_isLatin1_aae02v2_0 {G : GG} {d : Nat} {Post : Option Value → PM → Prop} {M : PM} (h : br ((nI 1) = 0)
    (((nI 0) = 0 ∨ (nI 0) = 1) ∧ Post (some (.int (nI 0))) M)
    (br ((nI 0) = 0)
      (((nI 1) = 0 ∨ (nI 1) = 1) ∧ Post (some (.int (nI 1))) M)
      (((nI 0) = 0 ∨ (nI 0) = 1) ∧ Post (some (.int (nI 0))) M))) :
  PX G d m_J0_isLatin1_aae02 Post 0 [some (.ref 212)] [] M := wp_ok [] ok_J0_isLatin1_aae02 tk_J0_isLatin1_aae02 300 _ _ _ _ h
set_option maxRecDepth 100000 in
theorem g_J0_checkIndex_df160_0 {G : GG} {d : Nat} {Post : Option Value → PM → Prop} {M : PM} {x0 : Int32} {x1 : Int32} (h : (PC G d m_J3_checkIndex_8e157 [.int x0, .int x1, .null] M (fun v N1 => gI v (fun r1 => Post none N1))) ∧ (PC G d m_J3_checkIndex_8e157 [.int x0, .int x1, .ref 230] M (fun v N2 => gI v (fun r2 => Post none N2)))) :
  PX G d m_J0_checkIndex_df160 Post 0 [some (.int x0), some (.int x1)] [] M := wp_ok [] ok_J0_checkIndex_df160 tk_J0_checkIndex_df160 300 _ _ _ _ h
set_option maxRecDepth 100000 in
theorem g_J1_charAt_3b067v0_0 {G : GG} {d : Nat} {Post : Option Value → PM → Prop} {M : PM} {x1 : Int32} (h : PC G d m_J0_checkIndex_df160 [.int x1, .int (nI 5)] M (fun v N1 => gN v (vp_in x1 5 ∧ (narrow .char (.int (((((ctB.getD 0 []).getD x1.toNatClampNeg 0) &&& (nI 255)).toUInt32 % 65536).toInt32)) = .int (((((ctB.getD 0 []).getD x1.toNatClampNeg 0) &&& (nI 255)).toUInt32 % 65536).toInt32) ∧ Post (some (.int (((((ctB.getD 0 []).getD x1.toNatClampNeg 0) &&& (nI 255)).toUInt32 % 65536).toInt32))) N1)))) :
  PX G d m_J1_charAt_3b067 Post 0 [some (.ref 220), some (.int x1)] [] M := wp_ok [] ok_J1_charAt_3b067 tk_J1_charAt_3b067 300 _ _ _ _ h
set_option maxRecDepth 100000 in
theorem g_J1_charAt_3b067v1_0 {G : GG} {d : Nat} {Post : Option Value → PM → Prop} {M : PM} {x1 : Int32} (h : PC G d m_J0_checkIndex_df160 [.int x1, .int (nI 5)] M (fun v N1 => gN v (vp_in x1 5 ∧ (narrow .char (.int (((((ctB.getD 1 []).getD x1.toNatClampNeg 0) &&& (nI 255)).toUInt32 % 65536).toInt32)) = .int (((((ctB.getD 1 []).getD x1.toNatClampNeg 0) &&& (nI 255)).toUInt32 % 65536).toInt32) ∧ Post (some (.int (((((ctB.getD 1 []).getD x1.toNatClampNeg 0) &&& (nI 255)).toUInt32 % 65536).toInt32))) N1)))) :
  PX G d m_J1_charAt_3b067 Post 0 [some (.ref 221), some (.int x1)] [] M := wp_ok [] ok_J1_charAt_3b067 tk_J1_charAt_3b067 300 _ _ _ _ h
set_option maxRecDepth 100000 in
theorem g_J1_charAt_3b067v2_0 {G : GG} {d : Nat} {Post : Option Value → PM → Prop} {M : PM} {x1 : Int32} (h : PC G d m_J0_checkIndex_df160 [.int x1, .int (nI 5)] M (fun v N1 => gN v (vp_in x1 5 ∧ (narrow .char (.int (((((ctB.getD 2 []).getD x1.toNatClampNeg 0) &&& (nI 255)).toUInt32 % 65536).toInt32)) = .int (((((ctB.getD 2 []).getD x1.toNatClampNeg 0) &&& (nI 255)).toUInt32 % 65536).toInt32) ∧ Post (some (.int (((((ctB.getD 2 []).getD x1.toNatClampNeg 0) &&& (nI 255)).toUInt32 % 65536).toInt32))) N1)))) :
  PX G d m_J1_charAt_3b067 Post 0 [some (.ref 222), some (.int x1)] [] M := wp_ok [] ok_J1_charAt_3b067 tk_J1_charAt_3b067 300 _ _ _ _ h
set_option maxRecDepth 100000 in
theorem g_J7_fill_53178v0_0 {G : GG} {d : Nat} {Post : Option Value → PM → Prop} {M : PM} {x1 : Int32} (h : PX G d m_J7_fill_53178 Post 5 [some (.ref 49), some (.int x1), some (.int (nI 0)), some (.int (nI 35))] [] M) :
  PX G d m_J7_fill_53178 Post 0 [some (.ref 49), some (.int x1), none, none] [] M := wp_ok [(5, [true, true, true, true])] ok_J7_fill_53178 tk_J7_fill_53178 300 _ _ _ _ h
set_option maxRecDepth 100000 in
theorem g_J7_fill_53178v0_5 {G : GG} {d : Nat} {Post : Option Value → PM → Prop} {M : PM} {x1 : Int32} {x2 : Int32} {x3 : Int32} (h : br (x3 ≤ x2)
    (Post none M)
    (vp_in x2 35 ∧ (PX G d m_J7_fill_53178 Post 5 [some (.ref 49), some (.int x1), some (.int (x2 + nI 1)), some (.int x3)] [] (wI M 49 x2.toNatClampNeg x1)))) :
  PX G d m_J7_fill_53178 Post 5 [some (.ref 49), some (.int x1), some (.int x2), some (.int x3)] [] M := wp_ok [(5, [true, true, true, true])] ok_J7_fill_53178 tk_J7_fill_53178 300 _ _ _ _ h
set_option maxRecDepth 100000 in
theorem g_J7_fill_53178v1_0 {G : GG} {d : Nat} {Post : Option Value → PM → Prop} {M : PM} {x1 : Int32} (h : PX G d m_J7_fill_53178 Post 5 [some (.ref 50), some (.int x1), some (.int (nI 0)), some (.int (nI 75))] [] M) :
  PX G d m_J7_fill_53178 Post 0 [some (.ref 50), some (.int x1), none, none] [] M := wp_ok [(5, [true, true, true, true])] ok_J7_fill_53178 tk_J7_fill_53178 300 _ _ _ _ h
set_option maxRecDepth 100000 in
theorem g_J7_fill_53178v1_5 {G : GG} {d : Nat} {Post : Option Value → PM → Prop} {M : PM} {x1 : Int32} {x2 : Int32} {x3 : Int32} (h : br (x3 ≤ x2)
    (Post none M)
    (vp_in x2 75 ∧ (PX G d m_J7_fill_53178 Post 5 [some (.ref 50), some (.int x1), some (.int (x2 + nI 1)), some (.int x3)] [] (wI M 50 x2.toNatClampNeg x1)))) :
  PX G d m_J7_fill_53178 Post 5 [some (.ref 50), some (.int x1), some (.int x2), some (.int x3)] [] M := wp_ok [(5, [true, true, true, true])] ok_J7_fill_53178 tk_J7_fill_53178 300 _ _ _ _ h
set_option maxRecDepth 100000 in
theorem g_J3_checkIndex_8e157v0_0 {G : GG} {d : Nat} {Post : Option Value → PM → Prop} {M : PM} {x0 : Int32} {x1 : Int32} (h : br (x0 < 0)
    (False)
    (br (x0 < x1)
      (Post (some (.int x0)) M)
      (False))) :
  PX G d m_J3_checkIndex_8e157 Post 0 [some (.int x0), some (.int x1), some (.null)] [] M := wp_ok [] ok_J3_checkIndex_8e157 tk_J3_checkIndex_8e157 300 _ _ _ _ h
set_option maxRecDepth 100000 in
theorem g_J3_checkIndex_8e157v1_0 {G : GG} {d : Nat} {Post : Option Value → PM → Prop} {M : PM} {x0 : Int32} {x1 : Int32} (h : br (x0 < 0)
    (False)
    (br (x0 < x1)
      (Post (some (.int x0)) M)
      (False))) :
  PX G d m_J3_checkIndex_8e157 Post 0 [some (.int x0), some (.int x1), some (.ref 230)] [] M := wp_ok [] ok_J3_checkIndex_8e157 tk_J3_checkIndex_8e157 300 _ _ _ _ h
