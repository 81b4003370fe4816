set_option maxRecDepth 100000 in
theorem g_X9_size_0 {G : GG} {d : Nat} {Post : Option Value → PM → Prop} {M : PM} {x0 : Int32} (h : br (0 ≤ x0)
    (Post (some (.int x0)) M)
    (Post (some (.int (-x0))) M)) :
  PX G d m_X9_size Post 0 [some (.int x0)] [] M := wp_ok [] ok_X9_size tk_X9_size 300 _ _ _ _ h
set_option maxRecDepth 100000 in
theorem g_X9_type_0 {G : GG} {d : Nat} {Post : Option Value → PM → Prop} {M : PM} {x1 : Int64} {x3 : Int32} (h : PC G d m_X9_in [.int x3, .int (nI 1), .int (nI 8)] (wI M 56 0 (nI 0)) (fun v N1 => gI v (fun r1 => br (r1 = 0)
    (Post (some (.int (-1))) N1)
    (br (((N1.1 56 3) + x3) ≤ (nI 300))
      (PX G d m_X9_type Post 37 [some (.ref 56), some (.long x1), none, none, some (.int (x3 - (nI 1)))] [] N1)
      (Post (some (.int (-3))) N1))))) :
  PX G d m_X9_type Post 0 [some (.ref 56), some (.long x1), none, some (.int x3), none] [] M := wp_ok [(37, [true, true, false, false, true])] ok_X9_type tk_X9_type 300 _ _ _ _ h
set_option maxRecDepth 100000 in
theorem g_X9_type_37 {G : GG} {d : Nat} {Post : Option Value → PM → Prop} {M : PM} {x1 : Int64} {x4 : Int32} (h : br (x4 < 0)
    (Post (some (.int (M.1 56 3))) M)
    (vp_in (M.1 56 3) 300 ∧ (PX G d m_X9_type Post 37 [some (.ref 56), some (.long x1), none, none, some (.int (x4 + (-1)))] [] (wI (wI M 57 ((M.1 56 3).toNatClampNeg) (((x1 >>> (((nI 8) * x4).toInt64 &&& 63)) &&& 255).toInt32)) 56 3 ((M.1 56 3) + (nI 1)))))) :
  PX G d m_X9_type Post 37 [some (.ref 56), some (.long x1), none, none, some (.int x4)] [] M := wp_ok [(37, [true, true, false, false, true])] ok_X9_type tk_X9_type 300 _ _ _ _ h
set_option maxRecDepth 100000 in
theorem g_X9_wordOf_0 {G : GG} {d : Nat} {Post : Option Value → PM → Prop} {M : PM} {x0 : Int64} (h : PC G d m_X9_named [.int (nI 112), .int (nI 108), .int (nI 97), .int (nI 110), .int (nI 107)] M (fun v N1 => gL v (fun r1 => br ((lg_cmp x0 r1) = 0)
    (Post (some (.int (nI 0))) N1)
    (PC G d m_X9_named [.int (nI 99), .int (nI 104), .int (nI 105), .int (nI 108), .int (nI 100)] N1 (fun v N2 => gL v (fun r2 => br ((lg_cmp x0 r2) = 0)
      (Post (some (.int (nI 1))) N2)
      (PC G d m_X9_named [.int (nI 115), .int (nI 116), .int (nI 111), .int (nI 110), .int (nI 101)] N2 (fun v N3 => gL v (fun r3 => br ((lg_cmp x0 r3) = 0)
        (Post (some (.int (nI 2))) N3)
        (Post (some (.int (-9))) N3)))))))))) :
  PX G d m_X9_wordOf Post 0 [some (.long x0), none] [] M := wp_ok [] ok_X9_wordOf tk_X9_wordOf 300 _ _ _ _ h
set_option maxRecDepth 100000 in
theorem g_X9_takes_0 {G : GG} {d : Nat} {Post : Option Value → PM → Prop} {M : PM} {x1 : Int32} (h : PC G d m_X9_isWell [.ref 56] M (fun v N1 => gI v (fun r1 => br (r1 = 0)
    (Post (some (.int (nI 0))) N1)
    (br (x1 = 0)
      (Post (some (.int (nI 0))) (wI N1 56 8 (N1.1 56 6)))
      (PC G d m_X9_advances [.ref 56] N1 (fun v N2 => gN v (Post (some (.int (N1.1 56 7))) N2))))))) :
  PX G d m_X9_takes Post 0 [some (.ref 56), some (.int x1), none] [] M := wp_ok [] ok_X9_takes tk_X9_takes 300 _ _ _ _ h
set_option maxRecDepth 100000 in
theorem g_X9_readsItem_0 {G : GG} {d : Nat} {Post : Option Value → PM → Prop} {M : PM} {x1 : Int32} (h : br (x1 = 0)
    (PC G d m_X9_number [.ref 56, .int (nI 1), .int (nI 4)] M (fun v N4 => gI v (fun r4 => vp_in ((nI 3) + (M.1 56 17)) 6 ∧ (PC G d m_X9_number [.ref 56, .int (nI 0), .int (nI 20)] (wI N4 58 (((nI 3) + (M.1 56 17)).toNatClampNeg) r4) (fun v N5 => gI v (fun r5 => vp_in ((nI 3) + (N4.1 56 17)) 6 ∧ (Post none (wI (wI N5 59 (((nI 3) + (N4.1 56 17)).toNatClampNeg) r5) 56 17 ((N5.1 56 17) + (nI 1))))))))))
    (br (x1 = (nI 1))
      (PC G d m_X9_number [.ref 56, .int (nI 1), .int (nI 60)] M (fun v N2 => gI v (fun r2 => vp_in ((nI 8) + (M.1 56 18)) 16 ∧ (PC G d m_X9_number [.ref 56, .int (nI 1), .int (nI 30)] (wI N2 60 (((nI 8) + (M.1 56 18)).toNatClampNeg) r2) (fun v N3 => gI v (fun r3 => vp_in ((nI 8) + (N2.1 56 18)) 16 ∧ (Post none (wI (wI N3 61 (((nI 8) + (N2.1 56 18)).toNatClampNeg) r3) 56 18 ((N3.1 56 18) + (nI 1))))))))))
      (PC G d m_X9_number [.ref 56, .int (nI 1), .int (nI 20)] M (fun v N1 => gI v (fun r1 => vp_in ((nI 5) + (M.1 56 19)) 10 ∧ (Post none (wI (wI N1 62 (((nI 5) + (M.1 56 19)).toNatClampNeg) r1) 56 19 ((N1.1 56 19) + (nI 1))))))))) :
  PX G d m_X9_readsItem Post 0 [some (.ref 56), some (.int x1)] [] M := wp_ok [] ok_X9_readsItem tk_X9_readsItem 300 _ _ _ _ h
set_option maxRecDepth 100000 in
theorem g_X9_stonesOn_0 {G : GG} {d : Nat} {Post : Option Value → PM → Prop} {M : PM} {x1 : Int32} (h : PX G d m_X9_stonesOn Post 4 [some (.ref 56), some (.int x1), some (.int (nI 0)), some (.int (nI 0))] [] M) :
  PX G d m_X9_stonesOn Post 0 [some (.ref 56), some (.int x1), none, none] [] M := wp_ok [(4, [true, true, true, true])] ok_X9_stonesOn tk_X9_stonesOn 300 _ _ _ _ h
set_option maxRecDepth 100000 in
theorem g_X9_stonesOn_4 {G : GG} {d : Nat} {Post : Option Value → PM → Prop} {M : PM} {x1 : Int32} {x2 : Int32} {x3 : Int32} (h : br ((M.1 56 16) ≤ x3)
    (Post (some (.int x2)) M)
    (vp_in ((nI 24) + x3) 34 ∧ (br ((M.1 63 (((nI 24) + x3).toNatClampNeg)) = x1)
      (vp_in x3 10 ∧ (vp_in ((nI 29) + x3) 34 ∧ (PX G d m_X9_stonesOn Post 4 [some (.ref 56), some (.int x1), some (.int (x2 + ((M.1 62 x3.toNatClampNeg) * (M.1 63 (((nI 29) + x3).toNatClampNeg))))), some (.int (x3 + nI 1))] [] M)))
      (PX G d m_X9_stonesOn Post 4 [some (.ref 56), some (.int x1), some (.int (x2 + (nI 0))), some (.int (x3 + nI 1))] [] M)))) :
  PX G d m_X9_stonesOn Post 4 [some (.ref 56), some (.int x1), some (.int x2), some (.int x3)] [] M := wp_ok [(4, [true, true, true, true])] ok_X9_stonesOn tk_X9_stonesOn 300 _ _ _ _ h
set_option maxRecDepth 100000 in
theorem g_X9_tiltBy_0 {G : GG} {d : Nat} {Post : Option Value → PM → Prop} {M : PM} {x1 : Int32} {x2 : Int32} (h : PC G d m_X9_size [.int x2] M (fun v N1 => gI v (fun r1 => vp_in x1 6 ∧ (br ((N1.1 59 x1.toNatClampNeg) < r1)
    (br (0 ≤ x2)
      (Post (some (.int (nI 1))) N1)
      (Post (some (.int (-1))) N1))
    (Post (some (.int (nI 0))) N1))))) :
  PX G d m_X9_tiltBy Post 0 [some (.ref 56), some (.int x1), some (.int x2)] [] M := wp_ok [] ok_X9_tiltBy tk_X9_tiltBy 300 _ _ _ _ h
set_option maxRecDepth 100000 in
theorem g_X9_tiltOf_0 {G : GG} {d : Nat} {Post : Option Value → PM → Prop} {M : PM} {x1 : Int32} (h : PC G d m_X9_momentOf [.ref 56, .int x1] M (fun v N1 => gI v (fun r1 => PC G d m_X9_tiltBy [.ref 56, .int x1, .int r1] N1 (fun v N2 => gI v (fun r2 => Post (some (.int r2)) N2))))) :
  PX G d m_X9_tiltOf Post 0 [some (.ref 56), some (.int x1)] [] M := wp_ok [] ok_X9_tiltOf tk_X9_tiltOf 300 _ _ _ _ h
set_option maxRecDepth 100000 in
theorem g_X9_sittingOn_0 {G : GG} {d : Nat} {Post : Option Value → PM → Prop} {M : PM} {x1 : Int32} (h : PX G d m_X9_sittingOn Post 4 [some (.ref 56), some (.int x1), some (.int (nI 0)), some (.int (nI 0))] [] M) :
  PX G d m_X9_sittingOn Post 0 [some (.ref 56), some (.int x1), none, none] [] M := wp_ok [(4, [true, true, true, true])] ok_X9_sittingOn tk_X9_sittingOn 300 _ _ _ _ h
set_option maxRecDepth 100000 in
theorem g_X9_sittingOn_4 {G : GG} {d : Nat} {Post : Option Value → PM → Prop} {M : PM} {x1 : Int32} {x2 : Int32} {x3 : Int32} (h : br ((M.1 56 15) ≤ x3)
    (Post (some (.int x2)) M)
    (vp_in ((nI 0) + x3) 34 ∧ (br ((M.1 63 (((nI 0) + x3).toNatClampNeg)) = x1)
      (PX G d m_X9_sittingOn Post 4 [some (.ref 56), some (.int x1), some (.int (x2 + (nI 1))), some (.int (x3 + nI 1))] [] M)
      (PX G d m_X9_sittingOn Post 4 [some (.ref 56), some (.int x1), some (.int (x2 + (nI 0))), some (.int (x3 + nI 1))] [] M)))) :
  PX G d m_X9_sittingOn Post 4 [some (.ref 56), some (.int x1), some (.int x2), some (.int x3)] [] M := wp_ok [(4, [true, true, true, true])] ok_X9_sittingOn tk_X9_sittingOn 300 _ _ _ _ h
set_option maxRecDepth 100000 in
theorem g_X9_stone_0 {G : GG} {d : Nat} {Post : Option Value → PM → Prop} {M : PM} {x1 : Int32} {x2 : Int32} (h : PC G d m_X9_isStone [.ref 56, .int x1] (wI M 56 0 (nI 0)) (fun v N1 => gI v (fun r1 => br (r1 = 0)
    (Post (some (.int (-1000000))) N1)
    (PC G d m_X9_in [.int x2, .int (nI 0), .int (nI 2)] N1 (fun v N2 => gI v (fun r2 => br (r2 = 0)
      (Post (some (.int (-1000000))) N2)
      (br (x2 = 0)
        (vp_in x1 10 ∧ (Post (some (.int (N2.1 62 x1.toNatClampNeg))) N2))
        (br (x2 = (nI 1))
          (vp_in ((nI 24) + x1) 34 ∧ (Post (some (.int (N2.1 63 (((nI 24) + x1).toNatClampNeg)))) N2))
          (vp_in ((nI 29) + x1) 34 ∧ (Post (some (.int (N2.1 63 (((nI 29) + x1).toNatClampNeg)))) N2)))))))))) :
  PX G d m_X9_stone Post 0 [some (.ref 56), some (.int x1), some (.int x2)] [] M := wp_ok [] ok_X9_stone tk_X9_stone 300 _ _ _ _ h
set_option maxRecDepth 100000 in
theorem g_X9_sits_0 {G : GG} {d : Nat} {Post : Option Value → PM → Prop} {M : PM} {x1 : Int32} {x2 : Int32} {x3 : Int32} (h : PC G d m_X9_isChild [.ref 56, .int x1] (wI M 56 0 (nI 0)) (fun v N1 => gI v (fun r1 => br (r1 = 0)
    (Post (some (.int (-1))) N1)
    (PC G d m_X9_isPlank [.ref 56, .int x2] N1 (fun v N2 => gI v (fun r2 => br (r2 = 0)
      (Post (some (.int (-1))) N2)
      (br (x3 = 0)
        (Post (some (.int (-1))) N2)
        (vp_in x2 6 ∧ (vp_in x2 6 ∧ (PC G d m_X9_in [.int x3, .int (-(N2.1 58 x2.toNatClampNeg)), .int (N2.1 58 x2.toNatClampNeg)] N2 (fun v N3 => gI v (fun r3 => br (r3 = 0)
          (Post (some (.int (-1))) N3)
          (PX G d m_X9_sits Post 50 [some (.ref 56), some (.int x1), some (.int x2), some (.int x3), some (.int (nI 0))] [] N3))))))))))))) :
  PX G d m_X9_sits Post 0 [some (.ref 56), some (.int x1), some (.int x2), some (.int x3), none] [] M := wp_ok [(50, [true, true, true, true, true])] ok_X9_sits tk_X9_sits 300 _ _ _ _ h
set_option maxRecDepth 100000 in
theorem g_X9_sits_50 {G : GG} {d : Nat} {Post : Option Value → PM → Prop} {M : PM} {x1 : Int32} {x2 : Int32} {x3 : Int32} {x4 : Int32} (h : br ((M.1 56 15) ≤ x4)
    (PC G d m_X9_goes [.ref 56, .int ((nI 0) + x1), .int ((nI 8) + x1)] M (fun v N1 => gI v (fun r1 => PC G d m_X9_comes [.ref 56, .int ((nI 0) + x1), .int ((nI 8) + x1), .int x2, .int x3] N1 (fun v N2 => gI v (fun r2 => Post (some (.int (r1 + r2))) N2)))))
    (vp_in ((nI 0) + x4) 34 ∧ (br ((M.1 63 (((nI 0) + x4).toNatClampNeg)) = x2)
      (vp_in ((nI 8) + x4) 34 ∧ (br ((M.1 63 (((nI 8) + x4).toNatClampNeg)) = x3)
        (Post (some (.int (-2))) M)
        (PX G d m_X9_sits Post 50 [some (.ref 56), some (.int x1), some (.int x2), some (.int x3), some (.int (x4 + nI 1))] [] M)))
      (PX G d m_X9_sits Post 50 [some (.ref 56), some (.int x1), some (.int x2), some (.int x3), some (.int (x4 + nI 1))] [] M)))) :
  PX G d m_X9_sits Post 50 [some (.ref 56), some (.int x1), some (.int x2), some (.int x3), some (.int x4)] [] M := wp_ok [(50, [true, true, true, true, true])] ok_X9_sits tk_X9_sits 300 _ _ _ _ h
set_option maxRecDepth 100000 in
theorem g_X9_take_0 {G : GG} {d : Nat} {Post : Option Value → PM → Prop} {M : PM} {x1 : Int32} (h : PC G d m_X9_isStone [.ref 56, .int x1] (wI M 56 0 (nI 0)) (fun v N1 => gI v (fun r1 => br (r1 = 0)
    (Post (some (.int (-1))) N1)
    (vp_in ((nI 24) + x1) 34 ∧ (br ((N1.1 63 (((nI 24) + x1).toNatClampNeg)) = (-9 : Int32))
      (Post (some (.int (-2))) N1)
      (PC G d m_X9_goes [.ref 56, .int ((nI 24) + x1), .int ((nI 29) + x1)] N1 (fun v N2 => gI v (fun r2 => Post (some (.int r2)) N2)))))))) :
  PX G d m_X9_take Post 0 [some (.ref 56), some (.int x1)] [] M := wp_ok [] ok_X9_take tk_X9_take 300 _ _ _ _ h
set_option maxRecDepth 100000 in
theorem g_X9_stepOf_0 {G : GG} {d : Nat} {Post : Option Value → PM → Prop} {M : PM} {x1 : Int32} {x2 : Int32} (h : vp_in x1 6 ∧ (br ((M.1 58 x1.toNatClampNeg) ≤ x2)
    (vp_in x1 6 ∧ (Post (some (.int ((x2 - (M.1 58 x1.toNatClampNeg)) + (nI 1)))) M))
    (vp_in x1 6 ∧ (Post (some (.int (x2 - (M.1 58 x1.toNatClampNeg)))) M)))) :
  PX G d m_X9_stepOf Post 0 [some (.ref 56), some (.int x1), some (.int x2)] [] M := wp_ok [] ok_X9_stepOf tk_X9_stepOf 300 _ _ _ _ h
set_option maxRecDepth 100000 in
theorem g_X9_seats_0 {G : GG} {d : Nat} {Post : Option Value → PM → Prop} {M : PM} {x1 : Int32} (h : PX G d m_X9_seats Post 7 [some (.ref 56), some (.int x1), some (.int (nI 0))] [] (wI M 56 24 (nI 0))) :
  PX G d m_X9_seats Post 0 [some (.ref 56), some (.int x1), none] [] M := wp_ok [(7, [true, true, true])] ok_X9_seats tk_X9_seats 300 _ _ _ _ h
set_option maxRecDepth 100000 in
theorem g_X9_seats_7 {G : GG} {d : Nat} {Post : Option Value → PM → Prop} {M : PM} {x1 : Int32} {x2 : Int32} (h : br ((M.1 56 15) ≤ x2)
    (Post none M)
    (br (((x1 >>> (x2 &&& 31)) &&& (nI 1)) = (nI 1))
      (vp_in (M.1 56 24) 8 ∧ (PX G d m_X9_seats Post 7 [some (.ref 56), some (.int x1), some (.int (x2 + nI 1))] [] (wI (wI M 66 ((M.1 56 24).toNatClampNeg) x2) 56 24 ((M.1 56 24) + (nI 1)))))
      (PX G d m_X9_seats Post 7 [some (.ref 56), some (.int x1), some (.int (x2 + nI 1))] [] M))) :
  PX G d m_X9_seats Post 7 [some (.ref 56), some (.int x1), some (.int x2)] [] M := wp_ok [(7, [true, true, true])] ok_X9_seats tk_X9_seats 300 _ _ _ _ h
set_option maxRecDepth 100000 in
theorem g_X9_waysOf_0 {G : GG} {d : Nat} {Post : Option Value → PM → Prop} {M : PM} {x1 : Int32} {x2 : Int32} {x3 : Int32} (h : PC G d m_X9_seats [.ref 56, .int x2] M (fun v N1 => gN v (PC G d m_X9_stonesOn [.ref 56, .int x1] N1 (fun v N2 => gI v (fun r2 => br ((N2.1 56 24) = 0)
    (PC G d m_X9_tiltBy [.ref 56, .int x1, .int r2] N2 (fun v N3 => gI v (fun r3 => br (r3 = 0)
      (Post (some (.int (nI 1))) N3)
      (Post (some (.int (nI 0))) N3))))
    (vp_in (nI 0) 8 ∧ (PX G d m_X9_waysOf Post 48 [some (.ref 56), some (.int x1), none, some (.int x3), some (.int r2), some (.int (nI 0)), some (.int (nI 0)), none, none] [] (wI N2 67 ((nI 0).toNatClampNeg) (-1))))))))) :
  PX G d m_X9_waysOf Post 0 [some (.ref 56), some (.int x1), some (.int x2), some (.int x3), none, none, none, none, none] [] M := wp_ok [(48, [true, true, false, true, true, true, true, false, false]), (129, [true, true, false, true, true, true, true, true, true]), (187, [true, true, false, true, true, true, true, false, true])] ok_X9_waysOf tk_X9_waysOf 300 _ _ _ _ h
set_option maxRecDepth 100000 in
theorem g_X9_waysOf_48 {G : GG} {d : Nat} {Post : Option Value → PM → Prop} {M : PM} {x1 : Int32} {x3 : Int32} {x4 : Int32} {x5 : Int32} {x6 : Int32} (h : br (x6 < 0)
    (Post (some (.int x5)) M)
    (br (x3 ≤ x5)
      (Post (some (.int x5)) M)
      (PC G d m_X9_freeSeat [.ref 56, .int x1, .int x6] M (fun v N1 => gI v (fun r1 => vp_in x6 8 ∧ (vp_in x6 8 ∧ (vp_in x1 6 ∧ (br (((wI N1 67 x6.toNatClampNeg r1).1 67 x6.toNatClampNeg) < ((nI 2) * (N1.1 58 x1.toNatClampNeg)))
        (br (((N1.1 56 24) - (nI 1)) ≤ x6)
          (PX G d m_X9_waysOf Post 129 [some (.ref 56), some (.int x1), none, some (.int x3), some (.int x4), some (.int x5), some (.int x6), some (.int x4), some (.int (nI 0))] [] (wI N1 67 x6.toNatClampNeg r1))
          (vp_in (x6 + nI 1) 8 ∧ (PX G d m_X9_waysOf Post 48 [some (.ref 56), some (.int x1), none, some (.int x3), some (.int x4), some (.int x5), some (.int (x6 + nI 1)), none, none] [] (wI (wI N1 67 x6.toNatClampNeg r1) 67 ((x6 + nI 1).toNatClampNeg) (-1)))))
        (PX G d m_X9_waysOf Post 48 [some (.ref 56), some (.int x1), none, some (.int x3), some (.int x4), some (.int x5), some (.int (x6 + (-1))), none, none] [] (wI N1 67 x6.toNatClampNeg r1)))))))))) :
  PX G d m_X9_waysOf Post 48 [some (.ref 56), some (.int x1), none, some (.int x3), some (.int x4), some (.int x5), some (.int x6), none, none] [] M := wp_ok [(48, [true, true, false, true, true, true, true, false, false]), (129, [true, true, false, true, true, true, true, true, true]), (187, [true, true, false, true, true, true, true, false, true])] ok_X9_waysOf tk_X9_waysOf 300 _ _ _ _ h
set_option maxRecDepth 100000 in
theorem g_X9_waysOf_129 {G : GG} {d : Nat} {Post : Option Value → PM → Prop} {M : PM} {x1 : Int32} {x3 : Int32} {x4 : Int32} {x5 : Int32} {x6 : Int32} {x7 : Int32} {x8 : Int32} (h : br ((M.1 56 24) ≤ x8)
    (PC G d m_X9_tiltBy [.ref 56, .int x1, .int x7] M (fun v N1 => gI v (fun r1 => br (r1 = 0)
      (PX G d m_X9_waysOf Post 187 [some (.ref 56), some (.int x1), none, some (.int x3), some (.int x4), some (.int x5), some (.int x6), none, some (.int (nI 0))] [] N1)
      (PX G d m_X9_waysOf Post 48 [some (.ref 56), some (.int x1), none, some (.int x3), some (.int x4), some (.int x5), some (.int x6), none, none] [] N1))))
    (vp_in x8 8 ∧ (vp_in (M.1 66 x8.toNatClampNeg) 16 ∧ (vp_in x8 8 ∧ (PC G d m_X9_stepOf [.ref 56, .int x1, .int (M.1 67 x8.toNatClampNeg)] M (fun v N2 => gI v (fun r2 => PX G d m_X9_waysOf Post 129 [some (.ref 56), some (.int x1), none, some (.int x3), some (.int x4), some (.int x5), some (.int x6), some (.int (x7 + ((M.1 60 ((M.1 66 x8.toNatClampNeg).toNatClampNeg)) * r2))), some (.int (x8 + nI 1))] [] N2))))))) :
  PX G d m_X9_waysOf Post 129 [some (.ref 56), some (.int x1), none, some (.int x3), some (.int x4), some (.int x5), some (.int x6), some (.int x7), some (.int x8)] [] M := wp_ok [(48, [true, true, false, true, true, true, true, false, false]), (129, [true, true, false, true, true, true, true, true, true]), (187, [true, true, false, true, true, true, true, false, true])] ok_X9_waysOf tk_X9_waysOf 300 _ _ _ _ h
set_option maxRecDepth 100000 in
theorem g_X9_waysOf_187 {G : GG} {d : Nat} {Post : Option Value → PM → Prop} {M : PM} {x1 : Int32} {x3 : Int32} {x4 : Int32} {x5 : Int32} {x6 : Int32} {x8 : Int32} (h : br ((M.1 56 24) ≤ x8)
    (PX G d m_X9_waysOf Post 48 [some (.ref 56), some (.int x1), none, some (.int x3), some (.int x4), some (.int (x5 + nI 1)), some (.int x6), none, none] [] M)
    (br (x5 = 0)
      (vp_in x8 8 ∧ (PC G d m_X9_stepOf [.ref 56, .int x1, .int (M.1 67 x8.toNatClampNeg)] M (fun v N1 => gI v (fun r1 => vp_in x8 8 ∧ (PX G d m_X9_waysOf Post 187 [some (.ref 56), some (.int x1), none, some (.int x3), some (.int x4), some (.int x5), some (.int x6), none, some (.int (x8 + nI 1))] [] (wI N1 68 x8.toNatClampNeg r1))))))
      (PX G d m_X9_waysOf Post 48 [some (.ref 56), some (.int x1), none, some (.int x3), some (.int x4), some (.int (x5 + nI 1)), some (.int x6), none, none] [] M))) :
  PX G d m_X9_waysOf Post 187 [some (.ref 56), some (.int x1), none, some (.int x3), some (.int x4), some (.int x5), some (.int x6), none, some (.int x8)] [] M := wp_ok [(48, [true, true, false, true, true, true, true, false, false]), (129, [true, true, false, true, true, true, true, true, true]), (187, [true, true, false, true, true, true, true, false, true])] ok_X9_waysOf tk_X9_waysOf 300 _ _ _ _ h
set_option maxRecDepth 100000 in
theorem g_X9_ways_0 {G : GG} {d : Nat} {Post : Option Value → PM → Prop} {M : PM} {x1 : Int32} {x2 : Int32} {x3 : Int32} (h : PC G d m_X9_isPlank [.ref 56, .int x1] (wI M 56 0 (nI 0)) (fun v N1 => gI v (fun r1 => br (r1 = 0)
    (Post (some (.int (-1000000))) N1)
    (br (x3 = (-1 : Int32))
      (PC G d m_X9_all [.ref 56] N1 (fun v N2 => gI v (fun r2 => br (x3 = (-1 : Int32))
        (PC G d m_X9_waysOf [.ref 56, .int x1, .int (x2 &&& r2), .int (nI 1000000)] N2 (fun v N4 => gI v (fun r4 => br (x3 = (-1 : Int32))
          (Post (some (.int r4)) N4)
          (PX G d m_X9_ways Post 67 [some (.ref 56), none, none, some (.int x3), some (.int r4), some (.int (nI 0)), some (.int (nI 0))] [] N4))))
        (PC G d m_X9_waysOf [.ref 56, .int x1, .int (x2 &&& r2), .int (nI 1)] N2 (fun v N3 => gI v (fun r3 => br (x3 = (-1 : Int32))
          (Post (some (.int r3)) N3)
          (PX G d m_X9_ways Post 67 [some (.ref 56), none, none, some (.int x3), some (.int r3), some (.int (nI 0)), some (.int (nI 0))] [] N3)))))))
      (PC G d m_X9_isChild [.ref 56, .int x3] N1 (fun v N5 => gI v (fun r5 => br (r5 = 0)
        (Post (some (.int (-1000000))) N5)
        (PC G d m_X9_all [.ref 56] N5 (fun v N6 => gI v (fun r6 => br (x3 = (-1 : Int32))
          (PC G d m_X9_waysOf [.ref 56, .int x1, .int (x2 &&& r6), .int (nI 1000000)] N6 (fun v N8 => gI v (fun r8 => br (x3 = (-1 : Int32))
            (Post (some (.int r8)) N8)
            (PX G d m_X9_ways Post 67 [some (.ref 56), none, none, some (.int x3), some (.int r8), some (.int (nI 0)), some (.int (nI 0))] [] N8))))
          (PC G d m_X9_waysOf [.ref 56, .int x1, .int (x2 &&& r6), .int (nI 1)] N6 (fun v N7 => gI v (fun r7 => br (x3 = (-1 : Int32))
            (Post (some (.int r7)) N7)
            (PX G d m_X9_ways Post 67 [some (.ref 56), none, none, some (.int x3), some (.int r7), some (.int (nI 0)), some (.int (nI 0))] [] N7)))))))))))))) :
  PX G d m_X9_ways Post 0 [some (.ref 56), some (.int x1), some (.int x2), some (.int x3), none, none, none] [] M := wp_ok [(67, [true, false, false, true, true, true, true])] ok_X9_ways tk_X9_ways 300 _ _ _ _ h
set_option maxRecDepth 100000 in
theorem g_X9_ways_67 {G : GG} {d : Nat} {Post : Option Value → PM → Prop} {M : PM} {x3 : Int32} {x4 : Int32} {x5 : Int32} {x6 : Int32} (h : br ((M.1 56 24) ≤ x6)
    (br (x4 = 0)
      (Post (some (.int (-9))) M)
      (Post (some (.int x5)) M))
    (br (x4 ≤ 0)
      (br (x4 = 0)
        (Post (some (.int (-9))) M)
        (Post (some (.int x5)) M))
      (vp_in x6 8 ∧ (br ((M.1 66 x6.toNatClampNeg) = x3)
        (vp_in x6 8 ∧ (PX G d m_X9_ways Post 67 [some (.ref 56), none, none, some (.int x3), some (.int x4), some (.int (M.1 68 x6.toNatClampNeg)), some (.int (x6 + nI 1))] [] M))
        (PX G d m_X9_ways Post 67 [some (.ref 56), none, none, some (.int x3), some (.int x4), some (.int x5), some (.int (x6 + nI 1))] [] M))))) :
  PX G d m_X9_ways Post 67 [some (.ref 56), none, none, some (.int x3), some (.int x4), some (.int x5), some (.int x6)] [] M := wp_ok [(67, [true, false, false, true, true, true, true])] ok_X9_ways tk_X9_ways 300 _ _ _ _ h
set_option maxRecDepth 100000 in
theorem g_X9_twoMoves_0 {G : GG} {d : Nat} {Post : Option Value → PM → Prop} {M : PM} {x1 : Int32} {x2 : Int32} {x3 : Int32} {x4 : Int32} (h : PX G d m_X9_twoMoves Post 3 [some (.ref 56), some (.int x1), some (.int x2), some (.int x3), some (.int x4), some (.int (nI 0)), none] [] M) :
  PX G d m_X9_twoMoves Post 0 [some (.ref 56), some (.int x1), some (.int x2), some (.int x3), some (.int x4), none, none] [] M := wp_ok [(3, [true, true, true, true, true, true, false]), (15, [true, true, true, true, true, true, true])] ok_X9_twoMoves tk_X9_twoMoves 300 _ _ _ _ h
set_option maxRecDepth 100000 in
theorem g_X9_twoMoves_3 {G : GG} {d : Nat} {Post : Option Value → PM → Prop} {M : PM} {x1 : Int32} {x2 : Int32} {x3 : Int32} {x4 : Int32} {x5 : Int32} (h : br ((M.1 56 15) ≤ x5)
    (Post (some (.int (-9))) M)
    (PX G d m_X9_twoMoves Post 15 [some (.ref 56), some (.int x1), some (.int x2), some (.int x3), some (.int x4), some (.int x5), some (.int (nI 0))] [] M)) :
  PX G d m_X9_twoMoves Post 3 [some (.ref 56), some (.int x1), some (.int x2), some (.int x3), some (.int x4), some (.int x5), none] [] M := wp_ok [(3, [true, true, true, true, true, true, false]), (15, [true, true, true, true, true, true, true])] ok_X9_twoMoves tk_X9_twoMoves 300 _ _ _ _ h
set_option maxRecDepth 100000 in
theorem g_X9_twoMoves_15 {G : GG} {d : Nat} {Post : Option Value → PM → Prop} {M : PM} {x1 : Int32} {x2 : Int32} {x3 : Int32} {x4 : Int32} {x5 : Int32} {x6 : Int32} (h : vp_in x1 6 ∧ (br (((nI 2) * (M.1 58 x1.toNatClampNeg)) ≤ x6)
    (PX G d m_X9_twoMoves Post 3 [some (.ref 56), some (.int x1), some (.int x2), some (.int x3), some (.int x4), some (.int (x5 + nI 1)), none] [] M)
    (PC G d m_X9_mayPut [.ref 56, .int x1, .int x2, .int x3, .int x4, .int x5, .int x6] M (fun v N1 => gI v (fun r1 => br (r1 = 0)
      (PX G d m_X9_twoMoves Post 15 [some (.ref 56), some (.int x1), some (.int x2), some (.int x3), some (.int x4), some (.int x5), some (.int (x6 + nI 1))] [] N1)
      (vp_in x5 16 ∧ (PC G d m_X9_stepOf [.ref 56, .int x1, .int x6] N1 (fun v N2 => gI v (fun r2 => PC G d m_X9_lastMove [.ref 56, .int x1, .int (x2 ||| ((nI 1) <<< (x5 &&& 31))), .int (x3 ||| ((nI 1) <<< (x6 &&& 31))), .int (x4 + ((N1.1 60 x5.toNatClampNeg) * r2))] N2 (fun v N3 => gI v (fun r3 => br (r3 = (-9 : Int32))
        (Post (some (.int (((nI 8) * x5) + x6))) N3)
        (PX G d m_X9_twoMoves Post 15 [some (.ref 56), some (.int x1), some (.int x2), some (.int x3), some (.int x4), some (.int x5), some (.int (x6 + nI 1))] [] N3)))))))))))) :
  PX G d m_X9_twoMoves Post 15 [some (.ref 56), some (.int x1), some (.int x2), some (.int x3), some (.int x4), some (.int x5), some (.int x6)] [] M := wp_ok [(3, [true, true, true, true, true, true, false]), (15, [true, true, true, true, true, true, true])] ok_X9_twoMoves tk_X9_twoMoves 300 _ _ _ _ h
set_option maxRecDepth 100000 in
theorem g_X9_threeMoves_0 {G : GG} {d : Nat} {Post : Option Value → PM → Prop} {M : PM} {x1 : Int32} {x2 : Int32} {x3 : Int32} {x4 : Int32} (h : PX G d m_X9_threeMoves Post 3 [some (.ref 56), some (.int x1), some (.int x2), some (.int x3), some (.int x4), some (.int (nI 0)), none] [] M) :
  PX G d m_X9_threeMoves Post 0 [some (.ref 56), some (.int x1), some (.int x2), some (.int x3), some (.int x4), none, none] [] M := wp_ok [(3, [true, true, true, true, true, true, false]), (15, [true, true, true, true, true, true, true])] ok_X9_threeMoves tk_X9_threeMoves 300 _ _ _ _ h
set_option maxRecDepth 100000 in
theorem g_X9_threeMoves_3 {G : GG} {d : Nat} {Post : Option Value → PM → Prop} {M : PM} {x1 : Int32} {x2 : Int32} {x3 : Int32} {x4 : Int32} {x5 : Int32} (h : br ((M.1 56 15) ≤ x5)
    (Post (some (.int (-9))) M)
    (PX G d m_X9_threeMoves Post 15 [some (.ref 56), some (.int x1), some (.int x2), some (.int x3), some (.int x4), some (.int x5), some (.int (nI 0))] [] M)) :
  PX G d m_X9_threeMoves Post 3 [some (.ref 56), some (.int x1), some (.int x2), some (.int x3), some (.int x4), some (.int x5), none] [] M := wp_ok [(3, [true, true, true, true, true, true, false]), (15, [true, true, true, true, true, true, true])] ok_X9_threeMoves tk_X9_threeMoves 300 _ _ _ _ h
set_option maxRecDepth 100000 in
theorem g_X9_threeMoves_15 {G : GG} {d : Nat} {Post : Option Value → PM → Prop} {M : PM} {x1 : Int32} {x2 : Int32} {x3 : Int32} {x4 : Int32} {x5 : Int32} {x6 : Int32} (h : vp_in x1 6 ∧ (br (((nI 2) * (M.1 58 x1.toNatClampNeg)) ≤ x6)
    (PX G d m_X9_threeMoves Post 3 [some (.ref 56), some (.int x1), some (.int x2), some (.int x3), some (.int x4), some (.int (x5 + nI 1)), none] [] M)
    (PC G d m_X9_mayPut [.ref 56, .int x1, .int x2, .int x3, .int x4, .int x5, .int x6] M (fun v N1 => gI v (fun r1 => br (r1 = 0)
      (PX G d m_X9_threeMoves Post 15 [some (.ref 56), some (.int x1), some (.int x2), some (.int x3), some (.int x4), some (.int x5), some (.int (x6 + nI 1))] [] N1)
      (vp_in x5 16 ∧ (PC G d m_X9_stepOf [.ref 56, .int x1, .int x6] N1 (fun v N2 => gI v (fun r2 => PC G d m_X9_twoMoves [.ref 56, .int x1, .int (x2 ||| ((nI 1) <<< (x5 &&& 31))), .int (x3 ||| ((nI 1) <<< (x6 &&& 31))), .int (x4 + ((N1.1 60 x5.toNatClampNeg) * r2))] N2 (fun v N3 => gI v (fun r3 => br (r3 = (-9 : Int32))
        (Post (some (.int (((nI 8) * x5) + x6))) N3)
        (PX G d m_X9_threeMoves Post 15 [some (.ref 56), some (.int x1), some (.int x2), some (.int x3), some (.int x4), some (.int x5), some (.int (x6 + nI 1))] [] N3)))))))))))) :
  PX G d m_X9_threeMoves Post 15 [some (.ref 56), some (.int x1), some (.int x2), some (.int x3), some (.int x4), some (.int x5), some (.int x6)] [] M := wp_ok [(3, [true, true, true, true, true, true, false]), (15, [true, true, true, true, true, true, true])] ok_X9_threeMoves tk_X9_threeMoves 300 _ _ _ _ h
set_option maxRecDepth 100000 in
theorem g_X9_strangers_0 {G : GG} {d : Nat} {Post : Option Value → PM → Prop} {M : PM} {x1 : Int32} (h : PC G d m_X9_in [.int x1, .int (nI 2), .int (nI 5)] (wI M 56 0 (nI 0)) (fun v N1 => gI v (fun r1 => br (r1 = 0)
    (Post (some (.int (-1))) N1)
    (Post (some (.int (N1.1 56 27))) (wI (wI N1 56 27 x1) 56 29 (nI 0)))))) :
  PX G d m_X9_strangers Post 0 [some (.ref 56), some (.int x1), none] [] M := wp_ok [] ok_X9_strangers tk_X9_strangers 300 _ _ _ _ h
set_option maxRecDepth 100000 in
theorem g_X9_trial_0 {G : GG} {d : Nat} {Post : Option Value → PM → Prop} {M : PM} {x1 : Int32} {x2 : Int32} {x3 : Int32} (h : PC G d m_X9_isStranger [.ref 56, .int x1] (wI M 56 0 (nI 0)) (fun v N1 => gI v (fun r1 => br (r1 = 0)
    (Post (some (.int (-1))) N1)
    (PC G d m_X9_isStranger [.ref 56, .int x2] N1 (fun v N2 => gI v (fun r2 => br (r2 = 0)
      (Post (some (.int (-1))) N2)
      (br (x1 = x2)
        (Post (some (.int (-1))) N2)
        (PC G d m_X9_in [.int x3, .int (-1), .int (nI 1)] N2 (fun v N3 => gI v (fun r3 => br (r3 = 0)
          (Post (some (.int (-1))) N3)
          (br ((N3.1 56 29) = (nI 12))
            (Post (some (.int (-3))) N3)
            (vp_in ((nI 3) * (N3.1 56 29)) 36 ∧ (vp_in (((nI 3) * (N3.1 56 29)) + (nI 1)) 36 ∧ (vp_in (((nI 3) * (N3.1 56 29)) + (nI 2)) 36 ∧ (Post (some (.int ((N3.1 56 29) + (nI 1)))) (wI (wI (wI (wI N3 69 (((nI 3) * (N3.1 56 29)).toNatClampNeg) x1) 69 ((((nI 3) * (N3.1 56 29)) + (nI 1)).toNatClampNeg) x2) 69 ((((nI 3) * (N3.1 56 29)) + (nI 2)).toNatClampNeg) x3) 56 29 ((N3.1 56 29) + (nI 1)))))))))))))))))) :
  PX G d m_X9_trial Post 0 [some (.ref 56), some (.int x1), some (.int x2), some (.int x3)] [] M := wp_ok [] ok_X9_trial tk_X9_trial 300 _ _ _ _ h
set_option maxRecDepth 100000 in
theorem g_X9_weightIn_0 {G : GG} {d : Nat} {Post : Option Value → PM → Prop} {M : PM} {x0 : Int32} {x1 : Int32} (h : PX G d m_X9_weightIn Post 4 [none, some (.int x1), some (.int x0), some (.int (nI 0))] [] M) :
  PX G d m_X9_weightIn Post 0 [some (.int x0), some (.int x1), none, none] [] M := wp_ok [(4, [false, true, true, true])] ok_X9_weightIn tk_X9_weightIn 300 _ _ _ _ h
set_option maxRecDepth 100000 in
theorem g_X9_weightIn_4 {G : GG} {d : Nat} {Post : Option Value → PM → Prop} {M : PM} {x1 : Int32} {x2 : Int32} {x3 : Int32} (h : br (x1 ≤ x3)
    (¬ (nI 6) = 0 ∧ (Post (some (.int ((nI 1) + (x2 - x2 / (nI 6) * (nI 6))))) M))
    (¬ (nI 6) = 0 ∧ (PX G d m_X9_weightIn Post 4 [none, some (.int x1), some (.int (x2 / (nI 6))), some (.int (x3 + nI 1))] [] M))) :
  PX G d m_X9_weightIn Post 4 [none, some (.int x1), some (.int x2), some (.int x3)] [] M := wp_ok [(4, [false, true, true, true])] ok_X9_weightIn tk_X9_weightIn 300 _ _ _ _ h
set_option maxRecDepth 100000 in
theorem g_X9_weighs_0 {G : GG} {d : Nat} {Post : Option Value → PM → Prop} {M : PM} {x0 : Int32} {x1 : Int32} {x2 : Int32} (h : PC G d m_X9_weightIn [.int x0, .int x2] M (fun v N1 => gI v (fun r1 => PC G d m_X9_weightIn [.int x0, .int x1] N1 (fun v N2 => gI v (fun r2 => br ((r1 - r2) ≤ 0)
    (br (0 ≤ (r1 - r2))
      (Post (some (.int (nI 0))) N2)
      (Post (some (.int (-1))) N2))
    (Post (some (.int (nI 1))) N2)))))) :
  PX G d m_X9_weighs Post 0 [some (.int x0), some (.int x1), some (.int x2), none] [] M := wp_ok [] ok_X9_weighs tk_X9_weighs 300 _ _ _ _ h
set_option maxRecDepth 100000 in
theorem g_X9_sure_0 {G : GG} {d : Nat} {Post : Option Value → PM → Prop} {M : PM} {x1 : Int32} (h : PC G d m_X9_isStranger [.ref 56, .int x1] (wI M 56 0 (nI 0)) (fun v N1 => gI v (fun r1 => br (r1 = 0)
    (Post (some (.int (-1))) N1)
    (PX G d m_X9_sure Post 23 [some (.ref 56), some (.int x1), some (.int (nI 0)), some (.int (-9)), some (.int (nI 1))] [] N1)))) :
  PX G d m_X9_sure Post 0 [some (.ref 56), some (.int x1), none, none, none] [] M := wp_ok [(23, [true, true, true, true, true])] ok_X9_sure tk_X9_sure 300 _ _ _ _ h
set_option maxRecDepth 100000 in
theorem g_X9_sure_23 {G : GG} {d : Nat} {Post : Option Value → PM → Prop} {M : PM} {x1 : Int32} {x2 : Int32} {x3 : Int32} {x4 : Int32} (h : br ((nI 7) ≤ x4)
    (br (x2 = (nI 1))
      (Post (some (.int x3)) M)
      (Post (some (.int (-9))) M))
    (PC G d m_X9_couldBe [.ref 56, .int x1, .int x4] M (fun v N1 => gI v (fun r1 => br (r1 ≤ 0)
      (PX G d m_X9_sure Post 23 [some (.ref 56), some (.int x1), some (.int x2), some (.int x3), some (.int (x4 + nI 1))] [] N1)
      (PX G d m_X9_sure Post 23 [some (.ref 56), some (.int x1), some (.int (x2 + nI 1)), some (.int x4), some (.int (x4 + nI 1))] [] N1))))) :
  PX G d m_X9_sure Post 23 [some (.ref 56), some (.int x1), some (.int x2), some (.int x3), some (.int x4)] [] M := wp_ok [(23, [true, true, true, true, true])] ok_X9_sure tk_X9_sure 300 _ _ _ _ h
set_option maxRecDepth 100000 in
theorem g_X9_waits_0 {G : GG} {d : Nat} {Post : Option Value → PM → Prop} {M : PM} {x1 : Int32} (h : vp_in x1 8 ∧ (vp_in x1 16 ∧ (br ((M.1 61 x1.toNatClampNeg) ≤ (M.1 70 x1.toNatClampNeg))
    (Post none M)
    (vp_in (M.1 56 32) 8 ∧ (Post none (wI (wI M 71 ((M.1 56 32).toNatClampNeg) x1) 56 32 ((M.1 56 32) + (nI 1)))))))) :
  PX G d m_X9_waits Post 0 [some (.ref 56), some (.int x1)] [] M := wp_ok [] ok_X9_waits tk_X9_waits 300 _ _ _ _ h
set_option maxRecDepth 100000 in
theorem g_X9_takesOn_0 {G : GG} {d : Nat} {Post : Option Value → PM → Prop} {M : PM} {x1 : Int32} {x2 : Int32} (h : PX G d m_X9_takesOn Post 2 [some (.ref 56), some (.int x1), some (.int x2), some (.int (nI 0)), none] [] M) :
  PX G d m_X9_takesOn Post 0 [some (.ref 56), some (.int x1), some (.int x2), none, none] [] M := wp_ok [(2, [true, true, true, true, false]), (15, [true, true, true, true, true]), (70, [true, true, true, true, true])] ok_X9_takesOn tk_X9_takesOn 300 _ _ _ _ h
set_option maxRecDepth 100000 in
theorem g_X9_takesOn_2 {G : GG} {d : Nat} {Post : Option Value → PM → Prop} {M : PM} {x1 : Int32} {x2 : Int32} {x3 : Int32} (h : br ((M.1 56 32) ≤ x3)
    (Post none M)
    (PX G d m_X9_takesOn Post 15 [some (.ref 56), some (.int x1), some (.int x2), some (.int x3), some (.int (x3 + (nI 1)))] [] M)) :
  PX G d m_X9_takesOn Post 2 [some (.ref 56), some (.int x1), some (.int x2), some (.int x3), none] [] M := wp_ok [(2, [true, true, true, true, false]), (15, [true, true, true, true, true]), (70, [true, true, true, true, true])] ok_X9_takesOn tk_X9_takesOn 300 _ _ _ _ h
set_option maxRecDepth 100000 in
theorem g_X9_takesOn_15 {G : GG} {d : Nat} {Post : Option Value → PM → Prop} {M : PM} {x1 : Int32} {x2 : Int32} {x3 : Int32} {x4 : Int32} (h : br ((M.1 56 32) ≤ x4)
    (PX G d m_X9_takesOn Post 2 [some (.ref 56), some (.int x1), some (.int x2), some (.int (x3 + nI 1)), none] [] M)
    (vp_in x3 8 ∧ (vp_in x4 8 ∧ (PC G d m_X9_areAPair [.ref 56, .int x1, .int (M.1 71 x3.toNatClampNeg), .int (M.1 71 x4.toNatClampNeg)] M (fun v N1 => gI v (fun r1 => br (r1 = 0)
      (PX G d m_X9_takesOn Post 15 [some (.ref 56), some (.int x1), some (.int x2), some (.int x3), some (.int (x4 + nI 1))] [] N1)
      (vp_in x3 8 ∧ (vp_in x1 3 ∧ (vp_in x4 8 ∧ (vp_in x1 3 ∧ (PX G d m_X9_takesOn Post 70 [some (.ref 56), some (.int x1), some (.int x2), some (.int x3), some (.int x4)] [] (wI (wI N1 72 x1.toNatClampNeg (N1.1 71 x3.toNatClampNeg)) 73 x1.toNatClampNeg (N1.1 71 x4.toNatClampNeg))))))))))))) :
  PX G d m_X9_takesOn Post 15 [some (.ref 56), some (.int x1), some (.int x2), some (.int x3), some (.int x4)] [] M := wp_ok [(2, [true, true, true, true, false]), (15, [true, true, true, true, true]), (70, [true, true, true, true, true])] ok_X9_takesOn tk_X9_takesOn 300 _ _ _ _ h
set_option maxRecDepth 100000 in
theorem g_X9_takesOn_70 {G : GG} {d : Nat} {Post : Option Value → PM → Prop} {M : PM} {x1 : Int32} {x2 : Int32} {x3 : Int32} {x4 : Int32} (h : vp_in x1 3 ∧ (vp_in (M.1 72 x1.toNatClampNeg) 16 ∧ (vp_in x1 3 ∧ (vp_in (M.1 72 x1.toNatClampNeg) 8 ∧ (vp_in x1 3 ∧ (vp_in (M.1 73 x1.toNatClampNeg) 16 ∧ (vp_in x1 3 ∧ (vp_in (M.1 73 x1.toNatClampNeg) 8 ∧ (PC G d m_X9_lesser [.int ((M.1 61 ((M.1 72 x1.toNatClampNeg).toNatClampNeg)) - (M.1 70 ((M.1 72 x1.toNatClampNeg).toNatClampNeg))), .int ((M.1 61 ((M.1 73 x1.toNatClampNeg).toNatClampNeg)) - (M.1 70 ((M.1 73 x1.toNatClampNeg).toNatClampNeg)))] M (fun v N1 => gI v (fun r1 => vp_in x1 3 ∧ (PC G d m_X9_outOfRow [.ref 56, .int x4] (wI N1 74 x1.toNatClampNeg (x2 + r1)) (fun v N2 => gN v (PC G d m_X9_outOfRow [.ref 56, .int x3] N2 (fun v N3 => gN v (Post none N3)))))))))))))))) :
  PX G d m_X9_takesOn Post 70 [some (.ref 56), some (.int x1), some (.int x2), some (.int x3), some (.int x4)] [] M := wp_ok [(2, [true, true, true, true, false]), (15, [true, true, true, true, true]), (70, [true, true, true, true, true])] ok_X9_takesOn tk_X9_takesOn 300 _ _ _ _ h
set_option maxRecDepth 100000 in
theorem g_X9_rides_0 {G : GG} {d : Nat} {Post : Option Value → PM → Prop} {M : PM} {x1 : Int32} {x2 : Int32} (h : PC G d m_X9_in [.int x1, .int (nI 0), .int (nI 99)] (wI M 56 0 (nI 0)) (fun v N1 => gI v (fun r1 => br (r1 = 0)
    (Post (some (.int (-1))) N1)
    (br (x2 = (-1 : Int32))
      (PC G d m_X9_goesBy [.ref 56, .int x1] N1 (fun v N2 => gN v (br (x2 = (-1 : Int32))
        (Post (some (.int (N2.1 56 32))) N2)
        (vp_in x2 8 ∧ (Post (some (.int (N2.1 70 x2.toNatClampNeg))) N2)))))
      (PC G d m_X9_isChild [.ref 56, .int x2] N1 (fun v N3 => gI v (fun r3 => br (r3 = 0)
        (Post (some (.int (-1))) N3)
        (PC G d m_X9_goesBy [.ref 56, .int x1] N3 (fun v N4 => gN v (br (x2 = (-1 : Int32))
          (Post (some (.int (N4.1 56 32))) N4)
          (vp_in x2 8 ∧ (Post (some (.int (N4.1 70 x2.toNatClampNeg))) N4)))))))))))) :
  PX G d m_X9_rides Post 0 [some (.ref 56), some (.int x1), some (.int x2)] [] M := wp_ok [] ok_X9_rides tk_X9_rides 300 _ _ _ _ h
set_option maxRecDepth 100000 in
theorem g_X9_rate_0 {G : GG} {d : Nat} {Post : Option Value → PM → Prop} {M : PM} {x1 : Int32} {x2 : Int32} (h : PC G d m_X9_in [.int x1, .int (nI 0), .int (nI 5)] (wI M 56 0 (nI 0)) (fun v N1 => gI v (fun r1 => br (r1 = 0)
    (Post (some (.int (-1000000))) N1)
    (PC G d m_X9_isChild [.ref 56, .int x2] N1 (fun v N2 => gI v (fun r2 => br (r2 = 0)
      (Post (some (.int (-1000000))) N2)
      (vp_in x2 16 ∧ (vp_in ((nI 16) + x2) 34 ∧ (vp_in x2 16 ∧ (vp_in ((nI 8) + x2) 34 ∧ (br (x1 = 0)
        (PX G d m_X9_rate Post 120 [some (.ref 56), some (.int x1), some (.int x2), some (.int ((N2.1 60 x2.toNatClampNeg) + (N2.1 63 (((nI 16) + x2).toNatClampNeg)))), some (.int ((N2.1 60 x2.toNatClampNeg) - (N2.1 63 (((nI 8) + x2).toNatClampNeg))))] [.long 1, .long (N2.2 56 1), .ref 56] N2)
        (br (x1 = (nI 1))
          (PX G d m_X9_rate Post 120 [some (.ref 56), some (.int x1), some (.int x2), some (.int ((N2.1 60 x2.toNatClampNeg) + (N2.1 63 (((nI 16) + x2).toNatClampNeg)))), some (.int ((N2.1 60 x2.toNatClampNeg) - (N2.1 63 (((nI 8) + x2).toNatClampNeg))))] [.long 11, .long (N2.2 56 1), .ref 56] N2)
          (br (x1 = (nI 2))
            (PX G d m_X9_rate Post 120 [some (.ref 56), some (.int x1), some (.int x2), some (.int ((N2.1 60 x2.toNatClampNeg) + (N2.1 63 (((nI 16) + x2).toNatClampNeg)))), some (.int ((N2.1 60 x2.toNatClampNeg) - (N2.1 63 (((nI 8) + x2).toNatClampNeg))))] [.long 101, .long (N2.2 56 1), .ref 56] N2)
            (br (x1 = (nI 3))
              (PX G d m_X9_rate Post 120 [some (.ref 56), some (.int x1), some (.int x2), some (.int ((N2.1 60 x2.toNatClampNeg) + (N2.1 63 (((nI 16) + x2).toNatClampNeg)))), some (.int ((N2.1 60 x2.toNatClampNeg) - (N2.1 63 (((nI 8) + x2).toNatClampNeg))))] [.long 1011, .long (N2.2 56 1), .ref 56] N2)
              (br (x1 = (nI 4))
                (PX G d m_X9_rate Post 120 [some (.ref 56), some (.int x1), some (.int x2), some (.int ((N2.1 60 x2.toNatClampNeg) + (N2.1 63 (((nI 16) + x2).toNatClampNeg)))), some (.int ((N2.1 60 x2.toNatClampNeg) - (N2.1 63 (((nI 8) + x2).toNatClampNeg))))] [.long 10101, .long (N2.2 56 1), .ref 56] N2)
                (PX G d m_X9_rate Post 120 [some (.ref 56), some (.int x1), some (.int x2), some (.int ((N2.1 60 x2.toNatClampNeg) + (N2.1 63 (((nI 16) + x2).toNatClampNeg)))), some (.int ((N2.1 60 x2.toNatClampNeg) - (N2.1 63 (((nI 8) + x2).toNatClampNeg))))] [.long 100001, .long (N2.2 56 1), .ref 56] N2)))))))))))))))) :
  PX G d m_X9_rate Post 0 [some (.ref 56), some (.int x1), some (.int x2), none, none] [] M := wp_ok [(120, [true, true, true, true, true])] ok_X9_rate tk_X9_rate 300 _ _ _ _ h
set_option maxRecDepth 100000 in
theorem g_X9_rate_120 {G : GG} {d : Nat} {Post : Option Value → PM → Prop} {M : PM} {x1 : Int32} {x2 : Int32} {x3 : Int32} {x4 : Int32} {y0 : Int64} {y1 : Int64} (h : br (x1 = 0)
    (vp_in x2 16 ∧ (Post (some (.int (M.1 60 x2.toNatClampNeg))) (wL M 56 1 (y1 + y0))))
    (br (x1 = (nI 1))
      (Post (some (.int x3)) (wL M 56 1 (y1 + y0)))
      (br (x1 = (nI 2))
        (Post (some (.int x4)) (wL M 56 1 (y1 + y0)))
        (br (x1 = (nI 3))
          (Post (some (.int ((nI 2) * x3))) (wL M 56 1 (y1 + y0)))
          (br (x1 = (nI 4))
            (vp_in x2 16 ∧ (Post (some (.int (x4 + (M.1 61 x2.toNatClampNeg)))) (wL M 56 1 (y1 + y0))))
            (vp_in x2 16 ∧ (Post (some (.int ((M.1 60 x2.toNatClampNeg) - x2))) (wL M 56 1 (y1 + y0))))))))) :
  PX G d m_X9_rate Post 120 [some (.ref 56), some (.int x1), some (.int x2), some (.int x3), some (.int x4)] [.long y0, .long y1, .ref 56] M := wp_ok [(120, [true, true, true, true, true])] ok_X9_rate tk_X9_rate 300 _ _ _ _ h
set_option maxRecDepth 100000 in
theorem g_X9_sitting_0 {G : GG} {d : Nat} {Post : Option Value → PM → Prop} {M : PM} (h : PX G d m_X9_sitting Post 4 [some (.ref 56), some (.int (nI 0)), some (.int (nI 0))] [] M) :
  PX G d m_X9_sitting Post 0 [some (.ref 56), none, none] [] M := wp_ok [(4, [true, true, true])] ok_X9_sitting tk_X9_sitting 300 _ _ _ _ h
set_option maxRecDepth 100000 in
theorem g_X9_sitting_4 {G : GG} {d : Nat} {Post : Option Value → PM → Prop} {M : PM} {x1 : Int32} {x2 : Int32} (h : br ((M.1 56 15) ≤ x2)
    (Post (some (.int x1)) M)
    (vp_in ((nI 0) + x2) 34 ∧ (br ((M.1 63 (((nI 0) + x2).toNatClampNeg)) = (-9 : Int32))
      (PX G d m_X9_sitting Post 4 [some (.ref 56), some (.int (x1 + (nI 0))), some (.int (x2 + nI 1))] [] M)
      (PX G d m_X9_sitting Post 4 [some (.ref 56), some (.int (x1 + (nI 1))), some (.int (x2 + nI 1))] [] M)))) :
  PX G d m_X9_sitting Post 4 [some (.ref 56), some (.int x1), some (.int x2)] [] M := wp_ok [(4, [true, true, true])] ok_X9_sitting tk_X9_sitting 300 _ _ _ _ h
set_option maxRecDepth 100000 in
theorem g_X9_trace_0 {G : GG} {d : Nat} {Post : Option Value → PM → Prop} {M : PM} (h : Post (some (.long (M.2 56 1))) (wI M 56 0 (nI 0))) :
  PX G d m_X9_trace Post 0 [some (.ref 56)] [] M := wp_ok [] ok_X9_trace tk_X9_trace 300 _ _ _ _ h
