set_option maxRecDepth 100000 in
theorem g_X9_named_0 {G : GG} {d : Nat} {Post : Option Value → PM → Prop} {M : PM} {x0 : Int32} {x1 : Int32} {x2 : Int32} {x3 : Int32} {x4 : Int32} (h : PC G d m_X9_add [.long 0, .int x0] M (fun v N1 => gL v (fun r1 => PC G d m_X9_add [.long r1, .int x1] N1 (fun v N2 => gL v (fun r2 => PC G d m_X9_add [.long r2, .int x2] N2 (fun v N3 => gL v (fun r3 => PC G d m_X9_add [.long r3, .int x3] N3 (fun v N4 => gL v (fun r4 => PC G d m_X9_add [.long r4, .int x4] N4 (fun v N5 => gL v (fun r5 => Post (some (.long r5)) N5))))))))))) :
  PX G d m_X9_named Post 0 [some (.int x0), some (.int x1), some (.int x2), some (.int x3), some (.int x4)] [] M := wp_ok [] ok_X9_named tk_X9_named 300 _ _ _ _ h
set_option maxRecDepth 100000 in
theorem g_X9_number_0 {G : GG} {d : Nat} {Post : Option Value → PM → Prop} {M : PM} {x1 : Int32} {x2 : Int32} (h : br ((M.1 56 5) = (nI 2))
    (PC G d m_X9_in [.int (M.1 56 7), .int x1, .int x2] M (fun v N2 => gI v (fun r2 => br (r2 = 0)
      (PC G d m_X9_takes [.ref 56, .int (nI 0)] N2 (fun v N3 => gI v (fun r3 => Post (some (.int r3)) N3)))
      (PC G d m_X9_takes [.ref 56, .int (nI 1)] N2 (fun v N4 => gI v (fun r4 => Post (some (.int r4)) N4))))))
    (PC G d m_X9_takes [.ref 56, .int (nI 0)] M (fun v N1 => gI v (fun r1 => Post (some (.int r1)) N1)))) :
  PX G d m_X9_number Post 0 [some (.ref 56), some (.int x1), some (.int x2)] [] M := wp_ok [] ok_X9_number tk_X9_number 300 _ _ _ _ h
set_option maxRecDepth 100000 in
theorem g_X9_park_0 {G : GG} {d : Nat} {Post : Option Value → PM → Prop} {M : PM} (h : PC G d m_X9_advances [.ref 56] (wI (wI (wI (wI (wI (wI M 56 0 (nI 0)) 56 8 (-1)) 56 4 (nI 0)) 56 17 (nI 0)) 56 18 (nI 0)) 56 19 (nI 0)) (fun v N1 => gN v (PX G d m_X9_park Post 36 [some (.ref 56), some (.int (nI 0)), none] [] N1))) :
  PX G d m_X9_park Post 0 [some (.ref 56), none, none] [] M := wp_ok [(36, [true, true, false]), (110, [true, true, false]), (126, [true, true, false]), (191, [true, true, true]), (235, [true, true, true]), (262, [true, true, true])] ok_X9_park tk_X9_park 300 _ _ _ _ h
set_option maxRecDepth 100000 in
theorem g_X9_park_36 {G : GG} {d : Nat} {Post : Option Value → PM → Prop} {M : PM} {x1 : Int32} (h : PC G d m_X9_isWell [.ref 56] M (fun v N1 => gI v (fun r1 => br (r1 = 0)
    (PC G d m_X9_isWell [.ref 56] N1 (fun v N2 => gI v (fun r2 => br (r2 = 0)
      (Post (some (.int ((-10) - (N2.1 56 8)))) N2)
      (PX G d m_X9_park Post 191 [some (.ref 56), some (.int x1), some (.int (nI 0))] [] (wI (wI (wI N2 56 14 (N2.1 56 17)) 56 15 (N2.1 56 18)) 56 16 (N2.1 56 19))))))
    (br ((N1.1 56 5) = 0)
      (PC G d m_X9_isWell [.ref 56] N1 (fun v N3 => gI v (fun r3 => br (r3 = 0)
        (Post (some (.int ((-10) - (N3.1 56 8)))) N3)
        (PX G d m_X9_park Post 191 [some (.ref 56), some (.int x1), some (.int (nI 0))] [] (wI (wI (wI N3 56 14 (N3.1 56 17)) 56 15 (N3.1 56 18)) 56 16 (N3.1 56 19))))))
      (br ((N1.1 56 5) = (nI 1))
        (br ((N1.1 56 7) = 0)
          (br ((nI 3) ≤ (N1.1 56 17))
            (PX G d m_X9_park Post 110 [some (.ref 56), some (.int x1), none] [.int (nI 0), .ref 56] N1)
            (PX G d m_X9_park Post 110 [some (.ref 56), some (.int x1), none] [.int (nI 1), .ref 56] N1))
          (br ((N1.1 56 7) = (nI 1))
            (br ((nI 8) ≤ (N1.1 56 18))
              (PX G d m_X9_park Post 110 [some (.ref 56), some (.int x1), none] [.int (nI 0), .ref 56] N1)
              (PX G d m_X9_park Post 110 [some (.ref 56), some (.int x1), none] [.int (nI 1), .ref 56] N1))
            (br ((nI 5) ≤ (N1.1 56 19))
              (PX G d m_X9_park Post 110 [some (.ref 56), some (.int x1), none] [.int (nI 0), .ref 56] N1)
              (PX G d m_X9_park Post 110 [some (.ref 56), some (.int x1), none] [.int (nI 1), .ref 56] N1))))
        (PX G d m_X9_park Post 110 [some (.ref 56), some (.int x1), none] [.int (nI 0), .ref 56] N1)))))) :
  PX G d m_X9_park Post 36 [some (.ref 56), some (.int x1), none] [] M := wp_ok [(36, [true, true, false]), (110, [true, true, false]), (126, [true, true, false]), (191, [true, true, true]), (235, [true, true, true]), (262, [true, true, true])] ok_X9_park tk_X9_park 300 _ _ _ _ h
set_option maxRecDepth 100000 in
theorem g_X9_park_191 {G : GG} {d : Nat} {Post : Option Value → PM → Prop} {M : PM} {x1 : Int32} {x2 : Int32} (h : br ((nI 8) ≤ x2)
    (PX G d m_X9_park Post 235 [some (.ref 56), some (.int x1), some (.int (nI 0))] [] M)
    (vp_in ((nI 8) + x2) 16 ∧ (vp_in x2 16 ∧ (vp_in ((nI 8) + x2) 16 ∧ (vp_in x2 16 ∧ (PX G d m_X9_park Post 191 [some (.ref 56), some (.int x1), some (.int (x2 + nI 1))] [] (wI (wI M 60 x2.toNatClampNeg (M.1 60 (((nI 8) + x2).toNatClampNeg))) 61 x2.toNatClampNeg (M.1 61 (((nI 8) + x2).toNatClampNeg))))))))) :
  PX G d m_X9_park Post 191 [some (.ref 56), some (.int x1), some (.int x2)] [] M := wp_ok [(36, [true, true, false]), (110, [true, true, false]), (126, [true, true, false]), (191, [true, true, true]), (235, [true, true, true]), (262, [true, true, true])] ok_X9_park tk_X9_park 300 _ _ _ _ h
set_option maxRecDepth 100000 in
theorem g_X9_park_110 {G : GG} {d : Nat} {Post : Option Value → PM → Prop} {M : PM} {x1 : Int32} {y0 : Int32} (h : PC G d m_X9_takes [.ref 56, .int y0] M (fun v N1 => gI v (fun r1 => PC G d m_X9_isWell [.ref 56] N1 (fun v N2 => gI v (fun r2 => br (r2 = 0)
    (PX G d m_X9_park Post 126 [some (.ref 56), some (.int x1), none] [] N2)
    (PC G d m_X9_readsItem [.ref 56, .int r1] N2 (fun v N3 => gN v (PX G d m_X9_park Post 126 [some (.ref 56), some (.int x1), none] [] N3)))))))) :
  PX G d m_X9_park Post 110 [some (.ref 56), some (.int x1), none] [.int y0, .ref 56] M := wp_ok [(36, [true, true, false]), (110, [true, true, false]), (126, [true, true, false]), (191, [true, true, true]), (235, [true, true, true]), (262, [true, true, true])] ok_X9_park tk_X9_park 300 _ _ _ _ h
set_option maxRecDepth 100000 in
theorem g_X9_park_235 {G : GG} {d : Nat} {Post : Option Value → PM → Prop} {M : PM} {x1 : Int32} {x2 : Int32} (h : br ((nI 5) ≤ x2)
    (PX G d m_X9_park Post 262 [some (.ref 56), some (.int x1), some (.int (nI 0))] [] M)
    (vp_in ((nI 5) + x2) 10 ∧ (vp_in x2 10 ∧ (PX G d m_X9_park Post 235 [some (.ref 56), some (.int x1), some (.int (x2 + nI 1))] [] (wI M 62 x2.toNatClampNeg (M.1 62 (((nI 5) + x2).toNatClampNeg))))))) :
  PX G d m_X9_park Post 235 [some (.ref 56), some (.int x1), some (.int x2)] [] M := wp_ok [(36, [true, true, false]), (110, [true, true, false]), (126, [true, true, false]), (191, [true, true, true]), (235, [true, true, true]), (262, [true, true, true])] ok_X9_park tk_X9_park 300 _ _ _ _ h
set_option maxRecDepth 100000 in
theorem g_X9_park_126 {G : GG} {d : Nat} {Post : Option Value → PM → Prop} {M : PM} {x1 : Int32} (h : br ((M.1 56 5) = (nI 3))
    (PC G d m_X9_takes [.ref 56, .int (nI 1)] M (fun v N2 => gI v (fun r2 => PX G d m_X9_park Post 36 [some (.ref 56), some (.int (x1 + nI 1)), none] [] N2)))
    (PC G d m_X9_takes [.ref 56, .int (nI 0)] M (fun v N1 => gI v (fun r1 => PX G d m_X9_park Post 36 [some (.ref 56), some (.int (x1 + nI 1)), none] [] N1)))) :
  PX G d m_X9_park Post 126 [some (.ref 56), some (.int x1), none] [] M := wp_ok [(36, [true, true, false]), (110, [true, true, false]), (126, [true, true, false]), (191, [true, true, true]), (235, [true, true, true]), (262, [true, true, true])] ok_X9_park tk_X9_park 300 _ _ _ _ h
set_option maxRecDepth 100000 in
theorem g_X9_park_262 {G : GG} {d : Nat} {Post : Option Value → PM → Prop} {M : PM} {x1 : Int32} {x2 : Int32} (h : br ((nI 3) ≤ x2)
    (vp_in (nI 0) 2 ∧ ((nI 0) = 0 ∨ (nI 0) = 1) ∧ (vp_in (nI 1) 2 ∧ ((nI 0) = 0 ∨ (nI 0) = 1) ∧ (PC G d m_X9_begins [.ref 56] (wI (wI (wI M 56 3 (nI 0)) 65 ((nI 0).toNatClampNeg) (nI 0)) 65 ((nI 1).toNatClampNeg) (nI 0)) (fun v N1 => gN v (Post (some (.int x1)) N1)))))
    (vp_in ((nI 3) + x2) 6 ∧ (vp_in x2 6 ∧ (vp_in ((nI 3) + x2) 6 ∧ (vp_in x2 6 ∧ (PX G d m_X9_park Post 262 [some (.ref 56), some (.int x1), some (.int (x2 + nI 1))] [] (wI (wI M 58 x2.toNatClampNeg (M.1 58 (((nI 3) + x2).toNatClampNeg))) 59 x2.toNatClampNeg (M.1 59 (((nI 3) + x2).toNatClampNeg))))))))) :
  PX G d m_X9_park Post 262 [some (.ref 56), some (.int x1), some (.int x2)] [] M := wp_ok [(36, [true, true, false]), (110, [true, true, false]), (126, [true, true, false]), (191, [true, true, true]), (235, [true, true, true]), (262, [true, true, true])] ok_X9_park tk_X9_park 300 _ _ _ _ h
set_option maxRecDepth 100000 in
theorem g_X9_momentOf_0 {G : GG} {d : Nat} {Post : Option Value → PM → Prop} {M : PM} {x1 : Int32} (h : PC G d m_X9_stonesOn [.ref 56, .int x1] M (fun v N1 => gI v (fun r1 => PX G d m_X9_momentOf Post 8 [some (.ref 56), some (.int x1), some (.int r1), some (.int (nI 0))] [] N1))) :
  PX G d m_X9_momentOf Post 0 [some (.ref 56), some (.int x1), none, none] [] M := wp_ok [(8, [true, true, true, true])] ok_X9_momentOf tk_X9_momentOf 300 _ _ _ _ h
set_option maxRecDepth 100000 in
theorem g_X9_momentOf_8 {G : GG} {d : Nat} {Post : Option Value → PM → Prop} {M : PM} {x1 : Int32} {x2 : Int32} {x3 : Int32} (h : br ((M.1 56 15) ≤ x3)
    (Post (some (.int x2)) M)
    (vp_in ((nI 0) + x3) 34 ∧ (br ((M.1 63 (((nI 0) + x3).toNatClampNeg)) = x1)
      (vp_in x3 16 ∧ (vp_in ((nI 8) + x3) 34 ∧ (PX G d m_X9_momentOf Post 8 [some (.ref 56), some (.int x1), some (.int (x2 + ((M.1 60 x3.toNatClampNeg) * (M.1 63 (((nI 8) + x3).toNatClampNeg))))), some (.int (x3 + nI 1))] [] M)))
      (PX G d m_X9_momentOf Post 8 [some (.ref 56), some (.int x1), some (.int (x2 + (nI 0))), some (.int (x3 + nI 1))] [] M)))) :
  PX G d m_X9_momentOf Post 8 [some (.ref 56), some (.int x1), some (.int x2), some (.int x3)] [] M := wp_ok [(8, [true, true, true, true])] ok_X9_momentOf tk_X9_momentOf 300 _ _ _ _ h
set_option maxRecDepth 100000 in
theorem g_X9_plank_0 {G : GG} {d : Nat} {Post : Option Value → PM → Prop} {M : PM} {x1 : Int32} {x2 : Int32} (h : PC G d m_X9_isPlank [.ref 56, .int x1] (wI M 56 0 (nI 0)) (fun v N1 => gI v (fun r1 => br (r1 = 0)
    (Post (some (.int (-1000000))) N1)
    (PC G d m_X9_in [.int x2, .int (nI 0), .int (nI 4)] N1 (fun v N2 => gI v (fun r2 => br (r2 = 0)
      (Post (some (.int (-1000000))) N2)
      (br (x2 = 0)
        (vp_in x1 6 ∧ (Post (some (.int (N2.1 58 x1.toNatClampNeg))) N2))
        (br (x2 = (nI 1))
          (vp_in x1 6 ∧ (Post (some (.int (N2.1 59 x1.toNatClampNeg))) N2))
          (br (x2 = (nI 2))
            (PC G d m_X9_momentOf [.ref 56, .int x1] N2 (fun v N5 => gI v (fun r5 => Post (some (.int r5)) N5)))
            (br (x2 = (nI 3))
              (PC G d m_X9_tiltOf [.ref 56, .int x1] N2 (fun v N4 => gI v (fun r4 => Post (some (.int r4)) N4)))
              (PC G d m_X9_sittingOn [.ref 56, .int x1] N2 (fun v N3 => gI v (fun r3 => Post (some (.int r3)) N3))))))))))))) :
  PX G d m_X9_plank Post 0 [some (.ref 56), some (.int x1), some (.int x2)] [] M := wp_ok [] ok_X9_plank tk_X9_plank 300 _ _ _ _ h
set_option maxRecDepth 100000 in
theorem g_X9_leaves_0 {G : GG} {d : Nat} {Post : Option Value → PM → Prop} {M : PM} {x1 : Int32} (h : PC G d m_X9_isChild [.ref 56, .int x1] (wI M 56 0 (nI 0)) (fun v N1 => gI v (fun r1 => br (r1 = 0)
    (Post (some (.int (-1))) N1)
    (vp_in ((nI 0) + x1) 34 ∧ (br ((N1.1 63 (((nI 0) + x1).toNatClampNeg)) = (-9 : Int32))
      (Post (some (.int (-2))) N1)
      (PC G d m_X9_goes [.ref 56, .int ((nI 0) + x1), .int ((nI 8) + x1)] N1 (fun v N2 => gI v (fun r2 => Post (some (.int r2)) N2)))))))) :
  PX G d m_X9_leaves Post 0 [some (.ref 56), some (.int x1)] [] M := wp_ok [] ok_X9_leaves tk_X9_leaves 300 _ _ _ _ h
set_option maxRecDepth 100000 in
theorem g_X9_lay_0 {G : GG} {d : Nat} {Post : Option Value → PM → Prop} {M : PM} {x1 : Int32} {x2 : Int32} {x3 : Int32} (h : PC G d m_X9_isStone [.ref 56, .int x1] (wI M 56 0 (nI 0)) (fun v N1 => gI v (fun r1 => br (r1 = 0)
    (Post (some (.int (-1))) N1)
    (PC G d m_X9_isPlank [.ref 56, .int x2] N1 (fun v N2 => gI v (fun r2 => br (r2 = 0)
      (Post (some (.int (-1))) N2)
      (br (x3 = 0)
        (Post (some (.int (-1))) N2)
        (vp_in x2 6 ∧ (vp_in x2 6 ∧ (PC G d m_X9_in [.int x3, .int (-(N2.1 58 x2.toNatClampNeg)), .int (N2.1 58 x2.toNatClampNeg)] N2 (fun v N3 => gI v (fun r3 => br (r3 = 0)
          (Post (some (.int (-1))) N3)
          (PX G d m_X9_lay Post 50 [some (.ref 56), some (.int x1), some (.int x2), some (.int x3), some (.int (nI 0))] [] N3))))))))))))) :
  PX G d m_X9_lay Post 0 [some (.ref 56), some (.int x1), some (.int x2), some (.int x3), none] [] M := wp_ok [(50, [true, true, true, true, true])] ok_X9_lay tk_X9_lay 300 _ _ _ _ h
set_option maxRecDepth 100000 in
theorem g_X9_lay_50 {G : GG} {d : Nat} {Post : Option Value → PM → Prop} {M : PM} {x1 : Int32} {x2 : Int32} {x3 : Int32} {x4 : Int32} (h : br ((M.1 56 16) ≤ x4)
    (PC G d m_X9_goes [.ref 56, .int ((nI 24) + x1), .int ((nI 29) + x1)] M (fun v N1 => gI v (fun r1 => PC G d m_X9_comes [.ref 56, .int ((nI 24) + x1), .int ((nI 29) + x1), .int x2, .int x3] N1 (fun v N2 => gI v (fun r2 => Post (some (.int (r1 + r2))) N2)))))
    (vp_in ((nI 24) + x4) 34 ∧ (br ((M.1 63 (((nI 24) + x4).toNatClampNeg)) = x2)
      (vp_in ((nI 29) + x4) 34 ∧ (br ((M.1 63 (((nI 29) + x4).toNatClampNeg)) = x3)
        (Post (some (.int (-2))) M)
        (PX G d m_X9_lay Post 50 [some (.ref 56), some (.int x1), some (.int x2), some (.int x3), some (.int (x4 + nI 1))] [] M)))
      (PX G d m_X9_lay Post 50 [some (.ref 56), some (.int x1), some (.int x2), some (.int x3), some (.int (x4 + nI 1))] [] M)))) :
  PX G d m_X9_lay Post 50 [some (.ref 56), some (.int x1), some (.int x2), some (.int x3), some (.int x4)] [] M := wp_ok [(50, [true, true, true, true, true])] ok_X9_lay tk_X9_lay 300 _ _ _ _ h
set_option maxRecDepth 100000 in
theorem g_X9_ones_0 {G : GG} {d : Nat} {Post : Option Value → PM → Prop} {M : PM} {x0 : Int32} (h : PX G d m_X9_ones Post 4 [some (.int x0), some (.int (nI 0)), some (.int (nI 0))] [] M) :
  PX G d m_X9_ones Post 0 [some (.int x0), none, none] [] M := wp_ok [(4, [true, true, true])] ok_X9_ones tk_X9_ones 300 _ _ _ _ h
set_option maxRecDepth 100000 in
theorem g_X9_ones_4 {G : GG} {d : Nat} {Post : Option Value → PM → Prop} {M : PM} {x0 : Int32} {x1 : Int32} {x2 : Int32} (h : br ((nI 8) ≤ x2)
    (Post (some (.int x1)) M)
    (PX G d m_X9_ones Post 4 [some (.int x0), some (.int (x1 + ((x0 >>> (x2 &&& 31)) &&& (nI 1)))), some (.int (x2 + nI 1))] [] M)) :
  PX G d m_X9_ones Post 4 [some (.int x0), some (.int x1), some (.int x2)] [] M := wp_ok [(4, [true, true, true])] ok_X9_ones tk_X9_ones 300 _ _ _ _ h
set_option maxRecDepth 100000 in
theorem g_X9_most_0 {G : GG} {d : Nat} {Post : Option Value → PM → Prop} {M : PM} {x1 : Int32} {x2 : Int32} (h : PC G d m_X9_isPlank [.ref 56, .int x1] (wI M 56 0 (nI 0)) (fun v N1 => gI v (fun r1 => br (r1 = 0)
    (Post (some (.int (-1))) N1)
    (PC G d m_X9_in [.int x2, .int (nI 0), .int (nI 1)] N1 (fun v N2 => gI v (fun r2 => br (r2 = 0)
      (Post (some (.int (-1))) N2)
      (PX G d m_X9_most Post 30 [some (.ref 56), some (.int x1), some (.int x2), some (.int (-9)), some (.int (nI 0)), none] [] N2))))))) :
  PX G d m_X9_most Post 0 [some (.ref 56), some (.int x1), some (.int x2), none, none, none] [] M := wp_ok [(30, [true, true, true, true, true, false]), (62, [true, true, true, true, true, false]), (102, [true, true, true, false, true, false])] ok_X9_most tk_X9_most 300 _ _ _ _ h
set_option maxRecDepth 100000 in
theorem g_X9_most_30 {G : GG} {d : Nat} {Post : Option Value → PM → Prop} {M : PM} {x1 : Int32} {x2 : Int32} {x3 : Int32} {x4 : Int32} (h : PC G d m_X9_all [.ref 56] M (fun v N1 => gI v (fun r1 => br (r1 < x4)
    (br (x3 = (-9 : Int32))
      (Post (some (.int x3)) N1)
      (br (x2 = (nI 1))
        (Post (some (.int x3)) N1)
        (PC G d m_X9_ones [.int x3] N1 (fun v N2 => gI v (fun r2 => Post (some (.int r2)) N2)))))
    (br (x3 = (-9 : Int32))
      (PX G d m_X9_most Post 62 [some (.ref 56), some (.int x1), some (.int x2), some (.int x3), some (.int x4), none] [.int (nI 1)] N1)
      (PC G d m_X9_ones [.int x4] N1 (fun v N3 => gI v (fun r3 => PC G d m_X9_ones [.int x3] N3 (fun v N4 => gI v (fun r4 => br (r3 ≤ r4)
        (PX G d m_X9_most Post 62 [some (.ref 56), some (.int x1), some (.int x2), some (.int x3), some (.int x4), none] [.int (nI 0)] N4)
        (PX G d m_X9_most Post 62 [some (.ref 56), some (.int x1), some (.int x2), some (.int x3), some (.int x4), none] [.int (nI 1)] N4)))))))))) :
  PX G d m_X9_most Post 30 [some (.ref 56), some (.int x1), some (.int x2), some (.int x3), some (.int x4), none] [] M := wp_ok [(30, [true, true, true, true, true, false]), (62, [true, true, true, true, true, false]), (102, [true, true, true, false, true, false])] ok_X9_most tk_X9_most 300 _ _ _ _ h
set_option maxRecDepth 100000 in
theorem g_X9_most_62 {G : GG} {d : Nat} {Post : Option Value → PM → Prop} {M : PM} {x1 : Int32} {x2 : Int32} {x3 : Int32} {x4 : Int32} {y0 : Int32} (h : br (y0 = 0)
    (PX G d m_X9_most Post 102 [some (.ref 56), some (.int x1), some (.int x2), none, some (.int x4), none] [.int x3] M)
    (PC G d m_X9_ones [.int x4] M (fun v N1 => gI v (fun r1 => vp_in x1 6 ∧ (br (((nI 2) * (N1.1 58 x1.toNatClampNeg)) < r1)
      (PX G d m_X9_most Post 102 [some (.ref 56), some (.int x1), some (.int x2), none, some (.int x4), none] [.int x3] N1)
      (PC G d m_X9_waysOf [.ref 56, .int x1, .int x4, .int (nI 1)] N1 (fun v N2 => gI v (fun r2 => br (r2 ≤ 0)
        (PX G d m_X9_most Post 102 [some (.ref 56), some (.int x1), some (.int x2), none, some (.int x4), none] [.int x3] N2)
        (PX G d m_X9_most Post 102 [some (.ref 56), some (.int x1), some (.int x2), none, some (.int x4), none] [.int x4] N2))))))))) :
  PX G d m_X9_most Post 62 [some (.ref 56), some (.int x1), some (.int x2), some (.int x3), some (.int x4), none] [.int y0] M := wp_ok [(30, [true, true, true, true, true, false]), (62, [true, true, true, true, true, false]), (102, [true, true, true, false, true, false])] ok_X9_most tk_X9_most 300 _ _ _ _ h
set_option maxRecDepth 100000 in
theorem g_X9_most_102 {G : GG} {d : Nat} {Post : Option Value → PM → Prop} {M : PM} {x1 : Int32} {x2 : Int32} {x4 : Int32} {y0 : Int32} (h : PX G d m_X9_most Post 30 [some (.ref 56), some (.int x1), some (.int x2), some (.int y0), some (.int (x4 + nI 1)), none] [] M) :
  PX G d m_X9_most Post 102 [some (.ref 56), some (.int x1), some (.int x2), none, some (.int x4), none] [.int y0] M := wp_ok [(30, [true, true, true, true, true, false]), (62, [true, true, true, true, true, false]), (102, [true, true, true, false, true, false])] ok_X9_most tk_X9_most 300 _ _ _ _ h
set_option maxRecDepth 100000 in
theorem g_X9_moves_0 {G : GG} {d : Nat} {Post : Option Value → PM → Prop} {M : PM} {x1 : Int32} (h : PC G d m_X9_isPlank [.ref 56, .int x1] (wI M 56 0 (nI 0)) (fun v N1 => gI v (fun r1 => br (r1 = 0)
    (Post (some (.int (-1))) N1)
    (PX G d m_X9_moves Post 19 [some (.ref 56), some (.int x1), some (.int (nI 0)), some (.int (nI 0)), none, none, none, none, none, none] [] N1)))) :
  PX G d m_X9_moves Post 0 [some (.ref 56), some (.int x1), none, none, none, none, none, none, none, none] [] M := wp_ok [(19, [true, true, true, true, false, false, false, false, false, false]), (111, [true, true, false, true, true, true, false, false, false, false]), (188, [true, true, false, true, true, true, true, true, true, false])] ok_X9_moves tk_X9_moves 300 _ _ _ _ h
set_option maxRecDepth 100000 in
theorem g_X9_moves_19 {G : GG} {d : Nat} {Post : Option Value → PM → Prop} {M : PM} {x1 : Int32} {x2 : Int32} {x3 : Int32} (h : br ((M.1 56 15) ≤ x3)
    (PC G d m_X9_seats [.ref 56, .int x2] M (fun v N1 => gN v (PC G d m_X9_stonesOn [.ref 56, .int x1] N1 (fun v N2 => gI v (fun r2 => PC G d m_X9_tiltBy [.ref 56, .int x1, .int r2] N2 (fun v N3 => gI v (fun r3 => br (r3 = 0)
      (br ((N3.1 56 24) = 0)
        (br ((N3.1 56 24) = 0)
          (vp_in (nI 0) 8 ∧ (PX G d m_X9_moves Post 111 [some (.ref 56), some (.int x1), none, some (.int r2), some (.int (nI 0)), some (.int (-1)), none, none, none, none] [] (wI N3 67 ((nI 0).toNatClampNeg) (-1))))
          (vp_in (nI 0) 8 ∧ (PX G d m_X9_moves Post 111 [some (.ref 56), some (.int x1), none, some (.int r2), some (.int (nI 0)), some (.int (nI 0)), none, none, none, none] [] (wI N3 67 ((nI 0).toNatClampNeg) (-1)))))
        (br ((N3.1 56 24) = 0)
          (vp_in (nI 0) 8 ∧ (PX G d m_X9_moves Post 111 [some (.ref 56), some (.int x1), none, some (.int r2), some (.int (-9)), some (.int (-1)), none, none, none, none] [] (wI N3 67 ((nI 0).toNatClampNeg) (-1))))
          (vp_in (nI 0) 8 ∧ (PX G d m_X9_moves Post 111 [some (.ref 56), some (.int x1), none, some (.int r2), some (.int (-9)), some (.int (nI 0)), none, none, none, none] [] (wI N3 67 ((nI 0).toNatClampNeg) (-1))))))
      (br ((N3.1 56 24) = 0)
        (vp_in (nI 0) 8 ∧ (PX G d m_X9_moves Post 111 [some (.ref 56), some (.int x1), none, some (.int r2), some (.int (-9)), some (.int (-1)), none, none, none, none] [] (wI N3 67 ((nI 0).toNatClampNeg) (-1))))
        (vp_in (nI 0) 8 ∧ (PX G d m_X9_moves Post 111 [some (.ref 56), some (.int x1), none, some (.int r2), some (.int (-9)), some (.int (nI 0)), none, none, none, none] [] (wI N3 67 ((nI 0).toNatClampNeg) (-1))))))))))))
    (vp_in ((nI 0) + x3) 34 ∧ (br ((M.1 63 (((nI 0) + x3).toNatClampNeg)) = x1)
      (PX G d m_X9_moves Post 19 [some (.ref 56), some (.int x1), some (.int (x2 ||| ((nI 1) <<< (x3 &&& 31)))), some (.int (x3 + nI 1)), none, none, none, none, none, none] [] M)
      (PX G d m_X9_moves Post 19 [some (.ref 56), some (.int x1), some (.int (x2 ||| (nI 0))), some (.int (x3 + nI 1)), none, none, none, none, none, none] [] M)))) :
  PX G d m_X9_moves Post 19 [some (.ref 56), some (.int x1), some (.int x2), some (.int x3), none, none, none, none, none, none] [] M := wp_ok [(19, [true, true, true, true, false, false, false, false, false, false]), (111, [true, true, false, true, true, true, false, false, false, false]), (188, [true, true, false, true, true, true, true, true, true, false])] ok_X9_moves tk_X9_moves 300 _ _ _ _ h
set_option maxRecDepth 100000 in
theorem g_X9_moves_111 {G : GG} {d : Nat} {Post : Option Value → PM → Prop} {M : PM} {x1 : Int32} {x3 : Int32} {x4 : Int32} {x5 : Int32} (h : br (x5 < 0)
    (Post (some (.int x4)) M)
    (PC G d m_X9_freeSeat [.ref 56, .int x1, .int x5] M (fun v N1 => gI v (fun r1 => vp_in x5 8 ∧ (vp_in x5 8 ∧ (vp_in x1 6 ∧ (br (((wI N1 67 x5.toNatClampNeg r1).1 67 x5.toNatClampNeg) < ((nI 2) * (N1.1 58 x1.toNatClampNeg)))
      (br (((N1.1 56 24) - (nI 1)) ≤ x5)
        (PX G d m_X9_moves Post 188 [some (.ref 56), some (.int x1), none, some (.int x3), some (.int x4), some (.int x5), some (.int x3), some (.int (nI 0)), some (.int (nI 0)), none] [] (wI N1 67 x5.toNatClampNeg r1))
        (vp_in (x5 + nI 1) 8 ∧ (PX G d m_X9_moves Post 111 [some (.ref 56), some (.int x1), none, some (.int x3), some (.int x4), some (.int (x5 + nI 1)), none, none, none, none] [] (wI (wI N1 67 x5.toNatClampNeg r1) 67 ((x5 + nI 1).toNatClampNeg) (-1)))))
      (PX G d m_X9_moves Post 111 [some (.ref 56), some (.int x1), none, some (.int x3), some (.int x4), some (.int (x5 + (-1))), none, none, none, none] [] (wI N1 67 x5.toNatClampNeg r1))))))))) :
  PX G d m_X9_moves Post 111 [some (.ref 56), some (.int x1), none, some (.int x3), some (.int x4), some (.int x5), none, none, none, none] [] M := wp_ok [(19, [true, true, true, true, false, false, false, false, false, false]), (111, [true, true, false, true, true, true, false, false, false, false]), (188, [true, true, false, true, true, true, true, true, true, false])] ok_X9_moves tk_X9_moves 300 _ _ _ _ h
set_option maxRecDepth 100000 in
theorem g_X9_moves_188 {G : GG} {d : Nat} {Post : Option Value → PM → Prop} {M : PM} {x1 : Int32} {x3 : Int32} {x4 : Int32} {x5 : Int32} {x6 : Int32} {x7 : Int32} {x8 : Int32} (h : br ((M.1 56 24) ≤ x8)
    (PC G d m_X9_tiltBy [.ref 56, .int x1, .int x6] M (fun v N1 => gI v (fun r1 => br (r1 = 0)
      (br (x4 = (-9 : Int32))
        (PX G d m_X9_moves Post 111 [some (.ref 56), some (.int x1), none, some (.int x3), some (.int x7), some (.int x5), none, none, none, none] [] N1)
        (br (x4 ≤ x7)
          (PX G d m_X9_moves Post 111 [some (.ref 56), some (.int x1), none, some (.int x3), some (.int x4), some (.int x5), none, none, none, none] [] N1)
          (PX G d m_X9_moves Post 111 [some (.ref 56), some (.int x1), none, some (.int x3), some (.int x7), some (.int x5), none, none, none, none] [] N1)))
      (PX G d m_X9_moves Post 111 [some (.ref 56), some (.int x1), none, some (.int x3), some (.int x4), some (.int x5), none, none, none, none] [] N1))))
    (vp_in x8 8 ∧ (PC G d m_X9_stepOf [.ref 56, .int x1, .int (M.1 67 x8.toNatClampNeg)] M (fun v N2 => gI v (fun r2 => vp_in x8 8 ∧ (vp_in (N2.1 66 x8.toNatClampNeg) 16 ∧ (vp_in x8 8 ∧ (vp_in ((nI 8) + (N2.1 66 x8.toNatClampNeg)) 34 ∧ (br (r2 = (N2.1 63 (((nI 8) + (N2.1 66 x8.toNatClampNeg)).toNatClampNeg)))
      (PX G d m_X9_moves Post 188 [some (.ref 56), some (.int x1), none, some (.int x3), some (.int x4), some (.int x5), some (.int (x6 + ((N2.1 60 ((N2.1 66 x8.toNatClampNeg).toNatClampNeg)) * r2))), some (.int (x7 + (nI 0))), some (.int (x8 + nI 1)), none] [] N2)
      (PX G d m_X9_moves Post 188 [some (.ref 56), some (.int x1), none, some (.int x3), some (.int x4), some (.int x5), some (.int (x6 + ((N2.1 60 ((N2.1 66 x8.toNatClampNeg).toNatClampNeg)) * r2))), some (.int (x7 + (nI 1))), some (.int (x8 + nI 1)), none] [] N2)))))))))) :
  PX G d m_X9_moves Post 188 [some (.ref 56), some (.int x1), none, some (.int x3), some (.int x4), some (.int x5), some (.int x6), some (.int x7), some (.int x8), none] [] M := wp_ok [(19, [true, true, true, true, false, false, false, false, false, false]), (111, [true, true, false, true, true, true, false, false, false, false]), (188, [true, true, false, true, true, true, true, true, true, false])] ok_X9_moves tk_X9_moves 300 _ _ _ _ h
set_option maxRecDepth 100000 in
theorem g_X9_levels_0 {G : GG} {d : Nat} {Post : Option Value → PM → Prop} {M : PM} {x1 : Int32} {x2 : Int32} (h : PX G d m_X9_levels Post 5 [some (.ref 56), some (.int x1), some (.int x2), some (.int (nI 0)), some (.int (nI 0)), none, none, none] [] M) :
  PX G d m_X9_levels Post 0 [some (.ref 56), some (.int x1), some (.int x2), none, none, none, none, none] [] M := wp_ok [(5, [true, true, true, true, true, false, false, false]), (78, [true, true, false, true, true, true, false, false]), (170, [true, true, false, true, true, true, true, true])] ok_X9_levels tk_X9_levels 300 _ _ _ _ h
set_option maxRecDepth 100000 in
theorem g_X9_levels_5 {G : GG} {d : Nat} {Post : Option Value → PM → Prop} {M : PM} {x1 : Int32} {x2 : Int32} {x3 : Int32} {x4 : Int32} (h : br ((M.1 56 16) ≤ x4)
    (PC G d m_X9_momentOf [.ref 56, .int x1] M (fun v N1 => gI v (fun r1 => br (x3 = 0)
      (PC G d m_X9_tiltBy [.ref 56, .int x1, .int r1] N1 (fun v N2 => gI v (fun r2 => br (r2 = 0)
        (((nI 1) = 0 ∨ (nI 1) = 1) ∧ Post (some (.int (nI 1))) N2)
        (((nI 0) = 0 ∨ (nI 0) = 1) ∧ Post (some (.int (nI 0))) N2))))
      (vp_in (nI 0) 8 ∧ (PX G d m_X9_levels Post 78 [some (.ref 56), some (.int x1), none, some (.int x3), some (.int r1), some (.int (nI 0)), none, none] [] (wI N1 67 ((nI 0).toNatClampNeg) (-1)))))))
    (br (((x2 >>> (x4 &&& 31)) &&& (nI 1)) = (nI 1))
      (vp_in x3 8 ∧ (PX G d m_X9_levels Post 5 [some (.ref 56), some (.int x1), some (.int x2), some (.int (x3 + nI 1)), some (.int (x4 + nI 1)), none, none, none] [] (wI M 66 x3.toNatClampNeg x4)))
      (PX G d m_X9_levels Post 5 [some (.ref 56), some (.int x1), some (.int x2), some (.int x3), some (.int (x4 + nI 1)), none, none, none] [] M))) :
  PX G d m_X9_levels Post 5 [some (.ref 56), some (.int x1), some (.int x2), some (.int x3), some (.int x4), none, none, none] [] M := wp_ok [(5, [true, true, true, true, true, false, false, false]), (78, [true, true, false, true, true, true, false, false]), (170, [true, true, false, true, true, true, true, true])] ok_X9_levels tk_X9_levels 300 _ _ _ _ h
set_option maxRecDepth 100000 in
theorem g_X9_levels_78 {G : GG} {d : Nat} {Post : Option Value → PM → Prop} {M : PM} {x1 : Int32} {x3 : Int32} {x4 : Int32} {x5 : Int32} (h : br (x5 < 0)
    (((nI 0) = 0 ∨ (nI 0) = 1) ∧ Post (some (.int (nI 0))) M)
    (PC G d m_X9_freeSeat [.ref 56, .int x1, .int x5] M (fun v N1 => gI v (fun r1 => vp_in x5 8 ∧ (vp_in x5 8 ∧ (vp_in x1 6 ∧ (br (((wI N1 67 x5.toNatClampNeg r1).1 67 x5.toNatClampNeg) < ((nI 2) * (N1.1 58 x1.toNatClampNeg)))
      (vp_in x5 8 ∧ (PC G d m_X9_stepOf [.ref 56, .int x1, .int ((wI N1 67 x5.toNatClampNeg r1).1 67 x5.toNatClampNeg)] (wI N1 67 x5.toNatClampNeg r1) (fun v N2 => gI v (fun r2 => PC G d m_X9_hasStone [.ref 56, .int x1, .int r2] N2 (fun v N3 => gI v (fun r3 => br (r3 = 0)
        (br ((x3 - (nI 1)) ≤ x5)
          (PX G d m_X9_levels Post 170 [some (.ref 56), some (.int x1), none, some (.int x3), some (.int x4), some (.int x5), some (.int x4), some (.int (nI 0))] [] N3)
          (vp_in (x5 + nI 1) 8 ∧ (PX G d m_X9_levels Post 78 [some (.ref 56), some (.int x1), none, some (.int x3), some (.int x4), some (.int (x5 + nI 1)), none, none] [] (wI N3 67 ((x5 + nI 1).toNatClampNeg) (-1)))))
        (PX G d m_X9_levels Post 78 [some (.ref 56), some (.int x1), none, some (.int x3), some (.int x4), some (.int x5), none, none] [] N3)))))))
      (PX G d m_X9_levels Post 78 [some (.ref 56), some (.int x1), none, some (.int x3), some (.int x4), some (.int (x5 + (-1))), none, none] [] (wI N1 67 x5.toNatClampNeg r1))))))))) :
  PX G d m_X9_levels Post 78 [some (.ref 56), some (.int x1), none, some (.int x3), some (.int x4), some (.int x5), none, none] [] M := wp_ok [(5, [true, true, true, true, true, false, false, false]), (78, [true, true, false, true, true, true, false, false]), (170, [true, true, false, true, true, true, true, true])] ok_X9_levels tk_X9_levels 300 _ _ _ _ h
set_option maxRecDepth 100000 in
theorem g_X9_levels_170 {G : GG} {d : Nat} {Post : Option Value → PM → Prop} {M : PM} {x1 : Int32} {x3 : Int32} {x4 : Int32} {x5 : Int32} {x6 : Int32} {x7 : Int32} (h : br (x3 ≤ x7)
    (PC G d m_X9_tiltBy [.ref 56, .int x1, .int x6] M (fun v N1 => gI v (fun r1 => br (r1 = 0)
      (((nI 1) = 0 ∨ (nI 1) = 1) ∧ Post (some (.int (nI 1))) N1)
      (PX G d m_X9_levels Post 78 [some (.ref 56), some (.int x1), none, some (.int x3), some (.int x4), some (.int x5), none, none] [] N1))))
    (vp_in x7 8 ∧ (vp_in (M.1 66 x7.toNatClampNeg) 10 ∧ (vp_in x7 8 ∧ (PC G d m_X9_stepOf [.ref 56, .int x1, .int (M.1 67 x7.toNatClampNeg)] M (fun v N2 => gI v (fun r2 => PX G d m_X9_levels Post 170 [some (.ref 56), some (.int x1), none, some (.int x3), some (.int x4), some (.int x5), some (.int (x6 + ((M.1 62 ((M.1 66 x7.toNatClampNeg).toNatClampNeg)) * r2))), some (.int (x7 + nI 1))] [] N2))))))) :
  PX G d m_X9_levels Post 170 [some (.ref 56), some (.int x1), none, some (.int x3), some (.int x4), some (.int x5), some (.int x6), some (.int x7)] [] M := wp_ok [(5, [true, true, true, true, true, false, false, false]), (78, [true, true, false, true, true, true, false, false]), (170, [true, true, false, true, true, true, true, true])] ok_X9_levels tk_X9_levels 300 _ _ _ _ h
set_option maxRecDepth 100000 in
theorem g_X9_mayPut_0 {G : GG} {d : Nat} {Post : Option Value → PM → Prop} {M : PM} {x1 : Int32} {x2 : Int32} {x3 : Int32} {x4 : Int32} {x5 : Int32} {x6 : Int32} (h : br (((x2 >>> (x5 &&& 31)) &&& (nI 1)) = 0)
    (br (((x3 >>> (x6 &&& 31)) &&& (nI 1)) = 0)
      (vp_in ((nI 0) + x5) 34 ∧ (br ((M.1 63 (((nI 0) + x5).toNatClampNeg)) = (-9 : Int32))
        (PX G d m_X9_mayPut Post 37 [some (.ref 56), some (.int x1), none, none, some (.int x4), some (.int x5), some (.int x6), none] [.int (nI 1)] M)
        (PX G d m_X9_mayPut Post 37 [some (.ref 56), some (.int x1), none, none, some (.int x4), some (.int x5), some (.int x6), none] [.int (nI 0)] M)))
      (PX G d m_X9_mayPut Post 37 [some (.ref 56), some (.int x1), none, none, some (.int x4), some (.int x5), some (.int x6), none] [.int (nI 0)] M))
    (PX G d m_X9_mayPut Post 37 [some (.ref 56), some (.int x1), none, none, some (.int x4), some (.int x5), some (.int x6), none] [.int (nI 0)] M)) :
  PX G d m_X9_mayPut Post 0 [some (.ref 56), some (.int x1), some (.int x2), some (.int x3), some (.int x4), some (.int x5), some (.int x6), none] [] M := wp_ok [(37, [true, true, false, false, true, true, true, false])] ok_X9_mayPut tk_X9_mayPut 300 _ _ _ _ h
set_option maxRecDepth 100000 in
theorem g_X9_mayPut_37 {G : GG} {d : Nat} {Post : Option Value → PM → Prop} {M : PM} {x1 : Int32} {x4 : Int32} {x5 : Int32} {x6 : Int32} {y0 : Int32} (h : br (y0 = 0)
    (((nI 0) = 0 ∨ (nI 0) = 1) ∧ Post (some (.int (nI 0))) M)
    (PC G d m_X9_isTaken [.ref 56, .int x1, .int x6] M (fun v N1 => gI v (fun r1 => br (r1 = 0)
      (vp_in x5 16 ∧ (PC G d m_X9_stepOf [.ref 56, .int x1, .int x6] N1 (fun v N2 => gI v (fun r2 => PC G d m_X9_tiltBy [.ref 56, .int x1, .int (x4 + ((N1.1 60 x5.toNatClampNeg) * r2))] N2 (fun v N3 => gI v (fun r3 => br (r3 = 0)
        (((nI 1) = 0 ∨ (nI 1) = 1) ∧ Post (some (.int (nI 1))) N3)
        (((nI 0) = 0 ∨ (nI 0) = 1) ∧ Post (some (.int (nI 0))) N3)))))))
      (((nI 0) = 0 ∨ (nI 0) = 1) ∧ Post (some (.int (nI 0))) N1))))) :
  PX G d m_X9_mayPut Post 37 [some (.ref 56), some (.int x1), none, none, some (.int x4), some (.int x5), some (.int x6), none] [.int y0] M := wp_ok [(37, [true, true, false, false, true, true, true, false])] ok_X9_mayPut tk_X9_mayPut 300 _ _ _ _ h
set_option maxRecDepth 100000 in
theorem g_X9_lastMove_0 {G : GG} {d : Nat} {Post : Option Value → PM → Prop} {M : PM} {x1 : Int32} {x2 : Int32} {x3 : Int32} {x4 : Int32} (h : PX G d m_X9_lastMove Post 3 [some (.ref 56), some (.int x1), some (.int x2), some (.int x3), some (.int x4), some (.int (nI 0)), none] [] M) :
  PX G d m_X9_lastMove Post 0 [some (.ref 56), some (.int x1), some (.int x2), some (.int x3), some (.int x4), none, none] [] M := wp_ok [(3, [true, true, true, true, true, true, false]), (15, [true, true, true, true, true, true, true])] ok_X9_lastMove tk_X9_lastMove 300 _ _ _ _ h
set_option maxRecDepth 100000 in
theorem g_X9_lastMove_3 {G : GG} {d : Nat} {Post : Option Value → PM → Prop} {M : PM} {x1 : Int32} {x2 : Int32} {x3 : Int32} {x4 : Int32} {x5 : Int32} (h : br ((M.1 56 15) ≤ x5)
    (Post (some (.int (-9))) M)
    (PX G d m_X9_lastMove Post 15 [some (.ref 56), some (.int x1), some (.int x2), some (.int x3), some (.int x4), some (.int x5), some (.int (nI 0))] [] M)) :
  PX G d m_X9_lastMove Post 3 [some (.ref 56), some (.int x1), some (.int x2), some (.int x3), some (.int x4), some (.int x5), none] [] M := wp_ok [(3, [true, true, true, true, true, true, false]), (15, [true, true, true, true, true, true, true])] ok_X9_lastMove tk_X9_lastMove 300 _ _ _ _ h
set_option maxRecDepth 100000 in
theorem g_X9_lastMove_15 {G : GG} {d : Nat} {Post : Option Value → PM → Prop} {M : PM} {x1 : Int32} {x2 : Int32} {x3 : Int32} {x4 : Int32} {x5 : Int32} {x6 : Int32} (h : vp_in x1 6 ∧ (br (((nI 2) * (M.1 58 x1.toNatClampNeg)) ≤ x6)
    (PX G d m_X9_lastMove Post 3 [some (.ref 56), some (.int x1), some (.int x2), some (.int x3), some (.int x4), some (.int (x5 + nI 1)), none] [] M)
    (PC G d m_X9_mayPut [.ref 56, .int x1, .int x2, .int x3, .int x4, .int x5, .int x6] M (fun v N1 => gI v (fun r1 => br (r1 = 0)
      (PX G d m_X9_lastMove Post 15 [some (.ref 56), some (.int x1), some (.int x2), some (.int x3), some (.int x4), some (.int x5), some (.int (x6 + nI 1))] [] N1)
      (Post (some (.int (((nI 8) * x5) + x6))) N1)))))) :
  PX G d m_X9_lastMove Post 15 [some (.ref 56), some (.int x1), some (.int x2), some (.int x3), some (.int x4), some (.int x5), some (.int x6)] [] M := wp_ok [(3, [true, true, true, true, true, true, false]), (15, [true, true, true, true, true, true, true])] ok_X9_lastMove tk_X9_lastMove 300 _ _ _ _ h
set_option maxRecDepth 100000 in
theorem g_X9_next_0 {G : GG} {d : Nat} {Post : Option Value → PM → Prop} {M : PM} {x1 : Int32} (h : PC G d m_X9_in [.int x1, .int (nI 0), .int (nI 1)] (wI M 56 0 (nI 0)) (fun v N1 => gI v (fun r1 => br (r1 = 0)
    (Post (some (.int (-1))) N1)
    (PX G d m_X9_next Post 24 [some (.ref 56), some (.int x1), some (.int (-9)), some (.int (nI 0)), some (.int (nI 0)), none, none, none, none, none] [] N1)))) :
  PX G d m_X9_next Post 0 [some (.ref 56), some (.int x1), none, none, none, none, none, none, none, none] [] M := wp_ok [(24, [true, true, true, true, true, false, false, false, false, false]), (39, [true, true, true, true, true, true, false, false, false, false]), (54, [true, true, true, true, true, true, true, true, false, false]), (66, [true, true, true, true, true, true, true, true, true, true])] ok_X9_next tk_X9_next 300 _ _ _ _ h
set_option maxRecDepth 100000 in
theorem g_X9_next_24 {G : GG} {d : Nat} {Post : Option Value → PM → Prop} {M : PM} {x1 : Int32} {x2 : Int32} {x3 : Int32} {x4 : Int32} (h : br ((M.1 56 27) ≤ x4)
    (br (x1 = 0)
      (Post (some (.int x2)) M)
      (Post (some (.int x3)) M))
    (PX G d m_X9_next Post 39 [some (.ref 56), some (.int x1), some (.int x2), some (.int x3), some (.int x4), some (.int (x4 + (nI 1))), none, none, none, none] [] M)) :
  PX G d m_X9_next Post 24 [some (.ref 56), some (.int x1), some (.int x2), some (.int x3), some (.int x4), none, none, none, none, none] [] M := wp_ok [(24, [true, true, true, true, true, false, false, false, false, false]), (39, [true, true, true, true, true, true, false, false, false, false]), (54, [true, true, true, true, true, true, true, true, false, false]), (66, [true, true, true, true, true, true, true, true, true, true])] ok_X9_next tk_X9_next 300 _ _ _ _ h
set_option maxRecDepth 100000 in
theorem g_X9_next_39 {G : GG} {d : Nat} {Post : Option Value → PM → Prop} {M : PM} {x1 : Int32} {x2 : Int32} {x3 : Int32} {x4 : Int32} {x5 : Int32} (h : br ((M.1 56 27) ≤ x5)
    (PX G d m_X9_next Post 24 [some (.ref 56), some (.int x1), some (.int x2), some (.int x3), some (.int (x4 + nI 1)), none, none, none, none, none] [] M)
    (PX G d m_X9_next Post 54 [some (.ref 56), some (.int x1), some (.int x2), some (.int x3), some (.int x4), some (.int x5), some (.int (nI 0)), some (.int (-1)), none, none] [] M)) :
  PX G d m_X9_next Post 39 [some (.ref 56), some (.int x1), some (.int x2), some (.int x3), some (.int x4), some (.int x5), none, none, none, none] [] M := wp_ok [(24, [true, true, true, true, true, false, false, false, false, false]), (39, [true, true, true, true, true, true, false, false, false, false]), (54, [true, true, true, true, true, true, true, true, false, false]), (66, [true, true, true, true, true, true, true, true, true, true])] ok_X9_next tk_X9_next 300 _ _ _ _ h
set_option maxRecDepth 100000 in
theorem g_X9_next_54 {G : GG} {d : Nat} {Post : Option Value → PM → Prop} {M : PM} {x1 : Int32} {x2 : Int32} {x3 : Int32} {x4 : Int32} {x5 : Int32} {x6 : Int32} {x7 : Int32} (h : br ((nI 2) ≤ x7)
    (br (x2 = (-9 : Int32))
      (PX G d m_X9_next Post 39 [some (.ref 56), some (.int x1), some (.int (((nI 10) * x4) + x5)), some (.int x6), some (.int x4), some (.int (x5 + nI 1)), none, none, none, none] [] M)
      (br (x3 ≤ x6)
        (PX G d m_X9_next Post 39 [some (.ref 56), some (.int x1), some (.int x2), some (.int x3), some (.int x4), some (.int (x5 + nI 1)), none, none, none, none] [] M)
        (PX G d m_X9_next Post 39 [some (.ref 56), some (.int x1), some (.int (((nI 10) * x4) + x5)), some (.int x6), some (.int x4), some (.int (x5 + nI 1)), none, none, none, none] [] M)))
    (PX G d m_X9_next Post 66 [some (.ref 56), some (.int x1), some (.int x2), some (.int x3), some (.int x4), some (.int x5), some (.int x6), some (.int x7), some (.int (nI 0)), some (.int (nI 0))] [] M)) :
  PX G d m_X9_next Post 54 [some (.ref 56), some (.int x1), some (.int x2), some (.int x3), some (.int x4), some (.int x5), some (.int x6), some (.int x7), none, none] [] M := wp_ok [(24, [true, true, true, true, true, false, false, false, false, false]), (39, [true, true, true, true, true, true, false, false, false, false]), (54, [true, true, true, true, true, true, true, true, false, false]), (66, [true, true, true, true, true, true, true, true, true, true])] ok_X9_next tk_X9_next 300 _ _ _ _ h
set_option maxRecDepth 100000 in
theorem g_X9_next_66 {G : GG} {d : Nat} {Post : Option Value → PM → Prop} {M : PM} {x1 : Int32} {x2 : Int32} {x3 : Int32} {x4 : Int32} {x5 : Int32} {x6 : Int32} {x7 : Int32} {x8 : Int32} {x9 : Int32} (h : PC G d m_X9_allWays [.ref 56] M (fun v N1 => gI v (fun r1 => br (r1 ≤ x9)
    (br (x8 ≤ x6)
      (PX G d m_X9_next Post 54 [some (.ref 56), some (.int x1), some (.int x2), some (.int x3), some (.int x4), some (.int x5), some (.int x6), some (.int (x7 + nI 1)), none, none] [] N1)
      (PX G d m_X9_next Post 54 [some (.ref 56), some (.int x1), some (.int x2), some (.int x3), some (.int x4), some (.int x5), some (.int x8), some (.int (x7 + nI 1)), none, none] [] N1))
    (PC G d m_X9_weighs [.int x9, .int x4, .int x5] N1 (fun v N2 => gI v (fun r2 => br (r2 = x7)
      (PC G d m_X9_fits [.ref 56, .int x9] N2 (fun v N3 => gI v (fun r3 => br (r3 = 0)
        (PX G d m_X9_next Post 66 [some (.ref 56), some (.int x1), some (.int x2), some (.int x3), some (.int x4), some (.int x5), some (.int x6), some (.int x7), some (.int (x8 + (nI 0))), some (.int (x9 + nI 1))] [] N3)
        (PX G d m_X9_next Post 66 [some (.ref 56), some (.int x1), some (.int x2), some (.int x3), some (.int x4), some (.int x5), some (.int x6), some (.int x7), some (.int (x8 + (nI 1))), some (.int (x9 + nI 1))] [] N3))))
      (PX G d m_X9_next Post 66 [some (.ref 56), some (.int x1), some (.int x2), some (.int x3), some (.int x4), some (.int x5), some (.int x6), some (.int x7), some (.int (x8 + (nI 0))), some (.int (x9 + nI 1))] [] N2))))))) :
  PX G d m_X9_next Post 66 [some (.ref 56), some (.int x1), some (.int x2), some (.int x3), some (.int x4), some (.int x5), some (.int x6), some (.int x7), some (.int x8), some (.int x9)] [] M := wp_ok [(24, [true, true, true, true, true, false, false, false, false, false]), (39, [true, true, true, true, true, true, false, false, false, false]), (54, [true, true, true, true, true, true, true, true, false, false]), (66, [true, true, true, true, true, true, true, true, true, true])] ok_X9_next tk_X9_next 300 _ _ _ _ h
set_option maxRecDepth 100000 in
theorem g_X9_letsOff_0 {G : GG} {d : Nat} {Post : Option Value → PM → Prop} {M : PM} {x1 : Int32} (h : vp_in x1 3 ∧ (vp_in x1 3 ∧ (PC G d m_X9_lesser [.int (M.1 72 x1.toNatClampNeg), .int (M.1 73 x1.toNatClampNeg)] M (fun v N1 => gI v (fun r1 => vp_in x1 3 ∧ (vp_in x1 3 ∧ (vp_in x1 3 ∧ (PC G d m_X9_waits [.ref 56, .int r1] (wI N1 72 x1.toNatClampNeg (-9)) (fun v N2 => gN v (PC G d m_X9_waits [.ref 56, .int (((N1.1 72 x1.toNatClampNeg) + (N1.1 73 x1.toNatClampNeg)) - r1)] N2 (fun v N3 => gN v (Post none N3)))))))))))) :
  PX G d m_X9_letsOff Post 0 [some (.ref 56), some (.int x1), none, none] [] M := wp_ok [] ok_X9_letsOff tk_X9_letsOff 300 _ _ _ _ h
set_option maxRecDepth 100000 in
theorem g_X9_lesser_0 {G : GG} {d : Nat} {Post : Option Value → PM → Prop} {M : PM} {x0 : Int32} {x1 : Int32} (h : br (x1 ≤ x0)
    (Post (some (.int x1)) M)
    (Post (some (.int x0)) M)) :
  PX G d m_X9_lesser Post 0 [some (.int x0), some (.int x1)] [] M := wp_ok [] ok_X9_lesser tk_X9_lesser 300 _ _ _ _ h
set_option maxRecDepth 100000 in
theorem g_X9_outOfRow_0 {G : GG} {d : Nat} {Post : Option Value → PM → Prop} {M : PM} {x1 : Int32} (h : PX G d m_X9_outOfRow Post 12 [some (.ref 56), none, some (.int x1)] [] (wI M 56 32 ((M.1 56 32) - (nI 1)))) :
  PX G d m_X9_outOfRow Post 0 [some (.ref 56), some (.int x1), none] [] M := wp_ok [(12, [true, false, true])] ok_X9_outOfRow tk_X9_outOfRow 300 _ _ _ _ h
set_option maxRecDepth 100000 in
theorem g_X9_outOfRow_12 {G : GG} {d : Nat} {Post : Option Value → PM → Prop} {M : PM} {x2 : Int32} (h : br ((M.1 56 32) ≤ x2)
    (Post none M)
    (vp_in (x2 + (nI 1)) 8 ∧ (vp_in x2 8 ∧ (PX G d m_X9_outOfRow Post 12 [some (.ref 56), none, some (.int (x2 + nI 1))] [] (wI M 71 x2.toNatClampNeg (M.1 71 ((x2 + (nI 1)).toNatClampNeg))))))) :
  PX G d m_X9_outOfRow Post 12 [some (.ref 56), none, some (.int x2)] [] M := wp_ok [(12, [true, false, true])] ok_X9_outOfRow tk_X9_outOfRow 300 _ _ _ _ h
