set_option maxRecDepth 100000 in
theorem g_X5_begin_0 {G : GG} {d : Nat} {Post : Option Value → PM → Prop} {M : PM} {x1 : Int32} {x2 : Int32} (h : Post none (wI (wI (wI (wI M 33 5 (nI 0)) 33 6 (nI 0)) 33 7 x1) 33 8 x2)) :
  PX G d m_X5_begin Post 0 [some (.ref 33), some (.int x1), some (.int x2)] [] M := wp_ok [] ok_X5_begin tk_X5_begin 300 _ _ _ _ h
set_option maxRecDepth 100000 in
theorem g_X5_addSeat_0 {G : GG} {d : Nat} {Post : Option Value → PM → Prop} {M : PM} {x1 : Int32} (h : br ((nI 8) ≤ (M.1 33 5))
    (Post none M)
    (vp_in (M.1 33 5) 8 ∧ (Post none (wI (wI M 34 ((M.1 33 5).toNatClampNeg) x1) 33 5 ((M.1 33 5) + (nI 1)))))) :
  PX G d m_X5_addSeat Post 0 [some (.ref 33), some (.int x1)] [] M := wp_ok [] ok_X5_addSeat tk_X5_addSeat 300 _ _ _ _ h
set_option maxRecDepth 100000 in
theorem g_X5_addBody_0 {G : GG} {d : Nat} {Post : Option Value → PM → Prop} {M : PM} {x1 : Int32} {x2 : Int32} (h : br ((nI 8) ≤ (M.1 33 6))
    (Post none M)
    (vp_in (M.1 33 6) 8 ∧ (vp_in (M.1 33 6) 8 ∧ (Post none (wI (wI (wI M 35 ((M.1 33 6).toNatClampNeg) x1) 36 ((M.1 33 6).toNatClampNeg) x2) 33 6 ((M.1 33 6) + (nI 1))))))) :
  PX G d m_X5_addBody Post 0 [some (.ref 33), some (.int x1), some (.int x2)] [] M := wp_ok [] ok_X5_addBody tk_X5_addBody 300 _ _ _ _ h
set_option maxRecDepth 100000 in
theorem g_X5_chosenStep_0 {G : GG} {d : Nat} {Post : Option Value → PM → Prop} {M : PM} {x1 : Int32} (h : br (x1 < 0)
    (Post (some (.int (nI 0))) M)
    (br ((M.1 33 6) ≤ x1)
      (Post (some (.int (nI 0))) M)
      (vp_in x1 8 ∧ (Post (some (.int (M.1 37 x1.toNatClampNeg))) M)))) :
  PX G d m_X5_chosenStep Post 0 [some (.ref 33), some (.int x1)] [] M := wp_ok [] ok_X5_chosenStep tk_X5_chosenStep 300 _ _ _ _ h
set_option maxRecDepth 100000 in
theorem g_X5_countWays_0 {G : GG} {d : Nat} {Post : Option Value → PM → Prop} {M : PM} (h : PC G d m_X5_measureReach [.ref 33] M (fun v N1 => gN v (PC G d m_X5_countFrom [.ref 33, .int (nI 0), .int (nI 0), .int (N1.1 33 7)] N1 (fun v N2 => gI v (fun r2 => Post (some (.int r2)) N2))))) :
  PX G d m_X5_countWays Post 0 [some (.ref 33)] [] M := wp_ok [] ok_X5_countWays tk_X5_countWays 300 _ _ _ _ h
set_option maxRecDepth 100000 in
theorem g_X5_findFirst_0 {G : GG} {d : Nat} {Post : Option Value → PM → Prop} {M : PM} (h : PC G d m_X5_measureReach [.ref 33] M (fun v N1 => gN v (PC G d m_X5_findFrom [.ref 33, .int (nI 0), .int (nI 0), .int (N1.1 33 7)] N1 (fun v N2 => gI v (fun r2 => (r2 = 0 ∨ r2 = 1) ∧ Post (some (.int r2)) N2))))) :
  PX G d m_X5_findFirst Post 0 [some (.ref 33)] [] M := wp_ok [] ok_X5_findFirst tk_X5_findFirst 300 _ _ _ _ h
set_option maxRecDepth 100000 in
theorem g_X5_fewestChanges_0 {G : GG} {d : Nat} {Post : Option Value → PM → Prop} {M : PM} (h : PC G d m_X5_measureReach [.ref 33] M (fun v N1 => gN v (PC G d m_X5_changeFrom [.ref 33, .int (nI 0), .int (nI 0), .int (N1.1 33 7), .int (nI 0)] (wI N1 33 9 ((N1.1 33 6) + (nI 1))) (fun v N2 => gN v (br ((N2.1 33 9) ≤ (N2.1 33 6))
    (Post (some (.int (N2.1 33 9))) N2)
    (Post (some (.int (-1))) N2)))))) :
  PX G d m_X5_fewestChanges Post 0 [some (.ref 33)] [] M := wp_ok [] ok_X5_fewestChanges tk_X5_fewestChanges 300 _ _ _ _ h
set_option maxRecDepth 100000 in
theorem g_X5_measureReach_0 {G : GG} {d : Nat} {Post : Option Value → PM → Prop} {M : PM} (h : vp_in (M.1 33 6) 9 ∧ (PX G d m_X5_measureReach Post 17 [some (.ref 33), some (.int ((M.1 33 6) - (nI 1)))] [] (wI M 38 ((M.1 33 6).toNatClampNeg) (nI 0)))) :
  PX G d m_X5_measureReach Post 0 [some (.ref 33), none] [] M := wp_ok [(17, [true, true])] ok_X5_measureReach tk_X5_measureReach 300 _ _ _ _ h
set_option maxRecDepth 100000 in
theorem g_X5_measureReach_17 {G : GG} {d : Nat} {Post : Option Value → PM → Prop} {M : PM} {x1 : Int32} (h : br (x1 < 0)
    (Post none M)
    (vp_in (x1 + (nI 1)) 9 ∧ (vp_in x1 8 ∧ (vp_in x1 9 ∧ (PX G d m_X5_measureReach Post 17 [some (.ref 33), some (.int (x1 + (-1)))] [] (wI M 38 x1.toNatClampNeg ((M.1 38 ((x1 + (nI 1)).toNatClampNeg)) + ((nI 4) * (M.1 35 x1.toNatClampNeg))))))))) :
  PX G d m_X5_measureReach Post 17 [some (.ref 33), some (.int x1)] [] M := wp_ok [(17, [true, true])] ok_X5_measureReach tk_X5_measureReach 300 _ _ _ _ h
set_option maxRecDepth 100000 in
theorem g_X5_isHopeless_0 {G : GG} {d : Nat} {Post : Option Value → PM → Prop} {M : PM} {x1 : Int32} {x2 : Int32} (h : vp_in x1 9 ∧ (br ((if 0 ≤ x2 then x2 else 0 - x2) ≤ ((M.1 33 8) + (M.1 38 x1.toNatClampNeg)))
    (((nI 0) = 0 ∨ (nI 0) = 1) ∧ Post (some (.int (nI 0))) M)
    (((nI 1) = 0 ∨ (nI 1) = 1) ∧ Post (some (.int (nI 1))) M))) :
  PX G d m_X5_isHopeless Post 0 [some (.ref 33), some (.int x1), some (.int x2)] [] M := wp_ok [] ok_X5_isHopeless tk_X5_isHopeless 300 _ _ _ _ h
set_option maxRecDepth 100000 in
theorem g_X5_countFrom_0 {G : GG} {d : Nat} {Post : Option Value → PM → Prop} {M : PM} {x1 : Int32} {x2 : Int32} {x3 : Int32} (h : PC G d m_X5_isHopeless [.ref 33, .int x1, .int x3] M (fun v N1 => gI v (fun r1 => br (r1 = 0)
    (br (x1 < (N1.1 33 6))
      (PX G d m_X5_countFrom Post 27 [some (.ref 33), some (.int x1), some (.int x2), some (.int x3), some (.int (nI 0)), some (.int (nI 0))] [] N1)
      (Post (some (.int (nI 1))) N1))
    (Post (some (.int (nI 0))) N1)))) :
  PX G d m_X5_countFrom Post 0 [some (.ref 33), some (.int x1), some (.int x2), some (.int x3), none, none] [] M := wp_ok [(27, [true, true, true, true, true, true])] ok_X5_countFrom tk_X5_countFrom 300 _ _ _ _ h
set_option maxRecDepth 100000 in
theorem g_X5_countFrom_27 {G : GG} {d : Nat} {Post : Option Value → PM → Prop} {M : PM} {x1 : Int32} {x2 : Int32} {x3 : Int32} {x4 : Int32} {x5 : Int32} (h : br ((M.1 33 5) ≤ x5)
    (Post (some (.int x4)) M)
    (br ((x2 &&& ((nI 1) <<< (x5 &&& 31))) = 0)
      (vp_in x1 8 ∧ (vp_in x5 8 ∧ (PC G d m_X5_countFrom [.ref 33, .int (x1 + (nI 1)), .int (x2 ||| ((nI 1) <<< (x5 &&& 31))), .int (x3 + ((M.1 35 x1.toNatClampNeg) * (M.1 34 x5.toNatClampNeg)))] M (fun v N1 => gI v (fun r1 => PX G d m_X5_countFrom Post 27 [some (.ref 33), some (.int x1), some (.int x2), some (.int x3), some (.int (x4 + r1)), some (.int (x5 + nI 1))] [] N1)))))
      (PX G d m_X5_countFrom Post 27 [some (.ref 33), some (.int x1), some (.int x2), some (.int x3), some (.int x4), some (.int (x5 + nI 1))] [] M))) :
  PX G d m_X5_countFrom Post 27 [some (.ref 33), some (.int x1), some (.int x2), some (.int x3), some (.int x4), some (.int x5)] [] M := wp_ok [(27, [true, true, true, true, true, true])] ok_X5_countFrom tk_X5_countFrom 300 _ _ _ _ h
set_option maxRecDepth 100000 in
theorem g_X5_findFrom_0 {G : GG} {d : Nat} {Post : Option Value → PM → Prop} {M : PM} {x1 : Int32} {x2 : Int32} {x3 : Int32} (h : PC G d m_X5_isHopeless [.ref 33, .int x1, .int x3] M (fun v N1 => gI v (fun r1 => br (r1 = 0)
    (br (x1 < (N1.1 33 6))
      (PX G d m_X5_findFrom Post 24 [some (.ref 33), some (.int x1), some (.int x2), some (.int x3), some (.int (nI 0))] [] N1)
      (((nI 1) = 0 ∨ (nI 1) = 1) ∧ Post (some (.int (nI 1))) N1))
    (((nI 0) = 0 ∨ (nI 0) = 1) ∧ Post (some (.int (nI 0))) N1)))) :
  PX G d m_X5_findFrom Post 0 [some (.ref 33), some (.int x1), some (.int x2), some (.int x3), none] [] M := wp_ok [(24, [true, true, true, true, true])] ok_X5_findFrom tk_X5_findFrom 300 _ _ _ _ h
set_option maxRecDepth 100000 in
theorem g_X5_findFrom_24 {G : GG} {d : Nat} {Post : Option Value → PM → Prop} {M : PM} {x1 : Int32} {x2 : Int32} {x3 : Int32} {x4 : Int32} (h : br ((M.1 33 5) ≤ x4)
    (((nI 0) = 0 ∨ (nI 0) = 1) ∧ Post (some (.int (nI 0))) M)
    (br ((x2 &&& ((nI 1) <<< (x4 &&& 31))) = 0)
      (vp_in x4 8 ∧ (vp_in x1 8 ∧ (vp_in x1 8 ∧ (vp_in x4 8 ∧ (PC G d m_X5_findFrom [.ref 33, .int (x1 + (nI 1)), .int (x2 ||| ((nI 1) <<< (x4 &&& 31))), .int (x3 + ((M.1 35 x1.toNatClampNeg) * (M.1 34 x4.toNatClampNeg)))] (wI M 37 x1.toNatClampNeg (M.1 34 x4.toNatClampNeg)) (fun v N1 => gI v (fun r1 => br (r1 = 0)
        (PX G d m_X5_findFrom Post 24 [some (.ref 33), some (.int x1), some (.int x2), some (.int x3), some (.int (x4 + nI 1))] [] N1)
        (((nI 1) = 0 ∨ (nI 1) = 1) ∧ Post (some (.int (nI 1))) N1))))))))
      (PX G d m_X5_findFrom Post 24 [some (.ref 33), some (.int x1), some (.int x2), some (.int x3), some (.int (x4 + nI 1))] [] M))) :
  PX G d m_X5_findFrom Post 24 [some (.ref 33), some (.int x1), some (.int x2), some (.int x3), some (.int x4)] [] M := wp_ok [(24, [true, true, true, true, true])] ok_X5_findFrom tk_X5_findFrom 300 _ _ _ _ h
set_option maxRecDepth 100000 in
theorem g_X5_changeFrom_0 {G : GG} {d : Nat} {Post : Option Value → PM → Prop} {M : PM} {x1 : Int32} {x2 : Int32} {x3 : Int32} {x4 : Int32} (h : br ((M.1 33 9) ≤ x4)
    (Post none M)
    (PC G d m_X5_isHopeless [.ref 33, .int x1, .int x3] M (fun v N1 => gI v (fun r1 => br (r1 = 0)
      (br (x1 < (N1.1 33 6))
        (PX G d m_X5_changeFrom Post 37 [some (.ref 33), some (.int x1), some (.int x2), some (.int x3), some (.int x4), some (.int (nI 0)), none] [] N1)
        (Post none (wI N1 33 9 x4)))
      (Post none N1))))) :
  PX G d m_X5_changeFrom Post 0 [some (.ref 33), some (.int x1), some (.int x2), some (.int x3), some (.int x4), none, none] [] M := wp_ok [(37, [true, true, true, true, true, true, false])] ok_X5_changeFrom tk_X5_changeFrom 300 _ _ _ _ h
set_option maxRecDepth 100000 in
theorem g_X5_changeFrom_37 {G : GG} {d : Nat} {Post : Option Value → PM → Prop} {M : PM} {x1 : Int32} {x2 : Int32} {x3 : Int32} {x4 : Int32} {x5 : Int32} (h : br ((M.1 33 5) ≤ x5)
    (Post none M)
    (br ((x2 &&& ((nI 1) <<< (x5 &&& 31))) = 0)
      (vp_in x5 8 ∧ (vp_in x1 8 ∧ (br ((M.1 34 x5.toNatClampNeg) = (M.1 36 x1.toNatClampNeg))
        (vp_in x1 8 ∧ (vp_in x5 8 ∧ (PC G d m_X5_changeFrom [.ref 33, .int (x1 + (nI 1)), .int (x2 ||| ((nI 1) <<< (x5 &&& 31))), .int (x3 + ((M.1 35 x1.toNatClampNeg) * (M.1 34 x5.toNatClampNeg))), .int (x4 + (nI 0))] M (fun v N2 => gN v (PX G d m_X5_changeFrom Post 37 [some (.ref 33), some (.int x1), some (.int x2), some (.int x3), some (.int x4), some (.int (x5 + nI 1)), none] [] N2)))))
        (vp_in x1 8 ∧ (vp_in x5 8 ∧ (PC G d m_X5_changeFrom [.ref 33, .int (x1 + (nI 1)), .int (x2 ||| ((nI 1) <<< (x5 &&& 31))), .int (x3 + ((M.1 35 x1.toNatClampNeg) * (M.1 34 x5.toNatClampNeg))), .int (x4 + (nI 1))] M (fun v N1 => gN v (PX G d m_X5_changeFrom Post 37 [some (.ref 33), some (.int x1), some (.int x2), some (.int x3), some (.int x4), some (.int (x5 + nI 1)), none] [] N1))))))))
      (PX G d m_X5_changeFrom Post 37 [some (.ref 33), some (.int x1), some (.int x2), some (.int x3), some (.int x4), some (.int (x5 + nI 1)), none] [] M))) :
  PX G d m_X5_changeFrom Post 37 [some (.ref 33), some (.int x1), some (.int x2), some (.int x3), some (.int x4), some (.int x5), none] [] M := wp_ok [(37, [true, true, true, true, true, true, false])] ok_X5_changeFrom tk_X5_changeFrom 300 _ _ _ _ h
set_option maxRecDepth 100000 in
theorem g_X6_append_0 {G : GG} {d : Nat} {Post : Option Value → PM → Prop} {M : PM} {x1 : Int32} (h : br ((nI 300) ≤ (M.1 25 2))
    (Post none M)
    (vp_in (M.1 25 2) 300 ∧ (Post none (wI (wI M 32 ((M.1 25 2).toNatClampNeg) x1) 25 2 ((M.1 25 2) + (nI 1)))))) :
  PX G d m_X6_append Post 0 [some (.ref 25), some (.int x1)] [] M := wp_ok [] ok_X6_append tk_X6_append 300 _ _ _ _ h
set_option maxRecDepth 100000 in
theorem g_X6_readAll_0 {G : GG} {d : Nat} {Post : Option Value → PM → Prop} {M : PM} (h : PC G d m_X3_forget [.ref 26] M (fun v N1 => gN v (PX G d m_X6_readAll Post 14 [some (.ref 25), some (.int (nI 0)), none] [] (wI N1 25 4 (nI 0))))) :
  PX G d m_X6_readAll Post 0 [some (.ref 25), none, none] [] M := wp_ok [(14, [true, true, false])] ok_X6_readAll tk_X6_readAll 300 _ _ _ _ h
set_option maxRecDepth 100000 in
theorem g_X6_readAll_14 {G : GG} {d : Nat} {Post : Option Value → PM → Prop} {M : PM} {x1 : Int32} (h : br ((nI 300) < x1)
    (Post (some (.int (-1))) M)
    (PC G d m_X6_readToken [.ref 25] M (fun v N1 => gN v (br ((N1.1 25 5) = 0)
      (Post (some (.int x1)) N1)
      (br ((N1.1 25 5) = (nI 1))
        (PC G d m_X6_readPlank [.ref 25] N1 (fun v N4 => gI v (fun r4 => br (r4 = 0)
          (Post (some (.int (-1))) N4)
          (PX G d m_X6_readAll Post 14 [some (.ref 25), some (.int (x1 + nI 1)), none] [] N4))))
        (br ((N1.1 25 5) = (nI 2))
          (PC G d m_X6_readChild [.ref 25] N1 (fun v N3 => gI v (fun r3 => br (r3 = 0)
            (Post (some (.int (-1))) N3)
            (PX G d m_X6_readAll Post 14 [some (.ref 25), some (.int (x1 + nI 1)), none] [] N3))))
          (br ((N1.1 25 5) = (nI 3))
            (PC G d m_X6_readStone [.ref 25] N1 (fun v N2 => gI v (fun r2 => br (r2 = 0)
              (br ((nI 0) = 0)
                (Post (some (.int (-1))) N2)
                (PX G d m_X6_readAll Post 14 [some (.ref 25), some (.int (x1 + nI 1)), none] [] N2))
              (br ((nI 1) = 0)
                (Post (some (.int (-1))) N2)
                (PX G d m_X6_readAll Post 14 [some (.ref 25), some (.int (x1 + nI 1)), none] [] N2)))))
            (br ((nI 0) = 0)
              (Post (some (.int (-1))) N1)
              (PX G d m_X6_readAll Post 14 [some (.ref 25), some (.int (x1 + nI 1)), none] [] N1))))))))) :
  PX G d m_X6_readAll Post 14 [some (.ref 25), some (.int x1), none] [] M := wp_ok [(14, [true, true, false])] ok_X6_readAll tk_X6_readAll 300 _ _ _ _ h
set_option maxRecDepth 100000 in
theorem g_X6_readPlank_0 {G : GG} {d : Nat} {Post : Option Value → PM → Prop} {M : PM} (h : br ((nI 3) ≤ (M.1 26 5))
    (((nI 0) = 0 ∨ (nI 0) = 1) ∧ Post (some (.int (nI 0))) M)
    (PC G d m_X6_readNumber [.ref 25, .int (nI 1), .int (nI 4)] M (fun v N1 => gI v (fun r1 => br (r1 = 0)
      (((nI 0) = 0 ∨ (nI 0) = 1) ∧ Post (some (.int (nI 0))) N1)
      (vp_in (M.1 26 5) 3 ∧ (PC G d m_X6_readNumber [.ref 25, .int (nI 0), .int (nI 20)] (wI N1 27 ((M.1 26 5).toNatClampNeg) (N1.1 25 6)) (fun v N2 => gI v (fun r2 => br (r2 = 0)
        (((nI 0) = 0 ∨ (nI 0) = 1) ∧ Post (some (.int (nI 0))) N2)
        (vp_in (M.1 26 5) 3 ∧ (PC G d m_X6_readSemicolon [.ref 25] (wI (wI N2 28 ((M.1 26 5).toNatClampNeg) (N2.1 25 6)) 26 5 ((N2.1 26 5) + (nI 1))) (fun v N3 => gI v (fun r3 => (r3 = 0 ∨ r3 = 1) ∧ Post (some (.int r3)) N3)))))))))))) :
  PX G d m_X6_readPlank Post 0 [some (.ref 25), none] [] M := wp_ok [] ok_X6_readPlank tk_X6_readPlank 300 _ _ _ _ h
set_option maxRecDepth 100000 in
theorem g_X6_readChild_0 {G : GG} {d : Nat} {Post : Option Value → PM → Prop} {M : PM} (h : br ((nI 8) ≤ (M.1 26 6))
    (((nI 0) = 0 ∨ (nI 0) = 1) ∧ Post (some (.int (nI 0))) M)
    (PC G d m_X6_readNumber [.ref 25, .int (nI 1), .int (nI 60)] M (fun v N1 => gI v (fun r1 => br (r1 = 0)
      (((nI 0) = 0 ∨ (nI 0) = 1) ∧ Post (some (.int (nI 0))) N1)
      (vp_in (M.1 26 6) 8 ∧ (PC G d m_X6_readNumber [.ref 25, .int (nI 1), .int (nI 30)] (wI N1 29 ((M.1 26 6).toNatClampNeg) (N1.1 25 6)) (fun v N2 => gI v (fun r2 => br (r2 = 0)
        (((nI 0) = 0 ∨ (nI 0) = 1) ∧ Post (some (.int (nI 0))) N2)
        (vp_in (M.1 26 6) 8 ∧ (PC G d m_X6_readSemicolon [.ref 25] (wI (wI N2 30 ((M.1 26 6).toNatClampNeg) (N2.1 25 6)) 26 6 ((N2.1 26 6) + (nI 1))) (fun v N3 => gI v (fun r3 => (r3 = 0 ∨ r3 = 1) ∧ Post (some (.int r3)) N3)))))))))))) :
  PX G d m_X6_readChild Post 0 [some (.ref 25), none] [] M := wp_ok [] ok_X6_readChild tk_X6_readChild 300 _ _ _ _ h
set_option maxRecDepth 100000 in
theorem g_X6_readStone_0 {G : GG} {d : Nat} {Post : Option Value → PM → Prop} {M : PM} (h : br ((nI 5) ≤ (M.1 26 7))
    (((nI 0) = 0 ∨ (nI 0) = 1) ∧ Post (some (.int (nI 0))) M)
    (PC G d m_X6_readNumber [.ref 25, .int (nI 1), .int (nI 20)] M (fun v N1 => gI v (fun r1 => br (r1 = 0)
      (((nI 0) = 0 ∨ (nI 0) = 1) ∧ Post (some (.int (nI 0))) N1)
      (vp_in (M.1 26 7) 5 ∧ (PC G d m_X6_readSemicolon [.ref 25] (wI (wI N1 31 ((M.1 26 7).toNatClampNeg) (N1.1 25 6)) 26 7 ((N1.1 26 7) + (nI 1))) (fun v N2 => gI v (fun r2 => (r2 = 0 ∨ r2 = 1) ∧ Post (some (.int r2)) N2)))))))) :
  PX G d m_X6_readStone Post 0 [some (.ref 25), none] [] M := wp_ok [] ok_X6_readStone tk_X6_readStone 300 _ _ _ _ h
set_option maxRecDepth 100000 in
theorem g_X6_readNumber_0 {G : GG} {d : Nat} {Post : Option Value → PM → Prop} {M : PM} {x1 : Int32} {x2 : Int32} (h : PC G d m_X6_readToken [.ref 25] M (fun v N1 => gN v (br ((N1.1 25 5) = (nI 4))
    (br ((N1.1 25 6) < x1)
      (((nI 0) = 0 ∨ (nI 0) = 1) ∧ Post (some (.int (nI 0))) N1)
      (br (x2 < (N1.1 25 6))
        (((nI 0) = 0 ∨ (nI 0) = 1) ∧ Post (some (.int (nI 0))) N1)
        (((nI 1) = 0 ∨ (nI 1) = 1) ∧ Post (some (.int (nI 1))) N1)))
    (((nI 0) = 0 ∨ (nI 0) = 1) ∧ Post (some (.int (nI 0))) N1)))) :
  PX G d m_X6_readNumber Post 0 [some (.ref 25), some (.int x1), some (.int x2)] [] M := wp_ok [] ok_X6_readNumber tk_X6_readNumber 300 _ _ _ _ h
set_option maxRecDepth 100000 in
theorem g_X6_readSemicolon_0 {G : GG} {d : Nat} {Post : Option Value → PM → Prop} {M : PM} (h : PC G d m_X6_readToken [.ref 25] M (fun v N1 => gN v (br ((N1.1 25 5) = (nI 5))
    (((nI 1) = 0 ∨ (nI 1) = 1) ∧ Post (some (.int (nI 1))) N1)
    (((nI 0) = 0 ∨ (nI 0) = 1) ∧ Post (some (.int (nI 0))) N1)))) :
  PX G d m_X6_readSemicolon Post 0 [some (.ref 25)] [] M := wp_ok [] ok_X6_readSemicolon tk_X6_readSemicolon 300 _ _ _ _ h
set_option maxRecDepth 100000 in
theorem g_X6_readToken_0 {G : GG} {d : Nat} {Post : Option Value → PM → Prop} {M : PM} (h : br ((M.1 25 2) ≤ (M.1 25 4))
    (br ((M.1 25 4) < (M.1 25 2))
      (vp_in (M.1 25 4) 300 ∧ (PC G d m_X6_isLetter [.int (M.1 32 ((M.1 25 4).toNatClampNeg))] (wI M 25 3 (M.1 25 4)) (fun v N1 => gI v (fun r1 => br (r1 = 0)
        (PC G d m_X6_isDigit [.int (M.1 32 ((M.1 25 4).toNatClampNeg))] N1 (fun v N2 => gI v (fun r2 => br (r2 = 0)
          (br ((M.1 32 ((M.1 25 4).toNatClampNeg)) = (nI 59))
            (Post none (wI (wI N2 25 4 ((N2.1 25 4) + (nI 1))) 25 5 (nI 5)))
            (Post none (wI (wI N2 25 4 ((N2.1 25 4) + (nI 1))) 25 5 (nI 6))))
          (PC G d m_X6_readDigits [.ref 25] N2 (fun v N3 => gN v (Post none N3))))))
        (PC G d m_X6_readWord [.ref 25] N1 (fun v N4 => gN v (Post none N4)))))))
      (Post none (wI (wI M 25 3 (M.1 25 4)) 25 5 (nI 0))))
    (vp_in (M.1 25 4) 300 ∧ (br ((M.1 32 ((M.1 25 4).toNatClampNeg)) = (nI 32))
      (PX G d m_X6_readToken Post 0 [some (.ref 25), none] [] (wI M 25 4 ((M.1 25 4) + (nI 1))))
      (br ((M.1 25 4) < (M.1 25 2))
        (vp_in (M.1 25 4) 300 ∧ (PC G d m_X6_isLetter [.int (M.1 32 ((M.1 25 4).toNatClampNeg))] (wI M 25 3 (M.1 25 4)) (fun v N5 => gI v (fun r5 => br (r5 = 0)
          (PC G d m_X6_isDigit [.int (M.1 32 ((M.1 25 4).toNatClampNeg))] N5 (fun v N6 => gI v (fun r6 => br (r6 = 0)
            (br ((M.1 32 ((M.1 25 4).toNatClampNeg)) = (nI 59))
              (Post none (wI (wI N6 25 4 ((N6.1 25 4) + (nI 1))) 25 5 (nI 5)))
              (Post none (wI (wI N6 25 4 ((N6.1 25 4) + (nI 1))) 25 5 (nI 6))))
            (PC G d m_X6_readDigits [.ref 25] N6 (fun v N7 => gN v (Post none N7))))))
          (PC G d m_X6_readWord [.ref 25] N5 (fun v N8 => gN v (Post none N8)))))))
        (Post none (wI (wI M 25 3 (M.1 25 4)) 25 5 (nI 0))))))) :
  PX G d m_X6_readToken Post 0 [some (.ref 25), none] [] M := wp_ok [(0, [true, false])] ok_X6_readToken tk_X6_readToken 300 _ _ _ _ h
set_option maxRecDepth 100000 in
theorem g_X6_readWord_0 {G : GG} {d : Nat} {Post : Option Value → PM → Prop} {M : PM} (h : br ((M.1 25 2) ≤ (M.1 25 4))
    (PC G d m_X6_spells [.ref 25, .ref 210] M (fun v N1 => gI v (fun r1 => br (r1 = 0)
      (PC G d m_X6_spells [.ref 25, .ref 211] N1 (fun v N2 => gI v (fun r2 => br (r2 = 0)
        (PC G d m_X6_spells [.ref 25, .ref 212] N2 (fun v N3 => gI v (fun r3 => br (r3 = 0)
          (Post none (wI N3 25 5 (nI 6)))
          (Post none (wI N3 25 5 (nI 3))))))
        (Post none (wI N2 25 5 (nI 2))))))
      (Post none (wI N1 25 5 (nI 1))))))
    (vp_in (M.1 25 4) 300 ∧ (PC G d m_X6_isLetter [.int (M.1 32 ((M.1 25 4).toNatClampNeg))] M (fun v N4 => gI v (fun r4 => br (r4 = 0)
      (PC G d m_X6_spells [.ref 25, .ref 210] N4 (fun v N5 => gI v (fun r5 => br (r5 = 0)
        (PC G d m_X6_spells [.ref 25, .ref 211] N5 (fun v N6 => gI v (fun r6 => br (r6 = 0)
          (PC G d m_X6_spells [.ref 25, .ref 212] N6 (fun v N7 => gI v (fun r7 => br (r7 = 0)
            (Post none (wI N7 25 5 (nI 6)))
            (Post none (wI N7 25 5 (nI 3))))))
          (Post none (wI N6 25 5 (nI 2))))))
        (Post none (wI N5 25 5 (nI 1))))))
      (PX G d m_X6_readWord Post 0 [some (.ref 25)] [] (wI N4 25 4 ((N4.1 25 4) + (nI 1))))))))) :
  PX G d m_X6_readWord Post 0 [some (.ref 25)] [] M := wp_ok [(0, [true])] ok_X6_readWord tk_X6_readWord 300 _ _ _ _ h
set_option maxRecDepth 100000 in
theorem g_X6_spellsv0_0 {G : GG} {d : Nat} {Post : Option Value → PM → Prop} {M : PM} (h : PC G d m_J0_length_8abf5 [.ref 210] M (fun v N1 => gI v (fun r1 => br (((M.1 25 4) - (M.1 25 3)) = r1)
    (PX G d m_X6_spells Post 20 [some (.ref 25), some (.ref 210), some (.int (nI 0))] [] N1)
    (((nI 0) = 0 ∨ (nI 0) = 1) ∧ Post (some (.int (nI 0))) N1)))) :
  PX G d m_X6_spells Post 0 [some (.ref 25), some (.ref 210), none] [] M := wp_ok [(20, [true, true, true])] ok_X6_spells tk_X6_spells 300 _ _ _ _ h
set_option maxRecDepth 100000 in
theorem g_X6_spellsv0_20 {G : GG} {d : Nat} {Post : Option Value → PM → Prop} {M : PM} {x2 : Int32} (h : PC G d m_J0_length_8abf5 [.ref 210] M (fun v N1 => gI v (fun r1 => br (r1 ≤ x2)
    (((nI 1) = 0 ∨ (nI 1) = 1) ∧ Post (some (.int (nI 1))) N1)
    (vp_in ((N1.1 25 3) + x2) 300 ∧ (PC G d m_J0_charAt_5068e [.ref 210, .int x2] N1 (fun v N2 => gI v (fun r2 => br ((N1.1 32 (((N1.1 25 3) + x2).toNatClampNeg)) = r2)
      (PX G d m_X6_spells Post 20 [some (.ref 25), some (.ref 210), some (.int (x2 + nI 1))] [] N2)
      (((nI 0) = 0 ∨ (nI 0) = 1) ∧ Post (some (.int (nI 0))) N2)))))))) :
  PX G d m_X6_spells Post 20 [some (.ref 25), some (.ref 210), some (.int x2)] [] M := wp_ok [(20, [true, true, true])] ok_X6_spells tk_X6_spells 300 _ _ _ _ h
set_option maxRecDepth 100000 in
theorem g_X6_spellsv1_0 {G : GG} {d : Nat} {Post : Option Value → PM → Prop} {M : PM} (h : PC G d m_J0_length_8abf5 [.ref 211] M (fun v N1 => gI v (fun r1 => br (((M.1 25 4) - (M.1 25 3)) = r1)
    (PX G d m_X6_spells Post 20 [some (.ref 25), some (.ref 211), some (.int (nI 0))] [] N1)
    (((nI 0) = 0 ∨ (nI 0) = 1) ∧ Post (some (.int (nI 0))) N1)))) :
  PX G d m_X6_spells Post 0 [some (.ref 25), some (.ref 211), none] [] M := wp_ok [(20, [true, true, true])] ok_X6_spells tk_X6_spells 300 _ _ _ _ h
set_option maxRecDepth 100000 in
theorem g_X6_spellsv1_20 {G : GG} {d : Nat} {Post : Option Value → PM → Prop} {M : PM} {x2 : Int32} (h : PC G d m_J0_length_8abf5 [.ref 211] M (fun v N1 => gI v (fun r1 => br (r1 ≤ x2)
    (((nI 1) = 0 ∨ (nI 1) = 1) ∧ Post (some (.int (nI 1))) N1)
    (vp_in ((N1.1 25 3) + x2) 300 ∧ (PC G d m_J0_charAt_5068e [.ref 211, .int x2] N1 (fun v N2 => gI v (fun r2 => br ((N1.1 32 (((N1.1 25 3) + x2).toNatClampNeg)) = r2)
      (PX G d m_X6_spells Post 20 [some (.ref 25), some (.ref 211), some (.int (x2 + nI 1))] [] N2)
      (((nI 0) = 0 ∨ (nI 0) = 1) ∧ Post (some (.int (nI 0))) N2)))))))) :
  PX G d m_X6_spells Post 20 [some (.ref 25), some (.ref 211), some (.int x2)] [] M := wp_ok [(20, [true, true, true])] ok_X6_spells tk_X6_spells 300 _ _ _ _ h
set_option maxRecDepth 100000 in
theorem g_X6_spellsv2_0 {G : GG} {d : Nat} {Post : Option Value → PM → Prop} {M : PM} (h : PC G d m_J0_length_8abf5 [.ref 212] M (fun v N1 => gI v (fun r1 => br (((M.1 25 4) - (M.1 25 3)) = r1)
    (PX G d m_X6_spells Post 20 [some (.ref 25), some (.ref 212), some (.int (nI 0))] [] N1)
    (((nI 0) = 0 ∨ (nI 0) = 1) ∧ Post (some (.int (nI 0))) N1)))) :
  PX G d m_X6_spells Post 0 [some (.ref 25), some (.ref 212), none] [] M := wp_ok [(20, [true, true, true])] ok_X6_spells tk_X6_spells 300 _ _ _ _ h
set_option maxRecDepth 100000 in
theorem g_X6_spellsv2_20 {G : GG} {d : Nat} {Post : Option Value → PM → Prop} {M : PM} {x2 : Int32} (h : PC G d m_J0_length_8abf5 [.ref 212] M (fun v N1 => gI v (fun r1 => br (r1 ≤ x2)
    (((nI 1) = 0 ∨ (nI 1) = 1) ∧ Post (some (.int (nI 1))) N1)
    (vp_in ((N1.1 25 3) + x2) 300 ∧ (PC G d m_J0_charAt_5068e [.ref 212, .int x2] N1 (fun v N2 => gI v (fun r2 => br ((N1.1 32 (((N1.1 25 3) + x2).toNatClampNeg)) = r2)
      (PX G d m_X6_spells Post 20 [some (.ref 25), some (.ref 212), some (.int (x2 + nI 1))] [] N2)
      (((nI 0) = 0 ∨ (nI 0) = 1) ∧ Post (some (.int (nI 0))) N2)))))))) :
  PX G d m_X6_spells Post 20 [some (.ref 25), some (.ref 212), some (.int x2)] [] M := wp_ok [(20, [true, true, true])] ok_X6_spells tk_X6_spells 300 _ _ _ _ h
set_option maxRecDepth 100000 in
theorem g_X6_readDigits_0 {G : GG} {d : Nat} {Post : Option Value → PM → Prop} {M : PM} (h : PX G d m_X6_readDigits Post 5 [some (.ref 25), none] [] (wI M 25 6 (nI 0))) :
  PX G d m_X6_readDigits Post 0 [some (.ref 25), none] [] M := wp_ok [(5, [true, false]), (105, [true, false])] ok_X6_readDigits tk_X6_readDigits 300 _ _ _ _ h
set_option maxRecDepth 100000 in
theorem g_X6_readDigits_5 {G : GG} {d : Nat} {Post : Option Value → PM → Prop} {M : PM} (h : br ((M.1 25 2) ≤ (M.1 25 4))
    (vp_in (M.1 25 3) 300 ∧ (br ((M.1 32 ((M.1 25 3).toNatClampNeg)) = (nI 48))
      (br (((M.1 25 4) - (M.1 25 3)) ≤ (nI 1))
        (PX G d m_X6_readDigits Post 105 [some (.ref 25), none] [.int (nI 0)] M)
        (PX G d m_X6_readDigits Post 105 [some (.ref 25), none] [.int (nI 1)] M))
      (PX G d m_X6_readDigits Post 105 [some (.ref 25), none] [.int (nI 0)] M)))
    (vp_in (M.1 25 4) 300 ∧ (PC G d m_X6_isDigit [.int (M.1 32 ((M.1 25 4).toNatClampNeg))] M (fun v N1 => gI v (fun r1 => br (r1 = 0)
      (vp_in (N1.1 25 3) 300 ∧ (br ((N1.1 32 ((N1.1 25 3).toNatClampNeg)) = (nI 48))
        (br (((N1.1 25 4) - (N1.1 25 3)) ≤ (nI 1))
          (PX G d m_X6_readDigits Post 105 [some (.ref 25), none] [.int (nI 0)] N1)
          (PX G d m_X6_readDigits Post 105 [some (.ref 25), none] [.int (nI 1)] N1))
        (PX G d m_X6_readDigits Post 105 [some (.ref 25), none] [.int (nI 0)] N1)))
      (vp_in (N1.1 25 4) 300 ∧ (PX G d m_X6_readDigits Post 5 [some (.ref 25), none] [] (wI (wI N1 25 6 (if ((((nI 10) * (N1.1 25 6)) + (N1.1 32 ((N1.1 25 4).toNatClampNeg))) - (nI 48)) < (nI 100) then ((((nI 10) * (N1.1 25 6)) + (N1.1 32 ((N1.1 25 4).toNatClampNeg))) - (nI 48)) else (nI 100))) 25 4 ((N1.1 25 4) + (nI 1)))))))))) :
  PX G d m_X6_readDigits Post 5 [some (.ref 25), none] [] M := wp_ok [(5, [true, false]), (105, [true, false])] ok_X6_readDigits tk_X6_readDigits 300 _ _ _ _ h
set_option maxRecDepth 100000 in
theorem g_X6_readDigits_105 {G : GG} {d : Nat} {Post : Option Value → PM → Prop} {M : PM} {y0 : Int32} (h : br (y0 = 0)
    (br ((M.1 25 6) ≤ (nI 99))
      (Post none (wI M 25 5 (nI 4)))
      (Post none (wI M 25 5 (nI 6))))
    (Post none (wI M 25 5 (nI 6)))) :
  PX G d m_X6_readDigits Post 105 [some (.ref 25), none] [.int y0] M := wp_ok [(5, [true, false]), (105, [true, false])] ok_X6_readDigits tk_X6_readDigits 300 _ _ _ _ h
set_option maxRecDepth 100000 in
theorem g_X6_isLetter_0 {G : GG} {d : Nat} {Post : Option Value → PM → Prop} {M : PM} {x0 : Int32} (h : br (x0 < (nI 97))
    (((nI 0) = 0 ∨ (nI 0) = 1) ∧ Post (some (.int (nI 0))) M)
    (br ((nI 122) < x0)
      (((nI 0) = 0 ∨ (nI 0) = 1) ∧ Post (some (.int (nI 0))) M)
      (((nI 1) = 0 ∨ (nI 1) = 1) ∧ Post (some (.int (nI 1))) M))) :
  PX G d m_X6_isLetter Post 0 [some (.int x0)] [] M := wp_ok [] ok_X6_isLetter tk_X6_isLetter 300 _ _ _ _ h
set_option maxRecDepth 100000 in
theorem g_X6_isDigit_0 {G : GG} {d : Nat} {Post : Option Value → PM → Prop} {M : PM} {x0 : Int32} (h : br (x0 < (nI 48))
    (((nI 0) = 0 ∨ (nI 0) = 1) ∧ Post (some (.int (nI 0))) M)
    (br ((nI 57) < x0)
      (((nI 0) = 0 ∨ (nI 0) = 1) ∧ Post (some (.int (nI 0))) M)
      (((nI 1) = 0 ∨ (nI 1) = 1) ∧ Post (some (.int (nI 1))) M))) :
  PX G d m_X6_isDigit Post 0 [some (.int x0)] [] M := wp_ok [] ok_X6_isDigit tk_X6_isDigit 300 _ _ _ _ h
set_option maxRecDepth 100000 in
theorem g_X7_begin_0 {G : GG} {d : Nat} {Post : Option Value → PM → Prop} {M : PM} {x1 : Int32} (h : ((nI 0) = 0 ∨ (nI 0) = 1) ∧ (Post none (wI (wI (wI M 44 6 x1) 44 7 (nI 0)) 44 9 (nI 0)))) :
  PX G d m_X7_begin Post 0 [some (.ref 44), some (.int x1)] [] M := wp_ok [] ok_X7_begin tk_X7_begin 300 _ _ _ _ h
set_option maxRecDepth 100000 in
theorem g_X7_hasStranger_0 {G : GG} {d : Nat} {Post : Option Value → PM → Prop} {M : PM} {x1 : Int32} (h : br (x1 < 0)
    (((nI 0) = 0 ∨ (nI 0) = 1) ∧ Post (some (.int (nI 0))) M)
    (br ((M.1 44 6) ≤ x1)
      (((nI 0) = 0 ∨ (nI 0) = 1) ∧ Post (some (.int (nI 0))) M)
      (((nI 1) = 0 ∨ (nI 1) = 1) ∧ Post (some (.int (nI 1))) M))) :
  PX G d m_X7_hasStranger Post 0 [some (.ref 44), some (.int x1)] [] M := wp_ok [] ok_X7_hasStranger tk_X7_hasStranger 300 _ _ _ _ h
set_option maxRecDepth 100000 in
theorem g_X7_addTrial_0 {G : GG} {d : Nat} {Post : Option Value → PM → Prop} {M : PM} {x1 : Int32} {x2 : Int32} {x3 : Int32} (h : br ((nI 12) ≤ (M.1 44 7))
    (Post none M)
    (vp_in (M.1 44 7) 12 ∧ (vp_in (M.1 44 7) 12 ∧ (vp_in (M.1 44 7) 12 ∧ (((nI 0) = 0 ∨ (nI 0) = 1) ∧ (Post none (wI (wI (wI (wI (wI M 45 ((M.1 44 7).toNatClampNeg) x1) 46 ((M.1 44 7).toNatClampNeg) x2) 47 ((M.1 44 7).toNatClampNeg) x3) 44 7 ((M.1 44 7) + (nI 1))) 44 9 (nI 0)))))))) :
  PX G d m_X7_addTrial Post 0 [some (.ref 44), some (.int x1), some (.int x2), some (.int x3)] [] M := wp_ok [] ok_X7_addTrial tk_X7_addTrial 300 _ _ _ _ h
set_option maxRecDepth 100000 in
theorem g_X7_fitting_0 {G : GG} {d : Nat} {Post : Option Value → PM → Prop} {M : PM} (h : PC G d m_X7_survey [.ref 44] M (fun v N1 => gN v (Post (some (.int (N1.1 44 8))) N1))) :
  PX G d m_X7_fitting Post 0 [some (.ref 44)] [] M := wp_ok [] ok_X7_fitting tk_X7_fitting 300 _ _ _ _ h
set_option maxRecDepth 100000 in
theorem g_X7_fittingWith_0 {G : GG} {d : Nat} {Post : Option Value → PM → Prop} {M : PM} {x1 : Int32} {x2 : Int32} (h : PC G d m_X7_survey [.ref 44] M (fun v N1 => gN v (vp_in ((x1 * (nI 7)) + x2) 35 ∧ (Post (some (.int (N1.1 49 (((x1 * (nI 7)) + x2).toNatClampNeg)))) N1)))) :
  PX G d m_X7_fittingWith Post 0 [some (.ref 44), some (.int x1), some (.int x2)] [] M := wp_ok [] ok_X7_fittingWith tk_X7_fittingWith 300 _ _ _ _ h
set_option maxRecDepth 100000 in
theorem g_X7_onlyWeight_0 {G : GG} {d : Nat} {Post : Option Value → PM → Prop} {M : PM} {x1 : Int32} (h : PX G d m_X7_onlyWeight Post 4 [some (.ref 44), some (.int x1), some (.int (nI 0)), some (.int (nI 1))] [] M) :
  PX G d m_X7_onlyWeight Post 0 [some (.ref 44), some (.int x1), none, none] [] M := wp_ok [(4, [true, true, true, true])] ok_X7_onlyWeight tk_X7_onlyWeight 300 _ _ _ _ h
set_option maxRecDepth 100000 in
theorem g_X7_onlyWeight_4 {G : GG} {d : Nat} {Post : Option Value → PM → Prop} {M : PM} {x1 : Int32} {x2 : Int32} {x3 : Int32} (h : br ((nI 6) < x3)
    (Post (some (.int x2)) M)
    (PC G d m_X7_fittingWith [.ref 44, .int x1, .int x3] M (fun v N1 => gI v (fun r1 => br (r1 ≤ 0)
      (PX G d m_X7_onlyWeight Post 4 [some (.ref 44), some (.int x1), some (.int x2), some (.int (x3 + nI 1))] [] N1)
      (br (x2 = 0)
        (PX G d m_X7_onlyWeight Post 4 [some (.ref 44), some (.int x1), some (.int x3), some (.int (x3 + nI 1))] [] N1)
        (Post (some (.int (nI 0))) N1)))))) :
  PX G d m_X7_onlyWeight Post 4 [some (.ref 44), some (.int x1), some (.int x2), some (.int x3)] [] M := wp_ok [(4, [true, true, true, true])] ok_X7_onlyWeight tk_X7_onlyWeight 300 _ _ _ _ h
set_option maxRecDepth 100000 in
theorem g_X7_bestPair_0 {G : GG} {d : Nat} {Post : Option Value → PM → Prop} {M : PM} (h : PX G d m_X7_bestPair Post 4 [some (.ref 44), some (.int (nI 1)), some (.int (nI 0)), none] [] M) :
  PX G d m_X7_bestPair Post 0 [some (.ref 44), none, none, none] [] M := wp_ok [(4, [true, true, true, false]), (16, [true, true, true, true])] ok_X7_bestPair tk_X7_bestPair 300 _ _ _ _ h
set_option maxRecDepth 100000 in
theorem g_X7_bestPair_4 {G : GG} {d : Nat} {Post : Option Value → PM → Prop} {M : PM} {x1 : Int32} {x2 : Int32} (h : br ((M.1 44 6) ≤ x2)
    (Post (some (.int x1)) M)
    (PX G d m_X7_bestPair Post 16 [some (.ref 44), some (.int x1), some (.int x2), some (.int (x2 + (nI 1)))] [] M)) :
  PX G d m_X7_bestPair Post 4 [some (.ref 44), some (.int x1), some (.int x2), none] [] M := wp_ok [(4, [true, true, true, false]), (16, [true, true, true, true])] ok_X7_bestPair tk_X7_bestPair 300 _ _ _ _ h
set_option maxRecDepth 100000 in
theorem g_X7_bestPair_16 {G : GG} {d : Nat} {Post : Option Value → PM → Prop} {M : PM} {x1 : Int32} {x2 : Int32} {x3 : Int32} (h : br ((M.1 44 6) ≤ x3)
    (PX G d m_X7_bestPair Post 4 [some (.ref 44), some (.int x1), some (.int (x2 + nI 1)), none] [] M)
    (PC G d m_X7_leftAtWorst [.ref 44, .int x2, .int x3] M (fun v N1 => gI v (fun r1 => ¬ (nI 10) = 0 ∧ (¬ (nI 10) = 0 ∧ (PC G d m_X7_leftAtWorst [.ref 44, .int (x1 / (nI 10)), .int (x1 - x1 / (nI 10) * (nI 10))] N1 (fun v N2 => gI v (fun r2 => br (r2 ≤ r1)
      (PX G d m_X7_bestPair Post 16 [some (.ref 44), some (.int x1), some (.int x2), some (.int (x3 + nI 1))] [] N2)
      (PX G d m_X7_bestPair Post 16 [some (.ref 44), some (.int (((nI 10) * x2) + x3)), some (.int x2), some (.int (x3 + nI 1))] [] N2))))))))) :
  PX G d m_X7_bestPair Post 16 [some (.ref 44), some (.int x1), some (.int x2), some (.int x3)] [] M := wp_ok [(4, [true, true, true, false]), (16, [true, true, true, true])] ok_X7_bestPair tk_X7_bestPair 300 _ _ _ _ h
set_option maxRecDepth 100000 in
theorem g_X7_leftAtWorst_0 {G : GG} {d : Nat} {Post : Option Value → PM → Prop} {M : PM} {x1 : Int32} {x2 : Int32} (h : PC G d m_X7_survey [.ref 44] M (fun v N1 => gN v (PC G d m_X7_outcomeCell [.int x1, .int x2, .int (nI 0)] N1 (fun v N2 => gI v (fun r2 => vp_in r2 75 ∧ (vp_in (r2 - (nI 1)) 75 ∧ (vp_in (r2 + (nI 1)) 75 ∧ (Post (some (.int (if (N2.1 50 r2.toNatClampNeg) < (if (N2.1 50 ((r2 - (nI 1)).toNatClampNeg)) < (N2.1 50 ((r2 + (nI 1)).toNatClampNeg)) then (N2.1 50 ((r2 + (nI 1)).toNatClampNeg)) else (N2.1 50 ((r2 - (nI 1)).toNatClampNeg))) then (if (N2.1 50 ((r2 - (nI 1)).toNatClampNeg)) < (N2.1 50 ((r2 + (nI 1)).toNatClampNeg)) then (N2.1 50 ((r2 + (nI 1)).toNatClampNeg)) else (N2.1 50 ((r2 - (nI 1)).toNatClampNeg))) else (N2.1 50 r2.toNatClampNeg)))) N2)))))))) :
  PX G d m_X7_leftAtWorst Post 0 [some (.ref 44), some (.int x1), some (.int x2), none] [] M := wp_ok [] ok_X7_leftAtWorst tk_X7_leftAtWorst 300 _ _ _ _ h
set_option maxRecDepth 100000 in
theorem g_X7_outcomeCell_0 {G : GG} {d : Nat} {Post : Option Value → PM → Prop} {M : PM} {x0 : Int32} {x1 : Int32} {x2 : Int32} (h : Post (some (.int (((((x0 * (nI 5)) + x1) * (nI 3)) + x2) + (nI 1)))) M) :
  PX G d m_X7_outcomeCell Post 0 [some (.int x0), some (.int x1), some (.int x2)] [] M := wp_ok [] ok_X7_outcomeCell tk_X7_outcomeCell 300 _ _ _ _ h
set_option maxRecDepth 100000 in
theorem g_X7_survey_0 {G : GG} {d : Nat} {Post : Option Value → PM → Prop} {M : PM} (h : br ((M.1 44 9) = 0)
    (((nI 1) = 0 ∨ (nI 1) = 1) ∧ (PC G d m_J7_fill_53178 [.ref 49, .int (nI 0)] (wI (wI M 44 9 (nI 1)) 44 8 (nI 0)) (fun v N1 => gN v (PC G d m_J7_fill_53178 [.ref 50, .int (nI 0)] N1 (fun v N2 => gN v (PC G d m_X7_guessFrom [.ref 44, .int (nI 0)] N2 (fun v N3 => gN v (Post none N3))))))))
    (Post none M)) :
  PX G d m_X7_survey Post 0 [some (.ref 44)] [] M := wp_ok [] ok_X7_survey tk_X7_survey 300 _ _ _ _ h
set_option maxRecDepth 100000 in
theorem g_X7_guessFrom_0 {G : GG} {d : Nat} {Post : Option Value → PM → Prop} {M : PM} {x1 : Int32} (h : br (x1 < (M.1 44 6))
    (PX G d m_X7_guessFrom Post 22 [some (.ref 44), some (.int x1), some (.int (nI 1))] [] M)
    (PC G d m_X7_guessFits [.ref 44] M (fun v N1 => gI v (fun r1 => br (r1 = 0)
      (Post none N1)
      (PC G d m_X7_tally [.ref 44] N1 (fun v N2 => gN v (Post none N2))))))) :
  PX G d m_X7_guessFrom Post 0 [some (.ref 44), some (.int x1), none] [] M := wp_ok [(22, [true, true, true])] ok_X7_guessFrom tk_X7_guessFrom 300 _ _ _ _ h
set_option maxRecDepth 100000 in
theorem g_X7_guessFrom_22 {G : GG} {d : Nat} {Post : Option Value → PM → Prop} {M : PM} {x1 : Int32} {x2 : Int32} (h : br ((nI 6) < x2)
    (Post none M)
    (vp_in x1 5 ∧ (PC G d m_X7_guessFrom [.ref 44, .int (x1 + (nI 1))] (wI M 48 x1.toNatClampNeg x2) (fun v N1 => gN v (PX G d m_X7_guessFrom Post 22 [some (.ref 44), some (.int x1), some (.int (x2 + nI 1))] [] N1))))) :
  PX G d m_X7_guessFrom Post 22 [some (.ref 44), some (.int x1), some (.int x2)] [] M := wp_ok [(22, [true, true, true])] ok_X7_guessFrom tk_X7_guessFrom 300 _ _ _ _ h
set_option maxRecDepth 100000 in
theorem g_X7_guessFits_0 {G : GG} {d : Nat} {Post : Option Value → PM → Prop} {M : PM} (h : PX G d m_X7_guessFits Post 2 [some (.ref 44), some (.int (nI 0))] [] M) :
  PX G d m_X7_guessFits Post 0 [some (.ref 44), none] [] M := wp_ok [(2, [true, true])] ok_X7_guessFits tk_X7_guessFits 300 _ _ _ _ h
set_option maxRecDepth 100000 in
theorem g_X7_guessFits_2 {G : GG} {d : Nat} {Post : Option Value → PM → Prop} {M : PM} {x1 : Int32} (h : br ((M.1 44 7) ≤ x1)
    (((nI 1) = 0 ∨ (nI 1) = 1) ∧ Post (some (.int (nI 1))) M)
    (vp_in x1 12 ∧ (vp_in (M.1 46 x1.toNatClampNeg) 5 ∧ (vp_in x1 12 ∧ (vp_in (M.1 45 x1.toNatClampNeg) 5 ∧ (PC G d m_J6_signum_0f7a4 [.int ((M.1 48 ((M.1 46 x1.toNatClampNeg).toNatClampNeg)) - (M.1 48 ((M.1 45 x1.toNatClampNeg).toNatClampNeg)))] M (fun v N1 => gI v (fun r1 => vp_in x1 12 ∧ (br (r1 = (N1.1 47 x1.toNatClampNeg))
      (PX G d m_X7_guessFits Post 2 [some (.ref 44), some (.int (x1 + nI 1))] [] N1)
      (((nI 0) = 0 ∨ (nI 0) = 1) ∧ Post (some (.int (nI 0))) N1)))))))))) :
  PX G d m_X7_guessFits Post 2 [some (.ref 44), some (.int x1)] [] M := wp_ok [(2, [true, true])] ok_X7_guessFits tk_X7_guessFits 300 _ _ _ _ h
set_option maxRecDepth 100000 in
theorem g_X7_tally_0 {G : GG} {d : Nat} {Post : Option Value → PM → Prop} {M : PM} (h : PX G d m_X7_tally Post 12 [some (.ref 44), some (.int (nI 0)), none] [] (wI M 44 8 ((M.1 44 8) + (nI 1)))) :
  PX G d m_X7_tally Post 0 [some (.ref 44), none, none] [] M := wp_ok [(12, [true, true, false]), (44, [true, true, true])] ok_X7_tally tk_X7_tally 300 _ _ _ _ h
set_option maxRecDepth 100000 in
theorem g_X7_tally_12 {G : GG} {d : Nat} {Post : Option Value → PM → Prop} {M : PM} {x1 : Int32} (h : br ((M.1 44 6) ≤ x1)
    (Post none M)
    (vp_in x1 5 ∧ (vp_in ((x1 * (nI 7)) + (M.1 48 x1.toNatClampNeg)) 35 ∧ (vp_in ((x1 * (nI 7)) + (M.1 48 x1.toNatClampNeg)) 35 ∧ (PX G d m_X7_tally Post 44 [some (.ref 44), some (.int x1), some (.int (x1 + (nI 1)))] [] (wI M 49 (((x1 * (nI 7)) + (M.1 48 x1.toNatClampNeg)).toNatClampNeg) ((M.1 49 (((x1 * (nI 7)) + (M.1 48 x1.toNatClampNeg)).toNatClampNeg)) + (nI 1)))))))) :
  PX G d m_X7_tally Post 12 [some (.ref 44), some (.int x1), none] [] M := wp_ok [(12, [true, true, false]), (44, [true, true, true])] ok_X7_tally tk_X7_tally 300 _ _ _ _ h
set_option maxRecDepth 100000 in
theorem g_X7_tally_44 {G : GG} {d : Nat} {Post : Option Value → PM → Prop} {M : PM} {x1 : Int32} {x2 : Int32} (h : br ((M.1 44 6) ≤ x2)
    (PX G d m_X7_tally Post 12 [some (.ref 44), some (.int (x1 + nI 1)), none] [] M)
    (vp_in x2 5 ∧ (vp_in x1 5 ∧ (PC G d m_J6_signum_0f7a4 [.int ((M.1 48 x2.toNatClampNeg) - (M.1 48 x1.toNatClampNeg))] M (fun v N1 => gI v (fun r1 => PC G d m_X7_outcomeCell [.int x1, .int x2, .int r1] N1 (fun v N2 => gI v (fun r2 => vp_in r2 75 ∧ (vp_in r2 75 ∧ (PX G d m_X7_tally Post 44 [some (.ref 44), some (.int x1), some (.int (x2 + nI 1))] [] (wI N2 50 r2.toNatClampNeg ((N2.1 50 r2.toNatClampNeg) + (nI 1))))))))))))) :
  PX G d m_X7_tally Post 44 [some (.ref 44), some (.int x1), some (.int x2)] [] M := wp_ok [(12, [true, true, false]), (44, [true, true, true])] ok_X7_tally tk_X7_tally 300 _ _ _ _ h
