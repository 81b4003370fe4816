set_option maxRecDepth 100000 in
theorem g_X8_type_0 {G : GG} {d : Nat} {Post : Option Value → PM → Prop} {M : PM} {x1 : Int64} {x3 : Int32} (h : br (x3 < (nI 1))
    (Post (some (.int (-1))) M)
    (br (x3 ≤ (nI 8))
      (br (((M.1 25 2) + x3) ≤ (nI 300))
        (PX G d m_X8_type Post 36 [some (.ref 0), some (.long x1), none, none, some (.int (x3 - (nI 1)))] [] M)
        (Post (some (.int (-3))) M))
      (Post (some (.int (-1))) M))) :
  PX G d m_X8_type Post 0 [some (.ref 0), some (.long x1), none, some (.int x3), none] [] M := wp_ok [(36, [true, true, false, false, true])] ok_X8_type tk_X8_type 300 _ _ _ _ h
set_option maxRecDepth 100000 in
theorem g_X8_type_36 {G : GG} {d : Nat} {Post : Option Value → PM → Prop} {M : PM} {x1 : Int64} {x4 : Int32} (h : br (x4 < 0)
    (Post (some (.int (M.1 25 2))) M)
    (PC G d m_X6_append [.ref 25, .int ((((x1.toUInt64 >>> (((nI 8) * x4).toInt64.toUInt64 &&& Int64.toUInt64 63)).toInt64) &&& 255).toInt32)] M (fun v N1 => gN v (PX G d m_X8_type Post 36 [some (.ref 0), some (.long x1), none, none, some (.int (x4 + (-1)))] [] N1)))) :
  PX G d m_X8_type Post 36 [some (.ref 0), some (.long x1), none, none, some (.int x4)] [] M := wp_ok [(36, [true, true, false, false, true])] ok_X8_type tk_X8_type 300 _ _ _ _ h
set_option maxRecDepth 100000 in
theorem g_X8_clear_0 {G : GG} {d : Nat} {Post : Option Value → PM → Prop} {M : PM} (h : Post (some (.int (M.1 25 2))) (wI M 25 2 (nI 0))) :
  PX G d m_X8_clear Post 0 [some (.ref 0), none] [] M := wp_ok [] ok_X8_clear tk_X8_clear 300 _ _ _ _ h
set_option maxRecDepth 100000 in
theorem g_X8_park_0 {G : GG} {d : Nat} {Post : Option Value → PM → Prop} {M : PM} (h : PC G d m_X6_readAll [.ref 25] M (fun v N1 => gI v (fun r1 => br (0 ≤ r1)
    (PC G d m_X3_copyFrom [.ref 1, .ref 26] N1 (fun v N2 => gN v (PC G d m_X4_reset [.ref 7] N2 (fun v N3 => gN v (((nI 0) = 0 ∨ (nI 0) = 1) ∧ (((nI 0) = 0 ∨ (nI 0) = 1) ∧ (Post (some (.int r1)) (wI (wI (wI N3 13 6 (nI 0)) 19 6 (nI 0)) 25 2 (nI 0)))))))))
    (Post (some (.int ((-10) - (N1.1 25 3)))) N1)))) :
  PX G d m_X8_park Post 0 [some (.ref 0), none] [] M := wp_ok [] ok_X8_park tk_X8_park 300 _ _ _ _ h
set_option maxRecDepth 100000 in
theorem g_X8_plank_0 {G : GG} {d : Nat} {Post : Option Value → PM → Prop} {M : PM} {x1 : Int32} {x2 : Int32} (h : PC G d m_X3_hasPlank [.ref 1, .int x1] M (fun v N1 => gI v (fun r1 => br (r1 = 0)
    (Post (some (.int (-1000000))) N1)
    ((x2 = 0 → vp_in x1 3 ∧ (Post (some (.int (N1.1 2 x1.toNatClampNeg))) N1)) ∧
    (x2 = 1 → vp_in x1 3 ∧ (Post (some (.int (N1.1 3 x1.toNatClampNeg))) N1)) ∧
    (x2 = 2 → PC G d m_X4_moment [.ref 7, .int x1] N1 (fun v N2 => gI v (fun r2 => Post (some (.int r2)) N2))) ∧
    (x2 = 3 → PC G d m_X4_tilt [.ref 7, .int x1] N1 (fun v N3 => gI v (fun r3 => Post (some (.int r3)) N3))) ∧
    (x2 = 4 → PC G d m_X4_childrenOn [.ref 7, .int x1] N1 (fun v N4 => gI v (fun r4 => PC G d m_J6_bitCount_0f7a4 [.int r4] N4 (fun v N5 => gI v (fun r5 => Post (some (.int r5)) N5))))) ∧
    ((x2.toInt < 0 ∨ 4 < x2.toInt) → Post (some (.int (-1000000))) N1))))) :
  PX G d m_X8_plank Post 0 [some (.ref 0), some (.int x1), some (.int x2)] [] M := wp_ok [] ok_X8_plank tk_X8_plank 300 _ _ _ _ h
set_option maxRecDepth 100000 in
theorem g_X8_child_0 {G : GG} {d : Nat} {Post : Option Value → PM → Prop} {M : PM} {x1 : Int32} {x2 : Int32} (h : PC G d m_X3_hasChild [.ref 1, .int x1] M (fun v N1 => gI v (fun r1 => br (r1 = 0)
    (Post (some (.int (-1000000))) N1)
    ((x2 = 0 → vp_in x1 8 ∧ (Post (some (.int (N1.1 4 x1.toNatClampNeg))) N1)) ∧
    (x2 = 1 → vp_in x1 8 ∧ (Post (some (.int (N1.1 5 x1.toNatClampNeg))) N1)) ∧
    (x2 = 2 → vp_in x1 8 ∧ (br ((N1.1 9 x1.toNatClampNeg) = 0)
        (Post (some (.int (-9))) N1)
        (vp_in x1 8 ∧ (Post (some (.int (N1.1 8 x1.toNatClampNeg))) N1)))) ∧
    (x2 = 3 → vp_in x1 8 ∧ (Post (some (.int (N1.1 9 x1.toNatClampNeg))) N1)) ∧
    (x2 = 4 → vp_in x1 8 ∧ (Post (some (.int (N1.1 10 x1.toNatClampNeg))) N1)) ∧
    ((x2.toInt < 0 ∨ 4 < x2.toInt) → Post (some (.int (-1000000))) N1))))) :
  PX G d m_X8_child Post 0 [some (.ref 0), some (.int x1), some (.int x2)] [] M := wp_ok [] ok_X8_child tk_X8_child 300 _ _ _ _ h
set_option maxRecDepth 100000 in
theorem g_X8_stone_0 {G : GG} {d : Nat} {Post : Option Value → PM → Prop} {M : PM} {x1 : Int32} {x2 : Int32} (h : PC G d m_X3_hasStone [.ref 1, .int x1] M (fun v N1 => gI v (fun r1 => br (r1 = 0)
    (Post (some (.int (-1000000))) N1)
    ((x2 = 0 → vp_in x1 5 ∧ (Post (some (.int (N1.1 6 x1.toNatClampNeg))) N1)) ∧
    (x2 = 1 → vp_in x1 5 ∧ (br ((N1.1 12 x1.toNatClampNeg) = 0)
        (Post (some (.int (-9))) N1)
        (vp_in x1 5 ∧ (Post (some (.int (N1.1 11 x1.toNatClampNeg))) N1)))) ∧
    (x2 = 2 → vp_in x1 5 ∧ (Post (some (.int (N1.1 12 x1.toNatClampNeg))) N1)) ∧
    ((x2.toInt < 0 ∨ 2 < x2.toInt) → Post (some (.int (-1000000))) N1))))) :
  PX G d m_X8_stone Post 0 [some (.ref 0), some (.int x1), some (.int x2)] [] M := wp_ok [] ok_X8_stone tk_X8_stone 300 _ _ _ _ h
set_option maxRecDepth 100000 in
theorem g_X8_sits_0 {G : GG} {d : Nat} {Post : Option Value → PM → Prop} {M : PM} {x1 : Int32} {x2 : Int32} {x3 : Int32} (h : PC G d m_X3_hasChild [.ref 1, .int x1] M (fun v N1 => gI v (fun r1 => br (r1 = 0)
    (Post (some (.int (-1))) N1)
    (PC G d m_X3_hasSeat [.ref 1, .int x2, .int x3] N1 (fun v N2 => gI v (fun r2 => br (r2 = 0)
      (Post (some (.int (-1))) N2)
      (PC G d m_X4_hasChildAt [.ref 7, .int x2, .int x3] N2 (fun v N3 => gI v (fun r3 => br (r3 = 0)
        (vp_in x1 8 ∧ (br ((N3.1 9 x1.toNatClampNeg) = 0)
          (PC G d m_X4_seatChild [.ref 7, .int x1, .int x2, .int x3] N3 (fun v N6 => gI v (fun r6 => Post (some (.int ((nI 0) + r6))) N6)))
          (PC G d m_X4_unseatChild [.ref 7, .int x1] N3 (fun v N4 => gI v (fun r4 => PC G d m_X4_seatChild [.ref 7, .int x1, .int x2, .int x3] N4 (fun v N5 => gI v (fun r5 => Post (some (.int (r4 + r5))) N5)))))))
        (Post (some (.int (-2))) N3)))))))))) :
  PX G d m_X8_sits Post 0 [some (.ref 0), some (.int x1), some (.int x2), some (.int x3), none] [] M := wp_ok [] ok_X8_sits tk_X8_sits 300 _ _ _ _ h
set_option maxRecDepth 100000 in
theorem g_X8_leaves_0 {G : GG} {d : Nat} {Post : Option Value → PM → Prop} {M : PM} {x1 : Int32} (h : PC G d m_X3_hasChild [.ref 1, .int x1] M (fun v N1 => gI v (fun r1 => br (r1 = 0)
    (Post (some (.int (-1))) N1)
    (vp_in x1 8 ∧ (br ((N1.1 9 x1.toNatClampNeg) = 0)
      (Post (some (.int (-2))) N1)
      (PC G d m_X4_unseatChild [.ref 7, .int x1] N1 (fun v N2 => gI v (fun r2 => Post (some (.int r2)) N2)))))))) :
  PX G d m_X8_leaves Post 0 [some (.ref 0), some (.int x1)] [] M := wp_ok [] ok_X8_leaves tk_X8_leaves 300 _ _ _ _ h
set_option maxRecDepth 100000 in
theorem g_X8_lay_0 {G : GG} {d : Nat} {Post : Option Value → PM → Prop} {M : PM} {x1 : Int32} {x2 : Int32} {x3 : Int32} (h : PC G d m_X3_hasStone [.ref 1, .int x1] M (fun v N1 => gI v (fun r1 => br (r1 = 0)
    (Post (some (.int (-1))) N1)
    (PC G d m_X3_hasSeat [.ref 1, .int x2, .int x3] N1 (fun v N2 => gI v (fun r2 => br (r2 = 0)
      (Post (some (.int (-1))) N2)
      (PC G d m_X4_hasStoneAt [.ref 7, .int x2, .int x3] N2 (fun v N3 => gI v (fun r3 => br (r3 = 0)
        (vp_in x1 5 ∧ (br ((N3.1 12 x1.toNatClampNeg) = 0)
          (PC G d m_X4_putStone [.ref 7, .int x1, .int x2, .int x3] N3 (fun v N6 => gI v (fun r6 => Post (some (.int ((nI 0) + r6))) N6)))
          (PC G d m_X4_liftStone [.ref 7, .int x1] N3 (fun v N4 => gI v (fun r4 => PC G d m_X4_putStone [.ref 7, .int x1, .int x2, .int x3] N4 (fun v N5 => gI v (fun r5 => Post (some (.int (r4 + r5))) N5)))))))
        (Post (some (.int (-2))) N3)))))))))) :
  PX G d m_X8_lay Post 0 [some (.ref 0), some (.int x1), some (.int x2), some (.int x3), none] [] M := wp_ok [] ok_X8_lay tk_X8_lay 300 _ _ _ _ h
set_option maxRecDepth 100000 in
theorem g_X8_take_0 {G : GG} {d : Nat} {Post : Option Value → PM → Prop} {M : PM} {x1 : Int32} (h : PC G d m_X3_hasStone [.ref 1, .int x1] M (fun v N1 => gI v (fun r1 => br (r1 = 0)
    (Post (some (.int (-1))) N1)
    (vp_in x1 5 ∧ (br ((N1.1 12 x1.toNatClampNeg) = 0)
      (Post (some (.int (-2))) N1)
      (PC G d m_X4_liftStone [.ref 7, .int x1] N1 (fun v N2 => gI v (fun r2 => Post (some (.int r2)) N2)))))))) :
  PX G d m_X8_take Post 0 [some (.ref 0), some (.int x1)] [] M := wp_ok [] ok_X8_take tk_X8_take 300 _ _ _ _ h
set_option maxRecDepth 100000 in
theorem g_X8_ways_0 {G : GG} {d : Nat} {Post : Option Value → PM → Prop} {M : PM} {x1 : Int32} {x2 : Int32} {x3 : Int32} (h : PC G d m_X3_hasPlank [.ref 1, .int x1] M (fun v N1 => gI v (fun r1 => br (r1 = 0)
    (Post (some (.int (-1000000))) N1)
    (br (x3 = (-1 : Int32))
      (PC G d m_X3_allChildren [.ref 1] N1 (fun v N2 => gI v (fun r2 => PC G d m_X8_askWays [.ref 0, .int x1, .int (x2 &&& r2)] N2 (fun v N3 => gN v (br (x3 = (-1 : Int32))
        (PC G d m_X5_countWays [.ref 33] N3 (fun v N7 => gI v (fun r7 => Post (some (.int r7)) N7)))
        (PC G d m_X5_findFirst [.ref 33] N3 (fun v N4 => gI v (fun r4 => br (r4 = 0)
          (Post (some (.int (-9))) N4)
          (br (((x2 &&& r2) &&& ((nI 1) <<< (x3 &&& 31))) = 0)
            (Post (some (.int (nI 0))) N4)
            (PC G d m_J6_bitCount_0f7a4 [.int ((x2 &&& r2) &&& (((nI 1) <<< (x3 &&& 31)) - (nI 1)))] N4 (fun v N5 => gI v (fun r5 => PC G d m_X5_chosenStep [.ref 33, .int r5] N5 (fun v N6 => gI v (fun r6 => Post (some (.int r6)) N6))))))))))))))
      (PC G d m_X3_hasChild [.ref 1, .int x3] N1 (fun v N8 => gI v (fun r8 => br (r8 = 0)
        (Post (some (.int (-1000000))) N8)
        (PC G d m_X3_allChildren [.ref 1] N8 (fun v N9 => gI v (fun r9 => PC G d m_X8_askWays [.ref 0, .int x1, .int (x2 &&& r9)] N9 (fun v N10 => gN v (br (x3 = (-1 : Int32))
          (PC G d m_X5_countWays [.ref 33] N10 (fun v N14 => gI v (fun r14 => Post (some (.int r14)) N14)))
          (PC G d m_X5_findFirst [.ref 33] N10 (fun v N11 => gI v (fun r11 => br (r11 = 0)
            (Post (some (.int (-9))) N11)
            (br (((x2 &&& r9) &&& ((nI 1) <<< (x3 &&& 31))) = 0)
              (Post (some (.int (nI 0))) N11)
              (PC G d m_J6_bitCount_0f7a4 [.int ((x2 &&& r9) &&& (((nI 1) <<< (x3 &&& 31)) - (nI 1)))] N11 (fun v N12 => gI v (fun r12 => PC G d m_X5_chosenStep [.ref 33, .int r12] N12 (fun v N13 => gI v (fun r13 => Post (some (.int r13)) N13))))))))))))))))))))) :
  PX G d m_X8_ways Post 0 [some (.ref 0), some (.int x1), some (.int x2), some (.int x3), none] [] M := wp_ok [] ok_X8_ways tk_X8_ways 300 _ _ _ _ h
set_option maxRecDepth 100000 in
theorem g_X8_most_0 {G : GG} {d : Nat} {Post : Option Value → PM → Prop} {M : PM} {x1 : Int32} {x2 : Int32} (h : PC G d m_X3_hasPlank [.ref 1, .int x1] M (fun v N1 => gI v (fun r1 => br (r1 = 0)
    (Post (some (.int (-1))) N1)
    (PC G d m_X8_isZeroOrOne [.int x2] N1 (fun v N2 => gI v (fun r2 => br (r2 = 0)
      (Post (some (.int (-1))) N2)
      (PC G d m_X1_spread [.ref 39, .ref 1, .int x1] N2 (fun v N3 => gN v (PC G d m_X4_stoneMoment [.ref 7, .int x1] N3 (fun v N4 => gI v (fun r4 => vp_in x1 3 ∧ (PC G d m_X1_largestLevel [.ref 39, .int (N3.1 1 6), .int r4, .int (N4.1 3 x1.toNatClampNeg)] N4 (fun v N5 => gI v (fun r5 => PC G d m_X8_countOrSet [.int r5, .int x2] N5 (fun v N6 => gI v (fun r6 => Post (some (.int r6)) N6)))))))))))))))) :
  PX G d m_X8_most Post 0 [some (.ref 0), some (.int x1), some (.int x2), none] [] M := wp_ok [] ok_X8_most tk_X8_most 300 _ _ _ _ h
set_option maxRecDepth 100000 in
theorem g_X8_moves_0 {G : GG} {d : Nat} {Post : Option Value → PM → Prop} {M : PM} {x1 : Int32} (h : PC G d m_X3_hasPlank [.ref 1, .int x1] M (fun v N1 => gI v (fun r1 => br (r1 = 0)
    (Post (some (.int (-1))) N1)
    (PC G d m_X4_childrenOn [.ref 7, .int x1] N1 (fun v N2 => gI v (fun r2 => PC G d m_X8_askWays [.ref 0, .int x1, .int r2] N2 (fun v N3 => gN v (PC G d m_X5_fewestChanges [.ref 33] N3 (fun v N4 => gI v (fun r4 => br (0 ≤ r4)
      (Post (some (.int r4)) N4)
      (Post (some (.int (-9))) N4))))))))))) :
  PX G d m_X8_moves Post 0 [some (.ref 0), some (.int x1), none] [] M := wp_ok [] ok_X8_moves tk_X8_moves 300 _ _ _ _ h
set_option maxRecDepth 100000 in
theorem g_X8_ballast_0 {G : GG} {d : Nat} {Post : Option Value → PM → Prop} {M : PM} {x1 : Int32} {x2 : Int32} (h : PC G d m_X3_hasPlank [.ref 1, .int x1] M (fun v N1 => gI v (fun r1 => br (r1 = 0)
    (Post (some (.int (-1))) N1)
    (PC G d m_X8_isZeroOrOne [.int x2] N1 (fun v N2 => gI v (fun r2 => br (r2 = 0)
      (Post (some (.int (-1))) N2)
      (PC G d m_X8_leastBallast [.ref 0, .int x1] N2 (fun v N3 => gI v (fun r3 => PC G d m_X8_countOrSet [.int r3, .int x2] N3 (fun v N4 => gI v (fun r4 => Post (some (.int r4)) N4))))))))))) :
  PX G d m_X8_ballast Post 0 [some (.ref 0), some (.int x1), some (.int x2)] [] M := wp_ok [] ok_X8_ballast tk_X8_ballast 300 _ _ _ _ h
set_option maxRecDepth 100000 in
theorem g_X8_game_0 {G : GG} {d : Nat} {Post : Option Value → PM → Prop} {M : PM} {x1 : Int32} {x2 : Int32} (h : PC G d m_X3_hasPlank [.ref 1, .int x1] M (fun v N1 => gI v (fun r1 => br (r1 = 0)
    (Post (some (.int (-1))) N1)
    (PC G d m_X8_isZeroOrOne [.int x2] N1 (fun v N2 => gI v (fun r2 => br (r2 = 0)
      (Post (some (.int (-1))) N2)
      (PC G d m_X4_idleChildren [.ref 7] N2 (fun v N3 => gI v (fun r3 => PC G d m_J6_bitCount_0f7a4 [.int r3] N3 (fun v N4 => gI v (fun r4 => br ((nI 4) < r4)
        (Post (some (.int (-2))) N4)
        (PC G d m_X4_tilt [.ref 7, .int x1] N4 (fun v N5 => gI v (fun r5 => br (r5 = 0)
          (PC G d m_X0_begin [.ref 41, .ref 1, .ref 7, .int x1] N5 (fun v N6 => gN v (PC G d m_X4_moment [.ref 7, .int x1] N6 (fun v N7 => gI v (fun r7 => PC G d m_X0_winningMove [.ref 41, .int r3, .int r7] N7 (fun v N8 => gI v (fun r8 => br (x2 = 0)
            (br (0 ≤ r8)
              (Post (some (.int (nI 1))) N8)
              (Post (some (.int (nI 0))) N8))
            (br (0 ≤ r8)
              (Post (some (.int r8)) N8)
              (Post (some (.int (-9))) N8)))))))))
          (Post (some (.int (-2))) N5))))))))))))))) :
  PX G d m_X8_game Post 0 [some (.ref 0), some (.int x1), some (.int x2), none, none] [] M := wp_ok [] ok_X8_game tk_X8_game 300 _ _ _ _ h
set_option maxRecDepth 100000 in
theorem g_X8_strangers_0 {G : GG} {d : Nat} {Post : Option Value → PM → Prop} {M : PM} {x1 : Int32} (h : br (x1 < (nI 2))
    (Post (some (.int (-1))) M)
    (br (x1 ≤ (nI 5))
      (PC G d m_X7_begin [.ref 44, .int x1] M (fun v N1 => gN v (Post (some (.int (M.1 44 6))) N1)))
      (Post (some (.int (-1))) M))) :
  PX G d m_X8_strangers Post 0 [some (.ref 0), some (.int x1), none] [] M := wp_ok [] ok_X8_strangers tk_X8_strangers 300 _ _ _ _ h
set_option maxRecDepth 100000 in
theorem g_X8_trial_0 {G : GG} {d : Nat} {Post : Option Value → PM → Prop} {M : PM} {x1 : Int32} {x2 : Int32} {x3 : Int32} (h : PC G d m_X7_hasStranger [.ref 44, .int x1] M (fun v N1 => gI v (fun r1 => br (r1 = 0)
    (Post (some (.int (-1))) N1)
    (PC G d m_X7_hasStranger [.ref 44, .int x2] N1 (fun v N2 => gI v (fun r2 => br (r2 = 0)
      (Post (some (.int (-1))) N2)
      (br (x1 = x2)
        (Post (some (.int (-1))) N2)
        (br (x3 < (-1 : Int32))
          (Post (some (.int (-1))) N2)
          (br (x3 ≤ (nI 1))
            (br ((N2.1 44 7) < (nI 12))
              (PC G d m_X7_addTrial [.ref 44, .int x1, .int x2, .int x3] N2 (fun v N3 => gN v (Post (some (.int (N3.1 44 7))) N3)))
              (Post (some (.int (-3))) N2))
            (Post (some (.int (-1))) N2)))))))))) :
  PX G d m_X8_trial Post 0 [some (.ref 0), some (.int x1), some (.int x2), some (.int x3)] [] M := wp_ok [] ok_X8_trial tk_X8_trial 300 _ _ _ _ h
set_option maxRecDepth 100000 in
theorem g_X8_could_0 {G : GG} {d : Nat} {Post : Option Value → PM → Prop} {M : PM} {x1 : Int32} {x2 : Int32} (h : br (x1 = (-1 : Int32))
    (br (x2 < (nI 1))
      (Post (some (.int (-1))) M)
      (br (x2 ≤ (nI 6))
        (br (x1 = (-1 : Int32))
          (PC G d m_X7_fitting [.ref 44] M (fun v N2 => gI v (fun r2 => Post (some (.int r2)) N2)))
          (PC G d m_X7_fittingWith [.ref 44, .int x1, .int x2] M (fun v N1 => gI v (fun r1 => Post (some (.int r1)) N1))))
        (Post (some (.int (-1))) M)))
    (PC G d m_X7_hasStranger [.ref 44, .int x1] M (fun v N3 => gI v (fun r3 => br (r3 = 0)
      (Post (some (.int (-1))) N3)
      (br (x2 < (nI 1))
        (Post (some (.int (-1))) N3)
        (br (x2 ≤ (nI 6))
          (br (x1 = (-1 : Int32))
            (PC G d m_X7_fitting [.ref 44] N3 (fun v N5 => gI v (fun r5 => Post (some (.int r5)) N5)))
            (PC G d m_X7_fittingWith [.ref 44, .int x1, .int x2] N3 (fun v N4 => gI v (fun r4 => Post (some (.int r4)) N4))))
          (Post (some (.int (-1))) N3))))))) :
  PX G d m_X8_could Post 0 [some (.ref 0), some (.int x1), some (.int x2)] [] M := wp_ok [] ok_X8_could tk_X8_could 300 _ _ _ _ h
set_option maxRecDepth 100000 in
theorem g_X8_sure_0 {G : GG} {d : Nat} {Post : Option Value → PM → Prop} {M : PM} {x1 : Int32} (h : PC G d m_X7_hasStranger [.ref 44, .int x1] M (fun v N1 => gI v (fun r1 => br (r1 = 0)
    (Post (some (.int (-1))) N1)
    (PC G d m_X7_onlyWeight [.ref 44, .int x1] N1 (fun v N2 => gI v (fun r2 => br (r2 = 0)
      (Post (some (.int (-9))) N2)
      (Post (some (.int r2)) N2))))))) :
  PX G d m_X8_sure Post 0 [some (.ref 0), some (.int x1), none] [] M := wp_ok [] ok_X8_sure tk_X8_sure 300 _ _ _ _ h
set_option maxRecDepth 100000 in
theorem g_X8_next_0 {G : GG} {d : Nat} {Post : Option Value → PM → Prop} {M : PM} {x1 : Int32} (h : PC G d m_X8_isZeroOrOne [.int x1] M (fun v N1 => gI v (fun r1 => br (r1 = 0)
    (Post (some (.int (-1))) N1)
    (PC G d m_X7_bestPair [.ref 44] N1 (fun v N2 => gI v (fun r2 => br (x1 = 0)
      (Post (some (.int r2)) N2)
      (¬ (nI 10) = 0 ∧ (¬ (nI 10) = 0 ∧ (PC G d m_X7_leftAtWorst [.ref 44, .int (r2 / (nI 10)), .int (r2 - r2 / (nI 10) * (nI 10))] N2 (fun v N3 => gI v (fun r3 => Post (some (.int r3)) N3))))))))))) :
  PX G d m_X8_next Post 0 [some (.ref 0), some (.int x1), none] [] M := wp_ok [] ok_X8_next tk_X8_next 300 _ _ _ _ h
set_option maxRecDepth 100000 in
theorem g_X8_rides_0 {G : GG} {d : Nat} {Post : Option Value → PM → Prop} {M : PM} {x1 : Int32} {x2 : Int32} (h : br (x1 < 0)
    (Post (some (.int (-1))) M)
    (br ((nI 99) < x1)
      (Post (some (.int (-1))) M)
      (br (x2 = (-1 : Int32))
        (PC G d m_X2_run [.ref 51, .int x1] M (fun v N1 => gN v (br (x2 = (-1 : Int32))
          (Post (some (.int (N1.1 51 5))) N1)
          (vp_in x2 8 ∧ (Post (some (.int (N1.1 52 x2.toNatClampNeg))) N1)))))
        (PC G d m_X3_hasChild [.ref 1, .int x2] M (fun v N2 => gI v (fun r2 => br (r2 = 0)
          (Post (some (.int (-1))) N2)
          (PC G d m_X2_run [.ref 51, .int x1] N2 (fun v N3 => gN v (br (x2 = (-1 : Int32))
            (Post (some (.int (N3.1 51 5))) N3)
            (vp_in x2 8 ∧ (Post (some (.int (N3.1 52 x2.toNatClampNeg))) N3))))))))))) :
  PX G d m_X8_rides Post 0 [some (.ref 0), some (.int x1), some (.int x2)] [] M := wp_ok [] ok_X8_rides tk_X8_rides 300 _ _ _ _ h
set_option maxRecDepth 100000 in
theorem g_X8_forever_0 {G : GG} {d : Nat} {Post : Option Value → PM → Prop} {M : PM} (h : PX G d m_X8_forever Post 4 [some (.ref 0), some (.int (nI 0)), some (.int (nI 0))] [] M) :
  PX G d m_X8_forever Post 0 [some (.ref 0), none, none] [] M := wp_ok [(4, [true, true, true])] ok_X8_forever tk_X8_forever 300 _ _ _ _ h
set_option maxRecDepth 100000 in
theorem g_X8_forever_4 {G : GG} {d : Nat} {Post : Option Value → PM → Prop} {M : PM} {x1 : Int32} {x2 : Int32} (h : br ((M.1 1 6) ≤ x2)
    (Post (some (.int x1)) M)
    (PC G d m_X8_hasPartner [.ref 0, .int x2] M (fun v N1 => gI v (fun r1 => br (r1 = 0)
      (PX G d m_X8_forever Post 4 [some (.ref 0), some (.int (x1 ||| ((nI 1) <<< (x2 &&& 31)))), some (.int (x2 + nI 1))] [] N1)
      (PX G d m_X8_forever Post 4 [some (.ref 0), some (.int x1), some (.int (x2 + nI 1))] [] N1))))) :
  PX G d m_X8_forever Post 4 [some (.ref 0), some (.int x1), some (.int x2)] [] M := wp_ok [(4, [true, true, true])] ok_X8_forever tk_X8_forever 300 _ _ _ _ h
set_option maxRecDepth 100000 in
theorem g_X8_rate_0 {G : GG} {d : Nat} {Post : Option Value → PM → Prop} {M : PM} {x1 : Int32} {x2 : Int32} (h : br (x1 < 0)
    (Post (some (.int (-1000000))) M)
    (br ((nI 5) < x1)
      (Post (some (.int (-1000000))) M)
      (PC G d m_X3_hasChild [.ref 1, .int x2] M (fun v N1 => gI v (fun r1 => br (r1 = 0)
        (Post (some (.int (-1000000))) N1)
        (PC G d m_X8_rateAs [.ref 0, .int x1, .int x2, .int (nI 0)] N1 (fun v N2 => gI v (fun r2 => Post (some (.int r2)) N2)))))))) :
  PX G d m_X8_rate Post 0 [some (.ref 0), some (.int x1), some (.int x2)] [] M := wp_ok [] ok_X8_rate tk_X8_rate 300 _ _ _ _ h
set_option maxRecDepth 100000 in
theorem g_X8_keep_0 {G : GG} {d : Nat} {Post : Option Value → PM → Prop} {M : PM} {x1 : Int32} (h : PC G d m_X8_isZeroOrOne [.int x1] M (fun v N1 => gI v (fun r1 => br (r1 = 0)
    (Post (some (.int (-1))) N1)
    (PC G d m_X8_imageOf [.ref 0, .int x1] N1 (fun v N2 => gR v (fun r2 => PX G d m_X8_keep Post 14 [some (.ref 0), none, none] [.ref r2] N2)))))) :
  PX G d m_X8_keep Post 0 [some (.ref 0), some (.int x1), none] [] M := wp_ok [(14, [true, false, false])] ok_X8_keep tk_X8_keep 300 _ _ _ _ h
set_option maxRecDepth 100000 in
theorem g_X8_keep_14_13 {G : GG} {d : Nat} {Post : Option Value → PM → Prop} {M : PM} (h : PC G d m_X4_copyFrom [.ref 13, .ref 7] M (fun v N1 => gN v (((nI 1) = 0 ∨ (nI 1) = 1) ∧ (PC G d m_X4_seatedChildren [.ref 7] (wI N1 13 6 (nI 1)) (fun v N2 => gI v (fun r2 => Post (some (.int r2)) N2)))))) :
  PX G d m_X8_keep Post 14 [some (.ref 0), none, none] [.ref 13] M := wp_ok [(14, [true, false, false])] ok_X8_keep tk_X8_keep 300 _ _ _ _ h
set_option maxRecDepth 100000 in
theorem g_X8_keep_14_19 {G : GG} {d : Nat} {Post : Option Value → PM → Prop} {M : PM} (h : PC G d m_X4_copyFrom [.ref 19, .ref 7] M (fun v N1 => gN v (((nI 1) = 0 ∨ (nI 1) = 1) ∧ (PC G d m_X4_seatedChildren [.ref 7] (wI N1 19 6 (nI 1)) (fun v N2 => gI v (fun r2 => Post (some (.int r2)) N2)))))) :
  PX G d m_X8_keep Post 14 [some (.ref 0), none, none] [.ref 19] M := wp_ok [(14, [true, false, false])] ok_X8_keep tk_X8_keep 300 _ _ _ _ h
set_option maxRecDepth 100000 in
theorem g_X8_back_0 {G : GG} {d : Nat} {Post : Option Value → PM → Prop} {M : PM} {x1 : Int32} (h : PC G d m_X8_isZeroOrOne [.int x1] M (fun v N1 => gI v (fun r1 => br (r1 = 0)
    (Post (some (.int (-1))) N1)
    (PC G d m_X8_imageOf [.ref 0, .int x1] N1 (fun v N2 => gR v (fun r2 => PX G d m_X8_back Post 14 [some (.ref 0), none, none] [.ref r2] N2)))))) :
  PX G d m_X8_back Post 0 [some (.ref 0), some (.int x1), none] [] M := wp_ok [(14, [true, false, false])] ok_X8_back tk_X8_back 300 _ _ _ _ h
set_option maxRecDepth 100000 in
theorem g_X8_back_14_13 {G : GG} {d : Nat} {Post : Option Value → PM → Prop} {M : PM} (h : br ((M.1 13 6) = 0)
    (Post (some (.int (-2))) M)
    (PC G d m_X4_copyFrom [.ref 7, .ref 13] M (fun v N1 => gN v (PC G d m_X4_seatedChildren [.ref 7] N1 (fun v N2 => gI v (fun r2 => Post (some (.int r2)) N2)))))) :
  PX G d m_X8_back Post 14 [some (.ref 0), none, none] [.ref 13] M := wp_ok [(14, [true, false, false])] ok_X8_back tk_X8_back 300 _ _ _ _ h
set_option maxRecDepth 100000 in
theorem g_X8_back_14_19 {G : GG} {d : Nat} {Post : Option Value → PM → Prop} {M : PM} (h : br ((M.1 19 6) = 0)
    (Post (some (.int (-2))) M)
    (PC G d m_X4_copyFrom [.ref 7, .ref 19] M (fun v N1 => gN v (PC G d m_X4_seatedChildren [.ref 7] N1 (fun v N2 => gI v (fun r2 => Post (some (.int r2)) N2)))))) :
  PX G d m_X8_back Post 14 [some (.ref 0), none, none] [.ref 19] M := wp_ok [(14, [true, false, false])] ok_X8_back tk_X8_back 300 _ _ _ _ h
set_option maxRecDepth 100000 in
theorem g_X8_count_0 {G : GG} {d : Nat} {Post : Option Value → PM → Prop} {M : PM} {x1 : Int32} (h : (x1 = 0 → Post (some (.int (M.1 1 5))) M) ∧
  (x1 = 1 → Post (some (.int (M.1 1 6))) M) ∧
  (x1 = 2 → Post (some (.int (M.1 1 7))) M) ∧
  (x1 = 3 → Post (some (.int (M.1 44 7))) M) ∧
  (x1 = 4 → Post (some (.int (M.1 44 6))) M) ∧
  (x1 = 5 → Post (some (.int (M.1 25 2))) M) ∧
  (x1 = 6 → PC G d m_X4_seatedChildren [.ref 7] M (fun v N1 => gI v (fun r1 => Post (some (.int r1)) N1))) ∧
  ((x1.toInt < 0 ∨ 6 < x1.toInt) → Post (some (.int (-1))) M)) :
  PX G d m_X8_count Post 0 [some (.ref 0), some (.int x1)] [] M := wp_ok [] ok_X8_count tk_X8_count 300 _ _ _ _ h
set_option maxRecDepth 100000 in
theorem g_X8_trace_0 {G : GG} {d : Nat} {Post : Option Value → PM → Prop} {M : PM} (h : Post (some (.long (M.2 0 10))) M) :
  PX G d m_X8_trace Post 0 [some (.ref 0)] [] M := wp_ok [] ok_X8_trace tk_X8_trace 300 _ _ _ _ h
set_option maxRecDepth 100000 in
theorem g_X8_isZeroOrOne_0 {G : GG} {d : Nat} {Post : Option Value → PM → Prop} {M : PM} {x0 : Int32} (h : br (x0 = 0)
    (((nI 1) = 0 ∨ (nI 1) = 1) ∧ Post (some (.int (nI 1))) M)
    (br (x0 = (nI 1))
      (((nI 1) = 0 ∨ (nI 1) = 1) ∧ Post (some (.int (nI 1))) M)
      (((nI 0) = 0 ∨ (nI 0) = 1) ∧ Post (some (.int (nI 0))) M))) :
  PX G d m_X8_isZeroOrOne Post 0 [some (.int x0)] [] M := wp_ok [] ok_X8_isZeroOrOne tk_X8_isZeroOrOne 300 _ _ _ _ h
set_option maxRecDepth 100000 in
theorem g_X8_stepOfSeat_0 {G : GG} {d : Nat} {Post : Option Value → PM → Prop} {M : PM} {x0 : Int32} {x1 : Int32} (h : br (x1 ≤ x0)
    (Post (some (.int ((x0 - x1) + (nI 1)))) M)
    (Post (some (.int (x0 - x1))) M)) :
  PX G d m_X8_stepOfSeat Post 0 [some (.int x0), some (.int x1)] [] M := wp_ok [] ok_X8_stepOfSeat tk_X8_stepOfSeat 300 _ _ _ _ h
set_option maxRecDepth 100000 in
theorem g_X8_countOrSet_0 {G : GG} {d : Nat} {Post : Option Value → PM → Prop} {M : PM} {x0 : Int32} {x1 : Int32} (h : br (0 ≤ x0)
    (br (x1 = 0)
      (PC G d m_J6_bitCount_0f7a4 [.int x0] M (fun v N1 => gI v (fun r1 => Post (some (.int r1)) N1)))
      (Post (some (.int x0)) M))
    (Post (some (.int (-9))) M)) :
  PX G d m_X8_countOrSet Post 0 [some (.int x0), some (.int x1)] [] M := wp_ok [] ok_X8_countOrSet tk_X8_countOrSet 300 _ _ _ _ h
set_option maxRecDepth 100000 in
theorem g_X8_imageOf_0 {G : GG} {d : Nat} {Post : Option Value → PM → Prop} {M : PM} {x1 : Int32} (h : br (x1 = 0)
    (Post (some (.ref 13)) M)
    (Post (some (.ref 19)) M)) :
  PX G d m_X8_imageOf Post 0 [some (.ref 0), some (.int x1)] [] M := wp_ok [] ok_X8_imageOf tk_X8_imageOf 300 _ _ _ _ h
set_option maxRecDepth 100000 in
theorem g_X8_askWays_0 {G : GG} {d : Nat} {Post : Option Value → PM → Prop} {M : PM} {x1 : Int32} {x2 : Int32} (h : PC G d m_X4_stoneMoment [.ref 7, .int x1] M (fun v N1 => gI v (fun r1 => vp_in x1 3 ∧ (PC G d m_X5_begin [.ref 33, .int r1, .int (N1.1 3 x1.toNatClampNeg)] N1 (fun v N2 => gN v (vp_in x1 3 ∧ (PX G d m_X8_askWays Post 37 [some (.ref 0), none, some (.int x2), some (.int (N2.1 2 x1.toNatClampNeg)), some (.int (nI 0))] [] N2))))))) :
  PX G d m_X8_askWays Post 0 [some (.ref 0), some (.int x1), some (.int x2), none, none] [] M := wp_ok [(37, [true, false, true, true, true]), (67, [true, false, true, false, true])] ok_X8_askWays tk_X8_askWays 300 _ _ _ _ h
set_option maxRecDepth 100000 in
theorem g_X8_askWays_37 {G : GG} {d : Nat} {Post : Option Value → PM → Prop} {M : PM} {x2 : Int32} {x3 : Int32} {x4 : Int32} (h : br (((nI 2) * x3) ≤ x4)
    (PX G d m_X8_askWays Post 67 [some (.ref 0), none, some (.int x2), none, some (.int (nI 0))] [] M)
    (PC G d m_X8_stepOfSeat [.int x4, .int x3] M (fun v N1 => gI v (fun r1 => PC G d m_X5_addSeat [.ref 33, .int r1] N1 (fun v N2 => gN v (PX G d m_X8_askWays Post 37 [some (.ref 0), none, some (.int x2), some (.int x3), some (.int (x4 + nI 1))] [] N2)))))) :
  PX G d m_X8_askWays Post 37 [some (.ref 0), none, some (.int x2), some (.int x3), some (.int x4)] [] M := wp_ok [(37, [true, false, true, true, true]), (67, [true, false, true, false, true])] ok_X8_askWays tk_X8_askWays 300 _ _ _ _ h
set_option maxRecDepth 100000 in
theorem g_X8_askWays_67 {G : GG} {d : Nat} {Post : Option Value → PM → Prop} {M : PM} {x2 : Int32} {x4 : Int32} (h : br ((M.1 1 6) ≤ x4)
    (Post none M)
    (br ((x2 &&& ((nI 1) <<< (x4 &&& 31))) = 0)
      (PX G d m_X8_askWays Post 67 [some (.ref 0), none, some (.int x2), none, some (.int (x4 + nI 1))] [] M)
      (vp_in x4 8 ∧ (vp_in x4 8 ∧ (PC G d m_X5_addBody [.ref 33, .int (M.1 4 x4.toNatClampNeg), .int (M.1 9 x4.toNatClampNeg)] M (fun v N1 => gN v (PX G d m_X8_askWays Post 67 [some (.ref 0), none, some (.int x2), none, some (.int (x4 + nI 1))] [] N1))))))) :
  PX G d m_X8_askWays Post 67 [some (.ref 0), none, some (.int x2), none, some (.int x4)] [] M := wp_ok [(37, [true, false, true, true, true]), (67, [true, false, true, false, true])] ok_X8_askWays tk_X8_askWays 300 _ _ _ _ h
set_option maxRecDepth 100000 in
theorem g_X8_leastBallast_0 {G : GG} {d : Nat} {Post : Option Value → PM → Prop} {M : PM} {x1 : Int32} (h : PC G d m_X4_idleStones [.ref 7] M (fun v N1 => gI v (fun r1 => PX G d m_X8_leastBallast Post 10 [some (.ref 0), some (.int x1), some (.int r1), some (.int (nI 0)), none] [] N1))) :
  PX G d m_X8_leastBallast Post 0 [some (.ref 0), some (.int x1), none, none, none] [] M := wp_ok [(10, [true, true, true, true, false]), (24, [true, true, true, true, true])] ok_X8_leastBallast tk_X8_leastBallast 300 _ _ _ _ h
set_option maxRecDepth 100000 in
theorem g_X8_leastBallast_10 {G : GG} {d : Nat} {Post : Option Value → PM → Prop} {M : PM} {x1 : Int32} {x2 : Int32} {x3 : Int32} (h : br ((M.1 1 7) < x3)
    (Post (some (.int (-1))) M)
    (PX G d m_X8_leastBallast Post 24 [some (.ref 0), some (.int x1), some (.int x2), some (.int x3), some (.int (nI 0))] [] M)) :
  PX G d m_X8_leastBallast Post 10 [some (.ref 0), some (.int x1), some (.int x2), some (.int x3), none] [] M := wp_ok [(10, [true, true, true, true, false]), (24, [true, true, true, true, true])] ok_X8_leastBallast tk_X8_leastBallast 300 _ _ _ _ h
set_option maxRecDepth 100000 in
theorem g_X8_leastBallast_24 {G : GG} {d : Nat} {Post : Option Value → PM → Prop} {M : PM} {x1 : Int32} {x2 : Int32} {x3 : Int32} {x4 : Int32} (h : br (((nI 1) <<< ((M.1 1 7) &&& 31)) ≤ x4)
    (PX G d m_X8_leastBallast Post 10 [some (.ref 0), some (.int x1), some (.int x2), some (.int (x3 + nI 1)), none] [] M)
    (PC G d m_J6_bitCount_0f7a4 [.int x4] M (fun v N1 => gI v (fun r1 => br (r1 = x3)
      (br ((x4 &&& (x2 ^^^ (-1))) = 0)
        (PC G d m_X8_canBallast [.ref 0, .int x1, .int x4] N1 (fun v N2 => gI v (fun r2 => br (r2 = 0)
          (PX G d m_X8_leastBallast Post 24 [some (.ref 0), some (.int x1), some (.int x2), some (.int x3), some (.int (x4 + nI 1))] [] N2)
          (Post (some (.int x4)) N2))))
        (PX G d m_X8_leastBallast Post 24 [some (.ref 0), some (.int x1), some (.int x2), some (.int x3), some (.int (x4 + nI 1))] [] N1))
      (PX G d m_X8_leastBallast Post 24 [some (.ref 0), some (.int x1), some (.int x2), some (.int x3), some (.int (x4 + nI 1))] [] N1))))) :
  PX G d m_X8_leastBallast Post 24 [some (.ref 0), some (.int x1), some (.int x2), some (.int x3), some (.int x4)] [] M := wp_ok [(10, [true, true, true, true, false]), (24, [true, true, true, true, true])] ok_X8_leastBallast tk_X8_leastBallast 300 _ _ _ _ h
set_option maxRecDepth 100000 in
theorem g_X8_canBallast_0 {G : GG} {d : Nat} {Post : Option Value → PM → Prop} {M : PM} {x1 : Int32} {x2 : Int32} (h : PC G d m_X4_moment [.ref 7, .int x1] M (fun v N1 => gI v (fun r1 => vp_in x1 3 ∧ (PC G d m_X5_begin [.ref 33, .int r1, .int (N1.1 3 x1.toNatClampNeg)] N1 (fun v N2 => gN v (vp_in x1 3 ∧ (PX G d m_X8_canBallast Post 37 [some (.ref 0), some (.int x1), some (.int x2), some (.int (N2.1 2 x1.toNatClampNeg)), some (.int (nI 0)), none] [] N2))))))) :
  PX G d m_X8_canBallast Post 0 [some (.ref 0), some (.int x1), some (.int x2), none, none, none] [] M := wp_ok [(37, [true, true, true, true, true, false]), (84, [true, false, true, false, true, false])] ok_X8_canBallast tk_X8_canBallast 300 _ _ _ _ h
set_option maxRecDepth 100000 in
theorem g_X8_canBallast_37 {G : GG} {d : Nat} {Post : Option Value → PM → Prop} {M : PM} {x1 : Int32} {x2 : Int32} {x3 : Int32} {x4 : Int32} (h : br (((nI 2) * x3) ≤ x4)
    (PX G d m_X8_canBallast Post 84 [some (.ref 0), none, some (.int x2), none, some (.int (nI 0)), none] [] M)
    (PC G d m_X8_stepOfSeat [.int x4, .int x3] M (fun v N1 => gI v (fun r1 => PC G d m_X4_hasStoneAt [.ref 7, .int x1, .int r1] N1 (fun v N2 => gI v (fun r2 => br (r2 = 0)
      (PC G d m_X5_addSeat [.ref 33, .int r1] N2 (fun v N3 => gN v (PX G d m_X8_canBallast Post 37 [some (.ref 0), some (.int x1), some (.int x2), some (.int x3), some (.int (x4 + nI 1)), none] [] N3)))
      (PX G d m_X8_canBallast Post 37 [some (.ref 0), some (.int x1), some (.int x2), some (.int x3), some (.int (x4 + nI 1)), none] [] N2))))))) :
  PX G d m_X8_canBallast Post 37 [some (.ref 0), some (.int x1), some (.int x2), some (.int x3), some (.int x4), none] [] M := wp_ok [(37, [true, true, true, true, true, false]), (84, [true, false, true, false, true, false])] ok_X8_canBallast tk_X8_canBallast 300 _ _ _ _ h
set_option maxRecDepth 100000 in
theorem g_X8_canBallast_84 {G : GG} {d : Nat} {Post : Option Value → PM → Prop} {M : PM} {x2 : Int32} {x4 : Int32} (h : br ((M.1 1 7) ≤ x4)
    (PC G d m_X5_findFirst [.ref 33] M (fun v N1 => gI v (fun r1 => (r1 = 0 ∨ r1 = 1) ∧ Post (some (.int r1)) N1)))
    (br ((x2 &&& ((nI 1) <<< (x4 &&& 31))) = 0)
      (PX G d m_X8_canBallast Post 84 [some (.ref 0), none, some (.int x2), none, some (.int (x4 + nI 1)), none] [] M)
      (vp_in x4 5 ∧ (PC G d m_X5_addBody [.ref 33, .int (M.1 6 x4.toNatClampNeg), .int (nI 0)] M (fun v N2 => gN v (PX G d m_X8_canBallast Post 84 [some (.ref 0), none, some (.int x2), none, some (.int (x4 + nI 1)), none] [] N2)))))) :
  PX G d m_X8_canBallast Post 84 [some (.ref 0), none, some (.int x2), none, some (.int x4), none] [] M := wp_ok [(37, [true, true, true, true, true, false]), (84, [true, false, true, false, true, false])] ok_X8_canBallast tk_X8_canBallast 300 _ _ _ _ h
set_option maxRecDepth 100000 in
theorem g_X8_hasPartner_0 {G : GG} {d : Nat} {Post : Option Value → PM → Prop} {M : PM} {x1 : Int32} (h : PX G d m_X8_hasPartner Post 2 [some (.ref 0), some (.int x1), some (.int (nI 0)), none] [] M) :
  PX G d m_X8_hasPartner Post 0 [some (.ref 0), some (.int x1), none, none] [] M := wp_ok [(2, [true, true, true, false]), (15, [true, true, true, true])] ok_X8_hasPartner tk_X8_hasPartner 300 _ _ _ _ h
set_option maxRecDepth 100000 in
theorem g_X8_hasPartner_2 {G : GG} {d : Nat} {Post : Option Value → PM → Prop} {M : PM} {x1 : Int32} {x2 : Int32} (h : br ((M.1 1 5) ≤ x2)
    (((nI 0) = 0 ∨ (nI 0) = 1) ∧ Post (some (.int (nI 0))) M)
    (PX G d m_X8_hasPartner Post 15 [some (.ref 0), some (.int x1), some (.int x2), some (.int (nI 0))] [] M)) :
  PX G d m_X8_hasPartner Post 2 [some (.ref 0), some (.int x1), some (.int x2), none] [] M := wp_ok [(2, [true, true, true, false]), (15, [true, true, true, true])] ok_X8_hasPartner tk_X8_hasPartner 300 _ _ _ _ h
set_option maxRecDepth 100000 in
theorem g_X8_hasPartner_15 {G : GG} {d : Nat} {Post : Option Value → PM → Prop} {M : PM} {x1 : Int32} {x2 : Int32} {x3 : Int32} (h : br ((M.1 1 6) ≤ x3)
    (PX G d m_X8_hasPartner Post 2 [some (.ref 0), some (.int x1), some (.int (x2 + nI 1)), none] [] M)
    (br (x3 = x1)
      (PX G d m_X8_hasPartner Post 15 [some (.ref 0), some (.int x1), some (.int x2), some (.int (x3 + nI 1))] [] M)
      (PC G d m_X3_fits [.ref 1, .int x2, .int x1, .int x3] M (fun v N1 => gI v (fun r1 => br (r1 = 0)
        (PX G d m_X8_hasPartner Post 15 [some (.ref 0), some (.int x1), some (.int x2), some (.int (x3 + nI 1))] [] N1)
        (((nI 1) = 0 ∨ (nI 1) = 1) ∧ Post (some (.int (nI 1))) N1)))))) :
  PX G d m_X8_hasPartner Post 15 [some (.ref 0), some (.int x1), some (.int x2), some (.int x3)] [] M := wp_ok [(2, [true, true, true, false]), (15, [true, true, true, true])] ok_X8_hasPartner tk_X8_hasPartner 300 _ _ _ _ h
set_option maxRecDepth 100000 in
theorem g_X8_rateAs_0 {G : GG} {d : Nat} {Post : Option Value → PM → Prop} {M : PM} {x1 : Int32} {x2 : Int32} {x3 : Int32} (h : br ((nI 2) < x3)
    (Post (some (.int (nI 0))) M)
    (br (x1 < 0)
      (Post (some (.int (nI 0))) M)
      (br (x1 ≤ (nI 5))
        (vp_in x1 6 ∧ (br (x1 = 0)
          (vp_in x2 8 ∧ (Post (some (.int (M.1 4 x2.toNatClampNeg))) (wL M 0 10 ((M.2 0 10) + ((ctM.getD x1.toNatClampNeg 0).toInt64)))))
          (vp_in x1 6 ∧ (PC G d m_X8_rateAs [.ref 0, .int (ctA.getD x1.toNatClampNeg 0), .int x2, .int (x3 + (nI 1))] (wL M 0 10 ((M.2 0 10) + ((ctM.getD x1.toNatClampNeg 0).toInt64))) (fun v N1 => gI v (fun r1 => (x1 = 1 → vp_in x2 8 ∧ (Post (some (.int (r1 + (N1.1 10 x2.toNatClampNeg)))) N1)) ∧
          (x1 = 2 → vp_in x2 8 ∧ (Post (some (.int (r1 - (N1.1 9 x2.toNatClampNeg)))) N1)) ∧
          (x1 = 3 → Post (some (.int ((nI 2) * r1))) N1) ∧
          (x1 = 4 → vp_in x2 8 ∧ (Post (some (.int (r1 + (N1.1 5 x2.toNatClampNeg)))) N1)) ∧
          ((x1.toInt < 1 ∨ 4 < x1.toInt) → Post (some (.int (r1 - x2))) N1)))))))
        (Post (some (.int (nI 0))) M)))) :
  PX G d m_X8_rateAs Post 0 [some (.ref 0), some (.int x1), some (.int x2), some (.int x3), none] [] M := wp_ok [] ok_X8_rateAs tk_X8_rateAs 300 _ _ _ _ h
