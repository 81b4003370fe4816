set_option maxRecDepth 100000 in
theorem g_X9_in_0 {G : GG} {d : Nat} {Post : Option Value → PM → Prop} {M : PM} {x0 : Int32} {x1 : Int32} {x2 : Int32} (h : br (x0 < x1)
    (((nI 0) = 0 ∨ (nI 0) = 1) ∧ Post (some (.int (nI 0))) M)
    (br (x2 < x0)
      (((nI 0) = 0 ∨ (nI 0) = 1) ∧ Post (some (.int (nI 0))) M)
      (((nI 1) = 0 ∨ (nI 1) = 1) ∧ Post (some (.int (nI 1))) M))) :
  PX G d m_X9_in Post 0 [some (.int x0), some (.int x1), some (.int x2)] [] M := wp_ok [] ok_X9_in tk_X9_in 300 _ _ _ _ h
set_option maxRecDepth 100000 in
theorem g_X9_clear_0 {G : GG} {d : Nat} {Post : Option Value → PM → Prop} {M : PM} (h : Post (some (.int (M.1 56 3))) (wI (wI M 56 0 (nI 0)) 56 3 (nI 0))) :
  PX G d m_X9_clear Post 0 [some (.ref 56), none] [] M := wp_ok [] ok_X9_clear tk_X9_clear 300 _ _ _ _ h
set_option maxRecDepth 100000 in
theorem g_X9_byteAt_0 {G : GG} {d : Nat} {Post : Option Value → PM → Prop} {M : PM} {x1 : Int32} (h : br ((M.1 56 3) ≤ x1)
    (Post (some (.int (-1))) M)
    (vp_in x1 300 ∧ (Post (some (.int (M.1 57 x1.toNatClampNeg))) M))) :
  PX G d m_X9_byteAt Post 0 [some (.ref 56), some (.int x1)] [] M := wp_ok [] ok_X9_byteAt tk_X9_byteAt 300 _ _ _ _ h
set_option maxRecDepth 100000 in
theorem g_X9_add_0 {G : GG} {d : Nat} {Post : Option Value → PM → Prop} {M : PM} {x0 : Int64} {x2 : Int32} (h : Post (some (.long ((256 * x0) + x2.toInt64))) M) :
  PX G d m_X9_add Post 0 [some (.long x0), none, some (.int x2)] [] M := wp_ok [] ok_X9_add tk_X9_add 300 _ _ _ _ h
set_option maxRecDepth 100000 in
theorem g_X9_advances_0 {G : GG} {d : Nat} {Post : Option Value → PM → Prop} {M : PM} (h : PC G d m_X9_byteAt [.ref 56, .int (M.1 56 4)] M (fun v N1 => gI v (fun r1 => br (r1 = (nI 32))
    (PX G d m_X9_advances Post 0 [some (.ref 56), none, none, none] [] (wI N1 56 4 ((N1.1 56 4) + (nI 1))))
    (PC G d m_X9_byteAt [.ref 56, .int (N1.1 56 4)] (wI N1 56 6 (N1.1 56 4)) (fun v N2 => gI v (fun r2 => br (0 ≤ r2)
      (PC G d m_X9_in [.int r2, .int (nI 97), .int (nI 122)] N2 (fun v N3 => gI v (fun r3 => br (r3 = 0)
        (PC G d m_X9_in [.int r2, .int (nI 48), .int (nI 57)] N3 (fun v N4 => gI v (fun r4 => br (r4 = 0)
          (br (r2 = (nI 59))
            (Post none (wI (wI N4 56 4 ((N4.1 56 4) + (nI 1))) 56 5 (nI 3)))
            (Post none (wI (wI N4 56 4 ((N4.1 56 4) + (nI 1))) 56 5 (nI 4))))
          (PX G d m_X9_advances Post 175 [some (.ref 56), some (.int r2), none, none] [] (wI N4 56 7 (nI 0))))))
        (PX G d m_X9_advances Post 68 [some (.ref 56), none, some (.long 0), none] [] N3))))
      (Post none (wI N2 56 5 (nI 0))))))))) :
  PX G d m_X9_advances Post 0 [some (.ref 56), none, none, none] [] M := wp_ok [(0, [true, false, false, false]), (68, [true, false, true, false]), (175, [true, true, false, false])] ok_X9_advances tk_X9_advances 300 _ _ _ _ h
set_option maxRecDepth 100000 in
theorem g_X9_advances_175 {G : GG} {d : Nat} {Post : Option Value → PM → Prop} {M : PM} {x1 : Int32} (h : PC G d m_X9_byteAt [.ref 56, .int (M.1 56 4)] M (fun v N1 => gI v (fun r1 => PC G d m_X9_in [.int r1, .int (nI 48), .int (nI 57)] N1 (fun v N2 => gI v (fun r2 => br (r2 = 0)
    (br ((nI 99) < (N2.1 56 7))
      (Post none (wI N2 56 5 (nI 4)))
      (br (x1 = (nI 48))
        (br (((N2.1 56 4) - (N2.1 56 6)) ≤ (nI 1))
          (Post none (wI N2 56 5 (nI 2)))
          (Post none (wI N2 56 5 (nI 4))))
        (Post none (wI N2 56 5 (nI 2)))))
    (br ((N2.1 56 7) ≤ (nI 99))
      (PC G d m_X9_byteAt [.ref 56, .int (N2.1 56 4)] N2 (fun v N3 => gI v (fun r3 => PX G d m_X9_advances Post 175 [some (.ref 56), some (.int x1), none, none] [] (wI (wI N3 56 7 ((((nI 10) * (N2.1 56 7)) + r3) - (nI 48))) 56 4 ((N3.1 56 4) + (nI 1))))))
      (PX G d m_X9_advances Post 175 [some (.ref 56), some (.int x1), none, none] [] (wI (wI N2 56 7 (N2.1 56 7)) 56 4 ((N2.1 56 4) + (nI 1)))))))))) :
  PX G d m_X9_advances Post 175 [some (.ref 56), some (.int x1), none, none] [] M := wp_ok [(0, [true, false, false, false]), (68, [true, false, true, false]), (175, [true, true, false, false])] ok_X9_advances tk_X9_advances 300 _ _ _ _ h
set_option maxRecDepth 100000 in
theorem g_X9_advances_68 {G : GG} {d : Nat} {Post : Option Value → PM → Prop} {M : PM} {x2 : Int64} (h : PC G d m_X9_byteAt [.ref 56, .int (M.1 56 4)] M (fun v N1 => gI v (fun r1 => PC G d m_X9_in [.int r1, .int (nI 97), .int (nI 122)] N1 (fun v N2 => gI v (fun r2 => br (r2 = 0)
    (PC G d m_X9_wordOf [.long x2] N2 (fun v N3 => gI v (fun r3 => br (r3 = (-9 : Int32))
      (Post none (wI (wI N3 56 7 r3) 56 5 (nI 4)))
      (Post none (wI (wI N3 56 7 r3) 56 5 (nI 1))))))
    (br ((nI 6) ≤ ((N2.1 56 4) - (N2.1 56 6)))
      (PX G d m_X9_advances Post 68 [some (.ref 56), none, some (.long x2), none] [] (wI N2 56 4 ((N2.1 56 4) + (nI 1))))
      (PC G d m_X9_byteAt [.ref 56, .int (N2.1 56 4)] N2 (fun v N4 => gI v (fun r4 => PC G d m_X9_add [.long x2, .int r4] N4 (fun v N5 => gL v (fun r5 => PX G d m_X9_advances Post 68 [some (.ref 56), none, some (.long r5), none] [] (wI N5 56 4 ((N5.1 56 4) + (nI 1)))))))))))))) :
  PX G d m_X9_advances Post 68 [some (.ref 56), none, some (.long x2), none] [] M := wp_ok [(0, [true, false, false, false]), (68, [true, false, true, false]), (175, [true, true, false, false])] ok_X9_advances tk_X9_advances 300 _ _ _ _ h
set_option maxRecDepth 100000 in
theorem g_X9_isWell_0 {G : GG} {d : Nat} {Post : Option Value → PM → Prop} {M : PM} (h : br (0 ≤ (M.1 56 8))
    (((nI 0) = 0 ∨ (nI 0) = 1) ∧ Post (some (.int (nI 0))) M)
    (((nI 1) = 0 ∨ (nI 1) = 1) ∧ Post (some (.int (nI 1))) M)) :
  PX G d m_X9_isWell Post 0 [some (.ref 56)] [] M := wp_ok [] ok_X9_isWell tk_X9_isWell 300 _ _ _ _ h
set_option maxRecDepth 100000 in
theorem g_X9_begins_0 {G : GG} {d : Nat} {Post : Option Value → PM → Prop} {M : PM} (h : PX G d m_X9_begins Post 2 [some (.ref 56), some (.int (nI 0))] [] M) :
  PX G d m_X9_begins Post 0 [some (.ref 56), none] [] M := wp_ok [(2, [true, true])] ok_X9_begins tk_X9_begins 300 _ _ _ _ h
set_option maxRecDepth 100000 in
theorem g_X9_begins_2 {G : GG} {d : Nat} {Post : Option Value → PM → Prop} {M : PM} {x1 : Int32} (h : br ((nI 34) ≤ x1)
    (Post none M)
    (PC G d m_X9_in [.int x1, .int (nI 0), .int (nI 7)] M (fun v N1 => gI v (fun r1 => br (r1 = 0)
      (PC G d m_X9_in [.int x1, .int (nI 24), .int (nI 28)] N1 (fun v N2 => gI v (fun r2 => br (r2 = 0)
        (vp_in x1 34 ∧ (PX G d m_X9_begins Post 2 [some (.ref 56), some (.int (x1 + nI 1))] [] (wI N2 63 x1.toNatClampNeg (nI 0))))
        (vp_in x1 34 ∧ (PX G d m_X9_begins Post 2 [some (.ref 56), some (.int (x1 + nI 1))] [] (wI N2 63 x1.toNatClampNeg (-9)))))))
      (vp_in x1 34 ∧ (PX G d m_X9_begins Post 2 [some (.ref 56), some (.int (x1 + nI 1))] [] (wI N1 63 x1.toNatClampNeg (-9)))))))) :
  PX G d m_X9_begins Post 2 [some (.ref 56), some (.int x1)] [] M := wp_ok [(2, [true, true])] ok_X9_begins tk_X9_begins 300 _ _ _ _ h
set_option maxRecDepth 100000 in
theorem g_X9_isPlank_0 {G : GG} {d : Nat} {Post : Option Value → PM → Prop} {M : PM} {x1 : Int32} (h : PC G d m_X9_in [.int x1, .int (nI 0), .int ((M.1 56 14) - (nI 1))] M (fun v N1 => gI v (fun r1 => (r1 = 0 ∨ r1 = 1) ∧ Post (some (.int r1)) N1))) :
  PX G d m_X9_isPlank Post 0 [some (.ref 56), some (.int x1)] [] M := wp_ok [] ok_X9_isPlank tk_X9_isPlank 300 _ _ _ _ h
set_option maxRecDepth 100000 in
theorem g_X9_isChild_0 {G : GG} {d : Nat} {Post : Option Value → PM → Prop} {M : PM} {x1 : Int32} (h : PC G d m_X9_in [.int x1, .int (nI 0), .int ((M.1 56 15) - (nI 1))] M (fun v N1 => gI v (fun r1 => (r1 = 0 ∨ r1 = 1) ∧ Post (some (.int r1)) N1))) :
  PX G d m_X9_isChild Post 0 [some (.ref 56), some (.int x1)] [] M := wp_ok [] ok_X9_isChild tk_X9_isChild 300 _ _ _ _ h
set_option maxRecDepth 100000 in
theorem g_X9_isStone_0 {G : GG} {d : Nat} {Post : Option Value → PM → Prop} {M : PM} {x1 : Int32} (h : PC G d m_X9_in [.int x1, .int (nI 0), .int ((M.1 56 16) - (nI 1))] M (fun v N1 => gI v (fun r1 => (r1 = 0 ∨ r1 = 1) ∧ Post (some (.int r1)) N1))) :
  PX G d m_X9_isStone Post 0 [some (.ref 56), some (.int x1)] [] M := wp_ok [] ok_X9_isStone tk_X9_isStone 300 _ _ _ _ h
set_option maxRecDepth 100000 in
theorem g_X9_child_0 {G : GG} {d : Nat} {Post : Option Value → PM → Prop} {M : PM} {x1 : Int32} {x2 : Int32} (h : PC G d m_X9_isChild [.ref 56, .int x1] (wI M 56 0 (nI 0)) (fun v N1 => gI v (fun r1 => br (r1 = 0)
    (Post (some (.int (-1000000))) N1)
    (PC G d m_X9_in [.int x2, .int (nI 0), .int (nI 4)] N1 (fun v N2 => gI v (fun r2 => br (r2 = 0)
      (Post (some (.int (-1000000))) N2)
      (br (x2 = 0)
        (vp_in x1 16 ∧ (Post (some (.int (N2.1 60 x1.toNatClampNeg))) N2))
        (br (x2 = (nI 1))
          (vp_in x1 16 ∧ (Post (some (.int (N2.1 61 x1.toNatClampNeg))) N2))
          (br (x2 = (nI 2))
            (vp_in ((nI 0) + x1) 34 ∧ (Post (some (.int (N2.1 63 (((nI 0) + x1).toNatClampNeg)))) N2))
            (br (x2 = (nI 3))
              (vp_in ((nI 8) + x1) 34 ∧ (Post (some (.int (N2.1 63 (((nI 8) + x1).toNatClampNeg)))) N2))
              (vp_in ((nI 16) + x1) 34 ∧ (Post (some (.int (N2.1 63 (((nI 16) + x1).toNatClampNeg)))) N2)))))))))))) :
  PX G d m_X9_child Post 0 [some (.ref 56), some (.int x1), some (.int x2)] [] M := wp_ok [] ok_X9_child tk_X9_child 300 _ _ _ _ h
set_option maxRecDepth 100000 in
theorem g_X9_bumps_0 {G : GG} {d : Nat} {Post : Option Value → PM → Prop} {M : PM} {x1 : Int32} {x2 : Int32} (h : PC G d m_X9_tiltOf [.ref 56, .int x1] M (fun v N1 => gI v (fun r1 => PX G d m_X9_bumps Post 12 [some (.ref 56), some (.int x1), some (.int x2), some (.int r1), some (.int (nI 0)), some (.int (nI 0)), none] [] N1))) :
  PX G d m_X9_bumps Post 0 [some (.ref 56), some (.int x1), some (.int x2), none, none, none, none] [] M := wp_ok [(12, [true, true, true, true, true, true, false]), (63, [true, true, true, true, true, true, false])] ok_X9_bumps tk_X9_bumps 300 _ _ _ _ h
set_option maxRecDepth 100000 in
theorem g_X9_bumps_12 {G : GG} {d : Nat} {Post : Option Value → PM → Prop} {M : PM} {x1 : Int32} {x2 : Int32} {x3 : Int32} {x4 : Int32} {x5 : Int32} (h : br ((M.1 56 15) ≤ x5)
    (Post (some (.int x4)) M)
    (br (x3 = 0)
      (Post (some (.int x4)) M)
      (br (x3 = x2)
        (Post (some (.int x4)) M)
        (vp_in ((nI 0) + x5) 34 ∧ (br ((M.1 63 (((nI 0) + x5).toNatClampNeg)) = x1)
          (vp_in ((nI 8) + x5) 34 ∧ (br (((M.1 63 (((nI 8) + x5).toNatClampNeg)) * x3) ≤ 0)
            (PX G d m_X9_bumps Post 63 [some (.ref 56), some (.int x1), some (.int x2), some (.int x3), some (.int x4), some (.int x5), none] [.int (nI 0)] M)
            (PX G d m_X9_bumps Post 63 [some (.ref 56), some (.int x1), some (.int x2), some (.int x3), some (.int x4), some (.int x5), none] [.int (nI 1)] M)))
          (PX G d m_X9_bumps Post 63 [some (.ref 56), some (.int x1), some (.int x2), some (.int x3), some (.int x4), some (.int x5), none] [.int (nI 0)] M)))))) :
  PX G d m_X9_bumps Post 12 [some (.ref 56), some (.int x1), some (.int x2), some (.int x3), some (.int x4), some (.int x5), none] [] M := wp_ok [(12, [true, true, true, true, true, true, false]), (63, [true, true, true, true, true, true, false])] ok_X9_bumps tk_X9_bumps 300 _ _ _ _ h
set_option maxRecDepth 100000 in
theorem g_X9_bumps_63 {G : GG} {d : Nat} {Post : Option Value → PM → Prop} {M : PM} {x1 : Int32} {x2 : Int32} {x3 : Int32} {x4 : Int32} {x5 : Int32} {y0 : Int32} (h : vp_in ((nI 16) + x5) 34 ∧ (br (y0 = 0)
    (vp_in ((nI 16) + x5) 34 ∧ (br (y0 = 0)
      (PX G d m_X9_bumps Post 12 [some (.ref 56), some (.int x1), some (.int x2), some (.int x3), some (.int (x4 + (nI 0))), some (.int (x5 + nI 1)), none] [] (wI M 63 (((nI 16) + x5).toNatClampNeg) ((M.1 63 (((nI 16) + x5).toNatClampNeg)) + (nI 0))))
      (PX G d m_X9_bumps Post 12 [some (.ref 56), some (.int x1), some (.int x2), some (.int x3), some (.int (x4 + (nI 1))), some (.int (x5 + nI 1)), none] [] (wI M 63 (((nI 16) + x5).toNatClampNeg) ((M.1 63 (((nI 16) + x5).toNatClampNeg)) + (nI 0))))))
    (vp_in ((nI 16) + x5) 34 ∧ (br (y0 = 0)
      (PX G d m_X9_bumps Post 12 [some (.ref 56), some (.int x1), some (.int x2), some (.int x3), some (.int (x4 + (nI 0))), some (.int (x5 + nI 1)), none] [] (wI M 63 (((nI 16) + x5).toNatClampNeg) ((M.1 63 (((nI 16) + x5).toNatClampNeg)) + (nI 1))))
      (PX G d m_X9_bumps Post 12 [some (.ref 56), some (.int x1), some (.int x2), some (.int x3), some (.int (x4 + (nI 1))), some (.int (x5 + nI 1)), none] [] (wI M 63 (((nI 16) + x5).toNatClampNeg) ((M.1 63 (((nI 16) + x5).toNatClampNeg)) + (nI 1)))))))) :
  PX G d m_X9_bumps Post 63 [some (.ref 56), some (.int x1), some (.int x2), some (.int x3), some (.int x4), some (.int x5), none] [.int y0] M := wp_ok [(12, [true, true, true, true, true, true, false]), (63, [true, true, true, true, true, true, false])] ok_X9_bumps tk_X9_bumps 300 _ _ _ _ h
set_option maxRecDepth 100000 in
theorem g_X9_goes_0 {G : GG} {d : Nat} {Post : Option Value → PM → Prop} {M : PM} {x1 : Int32} {x2 : Int32} (h : vp_in x1 34 ∧ (br ((M.1 63 x1.toNatClampNeg) = (-9 : Int32))
    (Post (some (.int (nI 0))) M)
    (PC G d m_X9_tiltOf [.ref 56, .int (M.1 63 x1.toNatClampNeg)] M (fun v N1 => gI v (fun r1 => vp_in x1 34 ∧ (vp_in x2 34 ∧ (PC G d m_X9_bumps [.ref 56, .int (M.1 63 x1.toNatClampNeg), .int r1] (wI (wI N1 63 x1.toNatClampNeg (-9)) 63 x2.toNatClampNeg (nI 0)) (fun v N2 => gI v (fun r2 => Post (some (.int r2)) N2))))))))) :
  PX G d m_X9_goes Post 0 [some (.ref 56), some (.int x1), some (.int x2), none, none] [] M := wp_ok [] ok_X9_goes tk_X9_goes 300 _ _ _ _ h
set_option maxRecDepth 100000 in
theorem g_X9_comes_0 {G : GG} {d : Nat} {Post : Option Value → PM → Prop} {M : PM} {x1 : Int32} {x2 : Int32} {x3 : Int32} {x4 : Int32} (h : PC G d m_X9_tiltOf [.ref 56, .int x3] M (fun v N1 => gI v (fun r1 => vp_in x1 34 ∧ (vp_in x2 34 ∧ (PC G d m_X9_bumps [.ref 56, .int x3, .int r1] (wI (wI N1 63 x1.toNatClampNeg x3) 63 x2.toNatClampNeg x4) (fun v N2 => gI v (fun r2 => Post (some (.int r2)) N2))))))) :
  PX G d m_X9_comes Post 0 [some (.ref 56), some (.int x1), some (.int x2), some (.int x3), some (.int x4), none] [] M := wp_ok [] ok_X9_comes tk_X9_comes 300 _ _ _ _ h
set_option maxRecDepth 100000 in
theorem g_X9_freeSeat_0 {G : GG} {d : Nat} {Post : Option Value → PM → Prop} {M : PM} {x1 : Int32} {x2 : Int32} (h : vp_in x2 8 ∧ (PX G d m_X9_freeSeat Post 12 [some (.ref 56), some (.int x1), some (.int x2), some (.int ((M.1 67 x2.toNatClampNeg) + (nI 1))), some (.int (nI 0)), none] [] M)) :
  PX G d m_X9_freeSeat Post 0 [some (.ref 56), some (.int x1), some (.int x2), none, none, none] [] M := wp_ok [(12, [true, true, true, true, true, false]), (35, [true, true, true, true, true, true])] ok_X9_freeSeat tk_X9_freeSeat 300 _ _ _ _ h
set_option maxRecDepth 100000 in
theorem g_X9_freeSeat_12 {G : GG} {d : Nat} {Post : Option Value → PM → Prop} {M : PM} {x1 : Int32} {x2 : Int32} {x3 : Int32} {x4 : Int32} (h : vp_in x1 6 ∧ (br (((nI 2) * (M.1 58 x1.toNatClampNeg)) ≤ x3)
    (Post (some (.int x3)) M)
    (br (x4 = 0)
      (PX G d m_X9_freeSeat Post 35 [some (.ref 56), some (.int x1), some (.int x2), some (.int x3), some (.int (nI 1)), some (.int (nI 0))] [] M)
      (Post (some (.int x3)) M)))) :
  PX G d m_X9_freeSeat Post 12 [some (.ref 56), some (.int x1), some (.int x2), some (.int x3), some (.int x4), none] [] M := wp_ok [(12, [true, true, true, true, true, false]), (35, [true, true, true, true, true, true])] ok_X9_freeSeat tk_X9_freeSeat 300 _ _ _ _ h
set_option maxRecDepth 100000 in
theorem g_X9_freeSeat_35 {G : GG} {d : Nat} {Post : Option Value → PM → Prop} {M : PM} {x1 : Int32} {x2 : Int32} {x3 : Int32} {x4 : Int32} {x5 : Int32} (h : br (x2 ≤ x5)
    (br (x4 = 0)
      (PX G d m_X9_freeSeat Post 12 [some (.ref 56), some (.int x1), some (.int x2), some (.int (x3 + (nI 1))), some (.int x4), none] [] M)
      (PX G d m_X9_freeSeat Post 12 [some (.ref 56), some (.int x1), some (.int x2), some (.int (x3 + (nI 0))), some (.int x4), none] [] M))
    (br (x4 = 0)
      (PX G d m_X9_freeSeat Post 35 [some (.ref 56), some (.int x1), some (.int x2), some (.int x3), some (.int (nI 0)), some (.int (x5 + nI 1))] [] M)
      (vp_in x5 8 ∧ (br ((M.1 67 x5.toNatClampNeg) = x3)
        (PX G d m_X9_freeSeat Post 35 [some (.ref 56), some (.int x1), some (.int x2), some (.int x3), some (.int (nI 0)), some (.int (x5 + nI 1))] [] M)
        (PX G d m_X9_freeSeat Post 35 [some (.ref 56), some (.int x1), some (.int x2), some (.int x3), some (.int (nI 1)), some (.int (x5 + nI 1))] [] M))))) :
  PX G d m_X9_freeSeat Post 35 [some (.ref 56), some (.int x1), some (.int x2), some (.int x3), some (.int x4), some (.int x5)] [] M := wp_ok [(12, [true, true, true, true, true, false]), (35, [true, true, true, true, true, true])] ok_X9_freeSeat tk_X9_freeSeat 300 _ _ _ _ h
set_option maxRecDepth 100000 in
theorem g_X9_all_0 {G : GG} {d : Nat} {Post : Option Value → PM → Prop} {M : PM} (h : Post (some (.int (((nI 1) <<< ((M.1 56 15) &&& 31)) - (nI 1)))) M) :
  PX G d m_X9_all Post 0 [some (.ref 56)] [] M := wp_ok [] ok_X9_all tk_X9_all 300 _ _ _ _ h
set_option maxRecDepth 100000 in
theorem g_X9_hasStone_0 {G : GG} {d : Nat} {Post : Option Value → PM → Prop} {M : PM} {x1 : Int32} {x2 : Int32} (h : PX G d m_X9_hasStone Post 5 [some (.ref 56), some (.int x1), some (.int x2), some (.int (nI 0)), some (.int (nI 0))] [] M) :
  PX G d m_X9_hasStone Post 0 [some (.ref 56), some (.int x1), some (.int x2), none, none] [] M := wp_ok [(5, [true, true, true, true, true])] ok_X9_hasStone tk_X9_hasStone 300 _ _ _ _ h
set_option maxRecDepth 100000 in
theorem g_X9_hasStone_5 {G : GG} {d : Nat} {Post : Option Value → PM → Prop} {M : PM} {x1 : Int32} {x2 : Int32} {x3 : Int32} {x4 : Int32} (h : br ((M.1 56 16) ≤ x4)
    ((x3 = 0 ∨ x3 = 1) ∧ Post (some (.int x3)) M)
    (br (x3 = 0)
      (vp_in ((nI 24) + x4) 34 ∧ (br ((M.1 63 (((nI 24) + x4).toNatClampNeg)) = x1)
        (vp_in ((nI 29) + x4) 34 ∧ (br ((M.1 63 (((nI 29) + x4).toNatClampNeg)) = x2)
          (PX G d m_X9_hasStone Post 5 [some (.ref 56), some (.int x1), some (.int x2), some (.int (nI 1)), some (.int (x4 + nI 1))] [] M)
          (PX G d m_X9_hasStone Post 5 [some (.ref 56), some (.int x1), some (.int x2), some (.int (nI 0)), some (.int (x4 + nI 1))] [] M)))
        (PX G d m_X9_hasStone Post 5 [some (.ref 56), some (.int x1), some (.int x2), some (.int (nI 0)), some (.int (x4 + nI 1))] [] M)))
      (PX G d m_X9_hasStone Post 5 [some (.ref 56), some (.int x1), some (.int x2), some (.int (nI 1)), some (.int (x4 + nI 1))] [] M))) :
  PX G d m_X9_hasStone Post 5 [some (.ref 56), some (.int x1), some (.int x2), some (.int x3), some (.int x4)] [] M := wp_ok [(5, [true, true, true, true, true])] ok_X9_hasStone tk_X9_hasStone 300 _ _ _ _ h
set_option maxRecDepth 100000 in
theorem g_X9_ballast_0 {G : GG} {d : Nat} {Post : Option Value → PM → Prop} {M : PM} {x1 : Int32} {x2 : Int32} (h : PC G d m_X9_isPlank [.ref 56, .int x1] (wI M 56 0 (nI 0)) (fun v N1 => gI v (fun r1 => br (r1 = 0)
    (Post (some (.int (-1))) N1)
    (PC G d m_X9_in [.int x2, .int (nI 0), .int (nI 1)] N1 (fun v N2 => gI v (fun r2 => br (r2 = 0)
      (Post (some (.int (-1))) N2)
      (PX G d m_X9_ballast Post 29 [some (.ref 56), some (.int x1), some (.int x2), some (.int (nI 0)), some (.int (nI 0)), none, none] [] N2))))))) :
  PX G d m_X9_ballast Post 0 [some (.ref 56), some (.int x1), some (.int x2), none, none, none, none] [] M := wp_ok [(29, [true, true, true, true, true, false, false]), (77, [true, true, true, true, true, true, false]), (122, [true, true, true, true, true, true, false])] ok_X9_ballast tk_X9_ballast 300 _ _ _ _ h
set_option maxRecDepth 100000 in
theorem g_X9_ballast_29 {G : GG} {d : Nat} {Post : Option Value → PM → Prop} {M : PM} {x1 : Int32} {x2 : Int32} {x3 : Int32} {x4 : Int32} (h : br ((M.1 56 16) ≤ x4)
    (PX G d m_X9_ballast Post 77 [some (.ref 56), some (.int x1), some (.int x2), some (.int x3), some (.int (-9)), some (.int (nI 0)), none] [] M)
    (vp_in ((nI 24) + x4) 34 ∧ (br ((M.1 63 (((nI 24) + x4).toNatClampNeg)) = (-9 : Int32))
      (PX G d m_X9_ballast Post 29 [some (.ref 56), some (.int x1), some (.int x2), some (.int (x3 ||| ((nI 1) <<< (x4 &&& 31)))), some (.int (x4 + nI 1)), none, none] [] M)
      (PX G d m_X9_ballast Post 29 [some (.ref 56), some (.int x1), some (.int x2), some (.int (x3 ||| (nI 0))), some (.int (x4 + nI 1)), none, none] [] M)))) :
  PX G d m_X9_ballast Post 29 [some (.ref 56), some (.int x1), some (.int x2), some (.int x3), some (.int x4), none, none] [] M := wp_ok [(29, [true, true, true, true, true, false, false]), (77, [true, true, true, true, true, true, false]), (122, [true, true, true, true, true, true, false])] ok_X9_ballast tk_X9_ballast 300 _ _ _ _ h
set_option maxRecDepth 100000 in
theorem g_X9_ballast_77 {G : GG} {d : Nat} {Post : Option Value → PM → Prop} {M : PM} {x1 : Int32} {x2 : Int32} {x3 : Int32} {x4 : Int32} {x5 : Int32} (h : br (((nI 1) <<< ((M.1 56 16) &&& 31)) ≤ x5)
    (br (x4 = (-9 : Int32))
      (Post (some (.int x4)) M)
      (br (x2 = (nI 1))
        (Post (some (.int x4)) M)
        (PC G d m_X9_ones [.int x4] M (fun v N1 => gI v (fun r1 => Post (some (.int r1)) N1)))))
    (br ((x5 &&& (x3 ^^^ (-1))) = 0)
      (br (x4 = (-9 : Int32))
        (PX G d m_X9_ballast Post 122 [some (.ref 56), some (.int x1), some (.int x2), some (.int x3), some (.int x4), some (.int x5), none] [.int (nI 1)] M)
        (PC G d m_X9_ones [.int x5] M (fun v N2 => gI v (fun r2 => PC G d m_X9_ones [.int x4] N2 (fun v N3 => gI v (fun r3 => br (r3 ≤ r2)
          (PX G d m_X9_ballast Post 122 [some (.ref 56), some (.int x1), some (.int x2), some (.int x3), some (.int x4), some (.int x5), none] [.int (nI 0)] N3)
          (PX G d m_X9_ballast Post 122 [some (.ref 56), some (.int x1), some (.int x2), some (.int x3), some (.int x4), some (.int x5), none] [.int (nI 1)] N3)))))))
      (PX G d m_X9_ballast Post 122 [some (.ref 56), some (.int x1), some (.int x2), some (.int x3), some (.int x4), some (.int x5), none] [.int (nI 0)] M))) :
  PX G d m_X9_ballast Post 77 [some (.ref 56), some (.int x1), some (.int x2), some (.int x3), some (.int x4), some (.int x5), none] [] M := wp_ok [(29, [true, true, true, true, true, false, false]), (77, [true, true, true, true, true, true, false]), (122, [true, true, true, true, true, true, false])] ok_X9_ballast tk_X9_ballast 300 _ _ _ _ h
set_option maxRecDepth 100000 in
theorem g_X9_ballast_122 {G : GG} {d : Nat} {Post : Option Value → PM → Prop} {M : PM} {x1 : Int32} {x2 : Int32} {x3 : Int32} {x4 : Int32} {x5 : Int32} {y0 : Int32} (h : br (y0 = 0)
    (PX G d m_X9_ballast Post 77 [some (.ref 56), some (.int x1), some (.int x2), some (.int x3), some (.int x4), some (.int (x5 + nI 1)), none] [] M)
    (PC G d m_X9_levels [.ref 56, .int x1, .int x5] M (fun v N1 => gI v (fun r1 => br (r1 = 0)
      (PX G d m_X9_ballast Post 77 [some (.ref 56), some (.int x1), some (.int x2), some (.int x3), some (.int x4), some (.int (x5 + nI 1)), none] [] N1)
      (PX G d m_X9_ballast Post 77 [some (.ref 56), some (.int x1), some (.int x2), some (.int x3), some (.int x5), some (.int (x5 + nI 1)), none] [] N1))))) :
  PX G d m_X9_ballast Post 122 [some (.ref 56), some (.int x1), some (.int x2), some (.int x3), some (.int x4), some (.int x5), none] [.int y0] M := wp_ok [(29, [true, true, true, true, true, false, false]), (77, [true, true, true, true, true, true, false]), (122, [true, true, true, true, true, true, false])] ok_X9_ballast tk_X9_ballast 300 _ _ _ _ h
set_option maxRecDepth 100000 in
theorem g_X9_isTaken_0 {G : GG} {d : Nat} {Post : Option Value → PM → Prop} {M : PM} {x1 : Int32} {x2 : Int32} (h : PX G d m_X9_isTaken Post 5 [some (.ref 56), some (.int x1), some (.int x2), some (.int (nI 0)), some (.int (nI 0))] [] M) :
  PX G d m_X9_isTaken Post 0 [some (.ref 56), some (.int x1), some (.int x2), none, none] [] M := wp_ok [(5, [true, true, true, true, true])] ok_X9_isTaken tk_X9_isTaken 300 _ _ _ _ h
set_option maxRecDepth 100000 in
theorem g_X9_isTaken_5 {G : GG} {d : Nat} {Post : Option Value → PM → Prop} {M : PM} {x1 : Int32} {x2 : Int32} {x3 : Int32} {x4 : Int32} (h : br ((M.1 56 15) ≤ x4)
    ((x3 = 0 ∨ x3 = 1) ∧ Post (some (.int x3)) M)
    (br (x3 = 0)
      (vp_in ((nI 0) + x4) 34 ∧ (br ((M.1 63 (((nI 0) + x4).toNatClampNeg)) = x1)
        (vp_in ((nI 8) + x4) 34 ∧ (PC G d m_X9_stepOf [.ref 56, .int x1, .int x2] M (fun v N1 => gI v (fun r1 => br ((M.1 63 (((nI 8) + x4).toNatClampNeg)) = r1)
          (PX G d m_X9_isTaken Post 5 [some (.ref 56), some (.int x1), some (.int x2), some (.int (nI 1)), some (.int (x4 + nI 1))] [] N1)
          (PX G d m_X9_isTaken Post 5 [some (.ref 56), some (.int x1), some (.int x2), some (.int (nI 0)), some (.int (x4 + nI 1))] [] N1)))))
        (PX G d m_X9_isTaken Post 5 [some (.ref 56), some (.int x1), some (.int x2), some (.int (nI 0)), some (.int (x4 + nI 1))] [] M)))
      (PX G d m_X9_isTaken Post 5 [some (.ref 56), some (.int x1), some (.int x2), some (.int (nI 1)), some (.int (x4 + nI 1))] [] M))) :
  PX G d m_X9_isTaken Post 5 [some (.ref 56), some (.int x1), some (.int x2), some (.int x3), some (.int x4)] [] M := wp_ok [(5, [true, true, true, true, true])] ok_X9_isTaken tk_X9_isTaken 300 _ _ _ _ h
set_option maxRecDepth 100000 in
theorem g_X9_fourMoves_0 {G : GG} {d : Nat} {Post : Option Value → PM → Prop} {M : PM} {x1 : Int32} {x2 : Int32} (h : PX G d m_X9_fourMoves Post 2 [some (.ref 56), some (.int x1), some (.int x2), some (.int (nI 0)), none] [] M) :
  PX G d m_X9_fourMoves Post 0 [some (.ref 56), some (.int x1), some (.int x2), none, none] [] M := wp_ok [(2, [true, true, true, true, false]), (13, [true, true, true, true, true])] ok_X9_fourMoves tk_X9_fourMoves 300 _ _ _ _ h
set_option maxRecDepth 100000 in
theorem g_X9_fourMoves_2 {G : GG} {d : Nat} {Post : Option Value → PM → Prop} {M : PM} {x1 : Int32} {x2 : Int32} {x3 : Int32} (h : br ((M.1 56 15) ≤ x3)
    (Post (some (.int (-9))) M)
    (PX G d m_X9_fourMoves Post 13 [some (.ref 56), some (.int x1), some (.int x2), some (.int x3), some (.int (nI 0))] [] M)) :
  PX G d m_X9_fourMoves Post 2 [some (.ref 56), some (.int x1), some (.int x2), some (.int x3), none] [] M := wp_ok [(2, [true, true, true, true, false]), (13, [true, true, true, true, true])] ok_X9_fourMoves tk_X9_fourMoves 300 _ _ _ _ h
set_option maxRecDepth 100000 in
theorem g_X9_fourMoves_13 {G : GG} {d : Nat} {Post : Option Value → PM → Prop} {M : PM} {x1 : Int32} {x2 : Int32} {x3 : Int32} {x4 : Int32} (h : vp_in x1 6 ∧ (br (((nI 2) * (M.1 58 x1.toNatClampNeg)) ≤ x4)
    (PX G d m_X9_fourMoves Post 2 [some (.ref 56), some (.int x1), some (.int x2), some (.int (x3 + nI 1)), none] [] M)
    (PC G d m_X9_mayPut [.ref 56, .int x1, .int (nI 0), .int (nI 0), .int x2, .int x3, .int x4] M (fun v N1 => gI v (fun r1 => br (r1 = 0)
      (PX G d m_X9_fourMoves Post 13 [some (.ref 56), some (.int x1), some (.int x2), some (.int x3), some (.int (x4 + nI 1))] [] N1)
      (vp_in x3 16 ∧ (PC G d m_X9_stepOf [.ref 56, .int x1, .int x4] N1 (fun v N2 => gI v (fun r2 => PC G d m_X9_threeMoves [.ref 56, .int x1, .int ((nI 1) <<< (x3 &&& 31)), .int ((nI 1) <<< (x4 &&& 31)), .int (x2 + ((N1.1 60 x3.toNatClampNeg) * r2))] N2 (fun v N3 => gI v (fun r3 => br (r3 = (-9 : Int32))
        (Post (some (.int (((nI 8) * x3) + x4))) N3)
        (PX G d m_X9_fourMoves Post 13 [some (.ref 56), some (.int x1), some (.int x2), some (.int x3), some (.int (x4 + nI 1))] [] N3)))))))))))) :
  PX G d m_X9_fourMoves Post 13 [some (.ref 56), some (.int x1), some (.int x2), some (.int x3), some (.int x4)] [] M := wp_ok [(2, [true, true, true, true, false]), (13, [true, true, true, true, true])] ok_X9_fourMoves tk_X9_fourMoves 300 _ _ _ _ h
set_option maxRecDepth 100000 in
theorem g_X9_game_0 {G : GG} {d : Nat} {Post : Option Value → PM → Prop} {M : PM} {x1 : Int32} {x2 : Int32} (h : PC G d m_X9_isPlank [.ref 56, .int x1] (wI M 56 0 (nI 0)) (fun v N1 => gI v (fun r1 => br (r1 = 0)
    (Post (some (.int (-1))) N1)
    (PC G d m_X9_in [.int x2, .int (nI 0), .int (nI 1)] N1 (fun v N2 => gI v (fun r2 => br (r2 = 0)
      (Post (some (.int (-1))) N2)
      (PX G d m_X9_game Post 29 [some (.ref 56), some (.int x1), some (.int x2), some (.int (nI 0)), some (.int (nI 0)), none] [] N2))))))) :
  PX G d m_X9_game Post 0 [some (.ref 56), some (.int x1), some (.int x2), none, none, none] [] M := wp_ok [(29, [true, true, true, true, true, false]), (149, [true, true, true, false, false, false])] ok_X9_game tk_X9_game 300 _ _ _ _ h
set_option maxRecDepth 100000 in
theorem g_X9_game_29 {G : GG} {d : Nat} {Post : Option Value → PM → Prop} {M : PM} {x1 : Int32} {x2 : Int32} {x3 : Int32} {x4 : Int32} (h : br ((M.1 56 15) ≤ x4)
    (PC G d m_X9_momentOf [.ref 56, .int x1] M (fun v N1 => gI v (fun r1 => br ((nI 4) < x3)
      (Post (some (.int (-2))) N1)
      (PC G d m_X9_tiltBy [.ref 56, .int x1, .int r1] N1 (fun v N2 => gI v (fun r2 => br (r2 = 0)
        (br (x3 = (nI 4))
          (PC G d m_X9_fourMoves [.ref 56, .int x1, .int r1] N2 (fun v N6 => gI v (fun r6 => PX G d m_X9_game Post 149 [some (.ref 56), some (.int x1), some (.int x2), none, none, none] [.int r6] N6)))
          (br (x3 = (nI 3))
            (PC G d m_X9_threeMoves [.ref 56, .int x1, .int (nI 0), .int (nI 0), .int r1] N2 (fun v N5 => gI v (fun r5 => PX G d m_X9_game Post 149 [some (.ref 56), some (.int x1), some (.int x2), none, none, none] [.int r5] N5)))
            (br (x3 = (nI 2))
              (PC G d m_X9_twoMoves [.ref 56, .int x1, .int (nI 0), .int (nI 0), .int r1] N2 (fun v N4 => gI v (fun r4 => PX G d m_X9_game Post 149 [some (.ref 56), some (.int x1), some (.int x2), none, none, none] [.int r4] N4)))
              (PC G d m_X9_lastMove [.ref 56, .int x1, .int (nI 0), .int (nI 0), .int r1] N2 (fun v N3 => gI v (fun r3 => PX G d m_X9_game Post 149 [some (.ref 56), some (.int x1), some (.int x2), none, none, none] [.int r3] N3))))))
        (Post (some (.int (-2))) N2)))))))
    (vp_in ((nI 0) + x4) 34 ∧ (br ((M.1 63 (((nI 0) + x4).toNatClampNeg)) = (-9 : Int32))
      (PX G d m_X9_game Post 29 [some (.ref 56), some (.int x1), some (.int x2), some (.int (x3 + (nI 1))), some (.int (x4 + nI 1)), none] [] M)
      (PX G d m_X9_game Post 29 [some (.ref 56), some (.int x1), some (.int x2), some (.int (x3 + (nI 0))), some (.int (x4 + nI 1)), none] [] M)))) :
  PX G d m_X9_game Post 29 [some (.ref 56), some (.int x1), some (.int x2), some (.int x3), some (.int x4), none] [] M := wp_ok [(29, [true, true, true, true, true, false]), (149, [true, true, true, false, false, false])] ok_X9_game tk_X9_game 300 _ _ _ _ h
set_option maxRecDepth 100000 in
theorem g_X9_game_149 {G : GG} {d : Nat} {Post : Option Value → PM → Prop} {M : PM} {x1 : Int32} {x2 : Int32} {y0 : Int32} (h : br (x2 = 0)
    (br (y0 = (-9 : Int32))
      (Post (some (.int (nI 0))) M)
      (Post (some (.int (nI 1))) M))
    (br (y0 = (-9 : Int32))
      (Post (some (.int (-9))) M)
      (¬ (nI 8) = 0 ∧ (¬ (nI 8) = 0 ∧ (PC G d m_X9_stepOf [.ref 56, .int x1, .int (y0 - y0 / (nI 8) * (nI 8))] M (fun v N1 => gI v (fun r1 => Post (some (.int ((((nI 100) * (y0 / (nI 8))) + r1) + (nI 4)))) N1))))))) :
  PX G d m_X9_game Post 149 [some (.ref 56), some (.int x1), some (.int x2), none, none, none] [.int y0] M := wp_ok [(29, [true, true, true, true, true, false]), (149, [true, true, true, false, false, false])] ok_X9_game tk_X9_game 300 _ _ _ _ h
set_option maxRecDepth 100000 in
theorem g_X9_isStranger_0 {G : GG} {d : Nat} {Post : Option Value → PM → Prop} {M : PM} {x1 : Int32} (h : PC G d m_X9_in [.int x1, .int (nI 0), .int ((M.1 56 27) - (nI 1))] M (fun v N1 => gI v (fun r1 => (r1 = 0 ∨ r1 = 1) ∧ Post (some (.int r1)) N1))) :
  PX G d m_X9_isStranger Post 0 [some (.ref 56), some (.int x1)] [] M := wp_ok [] ok_X9_isStranger tk_X9_isStranger 300 _ _ _ _ h
set_option maxRecDepth 100000 in
theorem g_X9_allWays_0 {G : GG} {d : Nat} {Post : Option Value → PM → Prop} {M : PM} (h : PX G d m_X9_allWays Post 4 [some (.ref 56), some (.int (nI 1)), some (.int (nI 0))] [] M) :
  PX G d m_X9_allWays Post 0 [some (.ref 56), none, none] [] M := wp_ok [(4, [true, true, true])] ok_X9_allWays tk_X9_allWays 300 _ _ _ _ h
set_option maxRecDepth 100000 in
theorem g_X9_allWays_4 {G : GG} {d : Nat} {Post : Option Value → PM → Prop} {M : PM} {x1 : Int32} {x2 : Int32} (h : br ((M.1 56 27) ≤ x2)
    (Post (some (.int x1)) M)
    (PX G d m_X9_allWays Post 4 [some (.ref 56), some (.int (x1 * (nI 6))), some (.int (x2 + nI 1))] [] M)) :
  PX G d m_X9_allWays Post 4 [some (.ref 56), some (.int x1), some (.int x2)] [] M := wp_ok [(4, [true, true, true])] ok_X9_allWays tk_X9_allWays 300 _ _ _ _ h
set_option maxRecDepth 100000 in
theorem g_X9_fits_0 {G : GG} {d : Nat} {Post : Option Value → PM → Prop} {M : PM} {x1 : Int32} (h : PX G d m_X9_fits Post 4 [some (.ref 56), some (.int x1), some (.int (nI 1)), some (.int (nI 0))] [] M) :
  PX G d m_X9_fits Post 0 [some (.ref 56), some (.int x1), none, none] [] M := wp_ok [(4, [true, true, true, true])] ok_X9_fits tk_X9_fits 300 _ _ _ _ h
set_option maxRecDepth 100000 in
theorem g_X9_fits_4 {G : GG} {d : Nat} {Post : Option Value → PM → Prop} {M : PM} {x1 : Int32} {x2 : Int32} {x3 : Int32} (h : br ((M.1 56 29) ≤ x3)
    ((x2 = 0 ∨ x2 = 1) ∧ Post (some (.int x2)) M)
    (br (x2 = 0)
      (PX G d m_X9_fits Post 4 [some (.ref 56), some (.int x1), some (.int (nI 0)), some (.int (x3 + nI 1))] [] M)
      (vp_in ((nI 3) * x3) 36 ∧ (vp_in (((nI 3) * x3) + (nI 1)) 36 ∧ (PC G d m_X9_weighs [.int x1, .int (M.1 69 (((nI 3) * x3).toNatClampNeg)), .int (M.1 69 ((((nI 3) * x3) + (nI 1)).toNatClampNeg))] M (fun v N1 => gI v (fun r1 => vp_in (((nI 3) * x3) + (nI 2)) 36 ∧ (br (r1 = (N1.1 69 ((((nI 3) * x3) + (nI 2)).toNatClampNeg)))
        (PX G d m_X9_fits Post 4 [some (.ref 56), some (.int x1), some (.int (nI 1)), some (.int (x3 + nI 1))] [] N1)
        (PX G d m_X9_fits Post 4 [some (.ref 56), some (.int x1), some (.int (nI 0)), some (.int (x3 + nI 1))] [] N1))))))))) :
  PX G d m_X9_fits Post 4 [some (.ref 56), some (.int x1), some (.int x2), some (.int x3)] [] M := wp_ok [(4, [true, true, true, true])] ok_X9_fits tk_X9_fits 300 _ _ _ _ h
set_option maxRecDepth 100000 in
theorem g_X9_couldBe_0 {G : GG} {d : Nat} {Post : Option Value → PM → Prop} {M : PM} {x1 : Int32} {x2 : Int32} (h : PX G d m_X9_couldBe Post 5 [some (.ref 56), some (.int x1), some (.int x2), some (.int (nI 0)), some (.int (nI 0))] [] M) :
  PX G d m_X9_couldBe Post 0 [some (.ref 56), some (.int x1), some (.int x2), none, none] [] M := wp_ok [(5, [true, true, true, true, true])] ok_X9_couldBe tk_X9_couldBe 300 _ _ _ _ h
set_option maxRecDepth 100000 in
theorem g_X9_couldBe_5 {G : GG} {d : Nat} {Post : Option Value → PM → Prop} {M : PM} {x1 : Int32} {x2 : Int32} {x3 : Int32} {x4 : Int32} (h : PC G d m_X9_allWays [.ref 56] M (fun v N1 => gI v (fun r1 => br (r1 ≤ x4)
    (Post (some (.int x3)) N1)
    (PC G d m_X9_fits [.ref 56, .int x4] N1 (fun v N2 => gI v (fun r2 => br (r2 = 0)
      (PX G d m_X9_couldBe Post 5 [some (.ref 56), some (.int x1), some (.int x2), some (.int (x3 + (nI 0))), some (.int (x4 + nI 1))] [] N2)
      (br (x1 = (-1 : Int32))
        (PX G d m_X9_couldBe Post 5 [some (.ref 56), some (.int x1), some (.int x2), some (.int (x3 + (nI 1))), some (.int (x4 + nI 1))] [] N2)
        (PC G d m_X9_weightIn [.int x4, .int x1] N2 (fun v N3 => gI v (fun r3 => br (r3 = x2)
          (PX G d m_X9_couldBe Post 5 [some (.ref 56), some (.int x1), some (.int x2), some (.int (x3 + (nI 1))), some (.int (x4 + nI 1))] [] N3)
          (PX G d m_X9_couldBe Post 5 [some (.ref 56), some (.int x1), some (.int x2), some (.int (x3 + (nI 0))), some (.int (x4 + nI 1))] [] N3))))))))))) :
  PX G d m_X9_couldBe Post 5 [some (.ref 56), some (.int x1), some (.int x2), some (.int x3), some (.int x4)] [] M := wp_ok [(5, [true, true, true, true, true])] ok_X9_couldBe tk_X9_couldBe 300 _ _ _ _ h
set_option maxRecDepth 100000 in
theorem g_X9_could_0 {G : GG} {d : Nat} {Post : Option Value → PM → Prop} {M : PM} {x1 : Int32} {x2 : Int32} (h : br (x1 = (-1 : Int32))
    (PC G d m_X9_in [.int x2, .int (nI 1), .int (nI 6)] (wI M 56 0 (nI 0)) (fun v N1 => gI v (fun r1 => br (r1 = 0)
      (Post (some (.int (-1))) N1)
      (PC G d m_X9_couldBe [.ref 56, .int x1, .int x2] N1 (fun v N2 => gI v (fun r2 => Post (some (.int r2)) N2))))))
    (PC G d m_X9_isStranger [.ref 56, .int x1] (wI M 56 0 (nI 0)) (fun v N3 => gI v (fun r3 => br (r3 = 0)
      (Post (some (.int (-1))) N3)
      (PC G d m_X9_in [.int x2, .int (nI 1), .int (nI 6)] N3 (fun v N4 => gI v (fun r4 => br (r4 = 0)
        (Post (some (.int (-1))) N4)
        (PC G d m_X9_couldBe [.ref 56, .int x1, .int x2] N4 (fun v N5 => gI v (fun r5 => Post (some (.int r5)) N5)))))))))) :
  PX G d m_X9_could Post 0 [some (.ref 56), some (.int x1), some (.int x2)] [] M := wp_ok [] ok_X9_could tk_X9_could 300 _ _ _ _ h
set_option maxRecDepth 100000 in
theorem g_X9_areAPair_0 {G : GG} {d : Nat} {Post : Option Value → PM → Prop} {M : PM} {x1 : Int32} {x2 : Int32} {x3 : Int32} (h : vp_in x2 16 ∧ (vp_in x3 16 ∧ (PC G d m_X9_size [.int ((M.1 60 x2.toNatClampNeg) - (M.1 60 x3.toNatClampNeg))] M (fun v N1 => gI v (fun r1 => vp_in x1 6 ∧ (br ((N1.1 59 x1.toNatClampNeg) < r1)
    (((nI 0) = 0 ∨ (nI 0) = 1) ∧ Post (some (.int (nI 0))) N1)
    (((nI 1) = 0 ∨ (nI 1) = 1) ∧ Post (some (.int (nI 1))) N1))))))) :
  PX G d m_X9_areAPair Post 0 [some (.ref 56), some (.int x1), some (.int x2), some (.int x3)] [] M := wp_ok [] ok_X9_areAPair tk_X9_areAPair 300 _ _ _ _ h
set_option maxRecDepth 100000 in
theorem g_X9_goesBy_0 {G : GG} {d : Nat} {Post : Option Value → PM → Prop} {M : PM} {x1 : Int32} (h : PX G d m_X9_goesBy Post 7 [some (.ref 56), some (.int x1), some (.int (nI 0)), none] [] (wI M 56 32 (nI 0))) :
  PX G d m_X9_goesBy Post 0 [some (.ref 56), some (.int x1), none, none] [] M := wp_ok [(7, [true, true, true, false]), (47, [true, true, true, false]), (68, [true, true, true, false]), (75, [true, true, true, true]), (134, [true, true, true, true])] ok_X9_goesBy tk_X9_goesBy 300 _ _ _ _ h
set_option maxRecDepth 100000 in
theorem g_X9_goesBy_7 {G : GG} {d : Nat} {Post : Option Value → PM → Prop} {M : PM} {x1 : Int32} {x2 : Int32} (h : br ((M.1 56 15) ≤ x2)
    (PX G d m_X9_goesBy Post 47 [some (.ref 56), some (.int x1), some (.int (nI 0)), none] [] M)
    (vp_in x2 8 ∧ (vp_in x2 8 ∧ (PX G d m_X9_goesBy Post 7 [some (.ref 56), some (.int x1), some (.int (x2 + nI 1)), none] [] (wI (wI (wI M 70 x2.toNatClampNeg (nI 0)) 71 x2.toNatClampNeg x2) 56 32 ((M.1 56 32) + (nI 1))))))) :
  PX G d m_X9_goesBy Post 7 [some (.ref 56), some (.int x1), some (.int x2), none] [] M := wp_ok [(7, [true, true, true, false]), (47, [true, true, true, false]), (68, [true, true, true, false]), (75, [true, true, true, true]), (134, [true, true, true, true])] ok_X9_goesBy tk_X9_goesBy 300 _ _ _ _ h
set_option maxRecDepth 100000 in
theorem g_X9_goesBy_47 {G : GG} {d : Nat} {Post : Option Value → PM → Prop} {M : PM} {x1 : Int32} {x2 : Int32} (h : br ((nI 3) ≤ x2)
    (PX G d m_X9_goesBy Post 68 [some (.ref 56), some (.int x1), some (.int (nI 0)), none] [] M)
    (vp_in x2 3 ∧ (PX G d m_X9_goesBy Post 47 [some (.ref 56), some (.int x1), some (.int (x2 + nI 1)), none] [] (wI M 72 x2.toNatClampNeg (-9))))) :
  PX G d m_X9_goesBy Post 47 [some (.ref 56), some (.int x1), some (.int x2), none] [] M := wp_ok [(7, [true, true, true, false]), (47, [true, true, true, false]), (68, [true, true, true, false]), (75, [true, true, true, true]), (134, [true, true, true, true])] ok_X9_goesBy tk_X9_goesBy 300 _ _ _ _ h
set_option maxRecDepth 100000 in
theorem g_X9_goesBy_68 {G : GG} {d : Nat} {Post : Option Value → PM → Prop} {M : PM} {x1 : Int32} {x2 : Int32} (h : br (x1 ≤ x2)
    (Post none M)
    (PX G d m_X9_goesBy Post 75 [some (.ref 56), some (.int x1), some (.int x2), some (.int (nI 0))] [] M)) :
  PX G d m_X9_goesBy Post 68 [some (.ref 56), some (.int x1), some (.int x2), none] [] M := wp_ok [(7, [true, true, true, false]), (47, [true, true, true, false]), (68, [true, true, true, false]), (75, [true, true, true, true]), (134, [true, true, true, true])] ok_X9_goesBy tk_X9_goesBy 300 _ _ _ _ h
set_option maxRecDepth 100000 in
theorem g_X9_goesBy_75 {G : GG} {d : Nat} {Post : Option Value → PM → Prop} {M : PM} {x1 : Int32} {x2 : Int32} {x3 : Int32} (h : br ((M.1 56 14) ≤ x3)
    (PX G d m_X9_goesBy Post 134 [some (.ref 56), some (.int x1), some (.int x2), some (.int (nI 0))] [] M)
    (vp_in x3 3 ∧ (br ((M.1 72 x3.toNatClampNeg) = (-9 : Int32))
      (vp_in x3 3 ∧ (br ((M.1 72 x3.toNatClampNeg) = (-9 : Int32))
        (PC G d m_X9_takesOn [.ref 56, .int x3, .int x2] M (fun v N1 => gN v (PX G d m_X9_goesBy Post 75 [some (.ref 56), some (.int x1), some (.int x2), some (.int (x3 + nI 1))] [] N1)))
        (PX G d m_X9_goesBy Post 75 [some (.ref 56), some (.int x1), some (.int x2), some (.int (x3 + nI 1))] [] M)))
      (vp_in x3 3 ∧ (br ((M.1 74 x3.toNatClampNeg) = x2)
        (PC G d m_X9_letsOff [.ref 56, .int x3] M (fun v N3 => gN v (vp_in x3 3 ∧ (br ((N3.1 72 x3.toNatClampNeg) = (-9 : Int32))
          (PC G d m_X9_takesOn [.ref 56, .int x3, .int x2] N3 (fun v N4 => gN v (PX G d m_X9_goesBy Post 75 [some (.ref 56), some (.int x1), some (.int x2), some (.int (x3 + nI 1))] [] N4)))
          (PX G d m_X9_goesBy Post 75 [some (.ref 56), some (.int x1), some (.int x2), some (.int (x3 + nI 1))] [] N3)))))
        (vp_in x3 3 ∧ (br ((M.1 72 x3.toNatClampNeg) = (-9 : Int32))
          (PC G d m_X9_takesOn [.ref 56, .int x3, .int x2] M (fun v N2 => gN v (PX G d m_X9_goesBy Post 75 [some (.ref 56), some (.int x1), some (.int x2), some (.int (x3 + nI 1))] [] N2)))
          (PX G d m_X9_goesBy Post 75 [some (.ref 56), some (.int x1), some (.int x2), some (.int (x3 + nI 1))] [] M)))))))) :
  PX G d m_X9_goesBy Post 75 [some (.ref 56), some (.int x1), some (.int x2), some (.int x3)] [] M := wp_ok [(7, [true, true, true, false]), (47, [true, true, true, false]), (68, [true, true, true, false]), (75, [true, true, true, true]), (134, [true, true, true, true])] ok_X9_goesBy tk_X9_goesBy 300 _ _ _ _ h
set_option maxRecDepth 100000 in
theorem g_X9_goesBy_134 {G : GG} {d : Nat} {Post : Option Value → PM → Prop} {M : PM} {x1 : Int32} {x2 : Int32} {x3 : Int32} (h : br ((M.1 56 14) ≤ x3)
    (PX G d m_X9_goesBy Post 68 [some (.ref 56), some (.int x1), some (.int (x2 + nI 1)), none] [] M)
    (vp_in x3 3 ∧ (br ((M.1 72 x3.toNatClampNeg) = (-9 : Int32))
      (PX G d m_X9_goesBy Post 134 [some (.ref 56), some (.int x1), some (.int x2), some (.int (x3 + nI 1))] [] M)
      (vp_in x3 3 ∧ (vp_in (M.1 72 x3.toNatClampNeg) 8 ∧ (vp_in (M.1 72 x3.toNatClampNeg) 8 ∧ (vp_in x3 3 ∧ (vp_in (M.1 73 x3.toNatClampNeg) 8 ∧ (vp_in (M.1 73 x3.toNatClampNeg) 8 ∧ (PX G d m_X9_goesBy Post 134 [some (.ref 56), some (.int x1), some (.int x2), some (.int (x3 + nI 1))] [] (wI (wI M 70 ((M.1 72 x3.toNatClampNeg).toNatClampNeg) ((M.1 70 ((M.1 72 x3.toNatClampNeg).toNatClampNeg)) + (nI 1))) 70 ((M.1 73 x3.toNatClampNeg).toNatClampNeg) (((wI M 70 ((M.1 72 x3.toNatClampNeg).toNatClampNeg) ((M.1 70 ((M.1 72 x3.toNatClampNeg).toNatClampNeg)) + (nI 1))).1 70 ((M.1 73 x3.toNatClampNeg).toNatClampNeg)) + (nI 1))))))))))))) :
  PX G d m_X9_goesBy Post 134 [some (.ref 56), some (.int x1), some (.int x2), some (.int x3)] [] M := wp_ok [(7, [true, true, true, false]), (47, [true, true, true, false]), (68, [true, true, true, false]), (75, [true, true, true, true]), (134, [true, true, true, true])] ok_X9_goesBy tk_X9_goesBy 300 _ _ _ _ h
set_option maxRecDepth 100000 in
theorem g_X9_forever_0 {G : GG} {d : Nat} {Post : Option Value → PM → Prop} {M : PM} (h : PX G d m_X9_forever Post 9 [some (.ref 56), some (.int (nI 0)), some (.int (nI 0)), none, none, none] [] (wI M 56 0 (nI 0))) :
  PX G d m_X9_forever Post 0 [some (.ref 56), none, none, none, none, none] [] M := wp_ok [(9, [true, true, true, false, false, false]), (22, [true, true, true, true, true, false]), (34, [true, true, true, true, true, true])] ok_X9_forever tk_X9_forever 300 _ _ _ _ h
set_option maxRecDepth 100000 in
theorem g_X9_forever_9 {G : GG} {d : Nat} {Post : Option Value → PM → Prop} {M : PM} {x1 : Int32} {x2 : Int32} (h : br ((M.1 56 15) ≤ x2)
    (Post (some (.int x1)) M)
    (PX G d m_X9_forever Post 22 [some (.ref 56), some (.int x1), some (.int x2), some (.int (nI 0)), some (.int (nI 0)), none] [] M)) :
  PX G d m_X9_forever Post 9 [some (.ref 56), some (.int x1), some (.int x2), none, none, none] [] M := wp_ok [(9, [true, true, true, false, false, false]), (22, [true, true, true, true, true, false]), (34, [true, true, true, true, true, true])] ok_X9_forever tk_X9_forever 300 _ _ _ _ h
set_option maxRecDepth 100000 in
theorem g_X9_forever_22 {G : GG} {d : Nat} {Post : Option Value → PM → Prop} {M : PM} {x1 : Int32} {x2 : Int32} {x3 : Int32} {x4 : Int32} (h : br ((M.1 56 15) ≤ x4)
    (br (x3 = 0)
      (PX G d m_X9_forever Post 9 [some (.ref 56), some (.int (x1 ||| ((nI 1) <<< (x2 &&& 31)))), some (.int (x2 + nI 1)), none, none, none] [] M)
      (PX G d m_X9_forever Post 9 [some (.ref 56), some (.int (x1 ||| (nI 0))), some (.int (x2 + nI 1)), none, none, none] [] M))
    (PX G d m_X9_forever Post 34 [some (.ref 56), some (.int x1), some (.int x2), some (.int x3), some (.int x4), some (.int (nI 0))] [] M)) :
  PX G d m_X9_forever Post 22 [some (.ref 56), some (.int x1), some (.int x2), some (.int x3), some (.int x4), none] [] M := wp_ok [(9, [true, true, true, false, false, false]), (22, [true, true, true, true, true, false]), (34, [true, true, true, true, true, true])] ok_X9_forever tk_X9_forever 300 _ _ _ _ h
set_option maxRecDepth 100000 in
theorem g_X9_forever_34 {G : GG} {d : Nat} {Post : Option Value → PM → Prop} {M : PM} {x1 : Int32} {x2 : Int32} {x3 : Int32} {x4 : Int32} {x5 : Int32} (h : br ((M.1 56 14) ≤ x5)
    (PX G d m_X9_forever Post 22 [some (.ref 56), some (.int x1), some (.int x2), some (.int x3), some (.int (x4 + nI 1)), none] [] M)
    (br (x3 = 0)
      (br (x2 = x4)
        (PX G d m_X9_forever Post 34 [some (.ref 56), some (.int x1), some (.int x2), some (.int (nI 0)), some (.int x4), some (.int (x5 + nI 1))] [] M)
        (PC G d m_X9_areAPair [.ref 56, .int x5, .int x2, .int x4] M (fun v N1 => gI v (fun r1 => br (r1 = 0)
          (PX G d m_X9_forever Post 34 [some (.ref 56), some (.int x1), some (.int x2), some (.int (nI 0)), some (.int x4), some (.int (x5 + nI 1))] [] N1)
          (PX G d m_X9_forever Post 34 [some (.ref 56), some (.int x1), some (.int x2), some (.int (nI 1)), some (.int x4), some (.int (x5 + nI 1))] [] N1)))))
      (PX G d m_X9_forever Post 34 [some (.ref 56), some (.int x1), some (.int x2), some (.int (nI 1)), some (.int x4), some (.int (x5 + nI 1))] [] M))) :
  PX G d m_X9_forever Post 34 [some (.ref 56), some (.int x1), some (.int x2), some (.int x3), some (.int x4), some (.int x5)] [] M := wp_ok [(9, [true, true, true, false, false, false]), (22, [true, true, true, true, true, false]), (34, [true, true, true, true, true, true])] ok_X9_forever tk_X9_forever 300 _ _ _ _ h
set_option maxRecDepth 100000 in
theorem g_X9_keep_0 {G : GG} {d : Nat} {Post : Option Value → PM → Prop} {M : PM} {x1 : Int32} (h : PC G d m_X9_in [.int x1, .int (nI 0), .int (nI 1)] (wI M 56 0 (nI 0)) (fun v N1 => gI v (fun r1 => br (r1 = 0)
    (Post (some (.int (-1))) N1)
    (PX G d m_X9_keep Post 18 [some (.ref 56), some (.int x1), some (.int (nI 0))] [] N1)))) :
  PX G d m_X9_keep Post 0 [some (.ref 56), some (.int x1), none] [] M := wp_ok [(18, [true, true, true])] ok_X9_keep tk_X9_keep 300 _ _ _ _ h
set_option maxRecDepth 100000 in
theorem g_X9_keep_18 {G : GG} {d : Nat} {Post : Option Value → PM → Prop} {M : PM} {x1 : Int32} {x2 : Int32} (h : br ((nI 34) ≤ x2)
    (vp_in x1 2 ∧ ((nI 1) = 0 ∨ (nI 1) = 1) ∧ (PC G d m_X9_sitting [.ref 56] (wI M 65 x1.toNatClampNeg (nI 1)) (fun v N1 => gI v (fun r1 => Post (some (.int r1)) N1))))
    (vp_in x2 34 ∧ (vp_in (((nI 34) * x1) + x2) 68 ∧ (PX G d m_X9_keep Post 18 [some (.ref 56), some (.int x1), some (.int (x2 + nI 1))] [] (wI M 64 ((((nI 34) * x1) + x2).toNatClampNeg) (M.1 63 x2.toNatClampNeg)))))) :
  PX G d m_X9_keep Post 18 [some (.ref 56), some (.int x1), some (.int x2)] [] M := wp_ok [(18, [true, true, true])] ok_X9_keep tk_X9_keep 300 _ _ _ _ h
set_option maxRecDepth 100000 in
theorem g_X9_back_0 {G : GG} {d : Nat} {Post : Option Value → PM → Prop} {M : PM} {x1 : Int32} (h : PC G d m_X9_in [.int x1, .int (nI 0), .int (nI 1)] (wI M 56 0 (nI 0)) (fun v N1 => gI v (fun r1 => br (r1 = 0)
    (Post (some (.int (-1))) N1)
    (vp_in x1 2 ∧ (br ((N1.1 65 x1.toNatClampNeg) = 0)
      (Post (some (.int (-2))) N1)
      (PX G d m_X9_back Post 30 [some (.ref 56), some (.int x1), some (.int (nI 0))] [] N1)))))) :
  PX G d m_X9_back Post 0 [some (.ref 56), some (.int x1), none] [] M := wp_ok [(30, [true, true, true])] ok_X9_back tk_X9_back 300 _ _ _ _ h
set_option maxRecDepth 100000 in
theorem g_X9_back_30 {G : GG} {d : Nat} {Post : Option Value → PM → Prop} {M : PM} {x1 : Int32} {x2 : Int32} (h : br ((nI 34) ≤ x2)
    (PC G d m_X9_sitting [.ref 56] M (fun v N1 => gI v (fun r1 => Post (some (.int r1)) N1)))
    (vp_in (((nI 34) * x1) + x2) 68 ∧ (vp_in x2 34 ∧ (PX G d m_X9_back Post 30 [some (.ref 56), some (.int x1), some (.int (x2 + nI 1))] [] (wI M 63 x2.toNatClampNeg (M.1 64 ((((nI 34) * x1) + x2).toNatClampNeg))))))) :
  PX G d m_X9_back Post 30 [some (.ref 56), some (.int x1), some (.int x2)] [] M := wp_ok [(30, [true, true, true])] ok_X9_back tk_X9_back 300 _ _ _ _ h
set_option maxRecDepth 100000 in
theorem g_X9_count_0 {G : GG} {d : Nat} {Post : Option Value → PM → Prop} {M : PM} {x1 : Int32} (h : br (x1 = 0)
    (Post (some (.int (M.1 56 14))) (wI M 56 0 (nI 0)))
    (br (x1 = (nI 1))
      (Post (some (.int (M.1 56 15))) (wI M 56 0 (nI 0)))
      (br (x1 = (nI 2))
        (Post (some (.int (M.1 56 16))) (wI M 56 0 (nI 0)))
        (br (x1 = (nI 3))
          (Post (some (.int (M.1 56 29))) (wI M 56 0 (nI 0)))
          (br (x1 = (nI 4))
            (Post (some (.int (M.1 56 27))) (wI M 56 0 (nI 0)))
            (br (x1 = (nI 5))
              (Post (some (.int (M.1 56 3))) (wI M 56 0 (nI 0)))
              (br (x1 = (nI 6))
                (PC G d m_X9_sitting [.ref 56] (wI M 56 0 (nI 0)) (fun v N1 => gI v (fun r1 => Post (some (.int r1)) N1)))
                (Post (some (.int (-1))) (wI M 56 0 (nI 0)))))))))) :
  PX G d m_X9_count Post 0 [some (.ref 56), some (.int x1)] [] M := wp_ok [] ok_X9_count tk_X9_count 300 _ _ _ _ h
