abbrev lawcuts : List (Nat × List Bool) := [(18, [true, true, true, true]), (156, [true, true, true, true]), (219, [true, true, true, true]), (232, [true, true, true, true]), (245, [true, true, true, true]), (278, [true, true, true, true]), (311, [true, true, true, true]), (344, [true, true, true, true]), (387, [true, true, true, true]), (410, [true, true, true, true]), (453, [true, true, true, true]), (476, [true, true, true, true]), (519, [true, true, true, true]), (552, [true, true, true, true]), (575, [true, true, true, true]), (608, [true, true, true, true]), (641, [true, true, true, true]), (664, [true, true, true, true]), (707, [true, true, true, true]), (740, [true, true, true, true]), (763, [true, true, true, true]), (786, [true, true, true, true]), (819, [true, true, true, true]), (832, [true, true, true, true]), (865, [true, true, true, true]), (888, [true, true, true, true]), (911, [true, true, true, true]), (934, [true, true, true, true])]
set_option maxRecDepth 100000 in
theorem gl_18 {G : GG} {d sb sl : Nat} {xs : Nat → Int32} {nc ns : Nat} {M : PM} {x3 : Int32} (h : br (((Int32.ofNat sl) - (nI 4)) < x3)
    (([.int (nI 1)] : List Value) = [.int 1])
    (vp_in x3 sl ∧ ((((xs x3.toNatClampNeg) &&& (nI 31)) = 0 → LX G d sb sl xs nc ns 156 [some (.ref 240), some (.ref 0), some (.ref 56), some (.int x3)] [] M) ∧
    (((xs x3.toNatClampNeg) &&& (nI 31)) = 1 → LX G d sb sl xs nc ns 219 [some (.ref 240), some (.ref 0), some (.ref 56), some (.int x3)] [] M) ∧
    (((xs x3.toNatClampNeg) &&& (nI 31)) = 2 → LX G d sb sl xs nc ns 232 [some (.ref 240), some (.ref 0), some (.ref 56), some (.int x3)] [] M) ∧
    (((xs x3.toNatClampNeg) &&& (nI 31)) = 3 → LX G d sb sl xs nc ns 245 [some (.ref 240), some (.ref 0), some (.ref 56), some (.int x3)] [] M) ∧
    (((xs x3.toNatClampNeg) &&& (nI 31)) = 4 → LX G d sb sl xs nc ns 278 [some (.ref 240), some (.ref 0), some (.ref 56), some (.int x3)] [] M) ∧
    (((xs x3.toNatClampNeg) &&& (nI 31)) = 5 → LX G d sb sl xs nc ns 311 [some (.ref 240), some (.ref 0), some (.ref 56), some (.int x3)] [] M) ∧
    (((xs x3.toNatClampNeg) &&& (nI 31)) = 6 → LX G d sb sl xs nc ns 344 [some (.ref 240), some (.ref 0), some (.ref 56), some (.int x3)] [] M) ∧
    (((xs x3.toNatClampNeg) &&& (nI 31)) = 7 → LX G d sb sl xs nc ns 387 [some (.ref 240), some (.ref 0), some (.ref 56), some (.int x3)] [] M) ∧
    (((xs x3.toNatClampNeg) &&& (nI 31)) = 8 → LX G d sb sl xs nc ns 410 [some (.ref 240), some (.ref 0), some (.ref 56), some (.int x3)] [] M) ∧
    (((xs x3.toNatClampNeg) &&& (nI 31)) = 9 → LX G d sb sl xs nc ns 453 [some (.ref 240), some (.ref 0), some (.ref 56), some (.int x3)] [] M) ∧
    (((xs x3.toNatClampNeg) &&& (nI 31)) = 10 → LX G d sb sl xs nc ns 476 [some (.ref 240), some (.ref 0), some (.ref 56), some (.int x3)] [] M) ∧
    (((xs x3.toNatClampNeg) &&& (nI 31)) = 11 → LX G d sb sl xs nc ns 519 [some (.ref 240), some (.ref 0), some (.ref 56), some (.int x3)] [] M) ∧
    (((xs x3.toNatClampNeg) &&& (nI 31)) = 12 → LX G d sb sl xs nc ns 552 [some (.ref 240), some (.ref 0), some (.ref 56), some (.int x3)] [] M) ∧
    (((xs x3.toNatClampNeg) &&& (nI 31)) = 13 → LX G d sb sl xs nc ns 575 [some (.ref 240), some (.ref 0), some (.ref 56), some (.int x3)] [] M) ∧
    (((xs x3.toNatClampNeg) &&& (nI 31)) = 14 → LX G d sb sl xs nc ns 608 [some (.ref 240), some (.ref 0), some (.ref 56), some (.int x3)] [] M) ∧
    (((xs x3.toNatClampNeg) &&& (nI 31)) = 15 → LX G d sb sl xs nc ns 641 [some (.ref 240), some (.ref 0), some (.ref 56), some (.int x3)] [] M) ∧
    (((xs x3.toNatClampNeg) &&& (nI 31)) = 16 → LX G d sb sl xs nc ns 664 [some (.ref 240), some (.ref 0), some (.ref 56), some (.int x3)] [] M) ∧
    (((xs x3.toNatClampNeg) &&& (nI 31)) = 17 → LX G d sb sl xs nc ns 707 [some (.ref 240), some (.ref 0), some (.ref 56), some (.int x3)] [] M) ∧
    (((xs x3.toNatClampNeg) &&& (nI 31)) = 18 → LX G d sb sl xs nc ns 740 [some (.ref 240), some (.ref 0), some (.ref 56), some (.int x3)] [] M) ∧
    (((xs x3.toNatClampNeg) &&& (nI 31)) = 19 → LX G d sb sl xs nc ns 763 [some (.ref 240), some (.ref 0), some (.ref 56), some (.int x3)] [] M) ∧
    (((xs x3.toNatClampNeg) &&& (nI 31)) = 20 → LX G d sb sl xs nc ns 786 [some (.ref 240), some (.ref 0), some (.ref 56), some (.int x3)] [] M) ∧
    (((xs x3.toNatClampNeg) &&& (nI 31)) = 21 → LX G d sb sl xs nc ns 819 [some (.ref 240), some (.ref 0), some (.ref 56), some (.int x3)] [] M) ∧
    (((xs x3.toNatClampNeg) &&& (nI 31)) = 22 → LX G d sb sl xs nc ns 832 [some (.ref 240), some (.ref 0), some (.ref 56), some (.int x3)] [] M) ∧
    (((xs x3.toNatClampNeg) &&& (nI 31)) = 23 → LX G d sb sl xs nc ns 865 [some (.ref 240), some (.ref 0), some (.ref 56), some (.int x3)] [] M) ∧
    (((xs x3.toNatClampNeg) &&& (nI 31)) = 24 → LX G d sb sl xs nc ns 888 [some (.ref 240), some (.ref 0), some (.ref 56), some (.int x3)] [] M) ∧
    (((xs x3.toNatClampNeg) &&& (nI 31)) = 25 → LX G d sb sl xs nc ns 911 [some (.ref 240), some (.ref 0), some (.ref 56), some (.int x3)] [] M) ∧
    (((xs x3.toNatClampNeg) &&& (nI 31)) = 26 → LX G d sb sl xs nc ns 934 [some (.ref 240), some (.ref 0), some (.ref 56), some (.int x3)] [] M) ∧
    ((((xs x3.toNatClampNeg) &&& (nI 31)).toInt < 0 ∨ 26 < ((xs x3.toNatClampNeg) &&& (nI 31)).toInt) → LX G d sb sl xs nc ns 18 [some (.ref 240), some (.ref 0), some (.ref 56), some (.int (x3 + nI 4))] [] M)))) :
  LX G d sb sl xs nc ns 18 [some (.ref 240), some (.ref 0), some (.ref 56), some (.int x3)] [] M := wpL_ok lawcuts tk_law 60 _ _ _ _ h
set_option maxRecDepth 100000 in
theorem gl_156 {G : GG} {d sb sl : Nat} {xs : Nat → Int32} {nc ns : Nat} {M : PM} {x3 : Int32} (h : vp_in (x3 + (nI 1)) sl ∧ (vp_in (x3 + (nI 2)) sl ∧ (vp_in (x3 + (nI 3)) sl ∧ (PC G d m_X8_type [.ref 0, .long ((((xs (x3 + (nI 1)).toNatClampNeg).toInt64) <<< ((nI 32).toInt64 &&& 63)) ||| (((xs (x3 + (nI 2)).toNatClampNeg).toInt64) &&& 4294967295)), .int (xs (x3 + (nI 3)).toNatClampNeg)] M (fun v N1 => gI v (fun r1 => vp_in (x3 + (nI 1)) sl ∧ (vp_in (x3 + (nI 2)) sl ∧ (vp_in (x3 + (nI 3)) sl ∧ (PC G d m_X9_type [.ref 56, .long ((((xs (x3 + (nI 1)).toNatClampNeg).toInt64) <<< ((nI 32).toInt64 &&& 63)) ||| (((xs (x3 + (nI 2)).toNatClampNeg).toInt64) &&& 4294967295)), .int (xs (x3 + (nI 3)).toNatClampNeg)] N1 (fun v N2 => gI v (fun r2 => br (r1 = r2)
    (LX G d sb sl xs nc ns 18 [some (.ref 240), some (.ref 0), some (.ref 56), some (.int (x3 + nI 4))] [] N2)
    (([.int (nI 0)] : List Value) = [.int 1])))))))))))) :
  LX G d sb sl xs nc ns 156 [some (.ref 240), some (.ref 0), some (.ref 56), some (.int x3)] [] M := wpL_ok lawcuts tk_law 60 _ _ _ _ h
set_option maxRecDepth 100000 in
theorem gl_219 {G : GG} {d sb sl : Nat} {xs : Nat → Int32} {nc ns : Nat} {M : PM} {x3 : Int32} (h : PC G d m_X8_clear [.ref 0] M (fun v N1 => gI v (fun r1 => PC G d m_X9_clear [.ref 56] N1 (fun v N2 => gI v (fun r2 => br (r1 = r2)
    (LX G d sb sl xs nc ns 18 [some (.ref 240), some (.ref 0), some (.ref 56), some (.int (x3 + nI 4))] [] N2)
    (([.int (nI 0)] : List Value) = [.int 1])))))) :
  LX G d sb sl xs nc ns 219 [some (.ref 240), some (.ref 0), some (.ref 56), some (.int x3)] [] M := wpL_ok lawcuts tk_law 60 _ _ _ _ h
set_option maxRecDepth 100000 in
theorem gl_232 {G : GG} {d sb sl : Nat} {xs : Nat → Int32} {nc ns : Nat} {M : PM} {x3 : Int32} (h : PC G d m_X8_park [.ref 0] M (fun v N1 => gI v (fun r1 => PC G d m_X9_park [.ref 56] N1 (fun v N2 => gI v (fun r2 => br (r1 = r2)
    (LX G d sb sl xs nc ns 18 [some (.ref 240), some (.ref 0), some (.ref 56), some (.int (x3 + nI 4))] [] N2)
    (([.int (nI 0)] : List Value) = [.int 1])))))) :
  LX G d sb sl xs nc ns 232 [some (.ref 240), some (.ref 0), some (.ref 56), some (.int x3)] [] M := wpL_ok lawcuts tk_law 60 _ _ _ _ h
set_option maxRecDepth 100000 in
theorem gl_245 {G : GG} {d sb sl : Nat} {xs : Nat → Int32} {nc ns : Nat} {M : PM} {x3 : Int32} (h : vp_in (x3 + (nI 1)) sl ∧ (vp_in (x3 + (nI 2)) sl ∧ (PC G d m_X8_plank [.ref 0, .int (xs (x3 + (nI 1)).toNatClampNeg), .int (xs (x3 + (nI 2)).toNatClampNeg)] M (fun v N1 => gI v (fun r1 => vp_in (x3 + (nI 1)) sl ∧ (vp_in (x3 + (nI 2)) sl ∧ (PC G d m_X9_plank [.ref 56, .int (xs (x3 + (nI 1)).toNatClampNeg), .int (xs (x3 + (nI 2)).toNatClampNeg)] N1 (fun v N2 => gI v (fun r2 => br (r1 = r2)
    (LX G d sb sl xs nc ns 18 [some (.ref 240), some (.ref 0), some (.ref 56), some (.int (x3 + nI 4))] [] N2)
    (([.int (nI 0)] : List Value) = [.int 1])))))))))) :
  LX G d sb sl xs nc ns 245 [some (.ref 240), some (.ref 0), some (.ref 56), some (.int x3)] [] M := wpL_ok lawcuts tk_law 60 _ _ _ _ h
set_option maxRecDepth 100000 in
theorem gl_278 {G : GG} {d sb sl : Nat} {xs : Nat → Int32} {nc ns : Nat} {M : PM} {x3 : Int32} (h : vp_in (x3 + (nI 1)) sl ∧ (vp_in (x3 + (nI 2)) sl ∧ (PC G d m_X8_child [.ref 0, .int (xs (x3 + (nI 1)).toNatClampNeg), .int (xs (x3 + (nI 2)).toNatClampNeg)] M (fun v N1 => gI v (fun r1 => vp_in (x3 + (nI 1)) sl ∧ (vp_in (x3 + (nI 2)) sl ∧ (PC G d m_X9_child [.ref 56, .int (xs (x3 + (nI 1)).toNatClampNeg), .int (xs (x3 + (nI 2)).toNatClampNeg)] N1 (fun v N2 => gI v (fun r2 => br (r1 = r2)
    (LX G d sb sl xs nc ns 18 [some (.ref 240), some (.ref 0), some (.ref 56), some (.int (x3 + nI 4))] [] N2)
    (([.int (nI 0)] : List Value) = [.int 1])))))))))) :
  LX G d sb sl xs nc ns 278 [some (.ref 240), some (.ref 0), some (.ref 56), some (.int x3)] [] M := wpL_ok lawcuts tk_law 60 _ _ _ _ h
set_option maxRecDepth 100000 in
theorem gl_311 {G : GG} {d sb sl : Nat} {xs : Nat → Int32} {nc ns : Nat} {M : PM} {x3 : Int32} (h : vp_in (x3 + (nI 1)) sl ∧ (vp_in (x3 + (nI 2)) sl ∧ (PC G d m_X8_stone [.ref 0, .int (xs (x3 + (nI 1)).toNatClampNeg), .int (xs (x3 + (nI 2)).toNatClampNeg)] M (fun v N1 => gI v (fun r1 => vp_in (x3 + (nI 1)) sl ∧ (vp_in (x3 + (nI 2)) sl ∧ (PC G d m_X9_stone [.ref 56, .int (xs (x3 + (nI 1)).toNatClampNeg), .int (xs (x3 + (nI 2)).toNatClampNeg)] N1 (fun v N2 => gI v (fun r2 => br (r1 = r2)
    (LX G d sb sl xs nc ns 18 [some (.ref 240), some (.ref 0), some (.ref 56), some (.int (x3 + nI 4))] [] N2)
    (([.int (nI 0)] : List Value) = [.int 1])))))))))) :
  LX G d sb sl xs nc ns 311 [some (.ref 240), some (.ref 0), some (.ref 56), some (.int x3)] [] M := wpL_ok lawcuts tk_law 60 _ _ _ _ h
set_option maxRecDepth 100000 in
theorem gl_344 {G : GG} {d sb sl : Nat} {xs : Nat → Int32} {nc ns : Nat} {M : PM} {x3 : Int32} (h : vp_in (x3 + (nI 1)) sl ∧ (vp_in (x3 + (nI 2)) sl ∧ (vp_in (x3 + (nI 3)) sl ∧ (PC G d m_X8_sits [.ref 0, .int (xs (x3 + (nI 1)).toNatClampNeg), .int (xs (x3 + (nI 2)).toNatClampNeg), .int (xs (x3 + (nI 3)).toNatClampNeg)] M (fun v N1 => gI v (fun r1 => vp_in (x3 + (nI 1)) sl ∧ (vp_in (x3 + (nI 2)) sl ∧ (vp_in (x3 + (nI 3)) sl ∧ (PC G d m_X9_sits [.ref 56, .int (xs (x3 + (nI 1)).toNatClampNeg), .int (xs (x3 + (nI 2)).toNatClampNeg), .int (xs (x3 + (nI 3)).toNatClampNeg)] N1 (fun v N2 => gI v (fun r2 => br (r1 = r2)
    (LX G d sb sl xs nc ns 18 [some (.ref 240), some (.ref 0), some (.ref 56), some (.int (x3 + nI 4))] [] N2)
    (([.int (nI 0)] : List Value) = [.int 1])))))))))))) :
  LX G d sb sl xs nc ns 344 [some (.ref 240), some (.ref 0), some (.ref 56), some (.int x3)] [] M := wpL_ok lawcuts tk_law 60 _ _ _ _ h
set_option maxRecDepth 100000 in
theorem gl_387 {G : GG} {d sb sl : Nat} {xs : Nat → Int32} {nc ns : Nat} {M : PM} {x3 : Int32} (h : vp_in (x3 + (nI 1)) sl ∧ (PC G d m_X8_leaves [.ref 0, .int (xs (x3 + (nI 1)).toNatClampNeg)] M (fun v N1 => gI v (fun r1 => vp_in (x3 + (nI 1)) sl ∧ (PC G d m_X9_leaves [.ref 56, .int (xs (x3 + (nI 1)).toNatClampNeg)] N1 (fun v N2 => gI v (fun r2 => br (r1 = r2)
    (LX G d sb sl xs nc ns 18 [some (.ref 240), some (.ref 0), some (.ref 56), some (.int (x3 + nI 4))] [] N2)
    (([.int (nI 0)] : List Value) = [.int 1])))))))) :
  LX G d sb sl xs nc ns 387 [some (.ref 240), some (.ref 0), some (.ref 56), some (.int x3)] [] M := wpL_ok lawcuts tk_law 60 _ _ _ _ h
set_option maxRecDepth 100000 in
theorem gl_410 {G : GG} {d sb sl : Nat} {xs : Nat → Int32} {nc ns : Nat} {M : PM} {x3 : Int32} (h : vp_in (x3 + (nI 1)) sl ∧ (vp_in (x3 + (nI 2)) sl ∧ (vp_in (x3 + (nI 3)) sl ∧ (PC G d m_X8_lay [.ref 0, .int (xs (x3 + (nI 1)).toNatClampNeg), .int (xs (x3 + (nI 2)).toNatClampNeg), .int (xs (x3 + (nI 3)).toNatClampNeg)] M (fun v N1 => gI v (fun r1 => vp_in (x3 + (nI 1)) sl ∧ (vp_in (x3 + (nI 2)) sl ∧ (vp_in (x3 + (nI 3)) sl ∧ (PC G d m_X9_lay [.ref 56, .int (xs (x3 + (nI 1)).toNatClampNeg), .int (xs (x3 + (nI 2)).toNatClampNeg), .int (xs (x3 + (nI 3)).toNatClampNeg)] N1 (fun v N2 => gI v (fun r2 => br (r1 = r2)
    (LX G d sb sl xs nc ns 18 [some (.ref 240), some (.ref 0), some (.ref 56), some (.int (x3 + nI 4))] [] N2)
    (([.int (nI 0)] : List Value) = [.int 1])))))))))))) :
  LX G d sb sl xs nc ns 410 [some (.ref 240), some (.ref 0), some (.ref 56), some (.int x3)] [] M := wpL_ok lawcuts tk_law 60 _ _ _ _ h
set_option maxRecDepth 100000 in
theorem gl_453 {G : GG} {d sb sl : Nat} {xs : Nat → Int32} {nc ns : Nat} {M : PM} {x3 : Int32} (h : vp_in (x3 + (nI 1)) sl ∧ (PC G d m_X8_take [.ref 0, .int (xs (x3 + (nI 1)).toNatClampNeg)] M (fun v N1 => gI v (fun r1 => vp_in (x3 + (nI 1)) sl ∧ (PC G d m_X9_take [.ref 56, .int (xs (x3 + (nI 1)).toNatClampNeg)] N1 (fun v N2 => gI v (fun r2 => br (r1 = r2)
    (LX G d sb sl xs nc ns 18 [some (.ref 240), some (.ref 0), some (.ref 56), some (.int (x3 + nI 4))] [] N2)
    (([.int (nI 0)] : List Value) = [.int 1])))))))) :
  LX G d sb sl xs nc ns 453 [some (.ref 240), some (.ref 0), some (.ref 56), some (.int x3)] [] M := wpL_ok lawcuts tk_law 60 _ _ _ _ h
set_option maxRecDepth 100000 in
theorem gl_476 {G : GG} {d sb sl : Nat} {xs : Nat → Int32} {nc ns : Nat} {M : PM} {x3 : Int32} (h : vp_in (x3 + (nI 1)) sl ∧ (vp_in (x3 + (nI 2)) sl ∧ (vp_in (x3 + (nI 3)) sl ∧ (PC G d m_X8_ways [.ref 0, .int (xs (x3 + (nI 1)).toNatClampNeg), .int (xs (x3 + (nI 2)).toNatClampNeg), .int (xs (x3 + (nI 3)).toNatClampNeg)] M (fun v N1 => gI v (fun r1 => vp_in (x3 + (nI 1)) sl ∧ (vp_in (x3 + (nI 2)) sl ∧ (vp_in (x3 + (nI 3)) sl ∧ (PC G d m_X9_ways [.ref 56, .int (xs (x3 + (nI 1)).toNatClampNeg), .int (xs (x3 + (nI 2)).toNatClampNeg), .int (xs (x3 + (nI 3)).toNatClampNeg)] N1 (fun v N2 => gI v (fun r2 => br (r1 = r2)
    (LX G d sb sl xs nc ns 18 [some (.ref 240), some (.ref 0), some (.ref 56), some (.int (x3 + nI 4))] [] N2)
    (([.int (nI 0)] : List Value) = [.int 1])))))))))))) :
  LX G d sb sl xs nc ns 476 [some (.ref 240), some (.ref 0), some (.ref 56), some (.int x3)] [] M := wpL_ok lawcuts tk_law 60 _ _ _ _ h
set_option maxRecDepth 100000 in
theorem gl_519 {G : GG} {d sb sl : Nat} {xs : Nat → Int32} {nc ns : Nat} {M : PM} {x3 : Int32} (h : vp_in (x3 + (nI 1)) sl ∧ (vp_in (x3 + (nI 2)) sl ∧ (PC G d m_X8_most [.ref 0, .int (xs (x3 + (nI 1)).toNatClampNeg), .int (xs (x3 + (nI 2)).toNatClampNeg)] M (fun v N1 => gI v (fun r1 => vp_in (x3 + (nI 1)) sl ∧ (vp_in (x3 + (nI 2)) sl ∧ (PC G d m_X9_most [.ref 56, .int (xs (x3 + (nI 1)).toNatClampNeg), .int (xs (x3 + (nI 2)).toNatClampNeg)] N1 (fun v N2 => gI v (fun r2 => br (r1 = r2)
    (LX G d sb sl xs nc ns 18 [some (.ref 240), some (.ref 0), some (.ref 56), some (.int (x3 + nI 4))] [] N2)
    (([.int (nI 0)] : List Value) = [.int 1])))))))))) :
  LX G d sb sl xs nc ns 519 [some (.ref 240), some (.ref 0), some (.ref 56), some (.int x3)] [] M := wpL_ok lawcuts tk_law 60 _ _ _ _ h
set_option maxRecDepth 100000 in
theorem gl_552 {G : GG} {d sb sl : Nat} {xs : Nat → Int32} {nc ns : Nat} {M : PM} {x3 : Int32} (h : vp_in (x3 + (nI 1)) sl ∧ (PC G d m_X8_moves [.ref 0, .int (xs (x3 + (nI 1)).toNatClampNeg)] M (fun v N1 => gI v (fun r1 => vp_in (x3 + (nI 1)) sl ∧ (PC G d m_X9_moves [.ref 56, .int (xs (x3 + (nI 1)).toNatClampNeg)] N1 (fun v N2 => gI v (fun r2 => br (r1 = r2)
    (LX G d sb sl xs nc ns 18 [some (.ref 240), some (.ref 0), some (.ref 56), some (.int (x3 + nI 4))] [] N2)
    (([.int (nI 0)] : List Value) = [.int 1])))))))) :
  LX G d sb sl xs nc ns 552 [some (.ref 240), some (.ref 0), some (.ref 56), some (.int x3)] [] M := wpL_ok lawcuts tk_law 60 _ _ _ _ h
set_option maxRecDepth 100000 in
theorem gl_575 {G : GG} {d sb sl : Nat} {xs : Nat → Int32} {nc ns : Nat} {M : PM} {x3 : Int32} (h : vp_in (x3 + (nI 1)) sl ∧ (vp_in (x3 + (nI 2)) sl ∧ (PC G d m_X8_ballast [.ref 0, .int (xs (x3 + (nI 1)).toNatClampNeg), .int (xs (x3 + (nI 2)).toNatClampNeg)] M (fun v N1 => gI v (fun r1 => vp_in (x3 + (nI 1)) sl ∧ (vp_in (x3 + (nI 2)) sl ∧ (PC G d m_X9_ballast [.ref 56, .int (xs (x3 + (nI 1)).toNatClampNeg), .int (xs (x3 + (nI 2)).toNatClampNeg)] N1 (fun v N2 => gI v (fun r2 => br (r1 = r2)
    (LX G d sb sl xs nc ns 18 [some (.ref 240), some (.ref 0), some (.ref 56), some (.int (x3 + nI 4))] [] N2)
    (([.int (nI 0)] : List Value) = [.int 1])))))))))) :
  LX G d sb sl xs nc ns 575 [some (.ref 240), some (.ref 0), some (.ref 56), some (.int x3)] [] M := wpL_ok lawcuts tk_law 60 _ _ _ _ h
set_option maxRecDepth 100000 in
theorem gl_608 {G : GG} {d sb sl : Nat} {xs : Nat → Int32} {nc ns : Nat} {M : PM} {x3 : Int32} (h : vp_in (x3 + (nI 1)) sl ∧ (vp_in (x3 + (nI 2)) sl ∧ (PC G d m_X8_game [.ref 0, .int (xs (x3 + (nI 1)).toNatClampNeg), .int (xs (x3 + (nI 2)).toNatClampNeg)] M (fun v N1 => gI v (fun r1 => vp_in (x3 + (nI 1)) sl ∧ (vp_in (x3 + (nI 2)) sl ∧ (PC G d m_X9_game [.ref 56, .int (xs (x3 + (nI 1)).toNatClampNeg), .int (xs (x3 + (nI 2)).toNatClampNeg)] N1 (fun v N2 => gI v (fun r2 => br (r1 = r2)
    (LX G d sb sl xs nc ns 18 [some (.ref 240), some (.ref 0), some (.ref 56), some (.int (x3 + nI 4))] [] N2)
    (([.int (nI 0)] : List Value) = [.int 1])))))))))) :
  LX G d sb sl xs nc ns 608 [some (.ref 240), some (.ref 0), some (.ref 56), some (.int x3)] [] M := wpL_ok lawcuts tk_law 60 _ _ _ _ h
set_option maxRecDepth 100000 in
theorem gl_641 {G : GG} {d sb sl : Nat} {xs : Nat → Int32} {nc ns : Nat} {M : PM} {x3 : Int32} (h : vp_in (x3 + (nI 1)) sl ∧ (PC G d m_X8_strangers [.ref 0, .int (xs (x3 + (nI 1)).toNatClampNeg)] M (fun v N1 => gI v (fun r1 => vp_in (x3 + (nI 1)) sl ∧ (PC G d m_X9_strangers [.ref 56, .int (xs (x3 + (nI 1)).toNatClampNeg)] N1 (fun v N2 => gI v (fun r2 => br (r1 = r2)
    (LX G d sb sl xs nc ns 18 [some (.ref 240), some (.ref 0), some (.ref 56), some (.int (x3 + nI 4))] [] N2)
    (([.int (nI 0)] : List Value) = [.int 1])))))))) :
  LX G d sb sl xs nc ns 641 [some (.ref 240), some (.ref 0), some (.ref 56), some (.int x3)] [] M := wpL_ok lawcuts tk_law 60 _ _ _ _ h
set_option maxRecDepth 100000 in
theorem gl_664 {G : GG} {d sb sl : Nat} {xs : Nat → Int32} {nc ns : Nat} {M : PM} {x3 : Int32} (h : vp_in (x3 + (nI 1)) sl ∧ (vp_in (x3 + (nI 2)) sl ∧ (vp_in (x3 + (nI 3)) sl ∧ (PC G d m_X8_trial [.ref 0, .int (xs (x3 + (nI 1)).toNatClampNeg), .int (xs (x3 + (nI 2)).toNatClampNeg), .int (xs (x3 + (nI 3)).toNatClampNeg)] M (fun v N1 => gI v (fun r1 => vp_in (x3 + (nI 1)) sl ∧ (vp_in (x3 + (nI 2)) sl ∧ (vp_in (x3 + (nI 3)) sl ∧ (PC G d m_X9_trial [.ref 56, .int (xs (x3 + (nI 1)).toNatClampNeg), .int (xs (x3 + (nI 2)).toNatClampNeg), .int (xs (x3 + (nI 3)).toNatClampNeg)] N1 (fun v N2 => gI v (fun r2 => br (r1 = r2)
    (LX G d sb sl xs nc ns 18 [some (.ref 240), some (.ref 0), some (.ref 56), some (.int (x3 + nI 4))] [] N2)
    (([.int (nI 0)] : List Value) = [.int 1])))))))))))) :
  LX G d sb sl xs nc ns 664 [some (.ref 240), some (.ref 0), some (.ref 56), some (.int x3)] [] M := wpL_ok lawcuts tk_law 60 _ _ _ _ h
set_option maxRecDepth 100000 in
theorem gl_707 {G : GG} {d sb sl : Nat} {xs : Nat → Int32} {nc ns : Nat} {M : PM} {x3 : Int32} (h : vp_in (x3 + (nI 1)) sl ∧ (vp_in (x3 + (nI 2)) sl ∧ (PC G d m_X8_could [.ref 0, .int (xs (x3 + (nI 1)).toNatClampNeg), .int (xs (x3 + (nI 2)).toNatClampNeg)] M (fun v N1 => gI v (fun r1 => vp_in (x3 + (nI 1)) sl ∧ (vp_in (x3 + (nI 2)) sl ∧ (PC G d m_X9_could [.ref 56, .int (xs (x3 + (nI 1)).toNatClampNeg), .int (xs (x3 + (nI 2)).toNatClampNeg)] N1 (fun v N2 => gI v (fun r2 => br (r1 = r2)
    (LX G d sb sl xs nc ns 18 [some (.ref 240), some (.ref 0), some (.ref 56), some (.int (x3 + nI 4))] [] N2)
    (([.int (nI 0)] : List Value) = [.int 1])))))))))) :
  LX G d sb sl xs nc ns 707 [some (.ref 240), some (.ref 0), some (.ref 56), some (.int x3)] [] M := wpL_ok lawcuts tk_law 60 _ _ _ _ h
set_option maxRecDepth 100000 in
theorem gl_740 {G : GG} {d sb sl : Nat} {xs : Nat → Int32} {nc ns : Nat} {M : PM} {x3 : Int32} (h : vp_in (x3 + (nI 1)) sl ∧ (PC G d m_X8_sure [.ref 0, .int (xs (x3 + (nI 1)).toNatClampNeg)] M (fun v N1 => gI v (fun r1 => vp_in (x3 + (nI 1)) sl ∧ (PC G d m_X9_sure [.ref 56, .int (xs (x3 + (nI 1)).toNatClampNeg)] N1 (fun v N2 => gI v (fun r2 => br (r1 = r2)
    (LX G d sb sl xs nc ns 18 [some (.ref 240), some (.ref 0), some (.ref 56), some (.int (x3 + nI 4))] [] N2)
    (([.int (nI 0)] : List Value) = [.int 1])))))))) :
  LX G d sb sl xs nc ns 740 [some (.ref 240), some (.ref 0), some (.ref 56), some (.int x3)] [] M := wpL_ok lawcuts tk_law 60 _ _ _ _ h
set_option maxRecDepth 100000 in
theorem gl_763 {G : GG} {d sb sl : Nat} {xs : Nat → Int32} {nc ns : Nat} {M : PM} {x3 : Int32} (h : vp_in (x3 + (nI 1)) sl ∧ (PC G d m_X8_next [.ref 0, .int (xs (x3 + (nI 1)).toNatClampNeg)] M (fun v N1 => gI v (fun r1 => vp_in (x3 + (nI 1)) sl ∧ (PC G d m_X9_next [.ref 56, .int (xs (x3 + (nI 1)).toNatClampNeg)] N1 (fun v N2 => gI v (fun r2 => br (r1 = r2)
    (LX G d sb sl xs nc ns 18 [some (.ref 240), some (.ref 0), some (.ref 56), some (.int (x3 + nI 4))] [] N2)
    (([.int (nI 0)] : List Value) = [.int 1])))))))) :
  LX G d sb sl xs nc ns 763 [some (.ref 240), some (.ref 0), some (.ref 56), some (.int x3)] [] M := wpL_ok lawcuts tk_law 60 _ _ _ _ h
set_option maxRecDepth 100000 in
theorem gl_786 {G : GG} {d sb sl : Nat} {xs : Nat → Int32} {nc ns : Nat} {M : PM} {x3 : Int32} (h : vp_in (x3 + (nI 1)) sl ∧ (vp_in (x3 + (nI 2)) sl ∧ (PC G d m_X8_rides [.ref 0, .int (xs (x3 + (nI 1)).toNatClampNeg), .int (xs (x3 + (nI 2)).toNatClampNeg)] M (fun v N1 => gI v (fun r1 => vp_in (x3 + (nI 1)) sl ∧ (vp_in (x3 + (nI 2)) sl ∧ (PC G d m_X9_rides [.ref 56, .int (xs (x3 + (nI 1)).toNatClampNeg), .int (xs (x3 + (nI 2)).toNatClampNeg)] N1 (fun v N2 => gI v (fun r2 => br (r1 = r2)
    (LX G d sb sl xs nc ns 18 [some (.ref 240), some (.ref 0), some (.ref 56), some (.int (x3 + nI 4))] [] N2)
    (([.int (nI 0)] : List Value) = [.int 1])))))))))) :
  LX G d sb sl xs nc ns 786 [some (.ref 240), some (.ref 0), some (.ref 56), some (.int x3)] [] M := wpL_ok lawcuts tk_law 60 _ _ _ _ h
set_option maxRecDepth 100000 in
theorem gl_819 {G : GG} {d sb sl : Nat} {xs : Nat → Int32} {nc ns : Nat} {M : PM} {x3 : Int32} (h : PC G d m_X8_forever [.ref 0] M (fun v N1 => gI v (fun r1 => PC G d m_X9_forever [.ref 56] N1 (fun v N2 => gI v (fun r2 => br (r1 = r2)
    (LX G d sb sl xs nc ns 18 [some (.ref 240), some (.ref 0), some (.ref 56), some (.int (x3 + nI 4))] [] N2)
    (([.int (nI 0)] : List Value) = [.int 1])))))) :
  LX G d sb sl xs nc ns 819 [some (.ref 240), some (.ref 0), some (.ref 56), some (.int x3)] [] M := wpL_ok lawcuts tk_law 60 _ _ _ _ h
set_option maxRecDepth 100000 in
theorem gl_832 {G : GG} {d sb sl : Nat} {xs : Nat → Int32} {nc ns : Nat} {M : PM} {x3 : Int32} (h : vp_in (x3 + (nI 1)) sl ∧ (vp_in (x3 + (nI 2)) sl ∧ (PC G d m_X8_rate [.ref 0, .int (xs (x3 + (nI 1)).toNatClampNeg), .int (xs (x3 + (nI 2)).toNatClampNeg)] M (fun v N1 => gI v (fun r1 => vp_in (x3 + (nI 1)) sl ∧ (vp_in (x3 + (nI 2)) sl ∧ (PC G d m_X9_rate [.ref 56, .int (xs (x3 + (nI 1)).toNatClampNeg), .int (xs (x3 + (nI 2)).toNatClampNeg)] N1 (fun v N2 => gI v (fun r2 => br (r1 = r2)
    (LX G d sb sl xs nc ns 18 [some (.ref 240), some (.ref 0), some (.ref 56), some (.int (x3 + nI 4))] [] N2)
    (([.int (nI 0)] : List Value) = [.int 1])))))))))) :
  LX G d sb sl xs nc ns 832 [some (.ref 240), some (.ref 0), some (.ref 56), some (.int x3)] [] M := wpL_ok lawcuts tk_law 60 _ _ _ _ h
set_option maxRecDepth 100000 in
theorem gl_865 {G : GG} {d sb sl : Nat} {xs : Nat → Int32} {nc ns : Nat} {M : PM} {x3 : Int32} (h : vp_in (x3 + (nI 1)) sl ∧ (PC G d m_X8_keep [.ref 0, .int (xs (x3 + (nI 1)).toNatClampNeg)] M (fun v N1 => gI v (fun r1 => vp_in (x3 + (nI 1)) sl ∧ (PC G d m_X9_keep [.ref 56, .int (xs (x3 + (nI 1)).toNatClampNeg)] N1 (fun v N2 => gI v (fun r2 => br (r1 = r2)
    (LX G d sb sl xs nc ns 18 [some (.ref 240), some (.ref 0), some (.ref 56), some (.int (x3 + nI 4))] [] N2)
    (([.int (nI 0)] : List Value) = [.int 1])))))))) :
  LX G d sb sl xs nc ns 865 [some (.ref 240), some (.ref 0), some (.ref 56), some (.int x3)] [] M := wpL_ok lawcuts tk_law 60 _ _ _ _ h
set_option maxRecDepth 100000 in
theorem gl_888 {G : GG} {d sb sl : Nat} {xs : Nat → Int32} {nc ns : Nat} {M : PM} {x3 : Int32} (h : vp_in (x3 + (nI 1)) sl ∧ (PC G d m_X8_back [.ref 0, .int (xs (x3 + (nI 1)).toNatClampNeg)] M (fun v N1 => gI v (fun r1 => vp_in (x3 + (nI 1)) sl ∧ (PC G d m_X9_back [.ref 56, .int (xs (x3 + (nI 1)).toNatClampNeg)] N1 (fun v N2 => gI v (fun r2 => br (r1 = r2)
    (LX G d sb sl xs nc ns 18 [some (.ref 240), some (.ref 0), some (.ref 56), some (.int (x3 + nI 4))] [] N2)
    (([.int (nI 0)] : List Value) = [.int 1])))))))) :
  LX G d sb sl xs nc ns 888 [some (.ref 240), some (.ref 0), some (.ref 56), some (.int x3)] [] M := wpL_ok lawcuts tk_law 60 _ _ _ _ h
set_option maxRecDepth 100000 in
theorem gl_911 {G : GG} {d sb sl : Nat} {xs : Nat → Int32} {nc ns : Nat} {M : PM} {x3 : Int32} (h : vp_in (x3 + (nI 1)) sl ∧ (PC G d m_X8_count [.ref 0, .int (xs (x3 + (nI 1)).toNatClampNeg)] M (fun v N1 => gI v (fun r1 => vp_in (x3 + (nI 1)) sl ∧ (PC G d m_X9_count [.ref 56, .int (xs (x3 + (nI 1)).toNatClampNeg)] N1 (fun v N2 => gI v (fun r2 => br (r1 = r2)
    (LX G d sb sl xs nc ns 18 [some (.ref 240), some (.ref 0), some (.ref 56), some (.int (x3 + nI 4))] [] N2)
    (([.int (nI 0)] : List Value) = [.int 1])))))))) :
  LX G d sb sl xs nc ns 911 [some (.ref 240), some (.ref 0), some (.ref 56), some (.int x3)] [] M := wpL_ok lawcuts tk_law 60 _ _ _ _ h
set_option maxRecDepth 100000 in
theorem gl_934 {G : GG} {d sb sl : Nat} {xs : Nat → Int32} {nc ns : Nat} {M : PM} {x3 : Int32} (h : PC G d m_X8_trace [.ref 0] M (fun v N1 => gL v (fun r1 => PC G d m_X9_trace [.ref 56] N1 (fun v N2 => gL v (fun r2 => br ((lg_cmp r1 r2) = 0)
    (LX G d sb sl xs nc ns 18 [some (.ref 240), some (.ref 0), some (.ref 56), some (.int (x3 + nI 4))] [] N2)
    (([.int (nI 0)] : List Value) = [.int 1])))))) :
  LX G d sb sl xs nc ns 934 [some (.ref 240), some (.ref 0), some (.ref 56), some (.int x3)] [] M := wpL_ok lawcuts tk_law 60 _ _ _ _ h
