/-! ===== the law as a pure function ===== -/
def sl_N (n : Nat) : Option Int32 := some (Int32.ofNat n)
def sl_I (n : Nat) (xs : Nat → Int32) (j : Int32) : Option Int32 := if 0 ≤ j.toInt ∧ j.toInt < n then some (xs j.toInt.toNat) else none
def lw_c0 (n : Nat) (xs : Nat → Int32) (p1 p2 p3 : Nat) (i : Int32) (jj : mm_T → Option (Int32 × mm_T)) (N : mm_T) : Option (Int32 × mm_T) :=
  (sl_I n xs (i + (1 : Int32))).bind fun x1 =>
  bd_2 (ff_Z_appendText p1 x1 p3 N) fun x2 M1 =>
  (sl_I n xs (i + (1 : Int32))).bind fun x3 =>
  bd_2 (ff_M_appendText p2 x3 M1) fun x4 M2 =>
  (ff_M_thrown p2 M2).bind fun x5 =>
  if x5 = x2 then (jp_J (α := Option (Int32 × mm_T)) (jj M2) fun j345 =>
  if x2 = 0 then ((ar_J M2 p3 (0 : Int32)).bind fun x6 =>
  if (lg_cmp x6 ((x4).toInt64)) = 0 then (j345) else (some ((0 : Int32), M2))) else (j345)) else (some ((0 : Int32), M2))

def lw_c1 (n : Nat) (xs : Nat → Int32) (p1 p2 p3 : Nat) (i : Int32) (jj : mm_T → Option (Int32 × mm_T)) (N : mm_T) : Option (Int32 × mm_T) :=
  (sl_I n xs (i + (1 : Int32))).bind fun x1 =>
  bd_2 (ff_Z_truncateText p1 x1 p3 N) fun x2 M1 =>
  (sl_I n xs (i + (1 : Int32))).bind fun x3 =>
  bd_2 (ff_M_truncateText p2 x3 M1) fun x4 M2 =>
  (ff_M_thrown p2 M2).bind fun x5 =>
  if x5 = x2 then (jp_J (α := Option (Int32 × mm_T)) (jj M2) fun j401 =>
  if x2 = 0 then ((ar_J M2 p3 (0 : Int32)).bind fun x6 =>
  if (lg_cmp x6 ((x4).toInt64)) = 0 then (j401) else (some ((0 : Int32), M2))) else (j401)) else (some ((0 : Int32), M2))

def lw_c2 (n : Nat) (xs : Nat → Int32) (p1 p2 p3 : Nat) (i : Int32) (jj : mm_T → Option (Int32 × mm_T)) (N : mm_T) : Option (Int32 × mm_T) :=
  bd_2 (ff_D_loadProgram p1 N) fun x1 M1 =>
  bd_2 (ff_M_loadProgram p2 M1) fun x2 M2 =>
  if x1 = x2 then (jj M2) else (some ((0 : Int32), M2))

def lw_c3 (n : Nat) (xs : Nat → Int32) (p1 p2 p3 : Nat) (i : Int32) (jj : mm_T → Option (Int32 × mm_T)) (N : mm_T) : Option (Int32 × mm_T) :=
  (ff_D_errorCode p1 N).bind fun x1 =>
  bd_2 (ff_M_errorCode p2 N) fun x2 M1 =>
  if x1 = x2 then (jj M1) else (some ((0 : Int32), M1))

def lw_c4 (n : Nat) (xs : Nat → Int32) (p1 p2 p3 : Nat) (i : Int32) (jj : mm_T → Option (Int32 × mm_T)) (N : mm_T) : Option (Int32 × mm_T) :=
  (ff_D_errorPosition p1 N).bind fun x1 =>
  bd_2 (ff_M_errorPosition p2 N) fun x2 M1 =>
  if x1 = x2 then (jj M1) else (some ((0 : Int32), M1))

def lw_c5 (n : Nat) (xs : Nat → Int32) (p1 p2 p3 : Nat) (i : Int32) (jj : mm_T → Option (Int32 × mm_T)) (N : mm_T) : Option (Int32 × mm_T) :=
  (ff_D_blockCount p1 N).bind fun x1 =>
  bd_2 (ff_M_blockCount p2 N) fun x2 M1 =>
  if x1 = x2 then (jj M1) else (some ((0 : Int32), M1))

def lw_c6 (n : Nat) (xs : Nat → Int32) (p1 p2 p3 : Nat) (i : Int32) (jj : mm_T → Option (Int32 × mm_T)) (N : mm_T) : Option (Int32 × mm_T) :=
  (ff_D_instructionCount p1 N).bind fun x1 =>
  bd_2 (ff_M_instructionCount p2 N) fun x2 M1 =>
  if x1 = x2 then (jj M1) else (some ((0 : Int32), M1))

def lw_c7 (n : Nat) (xs : Nat → Int32) (p1 p2 p3 : Nat) (i : Int32) (jj : mm_T → Option (Int32 × mm_T)) (N : mm_T) : Option (Int32 × mm_T) :=
  (sl_I n xs (i + (1 : Int32))).bind fun x1 =>
  bd_2 (ff_Z_instructionsIn p1 x1 p3 N) fun x2 M1 =>
  (sl_I n xs (i + (1 : Int32))).bind fun x3 =>
  bd_2 (ff_M_instructionsIn p2 x3 M1) fun x4 M2 =>
  (ff_M_thrown p2 M2).bind fun x5 =>
  if x5 = x2 then (jp_J (α := Option (Int32 × mm_T)) (jj M2) fun j522 =>
  if x2 = 0 then ((ar_J M2 p3 (0 : Int32)).bind fun x6 =>
  if (lg_cmp x6 ((x4).toInt64)) = 0 then (j522) else (some ((0 : Int32), M2))) else (j522)) else (some ((0 : Int32), M2))

def lw_c8 (n : Nat) (xs : Nat → Int32) (p1 p2 p3 : Nat) (i : Int32) (jj : mm_T → Option (Int32 × mm_T)) (N : mm_T) : Option (Int32 × mm_T) :=
  (sl_I n xs (i + (1 : Int32))).bind fun x1 =>
  bd_2 (ff_Z_blockOf p1 x1 p3 N) fun x2 M1 =>
  (sl_I n xs (i + (1 : Int32))).bind fun x3 =>
  bd_2 (ff_M_blockOf p2 x3 M1) fun x4 M2 =>
  (ff_M_thrown p2 M2).bind fun x5 =>
  if x5 = x2 then (jp_J (α := Option (Int32 × mm_T)) (jj M2) fun j578 =>
  if x2 = 0 then ((ar_J M2 p3 (0 : Int32)).bind fun x6 =>
  if (lg_cmp x6 ((x4).toInt64)) = 0 then (j578) else (some ((0 : Int32), M2))) else (j578)) else (some ((0 : Int32), M2))

def lw_c9 (n : Nat) (xs : Nat → Int32) (p1 p2 p3 : Nat) (i : Int32) (jj : mm_T → Option (Int32 × mm_T)) (N : mm_T) : Option (Int32 × mm_T) :=
  (sl_I n xs (i + (1 : Int32))).bind fun x1 =>
  bd_2 (ff_Z_kindOf p1 x1 p3 N) fun x2 M1 =>
  (sl_I n xs (i + (1 : Int32))).bind fun x3 =>
  bd_2 (ff_M_kindOf p2 x3 M1) fun x4 M2 =>
  (ff_M_thrown p2 M2).bind fun x5 =>
  if x5 = x2 then (jp_J (α := Option (Int32 × mm_T)) (jj M2) fun j634 =>
  if x2 = 0 then ((ar_J M2 p3 (0 : Int32)).bind fun x6 =>
  if (lg_cmp x6 ((x4).toInt64)) = 0 then (j634) else (some ((0 : Int32), M2))) else (j634)) else (some ((0 : Int32), M2))

def lw_c10 (n : Nat) (xs : Nat → Int32) (p1 p2 p3 : Nat) (i : Int32) (jj : mm_T → Option (Int32 × mm_T)) (N : mm_T) : Option (Int32 × mm_T) :=
  (sl_I n xs (i + (1 : Int32))).bind fun x1 =>
  (sl_I n xs (i + (2 : Int32))).bind fun x2 =>
  bd_2 (ff_Z_successor p1 x1 x2 p3 N) fun x3 M1 =>
  (sl_I n xs (i + (1 : Int32))).bind fun x4 =>
  (sl_I n xs (i + (2 : Int32))).bind fun x5 =>
  bd_2 (ff_M_successor p2 x4 x5 M1) fun x6 M2 =>
  (ff_M_thrown p2 M2).bind fun x7 =>
  if x7 = x3 then (jp_J (α := Option (Int32 × mm_T)) (jj M2) fun j702 =>
  if x3 = 0 then ((ar_J M2 p3 (0 : Int32)).bind fun x8 =>
  if (lg_cmp x8 ((x6).toInt64)) = 0 then (j702) else (some ((0 : Int32), M2))) else (j702)) else (some ((0 : Int32), M2))

def lw_c11 (n : Nat) (xs : Nat → Int32) (p1 p2 p3 : Nat) (i : Int32) (jj : mm_T → Option (Int32 × mm_T)) (N : mm_T) : Option (Int32 × mm_T) :=
  (sl_I n xs (i + (1 : Int32))).bind fun x1 =>
  bd_2 (ff_Z_predecessors p1 x1 p3 N) fun x2 M1 =>
  (sl_I n xs (i + (1 : Int32))).bind fun x3 =>
  bd_2 (ff_M_predecessors p2 x3 M1) fun x4 M2 =>
  (ff_M_thrown p2 M2).bind fun x5 =>
  if x5 = x2 then (jp_J (α := Option (Int32 × mm_T)) (jj M2) fun j758 =>
  if x2 = 0 then ((ar_J M2 p3 (0 : Int32)).bind fun x6 =>
  if (lg_cmp x6 ((x4).toInt64)) = 0 then (j758) else (some ((0 : Int32), M2))) else (j758)) else (some ((0 : Int32), M2))

def lw_c12 (n : Nat) (xs : Nat → Int32) (p1 p2 p3 : Nat) (i : Int32) (jj : mm_T → Option (Int32 × mm_T)) (N : mm_T) : Option (Int32 × mm_T) :=
  (sl_I n xs (i + (1 : Int32))).bind fun x1 =>
  bd_2 (ff_Z_isReachable p1 x1 p3 N) fun x2 M1 =>
  (sl_I n xs (i + (1 : Int32))).bind fun x3 =>
  bd_2 (ff_M_isReachable p2 x3 M1) fun x4 M2 =>
  (ff_M_thrown p2 M2).bind fun x5 =>
  if x5 = x2 then (jp_J (α := Option (Int32 × mm_T)) (jj M2) fun j821 =>
  if x2 = 0 then ((ar_J M2 p3 (0 : Int32)).bind fun x6 =>
  jp_J (α := Int64 → Option (Int32 × mm_T)) (fun (x7 : Int64) => if (lg_cmp x6 x7) = 0 then (j821) else (some ((0 : Int32), M2))) fun j815 =>
  if x4 = 0 then (j815 (0 : Int64)) else (j815 (1 : Int64))) else (j821)) else (some ((0 : Int32), M2))

def lw_c13 (n : Nat) (xs : Nat → Int32) (p1 p2 p3 : Nat) (i : Int32) (jj : mm_T → Option (Int32 × mm_T)) (N : mm_T) : Option (Int32 × mm_T) :=
  (sl_I n xs (i + (1 : Int32))).bind fun x1 =>
  bd_2 (ff_Z_distanceTo p1 x1 p3 N) fun x2 M1 =>
  (sl_I n xs (i + (1 : Int32))).bind fun x3 =>
  bd_2 (ff_M_distanceTo p2 x3 M1) fun x4 M2 =>
  (ff_M_thrown p2 M2).bind fun x5 =>
  if x5 = x2 then (jp_J (α := Option (Int32 × mm_T)) (jj M2) fun j877 =>
  if x2 = 0 then ((ar_J M2 p3 (0 : Int32)).bind fun x6 =>
  if (lg_cmp x6 ((x4).toInt64)) = 0 then (j877) else (some ((0 : Int32), M2))) else (j877)) else (some ((0 : Int32), M2))

def lw_c14 (n : Nat) (xs : Nat → Int32) (p1 p2 p3 : Nat) (i : Int32) (jj : mm_T → Option (Int32 × mm_T)) (N : mm_T) : Option (Int32 × mm_T) :=
  (sl_I n xs (i + (1 : Int32))).bind fun x1 =>
  (sl_I n xs (i + (2 : Int32))).bind fun x2 =>
  bd_2 (ff_Z_reaches p1 x1 x2 p3 N) fun x3 M1 =>
  (sl_I n xs (i + (1 : Int32))).bind fun x4 =>
  (sl_I n xs (i + (2 : Int32))).bind fun x5 =>
  bd_2 (ff_M_reaches p2 x4 x5 M1) fun x6 M2 =>
  (ff_M_thrown p2 M2).bind fun x7 =>
  if x7 = x3 then (jp_J (α := Option (Int32 × mm_T)) (jj M2) fun j952 =>
  if x3 = 0 then ((ar_J M2 p3 (0 : Int32)).bind fun x8 =>
  jp_J (α := Int64 → Option (Int32 × mm_T)) (fun (x9 : Int64) => if (lg_cmp x8 x9) = 0 then (j952) else (some ((0 : Int32), M2))) fun j946 =>
  if x6 = 0 then (j946 (0 : Int64)) else (j946 (1 : Int64))) else (j952)) else (some ((0 : Int32), M2))

def lw_c15 (n : Nat) (xs : Nat → Int32) (p1 p2 p3 : Nat) (i : Int32) (jj : mm_T → Option (Int32 × mm_T)) (N : mm_T) : Option (Int32 × mm_T) :=
  (sl_I n xs (i + (1 : Int32))).bind fun x1 =>
  (sl_I n xs (i + (2 : Int32))).bind fun x2 =>
  bd_2 (ff_Z_reachingDefinitions p1 x1 x2 p3 N) fun x3 M1 =>
  (sl_I n xs (i + (1 : Int32))).bind fun x4 =>
  (sl_I n xs (i + (2 : Int32))).bind fun x5 =>
  bd_2 (ff_M_reachingDefinitions p2 x4 x5 M1) fun x6 M2 =>
  (ff_M_thrown p2 M2).bind fun x7 =>
  if x7 = x3 then (jp_J (α := Option (Int32 × mm_T)) (jj M2) fun j1020 =>
  if x3 = 0 then ((ar_J M2 p3 (0 : Int32)).bind fun x8 =>
  if (lg_cmp x8 ((x6).toInt64)) = 0 then (j1020) else (some ((0 : Int32), M2))) else (j1020)) else (some ((0 : Int32), M2))

def lw_c16 (n : Nat) (xs : Nat → Int32) (p1 p2 p3 : Nat) (i : Int32) (jj : mm_T → Option (Int32 × mm_T)) (N : mm_T) : Option (Int32 × mm_T) :=
  (sl_I n xs (i + (1 : Int32))).bind fun x1 =>
  (sl_I n xs (i + (2 : Int32))).bind fun x2 =>
  bd_2 (ff_Z_isInitialReaching p1 x1 x2 p3 N) fun x3 M1 =>
  (sl_I n xs (i + (1 : Int32))).bind fun x4 =>
  (sl_I n xs (i + (2 : Int32))).bind fun x5 =>
  bd_2 (ff_M_isInitialReaching p2 x4 x5 M1) fun x6 M2 =>
  (ff_M_thrown p2 M2).bind fun x7 =>
  if x7 = x3 then (jp_J (α := Option (Int32 × mm_T)) (jj M2) fun j1095 =>
  if x3 = 0 then ((ar_J M2 p3 (0 : Int32)).bind fun x8 =>
  jp_J (α := Int64 → Option (Int32 × mm_T)) (fun (x9 : Int64) => if (lg_cmp x8 x9) = 0 then (j1095) else (some ((0 : Int32), M2))) fun j1089 =>
  if x6 = 0 then (j1089 (0 : Int64)) else (j1089 (1 : Int64))) else (j1095)) else (some ((0 : Int32), M2))

def lw_c17 (n : Nat) (xs : Nat → Int32) (p1 p2 p3 : Nat) (i : Int32) (jj : mm_T → Option (Int32 × mm_T)) (N : mm_T) : Option (Int32 × mm_T) :=
  (sl_I n xs (i + (1 : Int32))).bind fun x1 =>
  bd_2 (ff_Z_usesOf p1 x1 p3 N) fun x2 M1 =>
  (sl_I n xs (i + (1 : Int32))).bind fun x3 =>
  bd_2 (ff_M_usesOf p2 x3 M1) fun x4 M2 =>
  (ff_M_thrown p2 M2).bind fun x5 =>
  if x5 = x2 then (jp_J (α := Option (Int32 × mm_T)) (jj M2) fun j1151 =>
  if x2 = 0 then ((ar_J M2 p3 (0 : Int32)).bind fun x6 =>
  if (lg_cmp x6 ((x4).toInt64)) = 0 then (j1151) else (some ((0 : Int32), M2))) else (j1151)) else (some ((0 : Int32), M2))

def lw_c18 (n : Nat) (xs : Nat → Int32) (p1 p2 p3 : Nat) (i : Int32) (jj : mm_T → Option (Int32 × mm_T)) (N : mm_T) : Option (Int32 × mm_T) :=
  (sl_I n xs (i + (1 : Int32))).bind fun x1 =>
  (sl_I n xs (i + (2 : Int32))).bind fun x2 =>
  bd_2 (ff_Z_onlyDefinition p1 x1 x2 p3 N) fun x3 M1 =>
  (sl_I n xs (i + (1 : Int32))).bind fun x4 =>
  (sl_I n xs (i + (2 : Int32))).bind fun x5 =>
  bd_2 (ff_M_onlyDefinition p2 x4 x5 M1) fun x6 M2 =>
  (ff_M_thrown p2 M2).bind fun x7 =>
  if x7 = x3 then (jp_J (α := Option (Int32 × mm_T)) (jj M2) fun j1219 =>
  if x3 = 0 then ((ar_J M2 p3 (0 : Int32)).bind fun x8 =>
  if (lg_cmp x8 ((x6).toInt64)) = 0 then (j1219) else (some ((0 : Int32), M2))) else (j1219)) else (some ((0 : Int32), M2))

def lw_c19 (n : Nat) (xs : Nat → Int32) (p1 p2 p3 : Nat) (i : Int32) (jj : mm_T → Option (Int32 × mm_T)) (N : mm_T) : Option (Int32 × mm_T) :=
  (sl_I n xs (i + (1 : Int32))).bind fun x1 =>
  (sl_I n xs (i + (2 : Int32))).bind fun x2 =>
  bd_2 (ff_Z_isLiveIn p1 x1 x2 p3 N) fun x3 M1 =>
  (sl_I n xs (i + (1 : Int32))).bind fun x4 =>
  (sl_I n xs (i + (2 : Int32))).bind fun x5 =>
  bd_2 (ff_M_isLiveIn p2 x4 x5 M1) fun x6 M2 =>
  (ff_M_thrown p2 M2).bind fun x7 =>
  if x7 = x3 then (jp_J (α := Option (Int32 × mm_T)) (jj M2) fun j1294 =>
  if x3 = 0 then ((ar_J M2 p3 (0 : Int32)).bind fun x8 =>
  jp_J (α := Int64 → Option (Int32 × mm_T)) (fun (x9 : Int64) => if (lg_cmp x8 x9) = 0 then (j1294) else (some ((0 : Int32), M2))) fun j1288 =>
  if x6 = 0 then (j1288 (0 : Int64)) else (j1288 (1 : Int64))) else (j1294)) else (some ((0 : Int32), M2))

def lw_c20 (n : Nat) (xs : Nat → Int32) (p1 p2 p3 : Nat) (i : Int32) (jj : mm_T → Option (Int32 × mm_T)) (N : mm_T) : Option (Int32 × mm_T) :=
  (sl_I n xs (i + (1 : Int32))).bind fun x1 =>
  (sl_I n xs (i + (2 : Int32))).bind fun x2 =>
  bd_2 (ff_Z_isLiveOut p1 x1 x2 p3 N) fun x3 M1 =>
  (sl_I n xs (i + (1 : Int32))).bind fun x4 =>
  (sl_I n xs (i + (2 : Int32))).bind fun x5 =>
  bd_2 (ff_M_isLiveOut p2 x4 x5 M1) fun x6 M2 =>
  (ff_M_thrown p2 M2).bind fun x7 =>
  if x7 = x3 then (jp_J (α := Option (Int32 × mm_T)) (jj M2) fun j1369 =>
  if x3 = 0 then ((ar_J M2 p3 (0 : Int32)).bind fun x8 =>
  jp_J (α := Int64 → Option (Int32 × mm_T)) (fun (x9 : Int64) => if (lg_cmp x8 x9) = 0 then (j1369) else (some ((0 : Int32), M2))) fun j1363 =>
  if x6 = 0 then (j1363 (0 : Int64)) else (j1363 (1 : Int64))) else (j1369)) else (some ((0 : Int32), M2))

def lw_c21 (n : Nat) (xs : Nat → Int32) (p1 p2 p3 : Nat) (i : Int32) (jj : mm_T → Option (Int32 × mm_T)) (N : mm_T) : Option (Int32 × mm_T) :=
  (sl_I n xs (i + (1 : Int32))).bind fun x1 =>
  bd_2 (ff_Z_liveBefore p1 x1 p3 N) fun x2 M1 =>
  (sl_I n xs (i + (1 : Int32))).bind fun x3 =>
  bd_2 (ff_M_liveBefore p2 x3 M1) fun x4 M2 =>
  (ff_M_thrown p2 M2).bind fun x5 =>
  if x5 = x2 then (jp_J (α := Option (Int32 × mm_T)) (jj M2) fun j1425 =>
  if x2 = 0 then ((ar_J M2 p3 (0 : Int32)).bind fun x6 =>
  if (lg_cmp x6 ((x4).toInt64)) = 0 then (j1425) else (some ((0 : Int32), M2))) else (j1425)) else (some ((0 : Int32), M2))

def lw_c22 (n : Nat) (xs : Nat → Int32) (p1 p2 p3 : Nat) (i : Int32) (jj : mm_T → Option (Int32 × mm_T)) (N : mm_T) : Option (Int32 × mm_T) :=
  (sl_I n xs (i + (1 : Int32))).bind fun x1 =>
  bd_2 (ff_Z_isDead p1 x1 p3 N) fun x2 M1 =>
  (sl_I n xs (i + (1 : Int32))).bind fun x3 =>
  bd_2 (ff_M_isDead p2 x3 M1) fun x4 M2 =>
  (ff_M_thrown p2 M2).bind fun x5 =>
  if x5 = x2 then (jp_J (α := Option (Int32 × mm_T)) (jj M2) fun j1488 =>
  if x2 = 0 then ((ar_J M2 p3 (0 : Int32)).bind fun x6 =>
  jp_J (α := Int64 → Option (Int32 × mm_T)) (fun (x7 : Int64) => if (lg_cmp x6 x7) = 0 then (j1488) else (some ((0 : Int32), M2))) fun j1482 =>
  if x4 = 0 then (j1482 (0 : Int64)) else (j1482 (1 : Int64))) else (j1488)) else (some ((0 : Int32), M2))

def lw_c23 (n : Nat) (xs : Nat → Int32) (p1 p2 p3 : Nat) (i : Int32) (jj : mm_T → Option (Int32 × mm_T)) (N : mm_T) : Option (Int32 × mm_T) :=
  bd_2 (ff_D_deadDefinitions p1 N) fun x1 M1 =>
  bd_2 (ff_M_deadDefinitions p2 M1) fun x2 M2 =>
  if x1 = x2 then (jj M2) else (some ((0 : Int32), M2))

def lw_c24 (n : Nat) (xs : Nat → Int32) (p1 p2 p3 : Nat) (i : Int32) (jj : mm_T → Option (Int32 × mm_T)) (N : mm_T) : Option (Int32 × mm_T) :=
  bd_2 (ff_D_pressure p1 N) fun x1 M1 =>
  bd_2 (ff_M_pressure p2 M1) fun x2 M2 =>
  if x1 = x2 then (jj M2) else (some ((0 : Int32), M2))

def lw_c25 (n : Nat) (xs : Nat → Int32) (p1 p2 p3 : Nat) (i : Int32) (jj : mm_T → Option (Int32 × mm_T)) (N : mm_T) : Option (Int32 × mm_T) :=
  (sl_I n xs (i + (1 : Int32))).bind fun x1 =>
  (sl_I n xs (i + (2 : Int32))).bind fun x2 =>
  bd_2 (ff_Z_interfere p1 x1 x2 p3 N) fun x3 M1 =>
  (sl_I n xs (i + (1 : Int32))).bind fun x4 =>
  (sl_I n xs (i + (2 : Int32))).bind fun x5 =>
  bd_2 (ff_M_interfere p2 x4 x5 M1) fun x6 M2 =>
  (ff_M_thrown p2 M2).bind fun x7 =>
  if x7 = x3 then (jp_J (α := Option (Int32 × mm_T)) (jj M2) fun j1589 =>
  if x3 = 0 then ((ar_J M2 p3 (0 : Int32)).bind fun x8 =>
  jp_J (α := Int64 → Option (Int32 × mm_T)) (fun (x9 : Int64) => if (lg_cmp x8 x9) = 0 then (j1589) else (some ((0 : Int32), M2))) fun j1583 =>
  if x6 = 0 then (j1583 (0 : Int64)) else (j1583 (1 : Int64))) else (j1589)) else (some ((0 : Int32), M2))

def lw_c26 (n : Nat) (xs : Nat → Int32) (p1 p2 p3 : Nat) (i : Int32) (jj : mm_T → Option (Int32 × mm_T)) (N : mm_T) : Option (Int32 × mm_T) :=
  bd_2 (ff_D_expressionCount p1 N) fun x1 M1 =>
  bd_2 (ff_M_expressionCount p2 M1) fun x2 M2 =>
  if x1 = x2 then (jj M2) else (some ((0 : Int32), M2))

def lw_c27 (n : Nat) (xs : Nat → Int32) (p1 p2 p3 : Nat) (i : Int32) (jj : mm_T → Option (Int32 × mm_T)) (N : mm_T) : Option (Int32 × mm_T) :=
  (sl_I n xs (i + (1 : Int32))).bind fun x1 =>
  bd_2 (ff_Z_isRedundant p1 x1 p3 N) fun x2 M1 =>
  (sl_I n xs (i + (1 : Int32))).bind fun x3 =>
  bd_2 (ff_M_isRedundant p2 x3 M1) fun x4 M2 =>
  (ff_M_thrown p2 M2).bind fun x5 =>
  if x5 = x2 then (jp_J (α := Option (Int32 × mm_T)) (jj M2) fun j1665 =>
  if x2 = 0 then ((ar_J M2 p3 (0 : Int32)).bind fun x6 =>
  jp_J (α := Int64 → Option (Int32 × mm_T)) (fun (x7 : Int64) => if (lg_cmp x6 x7) = 0 then (j1665) else (some ((0 : Int32), M2))) fun j1659 =>
  if x4 = 0 then (j1659 (0 : Int64)) else (j1659 (1 : Int64))) else (j1665)) else (some ((0 : Int32), M2))

def lw_c28 (n : Nat) (xs : Nat → Int32) (p1 p2 p3 : Nat) (i : Int32) (jj : mm_T → Option (Int32 × mm_T)) (N : mm_T) : Option (Int32 × mm_T) :=
  bd_2 (ff_D_redundantCount p1 N) fun x1 M1 =>
  bd_2 (ff_M_redundantCount p2 M1) fun x2 M2 =>
  if x1 = x2 then (jj M2) else (some ((0 : Int32), M2))

def lw_c29 (n : Nat) (xs : Nat → Int32) (p1 p2 p3 : Nat) (i : Int32) (jj : mm_T → Option (Int32 × mm_T)) (N : mm_T) : Option (Int32 × mm_T) :=
  (sl_I n xs (i + (1 : Int32))).bind fun x1 =>
  bd_2 (ff_Z_availableAt p1 x1 p3 N) fun x2 M1 =>
  (sl_I n xs (i + (1 : Int32))).bind fun x3 =>
  bd_2 (ff_M_availableAt p2 x3 M1) fun x4 M2 =>
  (ff_M_thrown p2 M2).bind fun x5 =>
  if x5 = x2 then (jp_J (α := Option (Int32 × mm_T)) (jj M2) fun j1734 =>
  if x2 = 0 then ((ar_J M2 p3 (0 : Int32)).bind fun x6 =>
  if (lg_cmp x6 ((x4).toInt64)) = 0 then (j1734) else (some ((0 : Int32), M2))) else (j1734)) else (some ((0 : Int32), M2))

def lw_c30 (n : Nat) (xs : Nat → Int32) (p1 p2 p3 : Nat) (i : Int32) (jj : mm_T → Option (Int32 × mm_T)) (N : mm_T) : Option (Int32 × mm_T) :=
  (sl_I n xs (i + (1 : Int32))).bind fun x1 =>
  (sl_I n xs (i + (2 : Int32))).bind fun x2 =>
  bd_2 (ff_Z_dominates p1 x1 x2 p3 N) fun x3 M1 =>
  (sl_I n xs (i + (1 : Int32))).bind fun x4 =>
  (sl_I n xs (i + (2 : Int32))).bind fun x5 =>
  bd_2 (ff_M_dominates p2 x4 x5 M1) fun x6 M2 =>
  (ff_M_thrown p2 M2).bind fun x7 =>
  if x7 = x3 then (jp_J (α := Option (Int32 × mm_T)) (jj M2) fun j1809 =>
  if x3 = 0 then ((ar_J M2 p3 (0 : Int32)).bind fun x8 =>
  jp_J (α := Int64 → Option (Int32 × mm_T)) (fun (x9 : Int64) => if (lg_cmp x8 x9) = 0 then (j1809) else (some ((0 : Int32), M2))) fun j1803 =>
  if x6 = 0 then (j1803 (0 : Int64)) else (j1803 (1 : Int64))) else (j1809)) else (some ((0 : Int32), M2))

def lw_c31 (n : Nat) (xs : Nat → Int32) (p1 p2 p3 : Nat) (i : Int32) (jj : mm_T → Option (Int32 × mm_T)) (N : mm_T) : Option (Int32 × mm_T) :=
  (sl_I n xs (i + (1 : Int32))).bind fun x1 =>
  bd_2 (ff_Z_immediateDominator p1 x1 p3 N) fun x2 M1 =>
  (sl_I n xs (i + (1 : Int32))).bind fun x3 =>
  bd_2 (ff_M_immediateDominator p2 x3 M1) fun x4 M2 =>
  (ff_M_thrown p2 M2).bind fun x5 =>
  if x5 = x2 then (jp_J (α := Option (Int32 × mm_T)) (jj M2) fun j1865 =>
  if x2 = 0 then ((ar_J M2 p3 (0 : Int32)).bind fun x6 =>
  if (lg_cmp x6 ((x4).toInt64)) = 0 then (j1865) else (some ((0 : Int32), M2))) else (j1865)) else (some ((0 : Int32), M2))

def lw_c32 (n : Nat) (xs : Nat → Int32) (p1 p2 p3 : Nat) (i : Int32) (jj : mm_T → Option (Int32 × mm_T)) (N : mm_T) : Option (Int32 × mm_T) :=
  (sl_I n xs (i + (1 : Int32))).bind fun x1 =>
  (sl_I n xs (i + (2 : Int32))).bind fun x2 =>
  bd_2 (ff_Z_commonDominator p1 x1 x2 p3 N) fun x3 M1 =>
  (sl_I n xs (i + (1 : Int32))).bind fun x4 =>
  (sl_I n xs (i + (2 : Int32))).bind fun x5 =>
  bd_2 (ff_M_commonDominator p2 x4 x5 M1) fun x6 M2 =>
  (ff_M_thrown p2 M2).bind fun x7 =>
  if x7 = x3 then (jp_J (α := Option (Int32 × mm_T)) (jj M2) fun j1933 =>
  if x3 = 0 then ((ar_J M2 p3 (0 : Int32)).bind fun x8 =>
  if (lg_cmp x8 ((x6).toInt64)) = 0 then (j1933) else (some ((0 : Int32), M2))) else (j1933)) else (some ((0 : Int32), M2))

def lw_c33 (n : Nat) (xs : Nat → Int32) (p1 p2 p3 : Nat) (i : Int32) (jj : mm_T → Option (Int32 × mm_T)) (N : mm_T) : Option (Int32 × mm_T) :=
  bd_2 (ff_D_backEdges p1 N) fun x1 M1 =>
  bd_2 (ff_M_backEdges p2 M1) fun x2 M2 =>
  if x1 = x2 then (jj M2) else (some ((0 : Int32), M2))

def lw_c34 (n : Nat) (xs : Nat → Int32) (p1 p2 p3 : Nat) (i : Int32) (jj : mm_T → Option (Int32 × mm_T)) (N : mm_T) : Option (Int32 × mm_T) :=
  (sl_I n xs (i + (1 : Int32))).bind fun x1 =>
  bd_2 (ff_Z_loopSize p1 x1 p3 N) fun x2 M1 =>
  (sl_I n xs (i + (1 : Int32))).bind fun x3 =>
  bd_2 (ff_M_loopSize p2 x3 M1) fun x4 M2 =>
  (ff_M_thrown p2 M2).bind fun x5 =>
  if x5 = x2 then (jp_J (α := Option (Int32 × mm_T)) (jj M2) fun j2002 =>
  if x2 = 0 then ((ar_J M2 p3 (0 : Int32)).bind fun x6 =>
  if (lg_cmp x6 ((x4).toInt64)) = 0 then (j2002) else (some ((0 : Int32), M2))) else (j2002)) else (some ((0 : Int32), M2))

def lw_c35 (n : Nat) (xs : Nat → Int32) (p1 p2 p3 : Nat) (i : Int32) (jj : mm_T → Option (Int32 × mm_T)) (N : mm_T) : Option (Int32 × mm_T) :=
  (sl_I n xs (i + (1 : Int32))).bind fun x1 =>
  bd_2 (ff_Z_loopDepth p1 x1 p3 N) fun x2 M1 =>
  (sl_I n xs (i + (1 : Int32))).bind fun x3 =>
  bd_2 (ff_M_loopDepth p2 x3 M1) fun x4 M2 =>
  (ff_M_thrown p2 M2).bind fun x5 =>
  if x5 = x2 then (jp_J (α := Option (Int32 × mm_T)) (jj M2) fun j2058 =>
  if x2 = 0 then ((ar_J M2 p3 (0 : Int32)).bind fun x6 =>
  if (lg_cmp x6 ((x4).toInt64)) = 0 then (j2058) else (some ((0 : Int32), M2))) else (j2058)) else (some ((0 : Int32), M2))

def lw_c36 (n : Nat) (xs : Nat → Int32) (p1 p2 p3 : Nat) (i : Int32) (jj : mm_T → Option (Int32 × mm_T)) (N : mm_T) : Option (Int32 × mm_T) :=
  (sl_I n xs (i + (1 : Int32))).bind fun x1 =>
  (sl_I n xs (i + (2 : Int32))).bind fun x2 =>
  bd_2 (ff_Z_constantAt p1 x1 x2 p3 N) fun x3 M1 =>
  (sl_I n xs (i + (1 : Int32))).bind fun x4 =>
  (sl_I n xs (i + (2 : Int32))).bind fun x5 =>
  bd_2 (ff_M_constantAt p2 x4 x5 M1) fun x6 M2 =>
  (ff_M_thrown p2 M2).bind fun x7 =>
  if x7 = x3 then (jp_J (α := Option (Int32 × mm_T)) (jj M2) fun j2126 =>
  if x3 = 0 then ((ar_J M2 p3 (0 : Int32)).bind fun x8 =>
  if (lg_cmp x8 ((x6).toInt64)) = 0 then (j2126) else (some ((0 : Int32), M2))) else (j2126)) else (some ((0 : Int32), M2))

def lw_c37 (n : Nat) (xs : Nat → Int32) (p1 p2 p3 : Nat) (i : Int32) (jj : mm_T → Option (Int32 × mm_T)) (N : mm_T) : Option (Int32 × mm_T) :=
  (sl_I n xs (i + (1 : Int32))).bind fun x1 =>
  bd_2 (ff_Z_constantOf p1 x1 p3 N) fun x2 M1 =>
  (sl_I n xs (i + (1 : Int32))).bind fun x3 =>
  bd_2 (ff_M_constantOf p2 x3 M1) fun x4 M2 =>
  (ff_M_thrown p2 M2).bind fun x5 =>
  if x5 = x2 then (jp_J (α := Option (Int32 × mm_T)) (jj M2) fun j2182 =>
  if x2 = 0 then ((ar_J M2 p3 (0 : Int32)).bind fun x6 =>
  if (lg_cmp x6 ((x4).toInt64)) = 0 then (j2182) else (some ((0 : Int32), M2))) else (j2182)) else (some ((0 : Int32), M2))

def lw_c38 (n : Nat) (xs : Nat → Int32) (p1 p2 p3 : Nat) (i : Int32) (jj : mm_T → Option (Int32 × mm_T)) (N : mm_T) : Option (Int32 × mm_T) :=
  bd_2 (ff_D_decidedBranches p1 N) fun x1 M1 =>
  bd_2 (ff_M_decidedBranches p2 M1) fun x2 M2 =>
  if x1 = x2 then (jj M2) else (some ((0 : Int32), M2))

def lw_c39 (n : Nat) (xs : Nat → Int32) (p1 p2 p3 : Nat) (i : Int32) (jj : mm_T → Option (Int32 × mm_T)) (N : mm_T) : Option (Int32 × mm_T) :=
  (sl_I n xs (i + (1 : Int32))).bind fun x1 =>
  bd_2 (ff_Z_runSteps p1 x1 p3 N) fun x2 M1 =>
  (sl_I n xs (i + (1 : Int32))).bind fun x3 =>
  bd_2 (ff_M_runSteps p2 x3 M1) fun x4 M2 =>
  (ff_M_thrown p2 M2).bind fun x5 =>
  if x5 = x2 then (jp_J (α := Option (Int32 × mm_T)) (jj M2) fun j2251 =>
  if x2 = 0 then ((ar_J M2 p3 (0 : Int32)).bind fun x6 =>
  if (lg_cmp x6 ((x4).toInt64)) = 0 then (j2251) else (some ((0 : Int32), M2))) else (j2251)) else (some ((0 : Int32), M2))

def lw_c40 (n : Nat) (xs : Nat → Int32) (p1 p2 p3 : Nat) (i : Int32) (jj : mm_T → Option (Int32 × mm_T)) (N : mm_T) : Option (Int32 × mm_T) :=
  (sl_I n xs (i + (1 : Int32))).bind fun x1 =>
  bd_2 (ff_Z_runEnds p1 x1 p3 N) fun x2 M1 =>
  (sl_I n xs (i + (1 : Int32))).bind fun x3 =>
  bd_2 (ff_M_runEnds p2 x3 M1) fun x4 M2 =>
  (ff_M_thrown p2 M2).bind fun x5 =>
  if x5 = x2 then (jp_J (α := Option (Int32 × mm_T)) (jj M2) fun j2314 =>
  if x2 = 0 then ((ar_J M2 p3 (0 : Int32)).bind fun x6 =>
  jp_J (α := Int64 → Option (Int32 × mm_T)) (fun (x7 : Int64) => if (lg_cmp x6 x7) = 0 then (j2314) else (some ((0 : Int32), M2))) fun j2308 =>
  if x4 = 0 then (j2308 (0 : Int64)) else (j2308 (1 : Int64))) else (j2314)) else (some ((0 : Int32), M2))

def lw_c41 (n : Nat) (xs : Nat → Int32) (p1 p2 p3 : Nat) (i : Int32) (jj : mm_T → Option (Int32 × mm_T)) (N : mm_T) : Option (Int32 × mm_T) :=
  (sl_I n xs (i + (1 : Int32))).bind fun x1 =>
  (sl_I n xs (i + (2 : Int32))).bind fun x2 =>
  bd_2 (ff_Z_valueAfter p1 x1 x2 p3 N) fun x3 M1 =>
  (sl_I n xs (i + (1 : Int32))).bind fun x4 =>
  (sl_I n xs (i + (2 : Int32))).bind fun x5 =>
  bd_2 (ff_M_valueAfter p2 x4 x5 M1) fun x6 M2 =>
  (ff_M_thrown p2 M2).bind fun x7 =>
  if x7 = x3 then (jp_J (α := Option (Int32 × mm_T)) (jj M2) fun j2382 =>
  if x3 = 0 then ((ar_J M2 p3 (0 : Int32)).bind fun x8 =>
  if (lg_cmp x8 ((x6).toInt64)) = 0 then (j2382) else (some ((0 : Int32), M2))) else (j2382)) else (some ((0 : Int32), M2))

def lw_c42 (n : Nat) (xs : Nat → Int32) (p1 p2 p3 : Nat) (i : Int32) (jj : mm_T → Option (Int32 × mm_T)) (N : mm_T) : Option (Int32 × mm_T) :=
  (sl_I n xs (i + (1 : Int32))).bind fun x1 =>
  bd_2 (ff_Z_lastShown p1 x1 p3 N) fun x2 M1 =>
  (sl_I n xs (i + (1 : Int32))).bind fun x3 =>
  bd_2 (ff_M_lastShown p2 x3 M1) fun x4 M2 =>
  (ff_M_thrown p2 M2).bind fun x5 =>
  if x5 = x2 then (jp_J (α := Option (Int32 × mm_T)) (jj M2) fun j2438 =>
  if x2 = 0 then ((ar_J M2 p3 (0 : Int32)).bind fun x6 =>
  if (lg_cmp x6 ((x4).toInt64)) = 0 then (j2438) else (some ((0 : Int32), M2))) else (j2438)) else (some ((0 : Int32), M2))

def lw_c43 (n : Nat) (xs : Nat → Int32) (p1 p2 p3 : Nat) (i : Int32) (jj : mm_T → Option (Int32 × mm_T)) (N : mm_T) : Option (Int32 × mm_T) :=
  (sl_I n xs (i + (1 : Int32))).bind fun x1 =>
  (sl_I n xs (i + (2 : Int32))).bind fun x2 =>
  bd_2 (ff_Z_visits p1 x1 x2 p3 N) fun x3 M1 =>
  (sl_I n xs (i + (1 : Int32))).bind fun x4 =>
  (sl_I n xs (i + (2 : Int32))).bind fun x5 =>
  bd_2 (ff_M_visits p2 x4 x5 M1) fun x6 M2 =>
  (ff_M_thrown p2 M2).bind fun x7 =>
  if x7 = x3 then (jp_J (α := Option (Int32 × mm_T)) (jj M2) fun j2506 =>
  if x3 = 0 then ((ar_J M2 p3 (0 : Int32)).bind fun x8 =>
  if (lg_cmp x8 ((x6).toInt64)) = 0 then (j2506) else (some ((0 : Int32), M2))) else (j2506)) else (some ((0 : Int32), M2))

def lw_c44 (n : Nat) (xs : Nat → Int32) (p1 p2 p3 : Nat) (i : Int32) (jj : mm_T → Option (Int32 × mm_T)) (N : mm_T) : Option (Int32 × mm_T) :=
  bd_2 (ff_D_auditDifference p1 N) fun x1 M1 =>
  bd_2 (ff_M_auditDifference p2 M1) fun x2 M2 =>
  if x1 = x2 then (jj M2) else (some ((0 : Int32), M2))

def lw_c45 (n : Nat) (xs : Nat → Int32) (p1 p2 p3 : Nat) (i : Int32) (jj : mm_T → Option (Int32 × mm_T)) (N : mm_T) : Option (Int32 × mm_T) :=
  bd_2 (ff_D_deadShare p1 N) fun x1 M1 =>
  (do_f2d x1).bind fun x2 =>
  bd_2 (ff_M_deadShare p2 M1) fun x3 M2 =>
  (do_f2d x3).bind fun x4 =>
  jp_J (α := Option (Int32 × mm_T)) (jj M2) fun j2562 =>
  if (Op.cmpValue (FP.dcmp x2 x4) .l) = 0 then (j2562) else (if (Op.cmpValue (FP.dcmp x2 x2) .l) = 0 then (some ((0 : Int32), M2)) else (if (Op.cmpValue (FP.dcmp x4 x4) .l) = 0 then (some ((0 : Int32), M2)) else (j2562)))

def lw_c46 (n : Nat) (xs : Nat → Int32) (p1 p2 p3 : Nat) (i : Int32) (jj : mm_T → Option (Int32 × mm_T)) (N : mm_T) : Option (Int32 × mm_T) :=
  bd_2 (ff_D_meanLive p1 N) fun x1 M1 =>
  bd_2 (ff_M_meanLive p2 M1) fun x2 M2 =>
  jp_J (α := Option (Int32 × mm_T)) (jj M2) fun j2603 =>
  if (Op.cmpValue (FP.dcmp x1 x2) .l) = 0 then (j2603) else (if (Op.cmpValue (FP.dcmp x1 x1) .l) = 0 then (some ((0 : Int32), M2)) else (if (Op.cmpValue (FP.dcmp x2 x2) .l) = 0 then (some ((0 : Int32), M2)) else (j2603)))

def lw_c47 (n : Nat) (xs : Nat → Int32) (p1 p2 p3 : Nat) (i : Int32) (jj : mm_T → Option (Int32 × mm_T)) (N : mm_T) : Option (Int32 × mm_T) :=
  (sl_I n xs (i + (1 : Int32))).bind fun x1 =>
  (sl_I n xs (i + (2 : Int32))).bind fun x2 =>
  (sl_I n xs (i + (3 : Int32))).bind fun x3 =>
  (sl_I n xs (i + (4 : Int32))).bind fun x4 =>
  bd_2 (ff_Z_insertSet p1 x1 x2 x3 x4 p3 N) fun x5 M1 =>
  (sl_I n xs (i + (1 : Int32))).bind fun x6 =>
  (sl_I n xs (i + (2 : Int32))).bind fun x7 =>
  (sl_I n xs (i + (3 : Int32))).bind fun x8 =>
  (sl_I n xs (i + (4 : Int32))).bind fun x9 =>
  bd_2 (ff_M_insertSet p2 x6 x7 x8 x9 M1) fun x10 M2 =>
  (ff_M_thrown p2 M2).bind fun x11 =>
  if x11 = x5 then (jp_J (α := Option (Int32 × mm_T)) (jj M2) fun j2695 =>
  if x5 = 0 then ((ar_J M2 p3 (0 : Int32)).bind fun x12 =>
  if (lg_cmp x12 ((x10).toInt64)) = 0 then (j2695) else (some ((0 : Int32), M2))) else (j2695)) else (some ((0 : Int32), M2))

def lw_c48 (n : Nat) (xs : Nat → Int32) (p1 p2 p3 : Nat) (i : Int32) (jj : mm_T → Option (Int32 × mm_T)) (N : mm_T) : Option (Int32 × mm_T) :=
  (sl_I n xs (i + (1 : Int32))).bind fun x1 =>
  (sl_I n xs (i + (2 : Int32))).bind fun x2 =>
  (sl_I n xs (i + (3 : Int32))).bind fun x3 =>
  (sl_I n xs (i + (4 : Int32))).bind fun x4 =>
  (sl_I n xs (i + (5 : Int32))).bind fun x5 =>
  (sl_I n xs (i + (6 : Int32))).bind fun x6 =>
  bd_2 (ff_Z_insertCalc p1 x1 x2 x3 x4 x5 x6 p3 N) fun x7 M1 =>
  (sl_I n xs (i + (1 : Int32))).bind fun x8 =>
  (sl_I n xs (i + (2 : Int32))).bind fun x9 =>
  (sl_I n xs (i + (3 : Int32))).bind fun x10 =>
  (sl_I n xs (i + (4 : Int32))).bind fun x11 =>
  (sl_I n xs (i + (5 : Int32))).bind fun x12 =>
  (sl_I n xs (i + (6 : Int32))).bind fun x13 =>
  bd_2 (ff_M_insertCalc p2 x8 x9 x10 x11 x12 x13 M1) fun x14 M2 =>
  (ff_M_thrown p2 M2).bind fun x15 =>
  if x15 = x7 then (jp_J (α := Option (Int32 × mm_T)) (jj M2) fun j2813 =>
  if x7 = 0 then ((ar_J M2 p3 (0 : Int32)).bind fun x16 =>
  if (lg_cmp x16 ((x14).toInt64)) = 0 then (j2813) else (some ((0 : Int32), M2))) else (j2813)) else (some ((0 : Int32), M2))

def lw_c49 (n : Nat) (xs : Nat → Int32) (p1 p2 p3 : Nat) (i : Int32) (jj : mm_T → Option (Int32 × mm_T)) (N : mm_T) : Option (Int32 × mm_T) :=
  (sl_I n xs (i + (1 : Int32))).bind fun x1 =>
  bd_2 (ff_Z_removeInstruction p1 x1 p3 N) fun x2 M1 =>
  (sl_I n xs (i + (1 : Int32))).bind fun x3 =>
  bd_2 (ff_M_removeInstruction p2 x3 M1) fun x4 M2 =>
  (ff_M_thrown p2 M2).bind fun x5 =>
  if x5 = x2 then (jp_J (α := Option (Int32 × mm_T)) (jj M2) fun j2869 =>
  if x2 = 0 then ((ar_J M2 p3 (0 : Int32)).bind fun x6 =>
  if (lg_cmp x6 ((x4).toInt64)) = 0 then (j2869) else (some ((0 : Int32), M2))) else (j2869)) else (some ((0 : Int32), M2))

def lw_c50 (n : Nat) (xs : Nat → Int32) (p1 p2 p3 : Nat) (i : Int32) (jj : mm_T → Option (Int32 × mm_T)) (N : mm_T) : Option (Int32 × mm_T) :=
  (sl_I n xs (i + (1 : Int32))).bind fun x1 =>
  (sl_I n xs (i + (2 : Int32))).bind fun x2 =>
  bd_2 (ff_Z_setGoto p1 x1 x2 p3 N) fun x3 M1 =>
  (sl_I n xs (i + (1 : Int32))).bind fun x4 =>
  (sl_I n xs (i + (2 : Int32))).bind fun x5 =>
  bd_2 (ff_M_setGoto p2 x4 x5 M1) fun x6 M2 =>
  (ff_M_thrown p2 M2).bind fun x7 =>
  if x7 = x3 then (jp_J (α := Option (Int32 × mm_T)) (jj M2) fun j2937 =>
  if x3 = 0 then ((ar_J M2 p3 (0 : Int32)).bind fun x8 =>
  if (lg_cmp x8 ((x6).toInt64)) = 0 then (j2937) else (some ((0 : Int32), M2))) else (j2937)) else (some ((0 : Int32), M2))

def lw_c51 (n : Nat) (xs : Nat → Int32) (p1 p2 p3 : Nat) (i : Int32) (jj : mm_T → Option (Int32 × mm_T)) (N : mm_T) : Option (Int32 × mm_T) :=
  (sl_I n xs (i + (1 : Int32))).bind fun x1 =>
  (sl_I n xs (i + (2 : Int32))).bind fun x2 =>
  (sl_I n xs (i + (3 : Int32))).bind fun x3 =>
  (sl_I n xs (i + (4 : Int32))).bind fun x4 =>
  bd_2 (ff_Z_setBranch p1 x1 x2 x3 x4 p3 N) fun x5 M1 =>
  (sl_I n xs (i + (1 : Int32))).bind fun x6 =>
  (sl_I n xs (i + (2 : Int32))).bind fun x7 =>
  (sl_I n xs (i + (3 : Int32))).bind fun x8 =>
  (sl_I n xs (i + (4 : Int32))).bind fun x9 =>
  bd_2 (ff_M_setBranch p2 x6 x7 x8 x9 M1) fun x10 M2 =>
  (ff_M_thrown p2 M2).bind fun x11 =>
  if x11 = x5 then (jp_J (α := Option (Int32 × mm_T)) (jj M2) fun j3029 =>
  if x5 = 0 then ((ar_J M2 p3 (0 : Int32)).bind fun x12 =>
  if (lg_cmp x12 ((x10).toInt64)) = 0 then (j3029) else (some ((0 : Int32), M2))) else (j3029)) else (some ((0 : Int32), M2))

def lw_c52 (n : Nat) (xs : Nat → Int32) (p1 p2 p3 : Nat) (i : Int32) (jj : mm_T → Option (Int32 × mm_T)) (N : mm_T) : Option (Int32 × mm_T) :=
  bd_2 (ff_D_removeDead p1 N) fun x1 M1 =>
  bd_2 (ff_M_removeDead p2 M1) fun x2 M2 =>
  if x1 = x2 then (jj M2) else (some ((0 : Int32), M2))

def lw_c53 (n : Nat) (xs : Nat → Int32) (p1 p2 p3 : Nat) (i : Int32) (jj : mm_T → Option (Int32 × mm_T)) (N : mm_T) : Option (Int32 × mm_T) :=
  bd_2 (ff_D_foldConstants p1 N) fun x1 M1 =>
  bd_2 (ff_M_foldConstants p2 M1) fun x2 M2 =>
  if x1 = x2 then (jj M2) else (some ((0 : Int32), M2))

def lw_c54 (n : Nat) (xs : Nat → Int32) (p1 p2 p3 : Nat) (i : Int32) (jj : mm_T → Option (Int32 × mm_T)) (N : mm_T) : Option (Int32 × mm_T) :=
  (sl_I n xs (i + (1 : Int32))).bind fun x1 =>
  bd_2 (ff_Z_writeBlock p1 x1 p3 N) fun x2 M1 =>
  (sl_I n xs (i + (1 : Int32))).bind fun x3 =>
  bd_2 (ff_M_writeBlock p2 x3 M1) fun x4 M2 =>
  (ff_M_thrown p2 M2).bind fun x5 =>
  if x5 = x2 then (jp_J (α := Option (Int32 × mm_T)) (jj M2) fun j3111 =>
  if x2 = 0 then ((ar_J M2 p3 (0 : Int32)).bind fun x6 =>
  if (lg_cmp x6 ((x4).toInt64)) = 0 then (j3111) else (some ((0 : Int32), M2))) else (j3111)) else (some ((0 : Int32), M2))

def lw_c55 (n : Nat) (xs : Nat → Int32) (p1 p2 p3 : Nat) (i : Int32) (jj : mm_T → Option (Int32 × mm_T)) (N : mm_T) : Option (Int32 × mm_T) :=
  (sl_I n xs (i + (1 : Int32))).bind fun x1 =>
  (ff_D_outputByte p1 x1 N).bind fun x2 =>
  (sl_I n xs (i + (1 : Int32))).bind fun x3 =>
  bd_2 (ff_M_outputByte p2 x3 N) fun x4 M1 =>
  if x2 = x4 then (jj M1) else (some ((0 : Int32), M1))

def lw_c56 (n : Nat) (xs : Nat → Int32) (p1 p2 p3 : Nat) (i : Int32) (jj : mm_T → Option (Int32 × mm_T)) (N : mm_T) : Option (Int32 × mm_T) :=
  bd_2 (ff_Z_undo p1 p3 N) fun x1 M1 =>
  bd_2 (ff_M_undo p2 M1) fun x2 M2 =>
  (ff_M_thrown p2 M2).bind fun x3 =>
  if x3 = x1 then (jp_J (α := Option (Int32 × mm_T)) (jj M2) fun j3180 =>
  if x1 = 0 then ((ar_J M2 p3 (0 : Int32)).bind fun x4 =>
  if (lg_cmp x4 ((x2).toInt64)) = 0 then (j3180) else (some ((0 : Int32), M2))) else (j3180)) else (some ((0 : Int32), M2))

def lw_c57 (n : Nat) (xs : Nat → Int32) (p1 p2 p3 : Nat) (i : Int32) (jj : mm_T → Option (Int32 × mm_T)) (N : mm_T) : Option (Int32 × mm_T) :=
  (sl_I n xs (i + (1 : Int32))).bind fun x1 =>
  bd_2 (ff_Z_saveSnapshot p1 x1 N) fun x2 M1 =>
  (sl_I n xs (i + (1 : Int32))).bind fun x3 =>
  (ff_M_saveSnapshot p2 x3 M1).bind fun M2 =>
  (ff_M_thrown p2 M2).bind fun x4 =>
  if x4 = x2 then (jj M2) else (some ((0 : Int32), M2))

def lw_c58 (n : Nat) (xs : Nat → Int32) (p1 p2 p3 : Nat) (i : Int32) (jj : mm_T → Option (Int32 × mm_T)) (N : mm_T) : Option (Int32 × mm_T) :=
  (sl_I n xs (i + (1 : Int32))).bind fun x1 =>
  bd_2 (ff_Z_restoreSnapshot p1 x1 N) fun x2 M1 =>
  (sl_I n xs (i + (1 : Int32))).bind fun x3 =>
  (ff_M_restoreSnapshot p2 x3 M1).bind fun M2 =>
  (ff_M_thrown p2 M2).bind fun x4 =>
  if x4 = x2 then (jj M2) else (some ((0 : Int32), M2))
def lw_b (n : Nat) (xs : Nat → Int32) (p1 p2 p3 : Nat) (rec : Int32 → mm_T → Option (Int32 × mm_T)) (q4 : Int32) (N : mm_T) : Option (Int32 × mm_T) :=
  jp_J (α := mm_T → Option (Int32 × mm_T)) (fun N =>
  (some (q4 + (7 : Int32))).bind fun x1 =>
  rec x1 N) fun jj =>
  (sl_N n).bind fun x2 =>
  if (x2 - (7 : Int32)) < q4 then (some ((1 : Int32), N)) else ((sl_I n xs q4).bind fun x3 =>
  (some (x3 &&& (63 : Int32))).bind fun x4 =>
  if x4 = (0 : Int32) then (lw_c0 n xs p1 p2 p3 q4 jj N) else (if x4 = (1 : Int32) then (lw_c1 n xs p1 p2 p3 q4 jj N) else (if x4 = (2 : Int32) then (lw_c2 n xs p1 p2 p3 q4 jj N) else (if x4 = (3 : Int32) then (lw_c3 n xs p1 p2 p3 q4 jj N) else (if x4 = (4 : Int32) then (lw_c4 n xs p1 p2 p3 q4 jj N) else (if x4 = (5 : Int32) then (lw_c5 n xs p1 p2 p3 q4 jj N) else (if x4 = (6 : Int32) then (lw_c6 n xs p1 p2 p3 q4 jj N) else (if x4 = (7 : Int32) then (lw_c7 n xs p1 p2 p3 q4 jj N) else (if x4 = (8 : Int32) then (lw_c8 n xs p1 p2 p3 q4 jj N) else (if x4 = (9 : Int32) then (lw_c9 n xs p1 p2 p3 q4 jj N) else (if x4 = (10 : Int32) then (lw_c10 n xs p1 p2 p3 q4 jj N) else (if x4 = (11 : Int32) then (lw_c11 n xs p1 p2 p3 q4 jj N) else (if x4 = (12 : Int32) then (lw_c12 n xs p1 p2 p3 q4 jj N) else (if x4 = (13 : Int32) then (lw_c13 n xs p1 p2 p3 q4 jj N) else (if x4 = (14 : Int32) then (lw_c14 n xs p1 p2 p3 q4 jj N) else (if x4 = (15 : Int32) then (lw_c15 n xs p1 p2 p3 q4 jj N) else (if x4 = (16 : Int32) then (lw_c16 n xs p1 p2 p3 q4 jj N) else (if x4 = (17 : Int32) then (lw_c17 n xs p1 p2 p3 q4 jj N) else (if x4 = (18 : Int32) then (lw_c18 n xs p1 p2 p3 q4 jj N) else (if x4 = (19 : Int32) then (lw_c19 n xs p1 p2 p3 q4 jj N) else (if x4 = (20 : Int32) then (lw_c20 n xs p1 p2 p3 q4 jj N) else (if x4 = (21 : Int32) then (lw_c21 n xs p1 p2 p3 q4 jj N) else (if x4 = (22 : Int32) then (lw_c22 n xs p1 p2 p3 q4 jj N) else (if x4 = (23 : Int32) then (lw_c23 n xs p1 p2 p3 q4 jj N) else (if x4 = (24 : Int32) then (lw_c24 n xs p1 p2 p3 q4 jj N) else (if x4 = (25 : Int32) then (lw_c25 n xs p1 p2 p3 q4 jj N) else (if x4 = (26 : Int32) then (lw_c26 n xs p1 p2 p3 q4 jj N) else (if x4 = (27 : Int32) then (lw_c27 n xs p1 p2 p3 q4 jj N) else (if x4 = (28 : Int32) then (lw_c28 n xs p1 p2 p3 q4 jj N) else (if x4 = (29 : Int32) then (lw_c29 n xs p1 p2 p3 q4 jj N) else (if x4 = (30 : Int32) then (lw_c30 n xs p1 p2 p3 q4 jj N) else (if x4 = (31 : Int32) then (lw_c31 n xs p1 p2 p3 q4 jj N) else (if x4 = (32 : Int32) then (lw_c32 n xs p1 p2 p3 q4 jj N) else (if x4 = (33 : Int32) then (lw_c33 n xs p1 p2 p3 q4 jj N) else (if x4 = (34 : Int32) then (lw_c34 n xs p1 p2 p3 q4 jj N) else (if x4 = (35 : Int32) then (lw_c35 n xs p1 p2 p3 q4 jj N) else (if x4 = (36 : Int32) then (lw_c36 n xs p1 p2 p3 q4 jj N) else (if x4 = (37 : Int32) then (lw_c37 n xs p1 p2 p3 q4 jj N) else (if x4 = (38 : Int32) then (lw_c38 n xs p1 p2 p3 q4 jj N) else (if x4 = (39 : Int32) then (lw_c39 n xs p1 p2 p3 q4 jj N) else (if x4 = (40 : Int32) then (lw_c40 n xs p1 p2 p3 q4 jj N) else (if x4 = (41 : Int32) then (lw_c41 n xs p1 p2 p3 q4 jj N) else (if x4 = (42 : Int32) then (lw_c42 n xs p1 p2 p3 q4 jj N) else (if x4 = (43 : Int32) then (lw_c43 n xs p1 p2 p3 q4 jj N) else (if x4 = (44 : Int32) then (lw_c44 n xs p1 p2 p3 q4 jj N) else (if x4 = (45 : Int32) then (lw_c45 n xs p1 p2 p3 q4 jj N) else (if x4 = (46 : Int32) then (lw_c46 n xs p1 p2 p3 q4 jj N) else (if x4 = (47 : Int32) then (lw_c47 n xs p1 p2 p3 q4 jj N) else (if x4 = (48 : Int32) then (lw_c48 n xs p1 p2 p3 q4 jj N) else (if x4 = (49 : Int32) then (lw_c49 n xs p1 p2 p3 q4 jj N) else (if x4 = (50 : Int32) then (lw_c50 n xs p1 p2 p3 q4 jj N) else (if x4 = (51 : Int32) then (lw_c51 n xs p1 p2 p3 q4 jj N) else (if x4 = (52 : Int32) then (lw_c52 n xs p1 p2 p3 q4 jj N) else (if x4 = (53 : Int32) then (lw_c53 n xs p1 p2 p3 q4 jj N) else (if x4 = (54 : Int32) then (lw_c54 n xs p1 p2 p3 q4 jj N) else (if x4 = (55 : Int32) then (lw_c55 n xs p1 p2 p3 q4 jj N) else (if x4 = (56 : Int32) then (lw_c56 n xs p1 p2 p3 q4 jj N) else (if x4 = (57 : Int32) then (lw_c57 n xs p1 p2 p3 q4 jj N) else (if x4 = (58 : Int32) then (lw_c58 n xs p1 p2 p3 q4 jj N) else ((jj N)))))))))))))))))))))))))))))))))))))))))))))))))))))))))))))
def lw_f (n : Nat) (xs : Nat → Int32) (p1 p2 p3 : Nat) : Nat → Int32 → mm_T → Option (Int32 × mm_T)
  | 0, _, _ => none
  | fu + 1, q4, N => lw_b n xs p1 p2 p3 (lw_f n xs p1 p2 p3 fu) q4 N
def lw_e (M : mm_T) (k0 : Nat → Nat → Nat → Int32 → mm_T → Option (Int32 × mm_T)) : Option (Int32 × mm_T) :=
  bd_2 (no_C 10 M) fun x1 M1 =>
  (ff_D_init x1 M1).bind fun M2 =>
  bd_2 (no_C 11 M2) fun x2 M3 =>
  (ff_M_init x2 M3).bind fun M4 =>
  bd_2 (na_K 21 M4 (1 : Int32)) fun x3 M5 =>
  k0 x1 x2 x3 (0 : Int32) M5
def ff_Z_law (n : Nat) (xs : Nat → Int32) (M : mm_T) : Option (Int32 × mm_T) := lw_e M fun p1 p2 p3 q4 N => lw_f n xs p1 p2 p3 1000 q4 N
