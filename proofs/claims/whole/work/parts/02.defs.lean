/-! ===== what every method does, as a pure function ===== -/
def ff_P_init (t : Nat) (M : mm_T) : Option (mm_T) :=
  gd_G M t 7 (
  bd_2 (na_K 20 M (40 : Int32)) fun x1 M1 =>
  (pf_R M1 t 7 2 x1).bind fun M2 =>
  bd_2 (na_K 20 M2 (13 : Int32)) fun x2 M3 =>
  (pf_R M3 t 7 3 x2).bind fun M4 =>
  bd_2 (na_K 20 M4 (12 : Int32)) fun x3 M5 =>
  (pf_R M5 t 7 4 x3).bind fun M6 =>
  bd_2 (na_K 20 M6 (12 : Int32)) fun x4 M7 =>
  (pf_R M7 t 7 5 x4).bind fun M8 =>
  bd_2 (na_K 20 M8 (12 : Int32)) fun x5 M9 =>
  (pf_R M9 t 7 6 x5).bind fun M10 =>
  bd_2 (na_K 20 M10 (12 : Int32)) fun x6 M11 =>
  (pf_R M11 t 7 7 x6).bind fun M12 =>
  some M12)

def ff_S_init (t : Nat) (M : mm_T) : Option (mm_T) :=
  gd_G M t 6 (
  bd_2 (na_K 20 M (700 : Int32)) fun x1 M1 =>
  (pf_R M1 t 6 0 x1).bind fun M2 =>
  (pf_I M2 t 6 3 (-1 : Int32)).bind fun M3 =>
  bd_2 (na_K 20 M3 (12 : Int32)) fun x2 M4 =>
  (pf_R M4 t 6 8 x2).bind fun M5 =>
  bd_2 (na_K 20 M5 (12 : Int32)) fun x3 M6 =>
  (pf_R M6 t 6 9 x3).bind fun M7 =>
  some M7)

def ff_W_init (t : Nat) (M : mm_T) : Option (mm_T) :=
  gd_G M t 9 (
  bd_2 (na_K 20 M (704 : Int32)) fun x1 M1 =>
  (pf_R M1 t 9 0 x1).bind fun M2 =>
  some M2)

def ff_H_init (t : Nat) (M : mm_T) : Option (mm_T) :=
  gd_G M t 3 (
  bd_2 (na_K 23 M (6 : Int32)) fun x1 M1 =>
  (pf_R M1 t 3 0 x1).bind fun M2 =>
  some M2)

def ff_G_init (t : Nat) (M : mm_T) : Option (mm_T) :=
  gd_G M t 2 (
  bd_2 (na_K 20 M (12 : Int32)) fun x1 M1 =>
  (pf_R M1 t 2 2 x1).bind fun M2 =>
  bd_2 (na_K 20 M2 (12 : Int32)) fun x2 M3 =>
  (pf_R M3 t 2 3 x2).bind fun M4 =>
  bd_2 (na_K 20 M4 (12 : Int32)) fun x3 M5 =>
  (pf_R M5 t 2 4 x3).bind fun M6 =>
  bd_2 (na_K 20 M6 (12 : Int32)) fun x4 M7 =>
  (pf_R M7 t 2 5 x4).bind fun M8 =>
  bd_2 (na_K 20 M8 (12 : Int32)) fun x5 M9 =>
  (pf_R M9 t 2 6 x5).bind fun M10 =>
  some M10)

def ff_R_init (t : Nat) (M : mm_T) : Option (mm_T) :=
  gd_G M t 8 (
  bd_2 (na_K 21 M (52 : Int32)) fun x1 M1 =>
  (pf_R M1 t 8 1 x1).bind fun M2 =>
  bd_2 (na_K 20 M2 (52 : Int32)) fun x2 M3 =>
  (pf_R M3 t 8 2 x2).bind fun M4 =>
  bd_2 (na_K 21 M4 (8 : Int32)) fun x3 M5 =>
  (pf_R M5 t 8 3 x3).bind fun M6 =>
  some M6)

def ff_L_init (t : Nat) (M : mm_T) : Option (mm_T) :=
  gd_G M t 4 (
  bd_2 (na_K 20 M (52 : Int32)) fun x1 M1 =>
  (pf_R M1 t 4 1 x1).bind fun M2 =>
  bd_2 (na_K 20 M2 (52 : Int32)) fun x2 M3 =>
  (pf_R M3 t 4 2 x2).bind fun M4 =>
  some M4)

def ff_A_init (t : Nat) (M : mm_T) : Option (mm_T) :=
  gd_G M t 0 (
  bd_2 (na_K 20 M (40 : Int32)) fun x1 M1 =>
  (pf_R M1 t 0 1 x1).bind fun M2 =>
  bd_2 (na_K 21 M2 (8 : Int32)) fun x2 M3 =>
  (pf_R M3 t 0 2 x2).bind fun M4 =>
  bd_2 (na_K 21 M4 (52 : Int32)) fun x3 M5 =>
  (pf_R M5 t 0 3 x3).bind fun M6 =>
  some M6)

def ff_C_init (t : Nat) (M : mm_T) : Option (mm_T) :=
  gd_G M t 1 (
  bd_2 (na_K 20 M (416 : Int32)) fun x1 M1 =>
  (pf_R M1 t 1 1 x1).bind fun M2 =>
  bd_2 (na_K 20 M2 (40 : Int32)) fun x2 M3 =>
  (pf_R M3 t 1 2 x2).bind fun M4 =>
  some M4)

def ff_N_init (t : Nat) (M : mm_T) : Option (mm_T) :=
  gd_G M t 5 (
  bd_2 (na_K 20 M (8 : Int32)) fun x1 M1 =>
  (pf_R M1 t 5 0 x1).bind fun M2 =>
  bd_2 (na_K 20 M2 (12 : Int32)) fun x2 M3 =>
  (pf_R M3 t 5 1 x2).bind fun M4 =>
  some M4)

def ff_S_clearBuffer (t : Nat) (M : mm_T) : Option (mm_T) :=
  gd_G M t 6 (
  (pf_I M t 6 1 (0 : Int32)).bind fun M1 =>
  some M1)

def ff_D_put_a (a1 : Nat) (a2 : Int32) (a3 : Int32) (M : mm_T) : Option (mm_T) :=
  if a2 < 0 then (some M) else ((al_N M a1).bind fun x1 =>
  if x1 ≤ a2 then (some M) else ((aw_I M a1 a2 a3).bind fun M1 =>
  some M1))

def ff_S_addByte (t : Nat) (a1 : Int32) (M : mm_T) : Option (mm_T) :=
  gd_G M t 6 (
  (gf_R M t 6 0).bind fun x1 =>
  (gf_I M t 6 1).bind fun x2 =>
  (ff_D_put_a x1 x2 a1 M).bind fun M1 =>
  (gf_I M1 t 6 1).bind fun x3 =>
  (pf_I M1 t 6 1 (x3 + (1 : Int32))).bind fun M2 =>
  some M2)

def lb_S_fillBuffer_6 (p0 : Nat) (p1 : Nat) (rec : Int32 → mm_T → Option (mm_T)) (q2 : Int32) (N : mm_T) : Option (mm_T) :=
  (ff_JS_length p1 N).bind fun x1 =>
  if x1 ≤ q2 then (some N) else (if (700 : Int32) ≤ q2 then (some N) else ((ff_JS_charAt p1 q2 N).bind fun x2 =>
  (ff_S_addByte p0 x2 N).bind fun M2 =>
  (some (q2 + (1 : Int32))).bind fun x3 =>
  rec x3 M2))
def lf_S_fillBuffer_6 (p0 : Nat) (p1 : Nat) : Nat → Int32 → mm_T → Option (mm_T)
  | 0, _, _ => none
  | fu + 1, q2, N => lb_S_fillBuffer_6 p0 p1 (lf_S_fillBuffer_6 p0 p1 fu) q2 N
def ff_S_fillBuffer (t : Nat) (a1 : Nat) (M : mm_T) : Option (mm_T) :=
  gd_G M t 6 (
  (ff_S_clearBuffer t M).bind fun M1 =>
  lf_S_fillBuffer_6  t a1 fu_L (0 : Int32) M1)

def ff_P_clear (t : Nat) (M : mm_T) : Option (mm_T) :=
  gd_G M t 7 (
  (pf_I M t 7 0 (0 : Int32)).bind fun M1 =>
  (pf_I M1 t 7 1 (0 : Int32)).bind fun M2 =>
  some M2)

def ff_D_at_a (a1 : Nat) (a2 : Int32) (M : mm_T) : Option (Int32) :=
  if a2 < 0 then (some (0 : Int32)) else ((al_N M a1).bind fun x1 =>
  if x1 ≤ a2 then (some (0 : Int32)) else ((ar_I M a1 a2).bind fun x2 =>
  some x2))

def ff_S_isBlank (a1 : Int32) (M : mm_T) : Option (Int32) :=
  jp_J (α := Option (Int32)) (some (1 : Int32)) fun j12 =>
  if a1 = (32 : Int32) then (j12) else (if a1 = (10 : Int32) then (j12) else (some (0 : Int32)))

def ff_S_tokenKind (a1 : Int32) (M : mm_T) : Option (Int32) :=
  jp_J (α := Option (Int32)) (jp_J (α := Option (Int32)) (if a1 = (59 : Int32) then (some (3 : Int32)) else (some (4 : Int32))) fun j28 =>
  if a1 < (48 : Int32) then (j28) else (if (57 : Int32) < a1 then (j28) else (some (2 : Int32)))) fun j14 =>
  if a1 < (97 : Int32) then (j14) else (if (122 : Int32) < a1 then (j14) else (some (1 : Int32)))

def ff_S_canGrow (a1 : Int32) (M : mm_T) : Option (Int32) :=
  jp_J (α := Option (Int32)) (some (1 : Int32)) fun j10 =>
  if a1 = (1 : Int32) then (j10) else (if a1 = (2 : Int32) then (j10) else (some (0 : Int32)))

def ff_JM_min (a1 : Int32) (a2 : Int32) (M : mm_T) : Option (Int32) :=
  if a2 < a1 then (some a2) else (some a1)

def lb_S_readToken_8 (k0 : mm_T → Option (mm_T)) (p0 : Nat) (rec : mm_T → Option (mm_T)) (N : mm_T) : Option (mm_T) :=
  (gf_I N p0 6 5).bind fun x2 =>
  (gf_I N p0 6 1).bind fun x3 =>
  if x3 ≤ x2 then (k0 N) else ((gf_R N p0 6 0).bind fun x4 =>
  (gf_I N p0 6 5).bind fun x5 =>
  (ff_D_at_a x4 x5 N).bind fun x6 =>
  (ff_S_isBlank x6 N).bind fun x7 =>
  if x7 = 0 then (k0 N) else ((gf_I N p0 6 5).bind fun x8 =>
  (pf_I N p0 6 5 (x8 + (1 : Int32))).bind fun M2 =>
  rec M2))
def lf_S_readToken_8 (k0 : mm_T → Option (mm_T)) (p0 : Nat) : Nat → mm_T → Option (mm_T)
  | 0, _ => none
  | fu + 1, N => lb_S_readToken_8 k0 p0 (lf_S_readToken_8 k0 p0 fu) N
def lb_S_readToken_95 (p0 : Nat) (rec : mm_T → Option (mm_T)) (N : mm_T) : Option (mm_T) :=
  (gf_I N p0 6 6).bind fun x13 =>
  (gf_I N p0 6 1).bind fun x14 =>
  if x14 ≤ x13 then (some N) else ((gf_R N p0 6 0).bind fun x15 =>
  (gf_I N p0 6 6).bind fun x16 =>
  (ff_D_at_a x15 x16 N).bind fun x17 =>
  (ff_S_tokenKind x17 N).bind fun x18 =>
  (gf_I N p0 6 4).bind fun x19 =>
  if x18 = x19 then ((gf_I N p0 6 6).bind fun x20 =>
  (gf_I N p0 6 5).bind fun x21 =>
  jp_J (α := Option (mm_T)) ((gf_I N p0 6 4).bind fun x22 =>
  jp_J (α := mm_T → Option (mm_T)) (fun  (M7 : mm_T) => (gf_I M7 p0 6 6).bind fun x23 =>
  (pf_I M7 p0 6 6 (x23 + (1 : Int32))).bind fun M8 =>
  rec M8) fun j188 =>
  if x22 = (2 : Int32) then ((gf_I N p0 6 7).bind fun x24 =>
  (gf_R N p0 6 0).bind fun x25 =>
  (gf_I N p0 6 6).bind fun x26 =>
  (ff_D_at_a x25 x26 N).bind fun x27 =>
  (ff_JM_min (((x24 * (10 : Int32)) + x27) - (48 : Int32)) (1000 : Int32) N).bind fun x28 =>
  (pf_I N p0 6 7 x28).bind fun M9 =>
  j188 M9) else (j188 N)) fun j148 =>
  if x20 = x21 then (j148) else ((gf_I N p0 6 4).bind fun x29 =>
  (ff_S_canGrow x29 N).bind fun x30 =>
  if x30 = 0 then (some N) else (j148))) else (some N))
def lf_S_readToken_95 (p0 : Nat) : Nat → mm_T → Option (mm_T)
  | 0, _ => none
  | fu + 1, N => lb_S_readToken_95 p0 (lf_S_readToken_95 p0 fu) N
def ff_S_readToken (t : Nat) (M : mm_T) : Option (mm_T) :=
  gd_G M t 6 (
  (gf_I M t 6 6).bind fun x1 =>
  (pf_I M t 6 5 x1).bind fun M1 =>
  lf_S_readToken_8 (fun (M3 : mm_T) => (gf_I M3 t 6 5).bind fun x9 =>
  (gf_I M3 t 6 1).bind fun x10 =>
  jp_J (α := Int32 → Option (mm_T)) (fun (x11 : Int32) => (pf_I M3 t 6 4 x11).bind fun M4 =>
  (pf_I M4 t 6 7 (0 : Int32)).bind fun M5 =>
  (gf_I M5 t 6 5).bind fun x12 =>
  (pf_I M5 t 6 6 x12).bind fun M6 =>
  lf_S_readToken_95  t fu_L M6) fun j79 =>
  if x10 ≤ x9 then (j79 (0 : Int32)) else ((gf_R M3 t 6 0).bind fun x31 =>
  (gf_I M3 t 6 5).bind fun x32 =>
  (ff_D_at_a x31 x32 M3).bind fun x33 =>
  (ff_S_tokenKind x33 M3).bind fun x34 =>
  j79 x34)) t fu_L M1)

def lb_S_isWord_28 (p0 : Nat) (p1 : Nat) (M : mm_T) (rec : Int32 → Option (Int32)) (q2 : Int32) : Option (Int32) :=
  (ff_JS_length p1 M).bind fun x5 =>
  if x5 ≤ q2 then (some (1 : Int32)) else ((gf_R M p0 6 0).bind fun x6 =>
  (gf_I M p0 6 5).bind fun x7 =>
  (ff_D_at_a x6 (x7 + q2) M).bind fun x8 =>
  (ff_JS_charAt p1 q2 M).bind fun x9 =>
  if x8 = x9 then ((some (q2 + (1 : Int32))).bind fun x10 =>
  rec x10) else (some (0 : Int32)))
def lf_S_isWord_28 (p0 : Nat) (p1 : Nat) (M : mm_T) : Nat → Int32 → Option (Int32)
  | 0, _ => none
  | fu + 1, q2 => lb_S_isWord_28 p0 p1 M (lf_S_isWord_28 p0 p1 M fu) q2
def ff_S_isWord (t : Nat) (a1 : Nat) (M : mm_T) : Option (Int32) :=
  gd_G M t 6 (
  (gf_I M t 6 4).bind fun x1 =>
  if x1 = (1 : Int32) then ((gf_I M t 6 6).bind fun x2 =>
  (gf_I M t 6 5).bind fun x3 =>
  (ff_JS_length a1 M).bind fun x4 =>
  if (x2 - x3) = x4 then (lf_S_isWord_28  t a1 M fu_L (0 : Int32)) else (some (0 : Int32))) else (some (0 : Int32)))

def ff_S_fail (t : Nat) (a1 : Int32) (a2 : Int32) (M : mm_T) : Option (mm_T) :=
  gd_G M t 6 (
  (gf_I M t 6 2).bind fun x1 =>
  if x1 = 0 then ((pf_I M t 6 2 a1).bind fun M1 =>
  (pf_I M1 t 6 3 a2).bind fun M2 =>
  some M2) else (some M))

def ff_P_addBlock (t : Nat) (M : mm_T) : Option (mm_T) :=
  gd_G M t 7 (
  (gf_R M t 7 3).bind fun x1 =>
  (gf_I M t 7 0).bind fun x2 =>
  (gf_I M t 7 1).bind fun x3 =>
  (ff_D_put_a x1 x2 x3 M).bind fun M1 =>
  (gf_I M1 t 7 0).bind fun x4 =>
  (pf_I M1 t 7 0 (x4 + (1 : Int32))).bind fun M2 =>
  (gf_R M2 t 7 3).bind fun x5 =>
  (gf_I M2 t 7 0).bind fun x6 =>
  (gf_I M2 t 7 1).bind fun x7 =>
  (ff_D_put_a x5 x6 x7 M2).bind fun M3 =>
  some M3)

def ff_S_parseHead (t : Nat) (a1 : Nat) (M : mm_T) : Option (mm_T) :=
  gd_G M t 6 (
  (ff_S_isWord t (st_B + 1) M).bind fun x1 =>
  if x1 = 0 then ((gf_I M t 6 5).bind fun x4 =>
  (ff_S_fail t (1 : Int32) x4 M).bind fun M4 =>
  some M4) else ((gf_I M a1 7 0).bind fun x2 =>
  if x2 < (12 : Int32) then ((ff_P_addBlock a1 M).bind fun M1 =>
  (ff_S_readToken t M1).bind fun M2 =>
  some M2) else ((gf_I M t 6 5).bind fun x3 =>
  (ff_S_fail t (3 : Int32) x3 M).bind fun M3 =>
  some M3)))

def ff_S_instructionKind (t : Nat) (M : mm_T) : Option (Int32) :=
  gd_G M t 6 (
  (ff_S_isWord t (st_B + 2) M).bind fun x1 =>
  if x1 = 0 then ((ff_S_isWord t (st_B + 3) M).bind fun x2 =>
  if x2 = 0 then ((ff_S_isWord t (st_B + 4) M).bind fun x3 =>
  if x3 = 0 then ((ff_S_isWord t (st_B + 5) M).bind fun x4 =>
  if x4 = 0 then (some (-1 : Int32)) else (some (3 : Int32))) else (some (2 : Int32))) else (some (1 : Int32))) else (some (0 : Int32)))

def ff_P_isFull (t : Nat) (M : mm_T) : Option (Int32) :=
  gd_G M t 7 (
  (gf_I M t 7 1).bind fun x1 =>
  if x1 < (40 : Int32) then (some (0 : Int32)) else (some (1 : Int32)))

def ff_S_takeVariable (t : Nat) (M : mm_T) : Option (Int32 × mm_T) :=
  gd_G M t 6 (
  (gf_R M t 6 0).bind fun x1 =>
  (gf_I M t 6 5).bind fun x2 =>
  (ff_D_at_a x1 x2 M).bind fun x3 =>
  (some (x3 - (97 : Int32))).bind fun x4 =>
  (gf_I M t 6 4).bind fun x5 =>
  jp_J (α := Option (Int32 × mm_T)) ((gf_I M t 6 5).bind fun x6 =>
  (ff_S_fail t (1 : Int32) x6 M).bind fun M1 =>
  some ((-1 : Int32), M1)) fun j42 =>
  if x5 = (1 : Int32) then ((gf_I M t 6 6).bind fun x7 =>
  (gf_I M t 6 5).bind fun x8 =>
  if (x7 - x8) = (1 : Int32) then (if x4 < (8 : Int32) then ((ff_S_readToken t M).bind fun M2 =>
  some (x4, M2)) else (j42)) else (j42)) else (j42))

def ff_S_takeOperator (t : Nat) (M : mm_T) : Option (Int32 × mm_T) :=
  gd_G M t 6 (
  (ff_S_isWord t (st_B + 6) M).bind fun x1 =>
  jp_J (α := Int32 → Option (Int32 × mm_T)) (fun (x2 : Int32) => if x2 = (-1 : Int32) then ((gf_I M t 6 5).bind fun x3 =>
  (ff_S_fail t (1 : Int32) x3 M).bind fun M2 =>
  some ((-1 : Int32), M2)) else ((ff_S_readToken t M).bind fun M1 =>
  some (x2, M1))) fun j41 =>
  if x1 = 0 then ((ff_S_isWord t (st_B + 7) M).bind fun x4 =>
  if x4 = 0 then ((ff_S_isWord t (st_B + 8) M).bind fun x5 =>
  if x5 = 0 then (j41 (-1 : Int32)) else (j41 (2 : Int32))) else (j41 (1 : Int32))) else (j41 (0 : Int32)))

def ff_S_takeNumber (t : Nat) (a1 : Int32) (M : mm_T) : Option (Int32 × mm_T) :=
  gd_G M t 6 (
  (gf_I M t 6 4).bind fun x1 =>
  jp_J (α := Option (Int32 × mm_T)) ((gf_I M t 6 4).bind fun x2 =>
  jp_J (α := Int32 → Option (Int32 × mm_T)) (fun (x3 : Int32) => (gf_I M t 6 5).bind fun x4 =>
  (ff_S_fail t x3 x4 M).bind fun M1 =>
  some ((-1 : Int32), M1)) fun j30 =>
  if x2 = (2 : Int32) then (j30 (2 : Int32)) else (j30 (1 : Int32))) fun j16 =>
  if x1 = (2 : Int32) then ((gf_I M t 6 7).bind fun x5 =>
  if x5 ≤ a1 then ((gf_I M t 6 7).bind fun x6 =>
  (ff_S_readToken t M).bind fun M2 =>
  some (x6, M2)) else (j16)) else (j16))

def ff_O_pack (a1 : Int32) (a2 : Int32) (a3 : Int32) (a4 : Int32) (a5 : Int32) (a6 : Int32) (M : mm_T) : Option (Int32) :=
  some (((((a1 ||| (io_shl a2 (2 : Int32))) ||| (io_shl a3 (5 : Int32))) ||| (io_shl a5 (8 : Int32))) ||| (io_shl a4 (11 : Int32))) ||| (io_shl a6 (13 : Int32)))

def ff_P_append (t : Nat) (a1 : Int32) (M : mm_T) : Option (mm_T) :=
  gd_G M t 7 (
  (gf_R M t 7 2).bind fun x1 =>
  (gf_I M t 7 1).bind fun x2 =>
  (ff_D_put_a x1 x2 a1 M).bind fun M1 =>
  (gf_I M1 t 7 1).bind fun x3 =>
  (pf_I M1 t 7 1 (x3 + (1 : Int32))).bind fun M2 =>
  (gf_R M2 t 7 3).bind fun x4 =>
  (gf_I M2 t 7 0).bind fun x5 =>
  (gf_I M2 t 7 1).bind fun x6 =>
  (ff_D_put_a x4 x5 x6 M2).bind fun M3 =>
  some M3)

def ff_S_parseInstruction (t : Nat) (a1 : Nat) (M : mm_T) : Option (mm_T) :=
  gd_G M t 6 (
  (ff_P_isFull a1 M).bind fun x1 =>
  if x1 = 0 then ((ff_S_instructionKind t M).bind fun x2 =>
  (ff_S_readToken t M).bind fun M1 =>
  jp_J (α := Int32 → mm_T → Option (mm_T)) (fun (x3 : Int32) (M2 : mm_T) => jp_J (α := Int32 → mm_T → Option (mm_T)) (fun (x4 : Int32) (M3 : mm_T) => jp_J (α := Int32 → mm_T → Option (mm_T)) (fun (x5 : Int32) (M4 : mm_T) => jp_J (α := Int32 → mm_T → Option (mm_T)) (fun (x6 : Int32) (M5 : mm_T) => jp_J (α := Int32 → mm_T → Option (mm_T)) (fun (x7 : Int32) (M6 : mm_T) => (gf_I M6 t 6 2).bind fun x8 =>
  if x8 = 0 then ((ff_O_pack x2 x3 x4 x5 x6 x7 M6).bind fun x9 =>
  (ff_P_append a1 x9 M6).bind fun M7 =>
  some M7) else (some M6)) fun j99 =>
  if x2 = 0 then (bd_2 (ff_S_takeNumber t (999 : Int32) M5) fun x10 M8 =>
  j99 x10 M8) else (j99 (0 : Int32) M5)) fun j82 =>
  if x2 = (2 : Int32) then (bd_2 (ff_S_takeVariable t M4) fun x11 M9 =>
  j82 x11 M9) else (j82 (0 : Int32) M4)) fun j67 =>
  if x2 = (2 : Int32) then (bd_2 (ff_S_takeOperator t M3) fun x12 M10 =>
  j67 x12 M10) else (j67 (0 : Int32) M3)) fun j52 =>
  if x2 = 0 then (j52 (0 : Int32) M2) else (bd_2 (ff_S_takeVariable t M2) fun x13 M11 =>
  j52 x13 M11)) fun j39 =>
  if x2 = (3 : Int32) then (j39 (0 : Int32) M1) else (bd_2 (ff_S_takeVariable t M1) fun x14 M12 =>
  j39 x14 M12)) else ((gf_I M t 6 5).bind fun x15 =>
  (ff_S_fail t (3 : Int32) x15 M).bind fun M13 =>
  some M13))

def ff_P_exitByStop (t : Nat) (a1 : Int32) (M : mm_T) : Option (mm_T) :=
  gd_G M t 7 (
  (gf_R M t 7 4).bind fun x1 =>
  (ff_D_put_a x1 a1 (0 : Int32) M).bind fun M1 =>
  some M1)

def ff_P_exitByGoto (t : Nat) (a1 : Int32) (a2 : Int32) (M : mm_T) : Option (mm_T) :=
  gd_G M t 7 (
  (gf_R M t 7 4).bind fun x1 =>
  (ff_D_put_a x1 a1 (1 : Int32) M).bind fun M1 =>
  (gf_R M1 t 7 6).bind fun x2 =>
  (ff_D_put_a x2 a1 a2 M1).bind fun M2 =>
  some M2)

def ff_P_exitByBranch (t : Nat) (a1 : Int32) (a2 : Int32) (a3 : Int32) (a4 : Int32) (M : mm_T) : Option (mm_T) :=
  gd_G M t 7 (
  (gf_R M t 7 4).bind fun x1 =>
  (ff_D_put_a x1 a1 (2 : Int32) M).bind fun M1 =>
  (gf_R M1 t 7 5).bind fun x2 =>
  (ff_D_put_a x2 a1 a2 M1).bind fun M2 =>
  (gf_R M2 t 7 6).bind fun x3 =>
  (ff_D_put_a x3 a1 a3 M2).bind fun M3 =>
  (gf_R M3 t 7 7).bind fun x4 =>
  (ff_D_put_a x4 a1 a4 M3).bind fun M4 =>
  some M4)

def ff_S_parseExit (t : Nat) (a1 : Nat) (a2 : Int32) (M : mm_T) : Option (mm_T) :=
  gd_G M t 6 (
  (ff_S_isWord t (st_B + 9) M).bind fun x1 =>
  if x1 = 0 then ((ff_S_isWord t (st_B + 10) M).bind fun x2 =>
  if x2 = 0 then ((ff_S_isWord t (st_B + 11) M).bind fun x3 =>
  if x3 = 0 then ((gf_I M t 6 5).bind fun x4 =>
  (ff_S_fail t (1 : Int32) x4 M).bind fun M1 =>
  some M1) else ((ff_S_readToken t M).bind fun M2 =>
  bd_2 (ff_S_takeVariable t M2) fun x5 M3 =>
  (gf_R M3 t 6 8).bind fun x6 =>
  (gf_I M3 t 6 5).bind fun x7 =>
  (ff_D_put_a x6 a2 x7 M3).bind fun M4 =>
  bd_2 (ff_S_takeNumber t (11 : Int32) M4) fun x8 M5 =>
  (gf_R M5 t 6 9).bind fun x9 =>
  (gf_I M5 t 6 5).bind fun x10 =>
  (ff_D_put_a x9 a2 x10 M5).bind fun M6 =>
  bd_2 (ff_S_takeNumber t (11 : Int32) M6) fun x11 M7 =>
  (ff_P_exitByBranch a1 a2 x5 x8 x11 M7).bind fun M8 =>
  some M8)) else ((ff_S_readToken t M).bind fun M9 =>
  (gf_R M9 t 6 8).bind fun x12 =>
  (gf_I M9 t 6 5).bind fun x13 =>
  (ff_D_put_a x12 a2 x13 M9).bind fun M10 =>
  bd_2 (ff_S_takeNumber t (11 : Int32) M10) fun x14 M11 =>
  (ff_P_exitByGoto a1 a2 x14 M11).bind fun M12 =>
  some M12)) else ((ff_S_readToken t M).bind fun M13 =>
  (ff_P_exitByStop a1 a2 M13).bind fun M14 =>
  some M14))

def ff_S_takeSemicolon (t : Nat) (M : mm_T) : Option (mm_T) :=
  gd_G M t 6 (
  (gf_I M t 6 4).bind fun x1 =>
  if x1 = (3 : Int32) then ((ff_S_readToken t M).bind fun M2 =>
  some M2) else ((gf_I M t 6 5).bind fun x2 =>
  (ff_S_fail t (1 : Int32) x2 M).bind fun M1 =>
  some M1))

def ff_P_wayCount (t : Nat) (a1 : Int32) (M : mm_T) : Option (Int32) :=
  gd_G M t 7 (
  (gf_R M t 7 4).bind fun x1 =>
  (ff_D_at_a x1 a1 M).bind fun x2 =>
  some x2)

def ff_P_wayOf (t : Nat) (a1 : Int32) (a2 : Int32) (M : mm_T) : Option (Int32) :=
  gd_G M t 7 (
  if a2 = 0 then ((gf_R M t 7 6).bind fun x3 =>
  (ff_D_at_a x3 a1 M).bind fun x4 =>
  some x4) else ((gf_R M t 7 7).bind fun x1 =>
  (ff_D_at_a x1 a1 M).bind fun x2 =>
  some x2))

def lb_S_checkExits_2 (p0 : Nat) (p1 : Nat) (rec : Int32 → mm_T → Option (mm_T)) (q2 : Int32) (N : mm_T) : Option (mm_T) :=
  (gf_I N p1 7 0).bind fun x1 =>
  if x1 ≤ q2 then (some N) else ((ff_P_wayCount p1 q2 N).bind fun x2 =>
  jp_J (α := mm_T → Option (mm_T)) (fun  (M1 : mm_T) => (ff_P_wayCount p1 q2 M1).bind fun x3 =>
  jp_J (α := mm_T → Option (mm_T)) (fun  (M2 : mm_T) => (some (q2 + (1 : Int32))).bind fun x4 =>
  rec x4 M2) fun j79 =>
  if x3 ≤ (1 : Int32) then (j79 M1) else ((ff_P_wayOf p1 q2 (1 : Int32) M1).bind fun x5 =>
  (gf_I M1 p1 7 0).bind fun x6 =>
  if x5 < x6 then (j79 M1) else ((gf_R M1 p0 6 9).bind fun x7 =>
  (ff_D_at_a x7 q2 M1).bind fun x8 =>
  (ff_S_fail p0 (4 : Int32) x8 M1).bind fun M3 =>
  j79 M3))) fun j44 =>
  if x2 ≤ 0 then (j44 N) else ((ff_P_wayOf p1 q2 (0 : Int32) N).bind fun x9 =>
  (gf_I N p1 7 0).bind fun x10 =>
  if x9 < x10 then (j44 N) else ((gf_R N p0 6 8).bind fun x11 =>
  (ff_D_at_a x11 q2 N).bind fun x12 =>
  (ff_S_fail p0 (4 : Int32) x12 N).bind fun M4 =>
  j44 M4)))
def lf_S_checkExits_2 (p0 : Nat) (p1 : Nat) : Nat → Int32 → mm_T → Option (mm_T)
  | 0, _, _ => none
  | fu + 1, q2, N => lb_S_checkExits_2 p0 p1 (lf_S_checkExits_2 p0 p1 fu) q2 N
def ff_S_checkExits (t : Nat) (a1 : Nat) (M : mm_T) : Option (mm_T) :=
  gd_G M t 6 (
  lf_S_checkExits_2  t a1 fu_L (0 : Int32) M)

def lb_S_parse_27 (k0 : mm_T → Option (Int32 × mm_T)) (p0 : Nat) (p1 : Nat) (rec : Int32 → Int32 → mm_T → Option (Int32 × mm_T)) (q2 : Int32) (q3 : Int32) (N : mm_T) : Option (Int32 × mm_T) :=
  if (700 : Int32) < q3 then (k0 N) else ((gf_I N p0 6 2).bind fun x1 =>
  if x1 = 0 then (jp_J (α := Option (Int32 × mm_T)) (jp_J (α := Int32 → mm_T → Option (Int32 × mm_T)) (fun (x2 : Int32) (M6 : mm_T) => (ff_S_takeSemicolon p0 M6).bind fun M7 =>
  (some (q3 + (1 : Int32))).bind fun x3 =>
  rec x2 x3 M7) fun j99 =>
  if q2 = 0 then ((ff_S_parseHead p0 p1 N).bind fun M10 =>
  j99 (1 : Int32) M10) else ((ff_S_instructionKind p0 N).bind fun x4 =>
  if x4 = (-1 : Int32) then ((gf_I N p1 7 0).bind fun x5 =>
  (ff_S_parseExit p0 p1 (x5 - (1 : Int32)) N).bind fun M8 =>
  j99 (0 : Int32) M8) else ((ff_S_parseInstruction p0 p1 N).bind fun M9 =>
  j99 q2 M9))) fun j56 =>
  if q3 = 0 then (j56) else (if q2 = 0 then ((gf_I N p0 6 4).bind fun x6 =>
  if x6 = 0 then (k0 N) else (j56)) else (j56))) else (k0 N))
def lf_S_parse_27 (k0 : mm_T → Option (Int32 × mm_T)) (p0 : Nat) (p1 : Nat) : Nat → Int32 → Int32 → mm_T → Option (Int32 × mm_T)
  | 0, _, _, _ => none
  | fu + 1, q2, q3, N => lb_S_parse_27 k0 p0 p1 (lf_S_parse_27 k0 p0 p1 fu) q2 q3 N
def ff_S_parse (t : Nat) (a1 : Nat) (M : mm_T) : Option (Int32 × mm_T) :=
  gd_G M t 6 (
  (pf_I M t 6 2 (0 : Int32)).bind fun M1 =>
  (pf_I M1 t 6 3 (-1 : Int32)).bind fun M2 =>
  (ff_P_clear a1 M2).bind fun M3 =>
  (pf_I M3 t 6 6 (0 : Int32)).bind fun M4 =>
  (ff_S_readToken t M4).bind fun M5 =>
  lf_S_parse_27 (fun (M11 : mm_T) => (ff_S_checkExits t a1 M11).bind fun M12 =>
  (gf_I M12 t 6 2).bind fun x7 =>
  if x7 = 0 then (some ((1 : Int32), M12)) else (some ((0 : Int32), M12))) t a1 fu_L (0 : Int32) (0 : Int32) M5)

def ff_D_firstProgram  (M : mm_T) : Option (Nat × mm_T) :=
  bd_2 (no_C 6 M) fun x1 M1 =>
  (ff_S_init x1 M1).bind fun M2 =>
  bd_2 (no_C 7 M2) fun x2 M3 =>
  (ff_P_init x2 M3).bind fun M4 =>
  (ff_S_fillBuffer x1 (st_B + 0) M4).bind fun M5 =>
  bd_2 (ff_S_parse x1 x2 M5) fun x3 M6 =>
  some (x2, M6)

def ff_D_init (t : Nat) (M : mm_T) : Option (mm_T) :=
  gd_G M t 10 (
  bd_2 (no_C 7 M) fun x1 M1 =>
  (ff_P_init x1 M1).bind fun M2 =>
  (pf_R M2 t 10 1 x1).bind fun M3 =>
  bd_2 (no_C 6 M3) fun x2 M4 =>
  (ff_S_init x2 M4).bind fun M5 =>
  (pf_R M5 t 10 2 x2).bind fun M6 =>
  bd_2 (no_C 9 M6) fun x3 M7 =>
  (ff_W_init x3 M7).bind fun M8 =>
  (pf_R M8 t 10 3 x3).bind fun M9 =>
  bd_2 (no_C 3 M9) fun x4 M10 =>
  (ff_H_init x4 M10).bind fun M11 =>
  (pf_R M11 t 10 4 x4).bind fun M12 =>
  bd_2 (na_K 23 M12 (2 : Int32)) fun x5 M13 =>
  (pf_R M13 t 10 5 x5).bind fun M14 =>
  bd_2 (no_C 2 M14) fun x6 M15 =>
  (ff_G_init x6 M15).bind fun M16 =>
  (pf_R M16 t 10 6 x6).bind fun M17 =>
  bd_2 (no_C 8 M17) fun x7 M18 =>
  (ff_R_init x7 M18).bind fun M19 =>
  (pf_R M19 t 10 7 x7).bind fun M20 =>
  bd_2 (no_C 4 M20) fun x8 M21 =>
  (ff_L_init x8 M21).bind fun M22 =>
  (pf_R M22 t 10 8 x8).bind fun M23 =>
  bd_2 (no_C 0 M23) fun x9 M24 =>
  (ff_A_init x9 M24).bind fun M25 =>
  (pf_R M25 t 10 9 x9).bind fun M26 =>
  bd_2 (no_C 1 M26) fun x10 M27 =>
  (ff_C_init x10 M27).bind fun M28 =>
  (pf_R M28 t 10 10 x10).bind fun M29 =>
  bd_2 (no_C 5 M29) fun x11 M30 =>
  (ff_N_init x11 M30).bind fun M31 =>
  (pf_R M31 t 10 11 x11).bind fun M32 =>
  bd_2 (ff_D_firstProgram M32) fun x12 M33 =>
  (pf_R M33 t 10 0 x12).bind fun M34 =>
  some M34)

def ff_S_textLength (t : Nat) (M : mm_T) : Option (Int32) :=
  gd_G M t 6 (
  (gf_I M t 6 1).bind fun x1 =>
  some x1)

def lb_D_appendText_28 (k0 : mm_T → Option ((Int32 ⊕ String) × mm_T)) (p0 : Nat) (p1 : Int32) (rec : Int32 → mm_T → Option ((Int32 ⊕ String) × mm_T)) (q2 : Int32) (N : mm_T) : Option ((Int32 ⊕ String) × mm_T) :=
  if q2 < 0 then (k0 N) else ((gf_R N p0 10 2).bind fun x3 =>
  (ff_S_addByte x3 ((io_ushr p1 q2) &&& (255 : Int32)) N).bind fun M1 =>
  (some (q2 + (-8 : Int32))).bind fun x4 =>
  rec x4 M1)
def lf_D_appendText_28 (k0 : mm_T → Option ((Int32 ⊕ String) × mm_T)) (p0 : Nat) (p1 : Int32) : Nat → Int32 → mm_T → Option ((Int32 ⊕ String) × mm_T)
  | 0, _, _ => none
  | fu + 1, q2, N => lb_D_appendText_28 k0 p0 p1 (lf_D_appendText_28 k0 p0 p1 fu) q2 N
def ff_D_appendText (t : Nat) (a1 : Int32) (M : mm_T) : Option ((Int32 ⊕ String) × mm_T) :=
  gd_G M t 10 (
  (gf_R M t 10 2).bind fun x1 =>
  (ff_S_textLength x1 M).bind fun x2 =>
  if (x2 + (4 : Int32)) ≤ (700 : Int32) then (lf_D_appendText_28 (fun (M2 : mm_T) => (gf_R M2 t 10 2).bind fun x5 =>
  (ff_S_textLength x5 M2).bind fun x6 =>
  some (.inl x6, M2)) t a1 fu_L (24 : Int32) M) else (some (.inr "java/lang/IllegalStateException", mm_ex M)))

def ff_S_cutBuffer (t : Nat) (a1 : Int32) (M : mm_T) : Option (mm_T) :=
  gd_G M t 6 (
  (pf_I M t 6 1 a1).bind fun M1 =>
  some M1)

def ff_D_truncateText (t : Nat) (a1 : Int32) (M : mm_T) : Option ((Int32 ⊕ String) × mm_T) :=
  gd_G M t 10 (
  jp_J (α := Option ((Int32 ⊕ String) × mm_T)) (some (.inr "java/lang/IllegalArgumentException", mm_ex M)) fun j15 =>
  if a1 < 0 then (j15) else ((gf_R M t 10 2).bind fun x1 =>
  (ff_S_textLength x1 M).bind fun x2 =>
  if a1 ≤ x2 then ((gf_R M t 10 2).bind fun x3 =>
  (ff_S_cutBuffer x3 a1 M).bind fun M1 =>
  some (.inl a1, M1)) else (j15)))

def lb_D_copy_2 (p0 : Nat) (p1 : Nat) (rec : Int32 → mm_T → Option (mm_T)) (q2 : Int32) (N : mm_T) : Option (mm_T) :=
  (al_N N p0).bind fun x1 =>
  if x1 ≤ q2 then (some N) else ((al_N N p1).bind fun x2 =>
  if x2 ≤ q2 then (some N) else ((ar_I N p0 q2).bind fun x3 =>
  (aw_I N p1 q2 x3).bind fun M1 =>
  (some (q2 + (1 : Int32))).bind fun x4 =>
  rec x4 M1))
def lf_D_copy_2 (p0 : Nat) (p1 : Nat) : Nat → Int32 → mm_T → Option (mm_T)
  | 0, _, _ => none
  | fu + 1, q2, N => lb_D_copy_2 p0 p1 (lf_D_copy_2 p0 p1 fu) q2 N
def ff_D_copy (a1 : Nat) (a2 : Nat) (M : mm_T) : Option (mm_T) :=
  lf_D_copy_2  a1 a2 fu_L (0 : Int32) M

def ff_P_copyFrom (t : Nat) (a1 : Nat) (M : mm_T) : Option (mm_T) :=
  gd_G M t 7 (
  (gf_I M a1 7 0).bind fun x1 =>
  (pf_I M t 7 0 x1).bind fun M1 =>
  (gf_I M1 a1 7 1).bind fun x2 =>
  (pf_I M1 t 7 1 x2).bind fun M2 =>
  (gf_R M2 a1 7 2).bind fun x3 =>
  (gf_R M2 t 7 2).bind fun x4 =>
  (ff_D_copy x3 x4 M2).bind fun M3 =>
  (gf_R M3 a1 7 3).bind fun x5 =>
  (gf_R M3 t 7 3).bind fun x6 =>
  (ff_D_copy x5 x6 M3).bind fun M4 =>
  (gf_R M4 a1 7 4).bind fun x7 =>
  (gf_R M4 t 7 4).bind fun x8 =>
  (ff_D_copy x7 x8 M4).bind fun M5 =>
  (gf_R M5 a1 7 5).bind fun x9 =>
  (gf_R M5 t 7 5).bind fun x10 =>
  (ff_D_copy x9 x10 M5).bind fun M6 =>
  (gf_R M6 a1 7 6).bind fun x11 =>
  (gf_R M6 t 7 6).bind fun x12 =>
  (ff_D_copy x11 x12 M6).bind fun M7 =>
  (gf_R M7 a1 7 7).bind fun x13 =>
  (gf_R M7 t 7 7).bind fun x14 =>
  (ff_D_copy x13 x14 M7).bind fun M8 =>
  some M8)

def ff_H_clear (t : Nat) (M : mm_T) : Option (mm_T) :=
  gd_G M t 3 (
  (pf_I M t 3 2 (0 : Int32)).bind fun M1 =>
  some M1)

def ff_D_forgetAnalyses (t : Nat) (M : mm_T) : Option (mm_T) :=
  gd_G M t 10 (
  (gf_R M t 10 6).bind fun x1 =>
  (pf_Z M x1 2 0 (0 : Int32)).bind fun M1 =>
  (gf_R M1 t 10 7).bind fun x2 =>
  (pf_Z M1 x2 8 0 (0 : Int32)).bind fun M2 =>
  (gf_R M2 t 10 8).bind fun x3 =>
  (pf_Z M2 x3 4 0 (0 : Int32)).bind fun M3 =>
  (gf_R M3 t 10 9).bind fun x4 =>
  (pf_Z M3 x4 0 0 (0 : Int32)).bind fun M4 =>
  (gf_R M4 t 10 10).bind fun x5 =>
  (pf_Z M4 x5 1 0 (0 : Int32)).bind fun M5 =>
  some M5)

def ff_D_replaceProgram (t : Nat) (a1 : Nat) (M : mm_T) : Option (mm_T) :=
  gd_G M t 10 (
  (gf_R M t 10 0).bind fun x1 =>
  (ff_P_copyFrom x1 a1 M).bind fun M1 =>
  (gf_R M1 t 10 4).bind fun x2 =>
  (ff_H_clear x2 M1).bind fun M2 =>
  (ff_D_forgetAnalyses t M2).bind fun M3 =>
  some M3)

def ff_D_loadProgram (t : Nat) (M : mm_T) : Option (Int32 × mm_T) :=
  gd_G M t 10 (
  (gf_R M t 10 2).bind fun x1 =>
  (gf_R M t 10 1).bind fun x2 =>
  bd_2 (ff_S_parse x1 x2 M) fun x3 M1 =>
  (gf_R M1 t 10 2).bind fun x4 =>
  (ff_S_clearBuffer x4 M1).bind fun M2 =>
  if x3 = 0 then (some ((-1 : Int32), M2)) else ((gf_R M2 t 10 1).bind fun x5 =>
  (ff_D_replaceProgram t x5 M2).bind fun M3 =>
  (gf_R M3 t 10 0).bind fun x6 =>
  (gf_I M3 x6 7 0).bind fun x7 =>
  some (x7, M3)))

def ff_D_errorCode (t : Nat) (M : mm_T) : Option (Int32) :=
  gd_G M t 10 (
  (gf_R M t 10 2).bind fun x1 =>
  (gf_I M x1 6 2).bind fun x2 =>
  some x2)

def ff_D_errorPosition (t : Nat) (M : mm_T) : Option (Int32) :=
  gd_G M t 10 (
  (gf_R M t 10 2).bind fun x1 =>
  (gf_I M x1 6 3).bind fun x2 =>
  some x2)

def ff_D_blockCount (t : Nat) (M : mm_T) : Option (Int32) :=
  gd_G M t 10 (
  (gf_R M t 10 0).bind fun x1 =>
  (gf_I M x1 7 0).bind fun x2 =>
  some x2)

def ff_D_instructionCount (t : Nat) (M : mm_T) : Option (Int32) :=
  gd_G M t 10 (
  (gf_R M t 10 0).bind fun x1 =>
  (gf_I M x1 7 1).bind fun x2 =>
  some x2)

def ff_D_requireBlock (t : Nat) (a1 : Int32) (M : mm_T) : Option (Option String) :=
  gd_G M t 10 (
  jp_J (α := Option (Option String)) (some (some "java/lang/IndexOutOfBoundsException")) fun j15 =>
  if a1 < 0 then (j15) else ((gf_R M t 10 0).bind fun x1 =>
  (gf_I M x1 7 0).bind fun x2 =>
  if a1 < x2 then (some none) else (j15)))

def ff_P_sizeOf (t : Nat) (a1 : Int32) (M : mm_T) : Option (Int32) :=
  gd_G M t 7 (
  (gf_R M t 7 3).bind fun x1 =>
  (ff_D_at_a x1 (a1 + (1 : Int32)) M).bind fun x2 =>
  (gf_R M t 7 3).bind fun x3 =>
  (ff_D_at_a x3 a1 M).bind fun x4 =>
  some (x2 - x4))

def ff_D_instructionsIn (t : Nat) (a1 : Int32) (M : mm_T) : Option ((Int32 ⊕ String) × mm_T) :=
  gd_G M t 10 (
  rq_X (ff_D_requireBlock t a1 M) M ((gf_R M t 10 0).bind fun x1 =>
  (ff_P_sizeOf x1 a1 M).bind fun x2 =>
  some (.inl x2, M)))

def ff_D_requireInstruction (t : Nat) (a1 : Int32) (M : mm_T) : Option (Option String) :=
  gd_G M t 10 (
  jp_J (α := Option (Option String)) (some (some "java/lang/IndexOutOfBoundsException")) fun j15 =>
  if a1 < 0 then (j15) else ((gf_R M t 10 0).bind fun x1 =>
  (gf_I M x1 7 1).bind fun x2 =>
  if a1 < x2 then (some none) else (j15)))

def lb_P_blockAt_13 (p0 : Nat) (p1 : Int32) (M : mm_T) (rec : Int32 → Option (Int32)) (q2 : Int32) : Option (Int32) :=
  (gf_I M p0 7 0).bind fun x1 =>
  if x1 ≤ q2 then (some q2) else ((gf_R M p0 7 3).bind fun x2 =>
  (ff_D_at_a x2 (q2 + (1 : Int32)) M).bind fun x3 =>
  if p1 < x3 then (some q2) else ((some (q2 + (1 : Int32))).bind fun x4 =>
  rec x4))
def lf_P_blockAt_13 (p0 : Nat) (p1 : Int32) (M : mm_T) : Nat → Int32 → Option (Int32)
  | 0, _ => none
  | fu + 1, q2 => lb_P_blockAt_13 p0 p1 M (lf_P_blockAt_13 p0 p1 M fu) q2
def ff_P_blockAt (t : Nat) (a1 : Int32) (M : mm_T) : Option (Int32) :=
  gd_G M t 7 (
  if a1 < (40 : Int32) then (lf_P_blockAt_13  t a1 M fu_L (0 : Int32)) else (some (a1 - (40 : Int32))))

def ff_D_blockOf (t : Nat) (a1 : Int32) (M : mm_T) : Option ((Int32 ⊕ String) × mm_T) :=
  gd_G M t 10 (
  rq_X (ff_D_requireInstruction t a1 M) M ((gf_R M t 10 0).bind fun x1 =>
  (ff_P_blockAt x1 a1 M).bind fun x2 =>
  some (.inl x2, M)))

def ff_O_kind (a1 : Int32) (M : mm_T) : Option (Int32) :=
  some (a1 &&& (3 : Int32))

def ff_P_kindAt (t : Nat) (a1 : Int32) (M : mm_T) : Option (Int32) :=
  gd_G M t 7 (
  if (40 : Int32) ≤ a1 then (some (-1 : Int32)) else ((gf_R M t 7 2).bind fun x1 =>
  (ff_D_at_a x1 a1 M).bind fun x2 =>
  (ff_O_kind x2 M).bind fun x3 =>
  some x3))

def ff_D_kindOf (t : Nat) (a1 : Int32) (M : mm_T) : Option ((Int32 ⊕ String) × mm_T) :=
  gd_G M t 10 (
  rq_X (ff_D_requireInstruction t a1 M) M ((gf_R M t 10 0).bind fun x1 =>
  (ff_P_kindAt x1 a1 M).bind fun x2 =>
  some (.inl x2, M)))

def ff_D_successor (t : Nat) (a1 : Int32) (a2 : Int32) (M : mm_T) : Option ((Int32 ⊕ String) × mm_T) :=
  gd_G M t 10 (
  rq_X (ff_D_requireBlock t a1 M) M (jp_J (α := Option ((Int32 ⊕ String) × mm_T)) (some (.inr "java/util/NoSuchElementException", mm_ex M)) fun j21 =>
  if a2 < 0 then (j21) else ((gf_R M t 10 0).bind fun x1 =>
  (ff_P_wayCount x1 a1 M).bind fun x2 =>
  if a2 < x2 then ((gf_R M t 10 0).bind fun x3 =>
  (ff_P_wayOf x3 a1 a2 M).bind fun x4 =>
  some (.inl x4, M)) else (j21))))

def lb_D_fill_a_2 (p0 : Nat) (p1 : Int32) (rec : Int32 → mm_T → Option (mm_T)) (q2 : Int32) (N : mm_T) : Option (mm_T) :=
  (al_N N p0).bind fun x1 =>
  if x1 ≤ q2 then (some N) else ((aw_I N p0 q2 p1).bind fun M1 =>
  (some (q2 + (1 : Int32))).bind fun x2 =>
  rec x2 M1)
def lf_D_fill_a_2 (p0 : Nat) (p1 : Int32) : Nat → Int32 → mm_T → Option (mm_T)
  | 0, _, _ => none
  | fu + 1, q2, N => lb_D_fill_a_2 p0 p1 (lf_D_fill_a_2 p0 p1 fu) q2 N
def ff_D_fill_a (a1 : Nat) (a2 : Int32) (M : mm_T) : Option (mm_T) :=
  lf_D_fill_a_2  a1 a2 fu_L (0 : Int32) M

def lb_G_readEdges_28 (k0 : mm_T → Option (mm_T)) (p0 : Nat) (p1 : Nat) (p2 : Int32) (rec : Int32 → mm_T → Option (mm_T)) (q3 : Int32) (N : mm_T) : Option (mm_T) :=
  (ff_P_wayCount p1 p2 N).bind fun x4 =>
  if x4 ≤ q3 then (k0 N) else ((ff_P_wayOf p1 p2 q3 N).bind fun x5 =>
  (gf_R N p0 2 2).bind fun x6 =>
  (gf_R N p0 2 2).bind fun x7 =>
  (ff_D_at_a x7 p2 N).bind fun x8 =>
  (ff_D_put_a x6 p2 (x8 ||| (io_shl (1 : Int32) x5)) N).bind fun M3 =>
  (gf_R M3 p0 2 3).bind fun x9 =>
  (gf_R M3 p0 2 3).bind fun x10 =>
  (ff_D_at_a x10 x5 M3).bind fun x11 =>
  (ff_D_put_a x9 x5 (x11 ||| (io_shl (1 : Int32) p2)) M3).bind fun M4 =>
  (some (q3 + (1 : Int32))).bind fun x12 =>
  rec x12 M4)
def lf_G_readEdges_28 (k0 : mm_T → Option (mm_T)) (p0 : Nat) (p1 : Nat) (p2 : Int32) : Nat → Int32 → mm_T → Option (mm_T)
  | 0, _, _ => none
  | fu + 1, q3, N => lb_G_readEdges_28 k0 p0 p1 p2 (lf_G_readEdges_28 k0 p0 p1 p2 fu) q3 N
def lb_G_readEdges_18 (p0 : Nat) (p1 : Nat) (rec : Int32 → mm_T → Option (mm_T)) (q2 : Int32) (N : mm_T) : Option (mm_T) :=
  (gf_I N p1 7 0).bind fun x3 =>
  if x3 ≤ q2 then (some N) else (lf_G_readEdges_28 (fun (M5 : mm_T) => (some (q2 + (1 : Int32))).bind fun x13 =>
  rec x13 M5) p0 p1 q2 fu_L (0 : Int32) N)
def lf_G_readEdges_18 (p0 : Nat) (p1 : Nat) : Nat → Int32 → mm_T → Option (mm_T)
  | 0, _, _ => none
  | fu + 1, q2, N => lb_G_readEdges_18 p0 p1 (lf_G_readEdges_18 p0 p1 fu) q2 N
def ff_G_readEdges (t : Nat) (a1 : Nat) (M : mm_T) : Option (mm_T) :=
  gd_G M t 2 (
  (gf_R M t 2 2).bind fun x1 =>
  (ff_D_fill_a x1 (0 : Int32) M).bind fun M1 =>
  (gf_R M1 t 2 3).bind fun x2 =>
  (ff_D_fill_a x2 (0 : Int32) M1).bind fun M2 =>
  lf_G_readEdges_18  t a1 fu_L (0 : Int32) M2)

def ff_D_hasBit (a1 : Int64) (a2 : Int32) (M : mm_T) : Option (Int32) :=
  if (lg_cmp ((jo_ushr a1 a2) &&& (1 : Int64)) (0 : Int64)) = 0 then (some (0 : Int32)) else (some (1 : Int32))

def lb_G_union_4 (p0 : Nat) (p1 : Int32) (M : mm_T) (rec : Int32 → Int32 → Option (Int32)) (q2 : Int32) (q3 : Int32) : Option (Int32) :=
  if (12 : Int32) ≤ q3 then (some q2) else ((ff_D_hasBit ((p1).toInt64) q3 M).bind fun x1 =>
  jp_J (α := Int32 → Option (Int32)) (fun (x2 : Int32) => (some (q2 ||| x2)).bind fun x3 =>
  (some (q3 + (1 : Int32))).bind fun x4 =>
  rec x3 x4) fun j29 =>
  if x1 = 0 then (j29 (0 : Int32)) else ((ff_D_at_a p0 q3 M).bind fun x5 =>
  j29 x5))
def lf_G_union_4 (p0 : Nat) (p1 : Int32) (M : mm_T) : Nat → Int32 → Int32 → Option (Int32)
  | 0, _, _ => none
  | fu + 1, q2, q3 => lb_G_union_4 p0 p1 M (lf_G_union_4 p0 p1 M fu) q2 q3
def ff_G_union (a1 : Nat) (a2 : Int32) (M : mm_T) : Option (Int32) :=
  lf_G_union_4  a1 a2 M fu_L (0 : Int32) (0 : Int32)

def lb_G_measureDistances_60 (k0 : mm_T → Option (mm_T)) (p0 : Nat) (p1 : Int32) (p2 : Int32) (rec : Int32 → mm_T → Option (mm_T)) (q3 : Int32) (N : mm_T) : Option (mm_T) :=
  if (12 : Int32) ≤ q3 then (k0 N) else ((ff_D_hasBit ((p1).toInt64) q3 N).bind fun x8 =>
  jp_J (α := mm_T → Option (mm_T)) (fun  (M5 : mm_T) => (some (q3 + (1 : Int32))).bind fun x9 =>
  rec x9 M5) fun j84 =>
  if x8 = 0 then (j84 N) else ((gf_R N p0 2 4).bind fun x10 =>
  (ff_D_put_a x10 q3 p2 N).bind fun M6 =>
  j84 M6))
def lf_G_measureDistances_60 (k0 : mm_T → Option (mm_T)) (p0 : Nat) (p1 : Int32) (p2 : Int32) : Nat → Int32 → mm_T → Option (mm_T)
  | 0, _, _ => none
  | fu + 1, q3, N => lb_G_measureDistances_60 k0 p0 p1 p2 (lf_G_measureDistances_60 k0 p0 p1 p2 fu) q3 N
def lb_G_measureDistances_26 (p0 : Nat) (rec : Int32 → Int32 → mm_T → Option (mm_T)) (q1 : Int32) (q2 : Int32) (N : mm_T) : Option (mm_T) :=
  if (12 : Int32) ≤ q2 then (some N) else ((gf_R N p0 2 2).bind fun x3 =>
  (ff_G_union x3 q1 N).bind fun x4 =>
  (gf_I N p0 2 1).bind fun x5 =>
  (some (x4 &&& (x5 ^^^ (-1 : Int32)))).bind fun x6 =>
  (gf_I N p0 2 1).bind fun x7 =>
  (pf_I N p0 2 1 (x7 ||| x6)).bind fun M4 =>
  lf_G_measureDistances_60 (fun (M7 : mm_T) => (some (q2 + (1 : Int32))).bind fun x11 =>
  rec x6 x11 M7) p0 x6 q2 fu_L (0 : Int32) M4)
def lf_G_measureDistances_26 (p0 : Nat) : Nat → Int32 → Int32 → mm_T → Option (mm_T)
  | 0, _, _, _ => none
  | fu + 1, q1, q2, N => lb_G_measureDistances_26 p0 (lf_G_measureDistances_26 p0 fu) q1 q2 N
def ff_G_measureDistances (t : Nat) (M : mm_T) : Option (mm_T) :=
  gd_G M t 2 (
  (gf_R M t 2 4).bind fun x1 =>
  (ff_D_fill_a x1 (-1 : Int32) M).bind fun M1 =>
  (gf_R M1 t 2 4).bind fun x2 =>
  (ff_D_put_a x2 (0 : Int32) (0 : Int32) M1).bind fun M2 =>
  (pf_I M2 t 2 1 (1 : Int32)).bind fun M3 =>
  lf_G_measureDistances_26  t fu_L (1 : Int32) (1 : Int32) M3)

def ff_G_isReached (t : Nat) (a1 : Int32) (M : mm_T) : Option (Int32) :=
  gd_G M t 2 (
  (gf_I M t 2 1).bind fun x1 =>
  (ff_D_hasBit ((x1).toInt64) a1 M).bind fun x2 =>
  (zb_Z x2).bind fun w => some w)

def lb_G_narrowDominators_29 (k0 : Int32 → Option (Int32 × mm_T)) (p0 : Nat) (p1 : Int32) (p2 : Int32) (p4 : Int32) (M : mm_T) (rec : Int32 → Int32 → Option (Int32 × mm_T)) (q3 : Int32) (q5 : Int32) : Option (Int32 × mm_T) :=
  if (12 : Int32) ≤ q5 then (k0 q3) else ((ff_D_hasBit ((p4).toInt64) q5 M).bind fun x7 =>
  jp_J (α := Int32 → Option (Int32 × mm_T)) (fun (x8 : Int32) => (some (q5 + (1 : Int32))).bind fun x9 =>
  rec x8 x9) fun j63 =>
  if x7 = 0 then (j63 q3) else ((gf_R M p0 2 5).bind fun x10 =>
  (ff_D_at_a x10 q5 M).bind fun x11 =>
  (some (q3 &&& (x11 ||| (io_shl (1 : Int32) p1)))).bind fun x12 =>
  j63 x12))
def lf_G_narrowDominators_29 (k0 : Int32 → Option (Int32 × mm_T)) (p0 : Nat) (p1 : Int32) (p2 : Int32) (p4 : Int32) (M : mm_T) : Nat → Int32 → Int32 → Option (Int32 × mm_T)
  | 0, _, _ => none
  | fu + 1, q3, q5 => lb_G_narrowDominators_29 k0 p0 p1 p2 p4 M (lf_G_narrowDominators_29 k0 p0 p1 p2 p4 M fu) q3 q5
def ff_G_narrowDominators (t : Nat) (a1 : Int32) (M : mm_T) : Option (Int32 × mm_T) :=
  gd_G M t 2 (
  (gf_R M t 2 5).bind fun x1 =>
  (ff_D_at_a x1 a1 M).bind fun x2 =>
  (gf_R M t 2 3).bind fun x3 =>
  (ff_D_at_a x3 a1 M).bind fun x4 =>
  (gf_I M t 2 1).bind fun x5 =>
  (some (x4 &&& x5)).bind fun x6 =>
  lf_G_narrowDominators_29 (fun (x13 : Int32) => (gf_R M t 2 5).bind fun x14 =>
  (ff_D_put_a x14 a1 x13 M).bind fun M1 =>
  if x13 = x2 then (some ((0 : Int32), M1)) else (some ((1 : Int32), M1))) t a1 x2 x6 M fu_L x2 (0 : Int32))

def lb_G_findDominators_2 (k0 : mm_T → Option (mm_T)) (p0 : Nat) (rec : Int32 → mm_T → Option (mm_T)) (q1 : Int32) (N : mm_T) : Option (mm_T) :=
  if (12 : Int32) ≤ q1 then (k0 N) else ((gf_R N p0 2 5).bind fun x1 =>
  (ff_G_isReached p0 q1 N).bind fun x2 =>
  jp_J (α := Int32 → Option (mm_T)) (fun (x3 : Int32) => (ff_D_put_a x1 q1 x3 N).bind fun M1 =>
  (some (q1 + (1 : Int32))).bind fun x4 =>
  rec x4 M1) fun j29 =>
  if x2 = 0 then (j29 (0 : Int32)) else ((gf_I N p0 2 1).bind fun x5 =>
  j29 x5))
def lf_G_findDominators_2 (k0 : mm_T → Option (mm_T)) (p0 : Nat) : Nat → Int32 → mm_T → Option (mm_T)
  | 0, _, _ => none
  | fu + 1, q1, N => lb_G_findDominators_2 k0 p0 (lf_G_findDominators_2 k0 p0 fu) q1 N
def lb_G_findDominators_65 (k0 : Int32 → mm_T → Option (mm_T)) (p0 : Nat) (p2 : Int32) (rec : Int32 → Int32 → mm_T → Option (mm_T)) (q1 : Int32) (q3 : Int32) (N : mm_T) : Option (mm_T) :=
  if (12 : Int32) ≤ q3 then (k0 q1 N) else ((ff_G_isReached p0 q3 N).bind fun x7 =>
  jp_J (α := Int32 → mm_T → Option (mm_T)) (fun (x8 : Int32) (M4 : mm_T) => (some (q3 + (1 : Int32))).bind fun x9 =>
  rec x8 x9 M4) fun j89 =>
  if x7 = 0 then (j89 q1 N) else (bd_2 (ff_G_narrowDominators p0 q3 N) fun x10 M5 =>
  if x10 = 0 then (j89 q1 M5) else (j89 (1 : Int32) M5)))
def lf_G_findDominators_65 (k0 : Int32 → mm_T → Option (mm_T)) (p0 : Nat) (p2 : Int32) : Nat → Int32 → Int32 → mm_T → Option (mm_T)
  | 0, _, _, _ => none
  | fu + 1, q1, q3, N => lb_G_findDominators_65 k0 p0 p2 (lf_G_findDominators_65 k0 p0 p2 fu) q1 q3 N
def lb_G_findDominators_51 (p0 : Nat) (rec : Int32 → Int32 → mm_T → Option (mm_T)) (q1 : Int32) (q2 : Int32) (N : mm_T) : Option (mm_T) :=
  if q1 = 0 then (some N) else (if (100000 : Int32) ≤ q2 then (some N) else (lf_G_findDominators_65 (fun (x11 : Int32) (M6 : mm_T) => (some (q2 + (1 : Int32))).bind fun x12 =>
  rec x11 x12 M6) p0 q2 fu_L (0 : Int32) (0 : Int32) N))
def lf_G_findDominators_51 (p0 : Nat) : Nat → Int32 → Int32 → mm_T → Option (mm_T)
  | 0, _, _, _ => none
  | fu + 1, q1, q2, N => lb_G_findDominators_51 p0 (lf_G_findDominators_51 p0 fu) q1 q2 N
def ff_G_findDominators (t : Nat) (M : mm_T) : Option (mm_T) :=
  gd_G M t 2 (
  lf_G_findDominators_2 (fun (M2 : mm_T) => (gf_R M2 t 2 5).bind fun x6 =>
  (ff_D_put_a x6 (0 : Int32) (1 : Int32) M2).bind fun M3 =>
  lf_G_findDominators_51  t fu_L (1 : Int32) (0 : Int32) M3) t fu_L (0 : Int32) M)

def lb_G_origins_4 (p0 : Nat) (p1 : Int32) (M : mm_T) (rec : Int32 → Int32 → Option (Int32)) (q2 : Int32) (q3 : Int32) : Option (Int32) :=
  if (12 : Int32) ≤ q3 then (some q2) else ((gf_R M p0 2 3).bind fun x1 =>
  (ff_D_at_a x1 p1 M).bind fun x2 =>
  (ff_D_hasBit ((x2).toInt64) q3 M).bind fun x3 =>
  jp_J (α := Int32 → Option (Int32)) (fun (x4 : Int32) => (some (q3 + (1 : Int32))).bind fun x5 =>
  rec x4 x5) fun j48 =>
  if x3 = 0 then (j48 q2) else ((gf_R M p0 2 5).bind fun x6 =>
  (ff_D_at_a x6 q3 M).bind fun x7 =>
  (ff_D_hasBit ((x7).toInt64) p1 M).bind fun x8 =>
  if x8 = 0 then (j48 q2) else ((some (q2 ||| (io_shl (1 : Int32) q3))).bind fun x9 =>
  j48 x9)))
def lf_G_origins_4 (p0 : Nat) (p1 : Int32) (M : mm_T) : Nat → Int32 → Int32 → Option (Int32)
  | 0, _, _ => none
  | fu + 1, q2, q3 => lb_G_origins_4 p0 p1 M (lf_G_origins_4 p0 p1 M fu) q2 q3
def ff_G_origins (t : Nat) (a1 : Int32) (M : mm_T) : Option (Int32) :=
  gd_G M t 2 (
  lf_G_origins_4  t a1 M fu_L (0 : Int32) (0 : Int32))

def lb_G_findBody_24 (p0 : Nat) (p3 : Int32) (M : mm_T) (rec : Int32 → Int32 → Option (Int32)) (q4 : Int32) (q5 : Int32) : Option (Int32) :=
  if (12 : Int32) ≤ q5 then (some q4) else ((gf_R M p0 2 3).bind fun x4 =>
  (ff_G_union x4 (q4 &&& (p3 ^^^ (-1 : Int32))) M).bind fun x5 =>
  (gf_I M p0 2 1).bind fun x6 =>
  (some (q4 ||| (x5 &&& x6))).bind fun x7 =>
  (some (q5 + (1 : Int32))).bind fun x8 =>
  rec x7 x8)
def lf_G_findBody_24 (p0 : Nat) (p3 : Int32) (M : mm_T) : Nat → Int32 → Int32 → Option (Int32)
  | 0, _, _ => none
  | fu + 1, q4, q5 => lb_G_findBody_24 p0 p3 M (lf_G_findBody_24 p0 p3 M fu) q4 q5
def ff_G_findBody (t : Nat) (a1 : Int32) (M : mm_T) : Option (Int32) :=
  gd_G M t 2 (
  (ff_G_origins t a1 M).bind fun x1 =>
  if x1 = 0 then (some (0 : Int32)) else ((some (io_shl (1 : Int32) a1)).bind fun x2 =>
  (some (x1 ||| x2)).bind fun x3 =>
  lf_G_findBody_24  t x2 M fu_L x3 (0 : Int32)))

def lb_G_analyse_15 (k0 : mm_T → Option (mm_T)) (p0 : Nat) (rec : Int32 → mm_T → Option (mm_T)) (q2 : Int32) (N : mm_T) : Option (mm_T) :=
  if (12 : Int32) ≤ q2 then (k0 N) else ((gf_R N p0 2 6).bind fun x1 =>
  (ff_G_findBody p0 q2 N).bind fun x2 =>
  (ff_D_put_a x1 q2 x2 N).bind fun M4 =>
  (some (q2 + (1 : Int32))).bind fun x3 =>
  rec x3 M4)
def lf_G_analyse_15 (k0 : mm_T → Option (mm_T)) (p0 : Nat) : Nat → Int32 → mm_T → Option (mm_T)
  | 0, _, _ => none
  | fu + 1, q2, N => lb_G_analyse_15 k0 p0 (lf_G_analyse_15 k0 p0 fu) q2 N
def ff_G_analyse (t : Nat) (a1 : Nat) (M : mm_T) : Option (mm_T) :=
  gd_G M t 2 (
  (ff_G_readEdges t a1 M).bind fun M1 =>
  (ff_G_measureDistances t M1).bind fun M2 =>
  (ff_G_findDominators t M2).bind fun M3 =>
  lf_G_analyse_15 (fun (M5 : mm_T) => (pf_Z M5 t 2 0 (1 : Int32)).bind fun M6 =>
  some M6) t fu_L (0 : Int32) M3)

def ff_D_graph (t : Nat) (M : mm_T) : Option (Nat × mm_T) :=
  gd_G M t 10 (
  (gf_R M t 10 6).bind fun x1 =>
  (gf_I M x1 2 0).bind fun x2 =>
  jp_J (α := mm_T → Option (Nat × mm_T)) (fun  (M1 : mm_T) => (gf_R M1 t 10 6).bind fun x3 =>
  some (x3, M1)) fun j21 =>
  if x2 = 0 then ((gf_R M t 10 6).bind fun x4 =>
  (gf_R M t 10 0).bind fun x5 =>
  (ff_G_analyse x4 x5 M).bind fun M2 =>
  j21 M2) else (j21 M))

def ff_G_predecessorSet (t : Nat) (a1 : Int32) (M : mm_T) : Option (Int32) :=
  gd_G M t 2 (
  (gf_R M t 2 3).bind fun x1 =>
  (ff_D_at_a x1 a1 M).bind fun x2 =>
  some x2)

def ff_JI_bitCount (a1 : Int32) (M : mm_T) : Option (Int32) :=
  (some (a1 - ((io_ushr a1 (1 : Int32)) &&& (1431655765 : Int32)))).bind fun x1 =>
  (some ((x1 &&& (858993459 : Int32)) + ((io_ushr x1 (2 : Int32)) &&& (858993459 : Int32)))).bind fun x2 =>
  (some ((x2 + (io_ushr x2 (4 : Int32))) &&& (252645135 : Int32))).bind fun x3 =>
  (some (x3 + (io_ushr x3 (8 : Int32)))).bind fun x4 =>
  (some (x4 + (io_ushr x4 (16 : Int32)))).bind fun x5 =>
  some (x5 &&& (63 : Int32))

def ff_D_predecessors (t : Nat) (a1 : Int32) (M : mm_T) : Option ((Int32 ⊕ String) × mm_T) :=
  gd_G M t 10 (
  rq_X (ff_D_requireBlock t a1 M) M (bd_2 (ff_D_graph t M) fun x1 M1 =>
  (ff_G_predecessorSet x1 a1 M1).bind fun x2 =>
  (ff_JI_bitCount x2 M1).bind fun x3 =>
  some (.inl x3, M1)))

def ff_D_isReachable (t : Nat) (a1 : Int32) (M : mm_T) : Option ((Int32 ⊕ String) × mm_T) :=
  gd_G M t 10 (
  rq_X (ff_D_requireBlock t a1 M) M (bd_2 (ff_D_graph t M) fun x1 M1 =>
  (ff_G_isReached x1 a1 M1).bind fun x2 =>
  (zb_Z x2).bind fun w => some (.inl w, M1)))

def ff_G_distance (t : Nat) (a1 : Int32) (M : mm_T) : Option (Int32) :=
  gd_G M t 2 (
  (gf_R M t 2 4).bind fun x1 =>
  (ff_D_at_a x1 a1 M).bind fun x2 =>
  some x2)

def ff_D_distanceTo (t : Nat) (a1 : Int32) (M : mm_T) : Option ((Int32 ⊕ String) × mm_T) :=
  gd_G M t 10 (
  rq_X (ff_D_requireBlock t a1 M) M (bd_2 (ff_D_graph t M) fun x1 M1 =>
  (ff_G_distance x1 a1 M1).bind fun x2 =>
  some (.inl x2, M1)))

def lb_D_fill_b_2 (p0 : Nat) (p1 : Int64) (rec : Int32 → mm_T → Option (mm_T)) (q3 : Int32) (N : mm_T) : Option (mm_T) :=
  (al_N N p0).bind fun x1 =>
  if x1 ≤ q3 then (some N) else ((aw_J N p0 q3 p1).bind fun M1 =>
  (some (q3 + (1 : Int32))).bind fun x2 =>
  rec x2 M1)
def lf_D_fill_b_2 (p0 : Nat) (p1 : Int64) : Nat → Int32 → mm_T → Option (mm_T)
  | 0, _, _ => none
  | fu + 1, q3, N => lb_D_fill_b_2 p0 p1 (lf_D_fill_b_2 p0 p1 fu) q3 N
def ff_D_fill_b (a1 : Nat) (a2 : Int64) (M : mm_T) : Option (mm_T) :=
  lf_D_fill_b_2  a1 a2 fu_L (0 : Int32) M

def ff_O_target (a1 : Int32) (M : mm_T) : Option (Int32) :=
  some ((io_ushr a1 (2 : Int32)) &&& (7 : Int32))

def ff_P_definedAt (t : Nat) (a1 : Int32) (M : mm_T) : Option (Int32) :=
  gd_G M t 7 (
  (ff_P_kindAt t a1 M).bind fun x1 =>
  jp_J (α := Option (Int32)) (some (-1 : Int32)) fun j16 =>
  if x1 = (-1 : Int32) then (j16) else (if x1 = (3 : Int32) then (j16) else ((gf_R M t 7 2).bind fun x2 =>
  (ff_D_at_a x2 a1 M).bind fun x3 =>
  (ff_O_target x3 M).bind fun x4 =>
  some x4)))

def ff_D_at_b (a1 : Nat) (a2 : Int32) (M : mm_T) : Option (Int64) :=
  if a2 < 0 then (some (0 : Int64)) else ((al_N M a1).bind fun x1 =>
  if x1 ≤ a2 then (some (0 : Int64)) else ((ar_J M a1 a2).bind fun x2 =>
  some x2))

def ff_D_put_b (a1 : Nat) (a2 : Int32) (a3 : Int64) (M : mm_T) : Option (mm_T) :=
  if a2 < 0 then (some M) else ((al_N M a1).bind fun x1 =>
  if x1 ≤ a2 then (some M) else ((aw_J M a1 a2 a3).bind fun M1 =>
  some M1))

def lb_R_collectDefinitions_10 (p0 : Nat) (p1 : Nat) (rec : Int32 → mm_T → Option (mm_T)) (q2 : Int32) (N : mm_T) : Option (mm_T) :=
  (gf_I N p1 7 1).bind fun x2 =>
  if x2 ≤ q2 then (some N) else ((ff_P_definedAt p1 q2 N).bind fun x3 =>
  jp_J (α := mm_T → Option (mm_T)) (fun  (M2 : mm_T) => (some (q2 + (1 : Int32))).bind fun x4 =>
  rec x4 M2) fun j49 =>
  if x3 = (-1 : Int32) then (j49 N) else ((gf_R N p0 8 3).bind fun x5 =>
  (gf_R N p0 8 3).bind fun x6 =>
  (ff_D_at_b x6 x3 N).bind fun x7 =>
  (ff_D_put_b x5 x3 (x7 ||| (jo_shl (1 : Int64) q2)) N).bind fun M3 =>
  j49 M3))
def lf_R_collectDefinitions_10 (p0 : Nat) (p1 : Nat) : Nat → Int32 → mm_T → Option (mm_T)
  | 0, _, _ => none
  | fu + 1, q2, N => lb_R_collectDefinitions_10 p0 p1 (lf_R_collectDefinitions_10 p0 p1 fu) q2 N
def ff_R_collectDefinitions (t : Nat) (a1 : Nat) (M : mm_T) : Option (mm_T) :=
  gd_G M t 8 (
  (gf_R M t 8 3).bind fun x1 =>
  (ff_D_fill_b x1 (0 : Int64) M).bind fun M1 =>
  lf_R_collectDefinitions_10  t a1 fu_L (0 : Int32) M1)

def ff_P_firstPoint (t : Nat) (a1 : Int32) (M : mm_T) : Option (Int32) :=
  gd_G M t 7 (
  (gf_R M t 7 3).bind fun x1 =>
  (ff_D_at_a x1 a1 M).bind fun x2 =>
  (gf_R M t 7 3).bind fun x3 =>
  (ff_D_at_a x3 (a1 + (1 : Int32)) M).bind fun x4 =>
  if x4 ≤ x2 then (some ((40 : Int32) + a1)) else (some x2))

def ff_P_hasPoint (t : Nat) (a1 : Int32) (M : mm_T) : Option (Int32) :=
  gd_G M t 7 (
  if (40 : Int32) ≤ a1 then ((gf_I M t 7 0).bind fun x1 =>
  if x1 ≤ (a1 - (40 : Int32)) then (some (0 : Int32)) else (some (1 : Int32))) else ((gf_I M t 7 1).bind fun x2 =>
  if x2 ≤ a1 then (some (0 : Int32)) else (some (1 : Int32))))

def ff_P_nextCount (t : Nat) (a1 : Int32) (M : mm_T) : Option (Int32) :=
  gd_G M t 7 (
  if (40 : Int32) ≤ a1 then ((gf_R M t 7 4).bind fun x1 =>
  (ff_D_at_a x1 (a1 - (40 : Int32)) M).bind fun x2 =>
  some x2) else (some (1 : Int32)))

def ff_P_nextPoint (t : Nat) (a1 : Int32) (a2 : Int32) (M : mm_T) : Option (Int32) :=
  gd_G M t 7 (
  if a1 < (40 : Int32) then ((ff_P_blockAt t a1 M).bind fun x1 =>
  (gf_R M t 7 3).bind fun x2 =>
  (ff_D_at_a x2 (x1 + (1 : Int32)) M).bind fun x3 =>
  if x3 ≤ (a1 + (1 : Int32)) then (some ((40 : Int32) + x1)) else (some (a1 + (1 : Int32)))) else ((ff_P_wayOf t (a1 - (40 : Int32)) a2 M).bind fun x4 =>
  (ff_P_firstPoint t x4 M).bind fun x5 =>
  some x5))

def ff_R_join (t : Nat) (a1 : Int32) (a2 : Int64) (a3 : Int32) (M : mm_T) : Option (Int32 × mm_T) :=
  gd_G M t 8 (
  (gf_R M t 8 1).bind fun x1 =>
  (ff_D_at_b x1 a1 M).bind fun x2 =>
  (some (x2 ||| a2)).bind fun x3 =>
  (gf_R M t 8 2).bind fun x4 =>
  (ff_D_at_a x4 a1 M).bind fun x5 =>
  (some (x5 ||| a3)).bind fun x6 =>
  (gf_R M t 8 1).bind fun x7 =>
  (ff_D_at_b x7 a1 M).bind fun x8 =>
  jp_J (α := Int32 → Option (Int32 × mm_T)) (fun (x9 : Int32) => (gf_R M t 8 1).bind fun x10 =>
  (ff_D_put_b x10 a1 x3 M).bind fun M1 =>
  (gf_R M1 t 8 2).bind fun x11 =>
  (ff_D_put_a x11 a1 x6 M1).bind fun M2 =>
  (zb_Z x9).bind fun w => some (w, M2)) fun j57 =>
  jp_J (α := Option (Int32 × mm_T)) (j57 (1 : Int32)) fun j52 =>
  if (lg_cmp x3 x8) = 0 then ((gf_R M t 8 2).bind fun x12 =>
  (ff_D_at_a x12 a1 M).bind fun x13 =>
  if x6 = x13 then (j57 (0 : Int32)) else (j52)) else (j52))

def lb_R_flow_69 (p0 : Nat) (p1 : Nat) (p2 : Int32) (p3 : Int64) (p5 : Int32) (rec : Int32 → Int32 → mm_T → Option (Int32 × mm_T)) (q7 : Int32) (q8 : Int32) (N : mm_T) : Option (Int32 × mm_T) :=
  (ff_P_nextCount p1 p2 N).bind fun x8 =>
  if x8 ≤ q8 then ((zb_Z q7).bind fun w => some (w, N)) else ((ff_P_nextPoint p1 p2 q8 N).bind fun x9 =>
  bd_2 (ff_R_join p0 x9 p3 p5 N) fun x10 M1 =>
  jp_J (α := Int32 → Option (Int32 × mm_T)) (fun (x11 : Int32) => (some (q8 + (1 : Int32))).bind fun x12 =>
  rec x11 x12 M1) fun j99 =>
  if x10 = 0 then (j99 q7) else (j99 (1 : Int32)))
def lf_R_flow_69 (p0 : Nat) (p1 : Nat) (p2 : Int32) (p3 : Int64) (p5 : Int32) : Nat → Int32 → Int32 → mm_T → Option (Int32 × mm_T)
  | 0, _, _, _ => none
  | fu + 1, q7, q8, N => lb_R_flow_69 p0 p1 p2 p3 p5 (lf_R_flow_69 p0 p1 p2 p3 p5 fu) q7 q8 N
def ff_R_flow (t : Nat) (a1 : Nat) (a2 : Int32) (M : mm_T) : Option (Int32 × mm_T) :=
  gd_G M t 8 (
  (gf_R M t 8 1).bind fun x1 =>
  (ff_D_at_b x1 a2 M).bind fun x2 =>
  (gf_R M t 8 2).bind fun x3 =>
  (ff_D_at_a x3 a2 M).bind fun x4 =>
  (ff_P_definedAt a1 a2 M).bind fun x5 =>
  jp_J (α := Int64 → Int32 → Option (Int32 × mm_T)) (fun (x6 : Int64) (x7 : Int32) => lf_R_flow_69  t a1 a2 x6 x7 fu_L (0 : Int32) (0 : Int32) M) fun j63 =>
  if x5 = (-1 : Int32) then (j63 x2 x4) else ((gf_R M t 8 3).bind fun x13 =>
  (ff_D_at_b x13 x5 M).bind fun x14 =>
  (some ((x2 &&& (x14 ^^^ (-1 : Int64))) ||| (jo_shl (1 : Int64) a2))).bind fun x15 =>
  (some (x4 &&& ((io_shl (1 : Int32) x5) ^^^ (-1 : Int32)))).bind fun x16 =>
  j63 x15 x16))

def lb_R_analyse_55 (k0 : Int32 → mm_T → Option (mm_T)) (p0 : Nat) (p1 : Nat) (p3 : Int32) (rec : Int32 → Int32 → mm_T → Option (mm_T)) (q2 : Int32) (q4 : Int32) (N : mm_T) : Option (mm_T) :=
  if (52 : Int32) ≤ q4 then (k0 q2 N) else ((ff_P_hasPoint p1 q4 N).bind fun x5 =>
  jp_J (α := Int32 → mm_T → Option (mm_T)) (fun (x6 : Int32) (M5 : mm_T) => (some (q4 + (1 : Int32))).bind fun x7 =>
  rec x6 x7 M5) fun j83 =>
  if x5 = 0 then (j83 q2 N) else (bd_2 (ff_R_flow p0 p1 q4 N) fun x8 M6 =>
  if x8 = 0 then (j83 q2 M6) else (j83 (1 : Int32) M6)))
def lf_R_analyse_55 (k0 : Int32 → mm_T → Option (mm_T)) (p0 : Nat) (p1 : Nat) (p3 : Int32) : Nat → Int32 → Int32 → mm_T → Option (mm_T)
  | 0, _, _, _ => none
  | fu + 1, q2, q4, N => lb_R_analyse_55 k0 p0 p1 p3 (lf_R_analyse_55 k0 p0 p1 p3 fu) q2 q4 N
def lb_R_analyse_40 (k0 : mm_T → Option (mm_T)) (p0 : Nat) (p1 : Nat) (rec : Int32 → Int32 → mm_T → Option (mm_T)) (q2 : Int32) (q3 : Int32) (N : mm_T) : Option (mm_T) :=
  if q2 = 0 then (k0 N) else (if (100000 : Int32) ≤ q3 then (k0 N) else (lf_R_analyse_55 (fun (x9 : Int32) (M7 : mm_T) => (some (q3 + (1 : Int32))).bind fun x10 =>
  rec x9 x10 M7) p0 p1 q3 fu_L (0 : Int32) (0 : Int32) N))
def lf_R_analyse_40 (k0 : mm_T → Option (mm_T)) (p0 : Nat) (p1 : Nat) : Nat → Int32 → Int32 → mm_T → Option (mm_T)
  | 0, _, _, _ => none
  | fu + 1, q2, q3, N => lb_R_analyse_40 k0 p0 p1 (lf_R_analyse_40 k0 p0 p1 fu) q2 q3 N
def ff_R_analyse (t : Nat) (a1 : Nat) (M : mm_T) : Option (mm_T) :=
  gd_G M t 8 (
  (gf_R M t 8 1).bind fun x1 =>
  (ff_D_fill_b x1 (0 : Int64) M).bind fun M1 =>
  (gf_R M1 t 8 2).bind fun x2 =>
  (ff_D_fill_a x2 (0 : Int32) M1).bind fun M2 =>
  (ff_R_collectDefinitions t a1 M2).bind fun M3 =>
  (gf_R M3 t 8 2).bind fun x3 =>
  (ff_P_firstPoint a1 (0 : Int32) M3).bind fun x4 =>
  (ff_D_put_a x3 x4 (255 : Int32) M3).bind fun M4 =>
  lf_R_analyse_40 (fun (M8 : mm_T) => (pf_Z M8 t 8 0 (1 : Int32)).bind fun M9 =>
  some M9) t a1 fu_L (1 : Int32) (0 : Int32) M4)

def ff_D_reaching (t : Nat) (M : mm_T) : Option (Nat × mm_T) :=
  gd_G M t 10 (
  (gf_R M t 10 7).bind fun x1 =>
  (gf_I M x1 8 0).bind fun x2 =>
  jp_J (α := mm_T → Option (Nat × mm_T)) (fun  (M1 : mm_T) => (gf_R M1 t 10 7).bind fun x3 =>
  some (x3, M1)) fun j21 =>
  if x2 = 0 then ((gf_R M t 10 7).bind fun x4 =>
  (gf_R M t 10 0).bind fun x5 =>
  (ff_R_analyse x4 x5 M).bind fun M2 =>
  j21 M2) else (j21 M))

def ff_R_definitionsAt_a (t : Nat) (a1 : Int32) (M : mm_T) : Option (Int64) :=
  gd_G M t 8 (
  (gf_R M t 8 1).bind fun x1 =>
  (ff_D_at_b x1 a1 M).bind fun x2 =>
  some x2)

def ff_D_reaches (t : Nat) (a1 : Int32) (a2 : Int32) (M : mm_T) : Option ((Int32 ⊕ String) × mm_T) :=
  gd_G M t 10 (
  rq_X (ff_D_requireInstruction t a1 M) M (rq_X (ff_D_requireBlock t a2 M) M (bd_2 (ff_D_reaching t M) fun x1 M1 =>
  (gf_R M1 t 10 0).bind fun x2 =>
  (ff_P_firstPoint x2 a2 M1).bind fun x3 =>
  (ff_R_definitionsAt_a x1 x3 M1).bind fun x4 =>
  (ff_D_hasBit x4 a1 M1).bind fun x5 =>
  (zb_Z x5).bind fun w => some (.inl w, M1))))

def ff_D_requireVariable (a1 : Int32) (M : mm_T) : Option (Option String) :=
  jp_J (α := Option (Option String)) (some (some "java/lang/IllegalArgumentException")) fun j10 =>
  if a1 < 0 then (j10) else (if a1 < (8 : Int32) then (some none) else (j10))

def ff_R_definitionsAt_b (t : Nat) (a1 : Int32) (a2 : Int32) (M : mm_T) : Option (Int64) :=
  gd_G M t 8 (
  (gf_R M t 8 1).bind fun x1 =>
  (ff_D_at_b x1 a1 M).bind fun x2 =>
  (gf_R M t 8 3).bind fun x3 =>
  (ff_D_at_b x3 a2 M).bind fun x4 =>
  some (x2 &&& x4))

def ff_JL_bitCount (a1 : Int64) (M : mm_T) : Option (Int32) :=
  (some (a1 - ((jo_ushr a1 (1 : Int32)) &&& (6148914691236517205 : Int64)))).bind fun x1 =>
  (some ((x1 &&& (3689348814741910323 : Int64)) + ((jo_ushr x1 (2 : Int32)) &&& (3689348814741910323 : Int64)))).bind fun x2 =>
  (some ((x2 + (jo_ushr x2 (4 : Int32))) &&& (1085102592571150095 : Int64))).bind fun x3 =>
  (some (x3 + (jo_ushr x3 (8 : Int32)))).bind fun x4 =>
  (some (x4 + (jo_ushr x4 (16 : Int32)))).bind fun x5 =>
  (some (x5 + (jo_ushr x5 (32 : Int32)))).bind fun x6 =>
  some (((x6).toInt32) &&& (127 : Int32))

def ff_D_reachingDefinitions (t : Nat) (a1 : Int32) (a2 : Int32) (M : mm_T) : Option ((Int32 ⊕ String) × mm_T) :=
  gd_G M t 10 (
  rq_X (ff_D_requireBlock t a1 M) M (rq_X (ff_D_requireVariable a2 M) M (bd_2 (ff_D_reaching t M) fun x1 M1 =>
  (gf_R M1 t 10 0).bind fun x2 =>
  (ff_P_firstPoint x2 a1 M1).bind fun x3 =>
  (ff_R_definitionsAt_b x1 x3 a2 M1).bind fun x4 =>
  (ff_JL_bitCount x4 M1).bind fun x5 =>
  some (.inl x5, M1))))

def ff_R_initialsAt (t : Nat) (a1 : Int32) (M : mm_T) : Option (Int32) :=
  gd_G M t 8 (
  (gf_R M t 8 2).bind fun x1 =>
  (ff_D_at_a x1 a1 M).bind fun x2 =>
  some x2)

def ff_D_isInitialReaching (t : Nat) (a1 : Int32) (a2 : Int32) (M : mm_T) : Option ((Int32 ⊕ String) × mm_T) :=
  gd_G M t 10 (
  rq_X (ff_D_requireBlock t a1 M) M (rq_X (ff_D_requireVariable a2 M) M (bd_2 (ff_D_reaching t M) fun x1 M1 =>
  (gf_R M1 t 10 0).bind fun x2 =>
  (ff_P_firstPoint x2 a1 M1).bind fun x3 =>
  (ff_R_initialsAt x1 x3 M1).bind fun x4 =>
  (ff_D_hasBit ((x4).toInt64) a2 M1).bind fun x5 =>
  (zb_Z x5).bind fun w => some (.inl w, M1))))

def ff_O_left (a1 : Int32) (M : mm_T) : Option (Int32) :=
  some ((io_ushr a1 (5 : Int32)) &&& (7 : Int32))

def ff_O_right (a1 : Int32) (M : mm_T) : Option (Int32) :=
  some ((io_ushr a1 (8 : Int32)) &&& (7 : Int32))

def ff_P_operandAt (t : Nat) (a1 : Int32) (a2 : Int32) (M : mm_T) : Option (Int32) :=
  gd_G M t 7 (
  (gf_R M t 7 2).bind fun x1 =>
  (ff_D_at_a x1 a1 M).bind fun x2 =>
  jp_J (α := Option (Int32)) (if a2 = (1 : Int32) then ((ff_O_kind x2 M).bind fun x3 =>
  if x3 = (2 : Int32) then ((ff_O_right x2 M).bind fun x4 =>
  some x4) else (some (-1 : Int32))) else (some (-1 : Int32))) fun j25 =>
  if a2 = 0 then ((ff_O_kind x2 M).bind fun x5 =>
  if x5 = 0 then (j25) else ((ff_O_left x2 M).bind fun x6 =>
  some x6)) else (j25))

def ff_P_usedAt (t : Nat) (a1 : Int32) (M : mm_T) : Option (Int32) :=
  gd_G M t 7 (
  if a1 < (40 : Int32) then ((ff_P_operandAt t a1 (0 : Int32) M).bind fun x1 =>
  (ff_P_operandAt t a1 (1 : Int32) M).bind fun x2 =>
  jp_J (α := Int32 → Option (Int32)) (fun (x3 : Int32) => jp_J (α := Int32 → Option (Int32)) (fun (x4 : Int32) => some (x3 ||| x4)) fun j76 =>
  if x2 = (-1 : Int32) then (j76 (0 : Int32)) else (j76 ((io_shl (1 : Int32) x2)))) fun j64 =>
  if x1 = (-1 : Int32) then (j64 (0 : Int32)) else (j64 ((io_shl (1 : Int32) x1)))) else ((some (a1 - (40 : Int32))).bind fun x5 =>
  (gf_R M t 7 4).bind fun x6 =>
  (ff_D_at_a x6 x5 M).bind fun x7 =>
  if x7 = (2 : Int32) then ((gf_R M t 7 5).bind fun x8 =>
  (ff_D_at_a x8 x5 M).bind fun x9 =>
  some (io_shl (1 : Int32) x9)) else (some (0 : Int32))))

def lb_R_countUses_12 (p0 : Nat) (p1 : Nat) (p2 : Int32) (p3 : Int32) (M : mm_T) (rec : Int32 → Int32 → Option (Int32)) (q4 : Int32) (q5 : Int32) : Option (Int32) :=
  if p3 = (-1 : Int32) then (some q4) else (if (52 : Int32) ≤ q5 then (some q4) else ((gf_R M p0 8 1).bind fun x2 =>
  (ff_D_at_b x2 q5 M).bind fun x3 =>
  (ff_D_hasBit x3 p2 M).bind fun x4 =>
  jp_J (α := Int32 → Option (Int32)) (fun (x5 : Int32) => (some (q5 + (1 : Int32))).bind fun x6 =>
  rec x5 x6) fun j57 =>
  if x4 = 0 then (j57 q4) else ((ff_P_usedAt p1 q5 M).bind fun x7 =>
  (ff_D_hasBit ((x7).toInt64) p3 M).bind fun x8 =>
  if x8 = 0 then (j57 q4) else ((some (q4 + (1 : Int32))).bind fun x9 =>
  j57 x9))))
def lf_R_countUses_12 (p0 : Nat) (p1 : Nat) (p2 : Int32) (p3 : Int32) (M : mm_T) : Nat → Int32 → Int32 → Option (Int32)
  | 0, _, _ => none
  | fu + 1, q4, q5 => lb_R_countUses_12 p0 p1 p2 p3 M (lf_R_countUses_12 p0 p1 p2 p3 M fu) q4 q5
def ff_R_countUses (t : Nat) (a1 : Nat) (a2 : Int32) (M : mm_T) : Option (Int32) :=
  gd_G M t 8 (
  (ff_P_definedAt a1 a2 M).bind fun x1 =>
  lf_R_countUses_12  t a1 a2 x1 M fu_L (0 : Int32) (0 : Int32))

def ff_D_usesOf (t : Nat) (a1 : Int32) (M : mm_T) : Option ((Int32 ⊕ String) × mm_T) :=
  gd_G M t 10 (
  rq_X (ff_D_requireInstruction t a1 M) M (bd_2 (ff_D_reaching t M) fun x1 M1 =>
  (gf_R M1 t 10 0).bind fun x2 =>
  (ff_R_countUses x1 x2 a1 M1).bind fun x3 =>
  some (.inl x3, M1)))

def lb_R_onlyDefinitionAt_36 (p3 : Int64) (M : mm_T) (rec : Int32 → Option (Int32)) (q5 : Int32) : Option (Int32) :=
  if (40 : Int32) ≤ q5 then (some q5) else ((ff_D_hasBit p3 q5 M).bind fun x6 =>
  if x6 = 0 then ((some (q5 + (1 : Int32))).bind fun x7 =>
  rec x7) else (some q5))
def lf_R_onlyDefinitionAt_36 (p3 : Int64) (M : mm_T) : Nat → Int32 → Option (Int32)
  | 0, _ => none
  | fu + 1, q5 => lb_R_onlyDefinitionAt_36 p3 M (lf_R_onlyDefinitionAt_36 p3 M fu) q5
def ff_R_onlyDefinitionAt (t : Nat) (a1 : Int32) (a2 : Int32) (M : mm_T) : Option (Int32) :=
  gd_G M t 8 (
  (ff_R_definitionsAt_b t a1 a2 M).bind fun x1 =>
  (gf_R M t 8 2).bind fun x2 =>
  (ff_D_at_a x2 a1 M).bind fun x3 =>
  (ff_D_hasBit ((x3).toInt64) a2 M).bind fun x4 =>
  if x4 = 0 then ((ff_JL_bitCount x1 M).bind fun x5 =>
  if x5 = (1 : Int32) then (lf_R_onlyDefinitionAt_36  x1 M fu_L (0 : Int32)) else (some (-1 : Int32))) else (some (-1 : Int32)))

def ff_D_onlyDefinition (t : Nat) (a1 : Int32) (a2 : Int32) (M : mm_T) : Option ((Int32 ⊕ String) × mm_T) :=
  gd_G M t 10 (
  rq_X (ff_D_requireInstruction t a1 M) M ((gf_R M t 10 0).bind fun x1 =>
  (ff_P_operandAt x1 a1 a2 M).bind fun x2 =>
  if x2 = (-1 : Int32) then (some (.inr "java/util/NoSuchElementException", mm_ex M)) else (bd_2 (ff_D_reaching t M) fun x3 M1 =>
  (ff_R_onlyDefinitionAt x3 a1 x2 M1).bind fun x4 =>
  some (.inl x4, M1))))

def lb_L_flow_5 (k0 : Int32 → Option (Int32 × mm_T)) (p0 : Nat) (p1 : Nat) (p2 : Int32) (M : mm_T) (rec : Int32 → Int32 → Option (Int32 × mm_T)) (q3 : Int32) (q4 : Int32) : Option (Int32 × mm_T) :=
  (ff_P_nextCount p1 p2 M).bind fun x1 =>
  if x1 ≤ q4 then (k0 q3) else ((gf_R M p0 4 1).bind fun x2 =>
  (ff_P_nextPoint p1 p2 q4 M).bind fun x3 =>
  (ff_D_at_a x2 x3 M).bind fun x4 =>
  (some (q3 ||| x4)).bind fun x5 =>
  (some (q4 + (1 : Int32))).bind fun x6 =>
  rec x5 x6)
def lf_L_flow_5 (k0 : Int32 → Option (Int32 × mm_T)) (p0 : Nat) (p1 : Nat) (p2 : Int32) (M : mm_T) : Nat → Int32 → Int32 → Option (Int32 × mm_T)
  | 0, _, _ => none
  | fu + 1, q3, q4 => lb_L_flow_5 k0 p0 p1 p2 M (lf_L_flow_5 k0 p0 p1 p2 M fu) q3 q4
def ff_L_flow (t : Nat) (a1 : Nat) (a2 : Int32) (M : mm_T) : Option (Int32 × mm_T) :=
  gd_G M t 4 (
  lf_L_flow_5 (fun (x7 : Int32) => (gf_R M t 4 2).bind fun x8 =>
  (ff_D_put_a x8 a2 x7 M).bind fun M1 =>
  (ff_P_definedAt a1 a2 M1).bind fun x9 =>
  jp_J (α := Int32 → Option (Int32 × mm_T)) (fun (x10 : Int32) => (ff_P_usedAt a1 a2 M1).bind fun x11 =>
  (some (x10 ||| x11)).bind fun x12 =>
  (gf_R M1 t 4 1).bind fun x13 =>
  (ff_D_at_a x13 a2 M1).bind fun x14 =>
  jp_J (α := Int32 → Option (Int32 × mm_T)) (fun (x15 : Int32) => (gf_R M1 t 4 1).bind fun x16 =>
  (ff_D_put_a x16 a2 x12 M1).bind fun M2 =>
  (zb_Z x15).bind fun w => some (w, M2)) fun j94 =>
  if x12 = x14 then (j94 (0 : Int32)) else (j94 (1 : Int32))) fun j69 =>
  if x9 = (-1 : Int32) then (j69 x7) else ((some (x7 &&& ((io_shl (1 : Int32) x9) ^^^ (-1 : Int32)))).bind fun x17 =>
  j69 x17)) t a1 a2 M fu_L (0 : Int32) (0 : Int32))

def lb_L_analyse_36 (k0 : Int32 → mm_T → Option (mm_T)) (p0 : Nat) (p1 : Nat) (p3 : Int32) (rec : Int32 → Int32 → mm_T → Option (mm_T)) (q2 : Int32) (q4 : Int32) (N : mm_T) : Option (mm_T) :=
  if q4 < 0 then (k0 q2 N) else ((ff_P_hasPoint p1 q4 N).bind fun x3 =>
  jp_J (α := Int32 → mm_T → Option (mm_T)) (fun (x4 : Int32) (M3 : mm_T) => (some (q4 + (-1 : Int32))).bind fun x5 =>
  rec x4 x5 M3) fun j62 =>
  if x3 = 0 then (j62 q2 N) else (bd_2 (ff_L_flow p0 p1 q4 N) fun x6 M4 =>
  if x6 = 0 then (j62 q2 M4) else (j62 (1 : Int32) M4)))
def lf_L_analyse_36 (k0 : Int32 → mm_T → Option (mm_T)) (p0 : Nat) (p1 : Nat) (p3 : Int32) : Nat → Int32 → Int32 → mm_T → Option (mm_T)
  | 0, _, _, _ => none
  | fu + 1, q2, q4, N => lb_L_analyse_36 k0 p0 p1 p3 (lf_L_analyse_36 k0 p0 p1 p3 fu) q2 q4 N
def lb_L_analyse_20 (k0 : mm_T → Option (mm_T)) (p0 : Nat) (p1 : Nat) (rec : Int32 → Int32 → mm_T → Option (mm_T)) (q2 : Int32) (q3 : Int32) (N : mm_T) : Option (mm_T) :=
  if q2 = 0 then (k0 N) else (if (100000 : Int32) ≤ q3 then (k0 N) else (lf_L_analyse_36 (fun (x7 : Int32) (M5 : mm_T) => (some (q3 + (1 : Int32))).bind fun x8 =>
  rec x7 x8 M5) p0 p1 q3 fu_L (0 : Int32) (51 : Int32) N))
def lf_L_analyse_20 (k0 : mm_T → Option (mm_T)) (p0 : Nat) (p1 : Nat) : Nat → Int32 → Int32 → mm_T → Option (mm_T)
  | 0, _, _, _ => none
  | fu + 1, q2, q3, N => lb_L_analyse_20 k0 p0 p1 (lf_L_analyse_20 k0 p0 p1 fu) q2 q3 N
def ff_L_analyse (t : Nat) (a1 : Nat) (M : mm_T) : Option (mm_T) :=
  gd_G M t 4 (
  (gf_R M t 4 1).bind fun x1 =>
  (ff_D_fill_a x1 (0 : Int32) M).bind fun M1 =>
  (gf_R M1 t 4 2).bind fun x2 =>
  (ff_D_fill_a x2 (0 : Int32) M1).bind fun M2 =>
  lf_L_analyse_20 (fun (M6 : mm_T) => (pf_Z M6 t 4 0 (1 : Int32)).bind fun M7 =>
  some M7) t a1 fu_L (1 : Int32) (0 : Int32) M2)

def ff_D_liveness (t : Nat) (M : mm_T) : Option (Nat × mm_T) :=
  gd_G M t 10 (
  (gf_R M t 10 8).bind fun x1 =>
  (gf_I M x1 4 0).bind fun x2 =>
  jp_J (α := mm_T → Option (Nat × mm_T)) (fun  (M1 : mm_T) => (gf_R M1 t 10 8).bind fun x3 =>
  some (x3, M1)) fun j21 =>
  if x2 = 0 then ((gf_R M t 10 8).bind fun x4 =>
  (gf_R M t 10 0).bind fun x5 =>
  (ff_L_analyse x4 x5 M).bind fun M2 =>
  j21 M2) else (j21 M))

def ff_L_liveAt (t : Nat) (a1 : Int32) (M : mm_T) : Option (Int32) :=
  gd_G M t 4 (
  (gf_R M t 4 1).bind fun x1 =>
  (ff_D_at_a x1 a1 M).bind fun x2 =>
  some x2)

def ff_D_isLiveIn (t : Nat) (a1 : Int32) (a2 : Int32) (M : mm_T) : Option ((Int32 ⊕ String) × mm_T) :=
  gd_G M t 10 (
  rq_X (ff_D_requireBlock t a1 M) M (rq_X (ff_D_requireVariable a2 M) M (bd_2 (ff_D_liveness t M) fun x1 M1 =>
  (gf_R M1 t 10 0).bind fun x2 =>
  (ff_P_firstPoint x2 a1 M1).bind fun x3 =>
  (ff_L_liveAt x1 x3 M1).bind fun x4 =>
  (ff_D_hasBit ((x4).toInt64) a2 M1).bind fun x5 =>
  (zb_Z x5).bind fun w => some (.inl w, M1))))

def ff_P_exitPoint (t : Nat) (a1 : Int32) (M : mm_T) : Option (Int32) :=
  gd_G M t 7 (
  some ((40 : Int32) + a1))

def ff_L_liveBehind (t : Nat) (a1 : Int32) (M : mm_T) : Option (Int32) :=
  gd_G M t 4 (
  (gf_R M t 4 2).bind fun x1 =>
  (ff_D_at_a x1 a1 M).bind fun x2 =>
  some x2)

def ff_D_isLiveOut (t : Nat) (a1 : Int32) (a2 : Int32) (M : mm_T) : Option ((Int32 ⊕ String) × mm_T) :=
  gd_G M t 10 (
  rq_X (ff_D_requireBlock t a1 M) M (rq_X (ff_D_requireVariable a2 M) M (bd_2 (ff_D_liveness t M) fun x1 M1 =>
  (gf_R M1 t 10 0).bind fun x2 =>
  (ff_P_exitPoint x2 a1 M1).bind fun x3 =>
  (ff_L_liveBehind x1 x3 M1).bind fun x4 =>
  (ff_D_hasBit ((x4).toInt64) a2 M1).bind fun x5 =>
  (zb_Z x5).bind fun w => some (.inl w, M1))))

def ff_D_liveBefore (t : Nat) (a1 : Int32) (M : mm_T) : Option ((Int32 ⊕ String) × mm_T) :=
  gd_G M t 10 (
  rq_X (ff_D_requireInstruction t a1 M) M (bd_2 (ff_D_liveness t M) fun x1 M1 =>
  (ff_L_liveAt x1 a1 M1).bind fun x2 =>
  (ff_JI_bitCount x2 M1).bind fun x3 =>
  some (.inl x3, M1)))

def ff_L_isDeadAt (t : Nat) (a1 : Nat) (a2 : Int32) (M : mm_T) : Option (Int32) :=
  gd_G M t 4 (
  (ff_P_definedAt a1 a2 M).bind fun x1 =>
  if x1 = (-1 : Int32) then (some (0 : Int32)) else ((gf_R M t 4 2).bind fun x2 =>
  (ff_D_at_a x2 a2 M).bind fun x3 =>
  (ff_D_hasBit ((x3).toInt64) x1 M).bind fun x4 =>
  if x4 = 0 then (some (1 : Int32)) else (some (0 : Int32))))

def ff_D_isDead (t : Nat) (a1 : Int32) (M : mm_T) : Option ((Int32 ⊕ String) × mm_T) :=
  gd_G M t 10 (
  rq_X (ff_D_requireInstruction t a1 M) M (bd_2 (ff_D_liveness t M) fun x1 M1 =>
  (gf_R M1 t 10 0).bind fun x2 =>
  (ff_L_isDeadAt x1 x2 a1 M1).bind fun x3 =>
  (zb_Z x3).bind fun w => some (.inl w, M1)))

def lb_L_countDead_4 (p0 : Nat) (p1 : Nat) (M : mm_T) (rec : Int32 → Int32 → Option (Int32)) (q2 : Int32) (q3 : Int32) : Option (Int32) :=
  (gf_I M p1 7 1).bind fun x1 =>
  if x1 ≤ q3 then (some q2) else ((ff_L_isDeadAt p0 p1 q3 M).bind fun x2 =>
  jp_J (α := Int32 → Option (Int32)) (fun (x3 : Int32) => (some (q2 + x3)).bind fun x4 =>
  (some (q3 + (1 : Int32))).bind fun x5 =>
  rec x4 x5) fun j27 =>
  if x2 = 0 then (j27 (0 : Int32)) else (j27 (1 : Int32)))
def lf_L_countDead_4 (p0 : Nat) (p1 : Nat) (M : mm_T) : Nat → Int32 → Int32 → Option (Int32)
  | 0, _, _ => none
  | fu + 1, q2, q3 => lb_L_countDead_4 p0 p1 M (lf_L_countDead_4 p0 p1 M fu) q2 q3
def ff_L_countDead (t : Nat) (a1 : Nat) (M : mm_T) : Option (Int32) :=
  gd_G M t 4 (
  lf_L_countDead_4  t a1 M fu_L (0 : Int32) (0 : Int32))

def ff_D_deadDefinitions (t : Nat) (M : mm_T) : Option (Int32 × mm_T) :=
  gd_G M t 10 (
  bd_2 (ff_D_liveness t M) fun x1 M1 =>
  (gf_R M1 t 10 0).bind fun x2 =>
  (ff_L_countDead x1 x2 M1).bind fun x3 =>
  some (x3, M1))

def ff_JM_max (a1 : Int32) (a2 : Int32) (M : mm_T) : Option (Int32) :=
  if a1 < a2 then (some a2) else (some a1)

def lb_L_largestSet_4 (p0 : Nat) (M : mm_T) (rec : Int32 → Int32 → Option (Int32)) (q1 : Int32) (q2 : Int32) : Option (Int32) :=
  if (52 : Int32) ≤ q2 then (some q1) else ((gf_R M p0 4 1).bind fun x1 =>
  (ff_D_at_a x1 q2 M).bind fun x2 =>
  (ff_JI_bitCount x2 M).bind fun x3 =>
  (ff_JM_max q1 x3 M).bind fun x4 =>
  (some (q2 + (1 : Int32))).bind fun x5 =>
  rec x4 x5)
def lf_L_largestSet_4 (p0 : Nat) (M : mm_T) : Nat → Int32 → Int32 → Option (Int32)
  | 0, _, _ => none
  | fu + 1, q1, q2 => lb_L_largestSet_4 p0 M (lf_L_largestSet_4 p0 M fu) q1 q2
def ff_L_largestSet (t : Nat) (M : mm_T) : Option (Int32) :=
  gd_G M t 4 (
  lf_L_largestSet_4  t M fu_L (0 : Int32) (0 : Int32))

def ff_D_pressure (t : Nat) (M : mm_T) : Option (Int32 × mm_T) :=
  gd_G M t 10 (
  bd_2 (ff_D_liveness t M) fun x1 M1 =>
  (ff_L_largestSet x1 M1).bind fun x2 =>
  some (x2, M1))

def lb_L_clashes_3 (p0 : Nat) (p1 : Nat) (p2 : Int32) (p3 : Int32) (M : mm_T) (rec : Int32 → Option (Int32)) (q4 : Int32) : Option (Int32) :=
  (gf_I M p1 7 1).bind fun x1 =>
  if x1 ≤ q4 then (some (0 : Int32)) else ((ff_P_kindAt p1 q4 M).bind fun x2 =>
  jp_J (α := Int32 → Option (Int32)) (fun (x3 : Int32) => (ff_P_definedAt p1 q4 M).bind fun x4 =>
  jp_J (α := Option (Int32)) ((some (q4 + (1 : Int32))).bind fun x5 =>
  rec x5) fun j74 =>
  if x4 = p2 then (if x3 = 0 then ((gf_R M p0 4 2).bind fun x6 =>
  (ff_D_at_a x6 q4 M).bind fun x7 =>
  (ff_D_hasBit ((x7).toInt64) p3 M).bind fun x8 =>
  if x8 = 0 then (j74) else (some (1 : Int32))) else (j74)) else (j74)) fun j38 =>
  jp_J (α := Option (Int32)) (j38 (0 : Int32)) fun j37 =>
  if x2 = (1 : Int32) then ((ff_P_operandAt p1 q4 (0 : Int32) M).bind fun x9 =>
  if x9 = p3 then (j38 (1 : Int32)) else (j37)) else (j37))
def lf_L_clashes_3 (p0 : Nat) (p1 : Nat) (p2 : Int32) (p3 : Int32) (M : mm_T) : Nat → Int32 → Option (Int32)
  | 0, _ => none
  | fu + 1, q4 => lb_L_clashes_3 p0 p1 p2 p3 M (lf_L_clashes_3 p0 p1 p2 p3 M fu) q4
def ff_L_clashes (t : Nat) (a1 : Nat) (a2 : Int32) (a3 : Int32) (M : mm_T) : Option (Int32) :=
  gd_G M t 4 (
  lf_L_clashes_3  t a1 a2 a3 M fu_L (0 : Int32))

def ff_D_interfere (t : Nat) (a1 : Int32) (a2 : Int32) (M : mm_T) : Option ((Int32 ⊕ String) × mm_T) :=
  gd_G M t 10 (
  rq_X (ff_D_requireVariable a1 M) M (rq_X (ff_D_requireVariable a2 M) M (if a1 = a2 then (some (.inl (0 : Int32), M)) else (bd_2 (ff_D_liveness t M) fun x1 M1 =>
  (gf_R M1 t 10 0).bind fun x2 =>
  (ff_L_clashes x1 x2 a1 a2 M1).bind fun x3 =>
  jp_J (α := mm_T → Option ((Int32 ⊕ String) × mm_T)) (fun  (M2 : mm_T) => some (.inl (1 : Int32), M2)) fun j47 =>
  if x3 = 0 then (bd_2 (ff_D_liveness t M1) fun x4 M3 =>
  (gf_R M3 t 10 0).bind fun x5 =>
  (ff_L_clashes x4 x5 a2 a1 M3).bind fun x6 =>
  if x6 = 0 then (some (.inl (0 : Int32), M3)) else (j47 M3)) else (j47 M1)))))

def ff_P_word (t : Nat) (a1 : Int32) (M : mm_T) : Option (Int32) :=
  gd_G M t 7 (
  (gf_R M t 7 2).bind fun x1 =>
  (ff_D_at_a x1 a1 M).bind fun x2 =>
  some x2)

def ff_O_expression (a1 : Int32) (M : mm_T) : Option (Int32) :=
  some ((io_ushr a1 (5 : Int32)) &&& (255 : Int32))

def lb_A_firstWith_2 (p0 : Nat) (p1 : Int32) (M : mm_T) (rec : Int32 → Option (Int32)) (q2 : Int32) : Option (Int32) :=
  (gf_I M p0 7 1).bind fun x1 =>
  if x1 ≤ q2 then (some (-1 : Int32)) else ((ff_P_kindAt p0 q2 M).bind fun x2 =>
  jp_J (α := Option (Int32)) ((some (q2 + (1 : Int32))).bind fun x3 =>
  rec x3) fun j33 =>
  if x2 = (2 : Int32) then ((ff_P_word p0 q2 M).bind fun x4 =>
  (ff_O_expression x4 M).bind fun x5 =>
  if x5 = p1 then (some q2) else (j33)) else (j33))
def lf_A_firstWith_2 (p0 : Nat) (p1 : Int32) (M : mm_T) : Nat → Int32 → Option (Int32)
  | 0, _ => none
  | fu + 1, q2 => lb_A_firstWith_2 p0 p1 M (lf_A_firstWith_2 p0 p1 M fu) q2
def ff_A_firstWith (a1 : Nat) (a2 : Int32) (M : mm_T) : Option (Int32) :=
  lf_A_firstWith_2  a1 a2 M fu_L (0 : Int32)

def ff_A_noteOperand (t : Nat) (a1 : Int32) (a2 : Int32) (M : mm_T) : Option (mm_T) :=
  gd_G M t 0 (
  (gf_R M t 0 2).bind fun x1 =>
  (gf_R M t 0 2).bind fun x2 =>
  (ff_D_at_b x2 a1 M).bind fun x3 =>
  (ff_D_put_b x1 a1 (x3 ||| (jo_shl (1 : Int64) a2)) M).bind fun M1 =>
  some M1)

def lb_A_nameExpressions_18 (p0 : Nat) (p1 : Nat) (rec : Int32 → mm_T → Option (mm_T)) (q2 : Int32) (N : mm_T) : Option (mm_T) :=
  (gf_I N p1 7 1).bind fun x3 =>
  if x3 ≤ q2 then (some N) else ((ff_P_kindAt p1 q2 N).bind fun x4 =>
  jp_J (α := mm_T → Option (mm_T)) (fun  (M3 : mm_T) => (some (q2 + (1 : Int32))).bind fun x5 =>
  rec x5 M3) fun j79 =>
  if x4 = (2 : Int32) then ((ff_P_word p1 q2 N).bind fun x6 =>
  (ff_O_expression x6 N).bind fun x7 =>
  (ff_A_firstWith p1 x7 N).bind fun x8 =>
  (gf_R N p0 0 1).bind fun x9 =>
  (ff_D_put_a x9 q2 x8 N).bind fun M4 =>
  (ff_P_operandAt p1 q2 (0 : Int32) M4).bind fun x10 =>
  (ff_A_noteOperand p0 x10 x8 M4).bind fun M5 =>
  (ff_P_operandAt p1 q2 (1 : Int32) M5).bind fun x11 =>
  (ff_A_noteOperand p0 x11 x8 M5).bind fun M6 =>
  j79 M6) else (j79 N))
def lf_A_nameExpressions_18 (p0 : Nat) (p1 : Nat) : Nat → Int32 → mm_T → Option (mm_T)
  | 0, _, _ => none
  | fu + 1, q2, N => lb_A_nameExpressions_18 p0 p1 (lf_A_nameExpressions_18 p0 p1 fu) q2 N
def ff_A_nameExpressions (t : Nat) (a1 : Nat) (M : mm_T) : Option (mm_T) :=
  gd_G M t 0 (
  (gf_R M t 0 1).bind fun x1 =>
  (ff_D_fill_a x1 (-1 : Int32) M).bind fun M1 =>
  (gf_R M1 t 0 2).bind fun x2 =>
  (ff_D_fill_b x2 (0 : Int64) M1).bind fun M2 =>
  lf_A_nameExpressions_18  t a1 fu_L (0 : Int32) M2)

def lb_A_flow_66 (p0 : Nat) (p1 : Nat) (p2 : Int32) (p3 : Int64) (rec : Int32 → Int32 → mm_T → Option (Int32 × mm_T)) (q6 : Int32) (q7 : Int32) (N : mm_T) : Option (Int32 × mm_T) :=
  (ff_P_nextCount p1 p2 N).bind fun x7 =>
  if x7 ≤ q7 then ((zb_Z q6).bind fun w => some (w, N)) else ((ff_P_nextPoint p1 p2 q7 N).bind fun x8 =>
  (gf_R N p0 0 3).bind fun x9 =>
  (ff_D_at_b x9 x8 N).bind fun x10 =>
  (some (x10 &&& p3)).bind fun x11 =>
  jp_J (α := Int32 → Option (Int32 × mm_T)) (fun (x12 : Int32) => (gf_R N p0 0 3).bind fun x13 =>
  (ff_D_put_b x13 x8 x11 N).bind fun M1 =>
  (some (q7 + (1 : Int32))).bind fun x14 =>
  rec x12 x14 M1) fun j123 =>
  jp_J (α := Option (Int32 × mm_T)) (j123 (1 : Int32)) fun j118 =>
  if q6 = 0 then ((gf_R N p0 0 3).bind fun x15 =>
  (ff_D_at_b x15 x8 N).bind fun x16 =>
  if (lg_cmp x11 x16) = 0 then (j123 (0 : Int32)) else (j118)) else (j118))
def lf_A_flow_66 (p0 : Nat) (p1 : Nat) (p2 : Int32) (p3 : Int64) : Nat → Int32 → Int32 → mm_T → Option (Int32 × mm_T)
  | 0, _, _, _ => none
  | fu + 1, q6, q7, N => lb_A_flow_66 p0 p1 p2 p3 (lf_A_flow_66 p0 p1 p2 p3 fu) q6 q7 N
def ff_A_flow (t : Nat) (a1 : Nat) (a2 : Int32) (M : mm_T) : Option (Int32 × mm_T) :=
  gd_G M t 0 (
  (gf_R M t 0 3).bind fun x1 =>
  (ff_D_at_b x1 a2 M).bind fun x2 =>
  (ff_P_kindAt a1 a2 M).bind fun x3 =>
  jp_J (α := Int64 → Option (Int32 × mm_T)) (fun (x4 : Int64) => (ff_P_definedAt a1 a2 M).bind fun x5 =>
  jp_J (α := Int64 → Option (Int32 × mm_T)) (fun (x6 : Int64) => lf_A_flow_66  t a1 a2 x6 fu_L (0 : Int32) (0 : Int32) M) fun j60 =>
  if x5 = (-1 : Int32) then (j60 x4) else ((gf_R M t 0 2).bind fun x17 =>
  (ff_D_at_b x17 x5 M).bind fun x18 =>
  (some (x4 &&& (x18 ^^^ (-1 : Int64)))).bind fun x19 =>
  j60 x19)) fun j31 =>
  if x3 = (2 : Int32) then ((gf_R M t 0 1).bind fun x20 =>
  (ff_D_at_a x20 a2 M).bind fun x21 =>
  (some (x2 ||| (jo_shl (1 : Int64) x21))).bind fun x22 =>
  j31 x22) else (j31 x2))

def lb_A_analyse_7 (k0 : mm_T → Option (mm_T)) (p0 : Nat) (p1 : Nat) (p2 : Nat) (rec : Int32 → mm_T → Option (mm_T)) (q3 : Int32) (N : mm_T) : Option (mm_T) :=
  if (52 : Int32) ≤ q3 then (k0 N) else ((ff_P_hasPoint p1 q3 N).bind fun x1 =>
  jp_J (α := Int32 → Option (mm_T)) (fun (x2 : Int32) => (gf_R N p0 0 3).bind fun x3 =>
  jp_J (α := Int64 → Option (mm_T)) (fun (x4 : Int64) => (ff_D_put_b x3 q3 x4 N).bind fun M2 =>
  (some (q3 + (1 : Int32))).bind fun x5 =>
  rec x5 M2) fun j57 =>
  if x2 = 0 then (j57 (0 : Int64)) else (j57 (-1 : Int64))) fun j38 =>
  jp_J (α := Option (mm_T)) (j38 (0 : Int32)) fun j37 =>
  if x1 = 0 then (j37) else ((ff_P_blockAt p1 q3 N).bind fun x6 =>
  (ff_G_isReached p2 x6 N).bind fun x7 =>
  if x7 = 0 then (j37) else (j38 (1 : Int32))))
def lf_A_analyse_7 (k0 : mm_T → Option (mm_T)) (p0 : Nat) (p1 : Nat) (p2 : Nat) : Nat → Int32 → mm_T → Option (mm_T)
  | 0, _, _ => none
  | fu + 1, q3, N => lb_A_analyse_7 k0 p0 p1 p2 (lf_A_analyse_7 k0 p0 p1 p2 fu) q3 N
def lb_A_analyse_100 (k0 : Int32 → mm_T → Option (mm_T)) (p0 : Nat) (p1 : Nat) (p2 : Nat) (p4 : Int32) (rec : Int32 → Int32 → mm_T → Option (mm_T)) (q3 : Int32) (q5 : Int32) (N : mm_T) : Option (mm_T) :=
  if (52 : Int32) ≤ q5 then (k0 q3 N) else ((ff_P_hasPoint p1 q5 N).bind fun x10 =>
  jp_J (α := Int32 → mm_T → Option (mm_T)) (fun (x11 : Int32) (M5 : mm_T) => (some (q5 + (1 : Int32))).bind fun x12 =>
  rec x11 x12 M5) fun j141 =>
  if x10 = 0 then (j141 q3 N) else ((ff_P_blockAt p1 q5 N).bind fun x13 =>
  (ff_G_isReached p2 x13 N).bind fun x14 =>
  if x14 = 0 then (j141 q3 N) else (bd_2 (ff_A_flow p0 p1 q5 N) fun x15 M6 =>
  if x15 = 0 then (j141 q3 M6) else (j141 (1 : Int32) M6))))
def lf_A_analyse_100 (k0 : Int32 → mm_T → Option (mm_T)) (p0 : Nat) (p1 : Nat) (p2 : Nat) (p4 : Int32) : Nat → Int32 → Int32 → mm_T → Option (mm_T)
  | 0, _, _, _ => none
  | fu + 1, q3, q5, N => lb_A_analyse_100 k0 p0 p1 p2 p4 (lf_A_analyse_100 k0 p0 p1 p2 p4 fu) q3 q5 N
def lb_A_analyse_84 (k0 : mm_T → Option (mm_T)) (p0 : Nat) (p1 : Nat) (p2 : Nat) (rec : Int32 → Int32 → mm_T → Option (mm_T)) (q3 : Int32) (q4 : Int32) (N : mm_T) : Option (mm_T) :=
  if q3 = 0 then (k0 N) else (if (100000 : Int32) ≤ q4 then (k0 N) else (lf_A_analyse_100 (fun (x16 : Int32) (M7 : mm_T) => (some (q4 + (1 : Int32))).bind fun x17 =>
  rec x16 x17 M7) p0 p1 p2 q4 fu_L (0 : Int32) (0 : Int32) N))
def lf_A_analyse_84 (k0 : mm_T → Option (mm_T)) (p0 : Nat) (p1 : Nat) (p2 : Nat) : Nat → Int32 → Int32 → mm_T → Option (mm_T)
  | 0, _, _, _ => none
  | fu + 1, q3, q4, N => lb_A_analyse_84 k0 p0 p1 p2 (lf_A_analyse_84 k0 p0 p1 p2 fu) q3 q4 N
def ff_A_analyse (t : Nat) (a1 : Nat) (a2 : Nat) (M : mm_T) : Option (mm_T) :=
  gd_G M t 0 (
  (ff_A_nameExpressions t a1 M).bind fun M1 =>
  lf_A_analyse_7 (fun (M3 : mm_T) => (gf_R M3 t 0 3).bind fun x8 =>
  (ff_P_firstPoint a1 (0 : Int32) M3).bind fun x9 =>
  (ff_D_put_b x8 x9 (0 : Int64) M3).bind fun M4 =>
  lf_A_analyse_84 (fun (M8 : mm_T) => (pf_Z M8 t 0 0 (1 : Int32)).bind fun M9 =>
  some M9) t a1 a2 fu_L (1 : Int32) (0 : Int32) M4) t a1 a2 fu_L (0 : Int32) M1)

def ff_D_available (t : Nat) (M : mm_T) : Option (Nat × mm_T) :=
  gd_G M t 10 (
  (gf_R M t 10 9).bind fun x1 =>
  (gf_I M x1 0 0).bind fun x2 =>
  jp_J (α := mm_T → Option (Nat × mm_T)) (fun  (M1 : mm_T) => (gf_R M1 t 10 9).bind fun x3 =>
  some (x3, M1)) fun j25 =>
  if x2 = 0 then ((gf_R M t 10 9).bind fun x4 =>
  (gf_R M t 10 0).bind fun x5 =>
  bd_2 (ff_D_graph t M) fun x6 M2 =>
  (ff_A_analyse x4 x5 x6 M2).bind fun M3 =>
  j25 M3) else (j25 M))

def lb_A_countNames_4 (p0 : Nat) (p1 : Nat) (M : mm_T) (rec : Int32 → Int32 → Option (Int32)) (q2 : Int32) (q3 : Int32) : Option (Int32) :=
  (gf_I M p1 7 1).bind fun x1 =>
  if x1 ≤ q3 then (some q2) else ((gf_R M p0 0 1).bind fun x2 =>
  (ff_D_at_a x2 q3 M).bind fun x3 =>
  jp_J (α := Int32 → Option (Int32)) (fun (x4 : Int32) => (some (q2 + x4)).bind fun x5 =>
  (some (q3 + (1 : Int32))).bind fun x6 =>
  rec x5 x6) fun j30 =>
  if x3 = q3 then (j30 (1 : Int32)) else (j30 (0 : Int32)))
def lf_A_countNames_4 (p0 : Nat) (p1 : Nat) (M : mm_T) : Nat → Int32 → Int32 → Option (Int32)
  | 0, _, _ => none
  | fu + 1, q2, q3 => lb_A_countNames_4 p0 p1 M (lf_A_countNames_4 p0 p1 M fu) q2 q3
def ff_A_countNames (t : Nat) (a1 : Nat) (M : mm_T) : Option (Int32) :=
  gd_G M t 0 (
  lf_A_countNames_4  t a1 M fu_L (0 : Int32) (0 : Int32))

def ff_D_expressionCount (t : Nat) (M : mm_T) : Option (Int32 × mm_T) :=
  gd_G M t 10 (
  bd_2 (ff_D_available t M) fun x1 M1 =>
  (gf_R M1 t 10 0).bind fun x2 =>
  (ff_A_countNames x1 x2 M1).bind fun x3 =>
  some (x3, M1))

def ff_A_isRedundantAt (t : Nat) (a1 : Nat) (a2 : Int32) (M : mm_T) : Option (Int32) :=
  gd_G M t 0 (
  (ff_P_kindAt a1 a2 M).bind fun x1 =>
  if x1 = (2 : Int32) then ((gf_R M t 0 3).bind fun x2 =>
  (ff_D_at_b x2 a2 M).bind fun x3 =>
  (gf_R M t 0 1).bind fun x4 =>
  (ff_D_at_a x4 a2 M).bind fun x5 =>
  (ff_D_hasBit x3 x5 M).bind fun x6 =>
  if x6 = 0 then (some (0 : Int32)) else (some (1 : Int32))) else (some (0 : Int32)))

def ff_D_isRedundant (t : Nat) (a1 : Int32) (M : mm_T) : Option ((Int32 ⊕ String) × mm_T) :=
  gd_G M t 10 (
  rq_X (ff_D_requireInstruction t a1 M) M (bd_2 (ff_D_available t M) fun x1 M1 =>
  (gf_R M1 t 10 0).bind fun x2 =>
  (ff_A_isRedundantAt x1 x2 a1 M1).bind fun x3 =>
  (zb_Z x3).bind fun w => some (.inl w, M1)))

def lb_A_countRedundant_4 (p0 : Nat) (p1 : Nat) (M : mm_T) (rec : Int32 → Int32 → Option (Int32)) (q2 : Int32) (q3 : Int32) : Option (Int32) :=
  (gf_I M p1 7 1).bind fun x1 =>
  if x1 ≤ q3 then (some q2) else ((ff_A_isRedundantAt p0 p1 q3 M).bind fun x2 =>
  jp_J (α := Int32 → Option (Int32)) (fun (x3 : Int32) => (some (q2 + x3)).bind fun x4 =>
  (some (q3 + (1 : Int32))).bind fun x5 =>
  rec x4 x5) fun j27 =>
  if x2 = 0 then (j27 (0 : Int32)) else (j27 (1 : Int32)))
def lf_A_countRedundant_4 (p0 : Nat) (p1 : Nat) (M : mm_T) : Nat → Int32 → Int32 → Option (Int32)
  | 0, _, _ => none
  | fu + 1, q2, q3 => lb_A_countRedundant_4 p0 p1 M (lf_A_countRedundant_4 p0 p1 M fu) q2 q3
def ff_A_countRedundant (t : Nat) (a1 : Nat) (M : mm_T) : Option (Int32) :=
  gd_G M t 0 (
  lf_A_countRedundant_4  t a1 M fu_L (0 : Int32) (0 : Int32))

def ff_D_redundantCount (t : Nat) (M : mm_T) : Option (Int32 × mm_T) :=
  gd_G M t 10 (
  bd_2 (ff_D_available t M) fun x1 M1 =>
  (gf_R M1 t 10 0).bind fun x2 =>
  (ff_A_countRedundant x1 x2 M1).bind fun x3 =>
  some (x3, M1))

def ff_A_expressionsAt (t : Nat) (a1 : Int32) (M : mm_T) : Option (Int64) :=
  gd_G M t 0 (
  (gf_R M t 0 3).bind fun x1 =>
  (ff_D_at_b x1 a1 M).bind fun x2 =>
  some x2)

def ff_D_availableAt (t : Nat) (a1 : Int32) (M : mm_T) : Option ((Int32 ⊕ String) × mm_T) :=
  gd_G M t 10 (
  rq_X (ff_D_requireBlock t a1 M) M (bd_2 (ff_D_available t M) fun x1 M1 =>
  (gf_R M1 t 10 0).bind fun x2 =>
  (ff_P_firstPoint x2 a1 M1).bind fun x3 =>
  (ff_A_expressionsAt x1 x3 M1).bind fun x4 =>
  (ff_JL_bitCount x4 M1).bind fun x5 =>
  some (.inl x5, M1)))

def ff_G_dominatorSet (t : Nat) (a1 : Int32) (M : mm_T) : Option (Int32) :=
  gd_G M t 2 (
  (gf_R M t 2 5).bind fun x1 =>
  (ff_D_at_a x1 a1 M).bind fun x2 =>
  some x2)

def ff_D_dominates (t : Nat) (a1 : Int32) (a2 : Int32) (M : mm_T) : Option ((Int32 ⊕ String) × mm_T) :=
  gd_G M t 10 (
  rq_X (ff_D_requireBlock t a1 M) M (rq_X (ff_D_requireBlock t a2 M) M (bd_2 (ff_D_graph t M) fun x1 M1 =>
  (ff_G_dominatorSet x1 a2 M1).bind fun x2 =>
  (ff_D_hasBit ((x2).toInt64) a1 M1).bind fun x3 =>
  (zb_Z x3).bind fun w => some (.inl w, M1))))

def lb_G_closestOf_2 (p0 : Nat) (p1 : Int32) (M : mm_T) (rec : Int32 → Option (Int32)) (q2 : Int32) : Option (Int32) :=
  if (12 : Int32) ≤ q2 then (some (-1 : Int32)) else ((ff_D_hasBit ((p1).toInt64) q2 M).bind fun x1 =>
  jp_J (α := Option (Int32)) ((some (q2 + (1 : Int32))).bind fun x2 =>
  rec x2) fun j31 =>
  if x1 = 0 then (j31) else ((gf_R M p0 2 5).bind fun x3 =>
  (ff_D_at_a x3 q2 M).bind fun x4 =>
  if x4 = p1 then (some q2) else (j31)))
def lf_G_closestOf_2 (p0 : Nat) (p1 : Int32) (M : mm_T) : Nat → Int32 → Option (Int32)
  | 0, _ => none
  | fu + 1, q2 => lb_G_closestOf_2 p0 p1 M (lf_G_closestOf_2 p0 p1 M fu) q2
def ff_G_closestOf (t : Nat) (a1 : Int32) (M : mm_T) : Option (Int32) :=
  gd_G M t 2 (
  lf_G_closestOf_2  t a1 M fu_L (0 : Int32))

def ff_D_immediateDominator (t : Nat) (a1 : Int32) (M : mm_T) : Option ((Int32 ⊕ String) × mm_T) :=
  gd_G M t 10 (
  rq_X (ff_D_requireBlock t a1 M) M (bd_2 (ff_D_graph t M) fun x1 M1 =>
  bd_2 (ff_D_graph t M1) fun x2 M2 =>
  (ff_G_dominatorSet x2 a1 M2).bind fun x3 =>
  (ff_G_closestOf x1 (x3 &&& ((io_shl (1 : Int32) a1) ^^^ (-1 : Int32))) M2).bind fun x4 =>
  some (.inl x4, M2)))

def ff_D_commonDominator (t : Nat) (a1 : Int32) (a2 : Int32) (M : mm_T) : Option ((Int32 ⊕ String) × mm_T) :=
  gd_G M t 10 (
  rq_X (ff_D_requireBlock t a1 M) M (rq_X (ff_D_requireBlock t a2 M) M (bd_2 (ff_D_graph t M) fun x1 M1 =>
  bd_2 (ff_D_graph t M1) fun x2 M2 =>
  (ff_G_dominatorSet x2 a1 M2).bind fun x3 =>
  bd_2 (ff_D_graph t M2) fun x4 M3 =>
  (ff_G_dominatorSet x4 a2 M3).bind fun x5 =>
  (ff_G_closestOf x1 (x3 &&& x5) M3).bind fun x6 =>
  some (.inl x6, M3))))

def lb_G_countBackEdges_4 (p0 : Nat) (M : mm_T) (rec : Int32 → Int32 → Option (Int32)) (q1 : Int32) (q2 : Int32) : Option (Int32) :=
  if (12 : Int32) ≤ q2 then (some q1) else ((ff_G_origins p0 q2 M).bind fun x1 =>
  (ff_JI_bitCount x1 M).bind fun x2 =>
  (some (q1 + x2)).bind fun x3 =>
  (some (q2 + (1 : Int32))).bind fun x4 =>
  rec x3 x4)
def lf_G_countBackEdges_4 (p0 : Nat) (M : mm_T) : Nat → Int32 → Int32 → Option (Int32)
  | 0, _, _ => none
  | fu + 1, q1, q2 => lb_G_countBackEdges_4 p0 M (lf_G_countBackEdges_4 p0 M fu) q1 q2
def ff_G_countBackEdges (t : Nat) (M : mm_T) : Option (Int32) :=
  gd_G M t 2 (
  lf_G_countBackEdges_4  t M fu_L (0 : Int32) (0 : Int32))

def ff_D_backEdges (t : Nat) (M : mm_T) : Option (Int32 × mm_T) :=
  gd_G M t 10 (
  bd_2 (ff_D_graph t M) fun x1 M1 =>
  (ff_G_countBackEdges x1 M1).bind fun x2 =>
  some (x2, M1))

def ff_G_bodyOf (t : Nat) (a1 : Int32) (M : mm_T) : Option (Int32) :=
  gd_G M t 2 (
  (gf_R M t 2 6).bind fun x1 =>
  (ff_D_at_a x1 a1 M).bind fun x2 =>
  some x2)

def ff_D_loopSize (t : Nat) (a1 : Int32) (M : mm_T) : Option ((Int32 ⊕ String) × mm_T) :=
  gd_G M t 10 (
  rq_X (ff_D_requireBlock t a1 M) M (bd_2 (ff_D_graph t M) fun x1 M1 =>
  (ff_G_bodyOf x1 a1 M1).bind fun x2 =>
  (ff_JI_bitCount x2 M1).bind fun x3 =>
  some (.inl x3, M1)))

def lb_G_countBodiesWith_4 (p0 : Nat) (p1 : Int32) (M : mm_T) (rec : Int32 → Int32 → Option (Int32)) (q2 : Int32) (q3 : Int32) : Option (Int32) :=
  if (12 : Int32) ≤ q3 then (some q2) else ((gf_R M p0 2 6).bind fun x1 =>
  (ff_D_at_a x1 q3 M).bind fun x2 =>
  (ff_D_hasBit ((x2).toInt64) p1 M).bind fun x3 =>
  jp_J (α := Int32 → Option (Int32)) (fun (x4 : Int32) => (some (q2 + x4)).bind fun x5 =>
  (some (q3 + (1 : Int32))).bind fun x6 =>
  rec x5 x6) fun j32 =>
  if x3 = 0 then (j32 (0 : Int32)) else (j32 (1 : Int32)))
def lf_G_countBodiesWith_4 (p0 : Nat) (p1 : Int32) (M : mm_T) : Nat → Int32 → Int32 → Option (Int32)
  | 0, _, _ => none
  | fu + 1, q2, q3 => lb_G_countBodiesWith_4 p0 p1 M (lf_G_countBodiesWith_4 p0 p1 M fu) q2 q3
def ff_G_countBodiesWith (t : Nat) (a1 : Int32) (M : mm_T) : Option (Int32) :=
  gd_G M t 2 (
  lf_G_countBodiesWith_4  t a1 M fu_L (0 : Int32) (0 : Int32))

def ff_D_loopDepth (t : Nat) (a1 : Int32) (M : mm_T) : Option ((Int32 ⊕ String) × mm_T) :=
  gd_G M t 10 (
  rq_X (ff_D_requireBlock t a1 M) M (bd_2 (ff_D_graph t M) fun x1 M1 =>
  (ff_G_countBodiesWith x1 a1 M1).bind fun x2 =>
  some (.inl x2, M1)))

def ff_C_stateBefore (t : Nat) (a1 : Int32) (a2 : Int32) (M : mm_T) : Option (Int32) :=
  gd_G M t 1 (
  (gf_R M t 1 1).bind fun x1 =>
  (ff_D_at_a x1 ((a1 * (8 : Int32)) + a2) M).bind fun x2 =>
  some x2)

def ff_C_meet (t : Nat) (a1 : Int32) (a2 : Int32) (a3 : Int32) (M : mm_T) : Option (Int32 × mm_T) :=
  gd_G M t 1 (
  (ff_C_stateBefore t a1 a2 M).bind fun x1 =>
  if a3 = (-2 : Int32) then (some ((0 : Int32), M)) else (if a3 = x1 then (some ((0 : Int32), M)) else (if x1 = (-1 : Int32) then (some ((0 : Int32), M)) else ((gf_R M t 1 1).bind fun x2 =>
  jp_J (α := Int32 → Option (Int32 × mm_T)) (fun (x3 : Int32) => (ff_D_put_a x2 ((a1 * (8 : Int32)) + a2) x3 M).bind fun M1 =>
  some ((1 : Int32), M1)) fun j50 =>
  if x1 = (-2 : Int32) then (j50 a3) else (j50 (-1 : Int32))))))

def ff_O_constant (a1 : Int32) (M : mm_T) : Option (Int32) :=
  some ((io_ushr a1 (13 : Int32)) &&& (1023 : Int32))

def ff_O_operator (a1 : Int32) (M : mm_T) : Option (Int32) :=
  some ((io_ushr a1 (11 : Int32)) &&& (3 : Int32))

def ff_JM_floorMod (a1 : Int32) (a2 : Int32) (M : mm_T) : Option (Int32) :=
  (io_remG a1 a2).bind fun x1 =>
  if 0 ≤ (a1 ^^^ a2) then (some x1) else (if x1 = 0 then (some x1) else (some (x1 + a2)))

def ff_O_result (a1 : Int32) (a2 : Int32) (a3 : Int32) (M : mm_T) : Option (Int32) :=
  if a1 = 0 then ((ff_JM_floorMod (a2 + a3) (1000 : Int32) M).bind fun x3 =>
  some x3) else (jp_J (α := Int32 → Option (Int32)) (fun (x1 : Int32) => (ff_JM_floorMod x1 (1000 : Int32) M).bind fun x2 =>
  some x2) fun j28 =>
  if a1 = (1 : Int32) then (j28 ((a2 - a3))) else (j28 ((a2 * a3))))

def ff_C_stateOfResult (t : Nat) (a1 : Int32) (a2 : Int32) (M : mm_T) : Option (Int32) :=
  gd_G M t 1 (
  (ff_O_kind a2 M).bind fun x1 =>
  if x1 = 0 then ((ff_O_constant a2 M).bind fun x8 =>
  some x8) else ((ff_O_left a2 M).bind fun x2 =>
  (ff_C_stateBefore t a1 x2 M).bind fun x3 =>
  if x1 = (1 : Int32) then (some x3) else ((ff_O_right a2 M).bind fun x4 =>
  (ff_C_stateBefore t a1 x4 M).bind fun x5 =>
  jp_J (α := Option (Int32)) (jp_J (α := Option (Int32)) (some (-1 : Int32)) fun j78 =>
  if x3 = (-1 : Int32) then (j78) else (if x5 = (-1 : Int32) then (j78) else (some (-2 : Int32)))) fun j66 =>
  if x3 < 0 then (j66) else (if x5 < 0 then (j66) else ((ff_O_operator a2 M).bind fun x6 =>
  (ff_O_result x6 x3 x5 M).bind fun x7 =>
  some x7)))))

def lb_C_flow_57 (k0 : Int32 → mm_T → Option (Int32 × mm_T)) (p0 : Nat) (p1 : Nat) (p2 : Int32) (p3 : Int32) (p5 : Int32) (p6 : Int32) (rec : Int32 → Int32 → mm_T → Option (Int32 × mm_T)) (q4 : Int32) (q7 : Int32) (N : mm_T) : Option (Int32 × mm_T) :=
  if (8 : Int32) ≤ q7 then (k0 q4 N) else (jp_J (α := Int32 → Option (Int32 × mm_T)) (fun (x4 : Int32) => bd_2 (ff_C_meet p0 p6 q7 x4 N) fun x5 M2 =>
  jp_J (α := Int32 → Option (Int32 × mm_T)) (fun (x6 : Int32) => (some (q7 + (1 : Int32))).bind fun x7 =>
  rec x6 x7 M2) fun j106 =>
  if x5 = 0 then (j106 q4) else (j106 (1 : Int32))) fun j88 =>
  if q7 = p3 then ((gf_R N p0 1 2).bind fun x9 =>
  (ff_D_at_a x9 p2 N).bind fun x10 =>
  j88 x10) else ((ff_C_stateBefore p0 p2 q7 N).bind fun x8 =>
  j88 x8))
def lf_C_flow_57 (k0 : Int32 → mm_T → Option (Int32 × mm_T)) (p0 : Nat) (p1 : Nat) (p2 : Int32) (p3 : Int32) (p5 : Int32) (p6 : Int32) : Nat → Int32 → Int32 → mm_T → Option (Int32 × mm_T)
  | 0, _, _, _ => none
  | fu + 1, q4, q7, N => lb_C_flow_57 k0 p0 p1 p2 p3 p5 p6 (lf_C_flow_57 k0 p0 p1 p2 p3 p5 p6 fu) q4 q7 N
def lb_C_flow_35 (p0 : Nat) (p1 : Nat) (p2 : Int32) (p3 : Int32) (rec : Int32 → Int32 → mm_T → Option (Int32 × mm_T)) (q4 : Int32) (q5 : Int32) (N : mm_T) : Option (Int32 × mm_T) :=
  (ff_P_nextCount p1 p2 N).bind fun x2 =>
  if x2 ≤ q5 then ((zb_Z q4).bind fun w => some (w, N)) else ((ff_P_nextPoint p1 p2 q5 N).bind fun x3 =>
  lf_C_flow_57 (fun (x11 : Int32) (M3 : mm_T) => (some (q5 + (1 : Int32))).bind fun x12 =>
  rec x11 x12 M3) p0 p1 p2 p3 q5 x3 fu_L q4 (0 : Int32) N)
def lf_C_flow_35 (p0 : Nat) (p1 : Nat) (p2 : Int32) (p3 : Int32) : Nat → Int32 → Int32 → mm_T → Option (Int32 × mm_T)
  | 0, _, _, _ => none
  | fu + 1, q4, q5, N => lb_C_flow_35 p0 p1 p2 p3 (lf_C_flow_35 p0 p1 p2 p3 fu) q4 q5 N
def ff_C_flow (t : Nat) (a1 : Nat) (a2 : Int32) (M : mm_T) : Option (Int32 × mm_T) :=
  gd_G M t 1 (
  (ff_P_definedAt a1 a2 M).bind fun x1 =>
  jp_J (α := mm_T → Option (Int32 × mm_T)) (fun  (M1 : mm_T) => lf_C_flow_35  t a1 a2 x1 fu_L (0 : Int32) (0 : Int32) M1) fun j29 =>
  if x1 = (-1 : Int32) then (j29 M) else ((gf_R M t 1 2).bind fun x13 =>
  (ff_P_word a1 a2 M).bind fun x14 =>
  (ff_C_stateOfResult t a2 x14 M).bind fun x15 =>
  (ff_D_put_a x13 a2 x15 M).bind fun M4 =>
  j29 M4))

def lb_C_analyse_20 (k0 : mm_T → Option (mm_T)) (p0 : Nat) (p1 : Nat) (p2 : Nat) (rec : Int32 → mm_T → Option (mm_T)) (q3 : Int32) (N : mm_T) : Option (mm_T) :=
  if (8 : Int32) ≤ q3 then (k0 N) else ((ff_P_firstPoint p1 (0 : Int32) N).bind fun x3 =>
  bd_2 (ff_C_meet p0 x3 q3 (0 : Int32) N) fun x4 M3 =>
  (some (q3 + (1 : Int32))).bind fun x5 =>
  rec x5 M3)
def lf_C_analyse_20 (k0 : mm_T → Option (mm_T)) (p0 : Nat) (p1 : Nat) (p2 : Nat) : Nat → Int32 → mm_T → Option (mm_T)
  | 0, _, _ => none
  | fu + 1, q3, N => lb_C_analyse_20 k0 p0 p1 p2 (lf_C_analyse_20 k0 p0 p1 p2 fu) q3 N
def lb_C_analyse_65 (k0 : Int32 → mm_T → Option (mm_T)) (p0 : Nat) (p1 : Nat) (p2 : Nat) (p4 : Int32) (rec : Int32 → Int32 → mm_T → Option (mm_T)) (q3 : Int32) (q5 : Int32) (N : mm_T) : Option (mm_T) :=
  if (52 : Int32) ≤ q5 then (k0 q3 N) else ((ff_P_hasPoint p1 q5 N).bind fun x6 =>
  jp_J (α := Int32 → mm_T → Option (mm_T)) (fun (x7 : Int32) (M5 : mm_T) => (some (q5 + (1 : Int32))).bind fun x8 =>
  rec x7 x8 M5) fun j106 =>
  if x6 = 0 then (j106 q3 N) else ((ff_P_blockAt p1 q5 N).bind fun x9 =>
  (ff_G_isReached p2 x9 N).bind fun x10 =>
  if x10 = 0 then (j106 q3 N) else (bd_2 (ff_C_flow p0 p1 q5 N) fun x11 M6 =>
  if x11 = 0 then (j106 q3 M6) else (j106 (1 : Int32) M6))))
def lf_C_analyse_65 (k0 : Int32 → mm_T → Option (mm_T)) (p0 : Nat) (p1 : Nat) (p2 : Nat) (p4 : Int32) : Nat → Int32 → Int32 → mm_T → Option (mm_T)
  | 0, _, _, _ => none
  | fu + 1, q3, q5, N => lb_C_analyse_65 k0 p0 p1 p2 p4 (lf_C_analyse_65 k0 p0 p1 p2 p4 fu) q3 q5 N
def lb_C_analyse_49 (k0 : mm_T → Option (mm_T)) (p0 : Nat) (p1 : Nat) (p2 : Nat) (rec : Int32 → Int32 → mm_T → Option (mm_T)) (q3 : Int32) (q4 : Int32) (N : mm_T) : Option (mm_T) :=
  if q3 = 0 then (k0 N) else (if (100000 : Int32) ≤ q4 then (k0 N) else (lf_C_analyse_65 (fun (x12 : Int32) (M7 : mm_T) => (some (q4 + (1 : Int32))).bind fun x13 =>
  rec x12 x13 M7) p0 p1 p2 q4 fu_L (0 : Int32) (0 : Int32) N))
def lf_C_analyse_49 (k0 : mm_T → Option (mm_T)) (p0 : Nat) (p1 : Nat) (p2 : Nat) : Nat → Int32 → Int32 → mm_T → Option (mm_T)
  | 0, _, _, _ => none
  | fu + 1, q3, q4, N => lb_C_analyse_49 k0 p0 p1 p2 (lf_C_analyse_49 k0 p0 p1 p2 fu) q3 q4 N
def ff_C_analyse (t : Nat) (a1 : Nat) (a2 : Nat) (M : mm_T) : Option (mm_T) :=
  gd_G M t 1 (
  (gf_R M t 1 1).bind fun x1 =>
  (ff_D_fill_a x1 (-2 : Int32) M).bind fun M1 =>
  (gf_R M1 t 1 2).bind fun x2 =>
  (ff_D_fill_a x2 (-2 : Int32) M1).bind fun M2 =>
  lf_C_analyse_20 (fun (M4 : mm_T) => lf_C_analyse_49 (fun (M8 : mm_T) => (pf_Z M8 t 1 0 (1 : Int32)).bind fun M9 =>
  some M9) t a1 a2 fu_L (1 : Int32) (0 : Int32) M4) t a1 a2 fu_L (0 : Int32) M2)

def ff_D_constants (t : Nat) (M : mm_T) : Option (Nat × mm_T) :=
  gd_G M t 10 (
  (gf_R M t 10 10).bind fun x1 =>
  (gf_I M x1 1 0).bind fun x2 =>
  jp_J (α := mm_T → Option (Nat × mm_T)) (fun  (M1 : mm_T) => (gf_R M1 t 10 10).bind fun x3 =>
  some (x3, M1)) fun j25 =>
  if x2 = 0 then ((gf_R M t 10 10).bind fun x4 =>
  (gf_R M t 10 0).bind fun x5 =>
  bd_2 (ff_D_graph t M) fun x6 M2 =>
  (ff_C_analyse x4 x5 x6 M2).bind fun M3 =>
  j25 M3) else (j25 M))

def ff_C_constantBefore (t : Nat) (a1 : Int32) (a2 : Int32) (M : mm_T) : Option (Int32) :=
  gd_G M t 1 (
  (ff_C_stateBefore t a1 a2 M).bind fun x1 =>
  (ff_JM_max x1 (-1 : Int32) M).bind fun x2 =>
  some x2)

def ff_D_constantAt (t : Nat) (a1 : Int32) (a2 : Int32) (M : mm_T) : Option ((Int32 ⊕ String) × mm_T) :=
  gd_G M t 10 (
  rq_X (ff_D_requireBlock t a1 M) M (rq_X (ff_D_requireVariable a2 M) M (bd_2 (ff_D_constants t M) fun x1 M1 =>
  (gf_R M1 t 10 0).bind fun x2 =>
  (ff_P_firstPoint x2 a1 M1).bind fun x3 =>
  (ff_C_constantBefore x1 x3 a2 M1).bind fun x4 =>
  some (.inl x4, M1))))

def ff_C_constantGiven (t : Nat) (a1 : Int32) (M : mm_T) : Option (Int32) :=
  gd_G M t 1 (
  (gf_R M t 1 2).bind fun x1 =>
  (ff_D_at_a x1 a1 M).bind fun x2 =>
  (ff_JM_max x2 (-1 : Int32) M).bind fun x3 =>
  some x3)

def ff_D_constantOf (t : Nat) (a1 : Int32) (M : mm_T) : Option ((Int32 ⊕ String) × mm_T) :=
  gd_G M t 10 (
  rq_X (ff_D_requireInstruction t a1 M) M (bd_2 (ff_D_constants t M) fun x1 M1 =>
  (ff_C_constantGiven x1 a1 M1).bind fun x2 =>
  some (.inl x2, M1)))

def ff_P_testedBy (t : Nat) (a1 : Int32) (M : mm_T) : Option (Int32) :=
  gd_G M t 7 (
  (gf_R M t 7 5).bind fun x1 =>
  (ff_D_at_a x1 a1 M).bind fun x2 =>
  some x2)

def lb_C_countDecided_4 (p0 : Nat) (p1 : Nat) (M : mm_T) (rec : Int32 → Int32 → Option (Int32)) (q2 : Int32) (q3 : Int32) : Option (Int32) :=
  (gf_I M p1 7 0).bind fun x1 =>
  if x1 ≤ q3 then (some q2) else ((ff_P_wayCount p1 q3 M).bind fun x2 =>
  jp_J (α := Int32 → Option (Int32)) (fun (x3 : Int32) => jp_J (α := Int32 → Option (Int32)) (fun (x4 : Int32) => (some (q3 + (1 : Int32))).bind fun x5 =>
  rec x4 x5) fun j54 =>
  if x3 = 0 then (j54 q2) else ((ff_P_exitPoint p1 q3 M).bind fun x6 =>
  (ff_P_testedBy p1 q3 M).bind fun x7 =>
  (ff_C_constantBefore p0 x6 x7 M).bind fun x8 =>
  if x8 = (-1 : Int32) then (j54 q2) else ((some (q2 + (1 : Int32))).bind fun x9 =>
  j54 x9))) fun j26 =>
  if x2 = (2 : Int32) then (j26 (1 : Int32)) else (j26 (0 : Int32)))
def lf_C_countDecided_4 (p0 : Nat) (p1 : Nat) (M : mm_T) : Nat → Int32 → Int32 → Option (Int32)
  | 0, _, _ => none
  | fu + 1, q2, q3 => lb_C_countDecided_4 p0 p1 M (lf_C_countDecided_4 p0 p1 M fu) q2 q3
def ff_C_countDecided (t : Nat) (a1 : Nat) (M : mm_T) : Option (Int32) :=
  gd_G M t 1 (
  lf_C_countDecided_4  t a1 M fu_L (0 : Int32) (0 : Int32))

def ff_D_decidedBranches (t : Nat) (M : mm_T) : Option (Int32 × mm_T) :=
  gd_G M t 10 (
  bd_2 (ff_D_constants t M) fun x1 M1 =>
  (gf_R M1 t 10 0).bind fun x2 =>
  (ff_C_countDecided x1 x2 M1).bind fun x3 =>
  some (x3, M1))

def ff_D_requireLimit (a1 : Int32) (M : mm_T) : Option (Option String) :=
  jp_J (α := Option (Option String)) (some (some "java/lang/IllegalArgumentException")) fun j12 =>
  if a1 < (1 : Int32) then (j12) else (if a1 ≤ (1000 : Int32) then (some none) else (j12))

def ff_N_start (t : Nat) (a1 : Nat) (M : mm_T) : Option (mm_T) :=
  gd_G M t 5 (
  (gf_R M t 5 0).bind fun x1 =>
  (ff_D_fill_a x1 (0 : Int32) M).bind fun M1 =>
  (gf_R M1 t 5 1).bind fun x2 =>
  (ff_D_fill_a x2 (0 : Int32) M1).bind fun M2 =>
  (gf_R M2 t 5 1).bind fun x3 =>
  (ff_D_put_a x3 (0 : Int32) (1 : Int32) M2).bind fun M3 =>
  (pf_I M3 t 5 2 (0 : Int32)).bind fun M4 =>
  (ff_P_firstPoint a1 (0 : Int32) M4).bind fun x4 =>
  (pf_I M4 t 5 3 x4).bind fun M5 =>
  (pf_I M5 t 5 4 (0 : Int32)).bind fun M6 =>
  (pf_I M6 t 5 5 (-1 : Int32)).bind fun M7 =>
  (pf_Z M7 t 5 6 (0 : Int32)).bind fun M8 =>
  some M8)

def ff_N_leaveBlock (t : Nat) (a1 : Nat) (a2 : Int32) (M : mm_T) : Option (mm_T) :=
  gd_G M t 5 (
  (ff_P_wayCount a1 a2 M).bind fun x1 =>
  if x1 = 0 then ((pf_Z M t 5 6 (1 : Int32)).bind fun M3 =>
  some M3) else ((ff_P_wayCount a1 a2 M).bind fun x2 =>
  jp_J (α := Int32 → Option (mm_T)) (fun (x3 : Int32) => jp_J (α := Int32 → Option (mm_T)) (fun (x4 : Int32) => (ff_P_wayOf a1 a2 x4 M).bind fun x5 =>
  (gf_R M t 5 1).bind fun x6 =>
  (gf_R M t 5 1).bind fun x7 =>
  (ff_D_at_a x7 x5 M).bind fun x8 =>
  (ff_D_put_a x6 x5 (x8 + (1 : Int32)) M).bind fun M1 =>
  (ff_P_firstPoint a1 x5 M1).bind fun x9 =>
  (pf_I M1 t 5 3 x9).bind fun M2 =>
  some M2) fun j55 =>
  if x3 = 0 then (j55 (0 : Int32)) else (j55 (1 : Int32))) fun j43 =>
  jp_J (α := Option (mm_T)) (j43 (0 : Int32)) fun j42 =>
  if x2 = (2 : Int32) then ((gf_R M t 5 0).bind fun x10 =>
  (ff_P_testedBy a1 a2 M).bind fun x11 =>
  (ff_D_at_a x10 x11 M).bind fun x12 =>
  if x12 = 0 then (j43 (1 : Int32)) else (j42)) else (j42)))

def ff_N_execute (t : Nat) (a1 : Int32) (M : mm_T) : Option (mm_T) :=
  gd_G M t 5 (
  (ff_O_kind a1 M).bind fun x1 =>
  (gf_R M t 5 0).bind fun x2 =>
  (ff_O_left a1 M).bind fun x3 =>
  (ff_D_at_a x2 x3 M).bind fun x4 =>
  if x1 = (3 : Int32) then ((pf_I M t 5 5 x4).bind fun M3 =>
  some M3) else (jp_J (α := Int32 → Option (mm_T)) (fun (x5 : Int32) => (gf_R M t 5 0).bind fun x6 =>
  (ff_O_target a1 M).bind fun x7 =>
  (ff_D_put_a x6 x7 x5 M).bind fun M1 =>
  (gf_I M1 t 5 2).bind fun x8 =>
  (ff_O_target a1 M1).bind fun x9 =>
  (pf_I M1 t 5 2 (x8 ||| (io_shl (1 : Int32) x9))).bind fun M2 =>
  some M2) fun j70 =>
  if x1 = 0 then ((ff_O_constant a1 M).bind fun x15 =>
  j70 x15) else (if x1 = (2 : Int32) then ((ff_O_operator a1 M).bind fun x10 =>
  (gf_R M t 5 0).bind fun x11 =>
  (ff_O_right a1 M).bind fun x12 =>
  (ff_D_at_a x11 x12 M).bind fun x13 =>
  (ff_O_result x10 x4 x13 M).bind fun x14 =>
  j70 x14) else (j70 x4))))

def ff_N_step (t : Nat) (a1 : Nat) (M : mm_T) : Option (mm_T) :=
  gd_G M t 5 (
  (gf_I M t 5 4).bind fun x1 =>
  (pf_I M t 5 4 (x1 + (1 : Int32))).bind fun M1 =>
  (gf_I M1 t 5 3).bind fun x2 =>
  (ff_P_kindAt a1 x2 M1).bind fun x3 =>
  if x3 = (-1 : Int32) then ((gf_I M1 t 5 3).bind fun x8 =>
  (ff_P_blockAt a1 x8 M1).bind fun x9 =>
  (ff_N_leaveBlock t a1 x9 M1).bind fun M4 =>
  some M4) else ((gf_I M1 t 5 3).bind fun x4 =>
  (ff_P_word a1 x4 M1).bind fun x5 =>
  (ff_N_execute t x5 M1).bind fun M2 =>
  (gf_I M2 t 5 3).bind fun x6 =>
  (ff_P_nextPoint a1 x6 (0 : Int32) M2).bind fun x7 =>
  (pf_I M2 t 5 3 x7).bind fun M3 =>
  some M3))

def lb_N_run_7 (p0 : Nat) (p1 : Nat) (p2 : Int32) (rec : Int32 → mm_T → Option (mm_T)) (q3 : Int32) (N : mm_T) : Option (mm_T) :=
  if p2 ≤ q3 then (some N) else ((gf_I N p0 5 6).bind fun x1 =>
  if x1 = 0 then ((ff_N_step p0 p1 N).bind fun M2 =>
  (some (q3 + (1 : Int32))).bind fun x2 =>
  rec x2 M2) else (some N))
def lf_N_run_7 (p0 : Nat) (p1 : Nat) (p2 : Int32) : Nat → Int32 → mm_T → Option (mm_T)
  | 0, _, _ => none
  | fu + 1, q3, N => lb_N_run_7 p0 p1 p2 (lf_N_run_7 p0 p1 p2 fu) q3 N
def ff_N_run (t : Nat) (a1 : Nat) (a2 : Int32) (M : mm_T) : Option (mm_T) :=
  gd_G M t 5 (
  (ff_N_start t a1 M).bind fun M1 =>
  lf_N_run_7  t a1 a2 fu_L (0 : Int32) M1)

def ff_D_runSteps (t : Nat) (a1 : Int32) (M : mm_T) : Option ((Int32 ⊕ String) × mm_T) :=
  gd_G M t 10 (
  rq_X (ff_D_requireLimit a1 M) M ((gf_R M t 10 11).bind fun x1 =>
  (gf_R M t 10 0).bind fun x2 =>
  (ff_N_run x1 x2 a1 M).bind fun M1 =>
  (gf_R M1 t 10 11).bind fun x3 =>
  (gf_I M1 x3 5 4).bind fun x4 =>
  some (.inl x4, M1)))

def ff_D_runEnds (t : Nat) (a1 : Int32) (M : mm_T) : Option ((Int32 ⊕ String) × mm_T) :=
  gd_G M t 10 (
  rq_X (ff_D_requireLimit a1 M) M ((gf_R M t 10 11).bind fun x1 =>
  (gf_R M t 10 0).bind fun x2 =>
  (ff_N_run x1 x2 a1 M).bind fun M1 =>
  (gf_R M1 t 10 11).bind fun x3 =>
  (gf_I M1 x3 5 6).bind fun x4 =>
  (zb_Z x4).bind fun w => some (.inl w, M1)))

def ff_D_requireSteps (a1 : Int32) (M : mm_T) : Option (Option String) :=
  jp_J (α := Option (Option String)) (some (some "java/lang/IllegalArgumentException")) fun j11 =>
  if a1 < 0 then (j11) else (if a1 ≤ (1000 : Int32) then (some none) else (j11))

def ff_N_value (t : Nat) (a1 : Int32) (M : mm_T) : Option (Int32) :=
  gd_G M t 5 (
  (gf_R M t 5 0).bind fun x1 =>
  (ff_D_at_a x1 a1 M).bind fun x2 =>
  some x2)

def ff_D_valueAfter (t : Nat) (a1 : Int32) (a2 : Int32) (M : mm_T) : Option ((Int32 ⊕ String) × mm_T) :=
  gd_G M t 10 (
  rq_X (ff_D_requireSteps a1 M) M (rq_X (ff_D_requireVariable a2 M) M ((gf_R M t 10 11).bind fun x1 =>
  (gf_R M t 10 0).bind fun x2 =>
  (ff_N_run x1 x2 a1 M).bind fun M1 =>
  (gf_R M1 t 10 11).bind fun x3 =>
  (ff_N_value x3 a2 M1).bind fun x4 =>
  some (.inl x4, M1))))

def ff_D_lastShown (t : Nat) (a1 : Int32) (M : mm_T) : Option ((Int32 ⊕ String) × mm_T) :=
  gd_G M t 10 (
  rq_X (ff_D_requireSteps a1 M) M ((gf_R M t 10 11).bind fun x1 =>
  (gf_R M t 10 0).bind fun x2 =>
  (ff_N_run x1 x2 a1 M).bind fun M1 =>
  (gf_R M1 t 10 11).bind fun x3 =>
  (gf_I M1 x3 5 5).bind fun x4 =>
  some (.inl x4, M1)))

def ff_N_entriesInto (t : Nat) (a1 : Int32) (M : mm_T) : Option (Int32) :=
  gd_G M t 5 (
  (gf_R M t 5 1).bind fun x1 =>
  (ff_D_at_a x1 a1 M).bind fun x2 =>
  some x2)

def ff_D_visits (t : Nat) (a1 : Int32) (a2 : Int32) (M : mm_T) : Option ((Int32 ⊕ String) × mm_T) :=
  gd_G M t 10 (
  rq_X (ff_D_requireBlock t a1 M) M (rq_X (ff_D_requireSteps a2 M) M ((gf_R M t 10 11).bind fun x1 =>
  (gf_R M t 10 0).bind fun x2 =>
  (ff_N_run x1 x2 a2 M).bind fun M1 =>
  (gf_R M1 t 10 11).bind fun x3 =>
  (ff_N_entriesInto x3 a1 M1).bind fun x4 =>
  some (.inl x4, M1))))

def lb_N_contradicts_a_2 (p0 : Nat) (p1 : Nat) (M : mm_T) (rec : Int32 → Option (Int32)) (q2 : Int32) : Option (Int32) :=
  if (8 : Int32) ≤ q2 then (some (0 : Int32)) else ((gf_I M p0 5 3).bind fun x1 =>
  (ff_C_constantBefore p1 x1 q2 M).bind fun x2 =>
  jp_J (α := Option (Int32)) ((some (q2 + (1 : Int32))).bind fun x3 =>
  rec x3) fun j37 =>
  if x2 = (-1 : Int32) then (j37) else ((gf_R M p0 5 0).bind fun x4 =>
  (ff_D_at_a x4 q2 M).bind fun x5 =>
  if x2 = x5 then (j37) else (some (1 : Int32))))
def lf_N_contradicts_a_2 (p0 : Nat) (p1 : Nat) (M : mm_T) : Nat → Int32 → Option (Int32)
  | 0, _ => none
  | fu + 1, q2 => lb_N_contradicts_a_2 p0 p1 M (lf_N_contradicts_a_2 p0 p1 M fu) q2
def ff_N_contradicts_a (t : Nat) (a1 : Nat) (M : mm_T) : Option (Int32) :=
  gd_G M t 5 (
  lf_N_contradicts_a_2  t a1 M fu_L (0 : Int32))

def ff_N_contradicts_b (t : Nat) (a1 : Nat) (M : mm_T) : Option (Int32) :=
  gd_G M t 5 (
  (gf_I M t 5 3).bind fun x1 =>
  (ff_R_initialsAt a1 x1 M).bind fun x2 =>
  (gf_I M t 5 2).bind fun x3 =>
  if ((x2 ||| x3) &&& (255 : Int32)) = (255 : Int32) then (some (0 : Int32)) else (some (1 : Int32)))

def lb_D_auditDifference_26 (p0 : Nat) (p1 : Nat) (p2 : Nat) (rec : Int32 → Int32 → mm_T → Option (Int32 × mm_T)) (q3 : Int32) (q4 : Int32) (N : mm_T) : Option (Int32 × mm_T) :=
  if (200 : Int32) ≤ q4 then (some (q3, N)) else ((gf_R N p0 10 11).bind fun x5 =>
  (gf_I N x5 5 6).bind fun x6 =>
  if x6 = 0 then ((gf_R N p0 10 11).bind fun x7 =>
  (ff_N_contradicts_a x7 p1 N).bind fun x8 =>
  jp_J (α := Int32 → Option (Int32 × mm_T)) (fun (x9 : Int32) => (some (q3 + x9)).bind fun x10 =>
  (gf_R N p0 10 11).bind fun x11 =>
  (ff_N_contradicts_b x11 p2 N).bind fun x12 =>
  jp_J (α := Int32 → Option (Int32 × mm_T)) (fun (x13 : Int32) => (some (x10 + x13)).bind fun x14 =>
  (gf_R N p0 10 11).bind fun x15 =>
  (gf_R N p0 10 0).bind fun x16 =>
  (ff_N_step x15 x16 N).bind fun M4 =>
  (some (q4 + (1 : Int32))).bind fun x17 =>
  rec x14 x17 M4) fun j80 =>
  if x12 = 0 then (j80 (0 : Int32)) else (j80 (1 : Int32))) fun j61 =>
  if x8 = 0 then (j61 (0 : Int32)) else (j61 (1 : Int32))) else (some (q3, N)))
def lf_D_auditDifference_26 (p0 : Nat) (p1 : Nat) (p2 : Nat) : Nat → Int32 → Int32 → mm_T → Option (Int32 × mm_T)
  | 0, _, _, _ => none
  | fu + 1, q3, q4, N => lb_D_auditDifference_26 p0 p1 p2 (lf_D_auditDifference_26 p0 p1 p2 fu) q3 q4 N
def ff_D_auditDifference (t : Nat) (M : mm_T) : Option (Int32 × mm_T) :=
  gd_G M t 10 (
  bd_2 (ff_D_constants t M) fun x1 M1 =>
  bd_2 (ff_D_reaching t M1) fun x2 M2 =>
  (gf_R M2 t 10 11).bind fun x3 =>
  (gf_R M2 t 10 0).bind fun x4 =>
  (ff_N_start x3 x4 M2).bind fun M3 =>
  lf_D_auditDifference_26  t x1 x2 fu_L (0 : Int32) (0 : Int32) M3)

def lb_P_countDefinitions_4 (p0 : Nat) (M : mm_T) (rec : Int32 → Int32 → Option (Int32)) (q1 : Int32) (q2 : Int32) : Option (Int32) :=
  (gf_I M p0 7 1).bind fun x1 =>
  if x1 ≤ q2 then (some q1) else ((ff_P_definedAt p0 q2 M).bind fun x2 =>
  jp_J (α := Int32 → Option (Int32)) (fun (x3 : Int32) => (some (q1 + x3)).bind fun x4 =>
  (some (q2 + (1 : Int32))).bind fun x5 =>
  rec x4 x5) fun j27 =>
  if x2 = (-1 : Int32) then (j27 (0 : Int32)) else (j27 (1 : Int32)))
def lf_P_countDefinitions_4 (p0 : Nat) (M : mm_T) : Nat → Int32 → Int32 → Option (Int32)
  | 0, _, _ => none
  | fu + 1, q1, q2 => lb_P_countDefinitions_4 p0 M (lf_P_countDefinitions_4 p0 M fu) q1 q2
def ff_P_countDefinitions (t : Nat) (M : mm_T) : Option (Int32) :=
  gd_G M t 7 (
  lf_P_countDefinitions_4  t M fu_L (0 : Int32) (0 : Int32))

def ff_D_deadShare (t : Nat) (M : mm_T) : Option (UInt32 × mm_T) :=
  gd_G M t 10 (
  (gf_R M t 10 0).bind fun x1 =>
  (ff_P_countDefinitions x1 M).bind fun x2 =>
  if x2 = 0 then (some (FP.fconst0, M)) else (bd_2 (ff_D_liveness t M) fun x3 M1 =>
  (gf_R M1 t 10 0).bind fun x4 =>
  (ff_L_countDead x3 x4 M1).bind fun x5 =>
  (fo_div (FP.i2f x5) (FP.i2f x2)).bind fun x6 =>
  some (x6, M1)))

def lb_L_sumLive_4 (p0 : Nat) (p1 : Nat) (M : mm_T) (rec : Int32 → Int32 → Option (Int32)) (q2 : Int32) (q3 : Int32) : Option (Int32) :=
  (gf_I M p1 7 1).bind fun x1 =>
  if x1 ≤ q3 then (some q2) else ((gf_R M p0 4 1).bind fun x2 =>
  (ff_D_at_a x2 q3 M).bind fun x3 =>
  (ff_JI_bitCount x3 M).bind fun x4 =>
  (some (q2 + x4)).bind fun x5 =>
  (some (q3 + (1 : Int32))).bind fun x6 =>
  rec x5 x6)
def lf_L_sumLive_4 (p0 : Nat) (p1 : Nat) (M : mm_T) : Nat → Int32 → Int32 → Option (Int32)
  | 0, _, _ => none
  | fu + 1, q2, q3 => lb_L_sumLive_4 p0 p1 M (lf_L_sumLive_4 p0 p1 M fu) q2 q3
def ff_L_sumLive (t : Nat) (a1 : Nat) (M : mm_T) : Option (Int32) :=
  gd_G M t 4 (
  lf_L_sumLive_4  t a1 M fu_L (0 : Int32) (0 : Int32))

def ff_D_meanLive (t : Nat) (M : mm_T) : Option (UInt64 × mm_T) :=
  gd_G M t 10 (
  (gf_R M t 10 0).bind fun x1 =>
  (gf_I M x1 7 1).bind fun x2 =>
  if x2 = 0 then (some (FP.dconst0, M)) else (bd_2 (ff_D_liveness t M) fun x3 M1 =>
  (gf_R M1 t 10 0).bind fun x4 =>
  (ff_L_sumLive x3 x4 M1).bind fun x5 =>
  (gf_R M1 t 10 0).bind fun x6 =>
  (gf_I M1 x6 7 1).bind fun x7 =>
  (do_div (FP.i2d x5) (FP.i2d x7)).bind fun x8 =>
  some (x8, M1)))

def ff_D_requirePosition (t : Nat) (a1 : Int32) (a2 : Int32) (M : mm_T) : Option (Option String) :=
  gd_G M t 10 (
  jp_J (α := Option (Option String)) (some (some "java/lang/IllegalArgumentException")) fun j16 =>
  if a2 < 0 then (j16) else ((gf_R M t 10 0).bind fun x1 =>
  (ff_P_sizeOf x1 a1 M).bind fun x2 =>
  if a2 ≤ x2 then (some none) else (j16)))

def ff_D_requireConstant (a1 : Int32) (M : mm_T) : Option (Option String) :=
  jp_J (α := Option (Option String)) (some (some "java/lang/IllegalArgumentException")) fun j11 =>
  if a1 < 0 then (j11) else (if a1 ≤ (999 : Int32) then (some none) else (j11))

def ff_D_requireRoom (t : Nat) (M : mm_T) : Option (Option String) :=
  gd_G M t 10 (
  (gf_R M t 10 0).bind fun x1 =>
  (ff_P_isFull x1 M).bind fun x2 =>
  if x2 = 0 then (some none) else (some (some "java/lang/IllegalStateException")))

def ff_O_set (a1 : Int32) (a2 : Int32) (M : mm_T) : Option (Int32) :=
  (ff_O_pack (0 : Int32) a1 (0 : Int32) (0 : Int32) (0 : Int32) a2 M).bind fun x1 =>
  some x1

def ff_P_startOf (t : Nat) (a1 : Int32) (M : mm_T) : Option (Int32) :=
  gd_G M t 7 (
  (gf_R M t 7 3).bind fun x1 =>
  (ff_D_at_a x1 a1 M).bind fun x2 =>
  some x2)

def ff_H_keep (t : Nat) (a1 : Nat) (M : mm_T) : Option (mm_T) :=
  gd_G M t 3 (
  (gf_I M t 3 1).bind fun x1 =>
  jp_J (α := mm_T → Option (mm_T)) (fun  (M1 : mm_T) => (gf_R M1 t 3 0).bind fun x2 =>
  (gf_I M1 t 3 1).bind fun x3 =>
  (ar_R M1 x2 x3).bind fun x4 =>
  jp_J (α := Nat → mm_T → Option (mm_T)) (fun (x5 : Nat) (M2 : mm_T) => (ff_P_copyFrom x5 a1 M2).bind fun M3 =>
  (gf_I M3 t 3 1).bind fun x6 =>
  jp_J (α := Int32 → Option (mm_T)) (fun (x7 : Int32) => (pf_I M3 t 3 1 x7).bind fun M4 =>
  (gf_I M4 t 3 2).bind fun x8 =>
  jp_J (α := Int32 → Option (mm_T)) (fun (x9 : Int32) => (pf_I M4 t 3 2 x9).bind fun M5 =>
  some M5) fun j107 =>
  if (6 : Int32) ≤ x8 then (j107 (6 : Int32)) else ((gf_I M4 t 3 2).bind fun x10 =>
  j107 ((x10 + (1 : Int32))))) fun j83 =>
  if (6 : Int32) ≤ (x6 + (1 : Int32)) then (j83 (0 : Int32)) else ((gf_I M3 t 3 1).bind fun x11 =>
  j83 ((x11 + (1 : Int32))))) fun j56 =>
  if x4 = 0 then (bd_2 (no_C 7 M1) fun x12 M6 =>
  (ff_P_init x12 M6).bind fun M7 =>
  (gf_R M7 t 3 0).bind fun x13 =>
  (gf_I M7 t 3 1).bind fun x14 =>
  (aw_R M7 x13 x14 x12).bind fun M8 =>
  j56 x12 M8) else (j56 x4 M1)) fun j24 =>
  jp_J (α := Option (mm_T)) ((pf_I M t 3 1 (0 : Int32)).bind fun M9 =>
  j24 M9) fun j19 =>
  if x1 < 0 then (j19) else ((gf_I M t 3 1).bind fun x15 =>
  (gf_R M t 3 0).bind fun x16 =>
  (al_N M x16).bind fun x17 =>
  if x15 < x17 then (j24 M) else (j19)))

def lb_P_moveStarts_4 (p0 : Nat) (p2 : Int32) (rec : Int32 → mm_T → Option (mm_T)) (q3 : Int32) (N : mm_T) : Option (mm_T) :=
  (gf_I N p0 7 0).bind fun x2 =>
  if x2 < q3 then (some N) else ((gf_R N p0 7 3).bind fun x3 =>
  (gf_R N p0 7 3).bind fun x4 =>
  (ff_D_at_a x4 q3 N).bind fun x5 =>
  (ff_D_put_a x3 q3 (x5 + p2) N).bind fun M1 =>
  (some (q3 + (1 : Int32))).bind fun x6 =>
  rec x6 M1)
def lf_P_moveStarts_4 (p0 : Nat) (p2 : Int32) : Nat → Int32 → mm_T → Option (mm_T)
  | 0, _, _ => none
  | fu + 1, q3, N => lb_P_moveStarts_4 p0 p2 (lf_P_moveStarts_4 p0 p2 fu) q3 N
def ff_P_moveStarts (t : Nat) (a1 : Int32) (a2 : Int32) (M : mm_T) : Option (mm_T) :=
  gd_G M t 7 (
  (some (a1 + (1 : Int32))).bind fun x1 =>
  lf_P_moveStarts_4  t a2 fu_L x1 M)

def lb_P_insert_6 (k0 : mm_T → Option (mm_T)) (p0 : Nat) (p1 : Int32) (p2 : Int32) (p3 : Int32) (rec : Int32 → mm_T → Option (mm_T)) (q4 : Int32) (N : mm_T) : Option (mm_T) :=
  if q4 ≤ p2 then (k0 N) else ((gf_R N p0 7 2).bind fun x2 =>
  (gf_R N p0 7 2).bind fun x3 =>
  (ff_D_at_a x3 (q4 - (1 : Int32)) N).bind fun x4 =>
  (ff_D_put_a x2 q4 x4 N).bind fun M1 =>
  (some (q4 + (-1 : Int32))).bind fun x5 =>
  rec x5 M1)
def lf_P_insert_6 (k0 : mm_T → Option (mm_T)) (p0 : Nat) (p1 : Int32) (p2 : Int32) (p3 : Int32) : Nat → Int32 → mm_T → Option (mm_T)
  | 0, _, _ => none
  | fu + 1, q4, N => lb_P_insert_6 k0 p0 p1 p2 p3 (lf_P_insert_6 k0 p0 p1 p2 p3 fu) q4 N
def ff_P_insert (t : Nat) (a1 : Int32) (a2 : Int32) (a3 : Int32) (M : mm_T) : Option (mm_T) :=
  gd_G M t 7 (
  (gf_I M t 7 1).bind fun x1 =>
  lf_P_insert_6 (fun (M2 : mm_T) => (gf_R M2 t 7 2).bind fun x6 =>
  (ff_D_put_a x6 a2 a3 M2).bind fun M3 =>
  (gf_I M3 t 7 1).bind fun x7 =>
  (pf_I M3 t 7 1 (x7 + (1 : Int32))).bind fun M4 =>
  (ff_P_moveStarts t a1 (1 : Int32) M4).bind fun M5 =>
  some M5) t a1 a2 a3 fu_L x1 M)

def ff_D_insertWord (t : Nat) (a1 : Int32) (a2 : Int32) (a3 : Int32) (M : mm_T) : Option (Int32 × mm_T) :=
  gd_G M t 10 (
  (gf_R M t 10 0).bind fun x1 =>
  (ff_P_startOf x1 a1 M).bind fun x2 =>
  (some (x2 + a2)).bind fun x3 =>
  (gf_R M t 10 4).bind fun x4 =>
  (gf_R M t 10 0).bind fun x5 =>
  (ff_H_keep x4 x5 M).bind fun M1 =>
  (gf_R M1 t 10 0).bind fun x6 =>
  (ff_P_insert x6 a1 x3 a3 M1).bind fun M2 =>
  (ff_D_forgetAnalyses t M2).bind fun M3 =>
  some (x3, M3))

def ff_D_insertSet (t : Nat) (a1 : Int32) (a2 : Int32) (a3 : Int32) (a4 : Int32) (M : mm_T) : Option ((Int32 ⊕ String) × mm_T) :=
  gd_G M t 10 (
  rq_X (ff_D_requireBlock t a1 M) M (rq_X (ff_D_requirePosition t a1 a2 M) M (rq_X (ff_D_requireVariable a3 M) M (rq_X (ff_D_requireConstant a4 M) M (rq_X (ff_D_requireRoom t M) M ((ff_O_set a3 a4 M).bind fun x1 =>
  bd_2 (ff_D_insertWord t a1 a2 x1 M) fun x2 M1 =>
  some (.inl x2, M1)))))))

def ff_D_requireOperator (a1 : Int32) (M : mm_T) : Option (Option String) :=
  if a1 = 0 then (some none) else (if a1 = (1 : Int32) then (some none) else (if a1 = (2 : Int32) then (some none) else (some (some "java/lang/IllegalArgumentException"))))

def ff_O_calc (a1 : Int32) (a2 : Int32) (a3 : Int32) (a4 : Int32) (M : mm_T) : Option (Int32) :=
  (ff_O_pack (2 : Int32) a1 a2 a3 a4 (0 : Int32) M).bind fun x1 =>
  some x1

def ff_D_insertCalc (t : Nat) (a1 : Int32) (a2 : Int32) (a3 : Int32) (a4 : Int32) (a5 : Int32) (a6 : Int32) (M : mm_T) : Option ((Int32 ⊕ String) × mm_T) :=
  gd_G M t 10 (
  rq_X (ff_D_requireBlock t a1 M) M (rq_X (ff_D_requirePosition t a1 a2 M) M (rq_X (ff_D_requireVariable a3 M) M (rq_X (ff_D_requireVariable a4 M) M (rq_X (ff_D_requireOperator a5 M) M (rq_X (ff_D_requireVariable a6 M) M (rq_X (ff_D_requireRoom t M) M ((ff_O_calc a3 a4 a5 a6 M).bind fun x1 =>
  bd_2 (ff_D_insertWord t a1 a2 x1 M) fun x2 M1 =>
  some (.inl x2, M1)))))))))

def lb_P_remove_18 (k0 : mm_T → Option (mm_T)) (p0 : Nat) (p2 : Int32) (rec : Int32 → mm_T → Option (mm_T)) (q3 : Int32) (N : mm_T) : Option (mm_T) :=
  (gf_I N p0 7 1).bind fun x3 =>
  if x3 ≤ q3 then (k0 N) else ((gf_R N p0 7 2).bind fun x4 =>
  (gf_R N p0 7 2).bind fun x5 =>
  (ff_D_at_a x5 (q3 + (1 : Int32)) N).bind fun x6 =>
  (ff_D_put_a x4 q3 x6 N).bind fun M2 =>
  (some (q3 + (1 : Int32))).bind fun x7 =>
  rec x7 M2)
def lf_P_remove_18 (k0 : mm_T → Option (mm_T)) (p0 : Nat) (p2 : Int32) : Nat → Int32 → mm_T → Option (mm_T)
  | 0, _, _ => none
  | fu + 1, q3, N => lb_P_remove_18 k0 p0 p2 (lf_P_remove_18 k0 p0 p2 fu) q3 N
def ff_P_remove (t : Nat) (a1 : Int32) (M : mm_T) : Option (mm_T) :=
  gd_G M t 7 (
  (ff_P_blockAt t a1 M).bind fun x1 =>
  (gf_I M t 7 1).bind fun x2 =>
  (pf_I M t 7 1 (x2 - (1 : Int32))).bind fun M1 =>
  lf_P_remove_18 (fun (M3 : mm_T) => (ff_P_moveStarts t x1 (-1 : Int32) M3).bind fun M4 =>
  some M4) t x1 fu_L a1 M1)

def ff_D_removeInstruction (t : Nat) (a1 : Int32) (M : mm_T) : Option ((Int32 ⊕ String) × mm_T) :=
  gd_G M t 10 (
  rq_X (ff_D_requireInstruction t a1 M) M ((gf_R M t 10 4).bind fun x1 =>
  (gf_R M t 10 0).bind fun x2 =>
  (ff_H_keep x1 x2 M).bind fun M1 =>
  (gf_R M1 t 10 0).bind fun x3 =>
  (ff_P_remove x3 a1 M1).bind fun M2 =>
  (ff_D_forgetAnalyses t M2).bind fun M3 =>
  (gf_R M3 t 10 0).bind fun x4 =>
  (gf_I M3 x4 7 1).bind fun x5 =>
  some (.inl x5, M3)))

def ff_G_countReached (t : Nat) (M : mm_T) : Option (Int32) :=
  gd_G M t 2 (
  (gf_I M t 2 1).bind fun x1 =>
  (ff_JI_bitCount x1 M).bind fun x2 =>
  some x2)

def ff_D_setGoto (t : Nat) (a1 : Int32) (a2 : Int32) (M : mm_T) : Option ((Int32 ⊕ String) × mm_T) :=
  gd_G M t 10 (
  rq_X (ff_D_requireBlock t a1 M) M (rq_X (ff_D_requireBlock t a2 M) M ((gf_R M t 10 4).bind fun x1 =>
  (gf_R M t 10 0).bind fun x2 =>
  (ff_H_keep x1 x2 M).bind fun M1 =>
  (gf_R M1 t 10 0).bind fun x3 =>
  (ff_P_exitByGoto x3 a1 a2 M1).bind fun M2 =>
  (ff_D_forgetAnalyses t M2).bind fun M3 =>
  bd_2 (ff_D_graph t M3) fun x4 M4 =>
  (ff_G_countReached x4 M4).bind fun x5 =>
  some (.inl x5, M4))))

def ff_D_setBranch (t : Nat) (a1 : Int32) (a2 : Int32) (a3 : Int32) (a4 : Int32) (M : mm_T) : Option ((Int32 ⊕ String) × mm_T) :=
  gd_G M t 10 (
  rq_X (ff_D_requireBlock t a1 M) M (rq_X (ff_D_requireBlock t a3 M) M (rq_X (ff_D_requireBlock t a4 M) M (rq_X (ff_D_requireVariable a2 M) M ((gf_R M t 10 4).bind fun x1 =>
  (gf_R M t 10 0).bind fun x2 =>
  (ff_H_keep x1 x2 M).bind fun M1 =>
  (gf_R M1 t 10 0).bind fun x3 =>
  (ff_P_exitByBranch x3 a1 a2 a3 a4 M1).bind fun M2 =>
  (ff_D_forgetAnalyses t M2).bind fun M3 =>
  bd_2 (ff_D_graph t M3) fun x4 M4 =>
  (ff_G_countReached x4 M4).bind fun x5 =>
  some (.inl x5, M4))))))

def lb_D_dropDead_12 (p0 : Nat) (p1 : Nat) (rec : Int32 → Int32 → mm_T → Option (Int32 × mm_T)) (q2 : Int32) (q3 : Int32) (N : mm_T) : Option (Int32 × mm_T) :=
  if q3 < 0 then ((zb_Z q2).bind fun w => some (w, N)) else ((gf_R N p0 10 0).bind fun x4 =>
  (ff_L_isDeadAt p1 x4 q3 N).bind fun x5 =>
  jp_J (α := Int32 → mm_T → Option (Int32 × mm_T)) (fun (x6 : Int32) (M1 : mm_T) => (some (q3 + (-1 : Int32))).bind fun x7 =>
  rec x6 x7 M1) fun j38 =>
  if x5 = 0 then (j38 q2 N) else ((gf_R N p0 10 0).bind fun x8 =>
  (ff_P_remove x8 q3 N).bind fun M2 =>
  j38 (1 : Int32) M2))
def lf_D_dropDead_12 (p0 : Nat) (p1 : Nat) : Nat → Int32 → Int32 → mm_T → Option (Int32 × mm_T)
  | 0, _, _, _ => none
  | fu + 1, q2, q3, N => lb_D_dropDead_12 p0 p1 (lf_D_dropDead_12 p0 p1 fu) q2 q3 N
def ff_D_dropDead (t : Nat) (a1 : Nat) (M : mm_T) : Option (Int32 × mm_T) :=
  gd_G M t 10 (
  (gf_R M t 10 0).bind fun x1 =>
  (gf_I M x1 7 1).bind fun x2 =>
  (some (x2 - (1 : Int32))).bind fun x3 =>
  lf_D_dropDead_12  t a1 fu_L (0 : Int32) x3 M)

def lb_D_removeDead_23 (k0 : mm_T → Option (Int32 × mm_T)) (p0 : Nat) (p1 : Int32) (rec : Int32 → Int32 → mm_T → Option (Int32 × mm_T)) (q2 : Int32) (q3 : Int32) (N : mm_T) : Option (Int32 × mm_T) :=
  if q2 = 0 then (k0 N) else (if (40 : Int32) < q3 then (k0 N) else (bd_2 (ff_D_liveness p0 N) fun x5 M2 =>
  bd_2 (ff_D_dropDead p0 x5 M2) fun x6 M3 =>
  (ff_D_forgetAnalyses p0 M3).bind fun M4 =>
  (some (q3 + (1 : Int32))).bind fun x7 =>
  rec x6 x7 M4))
def lf_D_removeDead_23 (k0 : mm_T → Option (Int32 × mm_T)) (p0 : Nat) (p1 : Int32) : Nat → Int32 → Int32 → mm_T → Option (Int32 × mm_T)
  | 0, _, _, _ => none
  | fu + 1, q2, q3, N => lb_D_removeDead_23 k0 p0 p1 (lf_D_removeDead_23 k0 p0 p1 fu) q2 q3 N
def ff_D_removeDead (t : Nat) (M : mm_T) : Option (Int32 × mm_T) :=
  gd_G M t 10 (
  (gf_R M t 10 0).bind fun x1 =>
  (gf_I M x1 7 1).bind fun x2 =>
  (gf_R M t 10 4).bind fun x3 =>
  (gf_R M t 10 0).bind fun x4 =>
  (ff_H_keep x3 x4 M).bind fun M1 =>
  lf_D_removeDead_23 (fun (M5 : mm_T) => (gf_R M5 t 10 0).bind fun x8 =>
  (gf_I M5 x8 7 1).bind fun x9 =>
  some ((x2 - x9), M5)) t x2 fu_L (1 : Int32) (0 : Int32) M1)

def ff_P_replace (t : Nat) (a1 : Int32) (a2 : Int32) (M : mm_T) : Option (mm_T) :=
  gd_G M t 7 (
  (gf_R M t 7 2).bind fun x1 =>
  (ff_D_put_a x1 a1 a2 M).bind fun M1 =>
  some M1)

def lb_D_foldConstants_20 (k0 : Int32 → mm_T → Option (Int32 × mm_T)) (p0 : Nat) (p1 : Nat) (rec : Int32 → Int32 → mm_T → Option (Int32 × mm_T)) (q2 : Int32) (q3 : Int32) (N : mm_T) : Option (Int32 × mm_T) :=
  (gf_R N p0 10 0).bind fun x4 =>
  (gf_I N x4 7 1).bind fun x5 =>
  if x5 ≤ q3 then (k0 q2 N) else ((gf_R N p0 10 0).bind fun x6 =>
  (ff_P_kindAt x6 q3 N).bind fun x7 =>
  (ff_C_constantGiven p1 q3 N).bind fun x8 =>
  jp_J (α := Int32 → mm_T → Option (Int32 × mm_T)) (fun (x9 : Int32) (M3 : mm_T) => (some (q3 + (1 : Int32))).bind fun x10 =>
  rec x9 x10 M3) fun j90 =>
  jp_J (α := Option (Int32 × mm_T)) (if x8 = (-1 : Int32) then (j90 q2 N) else ((gf_R N p0 10 0).bind fun x11 =>
  (gf_R N p0 10 0).bind fun x12 =>
  (ff_P_definedAt x12 q3 N).bind fun x13 =>
  (ff_O_set x13 x8 N).bind fun x14 =>
  (ff_P_replace x11 q3 x14 N).bind fun M4 =>
  (some (q2 + (1 : Int32))).bind fun x15 =>
  j90 x15 M4)) fun j60 =>
  if x7 = (1 : Int32) then (j60) else (if x7 = (2 : Int32) then (j60) else (j90 q2 N)))
def lf_D_foldConstants_20 (k0 : Int32 → mm_T → Option (Int32 × mm_T)) (p0 : Nat) (p1 : Nat) : Nat → Int32 → Int32 → mm_T → Option (Int32 × mm_T)
  | 0, _, _, _ => none
  | fu + 1, q2, q3, N => lb_D_foldConstants_20 k0 p0 p1 (lf_D_foldConstants_20 k0 p0 p1 fu) q2 q3 N
def ff_D_foldConstants (t : Nat) (M : mm_T) : Option (Int32 × mm_T) :=
  gd_G M t 10 (
  bd_2 (ff_D_constants t M) fun x1 M1 =>
  (gf_R M1 t 10 4).bind fun x2 =>
  (gf_R M1 t 10 0).bind fun x3 =>
  (ff_H_keep x2 x3 M1).bind fun M2 =>
  lf_D_foldConstants_20 (fun (x16 : Int32) (M5 : mm_T) => (ff_D_forgetAnalyses t M5).bind fun M6 =>
  some (x16, M6)) t x1 fu_L (0 : Int32) (0 : Int32) M2)

def ff_W_clear (t : Nat) (M : mm_T) : Option (mm_T) :=
  gd_G M t 9 (
  (pf_I M t 9 1 (0 : Int32)).bind fun M1 =>
  some M1)

def ff_P_endOf (t : Nat) (a1 : Int32) (M : mm_T) : Option (Int32) :=
  gd_G M t 7 (
  (gf_R M t 7 3).bind fun x1 =>
  (ff_D_at_a x1 (a1 + (1 : Int32)) M).bind fun x2 =>
  some x2)

def ff_W_writeByte (t : Nat) (a1 : Int32) (M : mm_T) : Option (mm_T) :=
  gd_G M t 9 (
  (gf_R M t 9 0).bind fun x1 =>
  (gf_I M t 9 1).bind fun x2 =>
  (ff_D_put_a x1 x2 a1 M).bind fun M1 =>
  (gf_I M1 t 9 1).bind fun x3 =>
  (pf_I M1 t 9 1 (x3 + (1 : Int32))).bind fun M2 =>
  some M2)

def lb_W_writeText_2 (p0 : Nat) (p1 : Nat) (rec : Int32 → mm_T → Option (mm_T)) (q2 : Int32) (N : mm_T) : Option (mm_T) :=
  (ff_JS_length p1 N).bind fun x1 =>
  if x1 ≤ q2 then (some N) else ((ff_JS_charAt p1 q2 N).bind fun x2 =>
  (ff_W_writeByte p0 x2 N).bind fun M1 =>
  (some (q2 + (1 : Int32))).bind fun x3 =>
  rec x3 M1)
def lf_W_writeText_2 (p0 : Nat) (p1 : Nat) : Nat → Int32 → mm_T → Option (mm_T)
  | 0, _, _ => none
  | fu + 1, q2, N => lb_W_writeText_2 p0 p1 (lf_W_writeText_2 p0 p1 fu) q2 N
def ff_W_writeText (t : Nat) (a1 : Nat) (M : mm_T) : Option (mm_T) :=
  gd_G M t 9 (
  lf_W_writeText_2  t a1 fu_L (0 : Int32) M)

def ff_W_writeVariable (t : Nat) (a1 : Int32) (M : mm_T) : Option (mm_T) :=
  gd_G M t 9 (
  (ff_W_writeByte t (32 : Int32) M).bind fun M1 =>
  (ff_W_writeByte t ((97 : Int32) + a1) M1).bind fun M2 =>
  some M2)

def ff_W_writeNumber (t : Nat) (a1 : Int32) (M : mm_T) : Option (mm_T) :=
  gd_G M t 9 (
  (ff_W_writeByte t (32 : Int32) M).bind fun M1 =>
  jp_J (α := mm_T → Option (mm_T)) (fun  (M2 : mm_T) => jp_J (α := mm_T → Option (mm_T)) (fun  (M3 : mm_T) => (io_remG a1 (10 : Int32)).bind fun x1 =>
  (ff_W_writeByte t ((48 : Int32) + x1) M3).bind fun M4 =>
  some M4) fun j43 =>
  if a1 < (10 : Int32) then (j43 M2) else ((io_divG a1 (10 : Int32)).bind fun x2 =>
  (io_remG x2 (10 : Int32)).bind fun x3 =>
  (ff_W_writeByte t ((48 : Int32) + x3) M2).bind fun M5 =>
  j43 M5)) fun j23 =>
  if a1 < (100 : Int32) then (j23 M1) else ((io_divG a1 (100 : Int32)).bind fun x4 =>
  (ff_W_writeByte t ((48 : Int32) + x4) M1).bind fun M6 =>
  j23 M6))

def ff_W_writeOperator (t : Nat) (a1 : Int32) (M : mm_T) : Option (mm_T) :=
  gd_G M t 9 (
  if a1 = 0 then ((ff_W_writeText t (st_B + 25) M).bind fun M2 =>
  some M2) else (jp_J (α := Nat → Option (mm_T)) (fun (x1 : Nat) => (ff_W_writeText t x1 M).bind fun M1 =>
  some M1) fun j26 =>
  if a1 = (1 : Int32) then (j26 ((st_B + 26))) else (j26 ((st_B + 27)))))

def ff_W_writeInstruction (t : Nat) (a1 : Int32) (M : mm_T) : Option (mm_T) :=
  gd_G M t 9 (
  (ff_O_kind a1 M).bind fun x1 =>
  jp_J (α := mm_T → Option (mm_T)) (fun  (M1 : mm_T) => (ff_W_writeByte t (59 : Int32) M1).bind fun M2 =>
  some M2) fun j124 =>
  if x1 = 0 then ((ff_W_writeText t (st_B + 2) M).bind fun M13 =>
  (ff_O_target a1 M13).bind fun x9 =>
  (ff_W_writeVariable t x9 M13).bind fun M14 =>
  (ff_O_constant a1 M14).bind fun x10 =>
  (ff_W_writeNumber t x10 M14).bind fun M15 =>
  j124 M15) else (if x1 = (1 : Int32) then ((ff_W_writeText t (st_B + 3) M).bind fun M10 =>
  (ff_O_target a1 M10).bind fun x7 =>
  (ff_W_writeVariable t x7 M10).bind fun M11 =>
  (ff_O_left a1 M11).bind fun x8 =>
  (ff_W_writeVariable t x8 M11).bind fun M12 =>
  j124 M12) else (if x1 = (2 : Int32) then ((ff_W_writeText t (st_B + 4) M).bind fun M5 =>
  (ff_O_target a1 M5).bind fun x3 =>
  (ff_W_writeVariable t x3 M5).bind fun M6 =>
  (ff_O_left a1 M6).bind fun x4 =>
  (ff_W_writeVariable t x4 M6).bind fun M7 =>
  (ff_O_operator a1 M7).bind fun x5 =>
  (ff_W_writeOperator t x5 M7).bind fun M8 =>
  (ff_O_right a1 M8).bind fun x6 =>
  (ff_W_writeVariable t x6 M8).bind fun M9 =>
  j124 M9) else ((ff_W_writeText t (st_B + 5) M).bind fun M3 =>
  (ff_O_left a1 M3).bind fun x2 =>
  (ff_W_writeVariable t x2 M3).bind fun M4 =>
  j124 M4))))

def ff_W_writeExit (t : Nat) (a1 : Nat) (a2 : Int32) (M : mm_T) : Option (mm_T) :=
  gd_G M t 9 (
  (ff_P_wayCount a1 a2 M).bind fun x1 =>
  jp_J (α := mm_T → Option (mm_T)) (fun  (M1 : mm_T) => (ff_W_writeByte t (59 : Int32) M1).bind fun M2 =>
  some M2) fun j78 =>
  if x1 = 0 then ((ff_W_writeText t (st_B + 9) M).bind fun M9 =>
  j78 M9) else (if x1 = (1 : Int32) then ((ff_W_writeText t (st_B + 10) M).bind fun M7 =>
  (ff_P_wayOf a1 a2 (0 : Int32) M7).bind fun x5 =>
  (ff_W_writeNumber t x5 M7).bind fun M8 =>
  j78 M8) else ((ff_W_writeText t (st_B + 11) M).bind fun M3 =>
  (ff_P_testedBy a1 a2 M3).bind fun x2 =>
  (ff_W_writeVariable t x2 M3).bind fun M4 =>
  (ff_P_wayOf a1 a2 (0 : Int32) M4).bind fun x3 =>
  (ff_W_writeNumber t x3 M4).bind fun M5 =>
  (ff_P_wayOf a1 a2 (1 : Int32) M5).bind fun x4 =>
  (ff_W_writeNumber t x4 M5).bind fun M6 =>
  j78 M6)))

def lb_D_writeBlock_21 (k0 : mm_T → Option ((Int32 ⊕ String) × mm_T)) (p0 : Nat) (p1 : Int32) (rec : Int32 → mm_T → Option ((Int32 ⊕ String) × mm_T)) (q2 : Int32) (N : mm_T) : Option ((Int32 ⊕ String) × mm_T) :=
  (gf_R N p0 10 0).bind fun x4 =>
  (ff_P_endOf x4 p1 N).bind fun x5 =>
  if x5 ≤ q2 then (k0 N) else ((gf_R N p0 10 3).bind fun x6 =>
  (gf_R N p0 10 0).bind fun x7 =>
  (ff_P_word x7 q2 N).bind fun x8 =>
  (ff_W_writeInstruction x6 x8 N).bind fun M2 =>
  (some (q2 + (1 : Int32))).bind fun x9 =>
  rec x9 M2)
def lf_D_writeBlock_21 (k0 : mm_T → Option ((Int32 ⊕ String) × mm_T)) (p0 : Nat) (p1 : Int32) : Nat → Int32 → mm_T → Option ((Int32 ⊕ String) × mm_T)
  | 0, _, _ => none
  | fu + 1, q2, N => lb_D_writeBlock_21 k0 p0 p1 (lf_D_writeBlock_21 k0 p0 p1 fu) q2 N
def ff_D_writeBlock (t : Nat) (a1 : Int32) (M : mm_T) : Option ((Int32 ⊕ String) × mm_T) :=
  gd_G M t 10 (
  rq_X (ff_D_requireBlock t a1 M) M ((gf_R M t 10 3).bind fun x1 =>
  (ff_W_clear x1 M).bind fun M1 =>
  (gf_R M1 t 10 0).bind fun x2 =>
  (ff_P_startOf x2 a1 M1).bind fun x3 =>
  lf_D_writeBlock_21 (fun (M3 : mm_T) => (gf_R M3 t 10 3).bind fun x10 =>
  (gf_R M3 t 10 0).bind fun x11 =>
  (ff_W_writeExit x10 x11 a1 M3).bind fun M4 =>
  (gf_R M4 t 10 3).bind fun x12 =>
  (gf_I M4 x12 9 1).bind fun x13 =>
  some (.inl x13, M4)) t a1 fu_L x3 M1))

def ff_W_byteAt (t : Nat) (a1 : Int32) (M : mm_T) : Option (Int32) :=
  gd_G M t 9 (
  if a1 < 0 then (some (-1 : Int32)) else ((gf_I M t 9 1).bind fun x1 =>
  if x1 ≤ a1 then (some (-1 : Int32)) else ((gf_R M t 9 0).bind fun x2 =>
  (ff_D_at_a x2 a1 M).bind fun x3 =>
  some x3)))

def ff_D_outputByte (t : Nat) (a1 : Int32) (M : mm_T) : Option (Int32) :=
  gd_G M t 10 (
  (gf_R M t 10 3).bind fun x1 =>
  (ff_W_byteAt x1 a1 M).bind fun x2 =>
  some x2)

def ff_H_takeBack (t : Nat) (a1 : Nat) (M : mm_T) : Option (Int32 × mm_T) :=
  gd_G M t 3 (
  (gf_I M t 3 1).bind fun x1 =>
  jp_J (α := Int32 → Option (Int32 × mm_T)) (fun (x2 : Int32) => (gf_I M t 3 2).bind fun x3 =>
  if x3 = 0 then (some ((0 : Int32), M)) else ((gf_R M t 3 0).bind fun x4 =>
  (al_N M x4).bind fun x5 =>
  if x2 < x5 then ((gf_R M t 3 0).bind fun x6 =>
  (ar_R M x6 x2).bind fun x7 =>
  if x7 = 0 then (some ((0 : Int32), M)) else ((ff_P_copyFrom a1 x7 M).bind fun M1 =>
  (pf_I M1 t 3 1 x2).bind fun M2 =>
  (gf_I M2 t 3 2).bind fun x8 =>
  (pf_I M2 t 3 2 (x8 - (1 : Int32))).bind fun M3 =>
  some ((1 : Int32), M3))) else (some ((0 : Int32), M)))) fun j17 =>
  if x1 ≤ 0 then (j17 (5 : Int32)) else ((gf_I M t 3 1).bind fun x9 =>
  j17 ((x9 - (1 : Int32)))))

def ff_D_undo (t : Nat) (M : mm_T) : Option ((Int32 ⊕ String) × mm_T) :=
  gd_G M t 10 (
  (gf_R M t 10 4).bind fun x1 =>
  (gf_R M t 10 0).bind fun x2 =>
  bd_2 (ff_H_takeBack x1 x2 M) fun x3 M1 =>
  if x3 = 0 then (some (.inr "java/lang/IllegalStateException", mm_ex M1)) else ((ff_D_forgetAnalyses t M1).bind fun M2 =>
  (gf_R M2 t 10 4).bind fun x4 =>
  (gf_I M2 x4 3 2).bind fun x5 =>
  some (.inl x5, M2)))

def ff_D_saveSnapshot (t : Nat) (a1 : Int32) (M : mm_T) : Option ((Unit ⊕ String) × mm_T) :=
  gd_G M t 10 (
  jp_J (α := Option ((Unit ⊕ String) × mm_T)) (some (.inr "java/lang/IllegalArgumentException", mm_ex M)) fun j13 =>
  if a1 < 0 then (j13) else ((gf_R M t 10 5).bind fun x1 =>
  (al_N M x1).bind fun x2 =>
  if a1 < x2 then ((gf_R M t 10 5).bind fun x3 =>
  (ar_R M x3 a1).bind fun x4 =>
  jp_J (α := Nat → mm_T → Option ((Unit ⊕ String) × mm_T)) (fun (x5 : Nat) (M1 : mm_T) => (gf_R M1 t 10 0).bind fun x6 =>
  (ff_P_copyFrom x5 x6 M1).bind fun M2 =>
  some (.inl (), M2)) fun j50 =>
  if x4 = 0 then (bd_2 (no_C 7 M) fun x7 M3 =>
  (ff_P_init x7 M3).bind fun M4 =>
  (gf_R M4 t 10 5).bind fun x8 =>
  (aw_R M4 x8 a1 x7).bind fun M5 =>
  j50 x7 M5) else (j50 x4 M)) else (j13)))

def ff_D_restoreSnapshot (t : Nat) (a1 : Int32) (M : mm_T) : Option ((Unit ⊕ String) × mm_T) :=
  gd_G M t 10 (
  jp_J (α := Option ((Unit ⊕ String) × mm_T)) (some (.inr "java/lang/IllegalArgumentException", mm_ex M)) fun j13 =>
  if a1 < 0 then (j13) else ((gf_R M t 10 5).bind fun x1 =>
  (al_N M x1).bind fun x2 =>
  if a1 < x2 then ((gf_R M t 10 5).bind fun x3 =>
  (ar_R M x3 a1).bind fun x4 =>
  if x4 = 0 then (some (.inr "java/lang/IllegalStateException", mm_ex M)) else ((ff_D_replaceProgram t x4 M).bind fun M1 =>
  some (.inl (), M1))) else (j13)))

def ff_M_get (t : Nat) (a1 : Int32) (M : mm_T) : Option (Int32) :=
  gd_G M t 11 (
  (gf_R M t 11 0).bind fun x1 =>
  (gf_I M t 11 2).bind fun x2 =>
  (ar_I M x1 (((262 : Int32) * x2) + a1)).bind fun x3 =>
  some x3)

def ff_M_lay (t : Nat) (a1 : Int32) (a2 : Int32) (M : mm_T) : Option (mm_T) :=
  gd_G M t 11 (
  (gf_R M t 11 0).bind fun x1 =>
  (gf_I M t 11 2).bind fun x2 =>
  (aw_I M x1 (((262 : Int32) * x2) + a1) a2).bind fun M1 =>
  some M1)

def ff_M_layBlock (t : Nat) (a1 : Int32) (a2 : Int32) (a3 : Int32) (M : mm_T) : Option (mm_T) :=
  gd_G M t 11 (
  (ff_M_lay t (((2 : Int32) + ((5 : Int32) * a1)) + a2) a3 M).bind fun M1 =>
  some M1)

def ff_M_newBlock (t : Nat) (M : mm_T) : Option (mm_T) :=
  gd_G M t 11 (
  (ff_M_get t (0 : Int32) M).bind fun x1 =>
  (ff_M_layBlock t x1 (0 : Int32) (0 : Int32) M).bind fun M1 =>
  (ff_M_get t (0 : Int32) M1).bind fun x2 =>
  (ff_M_lay t (0 : Int32) (x2 + (1 : Int32)) M1).bind fun M2 =>
  some M2)

def ff_M_layItem (t : Nat) (a1 : Int32) (a2 : Int32) (a3 : Int32) (M : mm_T) : Option (mm_T) :=
  gd_G M t 11 (
  (ff_M_lay t (((62 : Int32) + ((5 : Int32) * a1)) + a2) a3 M).bind fun M1 =>
  some M1)

def ff_M_writes (t : Nat) (a1 : Int32) (a2 : Int32) (a3 : Int32) (a4 : Int32) (a5 : Int32) (a6 : Int32) (M : mm_T) : Option (mm_T) :=
  gd_G M t 11 (
  (ff_M_layItem t a1 (0 : Int32) a2 M).bind fun M1 =>
  (ff_M_layItem t a1 (1 : Int32) a3 M1).bind fun M2 =>
  (ff_M_layItem t a1 (2 : Int32) a4 M2).bind fun M3 =>
  (ff_M_layItem t a1 (3 : Int32) a5 M3).bind fun M4 =>
  (ff_M_layItem t a1 (4 : Int32) a6 M4).bind fun M5 =>
  some M5)

def ff_M_bl (t : Nat) (a1 : Int32) (a2 : Int32) (M : mm_T) : Option (Int32) :=
  gd_G M t 11 (
  (ff_M_get t (((2 : Int32) + ((5 : Int32) * a1)) + a2) M).bind fun x1 =>
  some x1)

def ff_M_newItem (t : Nat) (a1 : Int32) (a2 : Int32) (a3 : Int32) (a4 : Int32) (a5 : Int32) (M : mm_T) : Option (mm_T) :=
  gd_G M t 11 (
  (ff_M_get t (1 : Int32) M).bind fun x1 =>
  (ff_M_writes t x1 a1 a2 a3 a4 a5 M).bind fun M1 =>
  (ff_M_get t (1 : Int32) M1).bind fun x2 =>
  (ff_M_lay t (1 : Int32) (x2 + (1 : Int32)) M1).bind fun M2 =>
  (ff_M_get t (0 : Int32) M2).bind fun x3 =>
  (some (x3 - (1 : Int32))).bind fun x4 =>
  (ff_M_bl t x4 (0 : Int32) M2).bind fun x5 =>
  (ff_M_layBlock t x4 (0 : Int32) (x5 + (1 : Int32)) M2).bind fun M3 =>
  some M3)

def ff_M_exits (t : Nat) (a1 : Int32) (a2 : Int32) (a3 : Int32) (a4 : Int32) (a5 : Int32) (M : mm_T) : Option (mm_T) :=
  gd_G M t 11 (
  (ff_M_layBlock t a1 (1 : Int32) a2 M).bind fun M1 =>
  (ff_M_layBlock t a1 (2 : Int32) a3 M1).bind fun M2 =>
  (ff_M_layBlock t a1 (3 : Int32) a4 M2).bind fun M3 =>
  (ff_M_layBlock t a1 (4 : Int32) a5 M3).bind fun M4 =>
  some M4)

def ff_M_init (t : Nat) (M : mm_T) : Option (mm_T) :=
  gd_G M t 11 (
  bd_2 (na_K 20 M (2620 : Int32)) fun x1 M1 =>
  (pf_R M1 t 11 0 x1).bind fun M2 =>
  bd_2 (na_K 22 M2 (2 : Int32)) fun x2 M3 =>
  (pf_R M3 t 11 1 x2).bind fun M4 =>
  bd_2 (na_K 22 M4 (12 : Int32)) fun x3 M5 =>
  (pf_R M5 t 11 5 x3).bind fun M6 =>
  bd_2 (na_K 22 M6 (12 : Int32)) fun x4 M7 =>
  (pf_R M7 t 11 6 x4).bind fun M8 =>
  bd_2 (na_K 20 M8 (96 : Int32)) fun x5 M9 =>
  (pf_R M9 t 11 7 x5).bind fun M10 =>
  bd_2 (na_K 20 M10 (8 : Int32)) fun x6 M11 =>
  (pf_R M11 t 11 8 x6).bind fun M12 =>
  bd_2 (na_K 20 M12 (8 : Int32)) fun x7 M13 =>
  (pf_R M13 t 11 9 x7).bind fun M14 =>
  bd_2 (na_K 20 M14 (700 : Int32)) fun x8 M15 =>
  (pf_R M15 t 11 14 x8).bind fun M16 =>
  (pf_I M16 t 11 17 (-1 : Int32)).bind fun M17 =>
  bd_2 (na_K 20 M17 (24 : Int32)) fun x9 M18 =>
  (pf_R M18 t 11 22 x9).bind fun M19 =>
  bd_2 (na_K 20 M19 (1000 : Int32)) fun x10 M20 =>
  (pf_R M20 t 11 23 x10).bind fun M21 =>
  (ff_M_newBlock t M21).bind fun M22 =>
  (ff_M_newItem t (0 : Int32) (0 : Int32) (5 : Int32) (0 : Int32) (0 : Int32) M22).bind fun M23 =>
  (ff_M_newItem t (0 : Int32) (1 : Int32) (1 : Int32) (0 : Int32) (0 : Int32) M23).bind fun M24 =>
  (ff_M_newItem t (0 : Int32) (3 : Int32) (7 : Int32) (0 : Int32) (0 : Int32) M24).bind fun M25 =>
  (ff_M_exits t (0 : Int32) (1 : Int32) (0 : Int32) (1 : Int32) (0 : Int32) M25).bind fun M26 =>
  (ff_M_newBlock t M26).bind fun M27 =>
  (ff_M_newItem t (2 : Int32) (2 : Int32) (0 : Int32) (0 : Int32) (1 : Int32) M27).bind fun M28 =>
  (ff_M_exits t (1 : Int32) (2 : Int32) (0 : Int32) (2 : Int32) (3 : Int32) M28).bind fun M29 =>
  (ff_M_newBlock t M29).bind fun M30 =>
  (ff_M_newItem t (2 : Int32) (0 : Int32) (0 : Int32) (1 : Int32) (1 : Int32) M30).bind fun M31 =>
  (ff_M_newItem t (2 : Int32) (4 : Int32) (0 : Int32) (0 : Int32) (1 : Int32) M31).bind fun M32 =>
  (ff_M_exits t (2 : Int32) (1 : Int32) (0 : Int32) (1 : Int32) (0 : Int32) M32).bind fun M33 =>
  (ff_M_newBlock t M33).bind fun M34 =>
  (ff_M_newItem t (3 : Int32) (0 : Int32) (2 : Int32) (0 : Int32) (0 : Int32) M34).bind fun M35 =>
  (ff_M_newItem t (1 : Int32) (5 : Int32) (3 : Int32) (0 : Int32) (0 : Int32) M35).bind fun M36 =>
  (ff_M_exits t (3 : Int32) (0 : Int32) (0 : Int32) (0 : Int32) (0 : Int32) M36).bind fun M37 =>
  some M37)

def ff_M_thrown (t : Nat) (M : mm_T) : Option (Int32) :=
  gd_G M t 11 (
  (gf_I M t 11 4).bind fun x1 =>
  some x1)

def lb_M_copies_2 (p0 : Nat) (p1 : Int32) (p2 : Int32) (rec : Int32 → mm_T → Option (mm_T)) (q3 : Int32) (N : mm_T) : Option (mm_T) :=
  if (262 : Int32) ≤ q3 then (some N) else ((gf_R N p0 11 0).bind fun x1 =>
  (gf_R N p0 11 0).bind fun x2 =>
  (ar_I N x2 (((262 : Int32) * p1) + q3)).bind fun x3 =>
  (aw_I N x1 (((262 : Int32) * p2) + q3) x3).bind fun M1 =>
  (some (q3 + (1 : Int32))).bind fun x4 =>
  rec x4 M1)
def lf_M_copies_2 (p0 : Nat) (p1 : Int32) (p2 : Int32) : Nat → Int32 → mm_T → Option (mm_T)
  | 0, _, _ => none
  | fu + 1, q3, N => lb_M_copies_2 p0 p1 p2 (lf_M_copies_2 p0 p1 p2 fu) q3 N
def ff_M_copies (t : Nat) (a1 : Int32) (a2 : Int32) (M : mm_T) : Option (mm_T) :=
  gd_G M t 11 (
  lf_M_copies_2  t a1 a2 fu_L (0 : Int32) M)

def ff_M_in (a1 : Int32) (a2 : Int32) (a3 : Int32) (M : mm_T) : Option (Int32) :=
  if a1 < a2 then (some (0 : Int32)) else (if a3 < a1 then (some (0 : Int32)) else (some (1 : Int32)))

def ff_M_one (a1 : Int32) (M : mm_T) : Option (Int32) :=
  if a1 = 0 then (some (0 : Int32)) else (some (1 : Int32))

def ff_M_it (t : Nat) (a1 : Int32) (a2 : Int32) (M : mm_T) : Option (Int32) :=
  gd_G M t 11 (
  (ff_M_get t (((62 : Int32) + ((5 : Int32) * a1)) + a2) M).bind fun x1 =>
  some x1)

def lb_M_firstOf_4 (p0 : Nat) (p1 : Int32) (M : mm_T) (rec : Int32 → Int32 → Option (Int32)) (q2 : Int32) (q3 : Int32) : Option (Int32) :=
  if p1 ≤ q3 then (some q2) else ((ff_M_bl p0 q3 (0 : Int32) M).bind fun x1 =>
  (some (q2 + x1)).bind fun x2 =>
  (some (q3 + (1 : Int32))).bind fun x3 =>
  rec x2 x3)
def lf_M_firstOf_4 (p0 : Nat) (p1 : Int32) (M : mm_T) : Nat → Int32 → Int32 → Option (Int32)
  | 0, _, _ => none
  | fu + 1, q2, q3 => lb_M_firstOf_4 p0 p1 M (lf_M_firstOf_4 p0 p1 M fu) q2 q3
def ff_M_firstOf (t : Nat) (a1 : Int32) (M : mm_T) : Option (Int32) :=
  gd_G M t 11 (
  lf_M_firstOf_4  t a1 M fu_L (0 : Int32) (0 : Int32))

def ff_M_endOf (t : Nat) (a1 : Int32) (M : mm_T) : Option (Int32) :=
  gd_G M t 11 (
  (ff_M_firstOf t a1 M).bind fun x1 =>
  (ff_M_bl t a1 (0 : Int32) M).bind fun x2 =>
  some (x1 + x2))

def lb_M_blockAt_2 (p0 : Nat) (p1 : Int32) (M : mm_T) (rec : Int32 → Option (Int32)) (q2 : Int32) : Option (Int32) :=
  (ff_M_endOf p0 q2 M).bind fun x1 =>
  if p1 < x1 then (some q2) else ((some (q2 + (1 : Int32))).bind fun x2 =>
  rec x2)
def lf_M_blockAt_2 (p0 : Nat) (p1 : Int32) (M : mm_T) : Nat → Int32 → Option (Int32)
  | 0, _ => none
  | fu + 1, q2 => lb_M_blockAt_2 p0 p1 M (lf_M_blockAt_2 p0 p1 M fu) q2
def ff_M_blockAt (t : Nat) (a1 : Int32) (M : mm_T) : Option (Int32) :=
  gd_G M t 11 (
  lf_M_blockAt_2  t a1 M fu_L (0 : Int32))

def ff_M_ways (t : Nat) (a1 : Int32) (M : mm_T) : Option (Int32) :=
  gd_G M t 11 (
  (ff_M_bl t a1 (1 : Int32) M).bind fun x1 =>
  some x1)

def ff_M_way (t : Nat) (a1 : Int32) (a2 : Int32) (M : mm_T) : Option (Int32) :=
  gd_G M t 11 (
  jp_J (α := Int32 → Option (Int32)) (fun (x1 : Int32) => (ff_M_bl t a1 x1 M).bind fun x2 =>
  some x2) fun j11 =>
  if a2 = 0 then (j11 (3 : Int32)) else (j11 (4 : Int32)))

def lb_M_leads_2 (p0 : Nat) (p1 : Int32) (p2 : Int32) (M : mm_T) (rec : Int32 → Option (Int32)) (q3 : Int32) : Option (Int32) :=
  (ff_M_ways p0 p1 M).bind fun x1 =>
  if x1 ≤ q3 then (some (0 : Int32)) else ((ff_M_way p0 p1 q3 M).bind fun x2 =>
  if x2 = p2 then (some (1 : Int32)) else ((some (q3 + (1 : Int32))).bind fun x3 =>
  rec x3))
def lf_M_leads_2 (p0 : Nat) (p1 : Int32) (p2 : Int32) (M : mm_T) : Nat → Int32 → Option (Int32)
  | 0, _ => none
  | fu + 1, q3 => lb_M_leads_2 p0 p1 p2 M (lf_M_leads_2 p0 p1 p2 M fu) q3
def ff_M_leads (t : Nat) (a1 : Int32) (a2 : Int32) (M : mm_T) : Option (Int32) :=
  gd_G M t 11 (
  lf_M_leads_2  t a1 a2 M fu_L (0 : Int32))

def ff_M_isDefinition (t : Nat) (a1 : Int32) (M : mm_T) : Option (Int32) :=
  gd_G M t 11 (
  (ff_M_it t a1 (0 : Int32) M).bind fun x1 =>
  if x1 = (3 : Int32) then (some (0 : Int32)) else (some (1 : Int32)))

def ff_M_defines (t : Nat) (a1 : Int32) (a2 : Int32) (M : mm_T) : Option (Int32) :=
  gd_G M t 11 (
  (ff_M_isDefinition t a1 M).bind fun x1 =>
  if x1 = 0 then (some (0 : Int32)) else ((ff_M_it t a1 (1 : Int32) M).bind fun x2 =>
  if x2 = a2 then (some (1 : Int32)) else (some (0 : Int32))))

def ff_M_uses (t : Nat) (a1 : Int32) (a2 : Int32) (M : mm_T) : Option (Int32) :=
  gd_G M t 11 (
  (ff_M_it t a1 (0 : Int32) M).bind fun x1 =>
  if x1 = (0 : Int32) then (some (0 : Int32)) else (if x1 = (2 : Int32) then ((ff_M_it t a1 (2 : Int32) M).bind fun x2 =>
  jp_J (α := Option (Int32)) (some (1 : Int32)) fun j54 =>
  if x2 = a2 then (j54) else ((ff_M_it t a1 (4 : Int32) M).bind fun x3 =>
  if x3 = a2 then (j54) else (some (0 : Int32)))) else (((ff_M_it t a1 (2 : Int32) M).bind fun x4 =>
  if x4 = a2 then (some (1 : Int32)) else (some (0 : Int32))))))

def ff_M_usesAtExit (t : Nat) (a1 : Int32) (a2 : Int32) (M : mm_T) : Option (Int32) :=
  gd_G M t 11 (
  (ff_M_bl t a1 (1 : Int32) M).bind fun x1 =>
  if x1 = (2 : Int32) then ((ff_M_bl t a1 (2 : Int32) M).bind fun x2 =>
  if x2 = a2 then (some (1 : Int32)) else (some (0 : Int32))) else (some (0 : Int32)))

def lb_M_definesWithin_3 (p0 : Nat) (p2 : Int32) (p3 : Int32) (M : mm_T) (rec : Int32 → Option (Int32)) (q4 : Int32) : Option (Int32) :=
  if p2 ≤ q4 then (some (0 : Int32)) else ((ff_M_defines p0 q4 p3 M).bind fun x1 =>
  if x1 = 0 then ((some (q4 + (1 : Int32))).bind fun x2 =>
  rec x2) else (some (1 : Int32)))
def lf_M_definesWithin_3 (p0 : Nat) (p2 : Int32) (p3 : Int32) (M : mm_T) : Nat → Int32 → Option (Int32)
  | 0, _ => none
  | fu + 1, q4 => lb_M_definesWithin_3 p0 p2 p3 M (lf_M_definesWithin_3 p0 p2 p3 M fu) q4
def ff_M_definesWithin (t : Nat) (a1 : Int32) (a2 : Int32) (a3 : Int32) (M : mm_T) : Option (Int32) :=
  gd_G M t 11 (
  lf_M_definesWithin_3  t a2 a3 M fu_L a1)

def lb_M_forgets_2 (p0 : Nat) (rec : Int32 → mm_T → Option (mm_T)) (q1 : Int32) (N : mm_T) : Option (mm_T) :=
  if (12 : Int32) ≤ q1 then (some N) else ((gf_R N p0 11 5).bind fun x1 =>
  (aw_Z N x1 q1 (0 : Int32)).bind fun M1 =>
  (some (q1 + (1 : Int32))).bind fun x2 =>
  rec x2 M1)
def lf_M_forgets_2 (p0 : Nat) : Nat → Int32 → mm_T → Option (mm_T)
  | 0, _, _ => none
  | fu + 1, q1, N => lb_M_forgets_2 p0 (lf_M_forgets_2 p0 fu) q1 N
def ff_M_forgets (t : Nat) (M : mm_T) : Option (mm_T) :=
  gd_G M t 11 (
  lf_M_forgets_2  t fu_L (0 : Int32) M)

def lb_M_walks_49 (rcf : Nat → Int32 → Int32 → Int32 → mm_T → Option (mm_T)) (p0 : Nat) (p1 : Int32) (p2 : Int32) (p3 : Int32) (rec : Int32 → mm_T → Option (mm_T)) (q4 : Int32) (N : mm_T) : Option (mm_T) :=
  (ff_M_ways p0 p1 N).bind fun x4 =>
  if x4 ≤ q4 then (some N) else ((ff_M_way p0 p1 q4 N).bind fun x5 =>
  (rcf p0 x5 p2 p3 N).bind fun M2 =>
  (some (q4 + (1 : Int32))).bind fun x6 =>
  rec x6 M2)
def lf_M_walks_49 (rcf : Nat → Int32 → Int32 → Int32 → mm_T → Option (mm_T)) (p0 : Nat) (p1 : Int32) (p2 : Int32) (p3 : Int32) : Nat → Int32 → mm_T → Option (mm_T)
  | 0, _, _ => none
  | fu + 1, q4, N => lb_M_walks_49 rcf p0 p1 p2 p3 (lf_M_walks_49 rcf p0 p1 p2 p3 fu) q4 N
def fb_M_walks (rcf : Nat → Int32 → Int32 → Int32 → mm_T → Option (mm_T)) (t : Nat) (a1 : Int32) (a2 : Int32) (a3 : Int32) (M : mm_T) : Option (mm_T) :=
  gd_G M t 11 (
  (gf_R M t 11 5).bind fun x1 =>
  (ar_Z M x1 a1).bind fun x2 =>
  if x2 = 0 then (if a1 = a3 then (some M) else ((gf_R M t 11 5).bind fun x3 =>
  (aw_Z M x3 a1 (1 : Int32)).bind fun M1 =>
  jp_J (α := Option (mm_T)) (lf_M_walks_49 rcf  t a1 a2 a3 fu_L (0 : Int32) M1) fun j46 =>
  if a2 = (-1 : Int32) then (j46) else ((ff_M_firstOf t a1 M1).bind fun x7 =>
  (ff_M_endOf t a1 M1).bind fun x8 =>
  (ff_M_definesWithin t x7 x8 a2 M1).bind fun x9 =>
  if x9 = 0 then (j46) else (some M1)))) else (some M))

def ff_M_walks : Nat → Nat → Int32 → Int32 → Int32 → mm_T → Option (mm_T)
  | 0, _, _, _, _, _ => none
  | d + 1, t, a1, a2, a3, M => fb_M_walks (ff_M_walks d) t a1 a2 a3 M

def ff_M_isReached (t : Nat) (a1 : Int32) (a2 : Int32) (M : mm_T) : Option (Int32 × mm_T) :=
  gd_G M t 11 (
  (ff_M_forgets t M).bind fun M1 =>
  (ff_M_walks 13 t (0 : Int32) (-1 : Int32) a2 M1).bind fun M2 =>
  (gf_R M2 t 11 5).bind fun x1 =>
  (ar_Z M2 x1 a1).bind fun x2 =>
  (zb_Z x2).bind fun w => some (w, M2))

def lb_M_reachedCount_15 (p0 : Nat) (M : mm_T) (rec : Int32 → Int32 → Option (Int32 × mm_T)) (q1 : Int32) (q2 : Int32) : Option (Int32 × mm_T) :=
  (ff_M_get p0 (0 : Int32) M).bind fun x1 =>
  if x1 ≤ q2 then (some (q1, M)) else ((gf_R M p0 11 5).bind fun x2 =>
  (ar_Z M x2 q2).bind fun x3 =>
  (ff_M_one x3 M).bind fun x4 =>
  (some (q1 + x4)).bind fun x5 =>
  (some (q2 + (1 : Int32))).bind fun x6 =>
  rec x5 x6)
def lf_M_reachedCount_15 (p0 : Nat) (M : mm_T) : Nat → Int32 → Int32 → Option (Int32 × mm_T)
  | 0, _, _ => none
  | fu + 1, q1, q2 => lb_M_reachedCount_15 p0 M (lf_M_reachedCount_15 p0 M fu) q1 q2
def ff_M_reachedCount (t : Nat) (M : mm_T) : Option (Int32 × mm_T) :=
  gd_G M t 11 (
  (ff_M_forgets t M).bind fun M1 =>
  (ff_M_walks 13 t (0 : Int32) (-1 : Int32) (-1 : Int32) M1).bind fun M2 =>
  lf_M_reachedCount_15  t M2 fu_L (0 : Int32) (0 : Int32))

def lb_M_reachesStart_48 (k0 : mm_T → Option (Int32 × mm_T)) (p0 : Nat) (p2 : Int32) (p3 : Int32) (p4 : Int32) (rec : Int32 → mm_T → Option (Int32 × mm_T)) (q5 : Int32) (N : mm_T) : Option (Int32 × mm_T) :=
  (ff_M_ways p0 p3 N).bind fun x6 =>
  if x6 ≤ q5 then (k0 N) else ((ff_M_way p0 p3 q5 N).bind fun x7 =>
  (ff_M_walks 13 p0 x7 p4 (-1 : Int32) N).bind fun M2 =>
  (some (q5 + (1 : Int32))).bind fun x8 =>
  rec x8 M2)
def lf_M_reachesStart_48 (k0 : mm_T → Option (Int32 × mm_T)) (p0 : Nat) (p2 : Int32) (p3 : Int32) (p4 : Int32) : Nat → Int32 → mm_T → Option (Int32 × mm_T)
  | 0, _, _ => none
  | fu + 1, q5, N => lb_M_reachesStart_48 k0 p0 p2 p3 p4 (lf_M_reachesStart_48 k0 p0 p2 p3 p4 fu) q5 N
def ff_M_reachesStart (t : Nat) (a1 : Int32) (a2 : Int32) (M : mm_T) : Option (Int32 × mm_T) :=
  gd_G M t 11 (
  (ff_M_blockAt t a1 M).bind fun x1 =>
  (ff_M_it t a1 (1 : Int32) M).bind fun x2 =>
  (ff_M_isDefinition t a1 M).bind fun x3 =>
  if x3 = 0 then (some ((0 : Int32), M)) else ((ff_M_endOf t x1 M).bind fun x4 =>
  (ff_M_definesWithin t (a1 + (1 : Int32)) x4 x2 M).bind fun x5 =>
  if x5 = 0 then ((ff_M_forgets t M).bind fun M1 =>
  lf_M_reachesStart_48 (fun (M3 : mm_T) => (gf_R M3 t 11 5).bind fun x9 =>
  (ar_Z M3 x9 a2).bind fun x10 =>
  (zb_Z x10).bind fun w => some (w, M3)) t a2 x1 x2 fu_L (0 : Int32) M1) else (some ((0 : Int32), M))))

def ff_M_reachesPlace (t : Nat) (a1 : Int32) (a2 : Int32) (a3 : Int32) (M : mm_T) : Option (Int32 × mm_T) :=
  gd_G M t 11 (
  (ff_M_it t a1 (1 : Int32) M).bind fun x1 =>
  (ff_M_isDefinition t a1 M).bind fun x2 =>
  if x2 = 0 then (some ((0 : Int32), M)) else ((ff_M_firstOf t a2 M).bind fun x3 =>
  (ff_M_in a1 x3 (a3 - (1 : Int32)) M).bind fun x4 =>
  jp_J (α := Option (Int32 × mm_T)) ((ff_M_firstOf t a2 M).bind fun x5 =>
  (ff_M_definesWithin t x5 a3 x1 M).bind fun x6 =>
  if x6 = 0 then (bd_2 (ff_M_reachesStart t a1 a2 M) fun x7 M1 =>
  if x7 = 0 then (some ((0 : Int32), M1)) else (some ((1 : Int32), M1))) else (some ((0 : Int32), M))) fun j48 =>
  if x4 = 0 then (j48) else ((ff_M_definesWithin t (a1 + (1 : Int32)) a3 x1 M).bind fun x8 =>
  if x8 = 0 then (some ((1 : Int32), M)) else (j48))))

def ff_M_isFirstAt (t : Nat) (a1 : Int32) (a2 : Int32) (M : mm_T) : Option (Int32 × mm_T) :=
  gd_G M t 11 (
  (ff_M_forgets t M).bind fun M1 =>
  (ff_M_walks 13 t (0 : Int32) a2 (-1 : Int32) M1).bind fun M2 =>
  (gf_R M2 t 11 5).bind fun x1 =>
  (ar_Z M2 x1 a1).bind fun x2 =>
  (zb_Z x2).bind fun w => some (w, M2))

def ff_M_isFirstAtPlace (t : Nat) (a1 : Int32) (a2 : Int32) (a3 : Int32) (M : mm_T) : Option (Int32 × mm_T) :=
  gd_G M t 11 (
  (ff_M_firstOf t a1 M).bind fun x1 =>
  (ff_M_definesWithin t x1 a2 a3 M).bind fun x2 =>
  if x2 = 0 then (bd_2 (ff_M_isFirstAt t a1 a3 M) fun x3 M1 =>
  if x3 = 0 then (some ((0 : Int32), M1)) else (some ((1 : Int32), M1))) else (some ((0 : Int32), M)))

def lb_M_fate_3 (k0 : Option (Int32)) (p0 : Nat) (p1 : Int32) (p3 : Int32) (M : mm_T) (rec : Int32 → Option (Int32)) (q4 : Int32) : Option (Int32) :=
  (ff_M_endOf p0 p1 M).bind fun x1 =>
  if x1 ≤ q4 then (k0) else ((ff_M_uses p0 q4 p3 M).bind fun x2 =>
  if x2 = 0 then ((ff_M_defines p0 q4 p3 M).bind fun x3 =>
  if x3 = 0 then ((some (q4 + (1 : Int32))).bind fun x4 =>
  rec x4) else (some (0 : Int32))) else (some (1 : Int32)))
def lf_M_fate_3 (k0 : Option (Int32)) (p0 : Nat) (p1 : Int32) (p3 : Int32) (M : mm_T) : Nat → Int32 → Option (Int32)
  | 0, _ => none
  | fu + 1, q4 => lb_M_fate_3 k0 p0 p1 p3 M (lf_M_fate_3 k0 p0 p1 p3 M fu) q4
def ff_M_fate (t : Nat) (a1 : Int32) (a2 : Int32) (a3 : Int32) (M : mm_T) : Option (Int32) :=
  gd_G M t 11 (
  lf_M_fate_3 ((ff_M_usesAtExit t a1 a3 M).bind fun x5 =>
  if x5 = 0 then (some (-1 : Int32)) else (some (1 : Int32))) t a1 a3 M fu_L a2)

def lb_M_isUsedFrom_49 (rcf : Nat → Int32 → Int32 → mm_T → Option (Int32 × mm_T)) (p0 : Nat) (p1 : Int32) (p2 : Int32) (rec : Int32 → mm_T → Option (Int32 × mm_T)) (q4 : Int32) (N : mm_T) : Option (Int32 × mm_T) :=
  (ff_M_ways p0 p1 N).bind fun x6 =>
  if x6 ≤ q4 then (some ((0 : Int32), N)) else ((ff_M_way p0 p1 q4 N).bind fun x7 =>
  bd_2 (rcf p0 x7 p2 N) fun x8 M2 =>
  if x8 = 0 then ((some (q4 + (1 : Int32))).bind fun x9 =>
  rec x9 M2) else (some ((1 : Int32), M2)))
def lf_M_isUsedFrom_49 (rcf : Nat → Int32 → Int32 → mm_T → Option (Int32 × mm_T)) (p0 : Nat) (p1 : Int32) (p2 : Int32) : Nat → Int32 → mm_T → Option (Int32 × mm_T)
  | 0, _, _ => none
  | fu + 1, q4, N => lb_M_isUsedFrom_49 rcf p0 p1 p2 (lf_M_isUsedFrom_49 rcf p0 p1 p2 fu) q4 N
def fb_M_isUsedFrom (rcf : Nat → Int32 → Int32 → mm_T → Option (Int32 × mm_T)) (t : Nat) (a1 : Int32) (a2 : Int32) (M : mm_T) : Option (Int32 × mm_T) :=
  gd_G M t 11 (
  (gf_R M t 11 5).bind fun x1 =>
  (ar_Z M x1 a1).bind fun x2 =>
  if x2 = 0 then ((gf_R M t 11 5).bind fun x3 =>
  (aw_Z M x3 a1 (1 : Int32)).bind fun M1 =>
  (ff_M_firstOf t a1 M1).bind fun x4 =>
  (ff_M_fate t a1 x4 a2 M1).bind fun x5 =>
  if x5 = (-1 : Int32) then (lf_M_isUsedFrom_49 rcf  t a1 a2 fu_L (0 : Int32) M1) else (if x5 = (1 : Int32) then (some ((1 : Int32), M1)) else (some ((0 : Int32), M1)))) else (some ((0 : Int32), M)))

def ff_M_isUsedFrom : Nat → Nat → Int32 → Int32 → mm_T → Option (Int32 × mm_T)
  | 0, _, _, _, _ => none
  | d + 1, t, a1, a2, M => fb_M_isUsedFrom (ff_M_isUsedFrom d) t a1 a2 M

def lb_M_isLiveBehind_6 (p0 : Nat) (p1 : Int32) (p2 : Int32) (rec : Int32 → mm_T → Option (Int32 × mm_T)) (q3 : Int32) (N : mm_T) : Option (Int32 × mm_T) :=
  (ff_M_ways p0 p1 N).bind fun x1 =>
  if x1 ≤ q3 then (some ((0 : Int32), N)) else ((ff_M_way p0 p1 q3 N).bind fun x2 =>
  bd_2 (ff_M_isUsedFrom 13 p0 x2 p2 N) fun x3 M2 =>
  if x3 = 0 then ((some (q3 + (1 : Int32))).bind fun x4 =>
  rec x4 M2) else (some ((1 : Int32), M2)))
def lf_M_isLiveBehind_6 (p0 : Nat) (p1 : Int32) (p2 : Int32) : Nat → Int32 → mm_T → Option (Int32 × mm_T)
  | 0, _, _ => none
  | fu + 1, q3, N => lb_M_isLiveBehind_6 p0 p1 p2 (lf_M_isLiveBehind_6 p0 p1 p2 fu) q3 N
def ff_M_isLiveBehind (t : Nat) (a1 : Int32) (a2 : Int32) (M : mm_T) : Option (Int32 × mm_T) :=
  gd_G M t 11 (
  (ff_M_forgets t M).bind fun M1 =>
  lf_M_isLiveBehind_6  t a1 a2 fu_L (0 : Int32) M1)

def ff_M_isLiveAt (t : Nat) (a1 : Int32) (a2 : Int32) (a3 : Int32) (M : mm_T) : Option (Int32 × mm_T) :=
  gd_G M t 11 (
  (ff_M_fate t a1 a2 a3 M).bind fun x1 =>
  if x1 = (-1 : Int32) then (bd_2 (ff_M_isLiveBehind t a1 a3 M) fun x2 M1 =>
  (zb_Z x2).bind fun w => some (w, M1)) else (if x1 = (1 : Int32) then (some ((1 : Int32), M)) else (some ((0 : Int32), M))))

def lb_M_liveAt_5 (p0 : Nat) (p1 : Int32) (p2 : Int32) (rec : Int32 → Int32 → mm_T → Option (Int32 × mm_T)) (q3 : Int32) (q4 : Int32) (N : mm_T) : Option (Int32 × mm_T) :=
  if (8 : Int32) ≤ q4 then (some (q3, N)) else (bd_2 (ff_M_isLiveAt p0 p1 p2 q4 N) fun x1 M1 =>
  (ff_M_one x1 M1).bind fun x2 =>
  (some (q3 + x2)).bind fun x3 =>
  (some (q4 + (1 : Int32))).bind fun x4 =>
  rec x3 x4 M1)
def lf_M_liveAt_5 (p0 : Nat) (p1 : Int32) (p2 : Int32) : Nat → Int32 → Int32 → mm_T → Option (Int32 × mm_T)
  | 0, _, _, _ => none
  | fu + 1, q3, q4, N => lb_M_liveAt_5 p0 p1 p2 (lf_M_liveAt_5 p0 p1 p2 fu) q3 q4 N
def ff_M_liveAt (t : Nat) (a1 : Int32) (a2 : Int32) (M : mm_T) : Option (Int32 × mm_T) :=
  gd_G M t 11 (
  lf_M_liveAt_5  t a1 a2 fu_L (0 : Int32) (0 : Int32) M)

def ff_M_isDead0 (t : Nat) (a1 : Int32) (M : mm_T) : Option (Int32 × mm_T) :=
  gd_G M t 11 (
  (ff_M_isDefinition t a1 M).bind fun x1 =>
  if x1 = 0 then (some ((0 : Int32), M)) else ((ff_M_blockAt t a1 M).bind fun x2 =>
  (ff_M_it t a1 (1 : Int32) M).bind fun x3 =>
  bd_2 (ff_M_isLiveAt t x2 (a1 + (1 : Int32)) x3 M) fun x4 M1 =>
  if x4 = 0 then (some ((1 : Int32), M1)) else (some ((0 : Int32), M1))))

def ff_M_isSame (t : Nat) (a1 : Int32) (a2 : Int32) (M : mm_T) : Option (Int32) :=
  gd_G M t 11 (
  (ff_M_it t a2 (0 : Int32) M).bind fun x1 =>
  if x1 = (2 : Int32) then ((ff_M_it t a1 (2 : Int32) M).bind fun x2 =>
  (ff_M_it t a2 (2 : Int32) M).bind fun x3 =>
  if x2 = x3 then ((ff_M_it t a1 (3 : Int32) M).bind fun x4 =>
  (ff_M_it t a2 (3 : Int32) M).bind fun x5 =>
  if x4 = x5 then ((ff_M_it t a1 (4 : Int32) M).bind fun x6 =>
  (ff_M_it t a2 (4 : Int32) M).bind fun x7 =>
  if x6 = x7 then (some (1 : Int32)) else (some (0 : Int32))) else (some (0 : Int32))) else (some (0 : Int32))) else (some (0 : Int32)))

def lb_M_carries_11 (p0 : Nat) (p1 : Int32) (p3 : Int32) (M : mm_T) (rec : Int32 → Int32 → Option (Int32)) (q5 : Int32) (q6 : Int32) : Option (Int32) :=
  if p3 ≤ q6 then ((zb_Z q5).bind fun w => some w) else ((ff_M_isSame p0 p1 q6 M).bind fun x2 =>
  jp_J (α := Int32 → Option (Int32)) (fun (x3 : Int32) => (ff_M_it p0 p1 (2 : Int32) M).bind fun x4 =>
  (ff_M_defines p0 q6 x4 M).bind fun x5 =>
  jp_J (α := Int32 → Option (Int32)) (fun (x6 : Int32) => (some (q6 + (1 : Int32))).bind fun x7 =>
  rec x6 x7) fun j63 =>
  jp_J (α := Option (Int32)) (j63 (0 : Int32)) fun j60 =>
  if x5 = 0 then ((ff_M_it p0 p1 (4 : Int32) M).bind fun x8 =>
  (ff_M_defines p0 q6 x8 M).bind fun x9 =>
  if x9 = 0 then (j63 x3) else (j60)) else (j60)) fun j30 =>
  if x2 = 0 then (j30 q5) else (j30 (1 : Int32)))
def lf_M_carries_11 (p0 : Nat) (p1 : Int32) (p3 : Int32) (M : mm_T) : Nat → Int32 → Int32 → Option (Int32)
  | 0, _, _ => none
  | fu + 1, q5, q6 => lb_M_carries_11 p0 p1 p3 M (lf_M_carries_11 p0 p1 p3 M fu) q5 q6
def ff_M_carries (t : Nat) (a1 : Int32) (a2 : Int32) (a3 : Int32) (a4 : Int32) (M : mm_T) : Option (Int32) :=
  gd_G M t 11 (
  (ff_M_firstOf t a2 M).bind fun x1 =>
  lf_M_carries_11  t a1 a3 M fu_L a4 x1)

def lb_M_findsLacking_2 (k0 : mm_T → Option (mm_T)) (p0 : Nat) (p1 : Int32) (rec : Int32 → mm_T → Option (mm_T)) (q2 : Int32) (N : mm_T) : Option (mm_T) :=
  if (12 : Int32) ≤ q2 then (k0 N) else ((gf_R N p0 11 6).bind fun x1 =>
  jp_J (α := Int32 → Option (mm_T)) (fun (x2 : Int32) => (aw_Z N x1 q2 x2).bind fun M1 =>
  (some (q2 + (1 : Int32))).bind fun x3 =>
  rec x3 M1) fun j22 =>
  if q2 = 0 then (j22 (1 : Int32)) else (j22 (0 : Int32)))
def lf_M_findsLacking_2 (k0 : mm_T → Option (mm_T)) (p0 : Nat) (p1 : Int32) : Nat → Int32 → mm_T → Option (mm_T)
  | 0, _, _ => none
  | fu + 1, q2, N => lb_M_findsLacking_2 k0 p0 p1 (lf_M_findsLacking_2 k0 p0 p1 fu) q2 N
def lb_M_findsLacking_94 (k0 : Int32 → mm_T → Option (mm_T)) (p0 : Nat) (p1 : Int32) (p3 : Int32) (rec : Int32 → Int32 → mm_T → Option (mm_T)) (q2 : Int32) (q4 : Int32) (N : mm_T) : Option (mm_T) :=
  (ff_M_ways p0 p3 N).bind fun x13 =>
  if x13 ≤ q4 then (k0 q2 N) else ((gf_R N p0 11 6).bind fun x14 =>
  (ff_M_way p0 p3 q4 N).bind fun x15 =>
  (ar_Z N x14 x15).bind fun x16 =>
  jp_J (α := Int32 → Option (mm_T)) (fun (x17 : Int32) => (some (q2 ||| x17)).bind fun x18 =>
  (gf_R N p0 11 6).bind fun x19 =>
  (ff_M_way p0 p3 q4 N).bind fun x20 =>
  (aw_Z N x19 x20 (1 : Int32)).bind fun M5 =>
  (some (q4 + (1 : Int32))).bind fun x21 =>
  rec x18 x21 M5) fun j125 =>
  if x16 = 0 then (j125 (1 : Int32)) else (j125 (0 : Int32)))
def lf_M_findsLacking_94 (k0 : Int32 → mm_T → Option (mm_T)) (p0 : Nat) (p1 : Int32) (p3 : Int32) : Nat → Int32 → Int32 → mm_T → Option (mm_T)
  | 0, _, _, _ => none
  | fu + 1, q2, q4, N => lb_M_findsLacking_94 k0 p0 p1 p3 (lf_M_findsLacking_94 k0 p0 p1 p3 fu) q2 q4 N
def lb_M_findsLacking_39 (k0 : Int32 → mm_T → Option (mm_T)) (p0 : Nat) (p1 : Int32) (rec : Int32 → Int32 → mm_T → Option (mm_T)) (q2 : Int32) (q3 : Int32) (N : mm_T) : Option (mm_T) :=
  (ff_M_get p0 (0 : Int32) N).bind fun x4 =>
  if x4 ≤ q3 then (k0 q2 N) else (bd_2 (ff_M_isReached p0 q3 (-1 : Int32) N) fun x5 M3 =>
  jp_J (α := Int32 → mm_T → Option (mm_T)) (fun (x6 : Int32) (M4 : mm_T) => (some (q3 + (1 : Int32))).bind fun x7 =>
  rec x6 x7 M4) fun j146 =>
  if x5 = 0 then (j146 q2 M3) else ((ff_M_endOf p0 q3 M3).bind fun x8 =>
  (gf_R M3 p0 11 6).bind fun x9 =>
  (ar_Z M3 x9 q3).bind fun x10 =>
  jp_J (α := Int32 → Option (mm_T)) (fun (x11 : Int32) => (ff_M_carries p0 p1 q3 x8 x11 M3).bind fun x12 =>
  if x12 = 0 then (lf_M_findsLacking_94 (fun (x22 : Int32) (M6 : mm_T) => j146 x22 M6) p0 p1 q3 fu_L q2 (0 : Int32) M3) else (j146 q2 M3)) fun j82 =>
  if x10 = 0 then (j82 (1 : Int32)) else (j82 (0 : Int32))))
def lf_M_findsLacking_39 (k0 : Int32 → mm_T → Option (mm_T)) (p0 : Nat) (p1 : Int32) : Nat → Int32 → Int32 → mm_T → Option (mm_T)
  | 0, _, _, _ => none
  | fu + 1, q2, q3, N => lb_M_findsLacking_39 k0 p0 p1 (lf_M_findsLacking_39 k0 p0 p1 fu) q2 q3 N
def lb_M_findsLacking_31 (p0 : Nat) (p1 : Int32) (rec : Int32 → mm_T → Option (mm_T)) (q2 : Int32) (N : mm_T) : Option (mm_T) :=
  if q2 = 0 then (some N) else (lf_M_findsLacking_39 (fun (x23 : Int32) (M7 : mm_T) => rec x23 M7) p0 p1 fu_L (0 : Int32) (0 : Int32) N)
def lf_M_findsLacking_31 (p0 : Nat) (p1 : Int32) : Nat → Int32 → mm_T → Option (mm_T)
  | 0, _, _ => none
  | fu + 1, q2, N => lb_M_findsLacking_31 p0 p1 (lf_M_findsLacking_31 p0 p1 fu) q2 N
def ff_M_findsLacking (t : Nat) (a1 : Int32) (M : mm_T) : Option (mm_T) :=
  gd_G M t 11 (
  lf_M_findsLacking_2 (fun (M2 : mm_T) => lf_M_findsLacking_31  t a1 fu_L (1 : Int32) M2) t a1 fu_L (0 : Int32) M)

def ff_M_isAvailable (t : Nat) (a1 : Int32) (a2 : Int32) (a3 : Int32) (M : mm_T) : Option (Int32 × mm_T) :=
  gd_G M t 11 (
  bd_2 (ff_M_isReached t a2 (-1 : Int32) M) fun x1 M1 =>
  if x1 = 0 then (some ((0 : Int32), M1)) else ((ff_M_findsLacking t a1 M1).bind fun M2 =>
  (gf_R M2 t 11 6).bind fun x2 =>
  (ar_Z M2 x2 a2).bind fun x3 =>
  jp_J (α := Int32 → Option (Int32 × mm_T)) (fun (x4 : Int32) => (ff_M_carries t a1 a2 a3 x4 M2).bind fun x5 =>
  (zb_Z x5).bind fun w => some (w, M2)) fun j34 =>
  if x3 = 0 then (j34 (1 : Int32)) else (j34 (0 : Int32))))

def lb_M_isNewest_14 (p0 : Nat) (p1 : Int32) (M : mm_T) (rec : Int32 → Option (Int32)) (q2 : Int32) : Option (Int32) :=
  if p1 ≤ q2 then (some (1 : Int32)) else ((ff_M_isSame p0 p1 q2 M).bind fun x2 =>
  if x2 = 0 then ((some (q2 + (1 : Int32))).bind fun x3 =>
  rec x3) else (some (0 : Int32)))
def lf_M_isNewest_14 (p0 : Nat) (p1 : Int32) (M : mm_T) : Nat → Int32 → Option (Int32)
  | 0, _ => none
  | fu + 1, q2 => lb_M_isNewest_14 p0 p1 M (lf_M_isNewest_14 p0 p1 M fu) q2
def ff_M_isNewest (t : Nat) (a1 : Int32) (M : mm_T) : Option (Int32) :=
  gd_G M t 11 (
  (ff_M_it t a1 (0 : Int32) M).bind fun x1 =>
  if x1 = (2 : Int32) then (lf_M_isNewest_14  t a1 M fu_L (0 : Int32)) else (some (0 : Int32)))

def ff_M_isRedundant0 (t : Nat) (a1 : Int32) (M : mm_T) : Option (Int32 × mm_T) :=
  gd_G M t 11 (
  (ff_M_it t a1 (0 : Int32) M).bind fun x1 =>
  if x1 = (2 : Int32) then ((ff_M_blockAt t a1 M).bind fun x2 =>
  bd_2 (ff_M_isAvailable t a1 x2 a1 M) fun x3 M1 =>
  if x3 = 0 then (some ((0 : Int32), M1)) else (some ((1 : Int32), M1))) else (some ((0 : Int32), M)))

def ff_M_governs (t : Nat) (a1 : Int32) (a2 : Int32) (M : mm_T) : Option (Int32 × mm_T) :=
  gd_G M t 11 (
  bd_2 (ff_M_isReached t a1 (-1 : Int32) M) fun x1 M1 =>
  if x1 = 0 then (some ((0 : Int32), M1)) else (bd_2 (ff_M_isReached t a2 (-1 : Int32) M1) fun x2 M2 =>
  if x2 = 0 then (some ((0 : Int32), M2)) else (jp_J (α := mm_T → Option (Int32 × mm_T)) (fun  (M3 : mm_T) => some ((1 : Int32), M3)) fun j34 =>
  if a1 = a2 then (j34 M2) else (bd_2 (ff_M_isReached t a2 a1 M2) fun x3 M4 =>
  if x3 = 0 then (j34 M4) else (some ((0 : Int32), M4))))))

def lb_M_governors_4 (p0 : Nat) (p1 : Int32) (rec : Int32 → Int32 → mm_T → Option (Int32 × mm_T)) (q2 : Int32) (q3 : Int32) (N : mm_T) : Option (Int32 × mm_T) :=
  (ff_M_get p0 (0 : Int32) N).bind fun x1 =>
  if x1 ≤ q3 then (some (q2, N)) else (bd_2 (ff_M_governs p0 q3 p1 N) fun x2 M1 =>
  (ff_M_one x2 M1).bind fun x3 =>
  (some (q2 + x3)).bind fun x4 =>
  (some (q3 + (1 : Int32))).bind fun x5 =>
  rec x4 x5 M1)
def lf_M_governors_4 (p0 : Nat) (p1 : Int32) : Nat → Int32 → Int32 → mm_T → Option (Int32 × mm_T)
  | 0, _, _, _ => none
  | fu + 1, q2, q3, N => lb_M_governors_4 p0 p1 (lf_M_governors_4 p0 p1 fu) q2 q3 N
def ff_M_governors (t : Nat) (a1 : Int32) (M : mm_T) : Option (Int32 × mm_T) :=
  gd_G M t 11 (
  lf_M_governors_4  t a1 fu_L (0 : Int32) (0 : Int32) M)

def ff_M_isBackEdge (t : Nat) (a1 : Int32) (a2 : Int32) (M : mm_T) : Option (Int32 × mm_T) :=
  gd_G M t 11 (
  (ff_M_leads t a1 a2 M).bind fun x1 =>
  if x1 = 0 then (some ((0 : Int32), M)) else (bd_2 (ff_M_governs t a2 a1 M) fun x2 M1 =>
  if x2 = 0 then (some ((0 : Int32), M1)) else (some ((1 : Int32), M1))))

def lb_M_isHead_2 (p0 : Nat) (p1 : Int32) (rec : Int32 → mm_T → Option (Int32 × mm_T)) (q2 : Int32) (N : mm_T) : Option (Int32 × mm_T) :=
  (ff_M_get p0 (0 : Int32) N).bind fun x1 =>
  if x1 ≤ q2 then (some ((0 : Int32), N)) else (bd_2 (ff_M_isBackEdge p0 q2 p1 N) fun x2 M1 =>
  if x2 = 0 then ((some (q2 + (1 : Int32))).bind fun x3 =>
  rec x3 M1) else (some ((1 : Int32), M1)))
def lf_M_isHead_2 (p0 : Nat) (p1 : Int32) : Nat → Int32 → mm_T → Option (Int32 × mm_T)
  | 0, _, _ => none
  | fu + 1, q2, N => lb_M_isHead_2 p0 p1 (lf_M_isHead_2 p0 p1 fu) q2 N
def ff_M_isHead (t : Nat) (a1 : Int32) (M : mm_T) : Option (Int32 × mm_T) :=
  gd_G M t 11 (
  lf_M_isHead_2  t a1 fu_L (0 : Int32) M)

def lb_M_isInLoop_45 (k0 : mm_T → Option (Int32 × mm_T)) (p0 : Nat) (p2 : Int32) (p3 : Nat) (rec : Int32 → mm_T → Option (Int32 × mm_T)) (q4 : Int32) (N : mm_T) : Option (Int32 × mm_T) :=
  if (12 : Int32) ≤ q4 then (k0 N) else ((gf_R N p0 11 5).bind fun x4 =>
  (ar_Z N x4 q4).bind fun x5 =>
  (aw_Z N p3 q4 x5).bind fun M6 =>
  (some (q4 + (1 : Int32))).bind fun x6 =>
  rec x6 M6)
def lf_M_isInLoop_45 (k0 : mm_T → Option (Int32 × mm_T)) (p0 : Nat) (p2 : Int32) (p3 : Nat) : Nat → Int32 → mm_T → Option (Int32 × mm_T)
  | 0, _, _ => none
  | fu + 1, q4, N => lb_M_isInLoop_45 k0 p0 p2 p3 (lf_M_isInLoop_45 k0 p0 p2 p3 fu) q4 N
def lb_M_isInLoop_72 (p0 : Nat) (p2 : Int32) (p3 : Nat) (rec : Int32 → mm_T → Option (Int32 × mm_T)) (q4 : Int32) (N : mm_T) : Option (Int32 × mm_T) :=
  (ff_M_get p0 (0 : Int32) N).bind fun x7 =>
  if x7 ≤ q4 then (some ((0 : Int32), N)) else ((ar_Z N p3 q4).bind fun x8 =>
  jp_J (α := mm_T → Option (Int32 × mm_T)) (fun  (M8 : mm_T) => (some (q4 + (1 : Int32))).bind fun x9 =>
  rec x9 M8) fun j101 =>
  if x8 = 0 then (j101 N) else (bd_2 (ff_M_isBackEdge p0 q4 p2 N) fun x10 M9 =>
  if x10 = 0 then (j101 M9) else (some ((1 : Int32), M9))))
def lf_M_isInLoop_72 (p0 : Nat) (p2 : Int32) (p3 : Nat) : Nat → Int32 → mm_T → Option (Int32 × mm_T)
  | 0, _, _ => none
  | fu + 1, q4, N => lb_M_isInLoop_72 p0 p2 p3 (lf_M_isInLoop_72 p0 p2 p3 fu) q4 N
def ff_M_isInLoop (t : Nat) (a1 : Int32) (a2 : Int32) (M : mm_T) : Option (Int32 × mm_T) :=
  gd_G M t 11 (
  bd_2 (ff_M_isHead t a2 M) fun x1 M1 =>
  if x1 = 0 then (some ((0 : Int32), M1)) else (bd_2 (ff_M_isReached t a1 (-1 : Int32) M1) fun x2 M2 =>
  if x2 = 0 then (some ((0 : Int32), M2)) else (if a1 = a2 then (some ((1 : Int32), M2)) else (bd_2 (na_K 22 M2 (12 : Int32)) fun x3 M3 =>
  (ff_M_forgets t M3).bind fun M4 =>
  (ff_M_walks 13 t a1 (-1 : Int32) a2 M4).bind fun M5 =>
  lf_M_isInLoop_45 (fun (M7 : mm_T) => lf_M_isInLoop_72  t a2 x3 fu_L (0 : Int32) M7) t a2 x3 fu_L (0 : Int32) M5))))

def ff_M_meets (a1 : Int32) (a2 : Int32) (M : mm_T) : Option (Int32) :=
  if a1 = (-2 : Int32) then (some a2) else (jp_J (α := Option (Int32)) (some a1) fun j19 =>
  if a2 = (-2 : Int32) then (j19) else (if a1 = a2 then (j19) else (some (-1 : Int32))))

def ff_M_calculates (t : Nat) (a1 : Int32) (a2 : Int32) (a3 : Int32) (M : mm_T) : Option (Int32) :=
  gd_G M t 11 (
  jp_J (α := Option (Int32)) (jp_J (α := Option (Int32)) (some (-1 : Int32)) fun j22 =>
  if a1 = (-1 : Int32) then (j22) else (if a3 = (-1 : Int32) then (j22) else (some (-2 : Int32)))) fun j12 =>
  if a1 = (-2 : Int32) then (j12) else (if a3 = (-2 : Int32) then (j12) else (if a1 = (-1 : Int32) then (some (-1 : Int32)) else (if a3 = (-1 : Int32) then (some (-1 : Int32)) else (if a2 = (0 : Int32) then ((io_remG (a1 + a3) (1000 : Int32)).bind fun x1 =>
  some x1) else (if a2 = (1 : Int32) then ((io_remG ((a1 - a3) + (1000 : Int32)) (1000 : Int32)).bind fun x2 =>
  some x2) else (((io_remG (a1 * a3) (1000 : Int32)).bind fun x3 =>
  some x3))))))))

def ff_M_given (t : Nat) (a1 : Int32) (M : mm_T) : Option (Int32) :=
  gd_G M t 11 (
  (ff_M_it t a1 (0 : Int32) M).bind fun x1 =>
  if x1 = (0 : Int32) then ((ff_M_it t a1 (2 : Int32) M).bind fun x2 =>
  some x2) else (if x1 = (1 : Int32) then ((gf_R M t 11 8).bind fun x3 =>
  (ff_M_it t a1 (2 : Int32) M).bind fun x4 =>
  (ar_I M x3 x4).bind fun x5 =>
  some x5) else (((gf_R M t 11 8).bind fun x6 =>
  (ff_M_it t a1 (2 : Int32) M).bind fun x7 =>
  (ar_I M x6 x7).bind fun x8 =>
  (ff_M_it t a1 (3 : Int32) M).bind fun x9 =>
  (gf_R M t 11 8).bind fun x10 =>
  (ff_M_it t a1 (4 : Int32) M).bind fun x11 =>
  (ar_I M x10 x11).bind fun x12 =>
  (ff_M_calculates t x8 x9 x12 M).bind fun x13 =>
  some x13))))

def lb_M_comesTo_2 (k0 : mm_T → Option (mm_T)) (p0 : Nat) (p1 : Int32) (p2 : Int32) (rec : Int32 → mm_T → Option (mm_T)) (q3 : Int32) (N : mm_T) : Option (mm_T) :=
  if (8 : Int32) ≤ q3 then (k0 N) else ((gf_R N p0 11 8).bind fun x1 =>
  (gf_R N p0 11 7).bind fun x2 =>
  (ar_I N x2 (((8 : Int32) * p1) + q3)).bind fun x3 =>
  (aw_I N x1 q3 x3).bind fun M1 =>
  (some (q3 + (1 : Int32))).bind fun x4 =>
  rec x4 M1)
def lf_M_comesTo_2 (k0 : mm_T → Option (mm_T)) (p0 : Nat) (p1 : Int32) (p2 : Int32) : Nat → Int32 → mm_T → Option (mm_T)
  | 0, _, _ => none
  | fu + 1, q3, N => lb_M_comesTo_2 k0 p0 p1 p2 (lf_M_comesTo_2 k0 p0 p1 p2 fu) q3 N
def lb_M_comesTo_37 (p0 : Nat) (p2 : Int32) (rec : Int32 → mm_T → Option (mm_T)) (q3 : Int32) (N : mm_T) : Option (mm_T) :=
  if p2 ≤ q3 then (some N) else ((ff_M_isDefinition p0 q3 N).bind fun x6 =>
  jp_J (α := mm_T → Option (mm_T)) (fun  (M3 : mm_T) => (some (q3 + (1 : Int32))).bind fun x7 =>
  rec x7 M3) fun j66 =>
  if x6 = 0 then (j66 N) else ((gf_R N p0 11 8).bind fun x8 =>
  (ff_M_it p0 q3 (1 : Int32) N).bind fun x9 =>
  (ff_M_given p0 q3 N).bind fun x10 =>
  (aw_I N x8 x9 x10).bind fun M4 =>
  j66 M4))
def lf_M_comesTo_37 (p0 : Nat) (p2 : Int32) : Nat → Int32 → mm_T → Option (mm_T)
  | 0, _, _ => none
  | fu + 1, q3, N => lb_M_comesTo_37 p0 p2 (lf_M_comesTo_37 p0 p2 fu) q3 N
def ff_M_comesTo (t : Nat) (a1 : Int32) (a2 : Int32) (M : mm_T) : Option (mm_T) :=
  gd_G M t 11 (
  lf_M_comesTo_2 (fun (M2 : mm_T) => (ff_M_firstOf t a1 M2).bind fun x5 =>
  lf_M_comesTo_37  t a2 fu_L x5 M2) t a1 a2 fu_L (0 : Int32) M)

def lb_M_spreads_26 (k0 : Int32 → mm_T → Option (Int32 × mm_T)) (p0 : Nat) (p1 : Int32) (p3 : Int32) (rec : Int32 → Int32 → mm_T → Option (Int32 × mm_T)) (q2 : Int32) (q4 : Int32) (N : mm_T) : Option (Int32 × mm_T) :=
  if (8 : Int32) ≤ q4 then (k0 q2 N) else ((ff_M_way p0 p1 p3 N).bind fun x3 =>
  (some (((8 : Int32) * x3) + q4)).bind fun x4 =>
  (gf_R N p0 11 7).bind fun x5 =>
  (ar_I N x5 x4).bind fun x6 =>
  (gf_R N p0 11 8).bind fun x7 =>
  (ar_I N x7 q4).bind fun x8 =>
  (ff_M_meets x6 x8 N).bind fun x9 =>
  (gf_R N p0 11 7).bind fun x10 =>
  (ar_I N x10 x4).bind fun x11 =>
  jp_J (α := Int32 → Option (Int32 × mm_T)) (fun (x12 : Int32) => (some (q2 ||| x12)).bind fun x13 =>
  (gf_R N p0 11 7).bind fun x14 =>
  (aw_I N x14 x4 x9).bind fun M2 =>
  (some (q4 + (1 : Int32))).bind fun x15 =>
  rec x13 x15 M2) fun j84 =>
  if x9 = x11 then (j84 (0 : Int32)) else (j84 (1 : Int32)))
def lf_M_spreads_26 (k0 : Int32 → mm_T → Option (Int32 × mm_T)) (p0 : Nat) (p1 : Int32) (p3 : Int32) : Nat → Int32 → Int32 → mm_T → Option (Int32 × mm_T)
  | 0, _, _, _ => none
  | fu + 1, q2, q4, N => lb_M_spreads_26 k0 p0 p1 p3 (lf_M_spreads_26 k0 p0 p1 p3 fu) q2 q4 N
def lb_M_spreads_14 (p0 : Nat) (p1 : Int32) (rec : Int32 → Int32 → mm_T → Option (Int32 × mm_T)) (q2 : Int32) (q3 : Int32) (N : mm_T) : Option (Int32 × mm_T) :=
  (ff_M_ways p0 p1 N).bind fun x2 =>
  if x2 ≤ q3 then ((zb_Z q2).bind fun w => some (w, N)) else (lf_M_spreads_26 (fun (x16 : Int32) (M3 : mm_T) => (some (q3 + (1 : Int32))).bind fun x17 =>
  rec x16 x17 M3) p0 p1 q3 fu_L q2 (0 : Int32) N)
def lf_M_spreads_14 (p0 : Nat) (p1 : Int32) : Nat → Int32 → Int32 → mm_T → Option (Int32 × mm_T)
  | 0, _, _, _ => none
  | fu + 1, q2, q3, N => lb_M_spreads_14 p0 p1 (lf_M_spreads_14 p0 p1 fu) q2 q3 N
def ff_M_spreads (t : Nat) (a1 : Int32) (M : mm_T) : Option (Int32 × mm_T) :=
  gd_G M t 11 (
  (ff_M_endOf t a1 M).bind fun x1 =>
  (ff_M_comesTo t a1 x1 M).bind fun M1 =>
  lf_M_spreads_14  t a1 fu_L (0 : Int32) (0 : Int32) M1)

def lb_M_findsConstants_2 (k0 : mm_T → Option (mm_T)) (p0 : Nat) (rec : Int32 → mm_T → Option (mm_T)) (q1 : Int32) (N : mm_T) : Option (mm_T) :=
  (gf_R N p0 11 7).bind fun x1 =>
  (al_N N x1).bind fun x2 =>
  if x2 ≤ q1 then (k0 N) else ((gf_R N p0 11 7).bind fun x3 =>
  jp_J (α := Int32 → Option (mm_T)) (fun (x4 : Int32) => (aw_I N x3 q1 x4).bind fun M1 =>
  (some (q1 + (1 : Int32))).bind fun x5 =>
  rec x5 M1) fun j28 =>
  if (8 : Int32) ≤ q1 then (j28 (-2 : Int32)) else (j28 (0 : Int32)))
def lf_M_findsConstants_2 (k0 : mm_T → Option (mm_T)) (p0 : Nat) : Nat → Int32 → mm_T → Option (mm_T)
  | 0, _, _ => none
  | fu + 1, q1, N => lb_M_findsConstants_2 k0 p0 (lf_M_findsConstants_2 k0 p0 fu) q1 N
def lb_M_findsConstants_45 (k0 : Int32 → mm_T → Option (mm_T)) (p0 : Nat) (rec : Int32 → Int32 → mm_T → Option (mm_T)) (q1 : Int32) (q2 : Int32) (N : mm_T) : Option (mm_T) :=
  (ff_M_get p0 (0 : Int32) N).bind fun x6 =>
  if x6 ≤ q2 then (k0 q1 N) else (bd_2 (ff_M_isReached p0 q2 (-1 : Int32) N) fun x7 M3 =>
  jp_J (α := Int32 → mm_T → Option (mm_T)) (fun (x8 : Int32) (M4 : mm_T) => (some (q2 + (1 : Int32))).bind fun x9 =>
  rec x8 x9 M4) fun j71 =>
  if x7 = 0 then (j71 q1 M3) else (bd_2 (ff_M_spreads p0 q2 M3) fun x10 M5 =>
  (some (q1 ||| x10)).bind fun x11 =>
  j71 x11 M5))
def lf_M_findsConstants_45 (k0 : Int32 → mm_T → Option (mm_T)) (p0 : Nat) : Nat → Int32 → Int32 → mm_T → Option (mm_T)
  | 0, _, _, _ => none
  | fu + 1, q1, q2, N => lb_M_findsConstants_45 k0 p0 (lf_M_findsConstants_45 k0 p0 fu) q1 q2 N
def lb_M_findsConstants_37 (p0 : Nat) (rec : Int32 → mm_T → Option (mm_T)) (q1 : Int32) (N : mm_T) : Option (mm_T) :=
  if q1 = 0 then (some N) else (lf_M_findsConstants_45 (fun (x12 : Int32) (M6 : mm_T) => rec x12 M6) p0 fu_L (0 : Int32) (0 : Int32) N)
def lf_M_findsConstants_37 (p0 : Nat) : Nat → Int32 → mm_T → Option (mm_T)
  | 0, _, _ => none
  | fu + 1, q1, N => lb_M_findsConstants_37 p0 (lf_M_findsConstants_37 p0 fu) q1 N
def ff_M_findsConstants (t : Nat) (M : mm_T) : Option (mm_T) :=
  gd_G M t 11 (
  lf_M_findsConstants_2 (fun (M2 : mm_T) => lf_M_findsConstants_37  t fu_L (1 : Int32) M2) t fu_L (0 : Int32) M)

def ff_M_constantAtPlace (t : Nat) (a1 : Int32) (a2 : Int32) (a3 : Int32) (M : mm_T) : Option (Int32 × mm_T) :=
  gd_G M t 11 (
  bd_2 (ff_M_isReached t a1 (-1 : Int32) M) fun x1 M1 =>
  if x1 = 0 then (some ((-1 : Int32), M1)) else ((ff_M_findsConstants t M1).bind fun M2 =>
  (ff_M_comesTo t a1 a2 M2).bind fun M3 =>
  (gf_R M3 t 11 8).bind fun x2 =>
  (ar_I M3 x2 a3).bind fun x3 =>
  (ff_JM_max (-1 : Int32) x3 M3).bind fun x4 =>
  some (x4, M3)))

def lb_M_begins_2 (k0 : mm_T → Option (mm_T)) (p0 : Nat) (rec : Int32 → mm_T → Option (mm_T)) (q1 : Int32) (N : mm_T) : Option (mm_T) :=
  if (8 : Int32) ≤ q1 then (k0 N) else ((gf_R N p0 11 9).bind fun x1 =>
  (aw_I N x1 q1 (0 : Int32)).bind fun M1 =>
  (some (q1 + (1 : Int32))).bind fun x2 =>
  rec x2 M1)
def lf_M_begins_2 (k0 : mm_T → Option (mm_T)) (p0 : Nat) : Nat → Int32 → mm_T → Option (mm_T)
  | 0, _, _ => none
  | fu + 1, q1, N => lb_M_begins_2 k0 p0 (lf_M_begins_2 k0 p0 fu) q1 N
def ff_M_begins (t : Nat) (M : mm_T) : Option (mm_T) :=
  gd_G M t 11 (
  lf_M_begins_2 (fun (M2 : mm_T) => (pf_I M2 t 11 10 (0 : Int32)).bind fun M3 =>
  (ff_M_firstOf t (0 : Int32) M3).bind fun x3 =>
  (pf_I M3 t 11 11 x3).bind fun M4 =>
  (pf_I M4 t 11 12 (-1 : Int32)).bind fun M5 =>
  (pf_Z M5 t 11 13 (0 : Int32)).bind fun M6 =>
  some M6) t fu_L (0 : Int32) M)

def ff_M_enters (t : Nat) (a1 : Int32) (M : mm_T) : Option (mm_T) :=
  gd_G M t 11 (
  (pf_I M t 11 10 a1).bind fun M1 =>
  (ff_M_firstOf t a1 M1).bind fun x1 =>
  (pf_I M1 t 11 11 x1).bind fun M2 =>
  some M2)

def ff_M_steps (t : Nat) (M : mm_T) : Option (mm_T) :=
  gd_G M t 11 (
  (gf_I M t 11 11).bind fun x1 =>
  (gf_I M t 11 10).bind fun x2 =>
  (ff_M_endOf t x2 M).bind fun x3 =>
  if x1 = x3 then ((gf_I M t 11 10).bind fun x30 =>
  (ff_M_bl t x30 (1 : Int32) M).bind fun x31 =>
  jp_J (α := Int32 → Option (mm_T)) (fun (x32 : Int32) => (pf_Z M t 11 13 x32).bind fun M7 =>
  if x31 = (1 : Int32) then ((gf_I M7 t 11 10).bind fun x40 =>
  (ff_M_bl t x40 (3 : Int32) M7).bind fun x41 =>
  (ff_M_enters t x41 M7).bind fun M9 =>
  some M9) else (if x31 = (2 : Int32) then ((gf_I M7 t 11 10).bind fun x33 =>
  (gf_R M7 t 11 9).bind fun x34 =>
  (gf_I M7 t 11 10).bind fun x35 =>
  (ff_M_bl t x35 (2 : Int32) M7).bind fun x36 =>
  (ar_I M7 x34 x36).bind fun x37 =>
  jp_J (α := Int32 → Option (mm_T)) (fun (x38 : Int32) => (ff_M_way t x33 x38 M7).bind fun x39 =>
  (ff_M_enters t x39 M7).bind fun M8 =>
  some M8) fun j92 =>
  if x37 = 0 then (j92 (1 : Int32)) else (j92 (0 : Int32))) else (some M7))) fun j35 =>
  if x31 = 0 then (j35 (1 : Int32)) else (j35 (0 : Int32))) else ((gf_I M t 11 11).bind fun x4 =>
  (ff_M_it t x4 (0 : Int32) M).bind fun x5 =>
  jp_J (α := mm_T → Option (mm_T)) (fun  (M1 : mm_T) => (gf_I M1 t 11 11).bind fun x6 =>
  (pf_I M1 t 11 11 (x6 + (1 : Int32))).bind fun M2 =>
  some M2) fun j239 =>
  if x5 = (3 : Int32) then ((gf_R M t 11 9).bind fun x27 =>
  (ff_M_it t x4 (2 : Int32) M).bind fun x28 =>
  (ar_I M x27 x28).bind fun x29 =>
  (pf_I M t 11 12 x29).bind fun M6 =>
  j239 M6) else ((ff_M_it t x4 (0 : Int32) M).bind fun x7 =>
  if x7 = 0 then ((gf_R M t 11 9).bind fun x24 =>
  (ff_M_it t x4 (1 : Int32) M).bind fun x25 =>
  (ff_M_it t x4 (2 : Int32) M).bind fun x26 =>
  (aw_I M x24 x25 x26).bind fun M5 =>
  j239 M5) else ((ff_M_it t x4 (0 : Int32) M).bind fun x8 =>
  if x8 = (1 : Int32) then ((gf_R M t 11 9).bind fun x19 =>
  (ff_M_it t x4 (1 : Int32) M).bind fun x20 =>
  (gf_R M t 11 9).bind fun x21 =>
  (ff_M_it t x4 (2 : Int32) M).bind fun x22 =>
  (ar_I M x21 x22).bind fun x23 =>
  (aw_I M x19 x20 x23).bind fun M4 =>
  j239 M4) else ((gf_R M t 11 9).bind fun x9 =>
  (ff_M_it t x4 (1 : Int32) M).bind fun x10 =>
  (gf_R M t 11 9).bind fun x11 =>
  (ff_M_it t x4 (2 : Int32) M).bind fun x12 =>
  (ar_I M x11 x12).bind fun x13 =>
  (ff_M_it t x4 (3 : Int32) M).bind fun x14 =>
  (gf_R M t 11 9).bind fun x15 =>
  (ff_M_it t x4 (4 : Int32) M).bind fun x16 =>
  (ar_I M x15 x16).bind fun x17 =>
  (ff_M_calculates t x13 x14 x17 M).bind fun x18 =>
  (aw_I M x9 x10 x18).bind fun M3 =>
  j239 M3)))))

def lb_M_runs_6 (p0 : Nat) (p1 : Int32) (rec : Int32 → mm_T → Option (Int32 × mm_T)) (q2 : Int32) (N : mm_T) : Option (Int32 × mm_T) :=
  if p1 ≤ q2 then (some (q2, N)) else ((gf_I N p0 11 13).bind fun x1 =>
  if x1 = 0 then ((ff_M_steps p0 N).bind fun M2 =>
  (some (q2 + (1 : Int32))).bind fun x2 =>
  rec x2 M2) else (some (q2, N)))
def lf_M_runs_6 (p0 : Nat) (p1 : Int32) : Nat → Int32 → mm_T → Option (Int32 × mm_T)
  | 0, _, _ => none
  | fu + 1, q2, N => lb_M_runs_6 p0 p1 (lf_M_runs_6 p0 p1 fu) q2 N
def ff_M_runs (t : Nat) (a1 : Int32) (M : mm_T) : Option (Int32 × mm_T) :=
  gd_G M t 11 (
  (ff_M_begins t M).bind fun M1 =>
  lf_M_runs_6  t a1 fu_L (0 : Int32) M1)

def lb_M_appendText_27 (k0 : mm_T → Option (Int32 × mm_T)) (p0 : Nat) (p1 : Int32) (rec : Int32 → mm_T → Option (Int32 × mm_T)) (q2 : Int32) (N : mm_T) : Option (Int32 × mm_T) :=
  if q2 < 0 then (k0 N) else ((gf_R N p0 11 14).bind fun x2 =>
  (gf_I N p0 11 15).bind fun x3 =>
  (aw_I N x2 x3 ((io_shr p1 q2) &&& (255 : Int32))).bind fun M2 =>
  (gf_I M2 p0 11 15).bind fun x4 =>
  (pf_I M2 p0 11 15 (x4 + (1 : Int32))).bind fun M3 =>
  (some (q2 + (-8 : Int32))).bind fun x5 =>
  rec x5 M3)
def lf_M_appendText_27 (k0 : mm_T → Option (Int32 × mm_T)) (p0 : Nat) (p1 : Int32) : Nat → Int32 → mm_T → Option (Int32 × mm_T)
  | 0, _, _ => none
  | fu + 1, q2, N => lb_M_appendText_27 k0 p0 p1 (lf_M_appendText_27 k0 p0 p1 fu) q2 N
def ff_M_appendText (t : Nat) (a1 : Int32) (M : mm_T) : Option (Int32 × mm_T) :=
  gd_G M t 11 (
  (pf_I M t 11 4 (0 : Int32)).bind fun M1 =>
  (gf_I M1 t 11 15).bind fun x1 =>
  if (x1 + (4 : Int32)) ≤ (700 : Int32) then (lf_M_appendText_27 (fun (M4 : mm_T) => (gf_I M4 t 11 15).bind fun x6 =>
  some (x6, M4)) t a1 fu_L (24 : Int32) M1) else ((pf_I M1 t 11 4 (1 : Int32)).bind fun M5 =>
  some ((0 : Int32), M5)))

def ff_M_truncateText (t : Nat) (a1 : Int32) (M : mm_T) : Option (Int32 × mm_T) :=
  gd_G M t 11 (
  (pf_I M t 11 4 (0 : Int32)).bind fun M1 =>
  jp_J (α := Option (Int32 × mm_T)) ((pf_I M1 t 11 4 (1 : Int32)).bind fun M2 =>
  some ((0 : Int32), M2)) fun j17 =>
  if a1 < 0 then (j17) else ((gf_I M1 t 11 15).bind fun x1 =>
  if a1 ≤ x1 then ((pf_I M1 t 11 15 a1).bind fun M3 =>
  some (a1, M3)) else (j17)))

def ff_M_isByte (t : Nat) (a1 : Int32) (a2 : Int32) (M : mm_T) : Option (Int32) :=
  gd_G M t 11 (
  (gf_I M t 11 18).bind fun x1 =>
  (gf_I M t 11 15).bind fun x2 =>
  if x2 ≤ x1 then (some (0 : Int32)) else ((gf_R M t 11 14).bind fun x3 =>
  (gf_I M t 11 18).bind fun x4 =>
  (ar_I M x3 x4).bind fun x5 =>
  (ff_M_in x5 a1 a2 M).bind fun x6 =>
  if x6 = 0 then (some (0 : Int32)) else (some (1 : Int32))))

def lb_M_next_0 (k0 : mm_T → Option (mm_T)) (p0 : Nat) (rec : mm_T → Option (mm_T)) (N : mm_T) : Option (mm_T) :=
  (ff_M_isByte p0 (32 : Int32) (32 : Int32) N).bind fun x1 =>
  jp_J (α := Option (mm_T)) ((gf_I N p0 11 18).bind fun x2 =>
  (pf_I N p0 11 18 (x2 + (1 : Int32))).bind fun M1 =>
  rec M1) fun j22 =>
  if x1 = 0 then ((ff_M_isByte p0 (10 : Int32) (10 : Int32) N).bind fun x3 =>
  if x3 = 0 then (k0 N) else (j22)) else (j22)
def lf_M_next_0 (k0 : mm_T → Option (mm_T)) (p0 : Nat) : Nat → mm_T → Option (mm_T)
  | 0, _ => none
  | fu + 1, N => lb_M_next_0 k0 p0 (lf_M_next_0 k0 p0 fu) N
def lb_M_next_121 (k0 : mm_T → Option (mm_T)) (p0 : Nat) (rec : mm_T → Option (mm_T)) (N : mm_T) : Option (mm_T) :=
  (ff_M_isByte p0 (48 : Int32) (57 : Int32) N).bind fun x12 =>
  if x12 = 0 then (k0 N) else ((gf_I N p0 11 21).bind fun x13 =>
  jp_J (α := Int32 → Option (mm_T)) (fun (x14 : Int32) => (pf_I N p0 11 21 x14).bind fun M7 =>
  (gf_I M7 p0 11 18).bind fun x15 =>
  (pf_I M7 p0 11 18 (x15 + (1 : Int32))).bind fun M8 =>
  rec M8) fun j169 =>
  if x13 ≤ (999999 : Int32) then ((gf_I N p0 11 21).bind fun x16 =>
  (gf_R N p0 11 14).bind fun x17 =>
  (gf_I N p0 11 18).bind fun x18 =>
  (ar_I N x17 x18).bind fun x19 =>
  j169 (((((10 : Int32) * x16) + x19) - (48 : Int32)))) else ((gf_I N p0 11 21).bind fun x20 =>
  j169 x20))
def lf_M_next_121 (k0 : mm_T → Option (mm_T)) (p0 : Nat) : Nat → mm_T → Option (mm_T)
  | 0, _ => none
  | fu + 1, N => lb_M_next_121 k0 p0 (lf_M_next_121 k0 p0 fu) N
def lb_M_next_73 (k0 : mm_T → Option (mm_T)) (p0 : Nat) (rec : mm_T → Option (mm_T)) (N : mm_T) : Option (mm_T) :=
  (ff_M_isByte p0 (97 : Int32) (122 : Int32) N).bind fun x21 =>
  if x21 = 0 then (k0 N) else ((gf_I N p0 11 18).bind fun x22 =>
  (pf_I N p0 11 18 (x22 + (1 : Int32))).bind fun M11 =>
  rec M11)
def lf_M_next_73 (k0 : mm_T → Option (mm_T)) (p0 : Nat) : Nat → mm_T → Option (mm_T)
  | 0, _ => none
  | fu + 1, N => lb_M_next_73 k0 p0 (lf_M_next_73 k0 p0 fu) N
def ff_M_next (t : Nat) (M : mm_T) : Option (mm_T) :=
  gd_G M t 11 (
  lf_M_next_0 (fun (M2 : mm_T) => (gf_I M2 t 11 18).bind fun x4 =>
  (pf_I M2 t 11 19 x4).bind fun M3 =>
  (gf_I M3 t 11 18).bind fun x5 =>
  (gf_I M3 t 11 15).bind fun x6 =>
  if x5 = x6 then ((pf_I M3 t 11 20 (0 : Int32)).bind fun M14 =>
  some M14) else ((ff_M_isByte t (97 : Int32) (122 : Int32) M3).bind fun x7 =>
  if x7 = 0 then ((ff_M_isByte t (48 : Int32) (57 : Int32) M3).bind fun x8 =>
  if x8 = 0 then ((ff_M_isByte t (59 : Int32) (59 : Int32) M3).bind fun x9 =>
  jp_J (α := Int32 → Option (mm_T)) (fun (x10 : Int32) => (pf_I M3 t 11 20 x10).bind fun M4 =>
  (gf_I M4 t 11 18).bind fun x11 =>
  (pf_I M4 t 11 18 (x11 + (1 : Int32))).bind fun M5 =>
  some M5) fun j210 =>
  if x9 = 0 then (j210 (4 : Int32)) else (j210 (3 : Int32))) else ((pf_I M3 t 11 21 (0 : Int32)).bind fun M6 =>
  lf_M_next_121 (fun (M9 : mm_T) => (pf_I M9 t 11 20 (2 : Int32)).bind fun M10 =>
  some M10) t fu_L M6)) else (lf_M_next_73 (fun (M12 : mm_T) => (pf_I M12 t 11 20 (1 : Int32)).bind fun M13 =>
  some M13) t fu_L M3))) t fu_L M)

def ff_M_must (t : Nat) (a1 : Int32) (a2 : Int32) (M : mm_T) : Option (Int32 × mm_T) :=
  gd_G M t 11 (
  (gf_I M t 11 16).bind fun x1 =>
  jp_J (α := mm_T → Option (Int32 × mm_T)) (fun  (M1 : mm_T) => (gf_I M1 t 11 16).bind fun x2 =>
  if x2 = 0 then (some ((1 : Int32), M1)) else (some ((0 : Int32), M1))) fun j24 =>
  if x1 = 0 then (if a1 = 0 then ((pf_I M t 11 16 a2).bind fun M2 =>
  (gf_I M2 t 11 19).bind fun x3 =>
  (pf_I M2 t 11 17 x3).bind fun M3 =>
  j24 M3) else (j24 M)) else (j24 M))

def lb_M_isWord_35 (p0 : Nat) (p1 : Nat) (M : mm_T) (rec : Int32 → Option (Int32)) (q2 : Int32) : Option (Int32) :=
  (ff_JS_length p1 M).bind fun x6 =>
  if x6 ≤ q2 then (some (1 : Int32)) else ((gf_R M p0 11 14).bind fun x7 =>
  (gf_I M p0 11 19).bind fun x8 =>
  (ar_I M x7 (x8 + q2)).bind fun x9 =>
  (ff_JS_charAt p1 q2 M).bind fun x10 =>
  if x9 = x10 then ((some (q2 + (1 : Int32))).bind fun x11 =>
  rec x11) else (some (0 : Int32)))
def lf_M_isWord_35 (p0 : Nat) (p1 : Nat) (M : mm_T) : Nat → Int32 → Option (Int32)
  | 0, _ => none
  | fu + 1, q2 => lb_M_isWord_35 p0 p1 M (lf_M_isWord_35 p0 p1 M fu) q2
def ff_M_isWord (t : Nat) (a1 : Nat) (M : mm_T) : Option (Int32) :=
  gd_G M t 11 (
  (gf_I M t 11 16).bind fun x1 =>
  if x1 = 0 then ((gf_I M t 11 20).bind fun x2 =>
  if x2 = (1 : Int32) then ((gf_I M t 11 18).bind fun x3 =>
  (gf_I M t 11 19).bind fun x4 =>
  (ff_JS_length a1 M).bind fun x5 =>
  if (x3 - x4) = x5 then (lf_M_isWord_35  t a1 M fu_L (0 : Int32)) else (some (0 : Int32))) else (some (0 : Int32))) else (some (0 : Int32)))

def ff_M_goesOn (t : Nat) (M : mm_T) : Option (mm_T) :=
  gd_G M t 11 (
  (gf_I M t 11 16).bind fun x1 =>
  if x1 = 0 then ((ff_M_next t M).bind fun M1 =>
  some M1) else (some M))

def ff_M_endsLine (t : Nat) (M : mm_T) : Option (mm_T) :=
  gd_G M t 11 (
  (gf_I M t 11 20).bind fun x1 =>
  jp_J (α := Int32 → Option (mm_T)) (fun (x2 : Int32) => bd_2 (ff_M_must t x2 (1 : Int32) M) fun x3 M1 =>
  (ff_M_goesOn t M1).bind fun M2 =>
  some M2) fun j14 =>
  if x1 = (3 : Int32) then (j14 (1 : Int32)) else (j14 (0 : Int32)))

def ff_M_reads (t : Nat) (a1 : Int32) (M : mm_T) : Option (Int32 × mm_T) :=
  gd_G M t 11 (
  (gf_I M t 11 20).bind fun x1 =>
  jp_J (α := Int32 → Option (Int32 × mm_T)) (fun (x2 : Int32) => bd_2 (ff_M_must t x2 (1 : Int32) M) fun x3 M1 =>
  jp_J (α := mm_T → Option (Int32 × mm_T)) (fun  (M2 : mm_T) => (gf_I M2 t 11 16).bind fun x4 =>
  jp_J (α := Int32 → Option (Int32 × mm_T)) (fun (x5 : Int32) => (ff_M_goesOn t M2).bind fun M3 =>
  some (x5, M3)) fun j55 =>
  if x4 = 0 then ((gf_I M2 t 11 21).bind fun x6 =>
  j55 x6) else (j55 (0 : Int32))) fun j40 =>
  if x3 = 0 then (j40 M1) else ((gf_I M1 t 11 21).bind fun x7 =>
  jp_J (α := Int32 → Option (Int32 × mm_T)) (fun (x8 : Int32) => bd_2 (ff_M_must t x8 (2 : Int32) M1) fun x9 M4 =>
  j40 M4) fun j35 =>
  if a1 < x7 then (j35 (0 : Int32)) else (j35 (1 : Int32)))) fun j14 =>
  if x1 = (2 : Int32) then (j14 (1 : Int32)) else (j14 (0 : Int32)))

def ff_M_readsVariable (t : Nat) (M : mm_T) : Option (Int32 × mm_T) :=
  gd_G M t 11 (
  (gf_I M t 11 20).bind fun x1 =>
  jp_J (α := Int32 → Option (Int32 × mm_T)) (fun (x2 : Int32) => bd_2 (ff_M_must t x2 (1 : Int32) M) fun x3 M1 =>
  (gf_I M1 t 11 16).bind fun x4 =>
  jp_J (α := Int32 → Option (Int32 × mm_T)) (fun (x5 : Int32) => (ff_M_goesOn t M1).bind fun M2 =>
  some (x5, M2)) fun j74 =>
  if x4 = 0 then ((gf_R M1 t 11 14).bind fun x6 =>
  (gf_I M1 t 11 19).bind fun x7 =>
  (ar_I M1 x6 x7).bind fun x8 =>
  j74 ((x8 - (97 : Int32)))) else (j74 (0 : Int32))) fun j46 =>
  jp_J (α := Option (Int32 × mm_T)) (j46 (0 : Int32)) fun j45 =>
  if x1 = (1 : Int32) then ((gf_I M t 11 18).bind fun x9 =>
  (gf_I M t 11 19).bind fun x10 =>
  if (x9 - x10) = (1 : Int32) then ((gf_R M t 11 14).bind fun x11 =>
  (gf_I M t 11 19).bind fun x12 =>
  (ar_I M x11 x12).bind fun x13 =>
  (ff_M_in x13 (97 : Int32) (104 : Int32) M).bind fun x14 =>
  if x14 = 0 then (j45) else (j46 (1 : Int32))) else (j45)) else (j45))

def ff_M_readsOperator (t : Nat) (M : mm_T) : Option (Int32 × mm_T) :=
  gd_G M t 11 (
  (ff_M_isWord t (st_B + 6) M).bind fun x1 =>
  jp_J (α := Int32 → Option (Int32 × mm_T)) (fun (x2 : Int32) => jp_J (α := Int32 → Option (Int32 × mm_T)) (fun (x3 : Int32) => bd_2 (ff_M_must t x3 (1 : Int32) M) fun x4 M1 =>
  (ff_M_goesOn t M1).bind fun M2 =>
  some (x2, M2)) fun j51 =>
  jp_J (α := Option (Int32 × mm_T)) (j51 (1 : Int32)) fun j46 =>
  if x2 = (2 : Int32) then ((ff_M_isWord t (st_B + 8) M).bind fun x5 =>
  if x5 = 0 then (j51 (0 : Int32)) else (j46)) else (j46)) fun j29 =>
  if x1 = 0 then ((ff_M_isWord t (st_B + 7) M).bind fun x6 =>
  if x6 = 0 then (j29 (2 : Int32)) else (j29 (1 : Int32))) else (j29 (0 : Int32)))

def ff_M_kindHere (t : Nat) (M : mm_T) : Option (Int32) :=
  gd_G M t 11 (
  (ff_M_isWord t (st_B + 2) M).bind fun x1 =>
  if x1 = 0 then ((ff_M_isWord t (st_B + 3) M).bind fun x2 =>
  if x2 = 0 then ((ff_M_isWord t (st_B + 4) M).bind fun x3 =>
  if x3 = 0 then ((ff_M_isWord t (st_B + 5) M).bind fun x4 =>
  if x4 = 0 then (some (-1 : Int32)) else (some (3 : Int32))) else (some (2 : Int32))) else (some (1 : Int32))) else (some (0 : Int32)))

def ff_M_readsItem (t : Nat) (a1 : Int32) (M : mm_T) : Option (mm_T) :=
  gd_G M t 11 (
  (ff_M_get t (1 : Int32) M).bind fun x1 =>
  jp_J (α := Int32 → Option (mm_T)) (fun (x2 : Int32) => bd_2 (ff_M_must t x2 (3 : Int32) M) fun x3 M1 =>
  if x3 = 0 then (some M1) else ((ff_M_goesOn t M1).bind fun M2 =>
  jp_J (α := Int32 → mm_T → Option (mm_T)) (fun (x4 : Int32) (M3 : mm_T) => jp_J (α := Int32 → mm_T → Option (mm_T)) (fun (x5 : Int32) (M4 : mm_T) => jp_J (α := Int32 → mm_T → Option (mm_T)) (fun (x6 : Int32) (M5 : mm_T) => jp_J (α := Int32 → mm_T → Option (mm_T)) (fun (x7 : Int32) (M6 : mm_T) => (ff_M_endsLine t M6).bind fun M7 =>
  (gf_I M7 t 11 16).bind fun x8 =>
  if x8 = 0 then ((ff_M_newItem t a1 x4 x5 x6 x7 M7).bind fun M8 =>
  some M8) else (some M7)) fun j89 =>
  if a1 = (2 : Int32) then (bd_2 (ff_M_readsVariable t M5) fun x9 M9 =>
  j89 x9 M9) else (j89 (0 : Int32) M5)) fun j74 =>
  if a1 = (2 : Int32) then (bd_2 (ff_M_readsOperator t M4) fun x10 M10 =>
  j74 x10 M10) else (j74 (0 : Int32) M4)) fun j60 =>
  if a1 = 0 then (bd_2 (ff_M_reads t (999 : Int32) M3) fun x12 M12 =>
  j60 x12 M12) else (bd_2 (ff_M_readsVariable t M3) fun x11 M11 =>
  j60 x11 M11)) fun j41 =>
  if a1 = (3 : Int32) then (j41 (0 : Int32) M2) else (bd_2 (ff_M_readsVariable t M2) fun x13 M13 =>
  j41 x13 M13))) fun j16 =>
  if (40 : Int32) ≤ x1 then (j16 (0 : Int32)) else (j16 (1 : Int32)))

def ff_M_readsWay (t : Nat) (a1 : Int32) (M : mm_T) : Option (Int32 × mm_T) :=
  gd_G M t 11 (
  (gf_R M t 11 22).bind fun x1 =>
  (ff_M_get t (0 : Int32) M).bind fun x2 =>
  (gf_I M t 11 19).bind fun x3 =>
  (aw_I M x1 (((2 : Int32) * (x2 - (1 : Int32))) + a1) x3).bind fun M1 =>
  bd_2 (ff_M_reads t (11 : Int32) M1) fun x4 M2 =>
  some (x4, M2))

def ff_M_readsExit (t : Nat) (M : mm_T) : Option (mm_T) :=
  gd_G M t 11 (
  (ff_M_get t (0 : Int32) M).bind fun x1 =>
  (some (x1 - (1 : Int32))).bind fun x2 =>
  (ff_M_isWord t (st_B + 9) M).bind fun x3 =>
  jp_J (α := Int32 → Option (mm_T)) (fun (x4 : Int32) => jp_J (α := Int32 → Option (mm_T)) (fun (x5 : Int32) => bd_2 (ff_M_must t x5 (1 : Int32) M) fun x6 M1 =>
  if x6 = 0 then (some M1) else ((ff_M_goesOn t M1).bind fun M2 =>
  jp_J (α := Int32 → mm_T → Option (mm_T)) (fun (x7 : Int32) (M3 : mm_T) => jp_J (α := Int32 → mm_T → Option (mm_T)) (fun (x8 : Int32) (M4 : mm_T) => jp_J (α := Int32 → mm_T → Option (mm_T)) (fun (x9 : Int32) (M5 : mm_T) => (ff_M_endsLine t M5).bind fun M6 =>
  (gf_I M6 t 11 16).bind fun x10 =>
  if x10 = 0 then ((ff_M_exits t x2 x4 x7 x8 x9 M6).bind fun M7 =>
  some M7) else (some M6)) fun j114 =>
  if x4 = (2 : Int32) then (bd_2 (ff_M_readsWay t (1 : Int32) M4) fun x11 M8 =>
  j114 x11 M8) else (j114 (0 : Int32) M4)) fun j98 =>
  if x4 = 0 then (j98 (0 : Int32) M3) else (bd_2 (ff_M_readsWay t (0 : Int32) M3) fun x12 M9 =>
  j98 x12 M9)) fun j84 =>
  if x4 = (2 : Int32) then (bd_2 (ff_M_readsVariable t M2) fun x13 M10 =>
  j84 x13 M10) else (j84 (0 : Int32) M2))) fun j59 =>
  jp_J (α := Option (mm_T)) (j59 (1 : Int32)) fun j54 =>
  if x4 = (2 : Int32) then ((ff_M_isWord t (st_B + 11) M).bind fun x14 =>
  if x14 = 0 then (j59 (0 : Int32)) else (j54)) else (j54)) fun j37 =>
  if x3 = 0 then ((ff_M_isWord t (st_B + 10) M).bind fun x15 =>
  if x15 = 0 then (j37 (2 : Int32)) else (j37 (1 : Int32))) else (j37 (0 : Int32)))

def lb_M_readsBlock_64 (k0 : mm_T → Option (mm_T)) (p0 : Nat) (rec : Int32 → mm_T → Option (mm_T)) (q1 : Int32) (N : mm_T) : Option (mm_T) :=
  if q1 = (-1 : Int32) then (k0 N) else ((gf_I N p0 11 16).bind fun x8 =>
  if x8 = 0 then ((ff_M_readsItem p0 q1 N).bind fun M6 =>
  (ff_M_kindHere p0 M6).bind fun x9 =>
  rec x9 M6) else (k0 N))
def lf_M_readsBlock_64 (k0 : mm_T → Option (mm_T)) (p0 : Nat) : Nat → Int32 → mm_T → Option (mm_T)
  | 0, _, _ => none
  | fu + 1, q1, N => lb_M_readsBlock_64 k0 p0 (lf_M_readsBlock_64 k0 p0 fu) q1 N
def ff_M_readsBlock (t : Nat) (M : mm_T) : Option (mm_T) :=
  gd_G M t 11 (
  (ff_M_isWord t (st_B + 1) M).bind fun x1 =>
  bd_2 (ff_M_must t x1 (1 : Int32) M) fun x2 M1 =>
  if x2 = 0 then (some M1) else ((ff_M_get t (0 : Int32) M1).bind fun x3 =>
  jp_J (α := Int32 → Option (mm_T)) (fun (x4 : Int32) => bd_2 (ff_M_must t x4 (3 : Int32) M1) fun x5 M2 =>
  if x5 = 0 then (some M2) else ((ff_M_goesOn t M2).bind fun M3 =>
  (ff_M_endsLine t M3).bind fun M4 =>
  (gf_I M4 t 11 16).bind fun x6 =>
  if x6 = 0 then ((ff_M_newBlock t M4).bind fun M5 =>
  (ff_M_kindHere t M5).bind fun x7 =>
  lf_M_readsBlock_64 (fun (M7 : mm_T) => (gf_I M7 t 11 16).bind fun x10 =>
  if x10 = 0 then ((ff_M_readsExit t M7).bind fun M8 =>
  some M8) else (some M7)) t fu_L x7 M5) else (some M4))) fun j31 =>
  if (12 : Int32) ≤ x3 then (j31 (0 : Int32)) else (j31 (1 : Int32))))

def lb_M_checksWays_13 (k0 : mm_T → Option (mm_T)) (p0 : Nat) (p1 : Int32) (rec : Int32 → mm_T → Option (mm_T)) (q2 : Int32) (N : mm_T) : Option (mm_T) :=
  (ff_M_ways p0 p1 N).bind fun x2 =>
  if x2 ≤ q2 then (k0 N) else ((gf_I N p0 11 16).bind fun x3 =>
  jp_J (α := mm_T → Option (mm_T)) (fun  (M1 : mm_T) => (some (q2 + (1 : Int32))).bind fun x4 =>
  rec x4 M1) fun j65 =>
  if x3 = 0 then ((ff_M_way p0 p1 q2 N).bind fun x5 =>
  (ff_M_get p0 (0 : Int32) N).bind fun x6 =>
  if x6 ≤ x5 then ((pf_I N p0 11 16 (4 : Int32)).bind fun M2 =>
  (gf_R M2 p0 11 22).bind fun x7 =>
  (ar_I M2 x7 (((2 : Int32) * p1) + q2)).bind fun x8 =>
  (pf_I M2 p0 11 17 x8).bind fun M3 =>
  j65 M3) else (j65 N)) else (j65 N))
def lf_M_checksWays_13 (k0 : mm_T → Option (mm_T)) (p0 : Nat) (p1 : Int32) : Nat → Int32 → mm_T → Option (mm_T)
  | 0, _, _ => none
  | fu + 1, q2, N => lb_M_checksWays_13 k0 p0 p1 (lf_M_checksWays_13 k0 p0 p1 fu) q2 N
def lb_M_checksWays_2 (p0 : Nat) (rec : Int32 → mm_T → Option (mm_T)) (q1 : Int32) (N : mm_T) : Option (mm_T) :=
  (ff_M_get p0 (0 : Int32) N).bind fun x1 =>
  if x1 ≤ q1 then (some N) else (lf_M_checksWays_13 (fun (M4 : mm_T) => (some (q1 + (1 : Int32))).bind fun x9 =>
  rec x9 M4) p0 q1 fu_L (0 : Int32) N)
def lf_M_checksWays_2 (p0 : Nat) : Nat → Int32 → mm_T → Option (mm_T)
  | 0, _, _ => none
  | fu + 1, q1, N => lb_M_checksWays_2 p0 (lf_M_checksWays_2 p0 fu) q1 N
def ff_M_checksWays (t : Nat) (M : mm_T) : Option (mm_T) :=
  gd_G M t 11 (
  lf_M_checksWays_2  t fu_L (0 : Int32) M)

def lb_M_loadProgram_13 (k0 : mm_T → Option (Int32 × mm_T)) (p0 : Nat) (rec : Int32 → mm_T → Option (Int32 × mm_T)) (q1 : Int32) (N : mm_T) : Option (Int32 × mm_T) :=
  if (262 : Int32) ≤ q1 then (k0 N) else ((ff_M_lay p0 q1 (0 : Int32) N).bind fun M3 =>
  (some (q1 + (1 : Int32))).bind fun x1 =>
  rec x1 M3)
def lf_M_loadProgram_13 (k0 : mm_T → Option (Int32 × mm_T)) (p0 : Nat) : Nat → Int32 → mm_T → Option (Int32 × mm_T)
  | 0, _, _ => none
  | fu + 1, q1, N => lb_M_loadProgram_13 k0 p0 (lf_M_loadProgram_13 k0 p0 fu) q1 N
def lb_M_loadProgram_51 (k0 : mm_T → Option (Int32 × mm_T)) (p0 : Nat) (rec : mm_T → Option (Int32 × mm_T)) (N : mm_T) : Option (Int32 × mm_T) :=
  (gf_I N p0 11 16).bind fun x2 =>
  if x2 = 0 then ((ff_M_get p0 (0 : Int32) N).bind fun x3 =>
  jp_J (α := Option (Int32 × mm_T)) ((ff_M_readsBlock p0 N).bind fun M9 =>
  rec M9) fun j73 =>
  if x3 = 0 then (j73) else ((gf_I N p0 11 20).bind fun x4 =>
  if x4 = 0 then (k0 N) else (j73))) else (k0 N)
def lf_M_loadProgram_51 (k0 : mm_T → Option (Int32 × mm_T)) (p0 : Nat) : Nat → mm_T → Option (Int32 × mm_T)
  | 0, _ => none
  | fu + 1, N => lb_M_loadProgram_51 k0 p0 (lf_M_loadProgram_51 k0 p0 fu) N
def ff_M_loadProgram (t : Nat) (M : mm_T) : Option (Int32 × mm_T) :=
  gd_G M t 11 (
  (pf_I M t 11 4 (0 : Int32)).bind fun M1 =>
  (pf_I M1 t 11 2 (9 : Int32)).bind fun M2 =>
  lf_M_loadProgram_13 (fun (M4 : mm_T) => (pf_I M4 t 11 16 (0 : Int32)).bind fun M5 =>
  (pf_I M5 t 11 17 (-1 : Int32)).bind fun M6 =>
  (pf_I M6 t 11 18 (0 : Int32)).bind fun M7 =>
  (ff_M_next t M7).bind fun M8 =>
  lf_M_loadProgram_51 (fun (M10 : mm_T) => (gf_I M10 t 11 16).bind fun x5 =>
  jp_J (α := mm_T → Option (Int32 × mm_T)) (fun  (M11 : mm_T) => (pf_I M11 t 11 2 (0 : Int32)).bind fun M12 =>
  (pf_I M12 t 11 15 (0 : Int32)).bind fun M13 =>
  (gf_I M13 t 11 16).bind fun x6 =>
  if x6 = 0 then ((ff_M_copies t (9 : Int32) (0 : Int32) M13).bind fun M14 =>
  (pf_I M14 t 11 3 (0 : Int32)).bind fun M15 =>
  (ff_M_get t (0 : Int32) M15).bind fun x7 =>
  some (x7, M15)) else (some ((-1 : Int32), M13))) fun j91 =>
  if x5 = 0 then ((ff_M_checksWays t M10).bind fun M16 =>
  j91 M16) else (j91 M10)) t fu_L M8) t fu_L (0 : Int32) M2)

def ff_M_errorCode (t : Nat) (M : mm_T) : Option (Int32 × mm_T) :=
  gd_G M t 11 (
  (pf_I M t 11 4 (0 : Int32)).bind fun M1 =>
  (gf_I M1 t 11 16).bind fun x1 =>
  some (x1, M1))

def ff_M_errorPosition (t : Nat) (M : mm_T) : Option (Int32 × mm_T) :=
  gd_G M t 11 (
  (pf_I M t 11 4 (0 : Int32)).bind fun M1 =>
  (gf_I M1 t 11 17).bind fun x1 =>
  some (x1, M1))

def ff_M_isBlock (t : Nat) (a1 : Int32) (M : mm_T) : Option (Int32 × mm_T) :=
  gd_G M t 11 (
  (pf_I M t 11 4 (0 : Int32)).bind fun M1 =>
  (ff_M_get t (0 : Int32) M1).bind fun x1 =>
  (ff_M_in a1 (0 : Int32) (x1 - (1 : Int32)) M1).bind fun x2 =>
  if x2 = 0 then ((pf_I M1 t 11 4 (1 : Int32)).bind fun M2 =>
  some ((0 : Int32), M2)) else (some ((1 : Int32), M1)))

def ff_M_isItem (t : Nat) (a1 : Int32) (M : mm_T) : Option (Int32 × mm_T) :=
  gd_G M t 11 (
  (pf_I M t 11 4 (0 : Int32)).bind fun M1 =>
  (ff_M_get t (1 : Int32) M1).bind fun x1 =>
  (ff_M_in a1 (0 : Int32) (x1 - (1 : Int32)) M1).bind fun x2 =>
  if x2 = 0 then ((pf_I M1 t 11 4 (1 : Int32)).bind fun M2 =>
  some ((0 : Int32), M2)) else (some ((1 : Int32), M1)))

def ff_M_isVariable (t : Nat) (a1 : Int32) (a2 : Int32) (M : mm_T) : Option (Int32 × mm_T) :=
  gd_G M t 11 (
  (ff_M_in a1 (0 : Int32) (7 : Int32) M).bind fun x1 =>
  if x1 = 0 then ((pf_I M t 11 4 a2).bind fun M1 =>
  some ((0 : Int32), M1)) else (some ((1 : Int32), M)))

def ff_M_blockCount (t : Nat) (M : mm_T) : Option (Int32 × mm_T) :=
  gd_G M t 11 (
  (pf_I M t 11 4 (0 : Int32)).bind fun M1 =>
  (ff_M_get t (0 : Int32) M1).bind fun x1 =>
  some (x1, M1))

def ff_M_instructionCount (t : Nat) (M : mm_T) : Option (Int32 × mm_T) :=
  gd_G M t 11 (
  (pf_I M t 11 4 (0 : Int32)).bind fun M1 =>
  (ff_M_get t (1 : Int32) M1).bind fun x1 =>
  some (x1, M1))

def ff_M_instructionsIn (t : Nat) (a1 : Int32) (M : mm_T) : Option (Int32 × mm_T) :=
  gd_G M t 11 (
  bd_2 (ff_M_isBlock t a1 M) fun x1 M1 =>
  if x1 = 0 then (some ((0 : Int32), M1)) else ((ff_M_bl t a1 (0 : Int32) M1).bind fun x2 =>
  some (x2, M1)))

def ff_M_blockOf (t : Nat) (a1 : Int32) (M : mm_T) : Option (Int32 × mm_T) :=
  gd_G M t 11 (
  bd_2 (ff_M_isItem t a1 M) fun x1 M1 =>
  if x1 = 0 then (some ((0 : Int32), M1)) else ((ff_M_blockAt t a1 M1).bind fun x2 =>
  some (x2, M1)))

def ff_M_kindOf (t : Nat) (a1 : Int32) (M : mm_T) : Option (Int32 × mm_T) :=
  gd_G M t 11 (
  bd_2 (ff_M_isItem t a1 M) fun x1 M1 =>
  if x1 = 0 then (some ((0 : Int32), M1)) else ((ff_M_it t a1 (0 : Int32) M1).bind fun x2 =>
  some (x2, M1)))

def ff_M_successor (t : Nat) (a1 : Int32) (a2 : Int32) (M : mm_T) : Option (Int32 × mm_T) :=
  gd_G M t 11 (
  bd_2 (ff_M_isBlock t a1 M) fun x1 M1 =>
  if x1 = 0 then (some ((0 : Int32), M1)) else (jp_J (α := Option (Int32 × mm_T)) ((pf_I M1 t 11 4 (2 : Int32)).bind fun M2 =>
  some ((0 : Int32), M2)) fun j23 =>
  if a2 < 0 then (j23) else ((ff_M_ways t a1 M1).bind fun x2 =>
  if a2 < x2 then ((ff_M_way t a1 a2 M1).bind fun x3 =>
  some (x3, M1)) else (j23))))

def lb_M_predecessors_14 (p0 : Nat) (p1 : Int32) (M : mm_T) (rec : Int32 → Int32 → Option (Int32 × mm_T)) (q2 : Int32) (q3 : Int32) : Option (Int32 × mm_T) :=
  (ff_M_get p0 (0 : Int32) M).bind fun x2 =>
  if x2 ≤ q3 then (some (q2, M)) else ((ff_M_leads p0 q3 p1 M).bind fun x3 =>
  (ff_M_one x3 M).bind fun x4 =>
  (some (q2 + x4)).bind fun x5 =>
  (some (q3 + (1 : Int32))).bind fun x6 =>
  rec x5 x6)
def lf_M_predecessors_14 (p0 : Nat) (p1 : Int32) (M : mm_T) : Nat → Int32 → Int32 → Option (Int32 × mm_T)
  | 0, _, _ => none
  | fu + 1, q2, q3 => lb_M_predecessors_14 p0 p1 M (lf_M_predecessors_14 p0 p1 M fu) q2 q3
def ff_M_predecessors (t : Nat) (a1 : Int32) (M : mm_T) : Option (Int32 × mm_T) :=
  gd_G M t 11 (
  bd_2 (ff_M_isBlock t a1 M) fun x1 M1 =>
  if x1 = 0 then (some ((0 : Int32), M1)) else (lf_M_predecessors_14  t a1 M1 fu_L (0 : Int32) (0 : Int32)))

def ff_M_isReachable (t : Nat) (a1 : Int32) (M : mm_T) : Option (Int32 × mm_T) :=
  gd_G M t 11 (
  bd_2 (ff_M_isBlock t a1 M) fun x1 M1 =>
  if x1 = 0 then (some ((0 : Int32), M1)) else (bd_2 (ff_M_isReached t a1 (-1 : Int32) M1) fun x2 M2 =>
  (zb_Z x2).bind fun w => some (w, M2)))

def lb_M_distanceTo_69 (k0 : mm_T → Option (Int32 × mm_T)) (p0 : Nat) (p1 : Int32) (p2 : Nat) (p3 : Int32) (p4 : Nat) (p5 : Int32) (rec : Int32 → mm_T → Option (Int32 × mm_T)) (q6 : Int32) (N : mm_T) : Option (Int32 × mm_T) :=
  (ff_M_ways p0 p5 N).bind fun x8 =>
  if x8 ≤ q6 then (k0 N) else ((ar_Z N p2 p5).bind fun x9 =>
  if x9 = 0 then (k0 N) else ((ff_M_way p0 p5 q6 N).bind fun x10 =>
  (aw_Z N p4 x10 (1 : Int32)).bind fun M6 =>
  (some (q6 + (1 : Int32))).bind fun x11 =>
  rec x11 M6))
def lf_M_distanceTo_69 (k0 : mm_T → Option (Int32 × mm_T)) (p0 : Nat) (p1 : Int32) (p2 : Nat) (p3 : Int32) (p4 : Nat) (p5 : Int32) : Nat → Int32 → mm_T → Option (Int32 × mm_T)
  | 0, _, _ => none
  | fu + 1, q6, N => lb_M_distanceTo_69 k0 p0 p1 p2 p3 p4 p5 (lf_M_distanceTo_69 k0 p0 p1 p2 p3 p4 p5 fu) q6 N
def lb_M_distanceTo_44 (k0 : mm_T → Option (Int32 × mm_T)) (p0 : Nat) (p1 : Int32) (p2 : Nat) (p3 : Int32) (p4 : Nat) (rec : Int32 → mm_T → Option (Int32 × mm_T)) (q5 : Int32) (N : mm_T) : Option (Int32 × mm_T) :=
  (ff_M_get p0 (0 : Int32) N).bind fun x5 =>
  if x5 ≤ q5 then (k0 N) else ((ar_Z N p4 q5).bind fun x6 =>
  (ar_Z N p2 q5).bind fun x7 =>
  (aw_Z N p4 q5 (x6 ||| x7)).bind fun M5 =>
  lf_M_distanceTo_69 (fun (M7 : mm_T) => (some (q5 + (1 : Int32))).bind fun x12 =>
  rec x12 M7) p0 p1 p2 p3 p4 q5 fu_L (0 : Int32) M5)
def lf_M_distanceTo_44 (k0 : mm_T → Option (Int32 × mm_T)) (p0 : Nat) (p1 : Int32) (p2 : Nat) (p3 : Int32) (p4 : Nat) : Nat → Int32 → mm_T → Option (Int32 × mm_T)
  | 0, _, _ => none
  | fu + 1, q5, N => lb_M_distanceTo_44 k0 p0 p1 p2 p3 p4 (lf_M_distanceTo_44 k0 p0 p1 p2 p3 p4 fu) q5 N
def lb_M_distanceTo_21 (p0 : Nat) (p1 : Int32) (rec : Nat → Int32 → mm_T → Option (Int32 × mm_T)) (q2 : Nat) (q3 : Int32) (N : mm_T) : Option (Int32 × mm_T) :=
  if (12 : Int32) ≤ q3 then (some ((-1 : Int32), N)) else ((ar_Z N q2 p1).bind fun x3 =>
  if x3 = 0 then (bd_2 (na_K 22 N (12 : Int32)) fun x4 M4 =>
  lf_M_distanceTo_44 (fun (M8 : mm_T) => (some (q3 + (1 : Int32))).bind fun x13 =>
  rec x4 x13 M8) p0 p1 q2 q3 x4 fu_L (0 : Int32) M4) else (some (q3, N)))
def lf_M_distanceTo_21 (p0 : Nat) (p1 : Int32) : Nat → Nat → Int32 → mm_T → Option (Int32 × mm_T)
  | 0, _, _, _ => none
  | fu + 1, q2, q3, N => lb_M_distanceTo_21 p0 p1 (lf_M_distanceTo_21 p0 p1 fu) q2 q3 N
def ff_M_distanceTo (t : Nat) (a1 : Int32) (M : mm_T) : Option (Int32 × mm_T) :=
  gd_G M t 11 (
  bd_2 (ff_M_isBlock t a1 M) fun x1 M1 =>
  if x1 = 0 then (some ((0 : Int32), M1)) else (bd_2 (na_K 22 M1 (12 : Int32)) fun x2 M2 =>
  (aw_Z M2 x2 (0 : Int32) (1 : Int32)).bind fun M3 =>
  lf_M_distanceTo_21  t a1 fu_L x2 (0 : Int32) M3))

def ff_M_reaches (t : Nat) (a1 : Int32) (a2 : Int32) (M : mm_T) : Option (Int32 × mm_T) :=
  gd_G M t 11 (
  bd_2 (ff_M_isItem t a1 M) fun x1 M1 =>
  if x1 = 0 then (some ((0 : Int32), M1)) else (bd_2 (ff_M_isBlock t a2 M1) fun x2 M2 =>
  if x2 = 0 then (some ((0 : Int32), M2)) else (bd_2 (ff_M_reachesStart t a1 a2 M2) fun x3 M3 =>
  (zb_Z x3).bind fun w => some (w, M3))))

def lb_M_reachingDefinitions_24 (p0 : Nat) (p1 : Int32) (p2 : Int32) (rec : Int32 → Int32 → mm_T → Option (Int32 × mm_T)) (q3 : Int32) (q4 : Int32) (N : mm_T) : Option (Int32 × mm_T) :=
  (ff_M_get p0 (1 : Int32) N).bind fun x3 =>
  if x3 ≤ q4 then (some (q3, N)) else ((ff_M_defines p0 q4 p2 N).bind fun x4 =>
  jp_J (α := Int32 → mm_T → Option (Int32 × mm_T)) (fun (x5 : Int32) (M3 : mm_T) => (ff_M_one x5 M3).bind fun x6 =>
  (some (q3 + x6)).bind fun x7 =>
  (some (q4 + (1 : Int32))).bind fun x8 =>
  rec x7 x8 M3) fun j60 =>
  jp_J (α := mm_T → Option (Int32 × mm_T)) (fun  (M4 : mm_T) => j60 (0 : Int32) M4) fun j59 =>
  if x4 = 0 then (j59 N) else (bd_2 (ff_M_reachesStart p0 q4 p1 N) fun x9 M5 =>
  if x9 = 0 then (j59 M5) else (j60 (1 : Int32) M5)))
def lf_M_reachingDefinitions_24 (p0 : Nat) (p1 : Int32) (p2 : Int32) : Nat → Int32 → Int32 → mm_T → Option (Int32 × mm_T)
  | 0, _, _, _ => none
  | fu + 1, q3, q4, N => lb_M_reachingDefinitions_24 p0 p1 p2 (lf_M_reachingDefinitions_24 p0 p1 p2 fu) q3 q4 N
def ff_M_reachingDefinitions (t : Nat) (a1 : Int32) (a2 : Int32) (M : mm_T) : Option (Int32 × mm_T) :=
  gd_G M t 11 (
  bd_2 (ff_M_isBlock t a1 M) fun x1 M1 =>
  if x1 = 0 then (some ((0 : Int32), M1)) else (bd_2 (ff_M_isVariable t a2 (2 : Int32) M1) fun x2 M2 =>
  if x2 = 0 then (some ((0 : Int32), M2)) else (lf_M_reachingDefinitions_24  t a1 a2 fu_L (0 : Int32) (0 : Int32) M2)))

def ff_M_isInitialReaching (t : Nat) (a1 : Int32) (a2 : Int32) (M : mm_T) : Option (Int32 × mm_T) :=
  gd_G M t 11 (
  bd_2 (ff_M_isBlock t a1 M) fun x1 M1 =>
  if x1 = 0 then (some ((0 : Int32), M1)) else (bd_2 (ff_M_isVariable t a2 (2 : Int32) M1) fun x2 M2 =>
  if x2 = 0 then (some ((0 : Int32), M2)) else (bd_2 (ff_M_isFirstAt t a1 a2 M2) fun x3 M3 =>
  (zb_Z x3).bind fun w => some (w, M3))))

def lb_M_usesOf_50 (k0 : Int32 → mm_T → Option (Int32 × mm_T)) (p0 : Nat) (p1 : Int32) (p2 : Int32) (p4 : Int32) (rec : Int32 → Int32 → mm_T → Option (Int32 × mm_T)) (q3 : Int32) (q5 : Int32) (N : mm_T) : Option (Int32 × mm_T) :=
  (ff_M_endOf p0 p4 N).bind fun x6 =>
  if x6 ≤ q5 then (k0 q3 N) else ((ff_M_uses p0 q5 p2 N).bind fun x7 =>
  jp_J (α := Int32 → mm_T → Option (Int32 × mm_T)) (fun (x8 : Int32) (M2 : mm_T) => (ff_M_one x8 M2).bind fun x9 =>
  (some (q3 + x9)).bind fun x10 =>
  (some (q5 + (1 : Int32))).bind fun x11 =>
  rec x10 x11 M2) fun j89 =>
  jp_J (α := mm_T → Option (Int32 × mm_T)) (fun  (M3 : mm_T) => j89 (0 : Int32) M3) fun j88 =>
  if x7 = 0 then (j88 N) else (bd_2 (ff_M_reachesPlace p0 p1 p4 q5 N) fun x12 M4 =>
  if x12 = 0 then (j88 M4) else (j89 (1 : Int32) M4)))
def lf_M_usesOf_50 (k0 : Int32 → mm_T → Option (Int32 × mm_T)) (p0 : Nat) (p1 : Int32) (p2 : Int32) (p4 : Int32) : Nat → Int32 → Int32 → mm_T → Option (Int32 × mm_T)
  | 0, _, _, _ => none
  | fu + 1, q3, q5, N => lb_M_usesOf_50 k0 p0 p1 p2 p4 (lf_M_usesOf_50 k0 p0 p1 p2 p4 fu) q3 q5 N
def lb_M_usesOf_32 (p0 : Nat) (p1 : Int32) (p2 : Int32) (rec : Int32 → Int32 → mm_T → Option (Int32 × mm_T)) (q3 : Int32) (q4 : Int32) (N : mm_T) : Option (Int32 × mm_T) :=
  (ff_M_get p0 (0 : Int32) N).bind fun x4 =>
  if x4 ≤ q4 then (some (q3, N)) else ((ff_M_firstOf p0 q4 N).bind fun x5 =>
  lf_M_usesOf_50 (fun (x13 : Int32) (M5 : mm_T) => (ff_M_usesAtExit p0 q4 p2 M5).bind fun x14 =>
  jp_J (α := Int32 → mm_T → Option (Int32 × mm_T)) (fun (x15 : Int32) (M6 : mm_T) => (ff_M_one x15 M6).bind fun x16 =>
  (some (x13 + x16)).bind fun x17 =>
  (some (q4 + (1 : Int32))).bind fun x18 =>
  rec x17 x18 M6) fun j132 =>
  jp_J (α := mm_T → Option (Int32 × mm_T)) (fun  (M7 : mm_T) => j132 (0 : Int32) M7) fun j131 =>
  if x14 = 0 then (j131 M5) else ((ff_M_endOf p0 q4 M5).bind fun x19 =>
  bd_2 (ff_M_reachesPlace p0 p1 q4 x19 M5) fun x20 M8 =>
  if x20 = 0 then (j131 M8) else (j132 (1 : Int32) M8))) p0 p1 p2 q4 fu_L q3 x5 N)
def lf_M_usesOf_32 (p0 : Nat) (p1 : Int32) (p2 : Int32) : Nat → Int32 → Int32 → mm_T → Option (Int32 × mm_T)
  | 0, _, _, _ => none
  | fu + 1, q3, q4, N => lb_M_usesOf_32 p0 p1 p2 (lf_M_usesOf_32 p0 p1 p2 fu) q3 q4 N
def ff_M_usesOf (t : Nat) (a1 : Int32) (M : mm_T) : Option (Int32 × mm_T) :=
  gd_G M t 11 (
  bd_2 (ff_M_isItem t a1 M) fun x1 M1 =>
  if x1 = 0 then (some ((0 : Int32), M1)) else ((ff_M_isDefinition t a1 M1).bind fun x2 =>
  if x2 = 0 then (some ((0 : Int32), M1)) else ((ff_M_it t a1 (1 : Int32) M1).bind fun x3 =>
  lf_M_usesOf_32  t a1 x3 fu_L (0 : Int32) (0 : Int32) M1)))

def lb_M_onlyDefinition_98 (k0 : Int32 → Int32 → mm_T → Option (Int32 × mm_T)) (p0 : Nat) (p1 : Int32) (p4 : Int32) (p5 : Int32) (rec : Int32 → Int32 → Int32 → mm_T → Option (Int32 × mm_T)) (q6 : Int32) (q7 : Int32) (q8 : Int32) (N : mm_T) : Option (Int32 × mm_T) :=
  (ff_M_get p0 (1 : Int32) N).bind fun x9 =>
  if x9 ≤ q8 then (k0 q6 q7 N) else ((ff_M_defines p0 q8 p4 N).bind fun x10 =>
  jp_J (α := Int32 → Int32 → mm_T → Option (Int32 × mm_T)) (fun (x11 : Int32) (x12 : Int32) (M4 : mm_T) => (some (q8 + (1 : Int32))).bind fun x13 =>
  rec x11 x12 x13 M4) fun j141 =>
  if x10 = 0 then (j141 q6 q7 N) else (bd_2 (ff_M_reachesPlace p0 q8 p5 p1 N) fun x14 M5 =>
  if x14 = 0 then (j141 q6 q7 M5) else ((some (q7 + (1 : Int32))).bind fun x15 =>
  j141 q8 x15 M5)))
def lf_M_onlyDefinition_98 (k0 : Int32 → Int32 → mm_T → Option (Int32 × mm_T)) (p0 : Nat) (p1 : Int32) (p4 : Int32) (p5 : Int32) : Nat → Int32 → Int32 → Int32 → mm_T → Option (Int32 × mm_T)
  | 0, _, _, _, _ => none
  | fu + 1, q6, q7, q8, N => lb_M_onlyDefinition_98 k0 p0 p1 p4 p5 (lf_M_onlyDefinition_98 k0 p0 p1 p4 p5 fu) q6 q7 q8 N
def ff_M_onlyDefinition (t : Nat) (a1 : Int32) (a2 : Int32) (M : mm_T) : Option (Int32 × mm_T) :=
  gd_G M t 11 (
  bd_2 (ff_M_isItem t a1 M) fun x1 M1 =>
  if x1 = 0 then (some ((0 : Int32), M1)) else ((ff_M_it t a1 (0 : Int32) M1).bind fun x2 =>
  jp_J (α := Int32 → Option (Int32 × mm_T)) (fun (x3 : Int32) => jp_J (α := Option (Int32 × mm_T)) ((pf_I M1 t 11 4 (2 : Int32)).bind fun M2 =>
  some ((0 : Int32), M2)) fun j48 =>
  if a2 < 0 then (j48) else (if a2 < x3 then (jp_J (α := Int32 → Option (Int32 × mm_T)) (fun (x4 : Int32) => (ff_M_it t a1 x4 M1).bind fun x5 =>
  (ff_M_blockAt t a1 M1).bind fun x6 =>
  bd_2 (ff_M_isFirstAtPlace t x6 a1 x5 M1) fun x7 M3 =>
  (ff_M_one x7 M3).bind fun x8 =>
  lf_M_onlyDefinition_98 (fun (x16 : Int32) (x17 : Int32) (M6 : mm_T) => if x17 = (1 : Int32) then (some (x16, M6)) else (some ((-1 : Int32), M6))) t a1 x5 x6 fu_L (-1 : Int32) x8 (0 : Int32) M3) fun j66 =>
  if a2 = 0 then (j66 (2 : Int32)) else (j66 (4 : Int32))) else (j48))) fun j38 =>
  if x2 = (2 : Int32) then (j38 (2 : Int32)) else ((ff_M_it t a1 (0 : Int32) M1).bind fun x18 =>
  if x18 = 0 then (j38 (0 : Int32)) else (j38 (1 : Int32)))))

def ff_M_isLiveIn (t : Nat) (a1 : Int32) (a2 : Int32) (M : mm_T) : Option (Int32 × mm_T) :=
  gd_G M t 11 (
  bd_2 (ff_M_isBlock t a1 M) fun x1 M1 =>
  if x1 = 0 then (some ((0 : Int32), M1)) else (bd_2 (ff_M_isVariable t a2 (2 : Int32) M1) fun x2 M2 =>
  if x2 = 0 then (some ((0 : Int32), M2)) else ((ff_M_firstOf t a1 M2).bind fun x3 =>
  bd_2 (ff_M_isLiveAt t a1 x3 a2 M2) fun x4 M3 =>
  (zb_Z x4).bind fun w => some (w, M3))))

def ff_M_isLiveOut (t : Nat) (a1 : Int32) (a2 : Int32) (M : mm_T) : Option (Int32 × mm_T) :=
  gd_G M t 11 (
  bd_2 (ff_M_isBlock t a1 M) fun x1 M1 =>
  if x1 = 0 then (some ((0 : Int32), M1)) else (bd_2 (ff_M_isVariable t a2 (2 : Int32) M1) fun x2 M2 =>
  if x2 = 0 then (some ((0 : Int32), M2)) else (bd_2 (ff_M_isLiveBehind t a1 a2 M2) fun x3 M3 =>
  (zb_Z x3).bind fun w => some (w, M3))))

def ff_M_liveBefore (t : Nat) (a1 : Int32) (M : mm_T) : Option (Int32 × mm_T) :=
  gd_G M t 11 (
  bd_2 (ff_M_isItem t a1 M) fun x1 M1 =>
  if x1 = 0 then (some ((0 : Int32), M1)) else ((ff_M_blockAt t a1 M1).bind fun x2 =>
  bd_2 (ff_M_liveAt t x2 a1 M1) fun x3 M2 =>
  some (x3, M2)))

def ff_M_isDead (t : Nat) (a1 : Int32) (M : mm_T) : Option (Int32 × mm_T) :=
  gd_G M t 11 (
  bd_2 (ff_M_isItem t a1 M) fun x1 M1 =>
  if x1 = 0 then (some ((0 : Int32), M1)) else (bd_2 (ff_M_isDead0 t a1 M1) fun x2 M2 =>
  (zb_Z x2).bind fun w => some (w, M2)))

def lb_M_allDead_4 (p0 : Nat) (rec : Int32 → Int32 → mm_T → Option (Int32 × mm_T)) (q1 : Int32) (q2 : Int32) (N : mm_T) : Option (Int32 × mm_T) :=
  (ff_M_get p0 (1 : Int32) N).bind fun x1 =>
  if x1 ≤ q2 then (some (q1, N)) else (bd_2 (ff_M_isDead0 p0 q2 N) fun x2 M1 =>
  (ff_M_one x2 M1).bind fun x3 =>
  (some (q1 + x3)).bind fun x4 =>
  (some (q2 + (1 : Int32))).bind fun x5 =>
  rec x4 x5 M1)
def lf_M_allDead_4 (p0 : Nat) : Nat → Int32 → Int32 → mm_T → Option (Int32 × mm_T)
  | 0, _, _, _ => none
  | fu + 1, q1, q2, N => lb_M_allDead_4 p0 (lf_M_allDead_4 p0 fu) q1 q2 N
def ff_M_allDead (t : Nat) (M : mm_T) : Option (Int32 × mm_T) :=
  gd_G M t 11 (
  lf_M_allDead_4  t fu_L (0 : Int32) (0 : Int32) M)

def ff_M_deadDefinitions (t : Nat) (M : mm_T) : Option (Int32 × mm_T) :=
  gd_G M t 11 (
  (pf_I M t 11 4 (0 : Int32)).bind fun M1 =>
  bd_2 (ff_M_allDead t M1) fun x1 M2 =>
  some (x1, M2))

def lb_M_pressure_24 (k0 : Int32 → mm_T → Option (Int32 × mm_T)) (p0 : Nat) (p2 : Int32) (rec : Int32 → Int32 → mm_T → Option (Int32 × mm_T)) (q1 : Int32) (q3 : Int32) (N : mm_T) : Option (Int32 × mm_T) :=
  (ff_M_endOf p0 p2 N).bind fun x3 =>
  if x3 < q3 then (k0 q1 N) else (bd_2 (ff_M_liveAt p0 p2 q3 N) fun x4 M2 =>
  (ff_JM_max q1 x4 M2).bind fun x5 =>
  (some (q3 + (1 : Int32))).bind fun x6 =>
  rec x5 x6 M2)
def lf_M_pressure_24 (k0 : Int32 → mm_T → Option (Int32 × mm_T)) (p0 : Nat) (p2 : Int32) : Nat → Int32 → Int32 → mm_T → Option (Int32 × mm_T)
  | 0, _, _, _ => none
  | fu + 1, q1, q3, N => lb_M_pressure_24 k0 p0 p2 (lf_M_pressure_24 k0 p0 p2 fu) q1 q3 N
def lb_M_pressure_9 (p0 : Nat) (rec : Int32 → Int32 → mm_T → Option (Int32 × mm_T)) (q1 : Int32) (q2 : Int32) (N : mm_T) : Option (Int32 × mm_T) :=
  (ff_M_get p0 (0 : Int32) N).bind fun x1 =>
  if x1 ≤ q2 then (some (q1, N)) else ((ff_M_firstOf p0 q2 N).bind fun x2 =>
  lf_M_pressure_24 (fun (x7 : Int32) (M3 : mm_T) => (some (q2 + (1 : Int32))).bind fun x8 =>
  rec x7 x8 M3) p0 q2 fu_L q1 x2 N)
def lf_M_pressure_9 (p0 : Nat) : Nat → Int32 → Int32 → mm_T → Option (Int32 × mm_T)
  | 0, _, _, _ => none
  | fu + 1, q1, q2, N => lb_M_pressure_9 p0 (lf_M_pressure_9 p0 fu) q1 q2 N
def ff_M_pressure (t : Nat) (M : mm_T) : Option (Int32 × mm_T) :=
  gd_G M t 11 (
  (pf_I M t 11 4 (0 : Int32)).bind fun M1 =>
  lf_M_pressure_9  t fu_L (0 : Int32) (0 : Int32) M1)

def lb_M_hinders_2 (p0 : Nat) (p1 : Int32) (p2 : Int32) (rec : Int32 → mm_T → Option (Int32 × mm_T)) (q3 : Int32) (N : mm_T) : Option (Int32 × mm_T) :=
  (ff_M_get p0 (1 : Int32) N).bind fun x1 =>
  if x1 ≤ q3 then (some ((0 : Int32), N)) else ((ff_M_defines p0 q3 p1 N).bind fun x2 =>
  jp_J (α := mm_T → Option (Int32 × mm_T)) (fun  (M1 : mm_T) => (some (q3 + (1 : Int32))).bind fun x3 =>
  rec x3 M1) fun j61 =>
  if x2 = 0 then (j61 N) else ((ff_M_it p0 q3 (0 : Int32) N).bind fun x4 =>
  jp_J (α := Option (Int32 × mm_T)) ((ff_M_blockAt p0 q3 N).bind fun x5 =>
  bd_2 (ff_M_isLiveAt p0 x5 (q3 + (1 : Int32)) p2 N) fun x6 M2 =>
  if x6 = 0 then (j61 M2) else (some ((1 : Int32), M2))) fun j43 =>
  if x4 = (1 : Int32) then ((ff_M_it p0 q3 (2 : Int32) N).bind fun x7 =>
  if x7 = p2 then (j61 N) else (j43)) else (j43)))
def lf_M_hinders_2 (p0 : Nat) (p1 : Int32) (p2 : Int32) : Nat → Int32 → mm_T → Option (Int32 × mm_T)
  | 0, _, _ => none
  | fu + 1, q3, N => lb_M_hinders_2 p0 p1 p2 (lf_M_hinders_2 p0 p1 p2 fu) q3 N
def ff_M_hinders (t : Nat) (a1 : Int32) (a2 : Int32) (M : mm_T) : Option (Int32 × mm_T) :=
  gd_G M t 11 (
  lf_M_hinders_2  t a1 a2 fu_L (0 : Int32) M)

def ff_M_interfere (t : Nat) (a1 : Int32) (a2 : Int32) (M : mm_T) : Option (Int32 × mm_T) :=
  gd_G M t 11 (
  (pf_I M t 11 4 (0 : Int32)).bind fun M1 =>
  bd_2 (ff_M_isVariable t a1 (1 : Int32) M1) fun x1 M2 =>
  if x1 = 0 then (some ((0 : Int32), M2)) else (bd_2 (ff_M_isVariable t a2 (1 : Int32) M2) fun x2 M3 =>
  if x2 = 0 then (some ((0 : Int32), M3)) else (if a1 = a2 then (some ((0 : Int32), M3)) else (bd_2 (ff_M_hinders t a1 a2 M3) fun x3 M4 =>
  jp_J (α := mm_T → Option (Int32 × mm_T)) (fun  (M5 : mm_T) => some ((1 : Int32), M5)) fun j48 =>
  if x3 = 0 then (bd_2 (ff_M_hinders t a2 a1 M4) fun x4 M6 =>
  if x4 = 0 then (some ((0 : Int32), M6)) else (j48 M6)) else (j48 M4)))))

def lb_M_expressionCount_9 (p0 : Nat) (M : mm_T) (rec : Int32 → Int32 → Option (Int32 × mm_T)) (q1 : Int32) (q2 : Int32) : Option (Int32 × mm_T) :=
  (ff_M_get p0 (1 : Int32) M).bind fun x1 =>
  if x1 ≤ q2 then (some (q1, M)) else ((ff_M_isNewest p0 q2 M).bind fun x2 =>
  (ff_M_one x2 M).bind fun x3 =>
  (some (q1 + x3)).bind fun x4 =>
  (some (q2 + (1 : Int32))).bind fun x5 =>
  rec x4 x5)
def lf_M_expressionCount_9 (p0 : Nat) (M : mm_T) : Nat → Int32 → Int32 → Option (Int32 × mm_T)
  | 0, _, _ => none
  | fu + 1, q1, q2 => lb_M_expressionCount_9 p0 M (lf_M_expressionCount_9 p0 M fu) q1 q2
def ff_M_expressionCount (t : Nat) (M : mm_T) : Option (Int32 × mm_T) :=
  gd_G M t 11 (
  (pf_I M t 11 4 (0 : Int32)).bind fun M1 =>
  lf_M_expressionCount_9  t M1 fu_L (0 : Int32) (0 : Int32))

def ff_M_isRedundant (t : Nat) (a1 : Int32) (M : mm_T) : Option (Int32 × mm_T) :=
  gd_G M t 11 (
  bd_2 (ff_M_isItem t a1 M) fun x1 M1 =>
  if x1 = 0 then (some ((0 : Int32), M1)) else (bd_2 (ff_M_isRedundant0 t a1 M1) fun x2 M2 =>
  (zb_Z x2).bind fun w => some (w, M2)))

def lb_M_redundantCount_9 (p0 : Nat) (rec : Int32 → Int32 → mm_T → Option (Int32 × mm_T)) (q1 : Int32) (q2 : Int32) (N : mm_T) : Option (Int32 × mm_T) :=
  (ff_M_get p0 (1 : Int32) N).bind fun x1 =>
  if x1 ≤ q2 then (some (q1, N)) else (bd_2 (ff_M_isRedundant0 p0 q2 N) fun x2 M2 =>
  (ff_M_one x2 M2).bind fun x3 =>
  (some (q1 + x3)).bind fun x4 =>
  (some (q2 + (1 : Int32))).bind fun x5 =>
  rec x4 x5 M2)
def lf_M_redundantCount_9 (p0 : Nat) : Nat → Int32 → Int32 → mm_T → Option (Int32 × mm_T)
  | 0, _, _, _ => none
  | fu + 1, q1, q2, N => lb_M_redundantCount_9 p0 (lf_M_redundantCount_9 p0 fu) q1 q2 N
def ff_M_redundantCount (t : Nat) (M : mm_T) : Option (Int32 × mm_T) :=
  gd_G M t 11 (
  (pf_I M t 11 4 (0 : Int32)).bind fun M1 =>
  lf_M_redundantCount_9  t fu_L (0 : Int32) (0 : Int32) M1)

def lb_M_availableAt_14 (p0 : Nat) (p1 : Int32) (rec : Int32 → Int32 → mm_T → Option (Int32 × mm_T)) (q2 : Int32) (q3 : Int32) (N : mm_T) : Option (Int32 × mm_T) :=
  (ff_M_get p0 (1 : Int32) N).bind fun x2 =>
  if x2 ≤ q3 then (some (q2, N)) else ((ff_M_isNewest p0 q3 N).bind fun x3 =>
  jp_J (α := Int32 → mm_T → Option (Int32 × mm_T)) (fun (x4 : Int32) (M2 : mm_T) => (ff_M_one x4 M2).bind fun x5 =>
  (some (q2 + x5)).bind fun x6 =>
  (some (q3 + (1 : Int32))).bind fun x7 =>
  rec x6 x7 M2) fun j51 =>
  jp_J (α := mm_T → Option (Int32 × mm_T)) (fun  (M3 : mm_T) => j51 (0 : Int32) M3) fun j50 =>
  if x3 = 0 then (j50 N) else ((ff_M_firstOf p0 p1 N).bind fun x8 =>
  bd_2 (ff_M_isAvailable p0 q3 p1 x8 N) fun x9 M4 =>
  if x9 = 0 then (j50 M4) else (j51 (1 : Int32) M4)))
def lf_M_availableAt_14 (p0 : Nat) (p1 : Int32) : Nat → Int32 → Int32 → mm_T → Option (Int32 × mm_T)
  | 0, _, _, _ => none
  | fu + 1, q2, q3, N => lb_M_availableAt_14 p0 p1 (lf_M_availableAt_14 p0 p1 fu) q2 q3 N
def ff_M_availableAt (t : Nat) (a1 : Int32) (M : mm_T) : Option (Int32 × mm_T) :=
  gd_G M t 11 (
  bd_2 (ff_M_isBlock t a1 M) fun x1 M1 =>
  if x1 = 0 then (some ((0 : Int32), M1)) else (lf_M_availableAt_14  t a1 fu_L (0 : Int32) (0 : Int32) M1))

def ff_M_dominates (t : Nat) (a1 : Int32) (a2 : Int32) (M : mm_T) : Option (Int32 × mm_T) :=
  gd_G M t 11 (
  bd_2 (ff_M_isBlock t a1 M) fun x1 M1 =>
  if x1 = 0 then (some ((0 : Int32), M1)) else (bd_2 (ff_M_isBlock t a2 M1) fun x2 M2 =>
  if x2 = 0 then (some ((0 : Int32), M2)) else (bd_2 (ff_M_governs t a1 a2 M2) fun x3 M3 =>
  (zb_Z x3).bind fun w => some (w, M3))))

def lb_M_nearestGovernor_6 (p0 : Nat) (p1 : Int32) (p2 : Int32) (p3 : Int32) (rec : Int32 → Int32 → mm_T → Option (Int32 × mm_T)) (q4 : Int32) (q5 : Int32) (N : mm_T) : Option (Int32 × mm_T) :=
  (ff_M_get p0 (0 : Int32) N).bind fun x1 =>
  if x1 ≤ q5 then (some (q4, N)) else (jp_J (α := Int32 → mm_T → Option (Int32 × mm_T)) (fun (x2 : Int32) (M1 : mm_T) => (some (q5 + (1 : Int32))).bind fun x3 =>
  rec x2 x3 M1) fun j70 =>
  if q5 = p3 then (j70 q4 N) else (bd_2 (ff_M_governs p0 q5 p1 N) fun x4 M2 =>
  if x4 = 0 then (j70 q4 M2) else (bd_2 (ff_M_governs p0 q5 p2 M2) fun x5 M3 =>
  if x5 = 0 then (j70 q4 M3) else (jp_J (α := mm_T → Option (Int32 × mm_T)) (fun  (M4 : mm_T) => j70 q5 M4) fun j66 =>
  if q4 = (-1 : Int32) then (j66 M3) else (bd_2 (ff_M_governors p0 q5 M3) fun x6 M5 =>
  bd_2 (ff_M_governors p0 q4 M5) fun x7 M6 =>
  if x6 ≤ x7 then (j70 q4 M6) else (j66 M6))))))
def lf_M_nearestGovernor_6 (p0 : Nat) (p1 : Int32) (p2 : Int32) (p3 : Int32) : Nat → Int32 → Int32 → mm_T → Option (Int32 × mm_T)
  | 0, _, _, _ => none
  | fu + 1, q4, q5, N => lb_M_nearestGovernor_6 p0 p1 p2 p3 (lf_M_nearestGovernor_6 p0 p1 p2 p3 fu) q4 q5 N
def ff_M_nearestGovernor (t : Nat) (a1 : Int32) (a2 : Int32) (a3 : Int32) (M : mm_T) : Option (Int32 × mm_T) :=
  gd_G M t 11 (
  lf_M_nearestGovernor_6  t a1 a2 a3 fu_L (-1 : Int32) (0 : Int32) M)

def ff_M_immediateDominator (t : Nat) (a1 : Int32) (M : mm_T) : Option (Int32 × mm_T) :=
  gd_G M t 11 (
  bd_2 (ff_M_isBlock t a1 M) fun x1 M1 =>
  if x1 = 0 then (some ((0 : Int32), M1)) else (bd_2 (ff_M_nearestGovernor t a1 a1 a1 M1) fun x2 M2 =>
  some (x2, M2)))

def ff_M_commonDominator (t : Nat) (a1 : Int32) (a2 : Int32) (M : mm_T) : Option (Int32 × mm_T) :=
  gd_G M t 11 (
  bd_2 (ff_M_isBlock t a1 M) fun x1 M1 =>
  if x1 = 0 then (some ((0 : Int32), M1)) else (bd_2 (ff_M_isBlock t a2 M1) fun x2 M2 =>
  if x2 = 0 then (some ((0 : Int32), M2)) else (bd_2 (ff_M_nearestGovernor t a1 a2 (-1 : Int32) M2) fun x3 M3 =>
  some (x3, M3))))

def lb_M_backEdges_20 (k0 : Int32 → mm_T → Option (Int32 × mm_T)) (p0 : Nat) (p2 : Int32) (rec : Int32 → Int32 → mm_T → Option (Int32 × mm_T)) (q1 : Int32) (q3 : Int32) (N : mm_T) : Option (Int32 × mm_T) :=
  (ff_M_get p0 (0 : Int32) N).bind fun x2 =>
  if x2 ≤ q3 then (k0 q1 N) else (bd_2 (ff_M_isBackEdge p0 p2 q3 N) fun x3 M2 =>
  (ff_M_one x3 M2).bind fun x4 =>
  (some (q1 + x4)).bind fun x5 =>
  (some (q3 + (1 : Int32))).bind fun x6 =>
  rec x5 x6 M2)
def lf_M_backEdges_20 (k0 : Int32 → mm_T → Option (Int32 × mm_T)) (p0 : Nat) (p2 : Int32) : Nat → Int32 → Int32 → mm_T → Option (Int32 × mm_T)
  | 0, _, _, _ => none
  | fu + 1, q1, q3, N => lb_M_backEdges_20 k0 p0 p2 (lf_M_backEdges_20 k0 p0 p2 fu) q1 q3 N
def lb_M_backEdges_9 (p0 : Nat) (rec : Int32 → Int32 → mm_T → Option (Int32 × mm_T)) (q1 : Int32) (q2 : Int32) (N : mm_T) : Option (Int32 × mm_T) :=
  (ff_M_get p0 (0 : Int32) N).bind fun x1 =>
  if x1 ≤ q2 then (some (q1, N)) else (lf_M_backEdges_20 (fun (x7 : Int32) (M3 : mm_T) => (some (q2 + (1 : Int32))).bind fun x8 =>
  rec x7 x8 M3) p0 q2 fu_L q1 (0 : Int32) N)
def lf_M_backEdges_9 (p0 : Nat) : Nat → Int32 → Int32 → mm_T → Option (Int32 × mm_T)
  | 0, _, _, _ => none
  | fu + 1, q1, q2, N => lb_M_backEdges_9 p0 (lf_M_backEdges_9 p0 fu) q1 q2 N
def ff_M_backEdges (t : Nat) (M : mm_T) : Option (Int32 × mm_T) :=
  gd_G M t 11 (
  (pf_I M t 11 4 (0 : Int32)).bind fun M1 =>
  lf_M_backEdges_9  t fu_L (0 : Int32) (0 : Int32) M1)

def lb_M_loopSize_14 (p0 : Nat) (p1 : Int32) (rec : Int32 → Int32 → mm_T → Option (Int32 × mm_T)) (q2 : Int32) (q3 : Int32) (N : mm_T) : Option (Int32 × mm_T) :=
  (ff_M_get p0 (0 : Int32) N).bind fun x2 =>
  if x2 ≤ q3 then (some (q2, N)) else (bd_2 (ff_M_isInLoop p0 q3 p1 N) fun x3 M2 =>
  (ff_M_one x3 M2).bind fun x4 =>
  (some (q2 + x4)).bind fun x5 =>
  (some (q3 + (1 : Int32))).bind fun x6 =>
  rec x5 x6 M2)
def lf_M_loopSize_14 (p0 : Nat) (p1 : Int32) : Nat → Int32 → Int32 → mm_T → Option (Int32 × mm_T)
  | 0, _, _, _ => none
  | fu + 1, q2, q3, N => lb_M_loopSize_14 p0 p1 (lf_M_loopSize_14 p0 p1 fu) q2 q3 N
def ff_M_loopSize (t : Nat) (a1 : Int32) (M : mm_T) : Option (Int32 × mm_T) :=
  gd_G M t 11 (
  bd_2 (ff_M_isBlock t a1 M) fun x1 M1 =>
  if x1 = 0 then (some ((0 : Int32), M1)) else (lf_M_loopSize_14  t a1 fu_L (0 : Int32) (0 : Int32) M1))

def lb_M_loopDepth_14 (p0 : Nat) (p1 : Int32) (rec : Int32 → Int32 → mm_T → Option (Int32 × mm_T)) (q2 : Int32) (q3 : Int32) (N : mm_T) : Option (Int32 × mm_T) :=
  (ff_M_get p0 (0 : Int32) N).bind fun x2 =>
  if x2 ≤ q3 then (some (q2, N)) else (bd_2 (ff_M_isInLoop p0 p1 q3 N) fun x3 M2 =>
  (ff_M_one x3 M2).bind fun x4 =>
  (some (q2 + x4)).bind fun x5 =>
  (some (q3 + (1 : Int32))).bind fun x6 =>
  rec x5 x6 M2)
def lf_M_loopDepth_14 (p0 : Nat) (p1 : Int32) : Nat → Int32 → Int32 → mm_T → Option (Int32 × mm_T)
  | 0, _, _, _ => none
  | fu + 1, q2, q3, N => lb_M_loopDepth_14 p0 p1 (lf_M_loopDepth_14 p0 p1 fu) q2 q3 N
def ff_M_loopDepth (t : Nat) (a1 : Int32) (M : mm_T) : Option (Int32 × mm_T) :=
  gd_G M t 11 (
  bd_2 (ff_M_isBlock t a1 M) fun x1 M1 =>
  if x1 = 0 then (some ((0 : Int32), M1)) else (lf_M_loopDepth_14  t a1 fu_L (0 : Int32) (0 : Int32) M1))

def ff_M_constantAt (t : Nat) (a1 : Int32) (a2 : Int32) (M : mm_T) : Option (Int32 × mm_T) :=
  gd_G M t 11 (
  bd_2 (ff_M_isBlock t a1 M) fun x1 M1 =>
  if x1 = 0 then (some ((0 : Int32), M1)) else (bd_2 (ff_M_isVariable t a2 (2 : Int32) M1) fun x2 M2 =>
  if x2 = 0 then (some ((0 : Int32), M2)) else ((ff_M_firstOf t a1 M2).bind fun x3 =>
  bd_2 (ff_M_constantAtPlace t a1 x3 a2 M2) fun x4 M3 =>
  some (x4, M3))))

def ff_M_constantGiven (t : Nat) (a1 : Int32) (M : mm_T) : Option (Int32 × mm_T) :=
  gd_G M t 11 (
  (ff_M_isDefinition t a1 M).bind fun x1 =>
  if x1 = 0 then (some ((-1 : Int32), M)) else ((ff_M_blockAt t a1 M).bind fun x2 =>
  (ff_M_it t a1 (1 : Int32) M).bind fun x3 =>
  bd_2 (ff_M_constantAtPlace t x2 (a1 + (1 : Int32)) x3 M) fun x4 M1 =>
  some (x4, M1)))

def ff_M_constantOf (t : Nat) (a1 : Int32) (M : mm_T) : Option (Int32 × mm_T) :=
  gd_G M t 11 (
  bd_2 (ff_M_isItem t a1 M) fun x1 M1 =>
  if x1 = 0 then (some ((0 : Int32), M1)) else (bd_2 (ff_M_constantGiven t a1 M1) fun x2 M2 =>
  some (x2, M2)))

def lb_M_decidedBranches_9 (p0 : Nat) (rec : Int32 → Int32 → mm_T → Option (Int32 × mm_T)) (q1 : Int32) (q2 : Int32) (N : mm_T) : Option (Int32 × mm_T) :=
  (ff_M_get p0 (0 : Int32) N).bind fun x1 =>
  if x1 ≤ q2 then (some (q1, N)) else ((ff_M_bl p0 q2 (1 : Int32) N).bind fun x2 =>
  jp_J (α := Int32 → mm_T → Option (Int32 × mm_T)) (fun (x3 : Int32) (M2 : mm_T) => (ff_M_one x3 M2).bind fun x4 =>
  (some (q1 + x4)).bind fun x5 =>
  (some (q2 + (1 : Int32))).bind fun x6 =>
  rec x5 x6 M2) fun j54 =>
  jp_J (α := mm_T → Option (Int32 × mm_T)) (fun  (M3 : mm_T) => j54 (0 : Int32) M3) fun j53 =>
  if x2 = (2 : Int32) then ((ff_M_endOf p0 q2 N).bind fun x7 =>
  (ff_M_bl p0 q2 (2 : Int32) N).bind fun x8 =>
  bd_2 (ff_M_constantAtPlace p0 q2 x7 x8 N) fun x9 M4 =>
  if x9 = (-1 : Int32) then (j53 M4) else (j54 (1 : Int32) M4)) else (j53 N))
def lf_M_decidedBranches_9 (p0 : Nat) : Nat → Int32 → Int32 → mm_T → Option (Int32 × mm_T)
  | 0, _, _, _ => none
  | fu + 1, q1, q2, N => lb_M_decidedBranches_9 p0 (lf_M_decidedBranches_9 p0 fu) q1 q2 N
def ff_M_decidedBranches (t : Nat) (M : mm_T) : Option (Int32 × mm_T) :=
  gd_G M t 11 (
  (pf_I M t 11 4 (0 : Int32)).bind fun M1 =>
  lf_M_decidedBranches_9  t fu_L (0 : Int32) (0 : Int32) M1)

def ff_M_isCount (t : Nat) (a1 : Int32) (a2 : Int32) (a3 : Int32) (M : mm_T) : Option (Int32 × mm_T) :=
  gd_G M t 11 (
  (ff_M_in a1 a2 (1000 : Int32) M).bind fun x1 =>
  if x1 = 0 then ((pf_I M t 11 4 a3).bind fun M1 =>
  some ((0 : Int32), M1)) else (some ((1 : Int32), M)))

def ff_M_runSteps (t : Nat) (a1 : Int32) (M : mm_T) : Option (Int32 × mm_T) :=
  gd_G M t 11 (
  (pf_I M t 11 4 (0 : Int32)).bind fun M1 =>
  bd_2 (ff_M_isCount t a1 (1 : Int32) (1 : Int32) M1) fun x1 M2 =>
  if x1 = 0 then (some ((0 : Int32), M2)) else (bd_2 (ff_M_runs t a1 M2) fun x2 M3 =>
  some (x2, M3)))

def ff_M_runEnds (t : Nat) (a1 : Int32) (M : mm_T) : Option (Int32 × mm_T) :=
  gd_G M t 11 (
  (pf_I M t 11 4 (0 : Int32)).bind fun M1 =>
  bd_2 (ff_M_isCount t a1 (1 : Int32) (1 : Int32) M1) fun x1 M2 =>
  if x1 = 0 then (some ((0 : Int32), M2)) else (bd_2 (ff_M_runs t a1 M2) fun x2 M3 =>
  (gf_I M3 t 11 13).bind fun x3 =>
  (zb_Z x3).bind fun w => some (w, M3)))

def ff_M_valueAfter (t : Nat) (a1 : Int32) (a2 : Int32) (M : mm_T) : Option (Int32 × mm_T) :=
  gd_G M t 11 (
  (pf_I M t 11 4 (0 : Int32)).bind fun M1 =>
  bd_2 (ff_M_isCount t a1 (0 : Int32) (1 : Int32) M1) fun x1 M2 =>
  if x1 = 0 then (some ((0 : Int32), M2)) else (bd_2 (ff_M_isVariable t a2 (1 : Int32) M2) fun x2 M3 =>
  if x2 = 0 then (some ((0 : Int32), M3)) else (bd_2 (ff_M_runs t a1 M3) fun x3 M4 =>
  (gf_R M4 t 11 9).bind fun x4 =>
  (ar_I M4 x4 a2).bind fun x5 =>
  some (x5, M4))))

def ff_M_lastShown (t : Nat) (a1 : Int32) (M : mm_T) : Option (Int32 × mm_T) :=
  gd_G M t 11 (
  (pf_I M t 11 4 (0 : Int32)).bind fun M1 =>
  bd_2 (ff_M_isCount t a1 (0 : Int32) (1 : Int32) M1) fun x1 M2 =>
  if x1 = 0 then (some ((0 : Int32), M2)) else (bd_2 (ff_M_runs t a1 M2) fun x2 M3 =>
  (gf_I M3 t 11 12).bind fun x3 =>
  some (x3, M3)))

def lb_M_visits_40 (p0 : Nat) (p1 : Int32) (p2 : Int32) (rec : Int32 → Int32 → mm_T → Option (Int32 × mm_T)) (q3 : Int32) (q4 : Int32) (N : mm_T) : Option (Int32 × mm_T) :=
  if p2 ≤ q4 then (some (q3, N)) else ((gf_I N p0 11 13).bind fun x5 =>
  if x5 = 0 then ((gf_I N p0 11 11).bind fun x6 =>
  (gf_I N p0 11 10).bind fun x7 =>
  (ff_M_endOf p0 x7 N).bind fun x8 =>
  jp_J (α := Int32 → Option (Int32 × mm_T)) (fun (x9 : Int32) => (ff_M_steps p0 N).bind fun M4 =>
  jp_J (α := Int32 → Option (Int32 × mm_T)) (fun (x10 : Int32) => (ff_M_one x10 M4).bind fun x11 =>
  (some (q3 + x11)).bind fun x12 =>
  (some (q4 + (1 : Int32))).bind fun x13 =>
  rec x12 x13 M4) fun j105 =>
  jp_J (α := Option (Int32 × mm_T)) (j105 (0 : Int32)) fun j104 =>
  if x9 = 0 then (j104) else ((gf_I M4 p0 11 13).bind fun x14 =>
  if x14 = 0 then ((gf_I M4 p0 11 10).bind fun x15 =>
  if x15 = p1 then (j105 (1 : Int32)) else (j104)) else (j104))) fun j73 =>
  if x6 = x8 then (j73 (1 : Int32)) else (j73 (0 : Int32))) else (some (q3, N)))
def lf_M_visits_40 (p0 : Nat) (p1 : Int32) (p2 : Int32) : Nat → Int32 → Int32 → mm_T → Option (Int32 × mm_T)
  | 0, _, _, _ => none
  | fu + 1, q3, q4, N => lb_M_visits_40 p0 p1 p2 (lf_M_visits_40 p0 p1 p2 fu) q3 q4 N
def ff_M_visits (t : Nat) (a1 : Int32) (a2 : Int32) (M : mm_T) : Option (Int32 × mm_T) :=
  gd_G M t 11 (
  bd_2 (ff_M_isBlock t a1 M) fun x1 M1 =>
  if x1 = 0 then (some ((0 : Int32), M1)) else (bd_2 (ff_M_isCount t a2 (0 : Int32) (2 : Int32) M1) fun x2 M2 =>
  if x2 = 0 then (some ((0 : Int32), M2)) else ((ff_M_begins t M2).bind fun M3 =>
  jp_J (α := Int32 → Option (Int32 × mm_T)) (fun (x3 : Int32) => (ff_M_one x3 M3).bind fun x4 =>
  lf_M_visits_40  t a1 a2 fu_L x4 (0 : Int32) M3) fun j33 =>
  if a1 = 0 then (j33 (1 : Int32)) else (j33 (0 : Int32)))))

def lb_M_auditDifference_51 (k0 : Int32 → mm_T → Option (Int32 × mm_T)) (p0 : Nat) (p2 : Nat) (p3 : Int32) (rec : Int32 → Int32 → mm_T → Option (Int32 × mm_T)) (q1 : Int32) (q4 : Int32) (N : mm_T) : Option (Int32 × mm_T) :=
  if (8 : Int32) ≤ q4 then (k0 q1 N) else ((gf_R N p0 11 8).bind fun x5 =>
  (ar_I N x5 q4).bind fun x6 =>
  jp_J (α := Int32 → Option (Int32 × mm_T)) (fun (x7 : Int32) => (ff_M_one x7 N).bind fun x8 =>
  (some (q1 + x8)).bind fun x9 =>
  (ar_Z N p2 q4).bind fun x10 =>
  jp_J (α := Int32 → mm_T → Option (Int32 × mm_T)) (fun (x11 : Int32) (M6 : mm_T) => (ff_M_one x11 M6).bind fun x12 =>
  (some (x9 + x12)).bind fun x13 =>
  (some (q4 + (1 : Int32))).bind fun x14 =>
  rec x13 x14 M6) fun j126 =>
  jp_J (α := mm_T → Option (Int32 × mm_T)) (fun  (M7 : mm_T) => j126 (0 : Int32) M7) fun j125 =>
  if x10 = 0 then ((gf_I N p0 11 10).bind fun x15 =>
  (gf_I N p0 11 11).bind fun x16 =>
  bd_2 (ff_M_isFirstAtPlace p0 x15 x16 q4 N) fun x17 M8 =>
  if x17 = 0 then (j126 (1 : Int32) M8) else (j125 M8)) else (j125 N)) fun j91 =>
  jp_J (α := Option (Int32 × mm_T)) (j91 (0 : Int32)) fun j90 =>
  if x6 < 0 then (j90) else ((gf_R N p0 11 8).bind fun x18 =>
  (ar_I N x18 q4).bind fun x19 =>
  (gf_R N p0 11 9).bind fun x20 =>
  (ar_I N x20 q4).bind fun x21 =>
  if x19 = x21 then (j90) else (j91 (1 : Int32))))
def lf_M_auditDifference_51 (k0 : Int32 → mm_T → Option (Int32 × mm_T)) (p0 : Nat) (p2 : Nat) (p3 : Int32) : Nat → Int32 → Int32 → mm_T → Option (Int32 × mm_T)
  | 0, _, _, _ => none
  | fu + 1, q1, q4, N => lb_M_auditDifference_51 k0 p0 p2 p3 (lf_M_auditDifference_51 k0 p0 p2 p3 fu) q1 q4 N
def lb_M_auditDifference_22 (p0 : Nat) (p2 : Nat) (rec : Int32 → Int32 → mm_T → Option (Int32 × mm_T)) (q1 : Int32) (q3 : Int32) (N : mm_T) : Option (Int32 × mm_T) :=
  if (200 : Int32) ≤ q3 then (some (q1, N)) else ((gf_I N p0 11 13).bind fun x2 =>
  if x2 = 0 then ((gf_I N p0 11 10).bind fun x3 =>
  (gf_I N p0 11 11).bind fun x4 =>
  (ff_M_comesTo p0 x3 x4 N).bind fun M5 =>
  lf_M_auditDifference_51 (fun (x22 : Int32) (M9 : mm_T) => (gf_I M9 p0 11 11).bind fun x23 =>
  (gf_I M9 p0 11 10).bind fun x24 =>
  (ff_M_endOf p0 x24 M9).bind fun x25 =>
  jp_J (α := mm_T → Option (Int32 × mm_T)) (fun  (M10 : mm_T) => (ff_M_steps p0 M10).bind fun M11 =>
  (some (q3 + (1 : Int32))).bind fun x26 =>
  rec x22 x26 M11) fun j175 =>
  if x25 ≤ x23 then (j175 M9) else ((gf_I M9 p0 11 11).bind fun x27 =>
  (ff_M_isDefinition p0 x27 M9).bind fun x28 =>
  if x28 = 0 then (j175 M9) else ((gf_I M9 p0 11 11).bind fun x29 =>
  (ff_M_it p0 x29 (1 : Int32) M9).bind fun x30 =>
  (aw_Z M9 p2 x30 (1 : Int32)).bind fun M12 =>
  j175 M12))) p0 p2 q3 fu_L q1 (0 : Int32) M5) else (some (q1, N)))
def lf_M_auditDifference_22 (p0 : Nat) (p2 : Nat) : Nat → Int32 → Int32 → mm_T → Option (Int32 × mm_T)
  | 0, _, _, _ => none
  | fu + 1, q1, q3, N => lb_M_auditDifference_22 p0 p2 (lf_M_auditDifference_22 p0 p2 fu) q1 q3 N
def ff_M_auditDifference (t : Nat) (M : mm_T) : Option (Int32 × mm_T) :=
  gd_G M t 11 (
  (pf_I M t 11 4 (0 : Int32)).bind fun M1 =>
  bd_2 (na_K 22 M1 (8 : Int32)) fun x1 M2 =>
  (ff_M_begins t M2).bind fun M3 =>
  (ff_M_findsConstants t M3).bind fun M4 =>
  lf_M_auditDifference_22  t x1 fu_L (0 : Int32) (0 : Int32) M4)

def lb_M_definitions_4 (p0 : Nat) (M : mm_T) (rec : Int32 → Int32 → Option (Int32)) (q1 : Int32) (q2 : Int32) : Option (Int32) :=
  (ff_M_get p0 (1 : Int32) M).bind fun x1 =>
  if x1 ≤ q2 then (some q1) else ((ff_M_isDefinition p0 q2 M).bind fun x2 =>
  (ff_M_one x2 M).bind fun x3 =>
  (some (q1 + x3)).bind fun x4 =>
  (some (q2 + (1 : Int32))).bind fun x5 =>
  rec x4 x5)
def lf_M_definitions_4 (p0 : Nat) (M : mm_T) : Nat → Int32 → Int32 → Option (Int32)
  | 0, _, _ => none
  | fu + 1, q1, q2 => lb_M_definitions_4 p0 M (lf_M_definitions_4 p0 M fu) q1 q2
def ff_M_definitions (t : Nat) (M : mm_T) : Option (Int32) :=
  gd_G M t 11 (
  lf_M_definitions_4  t M fu_L (0 : Int32) (0 : Int32))

def ff_M_deadShare (t : Nat) (M : mm_T) : Option (UInt32 × mm_T) :=
  gd_G M t 11 (
  (pf_I M t 11 4 (0 : Int32)).bind fun M1 =>
  (ff_M_definitions t M1).bind fun x1 =>
  if x1 = 0 then (some (FP.fconst0, M1)) else (bd_2 (ff_M_allDead t M1) fun x2 M2 =>
  (ff_M_definitions t M2).bind fun x3 =>
  (fo_div (FP.i2f x2) (FP.i2f x3)).bind fun x4 =>
  some (x4, M2)))

def lb_M_meanLive_9 (k0 : Int32 → mm_T → Option (UInt64 × mm_T)) (p0 : Nat) (rec : Int32 → Int32 → mm_T → Option (UInt64 × mm_T)) (q1 : Int32) (q2 : Int32) (N : mm_T) : Option (UInt64 × mm_T) :=
  (ff_M_get p0 (1 : Int32) N).bind fun x1 =>
  if x1 ≤ q2 then (k0 q1 N) else ((ff_M_blockAt p0 q2 N).bind fun x2 =>
  bd_2 (ff_M_liveAt p0 x2 q2 N) fun x3 M2 =>
  (some (q1 + x3)).bind fun x4 =>
  (some (q2 + (1 : Int32))).bind fun x5 =>
  rec x4 x5 M2)
def lf_M_meanLive_9 (k0 : Int32 → mm_T → Option (UInt64 × mm_T)) (p0 : Nat) : Nat → Int32 → Int32 → mm_T → Option (UInt64 × mm_T)
  | 0, _, _, _ => none
  | fu + 1, q1, q2, N => lb_M_meanLive_9 k0 p0 (lf_M_meanLive_9 k0 p0 fu) q1 q2 N
def ff_M_meanLive (t : Nat) (M : mm_T) : Option (UInt64 × mm_T) :=
  gd_G M t 11 (
  (pf_I M t 11 4 (0 : Int32)).bind fun M1 =>
  lf_M_meanLive_9 (fun (x6 : Int32) (M3 : mm_T) => (ff_M_get t (1 : Int32) M3).bind fun x7 =>
  if x7 = 0 then (some (FP.dconst0, M3)) else ((ff_M_get t (1 : Int32) M3).bind fun x8 =>
  (do_div (FP.i2d x6) (FP.i2d x8)).bind fun x9 =>
  some (x9, M3))) t fu_L (0 : Int32) (0 : Int32) M1)

def lb_M_keeps_11 (k0 : mm_T → Option (mm_T)) (p0 : Nat) (rec : Int32 → mm_T → Option (mm_T)) (q1 : Int32) (N : mm_T) : Option (mm_T) :=
  if (6 : Int32) ≤ q1 then (k0 N) else ((ff_M_copies p0 ((1 : Int32) + q1) (((1 : Int32) + q1) - (1 : Int32)) N).bind fun M4 =>
  (some (q1 + (1 : Int32))).bind fun x4 =>
  rec x4 M4)
def lf_M_keeps_11 (k0 : mm_T → Option (mm_T)) (p0 : Nat) : Nat → Int32 → mm_T → Option (mm_T)
  | 0, _, _ => none
  | fu + 1, q1, N => lb_M_keeps_11 k0 p0 (lf_M_keeps_11 k0 p0 fu) q1 N
def ff_M_keeps (t : Nat) (M : mm_T) : Option (mm_T) :=
  gd_G M t 11 (
  (gf_I M t 11 3).bind fun x1 =>
  jp_J (α := mm_T → Option (mm_T)) (fun  (M1 : mm_T) => (gf_I M1 t 11 3).bind fun x2 =>
  (ff_M_copies t (0 : Int32) ((1 : Int32) + x2) M1).bind fun M2 =>
  (gf_I M2 t 11 3).bind fun x3 =>
  (pf_I M2 t 11 3 (x3 + (1 : Int32))).bind fun M3 =>
  some M3) fun j45 =>
  if x1 = (6 : Int32) then (lf_M_keeps_11 (fun (M5 : mm_T) => (gf_I M5 t 11 3).bind fun x5 =>
  (pf_I M5 t 11 3 (x5 - (1 : Int32))).bind fun M6 =>
  j45 M6) t fu_L (1 : Int32) M) else (j45 M))

def ff_M_canInsert (t : Nat) (a1 : Int32) (a2 : Int32) (a3 : Int32) (M : mm_T) : Option (Int32 × mm_T) :=
  gd_G M t 11 (
  (ff_M_bl t a1 (0 : Int32) M).bind fun x1 =>
  (ff_M_in a2 (0 : Int32) x1 M).bind fun x2 =>
  jp_J (α := Option (Int32 × mm_T)) ((pf_I M t 11 4 (2 : Int32)).bind fun M1 =>
  some ((0 : Int32), M1)) fun j26 =>
  if x2 = 0 then (j26) else ((ff_M_in a3 (0 : Int32) (7 : Int32) M).bind fun x3 =>
  if x3 = 0 then (j26) else (some ((1 : Int32), M))))

def lb_M_inserts_47 (k0 : mm_T → Option (Int32 × mm_T)) (p0 : Nat) (p1 : Int32) (p3 : Int32) (p4 : Int32) (p5 : Int32) (p6 : Int32) (p7 : Int32) (p8 : Int32) (p9 : Int32) (rec : Int32 → mm_T → Option (Int32 × mm_T)) (q10 : Int32) (N : mm_T) : Option (Int32 × mm_T) :=
  if (5 : Int32) ≤ q10 then (k0 N) else ((ff_M_it p0 (p9 - (1 : Int32)) q10 N).bind fun x5 =>
  (ff_M_layItem p0 p9 q10 x5 N).bind fun M2 =>
  (some (q10 + (1 : Int32))).bind fun x6 =>
  rec x6 M2)
def lf_M_inserts_47 (k0 : mm_T → Option (Int32 × mm_T)) (p0 : Nat) (p1 : Int32) (p3 : Int32) (p4 : Int32) (p5 : Int32) (p6 : Int32) (p7 : Int32) (p8 : Int32) (p9 : Int32) : Nat → Int32 → mm_T → Option (Int32 × mm_T)
  | 0, _, _ => none
  | fu + 1, q10, N => lb_M_inserts_47 k0 p0 p1 p3 p4 p5 p6 p7 p8 p9 (lf_M_inserts_47 k0 p0 p1 p3 p4 p5 p6 p7 p8 p9 fu) q10 N
def lb_M_inserts_37 (k0 : mm_T → Option (Int32 × mm_T)) (p0 : Nat) (p1 : Int32) (p3 : Int32) (p4 : Int32) (p5 : Int32) (p6 : Int32) (p7 : Int32) (p8 : Int32) (rec : Int32 → mm_T → Option (Int32 × mm_T)) (q9 : Int32) (N : mm_T) : Option (Int32 × mm_T) :=
  if q9 ≤ p8 then (k0 N) else (lf_M_inserts_47 (fun (M3 : mm_T) => (some (q9 + (-1 : Int32))).bind fun x7 =>
  rec x7 M3) p0 p1 p3 p4 p5 p6 p7 p8 q9 fu_L (0 : Int32) N)
def lf_M_inserts_37 (k0 : mm_T → Option (Int32 × mm_T)) (p0 : Nat) (p1 : Int32) (p3 : Int32) (p4 : Int32) (p5 : Int32) (p6 : Int32) (p7 : Int32) (p8 : Int32) : Nat → Int32 → mm_T → Option (Int32 × mm_T)
  | 0, _, _ => none
  | fu + 1, q9, N => lb_M_inserts_37 k0 p0 p1 p3 p4 p5 p6 p7 p8 (lf_M_inserts_37 k0 p0 p1 p3 p4 p5 p6 p7 p8 fu) q9 N
def ff_M_inserts (t : Nat) (a1 : Int32) (a2 : Int32) (a3 : Int32) (a4 : Int32) (a5 : Int32) (a6 : Int32) (a7 : Int32) (M : mm_T) : Option (Int32 × mm_T) :=
  gd_G M t 11 (
  (ff_M_get t (1 : Int32) M).bind fun x1 =>
  if x1 = (40 : Int32) then ((pf_I M t 11 4 (3 : Int32)).bind fun M8 =>
  some ((0 : Int32), M8)) else ((ff_M_keeps t M).bind fun M1 =>
  (ff_M_firstOf t a1 M1).bind fun x2 =>
  (some (x2 + a2)).bind fun x3 =>
  (ff_M_get t (1 : Int32) M1).bind fun x4 =>
  lf_M_inserts_37 (fun (M4 : mm_T) => (ff_M_writes t x3 a3 a4 a5 a6 a7 M4).bind fun M5 =>
  (ff_M_bl t a1 (0 : Int32) M5).bind fun x8 =>
  (ff_M_layBlock t a1 (0 : Int32) (x8 + (1 : Int32)) M5).bind fun M6 =>
  (ff_M_get t (1 : Int32) M6).bind fun x9 =>
  (ff_M_lay t (1 : Int32) (x9 + (1 : Int32)) M6).bind fun M7 =>
  some (x3, M7)) t a1 a3 a4 a5 a6 a7 x3 fu_L x4 M1))

def ff_M_insertSet (t : Nat) (a1 : Int32) (a2 : Int32) (a3 : Int32) (a4 : Int32) (M : mm_T) : Option (Int32 × mm_T) :=
  gd_G M t 11 (
  bd_2 (ff_M_isBlock t a1 M) fun x1 M1 =>
  if x1 = 0 then (some ((0 : Int32), M1)) else (bd_2 (ff_M_canInsert t a1 a2 a3 M1) fun x2 M2 =>
  if x2 = 0 then (some ((0 : Int32), M2)) else (jp_J (α := Option (Int32 × mm_T)) ((pf_I M2 t 11 4 (2 : Int32)).bind fun M3 =>
  some ((0 : Int32), M3)) fun j33 =>
  if a4 < 0 then (j33) else (if a4 ≤ (999 : Int32) then (bd_2 (ff_M_inserts t a1 a2 (0 : Int32) a3 a4 (0 : Int32) (0 : Int32) M2) fun x3 M4 =>
  some (x3, M4)) else (j33)))))

def ff_M_insertCalc (t : Nat) (a1 : Int32) (a2 : Int32) (a3 : Int32) (a4 : Int32) (a5 : Int32) (a6 : Int32) (M : mm_T) : Option (Int32 × mm_T) :=
  gd_G M t 11 (
  bd_2 (ff_M_isBlock t a1 M) fun x1 M1 =>
  if x1 = 0 then (some ((0 : Int32), M1)) else (bd_2 (ff_M_canInsert t a1 a2 a3 M1) fun x2 M2 =>
  if x2 = 0 then (some ((0 : Int32), M2)) else ((ff_M_in a4 (0 : Int32) (7 : Int32) M2).bind fun x3 =>
  jp_J (α := Option (Int32 × mm_T)) ((pf_I M2 t 11 4 (2 : Int32)).bind fun M3 =>
  some ((0 : Int32), M3)) fun j52 =>
  if x3 = 0 then (j52) else ((ff_M_in a5 (0 : Int32) (2 : Int32) M2).bind fun x4 =>
  if x4 = 0 then (j52) else ((ff_M_in a6 (0 : Int32) (7 : Int32) M2).bind fun x5 =>
  if x5 = 0 then (j52) else (bd_2 (ff_M_inserts t a1 a2 (2 : Int32) a3 a4 a5 a6 M2) fun x6 M4 =>
  some (x6, M4)))))))

def lb_M_removes_46 (k0 : mm_T → Option (mm_T)) (p0 : Nat) (p3 : Int32) (rec : Int32 → mm_T → Option (mm_T)) (q4 : Int32) (N : mm_T) : Option (mm_T) :=
  if (5 : Int32) ≤ q4 then (k0 N) else ((ff_M_it p0 (p3 + (1 : Int32)) q4 N).bind fun x5 =>
  (ff_M_layItem p0 p3 q4 x5 N).bind fun M3 =>
  (some (q4 + (1 : Int32))).bind fun x6 =>
  rec x6 M3)
def lf_M_removes_46 (k0 : mm_T → Option (mm_T)) (p0 : Nat) (p3 : Int32) : Nat → Int32 → mm_T → Option (mm_T)
  | 0, _, _ => none
  | fu + 1, q4, N => lb_M_removes_46 k0 p0 p3 (lf_M_removes_46 k0 p0 p3 fu) q4 N
def lb_M_removes_34 (p0 : Nat) (rec : Int32 → mm_T → Option (mm_T)) (q3 : Int32) (N : mm_T) : Option (mm_T) :=
  (ff_M_get p0 (1 : Int32) N).bind fun x4 =>
  if x4 ≤ q3 then (some N) else (lf_M_removes_46 (fun (M4 : mm_T) => (some (q3 + (1 : Int32))).bind fun x7 =>
  rec x7 M4) p0 q3 fu_L (0 : Int32) N)
def lf_M_removes_34 (p0 : Nat) : Nat → Int32 → mm_T → Option (mm_T)
  | 0, _, _ => none
  | fu + 1, q3, N => lb_M_removes_34 p0 (lf_M_removes_34 p0 fu) q3 N
def ff_M_removes (t : Nat) (a1 : Int32) (M : mm_T) : Option (mm_T) :=
  gd_G M t 11 (
  (ff_M_blockAt t a1 M).bind fun x1 =>
  (ff_M_bl t x1 (0 : Int32) M).bind fun x2 =>
  (ff_M_layBlock t x1 (0 : Int32) (x2 - (1 : Int32)) M).bind fun M1 =>
  (ff_M_get t (1 : Int32) M1).bind fun x3 =>
  (ff_M_lay t (1 : Int32) (x3 - (1 : Int32)) M1).bind fun M2 =>
  lf_M_removes_34  t fu_L a1 M2)

def ff_M_removeInstruction (t : Nat) (a1 : Int32) (M : mm_T) : Option (Int32 × mm_T) :=
  gd_G M t 11 (
  bd_2 (ff_M_isItem t a1 M) fun x1 M1 =>
  if x1 = 0 then (some ((0 : Int32), M1)) else ((ff_M_keeps t M1).bind fun M2 =>
  (ff_M_removes t a1 M2).bind fun M3 =>
  (ff_M_get t (1 : Int32) M3).bind fun x2 =>
  some (x2, M3)))

def ff_M_setGoto (t : Nat) (a1 : Int32) (a2 : Int32) (M : mm_T) : Option (Int32 × mm_T) :=
  gd_G M t 11 (
  bd_2 (ff_M_isBlock t a1 M) fun x1 M1 =>
  if x1 = 0 then (some ((0 : Int32), M1)) else (bd_2 (ff_M_isBlock t a2 M1) fun x2 M2 =>
  if x2 = 0 then (some ((0 : Int32), M2)) else ((ff_M_keeps t M2).bind fun M3 =>
  (ff_M_exits t a1 (1 : Int32) (0 : Int32) a2 (0 : Int32) M3).bind fun M4 =>
  bd_2 (ff_M_reachedCount t M4) fun x3 M5 =>
  some (x3, M5))))

def ff_M_setBranch (t : Nat) (a1 : Int32) (a2 : Int32) (a3 : Int32) (a4 : Int32) (M : mm_T) : Option (Int32 × mm_T) :=
  gd_G M t 11 (
  bd_2 (ff_M_isBlock t a1 M) fun x1 M1 =>
  if x1 = 0 then (some ((0 : Int32), M1)) else (bd_2 (ff_M_isBlock t a3 M1) fun x2 M2 =>
  if x2 = 0 then (some ((0 : Int32), M2)) else (bd_2 (ff_M_isBlock t a4 M2) fun x3 M3 =>
  if x3 = 0 then (some ((0 : Int32), M3)) else (bd_2 (ff_M_isVariable t a2 (2 : Int32) M3) fun x4 M4 =>
  if x4 = 0 then (some ((0 : Int32), M4)) else ((ff_M_keeps t M4).bind fun M5 =>
  (ff_M_exits t a1 (2 : Int32) a2 a3 a4 M5).bind fun M6 =>
  bd_2 (ff_M_reachedCount t M6) fun x5 M7 =>
  some (x5, M7))))))

def lb_M_removesDead_7 (k0 : mm_T → Option (Int32 × mm_T)) (p0 : Nat) (p1 : Nat) (rec : Int32 → mm_T → Option (Int32 × mm_T)) (q2 : Int32) (N : mm_T) : Option (Int32 × mm_T) :=
  (ff_M_get p0 (1 : Int32) N).bind fun x2 =>
  if x2 ≤ q2 then (k0 N) else (bd_2 (ff_M_isDead0 p0 q2 N) fun x3 M2 =>
  (aw_Z M2 p1 q2 x3).bind fun M3 =>
  (some (q2 + (1 : Int32))).bind fun x4 =>
  rec x4 M3)
def lf_M_removesDead_7 (k0 : mm_T → Option (Int32 × mm_T)) (p0 : Nat) (p1 : Nat) : Nat → Int32 → mm_T → Option (Int32 × mm_T)
  | 0, _, _ => none
  | fu + 1, q2, N => lb_M_removesDead_7 k0 p0 p1 (lf_M_removesDead_7 k0 p0 p1 fu) q2 N
def lb_M_removesDead_35 (p0 : Nat) (p1 : Nat) (rec : Int32 → Int32 → mm_T → Option (Int32 × mm_T)) (q2 : Int32) (q3 : Int32) (N : mm_T) : Option (Int32 × mm_T) :=
  if q3 < 0 then (some (q2, N)) else ((ar_Z N p1 q3).bind fun x5 =>
  jp_J (α := Int32 → mm_T → Option (Int32 × mm_T)) (fun (x6 : Int32) (M5 : mm_T) => (some (q3 + (-1 : Int32))).bind fun x7 =>
  rec x6 x7 M5) fun j56 =>
  if x5 = 0 then (j56 q2 N) else ((ff_M_removes p0 q3 N).bind fun M6 =>
  (some (q2 + (1 : Int32))).bind fun x8 =>
  j56 x8 M6))
def lf_M_removesDead_35 (p0 : Nat) (p1 : Nat) : Nat → Int32 → Int32 → mm_T → Option (Int32 × mm_T)
  | 0, _, _, _ => none
  | fu + 1, q2, q3, N => lb_M_removesDead_35 p0 p1 (lf_M_removesDead_35 p0 p1 fu) q2 q3 N
def ff_M_removesDead (t : Nat) (M : mm_T) : Option (Int32 × mm_T) :=
  gd_G M t 11 (
  bd_2 (na_K 22 M (40 : Int32)) fun x1 M1 =>
  lf_M_removesDead_7 (fun (M4 : mm_T) => lf_M_removesDead_35  t x1 fu_L (0 : Int32) (39 : Int32) M4) t x1 fu_L (0 : Int32) M1)

def lb_M_removeDead_16 (p0 : Nat) (rec : Int32 → Int32 → mm_T → Option (Int32 × mm_T)) (q1 : Int32) (q2 : Int32) (N : mm_T) : Option (Int32 × mm_T) :=
  if q1 ≤ 0 then (some (q2, N)) else (bd_2 (ff_M_removesDead p0 N) fun x2 M4 =>
  (some (q2 + x2)).bind fun x3 =>
  rec x2 x3 M4)
def lf_M_removeDead_16 (p0 : Nat) : Nat → Int32 → Int32 → mm_T → Option (Int32 × mm_T)
  | 0, _, _, _ => none
  | fu + 1, q1, q2, N => lb_M_removeDead_16 p0 (lf_M_removeDead_16 p0 fu) q1 q2 N
def ff_M_removeDead (t : Nat) (M : mm_T) : Option (Int32 × mm_T) :=
  gd_G M t 11 (
  (pf_I M t 11 4 (0 : Int32)).bind fun M1 =>
  (ff_M_keeps t M1).bind fun M2 =>
  bd_2 (ff_M_removesDead t M2) fun x1 M3 =>
  lf_M_removeDead_16  t fu_L x1 x1 M3)

def lb_M_foldConstants_16 (k0 : mm_T → Option (Int32 × mm_T)) (p0 : Nat) (p1 : Nat) (rec : Int32 → mm_T → Option (Int32 × mm_T)) (q2 : Int32) (N : mm_T) : Option (Int32 × mm_T) :=
  (ff_M_get p0 (1 : Int32) N).bind fun x2 =>
  if x2 ≤ q2 then (k0 N) else ((ff_M_it p0 q2 (0 : Int32) N).bind fun x3 =>
  jp_J (α := Int32 → mm_T → Option (Int32 × mm_T)) (fun (x4 : Int32) (M4 : mm_T) => (aw_I M4 p1 q2 x4).bind fun M5 =>
  (some (q2 + (1 : Int32))).bind fun x5 =>
  rec x5 M5) fun j45 =>
  if x3 = 0 then (j45 (-1 : Int32) N) else (bd_2 (ff_M_constantGiven p0 q2 N) fun x6 M6 =>
  j45 x6 M6))
def lf_M_foldConstants_16 (k0 : mm_T → Option (Int32 × mm_T)) (p0 : Nat) (p1 : Nat) : Nat → Int32 → mm_T → Option (Int32 × mm_T)
  | 0, _, _ => none
  | fu + 1, q2, N => lb_M_foldConstants_16 k0 p0 p1 (lf_M_foldConstants_16 k0 p0 p1 fu) q2 N
def lb_M_foldConstants_56 (p0 : Nat) (p1 : Nat) (rec : Int32 → Int32 → mm_T → Option (Int32 × mm_T)) (q2 : Int32) (q3 : Int32) (N : mm_T) : Option (Int32 × mm_T) :=
  (ff_M_get p0 (1 : Int32) N).bind fun x7 =>
  if x7 ≤ q3 then (some (q2, N)) else ((ar_I N p1 q3).bind fun x8 =>
  jp_J (α := Int32 → mm_T → Option (Int32 × mm_T)) (fun (x9 : Int32) (M8 : mm_T) => (some (q3 + (1 : Int32))).bind fun x10 =>
  rec x9 x10 M8) fun j95 =>
  if x8 = (-1 : Int32) then (j95 q2 N) else ((ff_M_it p0 q3 (1 : Int32) N).bind fun x11 =>
  (ar_I N p1 q3).bind fun x12 =>
  (ff_M_writes p0 q3 (0 : Int32) x11 x12 (0 : Int32) (0 : Int32) N).bind fun M9 =>
  (some (q2 + (1 : Int32))).bind fun x13 =>
  j95 x13 M9))
def lf_M_foldConstants_56 (p0 : Nat) (p1 : Nat) : Nat → Int32 → Int32 → mm_T → Option (Int32 × mm_T)
  | 0, _, _, _ => none
  | fu + 1, q2, q3, N => lb_M_foldConstants_56 p0 p1 (lf_M_foldConstants_56 p0 p1 fu) q2 q3 N
def ff_M_foldConstants (t : Nat) (M : mm_T) : Option (Int32 × mm_T) :=
  gd_G M t 11 (
  (pf_I M t 11 4 (0 : Int32)).bind fun M1 =>
  (ff_M_keeps t M1).bind fun M2 =>
  bd_2 (na_K 20 M2 (40 : Int32)) fun x1 M3 =>
  lf_M_foldConstants_16 (fun (M7 : mm_T) => lf_M_foldConstants_56  t x1 fu_L (0 : Int32) (0 : Int32) M7) t x1 fu_L (0 : Int32) M3)

def ff_M_says (t : Nat) (a1 : Int32) (M : mm_T) : Option (mm_T) :=
  gd_G M t 11 (
  (gf_R M t 11 23).bind fun x1 =>
  (gf_I M t 11 24).bind fun x2 =>
  (aw_I M x1 x2 a1).bind fun M1 =>
  (gf_I M1 t 11 24).bind fun x3 =>
  (pf_I M1 t 11 24 (x3 + (1 : Int32))).bind fun M2 =>
  some M2)

def lb_M_saysWord_2 (p0 : Nat) (p1 : Nat) (rec : Int32 → mm_T → Option (mm_T)) (q2 : Int32) (N : mm_T) : Option (mm_T) :=
  (ff_JS_length p1 N).bind fun x1 =>
  if x1 ≤ q2 then (some N) else ((ff_JS_charAt p1 q2 N).bind fun x2 =>
  (ff_M_says p0 x2 N).bind fun M1 =>
  (some (q2 + (1 : Int32))).bind fun x3 =>
  rec x3 M1)
def lf_M_saysWord_2 (p0 : Nat) (p1 : Nat) : Nat → Int32 → mm_T → Option (mm_T)
  | 0, _, _ => none
  | fu + 1, q2, N => lb_M_saysWord_2 p0 p1 (lf_M_saysWord_2 p0 p1 fu) q2 N
def ff_M_saysWord (t : Nat) (a1 : Nat) (M : mm_T) : Option (mm_T) :=
  gd_G M t 11 (
  lf_M_saysWord_2  t a1 fu_L (0 : Int32) M)

def ff_M_saysVariable (t : Nat) (a1 : Int32) (M : mm_T) : Option (mm_T) :=
  gd_G M t 11 (
  (ff_M_says t (32 : Int32) M).bind fun M1 =>
  (ff_M_says t ((97 : Int32) + a1) M1).bind fun M2 =>
  some M2)

def ff_M_saysNumber (t : Nat) (a1 : Int32) (M : mm_T) : Option (mm_T) :=
  gd_G M t 11 (
  (ff_M_says t (32 : Int32) M).bind fun M1 =>
  jp_J (α := mm_T → Option (mm_T)) (fun  (M2 : mm_T) => jp_J (α := mm_T → Option (mm_T)) (fun  (M3 : mm_T) => (io_remG a1 (10 : Int32)).bind fun x1 =>
  (ff_M_says t ((48 : Int32) + x1) M3).bind fun M4 =>
  some M4) fun j43 =>
  if a1 ≤ (9 : Int32) then (j43 M2) else ((io_divG a1 (10 : Int32)).bind fun x2 =>
  (io_remG x2 (10 : Int32)).bind fun x3 =>
  (ff_M_says t ((48 : Int32) + x3) M2).bind fun M5 =>
  j43 M5)) fun j23 =>
  if a1 ≤ (99 : Int32) then (j23 M1) else ((io_divG a1 (100 : Int32)).bind fun x4 =>
  (ff_M_says t ((48 : Int32) + x4) M1).bind fun M6 =>
  j23 M6))

def ff_M_saysItem (t : Nat) (a1 : Int32) (M : mm_T) : Option (mm_T) :=
  gd_G M t 11 (
  (ff_M_it t a1 (0 : Int32) M).bind fun x1 =>
  jp_J (α := mm_T → Option (mm_T)) (fun  (M1 : mm_T) => (ff_M_says t (59 : Int32) M1).bind fun M2 =>
  some M2) fun j187 =>
  if x1 = (0 : Int32) then ((ff_M_saysWord t (st_B + 2) M).bind fun M3 =>
  (ff_M_it t a1 (1 : Int32) M3).bind fun x2 =>
  (ff_M_saysVariable t x2 M3).bind fun M4 =>
  (ff_M_it t a1 (2 : Int32) M4).bind fun x3 =>
  (ff_M_saysNumber t x3 M4).bind fun M5 =>
  j187 M5) else (if x1 = (1 : Int32) then ((ff_M_saysWord t (st_B + 3) M).bind fun M6 =>
  (ff_M_it t a1 (1 : Int32) M6).bind fun x4 =>
  (ff_M_saysVariable t x4 M6).bind fun M7 =>
  (ff_M_it t a1 (2 : Int32) M7).bind fun x5 =>
  (ff_M_saysVariable t x5 M7).bind fun M8 =>
  j187 M8) else (if x1 = (2 : Int32) then ((ff_M_saysWord t (st_B + 4) M).bind fun M9 =>
  (ff_M_it t a1 (1 : Int32) M9).bind fun x6 =>
  (ff_M_saysVariable t x6 M9).bind fun M10 =>
  (ff_M_it t a1 (2 : Int32) M10).bind fun x7 =>
  (ff_M_saysVariable t x7 M10).bind fun M11 =>
  (ff_M_it t a1 (3 : Int32) M11).bind fun x8 =>
  jp_J (α := Nat → Option (mm_T)) (fun (x9 : Nat) => (ff_M_saysWord t x9 M11).bind fun M12 =>
  (ff_M_it t a1 (4 : Int32) M12).bind fun x10 =>
  (ff_M_saysVariable t x10 M12).bind fun M13 =>
  j187 M13) fun j154 =>
  if x8 = 0 then (j154 ((st_B + 25))) else ((ff_M_it t a1 (3 : Int32) M11).bind fun x11 =>
  if x11 = (1 : Int32) then (j154 ((st_B + 26))) else (j154 ((st_B + 27))))) else (((ff_M_saysWord t (st_B + 5) M).bind fun M14 =>
  (ff_M_it t a1 (2 : Int32) M14).bind fun x12 =>
  (ff_M_saysVariable t x12 M14).bind fun M15 =>
  j187 M15)))))

def lb_M_saysExit_62 (k0 : mm_T → Option (mm_T)) (p0 : Nat) (p1 : Int32) (rec : Int32 → mm_T → Option (mm_T)) (q2 : Int32) (N : mm_T) : Option (mm_T) :=
  (ff_M_ways p0 p1 N).bind fun x4 =>
  if x4 ≤ q2 then (k0 N) else ((ff_M_way p0 p1 q2 N).bind fun x5 =>
  (ff_M_saysNumber p0 x5 N).bind fun M4 =>
  (some (q2 + (1 : Int32))).bind fun x6 =>
  rec x6 M4)
def lf_M_saysExit_62 (k0 : mm_T → Option (mm_T)) (p0 : Nat) (p1 : Int32) : Nat → Int32 → mm_T → Option (mm_T)
  | 0, _, _ => none
  | fu + 1, q2, N => lb_M_saysExit_62 k0 p0 p1 (lf_M_saysExit_62 k0 p0 p1 fu) q2 N
def ff_M_saysExit (t : Nat) (a1 : Int32) (M : mm_T) : Option (mm_T) :=
  gd_G M t 11 (
  (ff_M_bl t a1 (1 : Int32) M).bind fun x1 =>
  jp_J (α := mm_T → Option (mm_T)) (fun  (M1 : mm_T) => (ff_M_bl t a1 (1 : Int32) M1).bind fun x2 =>
  jp_J (α := mm_T → Option (mm_T)) (fun  (M2 : mm_T) => (ff_M_bl t a1 (1 : Int32) M2).bind fun x3 =>
  jp_J (α := mm_T → Option (mm_T)) (fun  (M3 : mm_T) => lf_M_saysExit_62 (fun (M5 : mm_T) => (ff_M_says t (59 : Int32) M5).bind fun M6 =>
  some M6) t a1 fu_L (0 : Int32) M3) fun j60 =>
  if x3 = (2 : Int32) then ((ff_M_saysWord t (st_B + 11) M2).bind fun M7 =>
  (ff_M_bl t a1 (2 : Int32) M7).bind fun x7 =>
  (ff_M_saysVariable t x7 M7).bind fun M8 =>
  j60 M8) else (j60 M2)) fun j33 =>
  if x2 = (1 : Int32) then ((ff_M_saysWord t (st_B + 10) M1).bind fun M9 =>
  j33 M9) else (j33 M1)) fun j16 =>
  if x1 = 0 then ((ff_M_saysWord t (st_B + 9) M).bind fun M10 =>
  j16 M10) else (j16 M))

def lb_M_writeBlock_21 (k0 : mm_T → Option (Int32 × mm_T)) (p0 : Nat) (p1 : Int32) (rec : Int32 → mm_T → Option (Int32 × mm_T)) (q2 : Int32) (N : mm_T) : Option (Int32 × mm_T) :=
  (ff_M_endOf p0 p1 N).bind fun x3 =>
  if x3 ≤ q2 then (k0 N) else ((ff_M_saysItem p0 q2 N).bind fun M3 =>
  (some (q2 + (1 : Int32))).bind fun x4 =>
  rec x4 M3)
def lf_M_writeBlock_21 (k0 : mm_T → Option (Int32 × mm_T)) (p0 : Nat) (p1 : Int32) : Nat → Int32 → mm_T → Option (Int32 × mm_T)
  | 0, _, _ => none
  | fu + 1, q2, N => lb_M_writeBlock_21 k0 p0 p1 (lf_M_writeBlock_21 k0 p0 p1 fu) q2 N
def ff_M_writeBlock (t : Nat) (a1 : Int32) (M : mm_T) : Option (Int32 × mm_T) :=
  gd_G M t 11 (
  bd_2 (ff_M_isBlock t a1 M) fun x1 M1 =>
  if x1 = 0 then (some ((0 : Int32), M1)) else ((pf_I M1 t 11 24 (0 : Int32)).bind fun M2 =>
  (ff_M_firstOf t a1 M2).bind fun x2 =>
  lf_M_writeBlock_21 (fun (M4 : mm_T) => (ff_M_saysExit t a1 M4).bind fun M5 =>
  (gf_I M5 t 11 24).bind fun x5 =>
  some (x5, M5)) t a1 fu_L x2 M2))

def ff_M_outputByte (t : Nat) (a1 : Int32) (M : mm_T) : Option (Int32 × mm_T) :=
  gd_G M t 11 (
  (pf_I M t 11 4 (0 : Int32)).bind fun M1 =>
  (gf_I M1 t 11 24).bind fun x1 =>
  (ff_M_in a1 (0 : Int32) (x1 - (1 : Int32)) M1).bind fun x2 =>
  if x2 = 0 then (some ((-1 : Int32), M1)) else ((gf_R M1 t 11 23).bind fun x3 =>
  (ar_I M1 x3 a1).bind fun x4 =>
  some (x4, M1)))

def ff_M_undo (t : Nat) (M : mm_T) : Option (Int32 × mm_T) :=
  gd_G M t 11 (
  (pf_I M t 11 4 (0 : Int32)).bind fun M1 =>
  (gf_I M1 t 11 3).bind fun x1 =>
  if x1 = 0 then ((pf_I M1 t 11 4 (1 : Int32)).bind fun M4 =>
  some ((0 : Int32), M4)) else ((gf_I M1 t 11 3).bind fun x2 =>
  (pf_I M1 t 11 3 (x2 - (1 : Int32))).bind fun M2 =>
  (gf_I M2 t 11 3).bind fun x3 =>
  (ff_M_copies t ((1 : Int32) + x3) (0 : Int32) M2).bind fun M3 =>
  (gf_I M3 t 11 3).bind fun x4 =>
  some (x4, M3)))

def ff_M_saveSnapshot (t : Nat) (a1 : Int32) (M : mm_T) : Option (mm_T) :=
  gd_G M t 11 (
  (pf_I M t 11 4 (0 : Int32)).bind fun M1 =>
  jp_J (α := Option (mm_T)) ((pf_I M1 t 11 4 (1 : Int32)).bind fun M2 =>
  some M2) fun j14 =>
  if a1 < 0 then (j14) else (if a1 < (2 : Int32) then ((ff_M_copies t (0 : Int32) ((7 : Int32) + a1) M1).bind fun M3 =>
  (gf_R M3 t 11 1).bind fun x1 =>
  (aw_Z M3 x1 a1 (1 : Int32)).bind fun M4 =>
  some M4) else (j14)))

def ff_M_restoreSnapshot (t : Nat) (a1 : Int32) (M : mm_T) : Option (mm_T) :=
  gd_G M t 11 (
  (pf_I M t 11 4 (0 : Int32)).bind fun M1 =>
  jp_J (α := Option (mm_T)) ((pf_I M1 t 11 4 (1 : Int32)).bind fun M2 =>
  some M2) fun j14 =>
  if a1 < 0 then (j14) else (if a1 < (2 : Int32) then ((gf_R M1 t 11 1).bind fun x1 =>
  (ar_Z M1 x1 a1).bind fun x2 =>
  if x2 = 0 then ((pf_I M1 t 11 4 (2 : Int32)).bind fun M5 =>
  some M5) else ((ff_M_copies t ((7 : Int32) + a1) (0 : Int32) M1).bind fun M3 =>
  (pf_I M3 t 11 3 (0 : Int32)).bind fun M4 =>
  some M4)) else (j14)))

def ff_Z_appendText (a1 : Nat) (a2 : Int32) (a3 : Nat) (M : mm_T) : Option (Int32 × mm_T) :=
  cs_X (ff_D_appendText a1 a2 M) (fun x1 M1 => (aw_J M1 a3 (0 : Int32) ((x1).toInt64)).bind fun M2 =>
  some ((0 : Int32), M2)) (fun E M1 => if E = "java/lang/IllegalStateException" then (some ((1 : Int32), M1)) else (none))

def ff_Z_truncateText (a1 : Nat) (a2 : Int32) (a3 : Nat) (M : mm_T) : Option (Int32 × mm_T) :=
  cs_X (ff_D_truncateText a1 a2 M) (fun x1 M1 => (aw_J M1 a3 (0 : Int32) ((x1).toInt64)).bind fun M2 =>
  some ((0 : Int32), M2)) (fun E M1 => if E = "java/lang/IllegalArgumentException" then (some ((1 : Int32), M1)) else (none))

def ff_Z_instructionsIn (a1 : Nat) (a2 : Int32) (a3 : Nat) (M : mm_T) : Option (Int32 × mm_T) :=
  cs_X (ff_D_instructionsIn a1 a2 M) (fun x1 M1 => (aw_J M1 a3 (0 : Int32) ((x1).toInt64)).bind fun M2 =>
  some ((0 : Int32), M2)) (fun E M1 => if E = "java/lang/IndexOutOfBoundsException" then (some ((1 : Int32), M1)) else (none))

def ff_Z_blockOf (a1 : Nat) (a2 : Int32) (a3 : Nat) (M : mm_T) : Option (Int32 × mm_T) :=
  cs_X (ff_D_blockOf a1 a2 M) (fun x1 M1 => (aw_J M1 a3 (0 : Int32) ((x1).toInt64)).bind fun M2 =>
  some ((0 : Int32), M2)) (fun E M1 => if E = "java/lang/IndexOutOfBoundsException" then (some ((1 : Int32), M1)) else (none))

def ff_Z_kindOf (a1 : Nat) (a2 : Int32) (a3 : Nat) (M : mm_T) : Option (Int32 × mm_T) :=
  cs_X (ff_D_kindOf a1 a2 M) (fun x1 M1 => (aw_J M1 a3 (0 : Int32) ((x1).toInt64)).bind fun M2 =>
  some ((0 : Int32), M2)) (fun E M1 => if E = "java/lang/IndexOutOfBoundsException" then (some ((1 : Int32), M1)) else (none))

def ff_Z_successor (a1 : Nat) (a2 : Int32) (a3 : Int32) (a4 : Nat) (M : mm_T) : Option (Int32 × mm_T) :=
  cs_X (ff_D_successor a1 a2 a3 M) (fun x1 M1 => (aw_J M1 a4 (0 : Int32) ((x1).toInt64)).bind fun M2 =>
  some ((0 : Int32), M2)) (fun E M1 => if E = "java/lang/IndexOutOfBoundsException" then (some ((1 : Int32), M1)) else (if E = "java/util/NoSuchElementException" then (some ((2 : Int32), M1)) else (none)))

def ff_Z_predecessors (a1 : Nat) (a2 : Int32) (a3 : Nat) (M : mm_T) : Option (Int32 × mm_T) :=
  cs_X (ff_D_predecessors a1 a2 M) (fun x1 M1 => (aw_J M1 a3 (0 : Int32) ((x1).toInt64)).bind fun M2 =>
  some ((0 : Int32), M2)) (fun E M1 => if E = "java/lang/IndexOutOfBoundsException" then (some ((1 : Int32), M1)) else (none))

def ff_Z_isReachable (a1 : Nat) (a2 : Int32) (a3 : Nat) (M : mm_T) : Option (Int32 × mm_T) :=
  cs_X (ff_D_isReachable a1 a2 M) (fun x1 M1 => jp_J (α := Int64 → Option (Int32 × mm_T)) (fun (x2 : Int64) => (aw_J M1 a3 (0 : Int32) x2).bind fun M2 =>
  some ((0 : Int32), M2)) fun j15 =>
  if x1 = 0 then (j15 (0 : Int64)) else (j15 (1 : Int64))) (fun E M1 => if E = "java/lang/IndexOutOfBoundsException" then (some ((1 : Int32), M1)) else (none))

def ff_Z_distanceTo (a1 : Nat) (a2 : Int32) (a3 : Nat) (M : mm_T) : Option (Int32 × mm_T) :=
  cs_X (ff_D_distanceTo a1 a2 M) (fun x1 M1 => (aw_J M1 a3 (0 : Int32) ((x1).toInt64)).bind fun M2 =>
  some ((0 : Int32), M2)) (fun E M1 => if E = "java/lang/IndexOutOfBoundsException" then (some ((1 : Int32), M1)) else (none))

def ff_Z_reaches (a1 : Nat) (a2 : Int32) (a3 : Int32) (a4 : Nat) (M : mm_T) : Option (Int32 × mm_T) :=
  cs_X (ff_D_reaches a1 a2 a3 M) (fun x1 M1 => jp_J (α := Int64 → Option (Int32 × mm_T)) (fun (x2 : Int64) => (aw_J M1 a4 (0 : Int32) x2).bind fun M2 =>
  some ((0 : Int32), M2)) fun j16 =>
  if x1 = 0 then (j16 (0 : Int64)) else (j16 (1 : Int64))) (fun E M1 => if E = "java/lang/IndexOutOfBoundsException" then (some ((1 : Int32), M1)) else (none))

def ff_Z_reachingDefinitions (a1 : Nat) (a2 : Int32) (a3 : Int32) (a4 : Nat) (M : mm_T) : Option (Int32 × mm_T) :=
  cs_X (ff_D_reachingDefinitions a1 a2 a3 M) (fun x1 M1 => (aw_J M1 a4 (0 : Int32) ((x1).toInt64)).bind fun M2 =>
  some ((0 : Int32), M2)) (fun E M1 => if E = "java/lang/IndexOutOfBoundsException" then (some ((1 : Int32), M1)) else (if E = "java/lang/IllegalArgumentException" then (some ((2 : Int32), M1)) else (none)))

def ff_Z_isInitialReaching (a1 : Nat) (a2 : Int32) (a3 : Int32) (a4 : Nat) (M : mm_T) : Option (Int32 × mm_T) :=
  cs_X (ff_D_isInitialReaching a1 a2 a3 M) (fun x1 M1 => jp_J (α := Int64 → Option (Int32 × mm_T)) (fun (x2 : Int64) => (aw_J M1 a4 (0 : Int32) x2).bind fun M2 =>
  some ((0 : Int32), M2)) fun j16 =>
  if x1 = 0 then (j16 (0 : Int64)) else (j16 (1 : Int64))) (fun E M1 => if E = "java/lang/IndexOutOfBoundsException" then (some ((1 : Int32), M1)) else (if E = "java/lang/IllegalArgumentException" then (some ((2 : Int32), M1)) else (none)))

def ff_Z_usesOf (a1 : Nat) (a2 : Int32) (a3 : Nat) (M : mm_T) : Option (Int32 × mm_T) :=
  cs_X (ff_D_usesOf a1 a2 M) (fun x1 M1 => (aw_J M1 a3 (0 : Int32) ((x1).toInt64)).bind fun M2 =>
  some ((0 : Int32), M2)) (fun E M1 => if E = "java/lang/IndexOutOfBoundsException" then (some ((1 : Int32), M1)) else (none))

def ff_Z_onlyDefinition (a1 : Nat) (a2 : Int32) (a3 : Int32) (a4 : Nat) (M : mm_T) : Option (Int32 × mm_T) :=
  cs_X (ff_D_onlyDefinition a1 a2 a3 M) (fun x1 M1 => (aw_J M1 a4 (0 : Int32) ((x1).toInt64)).bind fun M2 =>
  some ((0 : Int32), M2)) (fun E M1 => if E = "java/lang/IndexOutOfBoundsException" then (some ((1 : Int32), M1)) else (if E = "java/util/NoSuchElementException" then (some ((2 : Int32), M1)) else (none)))

def ff_Z_isLiveIn (a1 : Nat) (a2 : Int32) (a3 : Int32) (a4 : Nat) (M : mm_T) : Option (Int32 × mm_T) :=
  cs_X (ff_D_isLiveIn a1 a2 a3 M) (fun x1 M1 => jp_J (α := Int64 → Option (Int32 × mm_T)) (fun (x2 : Int64) => (aw_J M1 a4 (0 : Int32) x2).bind fun M2 =>
  some ((0 : Int32), M2)) fun j16 =>
  if x1 = 0 then (j16 (0 : Int64)) else (j16 (1 : Int64))) (fun E M1 => if E = "java/lang/IndexOutOfBoundsException" then (some ((1 : Int32), M1)) else (if E = "java/lang/IllegalArgumentException" then (some ((2 : Int32), M1)) else (none)))

def ff_Z_isLiveOut (a1 : Nat) (a2 : Int32) (a3 : Int32) (a4 : Nat) (M : mm_T) : Option (Int32 × mm_T) :=
  cs_X (ff_D_isLiveOut a1 a2 a3 M) (fun x1 M1 => jp_J (α := Int64 → Option (Int32 × mm_T)) (fun (x2 : Int64) => (aw_J M1 a4 (0 : Int32) x2).bind fun M2 =>
  some ((0 : Int32), M2)) fun j16 =>
  if x1 = 0 then (j16 (0 : Int64)) else (j16 (1 : Int64))) (fun E M1 => if E = "java/lang/IndexOutOfBoundsException" then (some ((1 : Int32), M1)) else (if E = "java/lang/IllegalArgumentException" then (some ((2 : Int32), M1)) else (none)))

def ff_Z_liveBefore (a1 : Nat) (a2 : Int32) (a3 : Nat) (M : mm_T) : Option (Int32 × mm_T) :=
  cs_X (ff_D_liveBefore a1 a2 M) (fun x1 M1 => (aw_J M1 a3 (0 : Int32) ((x1).toInt64)).bind fun M2 =>
  some ((0 : Int32), M2)) (fun E M1 => if E = "java/lang/IndexOutOfBoundsException" then (some ((1 : Int32), M1)) else (none))

def ff_Z_isDead (a1 : Nat) (a2 : Int32) (a3 : Nat) (M : mm_T) : Option (Int32 × mm_T) :=
  cs_X (ff_D_isDead a1 a2 M) (fun x1 M1 => jp_J (α := Int64 → Option (Int32 × mm_T)) (fun (x2 : Int64) => (aw_J M1 a3 (0 : Int32) x2).bind fun M2 =>
  some ((0 : Int32), M2)) fun j15 =>
  if x1 = 0 then (j15 (0 : Int64)) else (j15 (1 : Int64))) (fun E M1 => if E = "java/lang/IndexOutOfBoundsException" then (some ((1 : Int32), M1)) else (none))

def ff_Z_interfere (a1 : Nat) (a2 : Int32) (a3 : Int32) (a4 : Nat) (M : mm_T) : Option (Int32 × mm_T) :=
  cs_X (ff_D_interfere a1 a2 a3 M) (fun x1 M1 => jp_J (α := Int64 → Option (Int32 × mm_T)) (fun (x2 : Int64) => (aw_J M1 a4 (0 : Int32) x2).bind fun M2 =>
  some ((0 : Int32), M2)) fun j16 =>
  if x1 = 0 then (j16 (0 : Int64)) else (j16 (1 : Int64))) (fun E M1 => if E = "java/lang/IllegalArgumentException" then (some ((1 : Int32), M1)) else (none))

def ff_Z_isRedundant (a1 : Nat) (a2 : Int32) (a3 : Nat) (M : mm_T) : Option (Int32 × mm_T) :=
  cs_X (ff_D_isRedundant a1 a2 M) (fun x1 M1 => jp_J (α := Int64 → Option (Int32 × mm_T)) (fun (x2 : Int64) => (aw_J M1 a3 (0 : Int32) x2).bind fun M2 =>
  some ((0 : Int32), M2)) fun j15 =>
  if x1 = 0 then (j15 (0 : Int64)) else (j15 (1 : Int64))) (fun E M1 => if E = "java/lang/IndexOutOfBoundsException" then (some ((1 : Int32), M1)) else (none))

def ff_Z_availableAt (a1 : Nat) (a2 : Int32) (a3 : Nat) (M : mm_T) : Option (Int32 × mm_T) :=
  cs_X (ff_D_availableAt a1 a2 M) (fun x1 M1 => (aw_J M1 a3 (0 : Int32) ((x1).toInt64)).bind fun M2 =>
  some ((0 : Int32), M2)) (fun E M1 => if E = "java/lang/IndexOutOfBoundsException" then (some ((1 : Int32), M1)) else (none))

def ff_Z_dominates (a1 : Nat) (a2 : Int32) (a3 : Int32) (a4 : Nat) (M : mm_T) : Option (Int32 × mm_T) :=
  cs_X (ff_D_dominates a1 a2 a3 M) (fun x1 M1 => jp_J (α := Int64 → Option (Int32 × mm_T)) (fun (x2 : Int64) => (aw_J M1 a4 (0 : Int32) x2).bind fun M2 =>
  some ((0 : Int32), M2)) fun j16 =>
  if x1 = 0 then (j16 (0 : Int64)) else (j16 (1 : Int64))) (fun E M1 => if E = "java/lang/IndexOutOfBoundsException" then (some ((1 : Int32), M1)) else (none))

def ff_Z_immediateDominator (a1 : Nat) (a2 : Int32) (a3 : Nat) (M : mm_T) : Option (Int32 × mm_T) :=
  cs_X (ff_D_immediateDominator a1 a2 M) (fun x1 M1 => (aw_J M1 a3 (0 : Int32) ((x1).toInt64)).bind fun M2 =>
  some ((0 : Int32), M2)) (fun E M1 => if E = "java/lang/IndexOutOfBoundsException" then (some ((1 : Int32), M1)) else (none))

def ff_Z_commonDominator (a1 : Nat) (a2 : Int32) (a3 : Int32) (a4 : Nat) (M : mm_T) : Option (Int32 × mm_T) :=
  cs_X (ff_D_commonDominator a1 a2 a3 M) (fun x1 M1 => (aw_J M1 a4 (0 : Int32) ((x1).toInt64)).bind fun M2 =>
  some ((0 : Int32), M2)) (fun E M1 => if E = "java/lang/IndexOutOfBoundsException" then (some ((1 : Int32), M1)) else (none))

def ff_Z_loopSize (a1 : Nat) (a2 : Int32) (a3 : Nat) (M : mm_T) : Option (Int32 × mm_T) :=
  cs_X (ff_D_loopSize a1 a2 M) (fun x1 M1 => (aw_J M1 a3 (0 : Int32) ((x1).toInt64)).bind fun M2 =>
  some ((0 : Int32), M2)) (fun E M1 => if E = "java/lang/IndexOutOfBoundsException" then (some ((1 : Int32), M1)) else (none))

def ff_Z_loopDepth (a1 : Nat) (a2 : Int32) (a3 : Nat) (M : mm_T) : Option (Int32 × mm_T) :=
  cs_X (ff_D_loopDepth a1 a2 M) (fun x1 M1 => (aw_J M1 a3 (0 : Int32) ((x1).toInt64)).bind fun M2 =>
  some ((0 : Int32), M2)) (fun E M1 => if E = "java/lang/IndexOutOfBoundsException" then (some ((1 : Int32), M1)) else (none))

def ff_Z_constantAt (a1 : Nat) (a2 : Int32) (a3 : Int32) (a4 : Nat) (M : mm_T) : Option (Int32 × mm_T) :=
  cs_X (ff_D_constantAt a1 a2 a3 M) (fun x1 M1 => (aw_J M1 a4 (0 : Int32) ((x1).toInt64)).bind fun M2 =>
  some ((0 : Int32), M2)) (fun E M1 => if E = "java/lang/IndexOutOfBoundsException" then (some ((1 : Int32), M1)) else (if E = "java/lang/IllegalArgumentException" then (some ((2 : Int32), M1)) else (none)))

def ff_Z_constantOf (a1 : Nat) (a2 : Int32) (a3 : Nat) (M : mm_T) : Option (Int32 × mm_T) :=
  cs_X (ff_D_constantOf a1 a2 M) (fun x1 M1 => (aw_J M1 a3 (0 : Int32) ((x1).toInt64)).bind fun M2 =>
  some ((0 : Int32), M2)) (fun E M1 => if E = "java/lang/IndexOutOfBoundsException" then (some ((1 : Int32), M1)) else (none))

def ff_Z_runSteps (a1 : Nat) (a2 : Int32) (a3 : Nat) (M : mm_T) : Option (Int32 × mm_T) :=
  cs_X (ff_D_runSteps a1 a2 M) (fun x1 M1 => (aw_J M1 a3 (0 : Int32) ((x1).toInt64)).bind fun M2 =>
  some ((0 : Int32), M2)) (fun E M1 => if E = "java/lang/IllegalArgumentException" then (some ((1 : Int32), M1)) else (none))

def ff_Z_runEnds (a1 : Nat) (a2 : Int32) (a3 : Nat) (M : mm_T) : Option (Int32 × mm_T) :=
  cs_X (ff_D_runEnds a1 a2 M) (fun x1 M1 => jp_J (α := Int64 → Option (Int32 × mm_T)) (fun (x2 : Int64) => (aw_J M1 a3 (0 : Int32) x2).bind fun M2 =>
  some ((0 : Int32), M2)) fun j15 =>
  if x1 = 0 then (j15 (0 : Int64)) else (j15 (1 : Int64))) (fun E M1 => if E = "java/lang/IllegalArgumentException" then (some ((1 : Int32), M1)) else (none))

def ff_Z_valueAfter (a1 : Nat) (a2 : Int32) (a3 : Int32) (a4 : Nat) (M : mm_T) : Option (Int32 × mm_T) :=
  cs_X (ff_D_valueAfter a1 a2 a3 M) (fun x1 M1 => (aw_J M1 a4 (0 : Int32) ((x1).toInt64)).bind fun M2 =>
  some ((0 : Int32), M2)) (fun E M1 => if E = "java/lang/IllegalArgumentException" then (some ((1 : Int32), M1)) else (none))

def ff_Z_lastShown (a1 : Nat) (a2 : Int32) (a3 : Nat) (M : mm_T) : Option (Int32 × mm_T) :=
  cs_X (ff_D_lastShown a1 a2 M) (fun x1 M1 => (aw_J M1 a3 (0 : Int32) ((x1).toInt64)).bind fun M2 =>
  some ((0 : Int32), M2)) (fun E M1 => if E = "java/lang/IllegalArgumentException" then (some ((1 : Int32), M1)) else (none))

def ff_Z_visits (a1 : Nat) (a2 : Int32) (a3 : Int32) (a4 : Nat) (M : mm_T) : Option (Int32 × mm_T) :=
  cs_X (ff_D_visits a1 a2 a3 M) (fun x1 M1 => (aw_J M1 a4 (0 : Int32) ((x1).toInt64)).bind fun M2 =>
  some ((0 : Int32), M2)) (fun E M1 => if E = "java/lang/IndexOutOfBoundsException" then (some ((1 : Int32), M1)) else (if E = "java/lang/IllegalArgumentException" then (some ((2 : Int32), M1)) else (none)))

def ff_Z_insertSet (a1 : Nat) (a2 : Int32) (a3 : Int32) (a4 : Int32) (a5 : Int32) (a6 : Nat) (M : mm_T) : Option (Int32 × mm_T) :=
  cs_X (ff_D_insertSet a1 a2 a3 a4 a5 M) (fun x1 M1 => (aw_J M1 a6 (0 : Int32) ((x1).toInt64)).bind fun M2 =>
  some ((0 : Int32), M2)) (fun E M1 => if E = "java/lang/IndexOutOfBoundsException" then (some ((1 : Int32), M1)) else (if E = "java/lang/IllegalArgumentException" then (some ((2 : Int32), M1)) else (if E = "java/lang/IllegalStateException" then (some ((3 : Int32), M1)) else (none))))

def ff_Z_insertCalc (a1 : Nat) (a2 : Int32) (a3 : Int32) (a4 : Int32) (a5 : Int32) (a6 : Int32) (a7 : Int32) (a8 : Nat) (M : mm_T) : Option (Int32 × mm_T) :=
  cs_X (ff_D_insertCalc a1 a2 a3 a4 a5 a6 a7 M) (fun x1 M1 => (aw_J M1 a8 (0 : Int32) ((x1).toInt64)).bind fun M2 =>
  some ((0 : Int32), M2)) (fun E M1 => if E = "java/lang/IndexOutOfBoundsException" then (some ((1 : Int32), M1)) else (if E = "java/lang/IllegalArgumentException" then (some ((2 : Int32), M1)) else (if E = "java/lang/IllegalStateException" then (some ((3 : Int32), M1)) else (none))))

def ff_Z_removeInstruction (a1 : Nat) (a2 : Int32) (a3 : Nat) (M : mm_T) : Option (Int32 × mm_T) :=
  cs_X (ff_D_removeInstruction a1 a2 M) (fun x1 M1 => (aw_J M1 a3 (0 : Int32) ((x1).toInt64)).bind fun M2 =>
  some ((0 : Int32), M2)) (fun E M1 => if E = "java/lang/IndexOutOfBoundsException" then (some ((1 : Int32), M1)) else (none))

def ff_Z_setGoto (a1 : Nat) (a2 : Int32) (a3 : Int32) (a4 : Nat) (M : mm_T) : Option (Int32 × mm_T) :=
  cs_X (ff_D_setGoto a1 a2 a3 M) (fun x1 M1 => (aw_J M1 a4 (0 : Int32) ((x1).toInt64)).bind fun M2 =>
  some ((0 : Int32), M2)) (fun E M1 => if E = "java/lang/IndexOutOfBoundsException" then (some ((1 : Int32), M1)) else (none))

def ff_Z_setBranch (a1 : Nat) (a2 : Int32) (a3 : Int32) (a4 : Int32) (a5 : Int32) (a6 : Nat) (M : mm_T) : Option (Int32 × mm_T) :=
  cs_X (ff_D_setBranch a1 a2 a3 a4 a5 M) (fun x1 M1 => (aw_J M1 a6 (0 : Int32) ((x1).toInt64)).bind fun M2 =>
  some ((0 : Int32), M2)) (fun E M1 => if E = "java/lang/IndexOutOfBoundsException" then (some ((1 : Int32), M1)) else (if E = "java/lang/IllegalArgumentException" then (some ((2 : Int32), M1)) else (none)))

def ff_Z_writeBlock (a1 : Nat) (a2 : Int32) (a3 : Nat) (M : mm_T) : Option (Int32 × mm_T) :=
  cs_X (ff_D_writeBlock a1 a2 M) (fun x1 M1 => (aw_J M1 a3 (0 : Int32) ((x1).toInt64)).bind fun M2 =>
  some ((0 : Int32), M2)) (fun E M1 => if E = "java/lang/IndexOutOfBoundsException" then (some ((1 : Int32), M1)) else (none))

def ff_Z_undo (a1 : Nat) (a2 : Nat) (M : mm_T) : Option (Int32 × mm_T) :=
  cs_X (ff_D_undo a1 M) (fun x1 M1 => (aw_J M1 a2 (0 : Int32) ((x1).toInt64)).bind fun M2 =>
  some ((0 : Int32), M2)) (fun E M1 => if E = "java/lang/IllegalStateException" then (some ((1 : Int32), M1)) else (none))

def ff_Z_saveSnapshot (a1 : Nat) (a2 : Int32) (M : mm_T) : Option (Int32 × mm_T) :=
  cs_X (ff_D_saveSnapshot a1 a2 M) (fun x1 M1 => some ((0 : Int32), M1)) (fun E M1 => if E = "java/lang/IllegalArgumentException" then (some ((1 : Int32), M1)) else (none))

def ff_Z_restoreSnapshot (a1 : Nat) (a2 : Int32) (M : mm_T) : Option (Int32 × mm_T) :=
  cs_X (ff_D_restoreSnapshot a1 a2 M) (fun x1 M1 => some ((0 : Int32), M1)) (fun E M1 => if E = "java/lang/IllegalArgumentException" then (some ((1 : Int32), M1)) else (if E = "java/lang/IllegalStateException" then (some ((2 : Int32), M1)) else (none)))

