/-! ===== each case of the law ===== -/
section ZLC
variable {N : mm_T} {s : zy_T} {n m : Nat} {xs : Nat → Int32} {i : Int32}
theorem zl_s0 (hI : zl_I N s) (hB : mm_n N + 300 < st_B) (R : zl_rd n xs i m) (jj : mm_T → Option (Int32 × mm_T)) : zl_N (lw_c0 n xs 1 52 63 i jj N) jj N := by
  have r1 : sl_I n xs (i + (1 : Int32)) = some (xs (m + 1)) := R 1 (by omega)
  unfold lw_c0
  simp only [r1, Option.bind_some]
  exact zl_tI hI (zl_appendText hI.1 hI.2.2 (by omega) (by omega) (xs (m + 1))) (fun M1 m1 g => zy_appendTextM m1 (xs (m + 1)))

theorem zl_s1 (hI : zl_I N s) (hB : mm_n N + 300 < st_B) (R : zl_rd n xs i m) (jj : mm_T → Option (Int32 × mm_T)) : zl_N (lw_c1 n xs 1 52 63 i jj N) jj N := by
  have r1 : sl_I n xs (i + (1 : Int32)) = some (xs (m + 1)) := R 1 (by omega)
  unfold lw_c1
  simp only [r1, Option.bind_some]
  exact zl_tI hI (zl_truncateText hI.1 hI.2.2 (by omega) (by omega) (xs (m + 1))) (fun M1 m1 g => zy_truncateTextM m1 (xs (m + 1)))

theorem zl_s2 (hI : zl_I N s) (hB : mm_n N + 300 < st_B) (R : zl_rd n xs i m) (jj : mm_T → Option (Int32 × mm_T)) : zl_N (lw_c2 n xs 1 52 63 i jj N) jj N := by
  unfold lw_c2
  exact zl_tW hI (zy_loadProgram hI.1) (fun M1 m1 g => zy_loadProgramM m1 )

theorem zl_s3 (hI : zl_I N s) (hB : mm_n N + 300 < st_B) (R : zl_rd n xs i m) (jj : mm_T → Option (Int32 × mm_T)) : zl_N (lw_c3 n xs 1 52 63 i jj N) jj N := by
  unfold lw_c3
  exact zl_tP hI (zy_errorCode hI.1) (zy_errorCodeM hI.2.1 )

theorem zl_s4 (hI : zl_I N s) (hB : mm_n N + 300 < st_B) (R : zl_rd n xs i m) (jj : mm_T → Option (Int32 × mm_T)) : zl_N (lw_c4 n xs 1 52 63 i jj N) jj N := by
  unfold lw_c4
  exact zl_tP hI (zy_errorPosition hI.1) (zy_errorPositionM hI.2.1 )

theorem zl_s5 (hI : zl_I N s) (hB : mm_n N + 300 < st_B) (R : zl_rd n xs i m) (jj : mm_T → Option (Int32 × mm_T)) : zl_N (lw_c5 n xs 1 52 63 i jj N) jj N := by
  unfold lw_c5
  exact zl_tP hI (zc_blockCount hI.1.2) (zy_ofOm hI.2.1 (zt_blockCount hI.2.1.2.1 ))

theorem zl_s6 (hI : zl_I N s) (hB : mm_n N + 300 < st_B) (R : zl_rd n xs i m) (jj : mm_T → Option (Int32 × mm_T)) : zl_N (lw_c6 n xs 1 52 63 i jj N) jj N := by
  unfold lw_c6
  exact zl_tP hI (zc_instructionCount hI.1.2) (zy_ofOm hI.2.1 (zt_instructionCount hI.2.1.2.1 ))

theorem zl_s7 (hI : zl_I N s) (hB : mm_n N + 300 < st_B) (R : zl_rd n xs i m) (jj : mm_T → Option (Int32 × mm_T)) : zl_N (lw_c7 n xs 1 52 63 i jj N) jj N := by
  have r1 : sl_I n xs (i + (1 : Int32)) = some (xs (m + 1)) := R 1 (by omega)
  unfold lw_c7
  simp only [r1, Option.bind_some]
  exact zl_tI hI (zl_instructionsIn hI.1 hI.2.2 (by omega) (by omega) (xs (m + 1))) (fun M1 m1 g => zy_ofOm m1 (zt_instructionsIn m1.2.1 (xs (m + 1))))

theorem zl_s8 (hI : zl_I N s) (hB : mm_n N + 300 < st_B) (R : zl_rd n xs i m) (jj : mm_T → Option (Int32 × mm_T)) : zl_N (lw_c8 n xs 1 52 63 i jj N) jj N := by
  have r1 : sl_I n xs (i + (1 : Int32)) = some (xs (m + 1)) := R 1 (by omega)
  unfold lw_c8
  simp only [r1, Option.bind_some]
  exact zl_tI hI (zl_blockOf hI.1 hI.2.2 (by omega) (by omega) (xs (m + 1))) (fun M1 m1 g => zy_ofOm m1 (zt_blockOf m1.2.1 (xs (m + 1))))

theorem zl_s9 (hI : zl_I N s) (hB : mm_n N + 300 < st_B) (R : zl_rd n xs i m) (jj : mm_T → Option (Int32 × mm_T)) : zl_N (lw_c9 n xs 1 52 63 i jj N) jj N := by
  have r1 : sl_I n xs (i + (1 : Int32)) = some (xs (m + 1)) := R 1 (by omega)
  unfold lw_c9
  simp only [r1, Option.bind_some]
  exact zl_tI hI (zl_kindOf hI.1 hI.2.2 (by omega) (by omega) (xs (m + 1))) (fun M1 m1 g => zy_ofOm m1 (zt_kindOf m1.2.1 (xs (m + 1))))

theorem zl_s10 (hI : zl_I N s) (hB : mm_n N + 300 < st_B) (R : zl_rd n xs i m) (jj : mm_T → Option (Int32 × mm_T)) : zl_N (lw_c10 n xs 1 52 63 i jj N) jj N := by
  have r1 : sl_I n xs (i + (1 : Int32)) = some (xs (m + 1)) := R 1 (by omega)
  have r2 : sl_I n xs (i + (2 : Int32)) = some (xs (m + 2)) := R 2 (by omega)
  unfold lw_c10
  simp only [r1, r2, Option.bind_some]
  exact zl_tI hI (zl_successor hI.1 hI.2.2 (by omega) (by omega) (xs (m + 1)) (xs (m + 2))) (fun M1 m1 g => zy_ofOm m1 (zt_successor m1.2.1 (xs (m + 1)) (xs (m + 2))))

theorem zl_s11 (hI : zl_I N s) (hB : mm_n N + 300 < st_B) (R : zl_rd n xs i m) (jj : mm_T → Option (Int32 × mm_T)) : zl_N (lw_c11 n xs 1 52 63 i jj N) jj N := by
  have r1 : sl_I n xs (i + (1 : Int32)) = some (xs (m + 1)) := R 1 (by omega)
  unfold lw_c11
  simp only [r1, Option.bind_some]
  exact zl_tI hI (zl_predecessors hI.1 hI.2.2 (by omega) (by omega) (xs (m + 1))) (fun M1 m1 g => zy_ofOm m1 (zt_predecessors m1.2.1 (xs (m + 1))))

theorem zl_s12 (hI : zl_I N s) (hB : mm_n N + 300 < st_B) (R : zl_rd n xs i m) (jj : mm_T → Option (Int32 × mm_T)) : zl_N (lw_c12 n xs 1 52 63 i jj N) jj N := by
  have r1 : sl_I n xs (i + (1 : Int32)) = some (xs (m + 1)) := R 1 (by omega)
  unfold lw_c12
  simp only [r1, Option.bind_some]
  exact zl_tB hI (zl_isReachable hI.1 hI.2.2 (by omega) (by omega) (xs (m + 1))) (fun M1 m1 g => zy_ofOm m1 (zt_isReachable m1.2.1 (xs (m + 1))))

theorem zl_s13 (hI : zl_I N s) (hB : mm_n N + 300 < st_B) (R : zl_rd n xs i m) (jj : mm_T → Option (Int32 × mm_T)) : zl_N (lw_c13 n xs 1 52 63 i jj N) jj N := by
  have r1 : sl_I n xs (i + (1 : Int32)) = some (xs (m + 1)) := R 1 (by omega)
  unfold lw_c13
  simp only [r1, Option.bind_some]
  exact zl_tI hI (zl_distanceTo hI.1 hI.2.2 (by omega) (by omega) (xs (m + 1))) (fun M1 m1 g => zy_ofOm m1 (zt_distanceTo m1.2.1 (by omega) (xs (m + 1))))

theorem zl_s14 (hI : zl_I N s) (hB : mm_n N + 300 < st_B) (R : zl_rd n xs i m) (jj : mm_T → Option (Int32 × mm_T)) : zl_N (lw_c14 n xs 1 52 63 i jj N) jj N := by
  have r1 : sl_I n xs (i + (1 : Int32)) = some (xs (m + 1)) := R 1 (by omega)
  have r2 : sl_I n xs (i + (2 : Int32)) = some (xs (m + 2)) := R 2 (by omega)
  unfold lw_c14
  simp only [r1, r2, Option.bind_some]
  exact zl_tB hI (zl_reaches hI.1 hI.2.2 (by omega) (by omega) (xs (m + 1)) (xs (m + 2))) (fun M1 m1 g => zy_ofOm m1 (zt_reaches m1.2.1 (xs (m + 1)) (xs (m + 2))))

theorem zl_s15 (hI : zl_I N s) (hB : mm_n N + 300 < st_B) (R : zl_rd n xs i m) (jj : mm_T → Option (Int32 × mm_T)) : zl_N (lw_c15 n xs 1 52 63 i jj N) jj N := by
  have r1 : sl_I n xs (i + (1 : Int32)) = some (xs (m + 1)) := R 1 (by omega)
  have r2 : sl_I n xs (i + (2 : Int32)) = some (xs (m + 2)) := R 2 (by omega)
  unfold lw_c15
  simp only [r1, r2, Option.bind_some]
  exact zl_tI hI (zl_reachingDefinitions hI.1 hI.2.2 (by omega) (by omega) (xs (m + 1)) (xs (m + 2))) (fun M1 m1 g => zy_ofOm m1 (zt_reachingDefinitions m1.2.1 (xs (m + 1)) (xs (m + 2))))

theorem zl_s16 (hI : zl_I N s) (hB : mm_n N + 300 < st_B) (R : zl_rd n xs i m) (jj : mm_T → Option (Int32 × mm_T)) : zl_N (lw_c16 n xs 1 52 63 i jj N) jj N := by
  have r1 : sl_I n xs (i + (1 : Int32)) = some (xs (m + 1)) := R 1 (by omega)
  have r2 : sl_I n xs (i + (2 : Int32)) = some (xs (m + 2)) := R 2 (by omega)
  unfold lw_c16
  simp only [r1, r2, Option.bind_some]
  exact zl_tB hI (zl_isInitialReaching hI.1 hI.2.2 (by omega) (by omega) (xs (m + 1)) (xs (m + 2))) (fun M1 m1 g => zy_ofOm m1 (zt_isInitialReaching m1.2.1 (xs (m + 1)) (xs (m + 2))))

theorem zl_s17 (hI : zl_I N s) (hB : mm_n N + 300 < st_B) (R : zl_rd n xs i m) (jj : mm_T → Option (Int32 × mm_T)) : zl_N (lw_c17 n xs 1 52 63 i jj N) jj N := by
  have r1 : sl_I n xs (i + (1 : Int32)) = some (xs (m + 1)) := R 1 (by omega)
  unfold lw_c17
  simp only [r1, Option.bind_some]
  exact zl_tI hI (zl_usesOf hI.1 hI.2.2 (by omega) (by omega) (xs (m + 1))) (fun M1 m1 g => zy_ofOm m1 (zt_usesOf m1.2.1 (xs (m + 1))))

theorem zl_s18 (hI : zl_I N s) (hB : mm_n N + 300 < st_B) (R : zl_rd n xs i m) (jj : mm_T → Option (Int32 × mm_T)) : zl_N (lw_c18 n xs 1 52 63 i jj N) jj N := by
  have r1 : sl_I n xs (i + (1 : Int32)) = some (xs (m + 1)) := R 1 (by omega)
  have r2 : sl_I n xs (i + (2 : Int32)) = some (xs (m + 2)) := R 2 (by omega)
  unfold lw_c18
  simp only [r1, r2, Option.bind_some]
  exact zl_tI hI (zl_onlyDefinition hI.1 hI.2.2 (by omega) (by omega) (xs (m + 1)) (xs (m + 2))) (fun M1 m1 g => zy_ofOm m1 (zt_onlyDefinition m1.2.1 (xs (m + 1)) (xs (m + 2))))

theorem zl_s19 (hI : zl_I N s) (hB : mm_n N + 300 < st_B) (R : zl_rd n xs i m) (jj : mm_T → Option (Int32 × mm_T)) : zl_N (lw_c19 n xs 1 52 63 i jj N) jj N := by
  have r1 : sl_I n xs (i + (1 : Int32)) = some (xs (m + 1)) := R 1 (by omega)
  have r2 : sl_I n xs (i + (2 : Int32)) = some (xs (m + 2)) := R 2 (by omega)
  unfold lw_c19
  simp only [r1, r2, Option.bind_some]
  exact zl_tB hI (zl_isLiveIn hI.1 hI.2.2 (by omega) (by omega) (xs (m + 1)) (xs (m + 2))) (fun M1 m1 g => zy_ofOm m1 (zt_isLiveIn m1.2.1 (xs (m + 1)) (xs (m + 2))))

theorem zl_s20 (hI : zl_I N s) (hB : mm_n N + 300 < st_B) (R : zl_rd n xs i m) (jj : mm_T → Option (Int32 × mm_T)) : zl_N (lw_c20 n xs 1 52 63 i jj N) jj N := by
  have r1 : sl_I n xs (i + (1 : Int32)) = some (xs (m + 1)) := R 1 (by omega)
  have r2 : sl_I n xs (i + (2 : Int32)) = some (xs (m + 2)) := R 2 (by omega)
  unfold lw_c20
  simp only [r1, r2, Option.bind_some]
  exact zl_tB hI (zl_isLiveOut hI.1 hI.2.2 (by omega) (by omega) (xs (m + 1)) (xs (m + 2))) (fun M1 m1 g => zy_ofOm m1 (zt_isLiveOut m1.2.1 (xs (m + 1)) (xs (m + 2))))

theorem zl_s21 (hI : zl_I N s) (hB : mm_n N + 300 < st_B) (R : zl_rd n xs i m) (jj : mm_T → Option (Int32 × mm_T)) : zl_N (lw_c21 n xs 1 52 63 i jj N) jj N := by
  have r1 : sl_I n xs (i + (1 : Int32)) = some (xs (m + 1)) := R 1 (by omega)
  unfold lw_c21
  simp only [r1, Option.bind_some]
  exact zl_tI hI (zl_liveBefore hI.1 hI.2.2 (by omega) (by omega) (xs (m + 1))) (fun M1 m1 g => zy_ofOm m1 (zt_liveBefore m1.2.1 (xs (m + 1))))

theorem zl_s22 (hI : zl_I N s) (hB : mm_n N + 300 < st_B) (R : zl_rd n xs i m) (jj : mm_T → Option (Int32 × mm_T)) : zl_N (lw_c22 n xs 1 52 63 i jj N) jj N := by
  have r1 : sl_I n xs (i + (1 : Int32)) = some (xs (m + 1)) := R 1 (by omega)
  unfold lw_c22
  simp only [r1, Option.bind_some]
  exact zl_tB hI (zl_isDead hI.1 hI.2.2 (by omega) (by omega) (xs (m + 1))) (fun M1 m1 g => zy_ofOm m1 (zt_isDead m1.2.1 (xs (m + 1))))

theorem zl_s23 (hI : zl_I N s) (hB : mm_n N + 300 < st_B) (R : zl_rd n xs i m) (jj : mm_T → Option (Int32 × mm_T)) : zl_N (lw_c23 n xs 1 52 63 i jj N) jj N := by
  unfold lw_c23
  exact zl_tW hI (zl_ofI hI.1 (zc_deadDefinitions hI.1.2)) (fun M1 m1 g => zy_ofOm m1 (zt_deadDefinitions m1.2.1 ))

theorem zl_s24 (hI : zl_I N s) (hB : mm_n N + 300 < st_B) (R : zl_rd n xs i m) (jj : mm_T → Option (Int32 × mm_T)) : zl_N (lw_c24 n xs 1 52 63 i jj N) jj N := by
  unfold lw_c24
  exact zl_tW hI (zl_ofI hI.1 (zc_pressure hI.1.2)) (fun M1 m1 g => zy_ofOm m1 (zt_pressure m1.2.1 ))

theorem zl_s25 (hI : zl_I N s) (hB : mm_n N + 300 < st_B) (R : zl_rd n xs i m) (jj : mm_T → Option (Int32 × mm_T)) : zl_N (lw_c25 n xs 1 52 63 i jj N) jj N := by
  have r1 : sl_I n xs (i + (1 : Int32)) = some (xs (m + 1)) := R 1 (by omega)
  have r2 : sl_I n xs (i + (2 : Int32)) = some (xs (m + 2)) := R 2 (by omega)
  unfold lw_c25
  simp only [r1, r2, Option.bind_some]
  exact zl_tB hI (zl_interfere hI.1 hI.2.2 (by omega) (by omega) (xs (m + 1)) (xs (m + 2))) (fun M1 m1 g => zy_ofOm m1 (zt_interfere m1.2.1 (xs (m + 1)) (xs (m + 2))))

theorem zl_s26 (hI : zl_I N s) (hB : mm_n N + 300 < st_B) (R : zl_rd n xs i m) (jj : mm_T → Option (Int32 × mm_T)) : zl_N (lw_c26 n xs 1 52 63 i jj N) jj N := by
  unfold lw_c26
  exact zl_tW hI (zl_ofI hI.1 (zc_expressionCount hI.1.2)) (fun M1 m1 g => zy_ofOm m1 (zt_expressionCount m1.2.1 ))

theorem zl_s27 (hI : zl_I N s) (hB : mm_n N + 300 < st_B) (R : zl_rd n xs i m) (jj : mm_T → Option (Int32 × mm_T)) : zl_N (lw_c27 n xs 1 52 63 i jj N) jj N := by
  have r1 : sl_I n xs (i + (1 : Int32)) = some (xs (m + 1)) := R 1 (by omega)
  unfold lw_c27
  simp only [r1, Option.bind_some]
  exact zl_tB hI (zl_isRedundant hI.1 hI.2.2 (by omega) (by omega) (xs (m + 1))) (fun M1 m1 g => zy_ofOm m1 (zt_isRedundant m1.2.1 (xs (m + 1))))

theorem zl_s28 (hI : zl_I N s) (hB : mm_n N + 300 < st_B) (R : zl_rd n xs i m) (jj : mm_T → Option (Int32 × mm_T)) : zl_N (lw_c28 n xs 1 52 63 i jj N) jj N := by
  unfold lw_c28
  exact zl_tW hI (zl_ofI hI.1 (zc_redundantCount hI.1.2)) (fun M1 m1 g => zy_ofOm m1 (zt_redundantCount m1.2.1 ))

theorem zl_s29 (hI : zl_I N s) (hB : mm_n N + 300 < st_B) (R : zl_rd n xs i m) (jj : mm_T → Option (Int32 × mm_T)) : zl_N (lw_c29 n xs 1 52 63 i jj N) jj N := by
  have r1 : sl_I n xs (i + (1 : Int32)) = some (xs (m + 1)) := R 1 (by omega)
  unfold lw_c29
  simp only [r1, Option.bind_some]
  exact zl_tI hI (zl_availableAt hI.1 hI.2.2 (by omega) (by omega) (xs (m + 1))) (fun M1 m1 g => zy_ofOm m1 (zt_availableAt m1.2.1 (xs (m + 1))))

theorem zl_s30 (hI : zl_I N s) (hB : mm_n N + 300 < st_B) (R : zl_rd n xs i m) (jj : mm_T → Option (Int32 × mm_T)) : zl_N (lw_c30 n xs 1 52 63 i jj N) jj N := by
  have r1 : sl_I n xs (i + (1 : Int32)) = some (xs (m + 1)) := R 1 (by omega)
  have r2 : sl_I n xs (i + (2 : Int32)) = some (xs (m + 2)) := R 2 (by omega)
  unfold lw_c30
  simp only [r1, r2, Option.bind_some]
  exact zl_tB hI (zl_dominates hI.1 hI.2.2 (by omega) (by omega) (xs (m + 1)) (xs (m + 2))) (fun M1 m1 g => zy_ofOm m1 (zt_dominates m1.2.1 (xs (m + 1)) (xs (m + 2))))

theorem zl_s31 (hI : zl_I N s) (hB : mm_n N + 300 < st_B) (R : zl_rd n xs i m) (jj : mm_T → Option (Int32 × mm_T)) : zl_N (lw_c31 n xs 1 52 63 i jj N) jj N := by
  have r1 : sl_I n xs (i + (1 : Int32)) = some (xs (m + 1)) := R 1 (by omega)
  unfold lw_c31
  simp only [r1, Option.bind_some]
  exact zl_tI hI (zl_immediateDominator hI.1 hI.2.2 (by omega) (by omega) (xs (m + 1))) (fun M1 m1 g => zy_ofOm m1 (zt_immediateDominator m1.2.1 (xs (m + 1))))

theorem zl_s32 (hI : zl_I N s) (hB : mm_n N + 300 < st_B) (R : zl_rd n xs i m) (jj : mm_T → Option (Int32 × mm_T)) : zl_N (lw_c32 n xs 1 52 63 i jj N) jj N := by
  have r1 : sl_I n xs (i + (1 : Int32)) = some (xs (m + 1)) := R 1 (by omega)
  have r2 : sl_I n xs (i + (2 : Int32)) = some (xs (m + 2)) := R 2 (by omega)
  unfold lw_c32
  simp only [r1, r2, Option.bind_some]
  exact zl_tI hI (zl_commonDominator hI.1 hI.2.2 (by omega) (by omega) (xs (m + 1)) (xs (m + 2))) (fun M1 m1 g => zy_ofOm m1 (zt_commonDominator m1.2.1 (xs (m + 1)) (xs (m + 2))))

theorem zl_s33 (hI : zl_I N s) (hB : mm_n N + 300 < st_B) (R : zl_rd n xs i m) (jj : mm_T → Option (Int32 × mm_T)) : zl_N (lw_c33 n xs 1 52 63 i jj N) jj N := by
  unfold lw_c33
  exact zl_tW hI (zl_ofI hI.1 (zc_backEdges hI.1.2)) (fun M1 m1 g => zy_ofOm m1 (zt_backEdges m1.2.1 ))

theorem zl_s34 (hI : zl_I N s) (hB : mm_n N + 300 < st_B) (R : zl_rd n xs i m) (jj : mm_T → Option (Int32 × mm_T)) : zl_N (lw_c34 n xs 1 52 63 i jj N) jj N := by
  have r1 : sl_I n xs (i + (1 : Int32)) = some (xs (m + 1)) := R 1 (by omega)
  unfold lw_c34
  simp only [r1, Option.bind_some]
  exact zl_tI hI (zl_loopSize hI.1 hI.2.2 (by omega) (by omega) (xs (m + 1))) (fun M1 m1 g => zy_ofOm m1 (zt_loopSize m1.2.1 (by omega) (xs (m + 1))))

theorem zl_s35 (hI : zl_I N s) (hB : mm_n N + 300 < st_B) (R : zl_rd n xs i m) (jj : mm_T → Option (Int32 × mm_T)) : zl_N (lw_c35 n xs 1 52 63 i jj N) jj N := by
  have r1 : sl_I n xs (i + (1 : Int32)) = some (xs (m + 1)) := R 1 (by omega)
  unfold lw_c35
  simp only [r1, Option.bind_some]
  exact zl_tI hI (zl_loopDepth hI.1 hI.2.2 (by omega) (by omega) (xs (m + 1))) (fun M1 m1 g => zy_ofOm m1 (zt_loopDepth m1.2.1 (by omega) (xs (m + 1))))

theorem zl_s36 (hI : zl_I N s) (hB : mm_n N + 300 < st_B) (R : zl_rd n xs i m) (jj : mm_T → Option (Int32 × mm_T)) : zl_N (lw_c36 n xs 1 52 63 i jj N) jj N := by
  have r1 : sl_I n xs (i + (1 : Int32)) = some (xs (m + 1)) := R 1 (by omega)
  have r2 : sl_I n xs (i + (2 : Int32)) = some (xs (m + 2)) := R 2 (by omega)
  unfold lw_c36
  simp only [r1, r2, Option.bind_some]
  exact zl_tI hI (zl_constantAt hI.1 hI.2.2 (by omega) (by omega) (xs (m + 1)) (xs (m + 2))) (fun M1 m1 g => zy_ofOm m1 (zt_constantAt m1.2.1 (xs (m + 1)) (xs (m + 2))))

theorem zl_s37 (hI : zl_I N s) (hB : mm_n N + 300 < st_B) (R : zl_rd n xs i m) (jj : mm_T → Option (Int32 × mm_T)) : zl_N (lw_c37 n xs 1 52 63 i jj N) jj N := by
  have r1 : sl_I n xs (i + (1 : Int32)) = some (xs (m + 1)) := R 1 (by omega)
  unfold lw_c37
  simp only [r1, Option.bind_some]
  exact zl_tI hI (zl_constantOf hI.1 hI.2.2 (by omega) (by omega) (xs (m + 1))) (fun M1 m1 g => zy_ofOm m1 (zt_constantOf m1.2.1 (xs (m + 1))))

theorem zl_s38 (hI : zl_I N s) (hB : mm_n N + 300 < st_B) (R : zl_rd n xs i m) (jj : mm_T → Option (Int32 × mm_T)) : zl_N (lw_c38 n xs 1 52 63 i jj N) jj N := by
  unfold lw_c38
  exact zl_tW hI (zl_ofI hI.1 (zc_decidedBranches hI.1.2)) (fun M1 m1 g => zy_ofOm m1 (zt_decidedBranches m1.2.1 ))

theorem zl_s39 (hI : zl_I N s) (hB : mm_n N + 300 < st_B) (R : zl_rd n xs i m) (jj : mm_T → Option (Int32 × mm_T)) : zl_N (lw_c39 n xs 1 52 63 i jj N) jj N := by
  have r1 : sl_I n xs (i + (1 : Int32)) = some (xs (m + 1)) := R 1 (by omega)
  unfold lw_c39
  simp only [r1, Option.bind_some]
  exact zl_tI hI (zl_runSteps hI.1 hI.2.2 (by omega) (by omega) (xs (m + 1))) (fun M1 m1 g => zy_ofU m1 (zt_runSteps m1.2.1 (xs (m + 1))))

theorem zl_s40 (hI : zl_I N s) (hB : mm_n N + 300 < st_B) (R : zl_rd n xs i m) (jj : mm_T → Option (Int32 × mm_T)) : zl_N (lw_c40 n xs 1 52 63 i jj N) jj N := by
  have r1 : sl_I n xs (i + (1 : Int32)) = some (xs (m + 1)) := R 1 (by omega)
  unfold lw_c40
  simp only [r1, Option.bind_some]
  exact zl_tB hI (zl_runEnds hI.1 hI.2.2 (by omega) (by omega) (xs (m + 1))) (fun M1 m1 g => zy_ofU m1 (zt_runEnds m1.2.1 (xs (m + 1))))

theorem zl_s41 (hI : zl_I N s) (hB : mm_n N + 300 < st_B) (R : zl_rd n xs i m) (jj : mm_T → Option (Int32 × mm_T)) : zl_N (lw_c41 n xs 1 52 63 i jj N) jj N := by
  have r1 : sl_I n xs (i + (1 : Int32)) = some (xs (m + 1)) := R 1 (by omega)
  have r2 : sl_I n xs (i + (2 : Int32)) = some (xs (m + 2)) := R 2 (by omega)
  unfold lw_c41
  simp only [r1, r2, Option.bind_some]
  exact zl_tI hI (zl_valueAfter hI.1 hI.2.2 (by omega) (by omega) (xs (m + 1)) (xs (m + 2))) (fun M1 m1 g => zy_ofU m1 (zt_valueAfter m1.2.1 (xs (m + 1)) (xs (m + 2))))

theorem zl_s42 (hI : zl_I N s) (hB : mm_n N + 300 < st_B) (R : zl_rd n xs i m) (jj : mm_T → Option (Int32 × mm_T)) : zl_N (lw_c42 n xs 1 52 63 i jj N) jj N := by
  have r1 : sl_I n xs (i + (1 : Int32)) = some (xs (m + 1)) := R 1 (by omega)
  unfold lw_c42
  simp only [r1, Option.bind_some]
  exact zl_tI hI (zl_lastShown hI.1 hI.2.2 (by omega) (by omega) (xs (m + 1))) (fun M1 m1 g => zy_ofU m1 (zt_lastShown m1.2.1 (xs (m + 1))))

theorem zl_s43 (hI : zl_I N s) (hB : mm_n N + 300 < st_B) (R : zl_rd n xs i m) (jj : mm_T → Option (Int32 × mm_T)) : zl_N (lw_c43 n xs 1 52 63 i jj N) jj N := by
  have r1 : sl_I n xs (i + (1 : Int32)) = some (xs (m + 1)) := R 1 (by omega)
  have r2 : sl_I n xs (i + (2 : Int32)) = some (xs (m + 2)) := R 2 (by omega)
  unfold lw_c43
  simp only [r1, r2, Option.bind_some]
  exact zl_tI hI (zl_visits hI.1 hI.2.2 (by omega) (by omega) (xs (m + 1)) (xs (m + 2))) (fun M1 m1 g => zy_ofU m1 (zt_visits m1.2.1 (xs (m + 1)) (xs (m + 2))))

theorem zl_s44 (hI : zl_I N s) (hB : mm_n N + 300 < st_B) (R : zl_rd n xs i m) (jj : mm_T → Option (Int32 × mm_T)) : zl_N (lw_c44 n xs 1 52 63 i jj N) jj N := by
  unfold lw_c44
  exact zl_tW hI (zl_ofI hI.1 (zc_auditDifference hI.1.2 hI.1.1.2.1.1)) (fun M1 m1 g => zy_ofU m1 (zt_auditDifference m1.2.1 (by have := m1.1; omega) (by omega)))

theorem zl_s45 (hI : zl_I N s) (hB : mm_n N + 300 < st_B) (R : zl_rd n xs i m) (jj : mm_T → Option (Int32 × mm_T)) : zl_N (lw_c45 n xs 1 52 63 i jj N) jj N := by
  unfold lw_c45
  exact zl_share hI

theorem zl_s46 (hI : zl_I N s) (hB : mm_n N + 300 < st_B) (R : zl_rd n xs i m) (jj : mm_T → Option (Int32 × mm_T)) : zl_N (lw_c46 n xs 1 52 63 i jj N) jj N := by
  unfold lw_c46
  exact zl_mean hI

theorem zl_s47 (hI : zl_I N s) (hB : mm_n N + 300 < st_B) (R : zl_rd n xs i m) (jj : mm_T → Option (Int32 × mm_T)) : zl_N (lw_c47 n xs 1 52 63 i jj N) jj N := by
  have r1 : sl_I n xs (i + (1 : Int32)) = some (xs (m + 1)) := R 1 (by omega)
  have r2 : sl_I n xs (i + (2 : Int32)) = some (xs (m + 2)) := R 2 (by omega)
  have r3 : sl_I n xs (i + (3 : Int32)) = some (xs (m + 3)) := R 3 (by omega)
  have r4 : sl_I n xs (i + (4 : Int32)) = some (xs (m + 4)) := R 4 (by omega)
  unfold lw_c47
  simp only [r1, r2, r3, r4, Option.bind_some]
  exact zl_tI hI (zl_insertSet hI.1 hI.2.2 (by omega) (by omega) (by omega) (xs (m + 1)) (xs (m + 2)) (xs (m + 3)) (xs (m + 4))) (fun M1 m1 g => zy_insertSetM m1 (xs (m + 1)) (xs (m + 2)) (xs (m + 3)) (xs (m + 4)))

theorem zl_s48 (hI : zl_I N s) (hB : mm_n N + 300 < st_B) (R : zl_rd n xs i m) (jj : mm_T → Option (Int32 × mm_T)) : zl_N (lw_c48 n xs 1 52 63 i jj N) jj N := by
  have r1 : sl_I n xs (i + (1 : Int32)) = some (xs (m + 1)) := R 1 (by omega)
  have r2 : sl_I n xs (i + (2 : Int32)) = some (xs (m + 2)) := R 2 (by omega)
  have r3 : sl_I n xs (i + (3 : Int32)) = some (xs (m + 3)) := R 3 (by omega)
  have r4 : sl_I n xs (i + (4 : Int32)) = some (xs (m + 4)) := R 4 (by omega)
  have r5 : sl_I n xs (i + (5 : Int32)) = some (xs (m + 5)) := R 5 (by omega)
  have r6 : sl_I n xs (i + (6 : Int32)) = some (xs (m + 6)) := R 6 (by omega)
  unfold lw_c48
  simp only [r1, r2, r3, r4, r5, r6, Option.bind_some]
  exact zl_tI hI (zl_insertCalc hI.1 hI.2.2 (by omega) (by omega) (by omega) (xs (m + 1)) (xs (m + 2)) (xs (m + 3)) (xs (m + 4)) (xs (m + 5)) (xs (m + 6))) (fun M1 m1 g => zy_insertCalcM m1 (xs (m + 1)) (xs (m + 2)) (xs (m + 3)) (xs (m + 4)) (xs (m + 5)) (xs (m + 6)))

theorem zl_s49 (hI : zl_I N s) (hB : mm_n N + 300 < st_B) (R : zl_rd n xs i m) (jj : mm_T → Option (Int32 × mm_T)) : zl_N (lw_c49 n xs 1 52 63 i jj N) jj N := by
  have r1 : sl_I n xs (i + (1 : Int32)) = some (xs (m + 1)) := R 1 (by omega)
  unfold lw_c49
  simp only [r1, Option.bind_some]
  exact zl_tI hI (zl_removeInstruction hI.1 hI.2.2 (by omega) (by omega) (by omega) (xs (m + 1))) (fun M1 m1 g => zy_removeInstructionM m1 (xs (m + 1)))

theorem zl_s50 (hI : zl_I N s) (hB : mm_n N + 300 < st_B) (R : zl_rd n xs i m) (jj : mm_T → Option (Int32 × mm_T)) : zl_N (lw_c50 n xs 1 52 63 i jj N) jj N := by
  have r1 : sl_I n xs (i + (1 : Int32)) = some (xs (m + 1)) := R 1 (by omega)
  have r2 : sl_I n xs (i + (2 : Int32)) = some (xs (m + 2)) := R 2 (by omega)
  unfold lw_c50
  simp only [r1, r2, Option.bind_some]
  exact zl_tI hI (zl_setGoto hI.1 hI.2.2 (by omega) (by omega) (by omega) (xs (m + 1)) (xs (m + 2))) (fun M1 m1 g => zy_setGotoM m1 (xs (m + 1)) (xs (m + 2)))

theorem zl_s51 (hI : zl_I N s) (hB : mm_n N + 300 < st_B) (R : zl_rd n xs i m) (jj : mm_T → Option (Int32 × mm_T)) : zl_N (lw_c51 n xs 1 52 63 i jj N) jj N := by
  have r1 : sl_I n xs (i + (1 : Int32)) = some (xs (m + 1)) := R 1 (by omega)
  have r2 : sl_I n xs (i + (2 : Int32)) = some (xs (m + 2)) := R 2 (by omega)
  have r3 : sl_I n xs (i + (3 : Int32)) = some (xs (m + 3)) := R 3 (by omega)
  have r4 : sl_I n xs (i + (4 : Int32)) = some (xs (m + 4)) := R 4 (by omega)
  unfold lw_c51
  simp only [r1, r2, r3, r4, Option.bind_some]
  exact zl_tI hI (zl_setBranch hI.1 hI.2.2 (by omega) (by omega) (by omega) (xs (m + 1)) (xs (m + 2)) (xs (m + 3)) (xs (m + 4))) (fun M1 m1 g => zy_setBranchM m1 (xs (m + 1)) (xs (m + 2)) (xs (m + 3)) (xs (m + 4)))

theorem zl_s52 (hI : zl_I N s) (hB : mm_n N + 300 < st_B) (R : zl_rd n xs i m) (jj : mm_T → Option (Int32 × mm_T)) : zl_N (lw_c52 n xs 1 52 63 i jj N) jj N := by
  unfold lw_c52
  exact zl_tW hI (zy_removeDead hI.1 (by omega)) (fun M1 m1 g => zy_removeDeadM m1 (by omega) )

theorem zl_s53 (hI : zl_I N s) (hB : mm_n N + 300 < st_B) (R : zl_rd n xs i m) (jj : mm_T → Option (Int32 × mm_T)) : zl_N (lw_c53 n xs 1 52 63 i jj N) jj N := by
  unfold lw_c53
  exact zl_tW hI (zy_foldConstants hI.1 (by omega)) (fun M1 m1 g => zy_foldConstantsM m1 (by omega) )

theorem zl_s54 (hI : zl_I N s) (hB : mm_n N + 300 < st_B) (R : zl_rd n xs i m) (jj : mm_T → Option (Int32 × mm_T)) : zl_N (lw_c54 n xs 1 52 63 i jj N) jj N := by
  have r1 : sl_I n xs (i + (1 : Int32)) = some (xs (m + 1)) := R 1 (by omega)
  unfold lw_c54
  simp only [r1, Option.bind_some]
  exact zl_tI hI (zl_writeBlock hI.1 hI.2.2 (by omega) (by omega) (xs (m + 1))) (fun M1 m1 g => zy_writeBlockM m1 (xs (m + 1)))

theorem zl_s55 (hI : zl_I N s) (hB : mm_n N + 300 < st_B) (R : zl_rd n xs i m) (jj : mm_T → Option (Int32 × mm_T)) : zl_N (lw_c55 n xs 1 52 63 i jj N) jj N := by
  have r1 : sl_I n xs (i + (1 : Int32)) = some (xs (m + 1)) := R 1 (by omega)
  unfold lw_c55
  simp only [r1, Option.bind_some]
  exact zl_tP hI (zy_outputByte hI.1 (xs (m + 1))) (zy_outputByteM hI.2.1 (xs (m + 1)))

theorem zl_s56 (hI : zl_I N s) (hB : mm_n N + 300 < st_B) (R : zl_rd n xs i m) (jj : mm_T → Option (Int32 × mm_T)) : zl_N (lw_c56 n xs 1 52 63 i jj N) jj N := by
  unfold lw_c56
  exact zl_tI hI (zl_undo hI.1 hI.2.2 (by omega) (by omega) ) (fun M1 m1 g => zy_undoM m1 )

theorem zl_s57 (hI : zl_I N s) (hB : mm_n N + 300 < st_B) (R : zl_rd n xs i m) (jj : mm_T → Option (Int32 × mm_T)) : zl_N (lw_c57 n xs 1 52 63 i jj N) jj N := by
  have r1 : sl_I n xs (i + (1 : Int32)) = some (xs (m + 1)) := R 1 (by omega)
  unfold lw_c57
  simp only [r1, Option.bind_some]
  unfold ff_Z_saveSnapshot
  refine zl_tV hI (zl_csV [] (zy_save hI.1 (by omega) (xs (m + 1))) ?_) (fun M1 m1 g => zy_saveM m1 (xs (m + 1)))
  by_cases c : zi_A 2 (xs (m + 1))
  · rw [if_pos c, if_pos c]; exact Or.inl ⟨rfl, rfl⟩
  · rw [if_neg c, if_neg c]; exact Or.inr ⟨_, rfl, fun _ => rfl⟩

theorem zl_s58 (hI : zl_I N s) (hB : mm_n N + 300 < st_B) (R : zl_rd n xs i m) (jj : mm_T → Option (Int32 × mm_T)) : zl_N (lw_c58 n xs 1 52 63 i jj N) jj N := by
  have r1 : sl_I n xs (i + (1 : Int32)) = some (xs (m + 1)) := R 1 (by omega)
  unfold lw_c58
  simp only [r1, Option.bind_some]
  unfold ff_Z_restoreSnapshot
  refine zl_tV hI (zl_csV [] (zy_restore hI.1 (xs (m + 1))) ?_) (fun M1 m1 g => zy_restoreM m1 (xs (m + 1)))
  by_cases c : zi_A 2 (xs (m + 1))
  · rw [if_pos c, if_pos c]
    by_cases d : zy_slot s (zi_n (xs (m + 1))) = none
    · rw [if_pos d, if_pos d]; exact Or.inr ⟨_, rfl, fun _ => rfl⟩
    · rw [if_neg d, if_neg d]; exact Or.inl ⟨rfl, rfl⟩
  · rw [if_neg c, if_neg c]; exact Or.inr ⟨_, rfl, fun _ => rfl⟩

end ZLC
