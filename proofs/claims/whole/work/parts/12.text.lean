/-! ===== texts; small helpers ===== -/
section TX
variable {mi mi' : mi_T} {fr lo fr' lo' : Nat} {G : gl_T} {M0 : mm_T} {ρ : Type} {f : ρ → rs_T × mm_T} {X : Option ρ} {L L' : List (Option Value)} {S S' Sf : List Value} {M M1 : mm_T} {pc : Nat}
theorem gd_in {a c : Nat} (h : (mm_k M a).1 = c) (hc : c ≠ 99) : 1 ≤ a ∧ a ≤ mm_n M := ⟨(mm_k_in1 h hc).1, (mm_k_in1 h hc).2.1⟩
theorem cn_mk (h1 : fr' + 1 ≤ fr) (h2 : 8 + (mi_nL mi' + 11) + lo' ≤ lo) (h3 : Nat.ble (S.map fun v => v.category).sum 8 = true) : cn_N mi' fr lo fr' lo' S = true := by
  unfold cn_N
  rw [Nat.ble_eq_true_of_le h1, Nat.ble_eq_true_of_le h2, h3]
  rfl
theorem im_ldcWS (i pc : Nat) {ix sid : Nat} {tx : String} (h : (mi_tb mi)[i]? = some (pc, .ldc_w ix, 3)) (hw : (mi_own mi, ix, tx, sid) ∈ gs_ref) (k : im_I mi fr lo G M0 f X (pc + 3) L (.ref (st_B + sid) :: S) M) : im_I mi fr lo G M0 f X pc L S M := by
  refine fun z hz => wp_step (L' := L) (S' := .ref (st_B + sid) :: S) (fun hL hS => ⟨hL, ok_S.cons (Or.inr (Nat.le_add_right _ _)) hS⟩) (fun p l e R s m args below meth c H locs cells slots Q ls ad hx hb ho hown hts hg hS hls kk => ?_) (k z hz)
  have q := kk ls hls
  rw [List.map_cons, cv_st] at q
  have hZ := hg.1.2.2.2.2.2.1 _ hw
  intro T hT X9
  obtain ⟨t, a1, b1⟩ := q T hT X9
  exact ⟨t, X9.ldcStringW hx hown (text := tx) (index := ix) (a := gl_K G sid) hZ.1 hZ.2 (g := F0 m pc ls (S.map (cv_v G ad))) rfl (by rw [hb]; exact mi_at ho h) t a1, b1⟩
def ff_JS_length (r : Nat) (_ : mm_T) : Option Int32 := if st_B ≤ r ∧ r < st_B + gs_N then some (Int32.ofNat (gs_len.getD (r - st_B) 0)) else none
def ff_JS_charAt (r : Nat) (j : Int32) (_ : mm_T) : Option Int32 := if (st_B ≤ r ∧ r < st_B + gs_N) ∧ 0 ≤ j.toInt ∧ j.toInt < gs_len.getD (r - st_B) 0 then some ((gs_byt.getD (r - st_B) []).getD j.toInt.toNat 0) else none
theorem cp_len {i ix r : Nat} {v : Int32} (h : (mi_tb mi)[i]? = some (pc, .invokevirtual ix, 3)) (hlk : Cond.methodLink (mi_own mi) ix (mi_y mi_JS_length) ∈ tb_G) (hSf : Sf = .ref r :: S) (hcn : cn_N mi_JS_length fr lo 8 200 S = true) (hv : ff_JS_length r M = some v) : cp_C mi fr lo G pc L S Sf M (some (.int v)) M := by
  sorry
theorem cp_chr {i ix r : Nat} {j v : Int32} (h : (mi_tb mi)[i]? = some (pc, .invokevirtual ix, 3)) (hlk : Cond.methodLink (mi_own mi) ix (mi_y mi_JS_charAt) ∈ tb_G) (hSf : Sf = .int j :: .ref r :: S) (hcn : cn_N mi_JS_charAt fr lo 8 200 S = true) (hv : ff_JS_charAt r j M = some v) : cp_C mi fr lo G pc L S Sf M (some (.int v)) M := by
  sorry
end TX
