/-! ===== the law's script: its length and its ints ===== -/
def sc_H (G : gl_T) (n : Nat) (xs : Nat → Int32) : Prop := gl_V G 9000 ≠ 0 ∧ gl_V G 9001 = n ∧ ∀ k, k < n → Int32.ofNat (gl_V G (9002 + k)) = xs k
section SL
variable {mi mi' : mi_T} {fr lo fr' lo' : Nat} {G : gl_T} {M0 : mm_T} {ρ : Type} {f : ρ → rs_T × mm_T} {X : Option ρ} {L L' : List (Option Value)} {S S' Sf : List Value} {M M1 : mm_T} {n : Nat} {xs : Nat → Int32}
theorem cx_sc {p : Program} {l : Launch} {s : State} {m : MethodId} {args : Array Value} {meth : Method} {c : Code} (h : cx_C mi G p l s m args meth c) (h0 : gl_V G 9000 ≠ 0) : va_X (gl_K G 9000) (gl_V G 9001) (fun k => Int32.ofNat (gl_V G (9002 + k))) s s.heap ∧ gl_K G 9000 < s.heap.size ∧ ¬ gl_f G (gl_K G 9000) := by
  rcases h.2.2.2.2.2.2.2.1.2.1.2.2.2.2.2 with q | q
  · exact absurd q h0
  · obtain ⟨scr, hs⟩ := q.1
    exact ⟨q.1, (Array.getElem?_eq_some_iff.mp hs.1).1, q.2⟩
theorem im_slen (i pc : Nat) (hs : sc_H G n xs) {kf : Int32 → Option ρ} (h : (mi_tb mi)[i]? = some (pc, .arraylength, 1)) (kk : ∀ v : Int32, im_I mi fr lo G M0 f (kf v) (pc + 1) L (.int v :: S) M) : im_I mi fr lo G M0 f ((sl_N n).bind kf) pc L (.ref (st_B + 9000) :: S) M :=
  im_pure (S' := .int (Int32.ofNat n) :: S) (fun hS => ok_S.cons trivial hS.tl) (fun p l e R s m args below meth c H locs cells slots Q ls ad hcx hva k2 => by
    obtain ⟨hX, hl, hb⟩ := cx_sc hcx hs.1
    rw [hs.2.1] at hX
    rw [List.map_cons, cv_st]
    exact va_slen hcx.1 hcx.2.1 hX hl hb hva (mi_at hcx.2.2.2.2.2.2.2.2.2.2.2 h) k2) (kk _)
theorem im_sld (i pc : Nat) (hs : sc_H G n xs) {j : Int32} {kf : Int32 → Option ρ} (h : (mi_tb mi)[i]? = some (pc, .iaload, 1)) (kk : ∀ v : Int32, im_I mi fr lo G M0 f (kf v) (pc + 1) L (.int v :: S) M) : im_I mi fr lo G M0 f ((sl_I n xs j).bind kf) pc L (.int j :: .ref (st_B + 9000) :: S) M := by
  intro z hz
  unfold sl_I at hz
  by_cases q : 0 ≤ j.toInt ∧ j.toInt < n
  · rw [if_pos q] at hz
    refine im_pure (S' := .int (xs j.toInt.toNat) :: S) (fun hS => ok_S.cons trivial hS.tl.tl) (fun p l e R s m args below meth c H locs cells slots Q ls ad hcx hva k2 => ?_) (kk _) z hz
    obtain ⟨hX, hl, hb⟩ := cx_sc hcx hs.1
    rw [hs.2.1] at hX
    have e : Int32.ofNat (gl_V G (9002 + j.toInt.toNat)) = xs j.toInt.toNat := hs.2.2 _ (by omega)
    rw [List.map_cons, List.map_cons, cv_st]
    rw [List.map_cons, ← e] at k2
    exact va_sld hcx.1 hcx.2.1 hX hl hb hva (va_in q) (mi_at hcx.2.2.2.2.2.2.2.2.2.2.2 h) k2
  · rw [if_neg q] at hz; cases hz
end SL
