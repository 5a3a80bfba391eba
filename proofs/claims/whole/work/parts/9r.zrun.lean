/-! ===== a run of a program, as numbers ===== -/
/-- values, point, last shown, over, written variables, entries into blocks -/
abbrev zj_T : Type := (Nat → Nat) × Nat × Option Nat × Bool × (Nat → Bool) × (Nat → Nat)
def zj_v (s : zj_T) : Nat → Nat := s.1
def zj_p (s : zj_T) : Nat := s.2.1
def zj_s (s : zj_T) : Option Nat := s.2.2.1
def zj_o (s : zj_T) : Bool := s.2.2.2.1
def zj_w (s : zj_T) : Nat → Bool := s.2.2.2.2.1
def zj_e (s : zj_T) : Nat → Nat := s.2.2.2.2.2
def zj_0 (P : zp_T) : zj_T := (fun _ => 0, zp_fp P 0, none, false, fun _ => false, fun b => if b = 0 then 1 else 0)
def zj_res (P : zp_T) (s : zj_T) (i : Nat) : Nat := if zp_k P i = 0 then zp_l P i else if zp_k P i = 1 then zj_v s (zp_l P i) else zc_op (zp_o P i) (zj_v s (zp_l P i)) (zj_v s (zp_r P i))
/-- the way that a run takes out of a block -/
def zj_way (P : zp_T) (s : zj_T) (b : Nat) : Nat := zp_way P b (if zp_w P b = 2 ∧ zj_v s (zp_x P b) = 0 then 1 else 0)
def zj_step (P : zp_T) (s : zj_T) : zj_T :=
  if zj_p s < 40 then
    (if zp_k P (zj_p s) = 3 then (zj_v s, zp_nx P (zj_p s) 0, some (zj_v s (zp_l P (zj_p s))), zj_o s, zj_w s, zj_e s)
    else (fun v => if v = zp_t P (zj_p s) then zj_res P s (zj_p s) else zj_v s v, zp_nx P (zj_p s) 0, zj_s s, zj_o s, fun v => zj_w s v || decide (v = zp_t P (zj_p s)), zj_e s))
  else if zp_w P (zj_p s - 40) = 0 then (zj_v s, zj_p s, zj_s s, true, zj_w s, zj_e s)
  else (zj_v s, zp_fp P (zj_way P s (zj_p s - 40)), zj_s s, zj_o s, zj_w s, fun b => zj_e s b + (if b = zj_way P s (zj_p s - 40) then 1 else 0))
/-- n steps at most -/
def zj_run (P : zp_T) : Nat → zj_T
  | 0 => zj_0 P
  | n + 1 => if zj_o (zj_run P n) = true then zj_run P n else zj_step P (zj_run P n)
/-- steps that were taken -/
def zj_n (P : zp_T) : Nat → Nat
  | 0 => 0
  | n + 1 => if zj_o (zj_run P n) = true then zj_n P n else zj_n P n + 1
def zj_ok (P : zp_T) (s : zj_T) : Prop := (∀ v, v < 8 → zj_v s v < 1000) ∧ zp_pt P (zj_p s) ∧ ∀ x, zj_s s = some x → x < 1000
theorem zj_way_lt {P : zp_T} (hV : zp_V P) {s : zj_T} {b : Nat} (hb : b < zp_nb P) (hw : zp_w P b ≠ 0) : (if zp_w P b = 2 ∧ zj_v s (zp_x P b) = 0 then 1 else 0) < zp_w P b ∧ zj_way P s b < zp_nb P := by
  have hw2 := zp_w_le hV hb
  have h : (if zp_w P b = 2 ∧ zj_v s (zp_x P b) = 0 then 1 else 0) < zp_w P b := by
    split
    · rename_i c; omega
    · omega
  exact ⟨h, zp_way_lt hV hb h⟩
theorem zj_ok_0 {P : zp_T} (hV : zp_V P) : zj_ok P (zj_0 P) := ⟨fun _ _ => by show (0 : Nat) < 1000; omega, zp_fp_pt hV hV.1, fun x hx => by cases hx⟩
theorem zj_ok_step {P : zp_T} (hV : zp_V P) {s : zj_T} (h : zj_ok P s) : zj_ok P (zj_step P s) := by
  obtain ⟨h1, h2, h3⟩ := h
  have hni := hV.2.2.1
  unfold zj_step
  by_cases c : zj_p s < 40
  · rw [if_pos c]
    have hi : zj_p s < zp_ni P := by rcases h2 with q | q <;> omega
    have hq := hV.2.2.2.2.2.2.2 _ hi
    have np : zp_pt P (zp_nx P (zj_p s) 0) := zp_nx_pt hV h2 (by unfold zp_nc; rw [if_pos c]; omega)
    by_cases k3 : zp_k P (zj_p s) = 3
    · rw [if_pos k3]
      refine ⟨h1, np, fun x hx => ?_⟩
      have hx' : zj_v s (zp_l P (zj_p s)) = x := Option.some.inj hx
      rw [← hx']
      exact h1 _ (hq.2.2.2.1 (by show zp_k P (zj_p s) ≠ 0; omega))
    · rw [if_neg k3]
      refine ⟨fun v hv => ?_, np, h3⟩
      show (if v = zp_t P (zj_p s) then zj_res P s (zj_p s) else zj_v s v) < 1000
      split
      · unfold zj_res
        split
        · exact hq.2.2.1
        · rename_i k0
          split
          · exact h1 _ (hq.2.2.2.1 k0)
          · exact zc_op_lt _ _ _
      · exact h1 v hv
  · rw [if_neg c]
    have hb : zj_p s - 40 < zp_nb P := by rcases h2 with q | q <;> omega
    by_cases w0 : zp_w P (zj_p s - 40) = 0
    · rw [if_pos w0]
      exact ⟨h1, h2, h3⟩
    · rw [if_neg w0]
      exact ⟨h1, zp_fp_pt hV (zj_way_lt hV hb w0).2, h3⟩
theorem zj_ok_run {P : zp_T} (hV : zp_V P) : ∀ n, zj_ok P (zj_run P n) := by
  intro n
  induction n with
  | zero => exact zj_ok_0 hV
  | succ n ih =>
    show zj_ok P (if zj_o (zj_run P n) = true then zj_run P n else zj_step P (zj_run P n))
    split
    · exact ih
    · exact zj_ok_step hV ih
