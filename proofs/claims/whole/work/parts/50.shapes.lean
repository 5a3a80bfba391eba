/-! ===== what kinds of answers the pure functions give; calls and ends over im_I ===== -/
theorem gd_some {ρ : Type} {M : mm_T} {a c : Nat} {X : Option ρ} {y : ρ} (h : gd_G M a c X = some y) : (mm_k M a).1 = c ∧ X = some y := by
  unfold gd_G at h
  split at h
  · rename_i q; exact ⟨q, h⟩
  · cases h
def sh_i (M : mm_T) : Int32 → rs_T × mm_T := fun v => (.inl (some (.int v)), M)
def sh_j (M : mm_T) : Int64 → rs_T × mm_T := fun v => (.inl (some (.long v)), M)
def sh_r (M : mm_T) : Nat → rs_T × mm_T := fun v => (.inl (some (.ref v)), M)
def sh_f (M : mm_T) : UInt32 → rs_T × mm_T := fun v => (.inl (some (.float v)), M)
def sh_d (M : mm_T) : UInt64 → rs_T × mm_T := fun v => (.inl (some (.double v)), M)
def sw_v : mm_T → rs_T × mm_T := fun M => (.inl none, M)
def sw_i : Int32 × mm_T → rs_T × mm_T := fun y => (.inl (some (.int y.1)), y.2)
def sw_j : Int64 × mm_T → rs_T × mm_T := fun y => (.inl (some (.long y.1)), y.2)
def sw_r : Nat × mm_T → rs_T × mm_T := fun y => (.inl (some (.ref y.1)), y.2)
def sw_f : UInt32 × mm_T → rs_T × mm_T := fun y => (.inl (some (.float y.1)), y.2)
def sw_d : UInt64 × mm_T → rs_T × mm_T := fun y => (.inl (some (.double y.1)), y.2)
def sx_v (M : mm_T) : Option String → rs_T × mm_T := fun y => match y with
  | none => (.inl none, M)
  | some E => (.inr E, mm_ex M)
def sX_i : (Int32 ⊕ String) × mm_T → rs_T × mm_T := fun y => match y.1 with
  | .inl v => (.inl (some (.int v)), y.2)
  | .inr E => (.inr E, y.2)
def sX_v : (Unit ⊕ String) × mm_T → rs_T × mm_T := fun y => match y.1 with
  | .inl _ => (.inl none, y.2)
  | .inr E => (.inr E, y.2)
section SH
variable {mi mi' : mi_T} {fr lo fr' lo' : Nat} {G : gl_T} {M0 : mm_T} {ρ : Type} {f : ρ → rs_T × mm_T} {X : Option ρ} {L L' : List (Option Value)} {S S' Sf : List Value} {M M1 : mm_T} {pc : Nat}
theorem im_gd {a c : Nat} (k : (mm_k M a).1 = c → im_I mi fr lo G M0 f X pc L S M) : im_I mi fr lo G M0 f (gd_G M a c X) pc L S M := fun z hz => k (gd_some hz).1 z (gd_some hz).2
theorem im_jp {α : Type} {Y : α} {B : α → Option ρ} (P : α → Prop) (hY : P Y) (k : ∀ j : α, P j → im_I mi fr lo G M0 f (B j) pc L S M) : im_I mi fr lo G M0 f (jp_J Y B) pc L S M := k Y hY
theorem im_bd {σ : Type} {Y : Option σ} {kf : σ → Option ρ} {ov : σ → Option Value} {Mf : σ → mm_T} (hc : ∀ y, Y = some y → cp_C mi fr lo G pc L S Sf M (ov y) (Mf y)) (k : ∀ y, im_I mi fr lo G M0 f (kf y) (pc + 3) L ((ov y).toList ++ S) (Mf y)) : im_I mi fr lo G M0 f (Y.bind kf) pc L Sf M := by
  intro z hz
  cases hY : Y with
  | none => rw [hY] at hz; cases hz
  | some v => rw [hY] at hz; exact hc v hY M0 _ _ (k v z hz)
theorem im_ci {Y : Option Int32} {kf : Int32 → Option ρ} (hc : ∀ v, Y = some v → cp_C mi fr lo G pc L S Sf M (some (.int v)) M) (k : ∀ v : Int32, im_I mi fr lo G M0 f (kf v) (pc + 3) L (.int v :: S) M) : im_I mi fr lo G M0 f (Y.bind kf) pc L Sf M := im_bd (ov := fun v => some (.int v)) (Mf := fun _ => M) hc k
theorem im_cj {Y : Option Int64} {kf : Int64 → Option ρ} (hc : ∀ v, Y = some v → cp_C mi fr lo G pc L S Sf M (some (.long v)) M) (k : ∀ v : Int64, im_I mi fr lo G M0 f (kf v) (pc + 3) L (.long v :: S) M) : im_I mi fr lo G M0 f (Y.bind kf) pc L Sf M := im_bd (ov := fun v => some (.long v)) (Mf := fun _ => M) hc k
theorem im_cr {Y : Option Nat} {kf : Nat → Option ρ} (hc : ∀ v, Y = some v → cp_C mi fr lo G pc L S Sf M (some (.ref v)) M) (k : ∀ v : Nat, im_I mi fr lo G M0 f (kf v) (pc + 3) L (.ref v :: S) M) : im_I mi fr lo G M0 f (Y.bind kf) pc L Sf M := im_bd (ov := fun v => some (.ref v)) (Mf := fun _ => M) hc k
theorem im_cf {Y : Option UInt32} {kf : UInt32 → Option ρ} (hc : ∀ v, Y = some v → cp_C mi fr lo G pc L S Sf M (some (.float v)) M) (k : ∀ v : UInt32, im_I mi fr lo G M0 f (kf v) (pc + 3) L (.float v :: S) M) : im_I mi fr lo G M0 f (Y.bind kf) pc L Sf M := im_bd (ov := fun v => some (.float v)) (Mf := fun _ => M) hc k
theorem im_cd {Y : Option UInt64} {kf : UInt64 → Option ρ} (hc : ∀ v, Y = some v → cp_C mi fr lo G pc L S Sf M (some (.double v)) M) (k : ∀ v : UInt64, im_I mi fr lo G M0 f (kf v) (pc + 3) L (.double v :: S) M) : im_I mi fr lo G M0 f (Y.bind kf) pc L Sf M := im_bd (ov := fun v => some (.double v)) (Mf := fun _ => M) hc k
theorem im_cWv {Y : Option mm_T} {kf : mm_T → Option ρ} (hc : ∀ M1, Y = some M1 → cp_C mi fr lo G pc L S Sf M none M1) (k : ∀ M1 : mm_T, im_I mi fr lo G M0 f (kf M1) (pc + 3) L S M1) : im_I mi fr lo G M0 f (Y.bind kf) pc L Sf M := im_bd (ov := fun _ => none) (Mf := fun M1 => M1) hc k
theorem im_cWi {Y : Option (Int32 × mm_T)} {kf : Int32 → mm_T → Option ρ} (hc : ∀ v M1, Y = some (v, M1) → cp_C mi fr lo G pc L S Sf M (some (.int v)) M1) (k : ∀ (v : Int32) (M1 : mm_T), im_I mi fr lo G M0 f (kf v M1) (pc + 3) L (.int v :: S) M1) : im_I mi fr lo G M0 f (bd_2 Y kf) pc L Sf M := im_bd (ov := fun y => some (.int y.1)) (Mf := fun y => y.2) (fun y => hc y.1 y.2) (fun y => k y.1 y.2)
theorem im_cWj {Y : Option (Int64 × mm_T)} {kf : Int64 → mm_T → Option ρ} (hc : ∀ v M1, Y = some (v, M1) → cp_C mi fr lo G pc L S Sf M (some (.long v)) M1) (k : ∀ (v : Int64) (M1 : mm_T), im_I mi fr lo G M0 f (kf v M1) (pc + 3) L (.long v :: S) M1) : im_I mi fr lo G M0 f (bd_2 Y kf) pc L Sf M := im_bd (ov := fun y => some (.long y.1)) (Mf := fun y => y.2) (fun y => hc y.1 y.2) (fun y => k y.1 y.2)
theorem im_cWr {Y : Option (Nat × mm_T)} {kf : Nat → mm_T → Option ρ} (hc : ∀ v M1, Y = some (v, M1) → cp_C mi fr lo G pc L S Sf M (some (.ref v)) M1) (k : ∀ (v : Nat) (M1 : mm_T), im_I mi fr lo G M0 f (kf v M1) (pc + 3) L (.ref v :: S) M1) : im_I mi fr lo G M0 f (bd_2 Y kf) pc L Sf M := im_bd (ov := fun y => some (.ref y.1)) (Mf := fun y => y.2) (fun y => hc y.1 y.2) (fun y => k y.1 y.2)
theorem im_cWf {Y : Option (UInt32 × mm_T)} {kf : UInt32 → mm_T → Option ρ} (hc : ∀ v M1, Y = some (v, M1) → cp_C mi fr lo G pc L S Sf M (some (.float v)) M1) (k : ∀ (v : UInt32) (M1 : mm_T), im_I mi fr lo G M0 f (kf v M1) (pc + 3) L (.float v :: S) M1) : im_I mi fr lo G M0 f (bd_2 Y kf) pc L Sf M := im_bd (ov := fun y => some (.float y.1)) (Mf := fun y => y.2) (fun y => hc y.1 y.2) (fun y => k y.1 y.2)
theorem im_cWd {Y : Option (UInt64 × mm_T)} {kf : UInt64 → mm_T → Option ρ} (hc : ∀ v M1, Y = some (v, M1) → cp_C mi fr lo G pc L S Sf M (some (.double v)) M1) (k : ∀ (v : UInt64) (M1 : mm_T), im_I mi fr lo G M0 f (kf v M1) (pc + 3) L (.double v :: S) M1) : im_I mi fr lo G M0 f (bd_2 Y kf) pc L Sf M := im_bd (ov := fun y => some (.double y.1)) (Mf := fun y => y.2) (fun y => hc y.1 y.2) (fun y => k y.1 y.2)
theorem im_rq {V : Type} {f : (V ⊕ String) × mm_T → rs_T × mm_T} {Y : Option (Option String)} {k : Option ((V ⊕ String) × mm_T)} (hc : Y = some none → cp_C mi fr lo G pc L S Sf M none M) (hx : ∀ E, Y = some (some E) → wp_W mi fr lo G M0 (.inr E) (mm_ex M) pc L Sf M) (hf : ∀ E, f (.inr E, mm_ex M) = (.inr E, mm_ex M)) (kk : im_I mi fr lo G M0 f k (pc + 3) L S M) : im_I mi fr lo G M0 f (rq_X Y M k) pc L Sf M := by
  intro z hz
  unfold rq_X at hz
  cases hY : Y with
  | none => rw [hY] at hz; cases hz
  | some y =>
    rw [hY] at hz
    cases y with
    | none => exact hc hY M0 _ _ (kk z hz)
    | some E =>
      cases hz
      rw [hf]
      exact hx E hY
theorem im_cs {V : Type} {Y : Option ((V ⊕ String) × mm_T)} {kf : V → mm_T → Option ρ} {kx : String → mm_T → Option ρ} {so : V → Option Value} (hc : ∀ v M1, Y = some (.inl v, M1) → cp_C mi fr lo G pc L S Sf M (so v) M1) (kk : ∀ v M1, im_I mi fr lo G M0 f (kf v M1) (pc + 3) L ((so v).toList ++ S) M1) (hx : ∀ E M1, Y = some (.inr E, M1) → ∀ z, kx E M1 = some z → wp_W mi fr lo G M0 (f z).1 (f z).2 pc L Sf M) : im_I mi fr lo G M0 f (cs_X Y kf kx) pc L Sf M := by
  intro z hz
  unfold cs_X at hz
  cases hY : Y with
  | none => rw [hY] at hz; cases hz
  | some y =>
    rw [hY] at hz
    obtain ⟨y1, y2⟩ := y
    cases y1 with
    | inl v => exact hc v y2 hY M0 _ _ (kk v y2 z hz)
    | inr E => exact hx E y2 hY z hz
/-! ends -/
theorem im_end {y : ρ} {r : rs_T} (hf : f y = (r, M)) (h : wp_W mi fr lo G M0 r M pc L S M) : im_I mi fr lo G M0 f (some y) pc L S M := fun z hz => by
  cases hz
  rw [hf]
  exact h
theorem im_endX {y : ρ} {E : String} (hf : f y = (.inr E, mm_ex M)) (h : wp_W mi fr lo G M0 (.inr E) (mm_ex M) pc L S M) : im_I mi fr lo G M0 f (some y) pc L S M := fun z hz => by
  cases hz
  rw [hf]
  exact h
theorem im_endZ {v : Int32} {yf : Int32 → ρ} (hf : ∀ v, f (yf v) = (.inl (some (.int v)), M)) (h : (narrow .boolean (.int v) = .int v) → wp_W mi fr lo G M0 (.inl (some (.int v))) M pc L S M) : im_I mi fr lo G M0 f ((zb_Z v).bind fun w => some (yf w)) pc L S M := fun z hz => by
  unfold zb_Z at hz
  by_cases q : v = 0 ∨ v = 1
  · rw [if_pos q] at hz
    cases hz
    rw [hf]
    exact h (by rcases q with rfl | rfl <;> rfl)
  · rw [if_neg q] at hz
    cases hz
end SH
