/-! a proof as a sum -/
abbrev Sm : Type := (Nat → Int) × Int
def opS (k x : Int) (s : Sm) : Option Sm :=
  if k = 0 then some (if x < 10000 then tset s.1 4 (s.1 4 + x * s.2) else tset s.1 (x - 10000).toNat (s.1 (x - 10000).toNat + s.2), s.2)
  else if k = 1 then some (if x < 10000 then tset s.1 4 (s.1 4 - x * s.2) else tset s.1 (x - 10000).toNat (s.1 (x - 10000).toNat - s.2), s.2)
  else if k = 2 then (if x < 10000 then some (fun j => s.1 j * x, s.2) else if s.1 0 = 0 ∧ s.1 1 = 0 ∧ s.1 2 = 0 ∧ s.1 3 = 0 then some (tset (tset s.1 (x - 10000).toNat (s.1 4)) 4 0, s.2) else none)
  else if k = 3 then (if x < 10000 ∧ x ≠ 0 then some (s.1, s.2 * x) else none)
  else if k = 9 then some s else none
def gl (s : Sm) : Nat → Int
  | 0 => s.2
  | i + 1 => (Int.gcd (s.1 i) (gl s i) : Int)
def rdc (s : Sm) : Sm := (fun j => s.1 j / gl s 5, s.2 / gl s 5)
def rdOk (s : Sm) : Prop := s.2 ≤ 1000000 ∧ ∀ j, j < 5 → -1000000000000 ≤ s.1 j ∧ s.1 j ≤ 1000000000000
def inR (v : Int) : Bool := decide (-1000000000000 ≤ v ∧ v ≤ 1000000000000)
def rdOkB (s : Sm) : Bool := decide (s.2 ≤ 1000000) && inR (s.1 0) && inR (s.1 1) && inR (s.1 2) && inR (s.1 3) && inR (s.1 4)
theorem rdOkB_iff {s : Sm} : rdOkB s = true ↔ rdOk s := by
  unfold rdOkB rdOk inR
  simp only [Bool.and_eq_true, decide_eq_true_eq]
  constructor
  · intro h
    refine ⟨by omega, fun j hj => ?_⟩
    have : j = 0 ∨ j = 1 ∨ j = 2 ∨ j = 3 ∨ j = 4 := by omega
    rcases this with rfl | rfl | rfl | rfl | rfl
    · exact h.1.1.1.1.2
    · exact h.1.1.1.2
    · exact h.1.1.2
    · exact h.1.2
    · exact h.2
  · intro h
    exact ⟨⟨⟨⟨⟨h.1, h.2 0 (by omega)⟩, h.2 1 (by omega)⟩, h.2 2 (by omega)⟩, h.2 3 (by omega)⟩, h.2 4 (by omega)⟩
def okB (s : Sm) : Prop := 1 ≤ s.2 ∧ s.2 < 1099511627776 ∧ ∀ j, j < 5 → -4611686018427387904 < s.1 j ∧ s.1 j < 4611686018427387904
theorem gl_pos {s : Sm} (h : okB s) : ∀ i, 1 ≤ gl s i ∧ gl s i ≤ s.2
  | 0 => ⟨h.1, Int.le_refl _⟩
  | i + 1 => by
    have := gl_pos h i
    have h1 := gcd_pos' (u := s.1 i) (d := gl s i) (by omega)
    have h2 := gcd_le' (u := s.1 i) (d := gl s i) (by omega)
    show 1 ≤ (Int.gcd (s.1 i) (gl s i) : Int) ∧ (Int.gcd (s.1 i) (gl s i) : Int) ≤ _
    omega
theorem gl_dvd {s : Sm} : ∀ i, gl s i ∣ s.2 ∧ ∀ j, j < i → gl s i ∣ s.1 j
  | 0 => ⟨Int.dvd_refl _, fun j hj => by omega⟩
  | i + 1 => by
    have := gl_dvd (s := s) i
    have h2 : gl s (i + 1) ∣ gl s i := Int.gcd_dvd_right _ _
    have h1 : gl s (i + 1) ∣ s.1 i := Int.gcd_dvd_left _ _
    refine ⟨Int.dvd_trans h2 this.1, fun j hj => ?_⟩
    by_cases c : j = i
    · rw [c]; exact h1
    · exact Int.dvd_trans h2 (this.2 j (by omega))
theorem dvd_gl {s : Sm} {k : Int} (h : k ∣ s.2) : ∀ i, (∀ j, j < i → k ∣ s.1 j) → k ∣ gl s i
  | 0, _ => h
  | i + 1, hj => Int.dvd_coe_gcd (hj i (by omega)) (dvd_gl h i (fun j q => hj j (by omega)))
theorem gl_rdc {s : Sm} (h : okB s) : gl (rdc s) 5 = 1 := by
  have hp := gl_pos h 5
  have hd := gl_dvd (s := s) 5
  have hd2 := gl_dvd (s := rdc s) 5
  have e2 : gl s 5 * (rdc s).2 = s.2 := Int.mul_ediv_cancel' hd.1
  have e1 : ∀ j, j < 5 → gl s 5 * (rdc s).1 j = s.1 j := fun j hj => Int.mul_ediv_cancel' (hd.2 j hj)
  have k1 : gl s 5 * gl (rdc s) 5 ∣ gl s 5 := dvd_gl (by rw [← e2]; exact Int.mul_dvd_mul_left _ hd2.1) 5 (fun j hj => by rw [← e1 j hj]; exact Int.mul_dvd_mul_left _ (hd2.2 j hj))
  have k0 : 1 ≤ (rdc s).2 := by
    have : 0 < gl s 5 * (rdc s).2 := by rw [e2]; have := h.1; omega
    have := Int.pos_of_mul_pos_right this (by omega)
    omega
  have hpos : ∀ i, 1 ≤ gl (rdc s) i := fun i => by
    induction i with
    | zero => exact k0
    | succ i ih =>
      have := gcd_pos' (u := (rdc s).1 i) (d := gl (rdc s) i) (by omega)
      show 1 ≤ (Int.gcd _ _ : Int)
      omega
  have h5 := hpos 5
  obtain ⟨c, hc⟩ := k1
  have : gl s 5 * (gl (rdc s) 5 * c) = gl s 5 * 1 := by rw [← Int.mul_assoc, ← hc, Int.mul_one]
  have := Int.eq_of_mul_eq_mul_left (show gl s 5 ≠ 0 by omega) this
  exact Int.eq_one_of_dvd_one (by omega) ⟨c, this.symm⟩
def okP (s : Sm) : Prop := 1 ≤ s.2 ∧ rdOk s ∧ gl s 5 = 1
theorem rdc_id {s : Sm} (h : okP s) : rdc s = s := by
  unfold rdc
  rw [h.2.2]
  simp
theorem okP_rdc {s : Sm} (h : okB s) (h2 : rdOk (rdc s)) : okP (rdc s) := by
  refine ⟨?_, h2, gl_rdc h⟩
  have hp := gl_pos h 5
  have hd := (gl_dvd (s := s) 5).1
  have e2 : gl s 5 * (rdc s).2 = s.2 := Int.mul_ediv_cancel' hd
  have : 0 < gl s 5 * (rdc s).2 := by rw [e2]; have := h.1; omega
  have := Int.pos_of_mul_pos_right this (by omega)
  omega
theorem mul_rn4 {a b A B : Int} (h1 : -A ≤ a) (h2 : a ≤ A) (h3 : 0 ≤ b) (h4 : b ≤ B) (hA : 0 ≤ A) : -(A * B) ≤ a * b ∧ a * b ≤ A * B := by
  have e1 := Int.mul_le_mul h2 h4 h3 hA
  have e2 := Int.mul_le_mul (show -a ≤ A by omega) h4 h3 hA
  rw [Int.neg_mul] at e2
  omega
theorem opS_ok {k x : Int} {s s' : Sm} (h : okP s) (hx : okX x) (e : opS k x s = some s') : okB s' := by
  obtain ⟨h1, ⟨h2, h3⟩, -⟩ := h
  unfold okX at hx
  have hx4 : 10000 ≤ x → (x - 10000).toNat < 4 := fun q => by omega
  unfold opS at e
  have hmul : x < 10000 → 0 ≤ x * s.2 ∧ x * s.2 ≤ 9999 * 1000000 := fun q => by
    have e1 := Int.mul_le_mul (show x ≤ 9999 by omega) h2 (by omega) (by omega)
    have e2 := Int.mul_nonneg hx.1 (show 0 ≤ s.2 by omega)
    omega
  split at e
  · cases e
    refine ⟨h1, by show s.2 < _; omega, fun j hj => ?_⟩
    have := h3 j hj
    show _ < (if x < 10000 then _ else _ : Nat → Int) j ∧ (if x < 10000 then _ else _ : Nat → Int) j < _
    split
    · unfold tset
      have := hmul (by assumption)
      split
      · rename_i q; subst q; omega
      · omega
    · unfold tset
      split
      · rename_i q; rw [← q]; omega
      · omega
  · split at e
    · cases e
      refine ⟨h1, by show s.2 < _; omega, fun j hj => ?_⟩
      have := h3 j hj
      show _ < (if x < 10000 then _ else _ : Nat → Int) j ∧ (if x < 10000 then _ else _ : Nat → Int) j < _
      split
      · unfold tset
        have := hmul (by assumption)
        split
        · rename_i q; subst q; omega
        · omega
      · unfold tset
        split
        · rename_i q; rw [← q]; omega
        · omega
    · split at e
      · split at e
        · cases e
          refine ⟨h1, by show s.2 < _; omega, fun j hj => ?_⟩
          have := h3 j hj
          have := mul_rn4 (a := s.1 j) (b := x) (A := 1000000000000) (B := 9999) (by omega) (by omega) hx.1 (by omega) (by omega)
          show _ < s.1 j * x ∧ s.1 j * x < _
          omega
        · split at e
          · cases e
            refine ⟨h1, by show s.2 < _; omega, fun j hj => ?_⟩
            have := h3 j hj
            have := h3 4 (by omega)
            show _ < tset (tset s.1 _ (s.1 4)) 4 0 j ∧ tset (tset s.1 _ (s.1 4)) 4 0 j < _
            unfold tset
            split
            · omega
            · split <;> omega
          · cases e
      · split at e
        · split at e
          · rename_i q
            cases e
            have e1 := Int.mul_le_mul h2 (show x ≤ 9999 by omega) (by omega) (by omega)
            have e2 := Int.mul_le_mul h1 (show 1 ≤ x by omega) (by omega) (by omega)
            refine ⟨by show 1 ≤ s.2 * x; omega, by show s.2 * x < _; omega, fun j hj => ?_⟩
            have := h3 j hj
            show _ < s.1 j ∧ s.1 j < _
            omega
          · cases e
        · split at e
          · cases e
            refine ⟨h1, by omega, fun j hj => ?_⟩
            have := h3 j hj
            omega
          · cases e
def pvS (kd xs : Nat → Int) : Nat → Nat → Sm → Option Sm
  | 0, _, s => some s
  | f + 1, i, s => match opS (kd i) (xs i) s with
    | none => none
    | some s1 => if rdOkB (rdc s1) = true then pvS kd xs f (i + 1) (rdc s1) else none
