/-! the registers behind both constructors -/
def zm0 (fb : Nat → Int32) (fc : Nat → Int64) : ZMem := (fun k i => match k with
  | 2 => upd (upd (fun _ => 0) 1 (-1)) 2 (-1)
  | 5 => upd (fun _ => 0) 7 (-1)
  | 12 => upd (upd (fun _ => 0) 7 (-1)) 8 (-1)
  | 40 => match i with
    | 0 => upd (fun _ => 0) 1 (-1)
    | _ => fb
  | _ => fun _ => 0, fun k i => match k with
  | 7 => vp_updL (fun _ => 0) 1 1
  | 41 => match i with
    | 0 => vp_updL (fun _ => 0) 61 1
    | _ => fc
  | _ => fun _ => 0)
theorem upd1 {j : Nat} (h : j ≠ 1) : upd (fun _ => (0 : Int32)) 1 (-1) j = 0 := by rw [pk_un h]
theorem inv0 {fb : Nat → Int32} {fc : Nat → Int64} (hfb : ∀ j, j < 30 → fb j = upd (fun _ => (0 : Int32)) 1 (-1) j) (hfc : ∀ j, j < 122 → fc j = vp_updL (fun _ => (0 : Int64)) 61 1 j) : Inv (zm0 fb fc) := by
  have t0 : ((0 : Int32)).toInt = 0 := rfl
  have a0 : ∀ x, (zm0 fb fc).1 40 0 x = upd (fun _ => (0 : Int32)) 1 (-1) x := fun x => rfl
  have a1 : ∀ x, x < 30 → (zm0 fb fc).1 40 1 x = upd (fun _ => (0 : Int32)) 1 (-1) x := fun x hx => hfb x hx
  have z : ∀ k i x, k ≠ 2 → k ≠ 5 → k ≠ 12 → k ≠ 40 → (zm0 fb fc).1 k i x = 0 := fun k i x h2 h5 h12 h40 => by
    unfold zm0
    simp only
  have z5 : ∀ i x, x ≠ 7 → (zm0 fb fc).1 5 i x = 0 := fun i x h => by show upd (fun _ => (0 : Int32)) 7 (-1) x = 0; rw [pk_un h]
  have z57 : ∀ i, (zm0 fb fc).1 5 i 7 = iI (-1) := fun i => by show upd (fun _ => (0 : Int32)) 7 (-1) 7 = _; rw [pk_us]; exact m1
  have S : ∀ e, (∀ x, x < 30 → (zm0 fb fc).1 40 e x = upd (fun _ => (0 : Int32)) 1 (-1) x) → (zm0 fb fc).2 41 e 60 = lI 0 → (zm0 fb fc).2 41 e 61 = lI 1 → SRel (zm0 fb fc) e := fun e h40 h60 h61 => by
    have hz : ∀ x, x < 30 → x ≠ 1 → (zm0 fb fc).1 40 e x = 0 := fun x h1 h2 => by rw [h40 x h1, upd1 h2]
    have z6 : ∀ w x, (zm0 fb fc).1 6 w x = 0 := fun w x => z 6 w x (by omega) (by omega) (by omega) (by omega)
    have z4 : ∀ w x, (zm0 fb fc).1 4 w x = 0 := fun w x => z 4 w x (by omega) (by omega) (by omega) (by omega)
    refine ⟨⟨by rw [z5 e 0 (by omega), hz 0 (by omega) (by omega)], by rw [z5 e 0 (by omega)]; decide, by rw [z5 e 0 (by omega)]; decide⟩, fun j hj => ?_, ⟨by rw [z6, hz 4 (by omega) (by omega)], by rw [z6]; decide, by rw [z6]; decide, fun j hj => ?_⟩, ⟨by rw [z6, hz 5 (by omega) (by omega)], by rw [z6]; decide, by rw [z6]; decide, fun j hj => ?_⟩, ⟨by rw [z4, hz 6 (by omega) (by omega)], by rw [z4]; decide, by rw [z4]; decide, fun j hj => ?_⟩, ⟨by rw [z5 e 6 (by omega), hz 7 (by omega) (by omega)], by rw [z5 e 6 (by omega)]; decide, by rw [z5 e 6 (by omega)]; decide, fun j hj => ?_⟩, ⟨?_, by rw [z6]; decide, by rw [z6]; decide, Or.inl ⟨by rw [z6]; rfl, z57 e, ?_, ?_, h60, h61⟩⟩⟩
    · have z26 : (zm0 fb fc).1 26 e j = 0 := z 26 e j (by omega) (by omega) (by omega) (by omega)
      rw [z26, hz (8 + j) (by omega) (by omega)]
      exact ⟨rfl, by decide, by decide⟩
    · rw [z6, t0] at hj; omega
    · rw [z6, t0] at hj; omega
    · rw [z4, t0] at hj; omega
    · rw [z5 e 6 (by omega), t0] at hj; omega
    · rw [z57 e, h40 1 (by omega), pk_us]; exact m1.symm
    · rw [hz 2 (by omega) (by omega)]; rfl
    · rw [hz 3 (by omega) (by omega)]; rfl
  have z1 : (zm0 fb fc).1 1 0 1 = 0 := z 1 0 1 (by omega) (by omega) (by omega) (by omega)
  refine ⟨⟨by rw [z1]; rfl, by rw [z1]; decide, by rw [z1]; decide, fun j hj => by rw [z1, t0] at hj; omega⟩, ⟨rfl, rfl⟩, S 0 (fun x _ => a0 x) rfl rfl, S 1 a1 ?_ ?_, ?_, fun t ht => ?_⟩
  · show fc 60 = _; rw [hfc 60 (by omega)]; rfl
  · show fc 61 = _; rw [hfc 61 (by omega)]; rfl
  · rw [z5 1 0 (by omega), z5 0 0 (by omega)]; exact Int.le_refl _
  · rw [z5 0 0 (by omega), t0] at ht; omega
