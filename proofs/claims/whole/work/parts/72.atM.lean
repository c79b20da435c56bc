/-! table: the reference's words, letters, numbers -/
def pw (z : Nat → Int) (n p k : Nat) : Bool := decide (tG z n p = 1) && spB z (tS z n p) (tE z n p - tS z n p) k
theorem s_isWord {N n p k : Nat} {z : Nat → Int} {μ : ZMem} (hp : p ≤ n) (hk : tkM μ z n p) (hk13 : k < 13) : f_M_isWord N μ (lI (cw k)) = some (bI (pw z n p k), μ) := by
  obtain ⟨k1, k2, k3, k4, k5⟩ := hk
  obtain ⟨r1, r2, r3, r4, r5, r6, r7, r8, r9⟩ := tk_rng (z := z) hp
  unfold f_M_isWord pw
  rw [k2]
  by_cases c : tG z n p = 1
  · rw [zif_t (by rw [c]; decide), k5 c, decide_eq_true c, Bool.true_and]
    have hz : ∀ j, j < tE z n p - tS z n p → srt (z (tS z n p + j)) = 1 := fun j hj => (r9 (Or.inl c) _ (by omega) (by omega)).trans c
    have hw := word_iff hk13 hz
    have h1 := WW_rng (z := z) (s := tS z n p) (tE z n p - tS z n p) (fun j hj => by have := srt1 (hz j hj); omega)
    have h2 : ∀ k : Fin 13, 0 ≤ cw k.val ∧ cw k.val < 281474976710656 := by decide +kernel
    have h3 := h2 ⟨k, hk13⟩
    simp only at h3
    cases hb : spB z (tS z n p) (tE z n p - tS z n p) k with
    | true => rw [zif_t (by rw [lcmp_eq (by omega) (by omega) (by omega) (by omega)]; exact hw.2 hb)]; rfl
    | false => rw [zif_f (by rw [lcmp_eq (by omega) (by omega) (by omega) (by omega)]; exact fun q => by rw [hw.1 q] at hb; cases hb)]; rfl
  · have : ¬ iI (tC (tG z n p)) = (2 : Int32) := by
      unfold tC
      repeat' split
      all_goals first | decide | (exfalso; omega)
    rw [zif_f this, decide_eq_false c, Bool.false_and]; rfl
theorem kOf_pw {z : Nat → Int} {n p : Nat} : kOf z n p = fk (pw z n p) 11 0 := by
  unfold kOf
  by_cases c : tG z n p = 1
  · rw [if_pos c]
    have : pw z n p = spB z (tS z n p) (tE z n p - tS z n p) := by funext k; unfold pw; rw [decide_eq_true c, Bool.true_and]
    rw [this]
  · rw [if_neg c]
    have : ∀ k, pw z n p k = false := fun k => by unfold pw; rw [decide_eq_false c, Bool.false_and]
    simp [fk, this]
theorem s_kindAt {N n p : Nat} {z : Nat → Int} {μ : ZMem} (hp : p ≤ n) (hk : tkM μ z n p) : f_M_kindAt N μ = some (iI (kOf z n p), μ) := by
  have hw : ∀ k, k < 13 → f_M_isWord N μ (lI (cw k)) = some (bI (pw z n p k), μ) := fun k h => s_isWord hp hk h
  have w0 : f_M_w3 N μ 97 100 100 = some (lI (cw 0), μ) := by
    unfold f_M_w3
    rw [show ((zshlJ (97 : Int32).toInt64 16 ||| (zshlI 100 8).toInt64) ||| (100 : Int32).toInt64) = lI (cw 0) by decide +kernel]; rfl
  have w9 : f_M_w3 N μ 115 97 121 = some (lI (cw 9), μ) := by
    unfold f_M_w3
    rw [show ((zshlJ (115 : Int32).toInt64 16 ||| (zshlI 97 8).toInt64) ||| (121 : Int32).toInt64) = lI (cw 9) by decide +kernel]; rfl
  have w4 : ∀ (a b c d : Int32) (k : Nat), (zshlJ ((zshlJ a.toInt64 16 ||| (zshlI b 8).toInt64) ||| c.toInt64) 8 ||| d.toInt64) = lI (cw k) → f_M_w4 N μ a b c d = some (lI (cw k), μ) := fun a b c d k h => by
    unfold f_M_w4 f_M_w3
    show some ((zshlJ ((zshlJ a.toInt64 16 ||| (zshlI b 8).toInt64) ||| c.toInt64) 8 ||| d.toInt64), μ) = _
    rw [h]
  have w5 : ∀ (a b c d e : Int32) (k : Nat), (zshlJ (zshlJ ((zshlJ a.toInt64 16 ||| (zshlI b 8).toInt64) ||| c.toInt64) 8 ||| d.toInt64) 8 ||| e.toInt64) = lI (cw k) → f_M_w5 N μ a b c d e = some (lI (cw k), μ) := fun a b c d e k h => by
    unfold f_M_w5 f_M_w4 f_M_w3
    show some ((zshlJ (zshlJ ((zshlJ a.toInt64 16 ||| (zshlI b 8).toInt64) ||| c.toInt64) 8 ||| d.toInt64) 8 ||| e.toInt64), μ) = _
    rw [h]
  have w6 : ∀ (a b c d e f : Int32) (k : Nat), (zshlJ (zshlJ (zshlJ ((zshlJ a.toInt64 16 ||| (zshlI b 8).toInt64) ||| c.toInt64) 8 ||| d.toInt64) 8 ||| e.toInt64) 8 ||| f.toInt64) = lI (cw k) → f_M_w6 N μ a b c d e f = some (lI (cw k), μ) := fun a b c d e f k h => by
    unfold f_M_w6 f_M_w5 f_M_w4 f_M_w3
    show some ((zshlJ (zshlJ (zshlJ ((zshlJ a.toInt64 16 ||| (zshlI b 8).toInt64) ||| c.toInt64) 8 ||| d.toInt64) 8 ||| e.toInt64) 8 ||| f.toInt64), μ) = _
    rw [h]
  have hby : (25209 : Int64) = lI (cw 3) := by decide +kernel
  unfold f_M_kindAt
  rw [kOf_pw]
  rw [w0, zbnd_eq, hw 0 (by omega), zbnd_eq]
  cases h0 : pw z n p 0 with
  | true => rw [zif_f (show ¬ bI true = 0 by decide)]; simp [fk, h0]; rfl
  | false =>
    rw [zif_t (show bI false = 0 from rfl), w4 _ _ _ _ 1 (by decide +kernel), zbnd_eq, hw 1 (by omega), zbnd_eq]
    cases h1 : pw z n p 1 with
    | true => rw [zif_f (show ¬ bI true = 0 by decide)]; simp [fk, h0, h1]; rfl
    | false =>
      rw [zif_t (show bI false = 0 from rfl), w5 _ _ _ _ _ 2 (by decide +kernel), zbnd_eq, hw 2 (by omega), zbnd_eq]
      cases h2 : pw z n p 2 with
      | true => rw [zif_f (show ¬ bI true = 0 by decide)]; simp [fk, h0, h1, h2]; rfl
      | false =>
        rw [zif_t (show bI false = 0 from rfl), hby, hw 3 (by omega), zbnd_eq]
        cases h3 : pw z n p 3 with
        | true => rw [zif_f (show ¬ bI true = 0 by decide)]; simp [fk, h0, h1, h2, h3]; rfl
        | false =>
          rw [zif_t (show bI false = 0 from rfl), w4 _ _ _ _ 4 (by decide +kernel), zbnd_eq, hw 4 (by omega), zbnd_eq]
          cases h4 : pw z n p 4 with
          | true => rw [zif_f (show ¬ bI true = 0 by decide)]; simp [fk, h0, h1, h2, h3, h4]; rfl
          | false =>
            rw [zif_t (show bI false = 0 from rfl), w4 _ _ _ _ 5 (by decide +kernel), zbnd_eq, hw 5 (by omega), zbnd_eq]
            cases h5 : pw z n p 5 with
            | true => rw [zif_f (show ¬ bI true = 0 by decide)]; simp [fk, h0, h1, h2, h3, h4, h5]; rfl
            | false =>
              rw [zif_t (show bI false = 0 from rfl), w4 _ _ _ _ 6 (by decide +kernel), zbnd_eq, hw 6 (by omega), zbnd_eq]
              cases h6 : pw z n p 6 with
              | true => rw [zif_f (show ¬ bI true = 0 by decide)]; simp [fk, h0, h1, h2, h3, h4, h5, h6]; rfl
              | false =>
                rw [zif_t (show bI false = 0 from rfl), w6 _ _ _ _ _ _ 7 (by decide +kernel), zbnd_eq, hw 7 (by omega), zbnd_eq]
                cases h7 : pw z n p 7 with
                | true => rw [zif_f (show ¬ bI true = 0 by decide)]; simp [fk, h0, h1, h2, h3, h4, h5, h6, h7]; rfl
                | false =>
                  rw [zif_t (show bI false = 0 from rfl), w6 _ _ _ _ _ _ 8 (by decide +kernel), zbnd_eq, hw 8 (by omega), zbnd_eq]
                  cases h8 : pw z n p 8 with
                  | true => rw [zif_f (show ¬ bI true = 0 by decide)]; simp [fk, h0, h1, h2, h3, h4, h5, h6, h7, h8]; rfl
                  | false =>
                    rw [zif_t (show bI false = 0 from rfl), w9, zbnd_eq, hw 9 (by omega), zbnd_eq]
                    cases h9 : pw z n p 9 with
                    | true => rw [zif_f (show ¬ bI true = 0 by decide)]; simp [fk, h0, h1, h2, h3, h4, h5, h6, h7, h8, h9]; rfl
                    | false =>
                      rw [zif_t (show bI false = 0 from rfl), w4 _ _ _ _ 10 (by decide +kernel), zbnd_eq, hw 10 (by omega), zbnd_eq]
                      cases h10 : pw z n p 10 with
                      | true => rw [zif_f (show ¬ bI true = 0 by decide)]; simp [fk, h0, h1, h2, h3, h4, h5, h6, h7, h8, h9, h10]; rfl
                      | false => rw [zif_t (show bI false = 0 from rfl)]; simp [fk, h0, h1, h2, h3, h4, h5, h6, h7, h8, h9, h10]; rfl
theorem WW_big {z : Nat → Int} {s : Nat} (k : Nat) (hz : ∀ j, j < k + 2 → 65 ≤ z (s + j) ∧ z (s + j) < 256) : 16640 ≤ WW z s (k + 2) := by
  have h1 := WW_rng (z := z) (s := s) k (fun j hj => by have := hz j (by omega); omega)
  have a := hz k (by omega)
  have b := hz (k + 1) (by omega)
  have e1 : WW z s (k + 1) = if WW z s k < 281474976710656 then WW z s k * 256 + z (s + k) else 1152921504606846976 := rfl
  have e2 : WW z s (k + 2) = if WW z s (k + 1) < 281474976710656 then WW z s (k + 1) * 256 + z (s + (k + 1)) else 1152921504606846976 := rfl
  have h2 : 65 ≤ WW z s (k + 1) := by rw [e1]; split <;> omega
  rw [e2]; split <;> omega
theorem s_letterAt {N n p : Nat} {z : Nat → Int} {μ : ZMem} (hp : p ≤ n) (hk : tkM μ z n p) : f_M_letterAt N μ = some (iI (lOf z n p), μ) := by
  obtain ⟨k1, k2, k3, k4, k5⟩ := hk
  obtain ⟨r1, r2, r3, r4, r5, r6, r7, r8, r9⟩ := tk_rng (z := z) hp
  unfold f_M_letterAt lOf
  rw [k2]
  by_cases c : tG z n p = 1
  · rw [zif_t (by rw [c]; decide), k5 c]
    have hz : ∀ j, j < tE z n p - tS z n p → 65 ≤ z (tS z n p + j) ∧ z (tS z n p + j) ≤ 122 := fun j hj => srt1 ((r9 (Or.inl c) _ (by omega) (by omega)).trans c)
    have hW := WW_rng (z := z) (s := tS z n p) (tE z n p - tS z n p) (fun j hj => by have := hz j hj; omega)
    obtain ⟨s1, s2, s3⟩ := r8 (by omega)
    by_cases c1 : tE z n p - tS z n p = 1
    · have e1 : WW z (tS z n p) 1 = z (tS z n p) := by
        show (if (0 : Int) < 281474976710656 then 0 * 256 + z (tS z n p + 0) else 1152921504606846976) = _
        rw [if_pos (by omega)]; simp
      have hz0 := hz 0 (by omega)
      rw [Nat.add_zero] at hz0
      rw [c1, e1, llit]
      by_cases c2 : z (tS z n p) < 97
      · rw [zif_t (by rw [lcmp_lt (by omega) (by omega) (by omega) (by omega)]; exact c2), if_neg (by omega), m1]; rfl
      · rw [zif_f (by rw [lcmp_lt (by omega) (by omega) (by omega) (by omega)]; exact c2)]
        by_cases c3 : 100 < z (tS z n p)
        · rw [zif_t (by rw [llit, lcmp_gt (by omega) (by omega) (by omega) (by omega)]; exact c3), if_neg (by omega), m1]; rfl
        · rw [zif_f (by rw [llit, lcmp_gt (by omega) (by omega) (by omega) (by omega)]; exact c3), if_pos ⟨c, rfl, by omega, by omega⟩, lI_int, ilit, iI_sub]; rfl
    · obtain ⟨k, hk⟩ : ∃ k, tE z n p - tS z n p = k + 2 := ⟨tE z n p - tS z n p - 2, by omega⟩
      have hb := WW_big (z := z) (s := tS z n p) k (fun j hj => by have := hz j (by omega); omega)
      rw [← hk] at hb
      rw [zif_f (by rw [llit, lcmp_lt (by omega) (by omega) (by omega) (by omega)]; omega), zif_t (by rw [llit, lcmp_gt (by omega) (by omega) (by omega) (by omega)]; omega), if_neg (fun q => c1 q.2.1), m1]; rfl
  · have : ¬ iI (tC (tG z n p)) = (2 : Int32) := by
      unfold tC
      repeat' split
      all_goals first | decide | (exfalso; omega)
    rw [zif_f this, if_neg (fun q => c q.1), m1]; rfl
