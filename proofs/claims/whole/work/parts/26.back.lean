/-! image, back: the reference's copies, and both -/
theorem cp_loopF {N : Nat} {p q : Nat} (hpq : p ≠ q) : ∀ (f c n : Nat) (μ : ZMem), c + f = 122 → f < n → ∃ μ', f_M_copyAll_l27 N p q n (iI c) μ = some ((), μ') ∧ μ'.1 = μ.1 ∧ ∀ k i x, μ'.2 k i x = if k = 41 ∧ i = q ∧ c ≤ x ∧ x < 122 then μ.2 41 p x else μ.2 k i x
  | 0, c, n, μ, hc, hn => by
    obtain ⟨m, rfl⟩ : ∃ m, n = m + 1 := ⟨n - 1, by omega⟩
    have : c = 122 := by omega
    subst this
    refine ⟨μ, ?_, rfl, fun k i x => ?_⟩
    · simp only [f_M_copyAll_l27]
      rw [zif_t (by decide)]; rfl
    · rw [if_neg (by omega)]
  | f + 1, c, n, μ, hc, hn => by
    obtain ⟨m, rfl⟩ : ∃ m, n = m + 1 := ⟨n - 1, by omega⟩
    obtain ⟨μ', h1, h2, h3⟩ := cp_loopF (N := N) hpq f (c + 1) m (zsetJ μ 41 q c (μ.2 41 p c)) (by omega) (by omega)
    refine ⟨μ', ?_, h2, fun k i x => ?_⟩
    · simp only [f_M_copyAll_l27]
      rw [zif_f (by rw [ilit, iI_le (by omega) (by omega) (by omega) (by omega)]; omega), zchk_t (zin_k 122 rfl (by omega) (by omega) (by omega)), zchk_t (zin_k 122 rfl (by omega) (by omega) (by omega)), zlt_eq, zlt_eq, cl_nat (by omega), show iI (c : Int) + (1 : Int32) = iI ((c + 1 : Nat) : Int) from iI_add c 1]
      exact h1
    · rw [h3, rJ, rJ]
      by_cases a : k = 41 ∧ i = q ∧ c + 1 ≤ x ∧ x < 122
      · rw [if_pos a, if_neg (by omega), if_pos (by omega)]
      · rw [if_neg a]
        by_cases b : k = 41 ∧ i = q ∧ x = c
        · obtain ⟨rfl, rfl, rfl⟩ := b
          rw [if_pos ⟨rfl, rfl, rfl⟩, if_pos (by omega)]
        · rw [if_neg b, if_neg (by omega)]
theorem cp_loopI {N : Nat} {p p1 q q1 : Nat} {kx : ZMem → Option (Unit × ZMem)} (hpq : p ≠ q) : ∀ (f c n : Nat) (μ : ZMem), c + f = 30 → f < n → ∃ μ', f_M_copyAll_l3 N p p1 q q1 kx n (iI c) μ = kx μ' ∧ μ'.2 = μ.2 ∧ ∀ k i x, μ'.1 k i x = if k = 40 ∧ i = q ∧ c ≤ x ∧ x < 30 then μ.1 40 p x else μ.1 k i x
  | 0, c, n, μ, hc, hn => by
    obtain ⟨m, rfl⟩ : ∃ m, n = m + 1 := ⟨n - 1, by omega⟩
    have : c = 30 := by omega
    subst this
    refine ⟨μ, ?_, rfl, fun k i x => ?_⟩
    · simp only [f_M_copyAll_l3]
      rw [zif_t (by decide)]
    · rw [if_neg (by omega)]
  | f + 1, c, n, μ, hc, hn => by
    obtain ⟨m, rfl⟩ : ∃ m, n = m + 1 := ⟨n - 1, by omega⟩
    obtain ⟨μ', h1, h2, h3⟩ := cp_loopI (N := N) (p1 := p1) (q1 := q1) (kx := kx) hpq f (c + 1) m (zsetI μ 40 q c (μ.1 40 p c)) (by omega) (by omega)
    refine ⟨μ', ?_, h2, fun k i x => ?_⟩
    · simp only [f_M_copyAll_l3]
      rw [zif_f (by rw [ilit, iI_le (by omega) (by omega) (by omega) (by omega)]; omega), zchk_t (zin_k 30 rfl (by omega) (by omega) (by omega)), zchk_t (zin_k 30 rfl (by omega) (by omega) (by omega)), zlt_eq, zlt_eq, cl_nat (by omega), show iI (c : Int) + (1 : Int32) = iI ((c + 1 : Nat) : Int) from iI_add c 1]
      exact h1
    · rw [h3, rI, rI]
      by_cases a : k = 40 ∧ i = q ∧ c + 1 ≤ x ∧ x < 30
      · rw [if_pos a, if_neg (by omega), if_pos (by omega)]
      · rw [if_neg a]
        by_cases b : k = 40 ∧ i = q ∧ x = c
        · obtain ⟨rfl, rfl, rfl⟩ := b
          rw [if_pos ⟨rfl, rfl, rfl⟩, if_pos (by omega)]
        · rw [if_neg b, if_neg (by omega)]
theorem s_M_copyAll {N : Nat} {μ : ZMem} {p q : Nat} (hN : 130 ≤ N) (hpq : p ≠ q) : ∃ μ', f_M_copyAll N μ p p q q = some ((), μ') ∧ (∀ k i x, μ'.1 k i x = if k = 40 ∧ i = q ∧ x < 30 then μ.1 40 p x else μ.1 k i x) ∧ ∀ k i x, μ'.2 k i x = if k = 41 ∧ i = q ∧ x < 122 then μ.2 41 p x else μ.2 k i x := by
  obtain ⟨μ1, h1, h2, h3⟩ := cp_loopI (N := N) (p1 := p) (q1 := q) (kx := fun (μ6 : ZMem) => zlt (0 : Int32) (fun (x7 : Int32) => f_M_copyAll_l27 N p q N x7 μ6)) hpq 30 0 N μ (by omega) (by omega)
  obtain ⟨μ2, g1, g2, g3⟩ := cp_loopF (N := N) hpq 122 0 N μ1 (by omega) (by omega)
  refine ⟨μ2, ?_, fun k i x => ?_, fun k i x => ?_⟩
  · unfold f_M_copyAll
    rw [zlt_eq]
    exact h1.trans g1
  · rw [g2, h3]; simp only [Nat.zero_le, true_and]
  · rw [g3, h2]; simp only [Nat.zero_le, true_and]
/-- a state that was copied -/
theorem SRel.copy {μ μ' : ZMem} {e e' : Nat} (h : SRel μ e) (h5 : ∀ x, (x = 0 ∨ x = 6 ∨ x = 7) → μ'.1 5 e' x = μ.1 5 e x) (h26 : ∀ j, j < 4 → μ'.1 26 e' j = μ.1 26 e j) (h60 : μ'.1 6 (3 * e') 2 = μ.1 6 (3 * e) 2) (h61 : μ'.1 6 (3 * e' + 1) 2 = μ.1 6 (3 * e + 1) 2) (h62 : μ'.1 6 (3 * e' + 2) 2 = μ.1 6 (3 * e + 2) 2)
    (hv0 : ∀ k j, (k = 28 ∨ k = 29) → ((j : Nat) : Int) < (μ.1 6 (3 * e) 2).toInt → μ'.2 k (3 * e') j = μ.2 k (3 * e) j) (hv1 : ∀ k j, (k = 28 ∨ k = 29) → ((j : Nat) : Int) < (μ.1 6 (3 * e + 1) 2).toInt → μ'.2 k (3 * e' + 1) j = μ.2 k (3 * e + 1) j) (hv2 : ∀ k j, (k = 28 ∨ k = 29) → ((j : Nat) : Int) < (μ.1 6 (3 * e + 2) 2).toInt → μ'.2 k (3 * e' + 2) j = μ.2 k (3 * e + 2) j)
    (h4 : μ'.1 4 (e' + 4) 2 = μ.1 4 (e + 4) 2) (h22 : ∀ k j, (k = 22 ∨ k = 23) → ((j : Nat) : Int) < (μ.1 4 (e + 4) 2).toInt → μ'.1 k (e' + 4) j = μ.1 k (e + 4) j) (h27 : ∀ j, j < 6 → μ'.1 27 e' j = μ.1 27 e j) (h40 : ∀ x, x < 30 → μ'.1 40 e' x = μ.1 40 e x) (h41 : ∀ x, x < 122 → μ'.2 41 e' x = μ.2 41 e x) (h9 : ∀ t : Nat, (t : Int) < (μ.1 5 e 0).toInt → μ'.1 4 t 2 = μ.1 4 t 2) : SRel μ' e' := by
  obtain ⟨a1, a2, ⟨b1, b2, b3, b4⟩, ⟨c1, c2, c3, c4⟩, ⟨d1, d2, d3, d4⟩, ⟨f1, f2, f3, f4⟩, ⟨g1, g2, g3, g4⟩⟩ := h
  have h50 := h5 0 (by omega)
  have h56 := h5 6 (by omega)
  have h57 := h5 7 (by omega)
  refine ⟨⟨by rw [h50, h40 0 (by omega)]; exact a1.1, by rw [h50]; exact a1.2.1, by rw [h50]; exact a1.2.2⟩, fun j hj => by rw [h26 j hj, h40 _ (by omega)]; exact a2 j hj, ⟨by rw [h60, h40 4 (by omega)]; exact b1, by rw [h60]; exact b2, by rw [h60]; exact b3, fun j hj => ?_⟩, ⟨by rw [h61, h40 5 (by omega)]; exact c1, by rw [h61]; exact c2, by rw [h61]; exact c3, fun j hj => ?_⟩, ⟨by rw [h4, h40 6 (by omega)]; exact d1, by rw [h4]; exact d2, by rw [h4]; exact d3, fun j hj => ?_⟩, ⟨by rw [h56, h40 7 (by omega)]; exact f1, by rw [h56]; exact f2, by rw [h56]; exact f3, fun j hj => ?_⟩, by rw [h57, h40 1 (by omega)]; exact g1, by rw [h62]; exact g2, by rw [h62]; exact g3, ?_⟩
  · rw [h60] at hj
    rw [hv0 28 j (by omega) hj, hv0 29 j (by omega) hj, h41 _ (by omega), h41 _ (by omega)]; exact b4 j hj
  · rw [h61] at hj
    rw [hv1 28 j (by omega) hj, hv1 29 j (by omega) hj, h41 _ (by omega), h41 _ (by omega)]; exact c4 j hj
  · rw [h4] at hj
    rw [h22 22 j (by omega) hj, h22 23 j (by omega) hj, h40 _ (by omega), h40 _ (by omega)]; exact d4 j hj
  · rw [h56] at hj
    rw [h27 j (by omega), h40 _ (by omega)]; exact f4 j hj
  · rw [h50, h57, h62, h40 2 (by omega), h40 3 (by omega), h41 60 (by omega), h41 61 (by omega)]
    rcases g4 with q | ⟨q1, q2, q3, q4, q5, q6, q7, q8, q9⟩
    · exact Or.inl q
    · refine Or.inr ⟨q1, q2, q3, by rw [h9 _ (by omega)]; exact q4, q5, q6, fun j hj => by rw [hv2 28 j (by omega) hj, hv2 29 j (by omega) hj]; exact q7 j hj, fun j hj => by rw [hv2 28 j (by omega) (by omega), hv2 29 j (by omega) (by omega), h41 _ (by omega), h41 _ (by omega)]; exact q8 j hj, fun j hj => by rw [hv2 28 j (by omega) (by omega), hv2 29 j (by omega) (by omega)]; exact q9 j hj⟩
/-- both copies, one behind the other -/
theorem both_copy {N : Nat} {μ : ZMem} {o p : Nat} (hN : 130 ≤ N) (hop : (o = 0 ∧ p = 1) ∨ (o = 1 ∧ p = 0)) (hS : SRel μ p) (hSo : ntR μ o) : ∃ μ1 μ2, f_State_copyFrom N μ o p = some ((), μ1) ∧ f_M_copyAll N μ1 p p o o = some ((), μ2) ∧ SRel μ2 o ∧ μ2.1 5 o 0 = μ.1 5 p 0 ∧
    (∀ k i x, ¬ (k = 5 ∧ i = o) → ¬ (k = 26 ∧ i = o) → ¬ (k = 6 ∧ (i = 3 * o ∨ i = 3 * o + 1 ∨ i = 3 * o + 2)) → ¬ ((k = 4 ∨ k = 22 ∨ k = 23) ∧ i = o + 4) → ¬ (k = 27 ∧ i = o) → ¬ (k = 40 ∧ i = o) → μ2.1 k i x = μ.1 k i x) ∧
    (∀ k i x, ¬ ((k = 28 ∨ k = 29) ∧ (i = 3 * o ∨ i = 3 * o + 1 ∨ i = 3 * o + 2)) → ¬ (k = 41 ∧ i = o) → μ2.2 k i x = μ.2 k i x) ∧ (∀ x, μ1.1 6 (3 * 0 + 2) x = μ2.1 6 (3 * 0 + 2) x) := by
  have hS' := hS
  obtain ⟨a1, a2, ⟨b1, b2, b3, b4⟩, ⟨c1, c2, c3, c4⟩, ⟨d1, d2, d3, d4⟩, -, ⟨g1, g2, g3, g4⟩⟩ := hS
  obtain ⟨n0, l0, e0, t0⟩ := nat_ex b2 b3
  obtain ⟨n1, l1, e1, t1⟩ := nat_ex c2 c3
  obtain ⟨n2, l2, e2, t2⟩ := nat_ex g2 g3
  obtain ⟨nk, lk, ek, tk⟩ := nat_ex d2 d3
  obtain ⟨μ1, q0, q1, q2, q3, q4, q5, q6, q7, q8, q9, q10, q11, q12, q13⟩ := s_State_copyFrom (N := N) hop e0 e1 e2 ek (by omega) (by omega) (by omega) (by omega)
  obtain ⟨μ2, r0, r1, r2⟩ := s_M_copyAll (N := N) (μ := μ1) (p := p) (q := o) hN (by omega)
  have w40 : ∀ x, μ1.1 40 p x = μ.1 40 p x := fun x => q1 40 p x (by omega) (by omega) (by omega) (by omega) (by omega) (by omega)
  have w41 : ∀ x, μ1.2 41 p x = μ.2 41 p x := fun x => q2 41 p x (by omega)
  have n40 : ∀ k i x, k ≠ 40 → μ2.1 k i x = μ1.1 k i x := fun k i x h => by rw [r1, if_neg (by omega)]
  have n41 : ∀ k i x, k ≠ 41 → μ2.2 k i x = μ1.2 k i x := fun k i x h => by rw [r2, if_neg (by omega)]
  have hn4 := a1.2.2
  refine ⟨μ1, μ2, q0, r0, ?_, by rw [n40 5 o 0 (by omega)]; exact q3 0 (by omega), fun k i x b1 b2 b3 b4 b5 b6 => by rw [r1, if_neg (by omega)]; exact q1 k i x (by omega) (by omega) (by omega) (by omega) (by omega) (by omega), fun k i x b1 b2 => by rw [r2, if_neg (by omega)]; exact q2 k i x (by omega), fun x => (n40 6 _ x (by omega)).symm⟩
  refine hS'.copy (fun x hx => by rw [n40 5 o x (by omega)]; exact q3 x hx) (fun j hj => by rw [n40 26 o j (by omega)]; exact q4 j hj) (by rw [n40 6 _ 2 (by omega), q5, e0]) (by rw [n40 6 _ 2 (by omega), q6, e1]) (by rw [n40 6 _ 2 (by omega), q7, e2]) (fun k j hk hj => by rw [n41 k _ j (by omega)]; exact q11 k j hk (by omega)) (fun k j hk hj => by rw [n41 k _ j (by omega)]; exact q12 k j hk (by omega)) (fun k j hk hj => by rw [n41 k _ j (by omega)]; exact q13 k j hk (by omega)) (by rw [n40 4 _ 2 (by omega), q8, ek]) (fun k j hk hj => by rw [n40 k _ j (by omega)]; exact q9 k j hk (by omega)) (fun j hj => by rw [n40 27 o j (by omega)]; exact q10 j hj) (fun x hx => by rw [r1, if_pos ⟨rfl, rfl, hx⟩, w40]) (fun x hx => by rw [r2, if_pos ⟨rfl, rfl, hx⟩, w41]) (fun t ht => by rw [n40 4 t 2 (by omega)]; exact q1 4 t 2 (by omega) (by omega) (by omega) (by omega) (by omega) (by omega))
theorem ag_image (N : Nat) (hN : 130 ≤ N) : Agree (fun μ => f_A_image N μ) (fun μ => f_M_image N μ) := by
  refine Agree.mk (fun μ hI => ?_)
  obtain ⟨ht, hf, h0, h1, hle, htb⟩ := hI
  obtain ⟨μ1, μ2, g1, g2, g3, g4, g5, g6, g7⟩ := both_copy (N := N) (μ := μ) (o := 1) (p := 0) hN (Or.inr ⟨rfl, rfl⟩) h0 h1.1
  have n4 := h0.1.2.2
  have hS0 : SRel μ2 0 := h0.congr (fun x => g5 5 0 x (by omega) (by omega) (by omega) (by omega) (by omega) (by omega)) (fun x => g5 26 0 x (by omega) (by omega) (by omega) (by omega) (by omega) (by omega)) (fun w x hw => g5 6 w x (by omega) (by omega) (by omega) (by omega) (by omega) (by omega)) (fun x => g5 4 _ x (by omega) (by omega) (by omega) (by omega) (by omega) (by omega)) (fun x => g5 22 _ x (by omega) (by omega) (by omega) (by omega) (by omega) (by omega)) (fun x => g5 23 _ x (by omega) (by omega) (by omega) (by omega) (by omega) (by omega)) (fun x => g5 27 0 x (by omega) (by omega) (by omega) (by omega) (by omega) (by omega)) (fun x => g5 40 0 x (by omega) (by omega) (by omega) (by omega) (by omega) (by omega)) (fun w x hw => g6 28 w x (by omega) (by omega)) (fun w x hw => g6 29 w x (by omega) (by omega)) (fun x => g6 41 0 x (by omega) (by omega)) (fun t htt => g5 4 t 2 (by omega) (by omega) (by omega) (by omega) (by omega) (by omega))
  obtain ⟨n, hn, hn1, hn2, hn3, hn4⟩ := trl_cnt hS0.2.2.2.2.2.2
  refine ⟨iI ((n - 1 : Nat) : Int), μ1, μ2, ?_, ?_, ?_⟩
  · unfold f_A_image
    rw [g1, zbnd_eq, s_State_ordersPlayed (n := n) (by rw [g7]; exact hn1) (by omega), zbnd_eq]; rfl
  · unfold f_M_image
    rw [g2, zbnd_eq, zchk_t (by decide), show (2 : Int32).toNatClampNeg = 2 from rfl, hn3]; rfl
  · have q : ∀ k i x, (k = 1 ∨ k = 2 ∨ k = 12 ∨ k = 20 ∨ k = 43 ∨ k = 42 ∨ k = 24 ∨ k = 25) → μ2.1 k i x = μ.1 k i x := fun k i x hk => g5 k i x (by omega) (by omega) (by omega) (by omega) (by omega) (by omega)
    refine ⟨ht.congr (q _ _ _ (by omega)) (q _ _ _ (by omega)) (fun j => q _ _ _ (by omega)) (fun j => q _ _ _ (by omega)), ⟨by rw [q 2 0 1 (by omega), q 12 0 7 (by omega)]; exact hf.1, by rw [q 2 0 2 (by omega), q 12 0 8 (by omega)]; exact hf.2⟩, hS0, g3, ?_, htb.congr (g5 5 0 0 (by omega) (by omega) (by omega) (by omega) (by omega) (by omega)) (fun t x h => g5 4 t x (by omega) (by omega) (by omega) (by omega) (by omega) (by omega)) (fun t x h => g5 22 t x (by omega) (by omega) (by omega) (by omega) (by omega) (by omega)) (fun t x h => g5 23 t x (by omega) (by omega) (by omega) (by omega) (by omega) (by omega)) (fun t x => q _ _ _ (by omega)) (fun t x => q _ _ _ (by omega)) (fun x => q _ _ _ (by omega)) n4⟩
    rw [g4, g5 5 0 0 (by omega) (by omega) (by omega) (by omega) (by omega) (by omega)]; omega
theorem ag_back (N : Nat) (hN : 130 ≤ N) : Agree (fun μ => f_A_back N μ) (fun μ => f_M_back N μ) := by
  refine Agree.mk (fun μ hI => ?_)
  obtain ⟨ht, hf, h0, h1, hle, htb⟩ := hI
  obtain ⟨μ1, μ2, g1, g2, g3, g4, g5, g6, g7⟩ := both_copy (N := N) (μ := μ) (o := 0) (p := 1) hN (Or.inl ⟨rfl, rfl⟩) h1 h0.1
  have n4 := h1.1.2.2
  have n40 := h0.1.2.2
  have hS1 : SRel μ2 1 := h1.congr (fun x => g5 5 1 x (by omega) (by omega) (by omega) (by omega) (by omega) (by omega)) (fun x => g5 26 1 x (by omega) (by omega) (by omega) (by omega) (by omega) (by omega)) (fun w x hw => g5 6 w x (by omega) (by omega) (by omega) (by omega) (by omega) (by omega)) (fun x => g5 4 _ x (by omega) (by omega) (by omega) (by omega) (by omega) (by omega)) (fun x => g5 22 _ x (by omega) (by omega) (by omega) (by omega) (by omega) (by omega)) (fun x => g5 23 _ x (by omega) (by omega) (by omega) (by omega) (by omega) (by omega)) (fun x => g5 27 1 x (by omega) (by omega) (by omega) (by omega) (by omega) (by omega)) (fun x => g5 40 1 x (by omega) (by omega) (by omega) (by omega) (by omega) (by omega)) (fun w x hw => g6 28 w x (by omega) (by omega)) (fun w x hw => g6 29 w x (by omega) (by omega)) (fun x => g6 41 1 x (by omega) (by omega)) (fun t htt => g5 4 t 2 (by omega) (by omega) (by omega) (by omega) (by omega) (by omega))
  obtain ⟨n, hn, hn1, hn2, hn3, hn4⟩ := trl_cnt g3.2.2.2.2.2.2
  refine ⟨iI ((n - 1 : Nat) : Int), μ1, μ2, ?_, ?_, ?_⟩
  · unfold f_A_back
    rw [g1, zbnd_eq, s_State_ordersPlayed (n := n) (by rw [g7]; exact hn1) (by omega), zbnd_eq]; rfl
  · unfold f_M_back
    rw [g2, zbnd_eq, zchk_t (by decide), show (2 : Int32).toNatClampNeg = 2 from rfl, hn3]; rfl
  · have q : ∀ k i x, (k = 1 ∨ k = 2 ∨ k = 12 ∨ k = 20 ∨ k = 43 ∨ k = 42 ∨ k = 24 ∨ k = 25) → μ2.1 k i x = μ.1 k i x := fun k i x hk => g5 k i x (by omega) (by omega) (by omega) (by omega) (by omega) (by omega)
    refine ⟨ht.congr (q _ _ _ (by omega)) (q _ _ _ (by omega)) (fun j => q _ _ _ (by omega)) (fun j => q _ _ _ (by omega)), ⟨by rw [q 2 0 1 (by omega), q 12 0 7 (by omega)]; exact hf.1, by rw [q 2 0 2 (by omega), q 12 0 8 (by omega)]; exact hf.2⟩, g3, hS1, ?_, ?_⟩
    · rw [g4, g5 5 1 0 (by omega) (by omega) (by omega) (by omega) (by omega) (by omega)]; omega
    · intro t htt
      rw [g4] at htt
      have ht4 : t < 4 := by omega
      have e : tabOf μ2 t = tabOf μ t := by
        have a1 : ∀ x, μ2.1 4 t x = μ.1 4 t x := fun x => g5 4 t x (by omega) (by omega) (by omega) (by omega) (by omega) (by omega)
        have a2 : ∀ x, μ2.1 22 t x = μ.1 22 t x := fun x => g5 22 t x (by omega) (by omega) (by omega) (by omega) (by omega) (by omega)
        have a3 : ∀ x, μ2.1 23 t x = μ.1 23 t x := fun x => g5 23 t x (by omega) (by omega) (by omega) (by omega) (by omega) (by omega)
        have a4 : ∀ x, μ2.1 24 t x = μ.1 24 t x := fun x => q 24 t x (by omega)
        have a5 : ∀ x, μ2.1 25 t x = μ.1 25 t x := fun x => q 25 t x (by omega)
        simp only [tabOf, a1, a2, a3, a4, a5]
      obtain ⟨b1, b2, b3⟩ := htb t (by omega)
      rw [g5 4 t 2 (by omega) (by omega) (by omega) (by omega) (by omega) (by omega), e]
      refine ⟨b1, ?_, b3⟩
      have a6 : ∀ x, μ2.1 42 0 x = μ.1 42 0 x := fun x => q 42 0 x (by omega)
      simp only [TabM, a6] at b2 ⊢
      exact b2
