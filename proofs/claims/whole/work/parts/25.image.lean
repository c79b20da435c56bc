/-! image, back -/
theorem zcp_0 {n : Nat} {k i k2 i2 : Nat} (h1 : n ≤ zlen k i) (h2 : n ≤ zlen k2 i2) (hn : n < 2147483648) : zcp 0 0 (iI (n : Int)) (zlen k i) (zlen k2 i2) := by
  refine ⟨by decide, by decide, ?_, ?_, ?_⟩
  · rw [zi0, iI_lt (by omega) (by omega) (by omega) (by omega)]; omega
  · rw [cl_nat hn, show (0 : Int32).toNatClampNeg = 0 from rfl]; omega
  · rw [cl_nat hn, show (0 : Int32).toNatClampNeg = 0 from rfl]; omega
theorem cpy0 {α : Type} (f g : Nat → α) (n x : Nat) : va_cpy f g 0 0 n x = if x < n then f x else g x := by
  unfold va_cpy
  by_cases h : x < n
  · rw [if_pos (by omega), if_pos h]; congr 1; omega
  · rw [if_neg (by omega), if_neg h]
theorem s_Values_copyFrom {N : Nat} {μ : ZMem} {o p n : Nat} (hop : o ≠ p) (hc : μ.1 6 p 2 = iI n) (h1 : n ≤ zlen 28 p) (h2 : n ≤ zlen 28 o) : ∃ μ', f_Values_copyFrom N μ o p = some ((), μ') ∧ (∀ k i x, μ'.1 k i x = if k = 6 ∧ i = o ∧ x = 2 then iI n else μ.1 k i x) ∧ (∀ k i x, μ'.2 k i x = if (k = 28 ∨ k = 29) ∧ i = o ∧ x < n then μ.2 k p x else μ.2 k i x) := by
  have hl : zlen 28 o ≤ 25 := by show (if o % 3 = 0 then 24 else if o % 3 = 1 then 6 else 25) ≤ 25; split <;> (try split) <;> omega
  have hz : (zsetI μ 6 o 2 (iI n)).1 6 o 2 = iI n := by rw [rI, if_pos ⟨rfl, rfl, rfl⟩]
  have e0 : (0 : Int32).toNatClampNeg = 0 := rfl
  refine ⟨zputJ (zputJ (zsetI μ 6 o 2 (iI n)) 28 o (va_cpy (μ.2 28 p) (μ.2 28 o) 0 0 n)) 29 o (va_cpy (μ.2 29 p) (μ.2 29 o) 0 0 n), ?_, ?_, ?_⟩
  · unfold f_Values_copyFrom
    rw [hc, nI_iI, iI_min (by omega) (by omega) (by omega) (by omega), show min (n : Int) ((zlen 28 o : Nat) : Int) = (n : Int) by omega]
    simp only [zlt_eq, hz, rPJI, cl_nat (show n < 2147483648 by omega), e0, rIJ]
    rw [zchk_t (zcp_0 h1 h2 (by omega)), zchk_t (zcp_0 (show n ≤ zlen 29 p from h1) (show n ≤ zlen 29 o from h2) (by omega))]
    simp only [rPJ, rIJ]
    rw [if_neg (by omega), if_neg (by omega)]; rfl
  · intro k i x
    simp only [rPJI, rI]
  · intro k i x
    simp only [rPJ, rIJ]
    by_cases c : k = 29 ∧ i = o
    · obtain ⟨rfl, rfl⟩ := c
      rw [if_pos ⟨rfl, rfl⟩, cpy0]
      by_cases q : x < n
      · rw [if_pos q, if_pos ⟨Or.inr rfl, rfl, q⟩]
      · rw [if_neg q, if_neg (fun z => q z.2.2)]
    · rw [if_neg c]
      by_cases c2 : k = 28 ∧ i = o
      · obtain ⟨rfl, rfl⟩ := c2
        rw [if_pos ⟨rfl, rfl⟩, cpy0]
        by_cases q : x < n
        · rw [if_pos q, if_pos ⟨Or.inl rfl, rfl, q⟩]
        · rw [if_neg q, if_neg (fun z => q z.2.2)]
      · rw [if_neg c2, if_neg (by omega)]
theorem s_Orders_copyFrom {N : Nat} {μ : ZMem} {o p n : Nat} (hop : o ≠ p) (hc : μ.1 4 p 2 = iI n) (h1 : n ≤ zlen 22 p) (h2 : n ≤ zlen 22 o) : ∃ μ', f_Orders_copyFrom N μ o p = some ((), μ') ∧ (∀ k i x, μ'.1 k i x = if k = 4 ∧ i = o ∧ x = 2 then iI n else if (k = 22 ∨ k = 23) ∧ i = o ∧ x < n then μ.1 k p x else μ.1 k i x) ∧ μ'.2 = μ.2 := by
  have hl : zlen 22 o ≤ 24 := by rw [len22]; split <;> omega
  have hz : (zsetI μ 4 o 2 (iI n)).1 4 o 2 = iI n := by rw [rI, if_pos ⟨rfl, rfl, rfl⟩]
  have e0 : (0 : Int32).toNatClampNeg = 0 := rfl
  have g1 : ∀ i, (zsetI μ 4 o 2 (iI n)).1 22 i = μ.1 22 i := fun i => by funext x; rw [rI, if_neg (by omega)]
  have g2 : ∀ i, (zsetI μ 4 o 2 (iI n)).1 23 i = μ.1 23 i := fun i => by funext x; rw [rI, if_neg (by omega)]
  refine ⟨zputI (zputI (zsetI μ 4 o 2 (iI n)) 22 o (va_cpy (μ.1 22 p) (μ.1 22 o) 0 0 n)) 23 o (va_cpy (μ.1 23 p) (μ.1 23 o) 0 0 n), ?_, ?_, rfl⟩
  · unfold f_Orders_copyFrom
    rw [hc, nI_iI, iI_min (by omega) (by omega) (by omega) (by omega), show min (n : Int) ((zlen 22 o : Nat) : Int) = (n : Int) by omega]
    have hz2 : ∀ f, (zputI (zsetI μ 4 o 2 (iI n)) 22 o f).1 4 o 2 = iI n := fun f => by rw [rPI, if_neg (by omega)]; exact hz
    simp only [zlt_eq, hz, hz2, cl_nat (show n < 2147483648 by omega), e0, g1]
    rw [zchk_t (zcp_0 h1 h2 (by omega)), zchk_t (zcp_0 (show n ≤ zlen 23 p from h1) (show n ≤ zlen 23 o from h2) (by omega))]
    simp only [rPI]
    rw [if_neg (by omega), if_neg (by omega), g2, g2]; rfl
  · intro k i x
    simp only [rPI]
    by_cases c : k = 23 ∧ i = o
    · obtain ⟨rfl, rfl⟩ := c
      rw [if_pos ⟨rfl, rfl⟩, cpy0, if_neg (show ¬ (23 = 4 ∧ i = i ∧ x = 2) by omega)]
      by_cases q : x < n
      · rw [if_pos q, if_pos ⟨Or.inr rfl, rfl, q⟩]
      · rw [if_neg q, if_neg (fun z => q z.2.2)]
    · rw [if_neg c]
      by_cases c2 : k = 22 ∧ i = o
      · obtain ⟨rfl, rfl⟩ := c2
        rw [if_pos ⟨rfl, rfl⟩, cpy0, if_neg (show ¬ (22 = 4 ∧ i = i ∧ x = 2) by omega)]
        by_cases q : x < n
        · rw [if_pos q, if_pos ⟨Or.inl rfl, rfl, q⟩]
        · rw [if_neg q, if_neg (fun z => q z.2.2)]
      · rw [if_neg c2, rI]
        by_cases c3 : k = 4 ∧ i = o ∧ x = 2
        · rw [if_pos c3, if_pos c3]
        · rw [if_neg c3, if_neg c3, if_neg (by omega)]
theorem s_State_copyFrom {N : Nat} {μ : ZMem} {o p c0 c1 c2 ck : Nat} (hop : (o = 0 ∧ p = 1) ∨ (o = 1 ∧ p = 0)) (h0 : μ.1 6 (3 * p) 2 = iI c0) (h1 : μ.1 6 (3 * p + 1) 2 = iI c1) (h2 : μ.1 6 (3 * p + 2) 2 = iI c2) (hk : μ.1 4 (p + 4) 2 = iI ck) (l0 : c0 ≤ 24) (l1 : c1 ≤ 6) (l2 : c2 ≤ 25) (lk : ck ≤ 6) :
    ∃ μ', f_State_copyFrom N μ o p = some ((), μ') ∧
      (∀ k i x, ¬ (k = 5 ∧ i = o ∧ (x = 0 ∨ x = 6 ∨ x = 7)) → ¬ (k = 26 ∧ i = o ∧ x < 4) → ¬ (k = 6 ∧ (i = 3 * o ∨ i = 3 * o + 1 ∨ i = 3 * o + 2) ∧ x = 2) → ¬ (k = 4 ∧ i = o + 4 ∧ x = 2) → ¬ ((k = 22 ∨ k = 23) ∧ i = o + 4 ∧ x < ck) → ¬ (k = 27 ∧ i = o ∧ x < 6) → μ'.1 k i x = μ.1 k i x) ∧
      (∀ k i x, ¬ ((k = 28 ∨ k = 29) ∧ ((i = 3 * o ∧ x < c0) ∨ (i = 3 * o + 1 ∧ x < c1) ∨ (i = 3 * o + 2 ∧ x < c2))) → μ'.2 k i x = μ.2 k i x) ∧
      (∀ x, (x = 0 ∨ x = 6 ∨ x = 7) → μ'.1 5 o x = μ.1 5 p x) ∧ (∀ x, x < 4 → μ'.1 26 o x = μ.1 26 p x) ∧ μ'.1 6 (3 * o) 2 = iI c0 ∧ μ'.1 6 (3 * o + 1) 2 = iI c1 ∧ μ'.1 6 (3 * o + 2) 2 = iI c2 ∧ μ'.1 4 (o + 4) 2 = iI ck ∧
      (∀ k x, (k = 22 ∨ k = 23) → x < ck → μ'.1 k (o + 4) x = μ.1 k (p + 4) x) ∧ (∀ x, x < 6 → μ'.1 27 o x = μ.1 27 p x) ∧
      (∀ k x, (k = 28 ∨ k = 29) → x < c0 → μ'.2 k (3 * o) x = μ.2 k (3 * p) x) ∧ (∀ k x, (k = 28 ∨ k = 29) → x < c1 → μ'.2 k (3 * o + 1) x = μ.2 k (3 * p + 1) x) ∧ (∀ k x, (k = 28 ∨ k = 29) → x < c2 → μ'.2 k (3 * o + 2) x = μ.2 k (3 * p + 2) x) := by
  have e0 : (0 : Int32).toNatClampNeg = 0 := rfl
  have e4 : (4 : Int32).toNatClampNeg = 4 := rfl
  have e6 : (6 : Int32).toNatClampNeg = 6 := rfl
  have z0 : ∀ i, (if i % 3 = 0 then 24 else if i % 3 = 1 then 6 else 25) = zlen 28 i := fun i => rfl
  -- the memories one behind the other
  obtain ⟨μ2, d2⟩ : ∃ ν, ν = zputI (zsetI μ 5 o 0 (μ.1 5 p 0)) 26 o (va_cpy ((zsetI μ 5 o 0 (μ.1 5 p 0)).1 26 p) ((zsetI μ 5 o 0 (μ.1 5 p 0)).1 26 o) 0 0 4) := ⟨_, rfl⟩
  have i2 : ∀ k i x, μ2.1 k i x = if k = 26 ∧ i = o ∧ x < 4 then μ.1 26 p x else if k = 5 ∧ i = o ∧ x = 0 then μ.1 5 p 0 else μ.1 k i x := by
    intro k i x
    rw [d2, rPI]
    by_cases c : k = 26 ∧ i = o
    · obtain ⟨rfl, rfl⟩ := c
      have q1 : ∀ i', (zsetI μ 5 i 0 (μ.1 5 p 0)).1 26 i' x = μ.1 26 i' x := fun i' => by rw [rI, if_neg (by omega)]
      rw [if_pos ⟨rfl, rfl⟩, cpy0, q1, q1, if_neg (show ¬ (26 = 5 ∧ i = i ∧ x = 0) by omega)]
      by_cases q : x < 4
      · rw [if_pos q, if_pos ⟨rfl, rfl, q⟩]
      · rw [if_neg q, if_neg (fun z => q z.2.2)]
    · rw [if_neg c, rI, if_neg (show ¬ (k = 26 ∧ i = o ∧ x < 4) by omega)]
  have j2 : μ2.2 = μ.2 := by rw [d2]; rfl
  obtain ⟨μ3, g3, i3, j3⟩ := s_Values_copyFrom (N := N) (μ := μ2) (o := 3 * o) (p := 3 * p) (n := c0) (by omega) (by rw [i2, if_neg (by omega), if_neg (by omega)]; exact h0) (by rw [← z0]; rw [if_pos (by omega)]; omega) (by rw [← z0]; rw [if_pos (by omega)]; omega)
  obtain ⟨μ4, g4, i4, j4⟩ := s_Values_copyFrom (N := N) (μ := μ3) (o := 3 * o + 1) (p := 3 * p + 1) (n := c1) (by omega) (by rw [i3, if_neg (by omega), i2, if_neg (by omega), if_neg (by omega)]; exact h1) (by rw [← z0]; rw [if_neg (by omega), if_pos (by omega)]; omega) (by rw [← z0]; rw [if_neg (by omega), if_pos (by omega)]; omega)
  obtain ⟨μ5, g5, i5, j5⟩ := s_Orders_copyFrom (N := N) (μ := μ4) (o := o + 4) (p := p + 4) (n := ck) (by omega) (by rw [i4, if_neg (by omega), i3, if_neg (by omega), i2, if_neg (by omega), if_neg (by omega)]; exact hk) (by rw [len22, if_neg (by omega)]; omega) (by rw [len22, if_neg (by omega)]; omega)
  obtain ⟨μ8, d8⟩ : ∃ ν, ν = zsetI (zsetI (zputI μ5 27 o (va_cpy (μ5.1 27 p) (μ5.1 27 o) 0 0 6)) 5 o 6 (μ5.1 5 p 6)) 5 o 7 (μ5.1 5 p 7) := ⟨_, rfl⟩
  have i8 : ∀ k i x, μ8.1 k i x = if k = 5 ∧ i = o ∧ x = 7 then μ5.1 5 p 7 else if k = 5 ∧ i = o ∧ x = 6 then μ5.1 5 p 6 else if k = 27 ∧ i = o ∧ x < 6 then μ5.1 27 p x else μ5.1 k i x := by
    intro k i x
    rw [d8, rI, rI, rPI]
    by_cases c : k = 27 ∧ i = o
    · obtain ⟨rfl, rfl⟩ := c
      rw [if_neg (show ¬ (27 = 5 ∧ i = i ∧ x = 7) by omega), if_neg (show ¬ (27 = 5 ∧ i = i ∧ x = 6) by omega), if_neg (show ¬ (27 = 5 ∧ i = i ∧ x = 7) by omega), if_neg (show ¬ (27 = 5 ∧ i = i ∧ x = 6) by omega), if_pos ⟨rfl, rfl⟩, cpy0]
      by_cases q : x < 6
      · rw [if_pos q, if_pos ⟨rfl, rfl, q⟩]
      · rw [if_neg q, if_neg (fun z => q z.2.2)]
    · rw [if_neg c, if_neg (show ¬ (k = 27 ∧ i = o ∧ x < 6) by omega)]
  have j8 : μ8.2 = μ5.2 := by rw [d8]; rfl
  obtain ⟨μ9, g9, i9, j9⟩ := s_Values_copyFrom (N := N) (μ := μ8) (o := 3 * o + 2) (p := 3 * p + 2) (n := c2) (by omega) (by rw [i8, if_neg (by omega), if_neg (by omega), if_neg (by omega), i5, if_neg (by omega), if_neg (by omega), i4, if_neg (by omega), i3, if_neg (by omega), i2, if_neg (by omega), if_neg (by omega)]; exact h2) (by rw [← z0]; rw [if_neg (by omega), if_neg (by omega)]; omega) (by rw [← z0]; rw [if_neg (by omega), if_neg (by omega)]; omega)
  have hi : ∀ k i x, μ9.1 k i x = if k = 6 ∧ i = 3 * o + 2 ∧ x = 2 then iI c2 else if k = 5 ∧ i = o ∧ x = 7 then μ.1 5 p 7 else if k = 5 ∧ i = o ∧ x = 6 then μ.1 5 p 6 else if k = 27 ∧ i = o ∧ x < 6 then μ.1 27 p x else if k = 4 ∧ i = o + 4 ∧ x = 2 then iI ck else if (k = 22 ∨ k = 23) ∧ i = o + 4 ∧ x < ck then μ.1 k (p + 4) x else if k = 6 ∧ i = 3 * o + 1 ∧ x = 2 then iI c1 else if k = 6 ∧ i = 3 * o ∧ x = 2 then iI c0 else if k = 26 ∧ i = o ∧ x < 4 then μ.1 26 p x else if k = 5 ∧ i = o ∧ x = 0 then μ.1 5 p 0 else μ.1 k i x := by
    have hp : ∀ x, x ≠ 0 ∨ True → ∀ k, (k = 5 ∨ k = 27) → μ5.1 k p x = μ.1 k p x := fun x _ k hk' => by
      rw [i5, if_neg (by omega), if_neg (by omega), i4, if_neg (by omega), i3, if_neg (by omega), i2, if_neg (by omega), if_neg (by omega)]
    intro k i x
    rw [i9, i8, hp 7 (Or.inr trivial) 5 (Or.inl rfl), hp 6 (Or.inr trivial) 5 (Or.inl rfl), hp x (Or.inr trivial) 27 (Or.inr rfl), i5]
    by_cases q : (k = 22 ∨ k = 23) ∧ i = o + 4 ∧ x < ck
    · have : μ4.1 k (p + 4) x = μ.1 k (p + 4) x := by rw [i4, if_neg (by omega), i3, if_neg (by omega), i2, if_neg (by omega), if_neg (by omega)]
      rw [this, i4, i3, i2]
    · rw [if_neg q, if_neg q, i4, i3, i2]
  have hj : ∀ k i x, μ9.2 k i x = if (k = 28 ∨ k = 29) ∧ i = 3 * o + 2 ∧ x < c2 then μ.2 k (3 * p + 2) x else if (k = 28 ∨ k = 29) ∧ i = 3 * o + 1 ∧ x < c1 then μ.2 k (3 * p + 1) x else if (k = 28 ∨ k = 29) ∧ i = 3 * o ∧ x < c0 then μ.2 k (3 * p) x else μ.2 k i x := by
    intro k i x
    rw [j9, j8, j5, j4, j4, j3, j3, j3, j2]
    by_cases q : (k = 28 ∨ k = 29) ∧ i = 3 * o + 2 ∧ x < c2
    · rw [if_pos q, if_pos q, if_neg (by omega), if_neg (by omega)]
    · rw [if_neg q, if_neg q]
      by_cases q2 : (k = 28 ∨ k = 29) ∧ i = 3 * o + 1 ∧ x < c1
      · rw [if_pos q2, if_pos q2, if_neg (by omega)]
      · rw [if_neg q2, if_neg q2]
  refine ⟨μ9, ?_, ?_, ?_, ?_, ?_, ?_, ?_, ?_, ?_, ?_, ?_, ?_, ?_, ?_⟩
  · unfold f_State_copyFrom
    simp only [zlt_eq, e0, e4, e6]
    rw [zchk_t (show zcp 0 0 4 (zlen 26 p) (zlen 26 o) from zcp_0 (n := 4) (k := 26) (k2 := 26) (Nat.le_refl 4) (Nat.le_refl 4) (by omega)), ← d2, g3, zbnd_eq, g4, zbnd_eq, g5, zbnd_eq, zchk_t (show zcp 0 0 6 (zlen 27 p) (zlen 27 o) from zcp_0 (n := 6) (k := 27) (k2 := 27) (Nat.le_refl 6) (Nat.le_refl 6) (by omega))]
    have q1 : (zputI μ5 27 o (va_cpy (μ5.1 27 p) (μ5.1 27 o) 0 0 6)).1 5 p 6 = μ5.1 5 p 6 := by rw [rPI, if_neg (by omega)]
    have q2 : (zsetI (zputI μ5 27 o (va_cpy (μ5.1 27 p) (μ5.1 27 o) 0 0 6)) 5 o 6 (μ5.1 5 p 6)).1 5 p 7 = μ5.1 5 p 7 := by rw [rI, if_neg (by omega), rPI, if_neg (by omega)]
    rw [q1, q2, ← d8, g9, zbnd_eq]; rfl
  · intro k i x a1 a2 a3 a4 a5 a6
    rw [hi, if_neg (by omega), if_neg (by omega), if_neg (by omega), if_neg (by omega), if_neg (by omega), if_neg (by omega), if_neg (by omega), if_neg (by omega), if_neg (by omega), if_neg (by omega)]
  · intro k i x a
    rw [hj, if_neg (by omega), if_neg (by omega), if_neg (by omega)]
  · intro x hx
    rcases hx with rfl | rfl | rfl
    · rw [hi, if_neg (by omega), if_neg (by omega), if_neg (by omega), if_neg (by omega), if_neg (by omega), if_neg (by omega), if_neg (by omega), if_neg (by omega), if_neg (by omega), if_pos ⟨rfl, rfl, rfl⟩]
    · rw [hi, if_neg (by omega), if_neg (by omega), if_pos ⟨rfl, rfl, rfl⟩]
    · rw [hi, if_neg (by omega), if_pos ⟨rfl, rfl, rfl⟩]
  · intro x hx
    rw [hi, if_neg (by omega), if_neg (by omega), if_neg (by omega), if_neg (by omega), if_neg (by omega), if_neg (by omega), if_neg (by omega), if_neg (by omega), if_pos ⟨rfl, rfl, hx⟩]
  · rw [hi, if_neg (by omega), if_neg (by omega), if_neg (by omega), if_neg (by omega), if_neg (by omega), if_neg (by omega), if_neg (by omega), if_pos ⟨rfl, rfl, rfl⟩]
  · rw [hi, if_neg (by omega), if_neg (by omega), if_neg (by omega), if_neg (by omega), if_neg (by omega), if_neg (by omega), if_pos ⟨rfl, rfl, rfl⟩]
  · rw [hi, if_pos ⟨rfl, rfl, rfl⟩]
  · rw [hi, if_neg (by omega), if_neg (by omega), if_neg (by omega), if_neg (by omega), if_pos ⟨rfl, rfl, rfl⟩]
  · intro k x hk hx
    rw [hi, if_neg (by omega), if_neg (by omega), if_neg (by omega), if_neg (by omega), if_neg (by omega), if_pos ⟨hk, rfl, hx⟩]
  · intro x hx
    rw [hi, if_neg (by omega), if_neg (by omega), if_neg (by omega), if_pos ⟨rfl, rfl, hx⟩]
  · intro k x hk hx
    rw [hj, if_neg (by omega), if_neg (by omega), if_pos ⟨hk, rfl, hx⟩]
  · intro k x hk hx
    rw [hj, if_neg (by omega), if_pos ⟨hk, rfl, hx⟩]
  · intro k x hk hx
    rw [hj, if_pos ⟨hk, rfl, hx⟩]
