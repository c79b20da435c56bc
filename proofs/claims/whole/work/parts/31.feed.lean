/-! feeding -/
theorem byte_ex (y : Int32) : byteR (vp_nar .byte y.toInt8.toInt32) (y &&& 255) := by
  have hy := iI_rng y
  refine ⟨y.toInt % 256, by omega, by omega, ?_, ?_⟩
  · rw [← Int32.toInt_inj, iI_toInt (by omega) (by omega)]
    have h1 : (y &&& 255).toBitVec.toNat = y.toBitVec.toNat % 256 := by
      show (y.toBitVec &&& 255#32).toNat = _
      rw [BitVec.toNat_and]
      exact Nat.and_two_pow_sub_one_eq_mod _ 8
    have h2 : (y &&& 255).toInt = (y &&& 255).toBitVec.toInt := rfl
    have h3 : y.toInt = y.toBitVec.toInt := rfl
    rw [h2, h3, BitVec.toInt_eq_toNat_cond, BitVec.toInt_eq_toNat_cond, h1]
    have := y.toBitVec.isLt
    rw [if_pos (by omega)]
    split <;> omega
  · rw [pk_vb, ← Int32.toInt_inj, iI_toInt (by split <;> omega) (by split <;> omega), Int8.toInt_toInt32, Int32.toInt_toInt8]
    show Int.bmod y.toInt 256 = _
    rw [Int.bmod_def]
    split <;> split <;> omega
def btA (p : Int32) (j : Nat) : Int32 := vp_nar .byte ((zshrI p (iI (24 - 8 * (j : Int)))).toInt8.toInt32)
def btM (p : Int32) (j : Nat) : Int32 := zshrI p (iI (24 - 8 * (j : Int))) &&& (255 : Int32)
theorem app_a {N : Nat} {μ : ZMem} {p : Int32} {n : Nat} (hn : n + 4 ≤ 300) : ∀ (f j fuel : Nat) (ν : ZMem), j + f = 4 → f < fuel → ν.1 1 0 1 = iI ((n + j : Nat) : Int) → ν.2 = μ.2 → (∀ k i x, ν.1 k i x = if k = 1 ∧ i = 0 ∧ x = 1 then iI ((n + j : Nat) : Int) else if k = 20 ∧ i = 0 ∧ n ≤ x ∧ x < n + j then btA p (x - n) else μ.1 k i x) →
    ∃ ν', f_Tape_append_l3 N p fuel (iI (24 - 8 * (j : Int))) ν = some ((), ν') ∧ ν'.2 = μ.2 ∧ (∀ k i x, ν'.1 k i x = if k = 1 ∧ i = 0 ∧ x = 1 then iI ((n + 4 : Nat) : Int) else if k = 20 ∧ i = 0 ∧ n ≤ x ∧ x < n + 4 then btA p (x - n) else μ.1 k i x)
  | 0, j, fuel, ν, hj, hf, h1, h2, h3 => by
    obtain ⟨q, rfl⟩ : ∃ q, fuel = q + 1 := ⟨fuel - 1, by omega⟩
    have : j = 4 := by omega
    subst this
    refine ⟨ν, ?_, h2, h3⟩
    simp only [f_Tape_append_l3]
    rw [zif_t (by rw [zi0, iI_lt (by omega) (by omega) (by omega) (by omega)]; omega)]; rfl
  | f + 1, j, fuel, ν, hj, hf, h1, h2, h3 => by
    obtain ⟨q, rfl⟩ : ∃ q, fuel = q + 1 := ⟨fuel - 1, by omega⟩
    have e1 : iI (24 - 8 * (j : Int)) + (-8 : Int32) = iI (24 - 8 * ((j + 1 : Nat) : Int)) := by
      have : iI (24 - 8 * (j : Int)) + (-8 : Int32) = iI (24 - 8 * (j : Int) + -8) := by rw [show (-8 : Int32) = iI (-8) from rfl, iI_add]
      rw [this]; congr 1; omega
    have e2 : iI ((n + j : Nat) : Int) + (1 : Int32) = iI ((n + (j + 1) : Nat) : Int) := by rw [ilit, iI_add]; congr 1
    obtain ⟨ω, hω⟩ : ∃ ω, ω = zsetI (zsetI ν 20 0 (n + j) (btA p j)) 1 0 1 (iI ((n + (j + 1) : Nat) : Int)) := ⟨_, rfl⟩
    have hs : f_Tape_append_l3 N p (q + 1) (iI (24 - 8 * (j : Int))) ν = f_Tape_append_l3 N p q (iI (24 - 8 * ((j + 1 : Nat) : Int))) ω := by
      rw [hω]
      simp only [f_Tape_append_l3]
      rw [zif_f (by rw [zi0, iI_lt (by omega) (by omega) (by omega) (by omega)]; omega), h1, zif_f (by rw [ilit, iI_le (by omega) (by omega) (by omega) (by omega)]; omega), zchk_t (zin_k 300 rfl (by omega) (by omega) (by omega)), zlt_eq, zlt_eq, zlt_eq, e1, cl_nat (by omega)]
      congr 1
      have : (zsetI ν 20 0 (n + j) (btA p j)).1 1 0 1 = iI ((n + j : Nat) : Int) := by rw [rI, if_neg (by omega)]; exact h1
      show zsetI (zsetI ν 20 0 (n + j) (btA p j)) 1 0 1 ((zsetI ν 20 0 (n + j) (btA p j)).1 1 0 1 + 1) = _
      rw [this, e2]
    obtain ⟨ν', a1, a2, a3⟩ := app_a (μ := μ) (N := N) (p := p) hn f (j + 1) q ω (by omega) (by omega) (by rw [hω, rI, if_pos (by omega)]) (by rw [hω]; exact h2) (fun k i x => by
      rw [hω]
      simp only [rI]
      by_cases c1 : k = 1 ∧ i = 0 ∧ x = 1
      · rw [if_pos c1, if_pos c1]
      · rw [if_neg c1, if_neg c1]
        by_cases c2 : k = 20 ∧ i = 0 ∧ x = n + j
        · rw [if_pos c2, if_pos (by omega), c2.2.2, Nat.add_sub_cancel_left]
        · rw [if_neg c2, h3, if_neg c1]
          by_cases c3 : k = 20 ∧ i = 0 ∧ n ≤ x ∧ x < n + j
          · rw [if_pos c3, if_pos (by omega)]
          · rw [if_neg c3, if_neg (by omega)])
    exact ⟨ν', hs.trans a1, a2, a3⟩
theorem app_m {N : Nat} {μ : ZMem} {p : Int32} {n : Nat} (hn : n + 4 ≤ 300) : ∀ (f j fuel : Nat) (ν : ZMem), j + f = 4 → f < fuel → ν.1 12 0 6 = iI ((n + j : Nat) : Int) → ν.2 = μ.2 → (∀ k i x, ν.1 k i x = if k = 12 ∧ i = 0 ∧ x = 6 then iI ((n + j : Nat) : Int) else if k = 43 ∧ i = 0 ∧ n ≤ x ∧ x < n + j then btM p (x - n) else μ.1 k i x) →
    ∃ ν', f_M_four_l2 N p fuel (iI (3 - (j : Int))) ν = some ((), ν') ∧ ν'.2 = μ.2 ∧ (∀ k i x, ν'.1 k i x = if k = 12 ∧ i = 0 ∧ x = 6 then iI ((n + 4 : Nat) : Int) else if k = 43 ∧ i = 0 ∧ n ≤ x ∧ x < n + 4 then btM p (x - n) else μ.1 k i x)
  | 0, j, fuel, ν, hj, hf, h1, h2, h3 => by
    obtain ⟨q, rfl⟩ : ∃ q, fuel = q + 1 := ⟨fuel - 1, by omega⟩
    have : j = 4 := by omega
    subst this
    refine ⟨ν, ?_, h2, h3⟩
    simp only [f_M_four_l2]
    rw [zif_t (by rw [zi0, iI_lt (by omega) (by omega) (by omega) (by omega)]; omega)]; rfl
  | f + 1, j, fuel, ν, hj, hf, h1, h2, h3 => by
    obtain ⟨q, rfl⟩ : ∃ q, fuel = q + 1 := ⟨fuel - 1, by omega⟩
    have e1 : iI (3 - (j : Int)) + (-1 : Int32) = iI (3 - ((j + 1 : Nat) : Int)) := by
      have : iI (3 - (j : Int)) + (-1 : Int32) = iI (3 - (j : Int) + -1) := by rw [m1, iI_add]
      rw [this]; congr 1; omega
    have e3 : (8 : Int32) * iI (3 - (j : Int)) = iI (24 - 8 * (j : Int)) := by
      rw [ilit, iI_mul]; congr 1; omega
    have e2 : iI ((n + j : Nat) : Int) + (1 : Int32) = iI ((n + (j + 1) : Nat) : Int) := by rw [ilit, iI_add]; congr 1
    obtain ⟨ω, hω⟩ : ∃ ω, ω = zsetI (zsetI ν 43 0 (n + j) (btM p j)) 12 0 6 (iI ((n + (j + 1) : Nat) : Int)) := ⟨_, rfl⟩
    have hs : f_M_four_l2 N p (q + 1) (iI (3 - (j : Int))) ν = f_M_four_l2 N p q (iI (3 - ((j + 1 : Nat) : Int))) ω := by
      rw [hω]
      simp only [f_M_four_l2]
      rw [zif_f (by rw [zi0, iI_lt (by omega) (by omega) (by omega) (by omega)]; omega), h1, zchk_t (zin_k 300 rfl (by omega) (by omega) (by omega)), zlt_eq, zlt_eq, zlt_eq, e1, cl_nat (by omega), e3]
      congr 1
      have : (zsetI ν 43 0 (n + j) (btM p j)).1 12 0 6 = iI ((n + j : Nat) : Int) := by rw [rI, if_neg (by omega)]; exact h1
      show zsetI (zsetI ν 43 0 (n + j) (btM p j)) 12 0 6 ((zsetI ν 43 0 (n + j) (btM p j)).1 12 0 6 + 1) = _
      rw [this, e2]
    obtain ⟨ν', a1, a2, a3⟩ := app_m (μ := μ) (N := N) (p := p) hn f (j + 1) q ω (by omega) (by omega) (by rw [hω, rI, if_pos (by omega)]) (by rw [hω]; exact h2) (fun k i x => by
      rw [hω]
      simp only [rI]
      by_cases c1 : k = 12 ∧ i = 0 ∧ x = 6
      · rw [if_pos c1, if_pos c1]
      · rw [if_neg c1, if_neg c1]
        by_cases c2 : k = 43 ∧ i = 0 ∧ x = n + j
        · rw [if_pos c2, if_pos (by omega), c2.2.2, Nat.add_sub_cancel_left]
        · rw [if_neg c2, h3, if_neg c1]
          by_cases c3 : k = 43 ∧ i = 0 ∧ n ≤ x ∧ x < n + j
          · rw [if_pos c3, if_pos (by omega)]
          · rw [if_neg c3, if_neg (by omega)])
    exact ⟨ν', hs.trans a1, a2, a3⟩
def FA (μ : ZMem) (n : Nat) (P : Nat → Int32) (m : Nat) (ν : ZMem) : Prop := ν.2 = μ.2 ∧ ∀ k i x, ν.1 k i x = if k = 1 ∧ i = 0 ∧ x = 1 then iI ((n + 4 * m : Nat) : Int) else if k = 20 ∧ i = 0 ∧ n ≤ x ∧ x < n + 4 * m then btA (P ((x - n) / 4)) ((x - n) % 4) else μ.1 k i x
def FM (μ : ZMem) (n : Nat) (P : Nat → Int32) (m : Nat) (ν : ZMem) : Prop := ν.2 = μ.2 ∧ ∀ k i x, ν.1 k i x = if k = 12 ∧ i = 0 ∧ x = 6 then iI ((n + 4 * m : Nat) : Int) else if k = 43 ∧ i = 0 ∧ n ≤ x ∧ x < n + 4 * m then btM (P ((x - n) / 4)) ((x - n) % 4) else μ.1 k i x
theorem FA.step {N : Nat} {μ ν : ZMem} {n m : Nat} {P : Nat → Int32} (hN : 130 ≤ N) (h : FA μ n P m ν) (hm : n + 4 * m + 4 ≤ 300) : ∃ ν', f_Tape_append N ν (P m) = some ((), ν') ∧ FA μ n P (m + 1) ν' := by
  obtain ⟨ν', a1, a2, a3⟩ := app_a (N := N) (μ := ν) (p := P m) (n := n + 4 * m) hm 4 0 N ν (by omega) (by omega) (by rw [h.2, if_pos (by omega)]; rfl) rfl (fun k i x => by
    by_cases c : k = 1 ∧ i = 0 ∧ x = 1
    · rw [if_pos c, h.2, if_pos c]; rfl
    · rw [if_neg c, if_neg (by omega)])
  refine ⟨ν', a1, a2.trans h.1, fun k i x => ?_⟩
  rw [a3]
  by_cases c : k = 1 ∧ i = 0 ∧ x = 1
  · rw [if_pos c, if_pos c, show n + 4 * m + 4 = n + 4 * (m + 1) by omega]
  · rw [if_neg c, if_neg c]
    by_cases c2 : k = 20 ∧ i = 0 ∧ n + 4 * m ≤ x ∧ x < n + 4 * m + 4
    · rw [if_pos c2, if_pos (by omega), show (x - n) / 4 = m by omega, show (x - n) % 4 = x - (n + 4 * m) by omega]
    · rw [if_neg c2, h.2, if_neg c]
      by_cases c3 : k = 20 ∧ i = 0 ∧ n ≤ x ∧ x < n + 4 * m
      · rw [if_pos c3, if_pos (by omega)]
      · rw [if_neg c3, if_neg (by omega)]
theorem FM.step {N : Nat} {μ ν : ZMem} {n m : Nat} {P : Nat → Int32} (hN : 130 ≤ N) (h : FM μ n P m ν) (hm : n + 4 * m + 4 ≤ 300) : ∃ ν', f_M_four N ν (P m) = some ((), ν') ∧ FM μ n P (m + 1) ν' := by
  obtain ⟨ν', a1, a2, a3⟩ := app_m (N := N) (μ := ν) (p := P m) (n := n + 4 * m) hm 4 0 N ν (by omega) (by omega) (by rw [h.2, if_pos (by omega)]; rfl) rfl (fun k i x => by
    by_cases c : k = 12 ∧ i = 0 ∧ x = 6
    · rw [if_pos c, h.2, if_pos c]; rfl
    · rw [if_neg c, if_neg (by omega)])
  refine ⟨ν', a1, a2.trans h.1, fun k i x => ?_⟩
  rw [a3]
  by_cases c : k = 12 ∧ i = 0 ∧ x = 6
  · rw [if_pos c, if_pos c, show n + 4 * m + 4 = n + 4 * (m + 1) by omega]
  · rw [if_neg c, if_neg c]
    by_cases c2 : k = 43 ∧ i = 0 ∧ n + 4 * m ≤ x ∧ x < n + 4 * m + 4
    · rw [if_pos c2, if_pos (by omega), show (x - n) / 4 = m by omega, show (x - n) % 4 = x - (n + 4 * m) by omega]
    · rw [if_neg c2, h.2, if_neg c]
      by_cases c3 : k = 43 ∧ i = 0 ∧ n ≤ x ∧ x < n + 4 * m
      · rw [if_pos c3, if_pos (by omega)]
      · rw [if_neg c3, if_neg (by omega)]
theorem ag_feed (N : Nat) (hN : 130 ≤ N) (p0 p1 p2 p3 p4 : Int32) : Agree (fun μ => f_A_feed N μ p0 p1 p2 p3 p4) (fun μ => f_M_feed N μ p0 p1 p2 p3 p4) := by
  refine Agree.mk (fun μ hI => ?_)
  have hI' := hI
  obtain ⟨⟨t1, t2, t3, t4⟩, hf, h0, h1, hle, htb⟩ := hI
  obtain ⟨n, n1, n2, n3⟩ := nat_ex t2 t3
  have n4 : μ.1 12 0 6 = iI n := by rw [← t1]; exact n2
  have e20 : iI (n : Int) + (20 : Int32) = iI ((n : Int) + 20) := by rw [ilit, iI_add]
  unfold f_A_feed f_M_feed f_Tape_hasRoom
  by_cases c : n + 20 ≤ 300
  · obtain ⟨P, hP⟩ : ∃ P : Nat → Int32, P = fun q => if q = 0 then p0 else if q = 1 then p1 else if q = 2 then p2 else if q = 3 then p3 else p4 := ⟨_, rfl⟩
    have q0 : P 0 = p0 := by rw [hP]; rfl
    have q1 : P 1 = p1 := by rw [hP]; rfl
    have q2 : P 2 = p2 := by rw [hP]; rfl
    have q3 : P 3 = p3 := by rw [hP]; rfl
    have q4 : P 4 = p4 := by rw [hP]; rfl
    have a0 : FA μ n P 0 μ := ⟨rfl, fun k i x => by
      by_cases c : k = 1 ∧ i = 0 ∧ x = 1
      · rw [if_pos c, c.1, c.2.1, c.2.2, n2]; rfl
      · rw [if_neg c, if_neg (by omega)]⟩
    obtain ⟨ν1, b1, a1⟩ := a0.step hN (by omega)
    obtain ⟨ν2, b2, a2⟩ := a1.step hN (by omega)
    obtain ⟨ν3, b3, a3⟩ := a2.step hN (by omega)
    obtain ⟨ν4, b4, a4⟩ := a3.step hN (by omega)
    obtain ⟨ν5, b5, a5⟩ := a4.step hN (by omega)
    have v6 : ν5.1 12 0 6 = iI n := by rw [a5.2, if_neg (by omega), if_neg (by omega)]; exact n4
    have c0 : FM ν5 n P 0 ν5 := ⟨rfl, fun k i x => by
      by_cases c : k = 12 ∧ i = 0 ∧ x = 6
      · rw [if_pos c, c.1, c.2.1, c.2.2, v6]; rfl
      · rw [if_neg c, if_neg (by omega)]⟩
    obtain ⟨ω1, d1, c1⟩ := c0.step hN (by omega)
    obtain ⟨ω2, d2, c2⟩ := c1.step hN (by omega)
    obtain ⟨ω3, d3, c3⟩ := c2.step hN (by omega)
    obtain ⟨ω4, d4, c4⟩ := c3.step hN (by omega)
    obtain ⟨ω5, d5, c5⟩ := c4.step hN (by omega)
    rw [q0] at b1 d1
    rw [q1] at b2 d2
    rw [q2] at b3 d3
    rw [q3] at b4 d4
    rw [q4] at b5 d5
    have w1 : ∀ k i x, ω5.1 k i x = if k = 12 ∧ i = 0 ∧ x = 6 then iI ((n + 20 : Nat) : Int) else if k = 43 ∧ i = 0 ∧ n ≤ x ∧ x < n + 20 then btM (P ((x - n) / 4)) ((x - n) % 4) else if k = 1 ∧ i = 0 ∧ x = 1 then iI ((n + 20 : Nat) : Int) else if k = 20 ∧ i = 0 ∧ n ≤ x ∧ x < n + 20 then btA (P ((x - n) / 4)) ((x - n) % 4) else μ.1 k i x := fun k i x => by
      rw [c5.2, a5.2]
    have w2 : ω5.2 = μ.2 := c5.1.trans a5.1
    refine ⟨iI ((n + 20 : Nat) : Int), ν5, ω5, ?_, ?_, ?_⟩
    · rw [n2, e20, zif_f (by rw [ilit, iI_lt (by omega) (by omega) (by omega) (by omega)]; omega)]
      simp only [zret, zbnd_eq]
      rw [zif_f (by decide), b1, zbnd_eq, b2, zbnd_eq, b3, zbnd_eq, b4, zbnd_eq, b5, zbnd_eq, a5.2, if_pos (by omega)]
    · rw [v6, e20, zif_t (by rw [ilit, iI_le (by omega) (by omega) (by omega) (by omega)]; omega), d1, zbnd_eq, d2, zbnd_eq, d3, zbnd_eq, d4, zbnd_eq, d5, zbnd_eq, c5.2, if_pos (by omega)]; rfl
    · have fI : ∀ k i x, k ≠ 12 → k ≠ 43 → k ≠ 1 → k ≠ 20 → ω5.1 k i x = μ.1 k i x := fun k i x r1 r2 r3 r4 => by
        rw [w1, if_neg (by omega), if_neg (by omega), if_neg (by omega), if_neg (by omega)]
      have fJ : ∀ k i x, k ≠ 1000 → k ≠ 1001 → k ≠ 1002 → k ≠ 1003 → ω5.2 k i x = μ.2 k i x := fun k i x _ _ _ _ => by rw [w2]
      have hc : (iI ((n + 20 : Nat) : Int)).toInt = ((n + 20 : Nat) : Int) := toI (by omega) (by omega)
      refine ⟨⟨by rw [w1, w1, if_neg (by omega), if_neg (by omega), if_pos (by omega), if_pos (by omega)], ?_, ?_, ?_⟩, ?_, h0.congr (by intros; first | exact fI _ _ _ (by omega) (by omega) (by omega) (by omega) | exact fJ _ _ _ (by omega) (by omega) (by omega) (by omega) | exact ⟨fJ _ _ _ (by omega) (by omega) (by omega) (by omega), fJ _ _ _ (by omega) (by omega) (by omega) (by omega)⟩) (by intros; first | exact fI _ _ _ (by omega) (by omega) (by omega) (by omega) | exact fJ _ _ _ (by omega) (by omega) (by omega) (by omega) | exact ⟨fJ _ _ _ (by omega) (by omega) (by omega) (by omega), fJ _ _ _ (by omega) (by omega) (by omega) (by omega)⟩) (by intros; first | exact fI _ _ _ (by omega) (by omega) (by omega) (by omega) | exact fJ _ _ _ (by omega) (by omega) (by omega) (by omega) | exact ⟨fJ _ _ _ (by omega) (by omega) (by omega) (by omega), fJ _ _ _ (by omega) (by omega) (by omega) (by omega)⟩) (by intros; first | exact fI _ _ _ (by omega) (by omega) (by omega) (by omega) | exact fJ _ _ _ (by omega) (by omega) (by omega) (by omega) | exact ⟨fJ _ _ _ (by omega) (by omega) (by omega) (by omega), fJ _ _ _ (by omega) (by omega) (by omega) (by omega)⟩) (by intros; first | exact fI _ _ _ (by omega) (by omega) (by omega) (by omega) | exact fJ _ _ _ (by omega) (by omega) (by omega) (by omega) | exact ⟨fJ _ _ _ (by omega) (by omega) (by omega) (by omega), fJ _ _ _ (by omega) (by omega) (by omega) (by omega)⟩) (by intros; first | exact fI _ _ _ (by omega) (by omega) (by omega) (by omega) | exact fJ _ _ _ (by omega) (by omega) (by omega) (by omega) | exact ⟨fJ _ _ _ (by omega) (by omega) (by omega) (by omega), fJ _ _ _ (by omega) (by omega) (by omega) (by omega)⟩) (by intros; first | exact fI _ _ _ (by omega) (by omega) (by omega) (by omega) | exact fJ _ _ _ (by omega) (by omega) (by omega) (by omega) | exact ⟨fJ _ _ _ (by omega) (by omega) (by omega) (by omega), fJ _ _ _ (by omega) (by omega) (by omega) (by omega)⟩) (by intros; first | exact fI _ _ _ (by omega) (by omega) (by omega) (by omega) | exact fJ _ _ _ (by omega) (by omega) (by omega) (by omega) | exact ⟨fJ _ _ _ (by omega) (by omega) (by omega) (by omega), fJ _ _ _ (by omega) (by omega) (by omega) (by omega)⟩) (by intros; first | exact fI _ _ _ (by omega) (by omega) (by omega) (by omega) | exact fJ _ _ _ (by omega) (by omega) (by omega) (by omega) | exact ⟨fJ _ _ _ (by omega) (by omega) (by omega) (by omega), fJ _ _ _ (by omega) (by omega) (by omega) (by omega)⟩) (by intros; first | exact fI _ _ _ (by omega) (by omega) (by omega) (by omega) | exact fJ _ _ _ (by omega) (by omega) (by omega) (by omega) | exact ⟨fJ _ _ _ (by omega) (by omega) (by omega) (by omega), fJ _ _ _ (by omega) (by omega) (by omega) (by omega)⟩) (by intros; first | exact fI _ _ _ (by omega) (by omega) (by omega) (by omega) | exact fJ _ _ _ (by omega) (by omega) (by omega) (by omega) | exact ⟨fJ _ _ _ (by omega) (by omega) (by omega) (by omega), fJ _ _ _ (by omega) (by omega) (by omega) (by omega)⟩) (by intros; first | exact fI _ _ _ (by omega) (by omega) (by omega) (by omega) | exact fJ _ _ _ (by omega) (by omega) (by omega) (by omega) | exact ⟨fJ _ _ _ (by omega) (by omega) (by omega) (by omega), fJ _ _ _ (by omega) (by omega) (by omega) (by omega)⟩), h1.congr (by intros; first | exact fI _ _ _ (by omega) (by omega) (by omega) (by omega) | exact fJ _ _ _ (by omega) (by omega) (by omega) (by omega) | exact ⟨fJ _ _ _ (by omega) (by omega) (by omega) (by omega), fJ _ _ _ (by omega) (by omega) (by omega) (by omega)⟩) (by intros; first | exact fI _ _ _ (by omega) (by omega) (by omega) (by omega) | exact fJ _ _ _ (by omega) (by omega) (by omega) (by omega) | exact ⟨fJ _ _ _ (by omega) (by omega) (by omega) (by omega), fJ _ _ _ (by omega) (by omega) (by omega) (by omega)⟩) (by intros; first | exact fI _ _ _ (by omega) (by omega) (by omega) (by omega) | exact fJ _ _ _ (by omega) (by omega) (by omega) (by omega) | exact ⟨fJ _ _ _ (by omega) (by omega) (by omega) (by omega), fJ _ _ _ (by omega) (by omega) (by omega) (by omega)⟩) (by intros; first | exact fI _ _ _ (by omega) (by omega) (by omega) (by omega) | exact fJ _ _ _ (by omega) (by omega) (by omega) (by omega) | exact ⟨fJ _ _ _ (by omega) (by omega) (by omega) (by omega), fJ _ _ _ (by omega) (by omega) (by omega) (by omega)⟩) (by intros; first | exact fI _ _ _ (by omega) (by omega) (by omega) (by omega) | exact fJ _ _ _ (by omega) (by omega) (by omega) (by omega) | exact ⟨fJ _ _ _ (by omega) (by omega) (by omega) (by omega), fJ _ _ _ (by omega) (by omega) (by omega) (by omega)⟩) (by intros; first | exact fI _ _ _ (by omega) (by omega) (by omega) (by omega) | exact fJ _ _ _ (by omega) (by omega) (by omega) (by omega) | exact ⟨fJ _ _ _ (by omega) (by omega) (by omega) (by omega), fJ _ _ _ (by omega) (by omega) (by omega) (by omega)⟩) (by intros; first | exact fI _ _ _ (by omega) (by omega) (by omega) (by omega) | exact fJ _ _ _ (by omega) (by omega) (by omega) (by omega) | exact ⟨fJ _ _ _ (by omega) (by omega) (by omega) (by omega), fJ _ _ _ (by omega) (by omega) (by omega) (by omega)⟩) (by intros; first | exact fI _ _ _ (by omega) (by omega) (by omega) (by omega) | exact fJ _ _ _ (by omega) (by omega) (by omega) (by omega) | exact ⟨fJ _ _ _ (by omega) (by omega) (by omega) (by omega), fJ _ _ _ (by omega) (by omega) (by omega) (by omega)⟩) (by intros; first | exact fI _ _ _ (by omega) (by omega) (by omega) (by omega) | exact fJ _ _ _ (by omega) (by omega) (by omega) (by omega) | exact ⟨fJ _ _ _ (by omega) (by omega) (by omega) (by omega), fJ _ _ _ (by omega) (by omega) (by omega) (by omega)⟩) (by intros; first | exact fI _ _ _ (by omega) (by omega) (by omega) (by omega) | exact fJ _ _ _ (by omega) (by omega) (by omega) (by omega) | exact ⟨fJ _ _ _ (by omega) (by omega) (by omega) (by omega), fJ _ _ _ (by omega) (by omega) (by omega) (by omega)⟩) (by intros; first | exact fI _ _ _ (by omega) (by omega) (by omega) (by omega) | exact fJ _ _ _ (by omega) (by omega) (by omega) (by omega) | exact ⟨fJ _ _ _ (by omega) (by omega) (by omega) (by omega), fJ _ _ _ (by omega) (by omega) (by omega) (by omega)⟩) (by intros; first | exact fI _ _ _ (by omega) (by omega) (by omega) (by omega) | exact fJ _ _ _ (by omega) (by omega) (by omega) (by omega) | exact ⟨fJ _ _ _ (by omega) (by omega) (by omega) (by omega), fJ _ _ _ (by omega) (by omega) (by omega) (by omega)⟩), ?_, htb.congr (by intros; first | exact fI _ _ _ (by omega) (by omega) (by omega) (by omega) | exact fJ _ _ _ (by omega) (by omega) (by omega) (by omega) | exact ⟨fJ _ _ _ (by omega) (by omega) (by omega) (by omega), fJ _ _ _ (by omega) (by omega) (by omega) (by omega)⟩) (by intros; first | exact fI _ _ _ (by omega) (by omega) (by omega) (by omega) | exact fJ _ _ _ (by omega) (by omega) (by omega) (by omega) | exact ⟨fJ _ _ _ (by omega) (by omega) (by omega) (by omega), fJ _ _ _ (by omega) (by omega) (by omega) (by omega)⟩) (by intros; first | exact fI _ _ _ (by omega) (by omega) (by omega) (by omega) | exact fJ _ _ _ (by omega) (by omega) (by omega) (by omega) | exact ⟨fJ _ _ _ (by omega) (by omega) (by omega) (by omega), fJ _ _ _ (by omega) (by omega) (by omega) (by omega)⟩) (by intros; first | exact fI _ _ _ (by omega) (by omega) (by omega) (by omega) | exact fJ _ _ _ (by omega) (by omega) (by omega) (by omega) | exact ⟨fJ _ _ _ (by omega) (by omega) (by omega) (by omega), fJ _ _ _ (by omega) (by omega) (by omega) (by omega)⟩) (by intros; first | exact fI _ _ _ (by omega) (by omega) (by omega) (by omega) | exact fJ _ _ _ (by omega) (by omega) (by omega) (by omega) | exact ⟨fJ _ _ _ (by omega) (by omega) (by omega) (by omega), fJ _ _ _ (by omega) (by omega) (by omega) (by omega)⟩) (by intros; first | exact fI _ _ _ (by omega) (by omega) (by omega) (by omega) | exact fJ _ _ _ (by omega) (by omega) (by omega) (by omega) | exact ⟨fJ _ _ _ (by omega) (by omega) (by omega) (by omega), fJ _ _ _ (by omega) (by omega) (by omega) (by omega)⟩) (by intros; first | exact fI _ _ _ (by omega) (by omega) (by omega) (by omega) | exact fJ _ _ _ (by omega) (by omega) (by omega) (by omega) | exact ⟨fJ _ _ _ (by omega) (by omega) (by omega) (by omega), fJ _ _ _ (by omega) (by omega) (by omega) (by omega)⟩) h0.1.2.2⟩
      · rw [w1, if_neg (by omega), if_neg (by omega), if_pos (by omega), hc]; omega
      · rw [w1, if_neg (by omega), if_neg (by omega), if_pos (by omega), hc]; omega
      · intro j hj
        rw [w1, if_neg (by omega), if_neg (by omega), if_pos (by omega), hc] at hj
        by_cases cj : j < n
        · have x1 : ω5.1 20 0 j = μ.1 20 0 j := by rw [w1, if_neg (by omega), if_neg (by omega), if_neg (by omega), if_neg (by omega)]
          have x2 : ω5.1 43 0 j = μ.1 43 0 j := by rw [w1, if_neg (by omega), if_neg (by omega), if_neg (by omega), if_neg (by omega)]
          rw [x1, x2]
          exact t4 j (by omega)
        · have x1 : ω5.1 20 0 j = btA (P ((j - n) / 4)) ((j - n) % 4) := by rw [w1, if_neg (by omega), if_neg (by omega), if_neg (by omega), if_pos (by omega)]
          have x2 : ω5.1 43 0 j = btM (P ((j - n) / 4)) ((j - n) % 4) := by rw [w1, if_neg (by omega), if_pos (by omega)]
          rw [x1, x2]
          exact byte_ex _
      · refine ⟨?_, ?_⟩
        · rw [w1, w1, if_neg (by omega), if_neg (by omega), if_neg (by omega), if_neg (by omega), if_neg (by omega), if_neg (by omega), if_neg (by omega), if_neg (by omega)]; exact hf.1
        · rw [w1, w1, if_neg (by omega), if_neg (by omega), if_neg (by omega), if_neg (by omega), if_neg (by omega), if_neg (by omega), if_neg (by omega), if_neg (by omega)]; exact hf.2
      · rw [fI 5 1 0 (by omega) (by omega) (by omega) (by omega), fI 5 0 0 (by omega) (by omega) (by omega) (by omega)]; exact hle
  · refine ⟨-1, μ, μ, ?_, ?_, hI'⟩
    · rw [n2, e20, zif_t (by rw [ilit, iI_lt (by omega) (by omega) (by omega) (by omega)]; omega)]; rfl
    · rw [n4, e20, zif_f (by rw [ilit, iI_le (by omega) (by omega) (by omega) (by omega)]; omega)]; rfl
