/-! common measures; laying down a value in lowest terms -/
theorem gcd_step {x y : Int} (hx : 0 ≤ x) (hy : 0 < y) : Int.gcd y (x.tmod y) = Int.gcd x y := by
  rw [Int.tmod_eq_emod_of_nonneg hx, Int.gcd_comm x y]
  have e := Int.gcd_add_mul_right_right y (x % y) (x / y)
  rw [Int.emod_add_ediv_mul] at e
  exact e.symm
theorem half_step {y r : Int} (hr : 0 < r) (hry : r < y) : 2 * (y.tmod r) < y := by
  rw [Int.tmod_eq_emod_of_nonneg (by omega)]
  have h1 := Int.emod_lt_of_pos y hr
  have h2 := Int.emod_add_mul_ediv y r
  have h3 : 1 ≤ y / r := by
    rcases Int.lt_or_le (y / r) 1 with h | h
    · have h5 : 0 ≤ y / r := Int.ediv_nonneg (by omega) (by omega)
      have h6 : y / r = 0 := by omega
      rw [h6, Int.mul_zero] at h2
      omega
    · exact h
  have h4 : r * 1 ≤ r * (y / r) := Int.mul_le_mul_of_nonneg_left h3 (by omega)
  omega
theorem tmod_rng {x y : Int} (hx : 0 ≤ x) (hy : 0 < y) : 0 ≤ x.tmod y ∧ x.tmod y < y := by
  rw [Int.tmod_eq_emod_of_nonneg hx]
  exact ⟨Int.emod_nonneg x (by omega), Int.emod_lt_of_pos x hy⟩
theorem zl0 : (0 : Int64) = lI 0 := rfl
theorem zi0 : (0 : Int32) = iI 0 := rfl
theorem cm_one {N n : Nat} {x y r : Int} {μ : ZMem} (hx : 0 ≤ x) (hx2 : x < 4611686018427387904) (hy : 0 < y) (hy2 : y < 4611686018427387904) (hr : 0 ≤ r) (hr2 : r < 100) :
    f_A_commonMeasure_l15 N (n + 1) (lI x) (lI y) (iI r) μ = f_A_commonMeasure_l15 N n (lI y) (lI (x.tmod y)) (iI (r + 1)) μ := by
  simp only [f_A_commonMeasure_l15]
  rw [zif_f (by rw [ilit, iI_le (by omega) (by omega) (by omega) (by omega)]; omega), zif_f (by rw [llit, lcmp_eq (by omega) (by omega) (by omega) (by omega)]; omega), zchk_t (by rw [zl0, lI_eq (by omega) (by omega) (by omega) (by omega)]; omega)]
  simp only [zlt_eq]
  rw [lI_rem (by omega) (by omega) (by omega) (by omega), ilit, iI_add]
theorem cm_end {N n : Nat} {x r : Int} {μ : ZMem} (hr : 0 ≤ r) (hr2 : r ≤ 100) : f_A_commonMeasure_l15 N (n + 1) (lI x) (lI 0) (iI r) μ = some (lI x, μ) := by
  simp only [f_A_commonMeasure_l15]
  by_cases h : r = 100
  · subst h
    rw [zif_t (by decide)]; rfl
  · rw [zif_f (by rw [ilit, iI_le (by omega) (by omega) (by omega) (by omega)]; omega), zif_t (by decide)]; rfl
theorem cm_loop {N : Nat} {μ : ZMem} : ∀ (k n : Nat) (x y r : Int), 0 ≤ x → x < 4611686018427387904 → 0 ≤ y → y < 2 ^ k → k ≤ 60 → 0 ≤ r → r + 2 * k ≤ 100 → 2 * k < n → f_A_commonMeasure_l15 N n (lI x) (lI y) (iI r) μ = some (lI (Int.gcd x y : Int), μ)
  | 0, n, x, y, r, hx, hx2, hy, hyk, hk, hr, hr2, hn => by
    have h0 : y = 0 := by simp at hyk; omega
    subst h0
    obtain ⟨m, rfl⟩ : ∃ m, n = m + 1 := ⟨n - 1, by omega⟩
    rw [cm_end hr (by omega), Int.gcd_zero_right, Int.natAbs_of_nonneg hx]
  | k + 1, n, x, y, r, hx, hx2, hy, hyk, hk, hr, hr2, hn => by
    obtain ⟨m, rfl⟩ : ∃ m, n = m + 2 := ⟨n - 2, by omega⟩
    have hp : (2 : Int) ^ (k + 1) = 2 * 2 ^ k := by rw [Int.pow_succ]; omega
    have hp60 : (2 : Int) ^ (k + 1) ≤ 2 ^ 60 := by
      have := Nat.pow_le_pow_right (n := 2) (by omega) (show k + 1 ≤ 60 by omega)
      exact_mod_cast this
    have hp60' : (2 : Int) ^ 60 = 1152921504606846976 := by decide
    by_cases h0 : y = 0
    · subst h0
      rw [cm_end hr (by omega), Int.gcd_zero_right, Int.natAbs_of_nonneg hx]
    · have hy1 : 0 < y := by omega
      rw [cm_one hx hx2 hy1 (by omega) hr (by omega)]
      have hm := tmod_rng hx hy1
      by_cases h1 : x.tmod y = 0
      · rw [h1, cm_end (by omega) (by omega), ← gcd_step hx hy1, h1, Int.gcd_zero_right, Int.natAbs_of_nonneg hy]
      · have hm1 : 0 < x.tmod y := by omega
        rw [cm_one hy (by omega) hm1 (by omega) (by omega) (by omega)]
        have hh := half_step hm1 hm.2
        have hm2 := tmod_rng hy hm1
        rw [cm_loop k m (x.tmod y) (y.tmod (x.tmod y)) (r + 1 + 1) hm.1 (by omega) hm2.1 (by omega) (by omega) (by omega) (by omega) (by omega), gcd_step hy hm1, gcd_step hx hy1]
theorem s_A_commonMeasure {N : Nat} {μ : ZMem} {a b : Int} (hN : 100 ≤ N) (ha : a.natAbs < 4611686018427387904) (hb : b.natAbs < 1099511627776) : f_A_commonMeasure N μ (lI a) (lI b) = some (lI (Int.gcd a b : Int), μ) := by
  unfold f_A_commonMeasure
  simp only [zlt_eq]
  rw [lI_abs (by omega) (by omega), lI_abs (by omega) (by omega), ilit, cm_loop 40 N _ _ 0 (by omega) (by omega) (by omega) (by omega) (by omega) (by omega) (by omega) (by omega)]
  simp [Int.gcd]
theorem mc_one {N n : Nat} {x y : Int} {μ : ZMem} (hx : 0 ≤ x) (hx2 : x < 4611686018427387904) (hy : 0 < y) (hy2 : y < 4611686018427387904) :
    f_M_common_l17 N (n + 1) (lI x) (lI y) μ = f_M_common_l17 N n (lI y) (lI (x.tmod y)) μ := by
  simp only [f_M_common_l17]
  rw [zif_f (by rw [llit, lcmp_eq (by omega) (by omega) (by omega) (by omega)]; omega), zchk_t (by rw [zl0, lI_eq (by omega) (by omega) (by omega) (by omega)]; omega)]
  simp only [zlt_eq]
  rw [lI_rem (by omega) (by omega) (by omega) (by omega)]
theorem mc_end {N n : Nat} {x : Int} {μ : ZMem} : f_M_common_l17 N (n + 1) (lI x) (lI 0) μ = some (lI x, μ) := by
  simp only [f_M_common_l17]
  rw [zif_t (by decide)]; rfl
theorem mc_loop {N : Nat} {μ : ZMem} : ∀ (k n : Nat) (x y : Int), 0 ≤ x → x < 4611686018427387904 → 0 ≤ y → y < 2 ^ k → k ≤ 60 → 2 * k < n → f_M_common_l17 N n (lI x) (lI y) μ = some (lI (Int.gcd x y : Int), μ)
  | 0, n, x, y, hx, hx2, hy, hyk, hk, hn => by
    have h0 : y = 0 := by simp at hyk; omega
    subst h0
    obtain ⟨m, rfl⟩ : ∃ m, n = m + 1 := ⟨n - 1, by omega⟩
    rw [mc_end, Int.gcd_zero_right, Int.natAbs_of_nonneg hx]
  | k + 1, n, x, y, hx, hx2, hy, hyk, hk, hn => by
    obtain ⟨m, rfl⟩ : ∃ m, n = m + 2 := ⟨n - 2, by omega⟩
    have hp : (2 : Int) ^ (k + 1) = 2 * 2 ^ k := by rw [Int.pow_succ]; omega
    have hp60 : (2 : Int) ^ (k + 1) ≤ 2 ^ 60 := by
      have := Nat.pow_le_pow_right (n := 2) (by omega) (show k + 1 ≤ 60 by omega)
      exact_mod_cast this
    have hp60' : (2 : Int) ^ 60 = 1152921504606846976 := by decide
    by_cases h0 : y = 0
    · subst h0
      rw [mc_end, Int.gcd_zero_right, Int.natAbs_of_nonneg hx]
    · have hy1 : 0 < y := by omega
      rw [mc_one hx hx2 hy1 (by omega)]
      have hm := tmod_rng hx hy1
      by_cases h1 : x.tmod y = 0
      · rw [h1, mc_end, ← gcd_step hx hy1, h1, Int.gcd_zero_right, Int.natAbs_of_nonneg hy]
      · have hm1 : 0 < x.tmod y := by omega
        rw [mc_one hy (by omega) hm1 (by omega)]
        have hh := half_step hm1 hm.2
        have hm2 := tmod_rng hy hm1
        rw [mc_loop k m (x.tmod y) (y.tmod (x.tmod y)) hm.1 (by omega) hm2.1 (by omega) (by omega) (by omega), gcd_step hy hm1, gcd_step hx hy1]
theorem s_M_common {N : Nat} {μ : ZMem} {a b : Int} (hN : 130 ≤ N) (ha : a.natAbs < 4611686018427387904) (hb0 : 0 ≤ b) (hb : b < 1152921504606846976) : f_M_common N μ (lI a) (lI b) = some (lI (Int.gcd a b : Int), μ) := by
  unfold f_M_common
  simp only [zlt_eq]
  have hl : ∀ x : Int, 0 ≤ x → x < 4611686018427387904 → f_M_common_l17 N N (lI x) (lI b) μ = some (lI (Int.gcd x b : Int), μ) := fun x h1 h2 => mc_loop 60 N x b h1 h2 hb0 (by omega) (by omega) (by omega)
  by_cases h : 0 ≤ a
  · rw [zif_t (by rw [llit, lcmp_ge (by omega) (by omega) (by omega) (by omega)]; omega), hl a h (by omega)]
  · rw [zif_f (by rw [llit, lcmp_ge (by omega) (by omega) (by omega) (by omega)]; omega), lI_neg, hl (-a) (by omega) (by omega), Int.neg_gcd]
/-- laid down in lowest terms; none: it is too large -/
def layS (u d : Int) : Option (Int × Int) := if u / (Int.gcd u d : Int) > 1000000000000 ∨ u / (Int.gcd u d : Int) < -1000000000000 ∨ d / (Int.gcd u d : Int) > 1000000 then none else some (u / (Int.gcd u d : Int), d / (Int.gcd u d : Int))
def setV (μ : ZMem) (o : Nat) (v : Int × Int) : ZMem := zsetJ (zsetJ μ 7 o 0 (lI v.1)) 7 o 1 (lI v.2)
def setM (μ : ZMem) (v : Int × Int) : ZMem := zsetJ (zsetJ μ 12 0 15 (lI v.1)) 12 0 16 (lI v.2)
theorem gcd_pos' {u d : Int} (hd : 0 < d) : 0 < (Int.gcd u d : Int) := by
  have := Int.gcd_pos_of_ne_zero_right u (by omega : d ≠ 0)
  omega
theorem gcd_le' {u d : Int} (hd : 0 < d) : (Int.gcd u d : Int) ≤ d := Int.le_of_dvd hd (Int.gcd_dvd_right u d)
theorem tdiv_gcd {u d : Int} (hd : 0 < d) : u.tdiv (Int.gcd u d : Int) = u / (Int.gcd u d : Int) := by
  rw [Int.tdiv_eq_ediv_of_dvd (Int.gcd_dvd_left u d)]
theorem tdiv_gcd2 {u d : Int} (hd : 0 < d) : d.tdiv (Int.gcd u d : Int) = d / (Int.gcd u d : Int) := by
  rw [Int.tdiv_eq_ediv_of_dvd (Int.gcd_dvd_right u d)]
theorem ediv_rng {u g : Int} (hg : 0 < g) (hu : u.natAbs < 4611686018427387904) : -4611686018427387904 < u / g ∧ u / g < 4611686018427387904 := by
  have h1 : (u / g).natAbs ≤ u.natAbs := Int.natAbs_ediv_le_natAbs u g
  omega

theorem lay_cond {u d : Int} (hd : 0 < d) (hd2 : d < 1099511627776) (hu : u.natAbs < 4611686018427387904) : -4611686018427387904 < u / (Int.gcd u d : Int) ∧ u / (Int.gcd u d : Int) < 4611686018427387904 ∧ 0 < d / (Int.gcd u d : Int) ∧ d / (Int.gcd u d : Int) < 1099511627776 := by
  have hg := gcd_pos' (u := u) hd
  have h1 := ediv_rng hg hu
  have h2 := Int.ediv_mul_cancel (Int.gcd_dvd_right u d)
  have h3 : 0 ≤ d / (Int.gcd u d : Int) := Int.ediv_nonneg (by omega) (by omega)
  refine ⟨h1.1, h1.2, ?_, ?_⟩
  · rcases Int.lt_or_eq_of_le h3 with h | h
    · exact h
    · rw [← h] at h2; omega
  · have := Int.natAbs_ediv_le_natAbs d (Int.gcd u d : Int)
    omega
theorem s_Value_put {N : Nat} {μ : ZMem} {o : Nat} {u d : Int} (hN : 100 ≤ N) (hd : 0 < d) (hd2 : d < 1099511627776) (hu : u.natAbs < 4611686018427387904) :
    f_Value_put N μ o (lI u) (lI d) = match layS u d with
      | none => some (0, μ)
      | some v => some (1, setV μ o v) := by
  have hg := gcd_pos' (u := u) hd
  have hgl := gcd_le' (u := u) hd
  have hc := lay_cond hd hd2 hu
  -- the end, with the value in lowest terms
  have key : ∀ (a b : Int), a = u / (Int.gcd u d : Int) → b = d / (Int.gcd u d : Int) → (zif (0 < lg_cmp (lI a) (1000000000000 : Int64)) (zret (0 : Int32) μ) (zif (lg_cmp (lI a) (-1000000000000 : Int64) < 0) (zret (0 : Int32) μ) (zif (lg_cmp (lI b) (1000000 : Int64) ≤ 0) (zlt (zsetJ μ 7 o 0 (lI a)) (fun (μ11 : ZMem) => zlt (zsetJ μ11 7 o 1 (lI b)) (fun (μ12 : ZMem) => zret (1 : Int32) μ12))) (zret (0 : Int32) μ))) : Option (Int32 × ZMem)) = match layS u d with
      | none => some (0, μ)
      | some v => some (1, setV μ o v) := by
    intro a b ha hb
    unfold layS
    rw [← ha, ← hb]
    by_cases c1 : a > 1000000000000
    · rw [zif_t (by rw [llit, lcmp_gt (by omega) (by omega) (by omega) (by omega)]; omega), if_pos (Or.inl c1)]; rfl
    · rw [zif_f (by rw [llit, lcmp_gt (by omega) (by omega) (by omega) (by omega)]; omega)]
      by_cases c2 : a < -1000000000000
      · rw [zif_t (by rw [llit, lI_neg, lcmp_lt (by omega) (by omega) (by omega) (by omega)]; omega), if_pos (Or.inr (Or.inl c2))]; rfl
      · rw [zif_f (by rw [llit, lI_neg, lcmp_lt (by omega) (by omega) (by omega) (by omega)]; omega)]
        by_cases c3 : b > 1000000
        · rw [zif_f (by rw [llit, lcmp_le (by omega) (by omega) (by omega) (by omega)]; omega), if_pos (Or.inr (Or.inr c3))]; rfl
        · rw [zif_t (by rw [llit, lcmp_le (by omega) (by omega) (by omega) (by omega)]; omega), if_neg (by omega)]; rfl
  unfold f_Value_put
  simp only [zlt_eq]
  by_cases h1 : d = 1
  · subst h1
    rw [zif_t (by decide), zif_t (by decide)]
    exact key u 1 (by simp) (by simp)
  · rw [zif_f (by rw [llit, lcmp_eq (by omega) (by omega) (by omega) (by omega)]; omega), s_A_commonMeasure hN hu (by omega), zbnd_eq]
    by_cases h2 : (Int.gcd u d : Int) = 1
    · rw [zif_t (by rw [llit, lcmp_le (by omega) (by omega) (by omega) (by omega)]; omega)]
      exact key u d (by rw [h2]; simp) (by rw [h2]; simp)
    · rw [zif_f (by rw [llit, lcmp_le (by omega) (by omega) (by omega) (by omega)]; omega), zchk_t (by rw [zl0, lI_eq (by omega) (by omega) (by omega) (by omega)]; omega), zchk_t (by rw [zl0, lI_eq (by omega) (by omega) (by omega) (by omega)]; omega), lI_div (by omega) (by omega) (by omega) (by omega), lI_div (by omega) (by omega) (by omega) (by omega), tdiv_gcd hd, tdiv_gcd2 hd]
      exact key _ _ rfl rfl
theorem s_M_lay {N : Nat} {μ : ZMem} {u d : Int} (hN : 130 ≤ N) (hd : 0 < d) (hd2 : d < 1099511627776) (hu : u.natAbs < 4611686018427387904) :
    f_M_lay N μ (lI u) (lI d) = match layS u d with
      | none => some (0, μ)
      | some v => some (1, setM μ v) := by
  have hg := gcd_pos' (u := u) hd
  have hgl := gcd_le' (u := u) hd
  have hc := lay_cond hd hd2 hu
  unfold f_M_lay
  have hz : ¬ lI (Int.gcd u d : Int) = 0 := by rw [zl0, lI_eq (by omega) (by omega) (by omega) (by omega)]; omega
  rw [s_M_common hN hu (by omega) (by omega), zbnd_eq]
  simp only [zlt_eq, zchk_t hz, lI_div (a := u) (b := (Int.gcd u d : Int)) (by omega) (by omega) (by omega) (by omega), lI_div (a := d) (b := (Int.gcd u d : Int)) (by omega) (by omega) (by omega) (by omega), tdiv_gcd hd, tdiv_gcd2 hd]
  unfold layS
  generalize u / (Int.gcd u d : Int) = a at hc ⊢
  generalize d / (Int.gcd u d : Int) = b at hc ⊢
  by_cases c1 : a > 1000000000000
  · rw [zif_t (by rw [llit, lcmp_gt (by omega) (by omega) (by omega) (by omega)]; omega), if_pos (Or.inl c1)]; rfl
  · rw [zif_f (by rw [llit, lcmp_gt (by omega) (by omega) (by omega) (by omega)]; omega)]
    by_cases c2 : a < -1000000000000
    · rw [zif_t (by rw [llit, lI_neg, lcmp_lt (by omega) (by omega) (by omega) (by omega)]; omega), if_pos (Or.inr (Or.inl c2))]; rfl
    · rw [zif_f (by rw [llit, lI_neg, lcmp_lt (by omega) (by omega) (by omega) (by omega)]; omega)]
      by_cases c3 : b > 1000000
      · rw [zif_f (by rw [llit, lcmp_le (by omega) (by omega) (by omega) (by omega)]; omega), if_pos (Or.inr (Or.inr c3))]; rfl
      · rw [zif_t (by rw [llit, lcmp_le (by omega) (by omega) (by omega) (by omega)]; omega), if_neg (by omega)]; rfl
/-- what is laid down is a value -/
def isV (v : Int × Int) : Prop := 0 < v.2 ∧ v.2 ≤ 1000000 ∧ -1000000000000 ≤ v.1 ∧ v.1 ≤ 1000000000000 ∧ Int.gcd v.1 v.2 = 1
theorem layS_isV {u d : Int} {v : Int × Int} (hd : 0 < d) (h : layS u d = some v) : isV v := by
  unfold layS at h
  split at h
  · cases h
  · rename_i hc
    cases h
    have hg := gcd_pos' (u := u) hd
    have h2 := Int.ediv_mul_cancel (Int.gcd_dvd_right u d)
    have h3 : 0 ≤ d / (Int.gcd u d : Int) := Int.ediv_nonneg (by omega) (by omega)
    have h4 : 0 < d / (Int.gcd u d : Int) := by
      rcases Int.lt_or_eq_of_le h3 with h | h
      · exact h
      · rw [← h] at h2; omega
    refine ⟨h4, by simp only; omega, by simp only; omega, by simp only; omega, ?_⟩
    exact Int.gcd_ediv_gcd_ediv_gcd (by omega)
