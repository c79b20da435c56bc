/-! an order on a value: both sides do the same -/
def ordS (k x : Int) (v : Int × Int) : Option (Int × Int) :=
  if k = 0 then layS (v.1 + x * v.2) v.2
  else if k = 1 then layS (v.1 - x * v.2) v.2
  else if k = 2 then layS (v.1 * x) v.2
  else if k = 3 then (if x = 0 then none else layS v.1 (v.2 * x))
  else if k = 9 then some v
  else if v.2 = 1 ∧ 0 ≤ v.1 then
    (if k = 4 then (if x = 0 then none else layS (v.1 % x) 1)
     else if k = 5 then layS (v.1 * ((10 ^ figs x.toNat : Nat) : Int) + x) 1
     else if k = 6 then layS ((rv (figs v.1.toNat) 0 v.1.toNat : Nat) : Int) 1
     else if k = 7 then layS ((ac (figs v.1.toNat) 0 v.1.toNat : Nat) : Int) 1
     else if x.toNat ≤ figs v.1.toNat then layS ((wo v.1.toNat x.toNat : Nat) : Int) 1 else none)
  else none
theorem setJ_self {μ : ZMem} {k i x : Nat} {v : Int64} (h : μ.2 k i x = v) : zsetJ μ k i x v = μ := by
  unfold zsetJ
  refine Prod.ext rfl ?_
  funext k' i'
  by_cases q : k' = k ∧ i' = i
  · obtain ⟨rfl, rfl⟩ := q
    simp only [and_self, ite_true]
    funext x'
    unfold vp_updL
    split
    · rename_i e; rw [e, h]
    · rfl
  · simp only [q, ite_false]
theorem setI_self {μ : ZMem} {k i x : Nat} {v : Int32} (h : μ.1 k i x = v) : zsetI μ k i x v = μ := by
  unfold zsetI
  refine Prod.ext ?_ rfl
  funext k' i'
  by_cases q : k' = k ∧ i' = i
  · obtain ⟨rfl, rfl⟩ := q
    simp only [and_self, ite_true]
    funext x'
    unfold upd
    split
    · rename_i e; rw [e, h]
    · rfl
  · simp only [q, ite_false]
theorem setV_self {μ : ZMem} {o : Nat} {v : Int × Int} (h1 : μ.2 7 o 0 = lI v.1) (h2 : μ.2 7 o 1 = lI v.2) : setV μ o v = μ := by
  unfold setV
  rw [setJ_self h1, setJ_self h2]
theorem setM_self {μ : ZMem} {v : Int × Int} (h1 : μ.2 12 0 15 = lI v.1) (h2 : μ.2 12 0 16 = lI v.2) : setM μ v = μ := by
  unfold setM
  rw [setJ_self h1, setJ_self h2]
/-- what a call that lays down answers -/
def ansV (μ : ZMem) (o : Nat) (r : Option (Int × Int)) : Option (Int32 × ZMem) := match r with
  | none => some (0, μ)
  | some v => some (1, setV μ o v)
def ansM (μ : ZMem) (r : Option (Int × Int)) : Option (Int32 × ZMem) := match r with
  | none => some (0, μ)
  | some v => some (1, setM μ v)
theorem ansV_chk {μ : ZMem} {o : Nat} {r : Option (Int × Int)} : zbnd (ansV μ o r) (fun (r7 : Int32) (μ6 : ZMem) => zchk (narrow .boolean (.int r7) = .int r7) (zret r7 μ6)) = ansV μ o r := by
  cases r <;> rfl
theorem ansV_if {μ : ZMem} {o : Nat} {r : Option (Int × Int)} : zbnd (ansV μ o r) (fun (r7 : Int32) (μ6 : ZMem) => zif (r7 = 0) (zret (0 : Int32) μ6) (zret (1 : Int32) μ6)) = ansV μ o r := by
  cases r <;> rfl
theorem ansM_chk {μ : ZMem} {r : Option (Int × Int)} : zbnd (ansM μ r) (fun (r7 : Int32) (μ6 : ZMem) => zchk (narrow .boolean (.int r7) = .int r7) (zret r7 μ6)) = ansM μ r := by
  cases r <;> rfl
theorem ansM_if {μ : ZMem} {r : Option (Int × Int)} : zbnd (ansM μ r) (fun (r7 : Int32) (μ6 : ZMem) => zif (r7 = 0) (zret (0 : Int32) μ6) (zret (1 : Int32) μ6)) = ansM μ r := by
  cases r <;> rfl
theorem put_ans {N : Nat} {μ : ZMem} {o : Nat} {u d : Int} (hN : 100 ≤ N) (hd : 0 < d) (hd2 : d < 1099511627776) (hu : u.natAbs < 4611686018427387904) : f_Value_put N μ o (lI u) (lI d) = ansV μ o (layS u d) := by
  rw [s_Value_put hN hd hd2 hu]; unfold ansV; cases layS u d <;> rfl
theorem lay_ans {N : Nat} {μ : ZMem} {u d : Int} (hN : 130 ≤ N) (hd : 0 < d) (hd2 : d < 1099511627776) (hu : u.natAbs < 4611686018427387904) : f_M_lay N μ (lI u) (lI d) = ansM μ (layS u d) := by
  rw [s_M_lay hN hd hd2 hu]; unfold ansM; cases layS u d <;> rfl
theorem mul_rng {a b A B : Int} (h1 : a.natAbs ≤ A.natAbs) (h2 : b.natAbs ≤ B.natAbs) : (a * b).natAbs ≤ (A * B).natAbs := by
  rw [Int.natAbs_mul, Int.natAbs_mul]
  exact Nat.mul_le_mul h1 h2
theorem s_A_isNumber {N : Nat} {μ : ZMem} {x : Int} (h1 : -2147483648 ≤ x) (h2 : x < 2147483648) : f_A_isNumber N μ (iI x) = some (if 0 ≤ x ∧ x ≤ 9999 then 1 else 0, μ) := by
  unfold f_A_isNumber
  by_cases c1 : x < 0
  · rw [zif_t (by rw [zi0, iI_lt (by omega) (by omega) (by omega) (by omega)]; omega), if_neg (by omega)]; rfl
  · rw [zif_f (by rw [zi0, iI_lt (by omega) (by omega) (by omega) (by omega)]; omega)]
    by_cases c2 : 9999 < x
    · rw [zif_t (by rw [ilit, iI_lt (by omega) (by omega) (by omega) (by omega)]; omega), if_neg (by omega)]; rfl
    · rw [zif_f (by rw [ilit, iI_lt (by omega) (by omega) (by omega) (by omega)]; omega), if_pos (by omega)]; rfl
theorem zlt_gen {α β : Type} {v : α} {k : α → Option β} {r : Option β} (h : ∀ J, J = v → k J = r) : zlt v k = r := h v rfl
theorem s_Value_obey {N : Nat} {μ : ZMem} {o : Nat} {k x : Int} {v : Int × Int} (hN : 130 ≤ N) (hv : isV v) (h1 : μ.2 7 o 0 = lI v.1) (h2 : μ.2 7 o 1 = lI v.2) (hk0 : 0 ≤ k) (hk : k ≤ 9) (hx0 : 0 ≤ x) (hx : x ≤ 9999) (h8 : k = 8 → 1 ≤ x) :
    f_Value_obey N μ o (iI k) (iI x) = ansV μ o (ordS k x v) := by
  obtain ⟨v1, v2⟩ := v
  obtain ⟨g1, g2, g3, g4, g5⟩ := hv
  simp only at g1 g2 g3 g4 g5 h1 h2
  have hm : (x * v2).natAbs ≤ 9999000000 := by have := mul_rng (a := x) (b := v2) (A := 9999) (B := 1000000) (by omega) (by omega); omega
  have hm0 : 0 ≤ x * v2 := Int.mul_nonneg hx0 (by omega)
  have hm3 : (v1 * x).natAbs ≤ 9999000000000000 := by have := mul_rng (a := v1) (b := x) (A := 1000000000000) (B := 9999) (by omega) (by omega); omega
  -- the figures' flag
  unfold f_Value_obey
  refine zlt_gen (fun J hJ => ?_)
  have flag : ∀ (kk : Int32 → ZMem → Option (Int32 × ZMem)), zif (lg_cmp (μ.2 7 o 1) (1 : Int64) = 0) (zif (lg_cmp (μ.2 7 o 0) (0 : Int64) < 0) (kk 0 μ) (kk 1 μ)) (kk 0 μ) = kk (if v2 = 1 ∧ 0 ≤ v1 then 1 else 0) μ := by
    intro kk
    rw [h1, h2]
    by_cases c1 : v2 = 1
    · rw [zif_t (by rw [llit, lcmp_eq (by omega) (by omega) (by omega) (by omega)]; omega)]
      by_cases c2 : v1 < 0
      · rw [zif_t (by rw [llit, lcmp_lt (by omega) (by omega) (by omega) (by omega)]; omega), if_neg (by omega)]
      · rw [zif_f (by rw [llit, lcmp_lt (by omega) (by omega) (by omega) (by omega)]; omega), if_pos (by omega)]
    · rw [zif_f (by rw [llit, lcmp_eq (by omega) (by omega) (by omega) (by omega)]; omega), if_neg (by omega)]
  refine (flag J).trans ?_
  rw [hJ]
  simp only [zlt_eq]
  have kc : k = 0 ∨ k = 1 ∨ k = 2 ∨ k = 3 ∨ k = 4 ∨ k = 5 ∨ k = 6 ∨ k = 7 ∨ k = 8 ∨ k = 9 := by omega
  have e6 : (iI x).toInt64 = lI x := iI_long (by omega) (by omega)
  have hx6 : ¬ x = 0 → ¬ (iI x ≤ 0) := fun q => by rw [zi0, iI_le (by omega) (by omega) (by omega) (by omega)]; omega
  have hx7 : x = 0 → iI x ≤ 0 := fun q => by rw [zi0, iI_le (by omega) (by omega) (by omega) (by omega)]; omega
  rcases kc with rfl | rfl | rfl | rfl | rfl | rfl | rfl | rfl | rfl | rfl
  · rw [zif_t (by decide), h1, h2, e6, lI_mul, lI_add, put_ans (by omega) (by omega) (by omega) (by omega), ansV_chk]; rfl
  · rw [zif_f (by decide), zif_t (by decide), h1, h2, e6, lI_mul, lI_sub, put_ans (by omega) (by omega) (by omega) (by omega), ansV_chk]; rfl
  · rw [zif_f (by decide), zif_f (by decide), zif_t (by decide), h1, h2, e6, lI_mul, put_ans (by omega) (by omega) (by omega) (by omega), ansV_chk]; rfl
  · rw [zif_f (by decide), zif_f (by decide), zif_f (by decide), zif_t (by decide)]
    by_cases q : x = 0
    · rw [zif_t (hx7 q)]; subst q; rfl
    · have : 0 < v2 * x := Int.mul_pos (by omega) (by omega)
      have e9 : v2 * x = x * v2 := Int.mul_comm _ _
      rw [zif_f (hx6 q), h1, h2, e6, lI_mul, put_ans (by omega) (by omega) (by omega) (by omega), ansV_if]
      simp only [ordS, if_neg q]; rfl
  · rw [zif_f (by decide), zif_f (by decide), zif_f (by decide), zif_f (by decide), zif_t (by decide)]
    by_cases c : v2 = 1 ∧ 0 ≤ v1
    · rw [if_pos c, zif_f (by decide)]
      by_cases q : x = 0
      · rw [zif_t (hx7 q)]; simp [ordS, c, q]; rfl
      · have hr := tmod_rng c.2 (show 0 < x by omega)
        rw [zif_f (hx6 q), h1, e6, zchk_t (by rw [zl0, lI_eq (by omega) (by omega) (by omega) (by omega)]; omega), lI_rem (by omega) (by omega) (by omega) (by omega), llit, put_ans (by omega) (by omega) (by omega) (by omega), ansV_if, Int.tmod_eq_emod_of_nonneg c.2]
        simp [ordS, c, q]
    · rw [if_neg c, zif_t (by decide)]; simp [ordS, c]; rfl
  · rw [zif_f (by decide), zif_f (by decide), zif_f (by decide), zif_f (by decide), zif_f (by decide), zif_t (by decide)]
    by_cases c : v2 = 1 ∧ 0 ≤ v1
    · obtain ⟨n, rfl⟩ : ∃ n : Nat, x = n := ⟨x.toNat, by omega⟩
      have hf := figs_rng n
      have hf4 := figs_small (v := n) (j := 3) (by simp; omega)
      have hT : 10 ^ figs n ≤ 10000 := Nat.le_trans (ten_le (show figs n ≤ 4 by omega)) (by decide)
      have hm5 : (v1 * ((10 ^ figs n : Nat) : Int)).natAbs ≤ 10000000000000000 := Nat.le_trans (mul_rng (A := 1000000000000) (B := 10000) (by omega) (by rw [Int.natAbs_natCast]; exact hT)) (by decide)
      rw [if_pos c, zif_f (by decide), s_A_isNumber (by omega) (by omega), zbnd_eq, if_pos (by omega), zif_f (by decide), e6, s_A_figuresOf (by omega) (by omega), zbnd_eq, zchk_t (zin_iI (by omega) (by omega) (by omega)), iI_clamp (by omega) (by omega), Int.toNat_natCast, ztens_lI, h1, lI_mul, lI_add, llit, put_ans (by omega) (by omega) (by omega) (by omega), ansV_if]
      simp [ordS, c]
    · rw [if_neg c, zif_t (by decide)]; simp [ordS, c]; rfl
  · rw [zif_f (by decide), zif_f (by decide), zif_f (by decide), zif_f (by decide), zif_f (by decide), zif_f (by decide), zif_t (by decide)]
    by_cases c : v2 = 1 ∧ 0 ≤ v1
    · obtain ⟨n, rfl⟩ : ∃ n : Nat, v1 = n := ⟨v1.toNat, by omega⟩
      have hb := rv_lt (figs n) 0 0 n (by simp)
      have hf := figs_rng n
      have hT := ten_le (show 0 + figs n ≤ 14 by omega)
      rw [ten14] at hT
      rw [if_pos c, zif_f (by decide), s_Value_turned (by omega) (by omega) h1, zbnd_eq, llit, put_ans (by omega) (by omega) (by omega) (by omega), ansV_if]
      simp [ordS, c]
    · rw [if_neg c, zif_t (by decide)]; simp [ordS, c]; rfl
  · rw [zif_f (by decide), zif_f (by decide), zif_f (by decide), zif_f (by decide), zif_f (by decide), zif_f (by decide), zif_f (by decide), zif_t (by decide)]
    by_cases c : v2 = 1 ∧ 0 ≤ v1
    · obtain ⟨n, rfl⟩ : ∃ n : Nat, v1 = n := ⟨v1.toNat, by omega⟩
      have hb := ac_le (figs n) 0 n
      have hf := figs_rng n
      rw [if_pos c, zif_f (by decide), s_Value_across (by omega) (by omega) h1, zbnd_eq, llit, put_ans (by omega) (by omega) (by omega) (by omega), ansV_if]
      simp [ordS, c]
    · rw [if_neg c, zif_t (by decide)]; simp [ordS, c]; rfl
  · rw [zif_f (by decide), zif_f (by decide), zif_f (by decide), zif_f (by decide), zif_f (by decide), zif_f (by decide), zif_f (by decide), zif_f (by decide), zif_t (by decide)]
    have hx1 := h8 rfl
    by_cases c : v2 = 1 ∧ 0 ≤ v1
    · obtain ⟨n, rfl⟩ : ∃ n : Nat, v1 = n := ⟨v1.toNat, by omega⟩
      obtain ⟨m, rfl⟩ : ∃ n : Nat, x = n := ⟨x.toNat, by omega⟩
      have hf := figs_rng n
      rw [if_pos c, zif_f (by decide), zif_f (hx6 (by omega)), h1, s_A_figuresOf (by omega) (by omega), zbnd_eq]
      by_cases q : figs n < m
      · rw [zif_t (by rw [iI_lt (by omega) (by omega) (by omega) (by omega)]; omega)]
        simp [ordS, c, show ¬ m ≤ figs n by omega]; rfl
      · have hw := wo_le (v := n) (x := m)
        rw [zif_f (by rw [iI_lt (by omega) (by omega) (by omega) (by omega)]; omega), s_Value_without (by omega) (by omega) h1 (by omega) (by omega), zbnd_eq, llit, put_ans (by omega) (by omega) (by omega) (by omega), ansV_if]
        simp [ordS, c, show m ≤ figs n by omega]
    · rw [if_neg c, zif_t (by decide)]; simp [ordS, c]; rfl
  · rw [zif_f (by decide), zif_f (by decide), zif_f (by decide), zif_f (by decide), zif_f (by decide), zif_f (by decide), zif_f (by decide), zif_f (by decide), zif_f (by decide), zif_t (by decide)]
    have : setV μ o (v1, v2) = μ := setV_self h1 h2
    simp [ordS, ansV, this]; rfl

theorem s_M_figures {N : Nat} {μ : ZMem} {k x : Int} {v : Int × Int} (hN : 130 ≤ N) (hv : isV v) (h1 : μ.2 12 0 15 = lI v.1) (h2 : μ.2 12 0 16 = lI v.2) (hk0 : 4 ≤ k) (hk : k ≤ 8) (hx0 : 0 ≤ x) (hx : x ≤ 9999) (h8 : k = 8 → 1 ≤ x) :
    f_M_figures N μ (iI k) (lI x) = ansM μ (ordS k x v) := by
  obtain ⟨v1, v2⟩ := v
  obtain ⟨g1, g2, g3, g4, g5⟩ := hv
  simp only at g1 g2 g3 g4 g5 h1 h2
  unfold f_M_figures
  have kc : k = 4 ∨ k = 5 ∨ k = 6 ∨ k = 7 ∨ k = 8 := by omega
  by_cases c : v2 = 1 ∧ 0 ≤ v1
  · obtain ⟨n, rfl⟩ : ∃ n : Nat, v1 = n := ⟨v1.toNat, by omega⟩
    obtain ⟨m, rfl⟩ : ∃ n : Nat, x = n := ⟨x.toNat, by omega⟩
    rw [h1, h2, zif_t (by rw [llit, lcmp_eq (by omega) (by omega) (by omega) (by omega)]; omega), zif_t (by rw [llit, lcmp_ge (by omega) (by omega) (by omega) (by omega)]; omega)]
    rcases kc with rfl | rfl | rfl | rfl | rfl
    · rw [zif_t (by decide)]
      by_cases q : m = 0
      · subst q
        rw [zif_t (by decide)]; simp [ordS, c]; rfl
      · have hr := tmod_rng c.2 (show (0 : Int) < m by omega)
        rw [zif_f (by rw [llit, lcmp_le (by omega) (by omega) (by omega) (by omega)]; omega), zchk_t (by rw [zl0, lI_eq (by omega) (by omega) (by omega) (by omega)]; omega), lI_rem (by omega) (by omega) (by omega) (by omega), llit, lay_ans (by omega) (by omega) (by omega) (by omega), ansM_if, Int.tmod_eq_emod_of_nonneg c.2]
        simp [ordS, c, q]
    · have hf := figs_rng m
      have hf4 := figs_small (v := m) (j := 3) (by simp; omega)
      have hT : 10 ^ figs m ≤ 10000 := Nat.le_trans (ten_le (show figs m ≤ 4 by omega)) (by decide)
      have hm5 : ((n : Int) * ((10 ^ figs m : Nat) : Int)).natAbs ≤ 10000000000000000 := Nat.le_trans (mul_rng (A := 1000000000000) (B := 10000) (by omega) (by rw [Int.natAbs_natCast]; exact hT)) (by decide)
      rw [zif_f (by decide), zif_t (by decide), s_M_figuresOf (by omega) (by omega), zbnd_eq, s_M_tenTo (by omega) (by omega), zbnd_eq, lI_mul, lI_add, llit, lay_ans (by omega) (by omega) (by omega) (by omega), ansM_chk]
      simp [ordS, c]
    · have hb := rv_lt (figs n) 0 0 n (by simp)
      have hf := figs_rng n
      have hT := ten_le (show 0 + figs n ≤ 14 by omega)
      rw [ten14] at hT
      rw [zif_f (by decide), zif_f (by decide), zif_t (by decide), s_M_turned (by omega) (by omega), zbnd_eq, llit, lay_ans (by omega) (by omega) (by omega) (by omega), ansM_chk]
      simp [ordS, c]
    · have hb := ac_le (figs n) 0 n
      have hf := figs_rng n
      rw [zif_f (by decide), zif_f (by decide), zif_f (by decide), zif_t (by decide), s_M_across (by omega) (by omega), zbnd_eq, llit, lay_ans (by omega) (by omega) (by omega) (by omega), ansM_chk]
      simp [ordS, c]
    · have hx1 := h8 rfl
      have hf := figs_rng n
      rw [zif_f (by decide), zif_f (by decide), zif_f (by decide), zif_f (by decide), s_M_figuresOf (by omega) (by omega), zbnd_eq, zlt_eq, iI_long (by omega) (by omega)]
      by_cases q : figs n < m
      · rw [zif_f (by rw [lcmp_le (by omega) (by omega) (by omega) (by omega)]; omega)]
        simp [ordS, c, show ¬ m ≤ figs n by omega]; rfl
      · have hw := wo_le (v := n) (x := m)
        have hT := ten_pos (figs n - m)
        have hT2 := ten_le (show figs n - m ≤ 14 by omega)
        rw [ten14] at hT2
        rw [zif_t (by rw [lcmp_le (by omega) (by omega) (by omega) (by omega)]; omega), lI_int, iI_sub, show (figs n : Int) - (m : Int) = ((figs n - m : Nat) : Int) by omega, s_M_tenTo (by omega) (by omega), zbnd_eq, zlt_eq]
        have hwo : wo n m = n / (10 * 10 ^ (figs n - m)) * 10 ^ (figs n - m) + n % 10 ^ (figs n - m) := rfl
        have hres : ordS 8 (m : Int) ((n : Int), v2) = layS ((wo n m : Nat) : Int) 1 := by simp [ordS, c, show m ≤ figs n by omega]
        rw [hres]
        rw [hwo] at hw ⊢
        generalize 10 ^ (figs n - m) = T at hT hT2 hw ⊢
        have hz : ¬ lI (T : Int) = 0 := by rw [zl0, lI_eq (by omega) (by omega) (by omega) (by omega)]; omega
        have hz2 : ¬ (10 : Int64) * lI (T : Int) = 0 := by rw [llit, lI_mul, zl0, lI_eq (by omega) (by omega) (by omega) (by omega)]; omega
        rw [zchk_t hz2, zchk_t hz, h1, llit, lI_mul]
        have e1 : (n : Int).tdiv (10 * (T : Int)) = ((n / (10 * T) : Nat) : Int) := by rw [Int.tdiv_eq_ediv_of_nonneg (by omega)]; rfl
        have e2 : (n : Int).tmod (T : Int) = ((n % T : Nat) : Int) := by rw [Int.tmod_eq_emod_of_nonneg (by omega)]; rfl
        rw [lI_div (by omega) (by omega) (by omega) (by omega), lI_rem (by omega) (by omega) (by omega) (by omega), e1, e2, lI_mul, lI_add, llit]
        have e3 : (((n / (10 * T) : Nat) : Int) * (T : Int) + ((n % T : Nat) : Int)) = ((n / (10 * T) * T + n % T : Nat) : Int) := by simp
        rw [e3, lay_ans (by omega) (by omega) (by omega) (by omega), ansM_chk]
  · have ho : ordS k x (v1, v2) = none := by
      unfold ordS
      rw [if_neg (by omega), if_neg (by omega), if_neg (by omega), if_neg (by omega), if_neg (by omega), if_neg c]
    rw [ho, h1, h2]
    by_cases c1 : v2 = 1
    · rw [zif_t (by rw [llit, lcmp_eq (by omega) (by omega) (by omega) (by omega)]; omega), zif_f (by rw [llit, lcmp_ge (by omega) (by omega) (by omega) (by omega)]; omega)]; rfl
    · rw [zif_f (by rw [llit, lcmp_eq (by omega) (by omega) (by omega) (by omega)]; omega)]; rfl
/-- what is meant by an x: a number, or what was thought of a letter -/
def amt (x : Int) (th : Nat → Int) : Int := if x < 10000 then x else th (x - 10000).toNat
def okX (x : Int) : Prop := 0 ≤ x ∧ x < 10004
def okT (th : Nat → Int) : Prop := ∀ j, j < 4 → 0 ≤ th j ∧ th j ≤ 9999
theorem amt_rng {x : Int} {th : Nat → Int} (hx : okX x) (ht : okT th) : 0 ≤ amt x th ∧ amt x th ≤ 9999 := by
  unfold amt
  unfold okX at hx
  split
  · omega
  · exact ht _ (by omega)
theorem s_M_does {N : Nat} {μ : ZMem} {k x : Int} {v : Int × Int} {th : Nat → Int} (hN : 130 ≤ N) (hv : isV v) (h1 : μ.2 12 0 15 = lI v.1) (h2 : μ.2 12 0 16 = lI v.2) (hth : ∀ j, j < 4 → μ.1 44 0 j = iI (th j)) (ht : okT th) (hk0 : 0 ≤ k) (hk : k ≤ 9) (hx : okX x) (h8 : k = 8 → 1 ≤ amt x th) :
    f_M_does N μ (iI k) (iI x) = ansM μ (ordS k (amt x th) v) := by
  have ha := amt_rng hx ht
  unfold okX at hx
  unfold f_M_does
  refine zlt_gen (fun J hJ => ?_)
  have flag : zif ((10000 : Int32) ≤ iI x) (zchk (zin (iI x - (10000 : Int32)) (zlen 44 0)) (J ((μ.1 44 0 (iI x - (10000 : Int32)).toNatClampNeg).toInt64) μ)) (J (iI x).toInt64 μ) = J (lI (amt x th)) μ := by
    by_cases c : x < 10000
    · rw [zif_f (by rw [ilit, iI_le (by omega) (by omega) (by omega) (by omega)]; omega), iI_long (by omega) (by omega)]
      unfold amt
      rw [if_pos c]
    · rw [zif_t (by rw [ilit, iI_le (by omega) (by omega) (by omega) (by omega)]; omega), ilit, iI_sub, zchk_t (zin_iI (by omega) (show x - 10000 < ((zlen 44 0 : Nat) : Int) by show x - 10000 < ((4 : Nat) : Int); omega) (by decide)), iI_clamp (by omega) (by omega), hth _ (by omega), iI_long (by have := ht (x - 10000).toNat (by omega); omega) (by have := ht (x - 10000).toNat (by omega); omega)]
      unfold amt
      rw [if_neg c]
  refine flag.trans ?_
  rw [hJ]
  generalize amt x th = y at *
  obtain ⟨v1, v2⟩ := v
  have hv' := hv
  obtain ⟨g1, g2, g3, g4, g5⟩ := hv
  simp only at g1 g2 g3 g4 g5 h1 h2
  have hm : (y * v2).natAbs ≤ 9999000000 := by have := mul_rng (a := y) (b := v2) (A := 9999) (B := 1000000) (by omega) (by omega); omega
  have hm0 : 0 ≤ y * v2 := Int.mul_nonneg (by omega) (by omega)
  have hm3 : (v1 * y).natAbs ≤ 9999000000000000 := by have := mul_rng (a := v1) (b := y) (A := 1000000000000) (B := 9999) (by omega) (by omega); omega
  simp only [zlt_eq]
  have fg : 4 ≤ k → k ≤ 8 → zbnd (f_M_figures N μ (iI k) (lI y)) (fun (r8 : Int32) (μ7 : ZMem) => zchk (narrow .boolean (.int r8) = .int r8) (zret r8 μ7)) = ansM μ (ordS k y (v1, v2)) := fun a b => by
    rw [s_M_figures hN hv' h1 h2 a b ha.1 ha.2 h8, ansM_chk]
  have kc : k = 0 ∨ k = 1 ∨ k = 2 ∨ k = 3 ∨ k = 4 ∨ k = 5 ∨ k = 6 ∨ k = 7 ∨ k = 8 ∨ k = 9 := by omega
  rcases kc with rfl | rfl | rfl | rfl | rfl | rfl | rfl | rfl | rfl | rfl
  · rw [zif_t (by decide), h1, h2, lI_mul, lI_add, lay_ans (by omega) (by omega) (by omega) (by omega), ansM_chk]; rfl
  · rw [zif_f (by decide), zif_t (by decide), h1, h2, lI_mul, lI_sub, lay_ans (by omega) (by omega) (by omega) (by omega), ansM_chk]; rfl
  · rw [zif_f (by decide), zif_f (by decide), zif_t (by decide), h1, h2, lI_mul, lay_ans (by omega) (by omega) (by omega) (by omega), ansM_chk]; rfl
  · rw [zif_f (by decide), zif_f (by decide), zif_f (by decide), zif_t (by decide)]
    by_cases q : y = 0
    · rw [zif_t (by rw [llit, lcmp_eq (by omega) (by omega) (by omega) (by omega)]; omega)]; subst q; rfl
    · have : 0 < v2 * y := Int.mul_pos (by omega) (by omega)
      have e9 : v2 * y = y * v2 := Int.mul_comm _ _
      rw [zif_f (by rw [llit, lcmp_eq (by omega) (by omega) (by omega) (by omega)]; omega), h1, h2, lI_mul, lay_ans (by omega) (by omega) (by omega) (by omega), ansM_if]
      simp only [ordS, if_neg q]; rfl
  · rw [zif_f (by decide), zif_f (by decide), zif_f (by decide), zif_f (by decide), zif_t (by decide)]; exact fg (by omega) (by omega)
  · rw [zif_f (by decide), zif_f (by decide), zif_f (by decide), zif_f (by decide), zif_f (by decide), zif_t (by decide)]; exact fg (by omega) (by omega)
  · rw [zif_f (by decide), zif_f (by decide), zif_f (by decide), zif_f (by decide), zif_f (by decide), zif_f (by decide), zif_t (by decide)]; exact fg (by omega) (by omega)
  · rw [zif_f (by decide), zif_f (by decide), zif_f (by decide), zif_f (by decide), zif_f (by decide), zif_f (by decide), zif_f (by decide), zif_t (by decide)]; exact fg (by omega) (by omega)
  · rw [zif_f (by decide), zif_f (by decide), zif_f (by decide), zif_f (by decide), zif_f (by decide), zif_f (by decide), zif_f (by decide), zif_f (by decide), zif_t (by decide)]; exact fg (by omega) (by omega)
  · rw [zif_f (by decide), zif_f (by decide), zif_f (by decide), zif_f (by decide), zif_f (by decide), zif_f (by decide), zif_f (by decide), zif_f (by decide), zif_f (by decide), zif_t (by decide)]
    have : setM μ (v1, v2) = μ := setM_self h1 h2
    simp [ordS, ansM, this]; rfl
/-- a value stays one -/
theorem ordS_isV {k x : Int} {v w : Int × Int} (hv : isV v) (hx : 0 ≤ x) (h : ordS k x v = some w) : isV w := by
  have hd := hv.1
  unfold ordS at h
  repeat' split at h
  all_goals first
    | exact layS_isV hd h
    | exact layS_isV (by omega) h
    | (cases h; exact hv)
    | cases h
    | (rename_i q; exact layS_isV (Int.mul_pos hd (by omega)) h)
