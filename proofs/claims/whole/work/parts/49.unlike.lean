/-! the reference: rows alike -/
def vd (T : Tb) (j m : Nat) : Int × Int := match vv T (j + 1) m with
  | none => (0, 1)
  | some v => v
/-- m and m' say the same from j on, and stand alike at p -/
def ak (T : Tb) (m m' p : Nat) : Nat → Nat → Bool
  | 0, _ => true
  | f + 1, j => if j = p ∨ T.2.1 j = 9 then (decide (vd T j m = vd T j m') && ak T m m' p f (j + 1)) else ak T m m' p f (j + 1)
theorem alike_l {N : Nat} {ν : ZMem} {t m m' r r' : Nat} {p : Nat} {T : Tb} (htl : t < 4) (hM : TabM ν t T) (hO : TabOk T) (hr : r < 500) (hr' : r' < 500) (hp : p < T.1) (h1 : rwR ν T r m T.1) (h2 : rwR ν T r' m' T.1) : ∀ (f j fuel : Nat), j + f = T.1 → f < fuel → f_M_isAlike_l3 N (iI t) (iI r) (iI r') (iI p) fuel (iI j) ν = some (bI (ak T m m' p f j), ν)
  | 0, j, fuel, q1, q2 => by
    obtain ⟨q, rfl⟩ : ∃ q, fuel = q + 1 := ⟨fuel - 1, by omega⟩
    have hnn := hO.1
    simp only [f_M_isAlike_l3]
    rw [s_M_ordersOf htl hM, zbnd_eq, zif_t (by rw [iI_le (by omega) (by omega) (by omega) (by omega)]; omega)]; rfl
  | f + 1, j, fuel, q1, q2 => by
    obtain ⟨q, rfl⟩ : ∃ q, fuel = q + 1 := ⟨fuel - 1, by omega⟩
    have e : iI (j : Int) + (1 : Int32) = iI ((j + 1 : Nat) : Int) := by rw [ilit, iI_add]; congr 1
    have hnn := hO.1
    have hi' := hO.2.1 j (by omega)
    have ex : (24 : Int32) * iI (r : Int) + iI (j : Int) = iI ((24 * r + j : Nat) : Int) := by rw [ilit, iI_mul, iI_add]; congr 1
    have ex' : (24 : Int32) * iI (r' : Int) + iI (j : Int) = iI ((24 * r' + j : Nat) : Int) := by rw [ilit, iI_mul, iI_add]; congr 1
    have z7 : zin (iI ((24 * r + j : Nat) : Int)) (zlen 47 0) := zin_k 12000 rfl (by omega) (by omega) (by omega)
    have z8 : zin (iI ((24 * r + j : Nat) : Int)) (zlen 48 0) := zin_k 12000 rfl (by omega) (by omega) (by omega)
    have z7' : zin (iI ((24 * r' + j : Nat) : Int)) (zlen 47 0) := zin_k 12000 rfl (by omega) (by omega) (by omega)
    have z8' : zin (iI ((24 * r' + j : Nat) : Int)) (zlen 48 0) := zin_k 12000 rfl (by omega) (by omega) (by omega)
    obtain ⟨v, v1, ⟨a1, a2, a3, a4, -⟩, v3, v4⟩ := h1 j (by omega)
    obtain ⟨w, w1, ⟨b1, b2, b3, b4, -⟩, w3, w4⟩ := h2 j (by omega)
    have dv : vd T j m = v := by unfold vd; rw [v1]
    have dw : vd T j m' = w := by unfold vd; rw [w1]
    have hrec := alike_l (N := N) htl hM hO hr hr' hp h1 h2 f (j + 1) q (by omega) (by omega)
    simp only [f_M_isAlike_l3]
    rw [s_M_ordersOf htl hM, zbnd_eq, zif_f (by rw [iI_le (by omega) (by omega) (by omega) (by omega)]; omega)]
    simp only [zlt_eq, ex, ex', zchk_t z7, zchk_t z8, zchk_t z7', zchk_t z8', cl_nat (show 24 * r + j < 2147483648 by omega), cl_nat (show 24 * r' + j < 2147483648 by omega), v3, v4, w3, w4, e, hrec, s_M_kindOf htl hM (show j < T.1 by omega) hnn, zbnd_eq]
    rw [show ak T m m' p (f + 1) j = (if j = p ∨ T.2.1 j = 9 then (decide (vd T j m = vd T j m') && ak T m m' p f (j + 1)) else ak T m m' p f (j + 1)) from rfl, dv, dw]
    have hcmp : zif (lg_cmp (lI v.1) (lI w.1) = 0) (zif (lg_cmp (lI v.2) (lI w.2) = 0) (some (bI (ak T m m' p f (j + 1)), ν)) (zret (0 : Int32) ν)) (zret (0 : Int32) ν) = some (bI (decide (v = w) && ak T m m' p f (j + 1)), ν) := by
      by_cases d1 : v.1 = w.1
      · rw [zif_t (by rw [lcmp_eq (by omega) (by omega) (by omega) (by omega)]; exact d1)]
        by_cases d2 : v.2 = w.2
        · rw [zif_t (by rw [lcmp_eq (by omega) (by omega) (by omega) (by omega)]; exact d2), decide_eq_true (Prod.ext d1 d2), Bool.true_and]
        · rw [zif_f (by rw [lcmp_eq (by omega) (by omega) (by omega) (by omega)]; exact d2), decide_eq_false (fun q => d2 (by rw [q])), Bool.false_and]; rfl
      · rw [zif_f (by rw [lcmp_eq (by omega) (by omega) (by omega) (by omega)]; exact d1), decide_eq_false (fun q => d1 (by rw [q])), Bool.false_and]; rfl
    by_cases c : j = p
    · rw [zif_t (by rw [c]), if_pos (Or.inl c)]
      exact hcmp
    · rw [zif_f (by rw [iI_eq (by omega) (by omega) (by omega) (by omega)]; omega)]
      by_cases k9 : T.2.1 j = 9
      · rw [zif_t (by rw [k9]; rfl), if_pos (Or.inr k9)]
        exact hcmp
      · rw [zif_f (by rw [ilit, iI_eq (by omega) (by omega) (by omega) (by omega)]; exact k9), if_neg (fun q => by rcases q with q | q; exact c q; exact k9 q)]
theorem s_isAlike {N : Nat} {ν : ZMem} {t m m' r r' : Nat} {p : Nat} {T : Tb} (hN : 2000 ≤ N) (htl : t < 4) (hM : TabM ν t T) (hO : TabOk T) (hr : r < 500) (hr' : r' < 500) (hp : p < T.1) (h1 : rwR ν T r m T.1) (h2 : rwR ν T r' m' T.1) : f_M_isAlike N ν (iI t) (iI r) (iI r') (iI p) = some (bI (ak T m m' p T.1 0), ν) := by
  have := hO.1
  unfold f_M_isAlike
  rw [zlt_eq]
  exact alike_l htl hM hO hr hr' hp h1 h2 T.1 0 N (by omega) (by omega)
def hS (T : Tb) (m p : Nat) : Nat → Nat → Int → Int
  | 0, _, z => z
  | f + 1, j, z => hS T m p f (j + 1) (if j = p ∨ T.2.1 j = 9 then (31 * z + (vd T j m).1 * 7 + (vd T j m).2).tmod 1000003 else z)
theorem hS_ak {T : Tb} {m m' p : Nat} : ∀ (f j : Nat) (z : Int), ak T m m' p f j = true → hS T m p f j z = hS T m' p f j z
  | 0, j, z, h => rfl
  | f + 1, j, z, h => by
    unfold ak at h
    unfold hS
    by_cases c : j = p ∨ T.2.1 j = 9
    · rw [if_pos c, Bool.and_eq_true, decide_eq_true_eq] at h
      rw [if_pos c, if_pos c, h.1]
      exact hS_ak f (j + 1) _ h.2
    · rw [if_neg c] at h
      rw [if_neg c, if_neg c]
      exact hS_ak f (j + 1) _ h
theorem tmod_rn3 {a b : Int} (hb : 0 < b) : -b < a.tmod b ∧ a.tmod b < b := by
  by_cases c : 0 ≤ a
  · rw [Int.tmod_eq_emod_of_nonneg c]
    have := Int.emod_nonneg a (show b ≠ 0 by omega)
    have := Int.emod_lt_of_pos a hb
    omega
  · have e : a.tmod b = -((-a).tmod b) := by rw [Int.neg_tmod, Int.neg_neg]
    rw [e, Int.tmod_eq_emod_of_nonneg (by omega)]
    have := Int.emod_nonneg (-a) (show b ≠ 0 by omega)
    have := Int.emod_lt_of_pos (-a) hb
    omega
theorem sum_l {N : Nat} {ν : ZMem} {t m r : Nat} {p : Nat} {T : Tb} {kx : Int64 → ZMem → Option (Int32 × ZMem)} (htl : t < 4) (hM : TabM ν t T) (hO : TabOk T) (hr : r < 500) (hp : p < T.1) (h1 : rwR ν T r m T.1) : ∀ (f j fuel : Nat) (z : Int), j + f = T.1 → f < fuel → -1000003 < z → z < 1000003 → f_M_sumOf_l6 N (iI t) (iI r) (iI p) kx fuel (lI z) (iI j) ν = kx (lI (hS T m p f j z)) ν ∧ -1000003 < hS T m p f j z ∧ hS T m p f j z < 1000003
  | 0, j, fuel, z, q1, q2, z1, z2 => by
    obtain ⟨q, rfl⟩ : ∃ q, fuel = q + 1 := ⟨fuel - 1, by omega⟩
    have hnn := hO.1
    refine ⟨?_, z1, z2⟩
    simp only [f_M_sumOf_l6]
    rw [s_M_ordersOf htl hM, zbnd_eq, zif_t (by rw [iI_le (by omega) (by omega) (by omega) (by omega)]; omega)]; rfl
  | f + 1, j, fuel, z, q1, q2, z1, z2 => by
    obtain ⟨q, rfl⟩ : ∃ q, fuel = q + 1 := ⟨fuel - 1, by omega⟩
    have e : iI (j : Int) + (1 : Int32) = iI ((j + 1 : Nat) : Int) := by rw [ilit, iI_add]; congr 1
    have hnn := hO.1
    have hi' := hO.2.1 j (by omega)
    have ex : (24 : Int32) * iI (r : Int) + iI (j : Int) = iI ((24 * r + j : Nat) : Int) := by rw [ilit, iI_mul, iI_add]; congr 1
    have z7 : zin (iI ((24 * r + j : Nat) : Int)) (zlen 47 0) := zin_k 12000 rfl (by omega) (by omega) (by omega)
    have z8 : zin (iI ((24 * r + j : Nat) : Int)) (zlen 48 0) := zin_k 12000 rfl (by omega) (by omega) (by omega)
    obtain ⟨v, v1, ⟨a1, a2, a3, a4, -⟩, v3, v4⟩ := h1 j (by omega)
    have dv : vd T j m = v := by unfold vd; rw [v1]
    have hrem : zremJ ((((31 : Int64) * lI z) + (lI v.1 * (7 : Int64))) + lI v.2) (1000003 : Int64) = lI ((31 * z + v.1 * 7 + v.2).tmod 1000003) := by
      have e31 : (31 : Int64) * lI z = lI (31 * z) := by rw [llit, lI_mul]
      have e7 : lI v.1 * (7 : Int64) = lI (v.1 * 7) := by rw [llit, lI_mul]
      rw [e31, e7, lI_add, lI_add, llit, lI_rem (by omega) (by omega) (by omega) (by omega)]
    have ht := tmod_rn3 (a := 31 * z + v.1 * 7 + v.2) (b := 1000003) (by omega)
    obtain ⟨x1, x2⟩ := sum_l (N := N) (kx := kx) htl hM hO hr hp h1 f (j + 1) q ((31 * z + v.1 * 7 + v.2).tmod 1000003) (by omega) (by omega) ht.1 ht.2
    obtain ⟨y1, y2⟩ := sum_l (N := N) (kx := kx) htl hM hO hr hp h1 f (j + 1) q z (by omega) (by omega) z1 z2
    simp only [f_M_sumOf_l6]
    rw [s_M_ordersOf htl hM, zbnd_eq, zif_f (by rw [iI_le (by omega) (by omega) (by omega) (by omega)]; omega)]
    simp only [zlt_eq, ex, zchk_t z7, zchk_t z8, cl_nat (show 24 * r + j < 2147483648 by omega), v3, v4, e, s_M_kindOf htl hM (show j < T.1 by omega) hnn, zbnd_eq, hrem, zchk_t (show ¬ (1000003 : Int64) = 0 by decide)]
    unfold hS
    rw [dv]
    by_cases c : j = p
    · rw [zif_t (by rw [c]), if_pos (Or.inl c)]
      exact ⟨x1, x2⟩
    · rw [zif_f (by rw [iI_eq (by omega) (by omega) (by omega) (by omega)]; omega)]
      by_cases k9 : T.2.1 j = 9
      · rw [zif_t (by rw [k9]; rfl), if_pos (Or.inr k9)]
        exact ⟨x1, x2⟩
      · rw [zif_f (by rw [ilit, iI_eq (by omega) (by omega) (by omega) (by omega)]; exact k9), if_neg (fun q => by rcases q with q | q; exact c q; exact k9 q)]
        exact ⟨y1, y2⟩
def hh (T : Tb) (m p : Nat) : Nat := ((hS T m p T.1 0 0 + 1000003) % 1024).toNat
theorem hh_ak {T : Tb} {m m' p : Nat} (h : ak T m m' p T.1 0 = true) : hh T m p = hh T m' p := by unfold hh; rw [hS_ak T.1 0 0 h]
theorem s_sumOf {N : Nat} {ν : ZMem} {t m r : Nat} {p : Nat} {T : Tb} (hN : 2000 ≤ N) (htl : t < 4) (hM : TabM ν t T) (hO : TabOk T) (hr : r < 500) (hp : p < T.1) (h1 : rwR ν T r m T.1) : hh T m p < 1024 ∧ f_M_sumOf N ν (iI t) (iI r) (iI p) = some (iI ((hh T m p : Nat) : Int), ν) := by
  have := hO.1
  obtain ⟨x1, x2, x3⟩ := sum_l (N := N) (kx := fun (x17 : Int64) (μ18 : ZMem) => zchk (¬ (1024 : Int64) = 0) (zret ((zremJ (x17 + (1000003 : Int64)) (1024 : Int64)).toInt32) μ18)) htl hM hO hr hp h1 T.1 0 N 0 (by omega) (by omega) (by omega) (by omega)
  have hm := Int.emod_nonneg (hS T m p T.1 0 0 + 1000003) (show (1024 : Int) ≠ 0 by omega)
  have hm2 := Int.emod_lt_of_pos (hS T m p T.1 0 0 + 1000003) (show (0 : Int) < 1024 by omega)
  refine ⟨by unfold hh; omega, ?_⟩
  have x1' : f_M_sumOf_l6 N (iI (t : Int)) (iI (r : Int)) (iI (p : Int)) (fun (x17 : Int64) (μ18 : ZMem) => zchk (¬ (1024 : Int64) = 0) (zret ((zremJ (x17 + (1000003 : Int64)) (1024 : Int64)).toInt32) μ18)) N 0 0 ν = _ := x1
  unfold f_M_sumOf
  rw [zlt_eq, zlt_eq, x1']
  have e1 : lI (hS T m p T.1 0 0) + (1000003 : Int64) = lI (hS T m p T.1 0 0 + 1000003) := by rw [llit, lI_add]
  have e2 : zremJ (lI (hS T m p T.1 0 0 + 1000003)) (1024 : Int64) = lI ((hS T m p T.1 0 0 + 1000003) % 1024) := by
    rw [llit, lI_rem (by omega) (by omega) (by omega) (by omega), Int.tmod_eq_emod_of_nonneg (by omega)]
  rw [e1, e2, zchk_t (by decide), lI_int]
  unfold hh
  rw [show (((hS T m p T.1 0 0 + 1000003) % 1024).toNat : Int) = (hS T m p T.1 0 0 + 1000003) % 1024 by omega]; rfl
