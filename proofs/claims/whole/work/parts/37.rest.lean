/-! the long number on the tape -/
def mkS (z : Nat → Int) : Nat → Nat → Int → Int
  | 0, _, c => c
  | f + 1, i, c => if z i = 63 then mkS z f (i + 1) (c + 1) else if 48 ≤ z i ∧ z i ≤ 57 then mkS z f (i + 1) c else -1
def rsS (z : Nat → Int) (m g : Int) : Nat → Nat → Int → Int
  | 0, _, r => r
  | f + 1, i, r => rsS z m g f (i + 1) ((r * 10 + (if z i = 63 then g else z i - 48)).tmod m)
def sgn (z : Int) : Int := if z < 128 then z else z - 256
def tpR (μ : ZMem) (n : Nat) (z : Nat → Int) : Prop := n ≤ 300 ∧ μ.1 1 0 1 = iI n ∧ μ.1 12 0 6 = iI n ∧ ∀ j, j < n → 0 ≤ z j ∧ z j < 256 ∧ μ.1 43 0 j = iI (z j) ∧ μ.1 20 0 j = iI (sgn (z j))
theorem tape_ex {μ : ZMem} (h : tapeR μ) : ∃ n z, tpR μ n z := by
  obtain ⟨t1, t2, t3, t4⟩ := h
  obtain ⟨n, n1, n2, n3⟩ := nat_ex t2 t3
  refine ⟨n, fun j => (μ.1 43 0 j).toInt, by omega, n2, by rw [← t1]; exact n2, fun j hj => ?_⟩
  obtain ⟨z, z1, z2, z3, z4⟩ := t4 j (by omega)
  have e : (μ.1 43 0 j).toInt = z := by rw [z3, iI_toInt (by omega) (by omega)]
  simp only [e]
  exact ⟨z1, z2, z3, z4⟩
theorem mk_lt {z : Nat → Int} : ∀ (f i : Nat) (c : Int), 0 ≤ c → -1 ≤ mkS z f i c ∧ mkS z f i c ≤ c + f ∧ (mkS z f i c ≠ -1 → ∀ j, i ≤ j → j < i + f → z j = 63 ∨ (48 ≤ z j ∧ z j ≤ 57))
  | 0, i, c, h => ⟨by unfold mkS; omega, by unfold mkS; omega, fun _ j _ _ => by omega⟩
  | f + 1, i, c, h => by
    unfold mkS
    by_cases c1 : z i = 63
    · rw [if_pos c1]
      have := mk_lt (z := z) f (i + 1) (c + 1) (by omega)
      refine ⟨this.1, by omega, fun q j h1 h2 => ?_⟩
      by_cases e : j = i
      · rw [e]; exact Or.inl c1
      · exact this.2.2 q j (by omega) (by omega)
    · rw [if_neg c1]
      by_cases c2 : 48 ≤ z i ∧ z i ≤ 57
      · rw [if_pos c2]
        have := mk_lt (z := z) f (i + 1) c h
        refine ⟨this.1, by omega, fun q j h1 h2 => ?_⟩
        by_cases e : j = i
        · rw [e]; exact Or.inr c2
        · exact this.2.2 q j (by omega) (by omega)
      · rw [if_neg c2]
        exact ⟨by omega, by omega, fun q => absurd rfl q⟩
def mkR (n : Nat) (c : Int) : Int := if n = 0 then -1 else if c ≤ 1 then c else -1
theorem marks_a {N : Nat} {μ : ZMem} {n : Nat} {z : Nat → Int} (hT : tpR μ n z) : ∀ (f i fuel : Nat) (c : Int), i + f = n → f < fuel → 0 ≤ c → c ≤ i → f_Tape_marks_l4 N (fun (x11 : Int32) (μ12 : ZMem) => zlt (fun (μ13 : ZMem) => zret (-1 : Int32) μ13) (fun k14 => zif ((μ12.1 1 0 1) = 0) (k14 μ12) (zif (x11 ≤ (1 : Int32)) (zret x11 μ12) (k14 μ12)))) fuel (iI c) (iI i) μ = some (iI (if mkS z f i c = -1 then -1 else mkR n (mkS z f i c)), μ)
  | 0, i, fuel, c, h1, h2, h3, h4 => by
    obtain ⟨q, rfl⟩ : ∃ q, fuel = q + 1 := ⟨fuel - 1, by omega⟩
    obtain ⟨t1, t2, t3, t4⟩ := hT
    simp only [f_Tape_marks_l4, t2, zlt_eq]
    unfold mkS mkR
    rw [zif_t (by rw [iI_le (by omega) (by omega) (by omega) (by omega)]; omega), if_neg (by omega)]
    by_cases e1 : n = 0
    · rw [zif_t (by rw [e1]; rfl), if_pos e1, m1]; rfl
    · rw [zif_f (by rw [zi0, iI_eq (by omega) (by omega) (by omega) (by omega)]; omega), if_neg e1]
      by_cases e2 : c ≤ 1
      · rw [zif_t (by rw [ilit, iI_le (by omega) (by omega) (by omega) (by omega)]; omega), if_pos e2]; rfl
      · rw [zif_f (by rw [ilit, iI_le (by omega) (by omega) (by omega) (by omega)]; omega), if_neg e2, m1]; rfl
  | f + 1, i, fuel, c, h1, h2, h3, h4 => by
    obtain ⟨q, rfl⟩ : ∃ q, fuel = q + 1 := ⟨fuel - 1, by omega⟩
    obtain ⟨t1, t2, t3, t4⟩ := id hT
    obtain ⟨z1, z2, z3, z4⟩ := t4 i (by omega)
    have e : iI (i : Int) + (1 : Int32) = iI ((i + 1 : Nat) : Int) := by rw [ilit, iI_add]; congr 1
    have e' : iI c + (1 : Int32) = iI (c + 1) := by rw [ilit, iI_add]
    have hi : zin (iI (i : Int)) (zlen 20 0) := zin_k 300 rfl (by omega) (by omega) (by omega)
    have hs : sgn (z i) = z i ∨ (128 ≤ z i ∧ sgn (z i) = z i - 256) := by unfold sgn; split <;> omega
    simp only [f_Tape_marks_l4, t2, zlt_eq, zchk_t hi, cl_nat (show i < 2147483648 by omega), z4, e, e']
    rw [zif_f (by rw [iI_le (by omega) (by omega) (by omega) (by omega)]; omega)]
    unfold mkS
    by_cases c1 : z i = 63
    · rw [zif_t (by rw [ilit, iI_eq (by omega) (by omega) (by omega) (by omega)]; omega), if_pos c1]
      exact marks_a hT f (i + 1) q (c + 1) (by omega) (by omega) (by omega) (by omega)
    · rw [zif_f (by rw [ilit, iI_eq (by omega) (by omega) (by omega) (by omega)]; omega), if_neg c1]
      by_cases c2 : 48 ≤ z i ∧ z i ≤ 57
      · rw [zif_f (by rw [ilit, iI_lt (by omega) (by omega) (by omega) (by omega)]; omega), zif_t (by rw [ilit, iI_le (by omega) (by omega) (by omega) (by omega)]; omega), if_pos c2]
        exact marks_a hT f (i + 1) q c (by omega) (by omega) (by omega) (by omega)
      · rw [if_neg c2, if_pos rfl, ← m1]
        by_cases c3 : sgn (z i) < 48
        · rw [zif_t (by rw [ilit, iI_lt (by omega) (by omega) (by omega) (by omega)]; omega)]; rfl
        · rw [zif_f (by rw [ilit, iI_lt (by omega) (by omega) (by omega) (by omega)]; omega), zif_f (by rw [ilit, iI_le (by omega) (by omega) (by omega) (by omega)]; omega)]; rfl
theorem marks_m {N : Nat} {μ : ZMem} {n : Nat} {z : Nat → Int} (hT : tpR μ n z) : ∀ (f i fuel : Nat) (c : Int), i + f = n → f < fuel → 0 ≤ c → c ≤ i → f_M_hidden_l4 N (fun (x11 : Int32) (μ12 : ZMem) => zlt (fun (μ13 : ZMem) => zret (-1 : Int32) μ13) (fun k14 => zif ((μ12.1 12 0 6) = 0) (k14 μ12) (zif (x11 ≤ (1 : Int32)) (zret x11 μ12) (k14 μ12)))) fuel (iI c) (iI i) μ = some (iI (if mkS z f i c = -1 then -1 else mkR n (mkS z f i c)), μ)
  | 0, i, fuel, c, h1, h2, h3, h4 => by
    obtain ⟨q, rfl⟩ : ∃ q, fuel = q + 1 := ⟨fuel - 1, by omega⟩
    obtain ⟨t1, t2, t3, t4⟩ := hT
    simp only [f_M_hidden_l4, t3, zlt_eq]
    unfold mkS mkR
    rw [zif_t (by rw [iI_le (by omega) (by omega) (by omega) (by omega)]; omega), if_neg (by omega)]
    by_cases e1 : n = 0
    · rw [zif_t (by rw [e1]; rfl), if_pos e1, m1]; rfl
    · rw [zif_f (by rw [zi0, iI_eq (by omega) (by omega) (by omega) (by omega)]; omega), if_neg e1]
      by_cases e2 : c ≤ 1
      · rw [zif_t (by rw [ilit, iI_le (by omega) (by omega) (by omega) (by omega)]; omega), if_pos e2]; rfl
      · rw [zif_f (by rw [ilit, iI_le (by omega) (by omega) (by omega) (by omega)]; omega), if_neg e2, m1]; rfl
  | f + 1, i, fuel, c, h1, h2, h3, h4 => by
    obtain ⟨q, rfl⟩ : ∃ q, fuel = q + 1 := ⟨fuel - 1, by omega⟩
    obtain ⟨t1, t2, t3, t4⟩ := id hT
    obtain ⟨z1, z2, z3, z4⟩ := t4 i (by omega)
    have e : iI (i : Int) + (1 : Int32) = iI ((i + 1 : Nat) : Int) := by rw [ilit, iI_add]; congr 1
    have e' : iI c + (1 : Int32) = iI (c + 1) := by rw [ilit, iI_add]
    have hi : zin (iI (i : Int)) (zlen 43 0) := zin_k 300 rfl (by omega) (by omega) (by omega)
    simp only [f_M_hidden_l4, t3, zlt_eq, zchk_t hi, cl_nat (show i < 2147483648 by omega), z3, e, e', f_M_isFigure]
    rw [zif_f (by rw [iI_le (by omega) (by omega) (by omega) (by omega)]; omega)]
    unfold mkS
    by_cases c1 : z i = 63
    · rw [zif_t (by rw [ilit, iI_eq (by omega) (by omega) (by omega) (by omega)]; omega), if_pos c1]
      exact marks_m hT f (i + 1) q (c + 1) (by omega) (by omega) (by omega) (by omega)
    · rw [zif_f (by rw [ilit, iI_eq (by omega) (by omega) (by omega) (by omega)]; omega), if_neg c1]
      by_cases c2 : 48 ≤ z i ∧ z i ≤ 57
      · rw [zif_f (by rw [ilit, iI_lt (by omega) (by omega) (by omega) (by omega)]; omega), zif_f (by rw [ilit, iI_lt (by omega) (by omega) (by omega) (by omega)]; omega), if_pos c2]
        simp only [zret, zbnd_eq]
        rw [zif_f (by decide)]
        exact marks_m hT f (i + 1) q c (by omega) (by omega) (by omega) (by omega)
      · rw [if_neg c2, if_pos rfl, ← m1]
        by_cases c3 : z i < 48
        · rw [zif_t (by rw [ilit, iI_lt (by omega) (by omega) (by omega) (by omega)]; omega)]; rfl
        · rw [zif_f (by rw [ilit, iI_lt (by omega) (by omega) (by omega) (by omega)]; omega), zif_t (by rw [ilit, iI_lt (by omega) (by omega) (by omega) (by omega)]; omega)]; rfl
def mks (n : Nat) (z : Nat → Int) : Int := if mkS z n 0 0 = -1 then -1 else mkR n (mkS z n 0 0)
theorem s_marks {N : Nat} {μ : ZMem} {n : Nat} {z : Nat → Int} (hN : 400 ≤ N) (hT : tpR μ n z) : f_Tape_marks N μ = some (iI (mks n z), μ) := by
  unfold f_Tape_marks
  simp only [zlt_eq]
  exact marks_a hT n 0 N 0 (by omega) (by have := hT.1; omega) (by omega) (by omega)
theorem s_hidden {N : Nat} {μ : ZMem} {n : Nat} {z : Nat → Int} (hN : 400 ≤ N) (hT : tpR μ n z) : f_M_hidden N μ = some (iI (mks n z), μ) := by
  unfold f_M_hidden
  simp only [zlt_eq]
  exact marks_m hT n 0 N 0 (by omega) (by have := hT.1; omega) (by omega) (by omega)
theorem mks_fig {n : Nat} {z : Nat → Int} (h : mks n z ≠ -1) : ∀ j, j < n → z j = 63 ∨ (48 ≤ z j ∧ z j ≤ 57) := fun j hj => by
  unfold mks at h
  have := mk_lt (z := z) n 0 0 (by omega)
  split at h
  · exact absurd rfl h
  · rename_i q
    exact this.2.2 q j (by omega) (by omega)
theorem mks_rng {n : Nat} {z : Nat → Int} : -1 ≤ mks n z ∧ mks n z ≤ 1 := by
  have := mk_lt (z := z) n 0 0 (by omega)
  unfold mks mkR
  split
  · omega
  · split
    · omega
    · split <;> omega
theorem rest_a {N : Nat} {μ : ZMem} {n : Nat} {z : Nat → Int} {m g : Int} (hT : tpR μ n z) (hz : ∀ j, j < n → z j = 63 ∨ (48 ≤ z j ∧ z j ≤ 57)) (hm1 : 1 ≤ m) (hm2 : m ≤ 9999) (hg0 : 0 ≤ g) (hg : g ≤ 9) : ∀ (f i fuel : Nat) (r : Int), i + f = n → f < fuel → 0 ≤ r → r ≤ 9999 → f_Tape_restBy_l5 N (iI m) (iI g) fuel (iI r) (iI i) μ = some (iI (rsS z m g f i r), μ) ∧ f_M_restBy_l5 N (iI m) (iI g) fuel (iI r) (iI i) μ = some (iI (rsS z m g f i r), μ) ∧ 0 ≤ rsS z m g f i r ∧ rsS z m g f i r ≤ 9999
  | 0, i, fuel, r, h1, h2, h3, h4 => by
    obtain ⟨q, rfl⟩ : ∃ q, fuel = q + 1 := ⟨fuel - 1, by omega⟩
    obtain ⟨t1, t2, t3, t4⟩ := hT
    simp only [f_Tape_restBy_l5, f_M_restBy_l5, t2, t3]
    rw [zif_t (by rw [iI_le (by omega) (by omega) (by omega) (by omega)]; omega), zif_t (by rw [iI_le (by omega) (by omega) (by omega) (by omega)]; omega)]
    exact ⟨rfl, rfl, h3, h4⟩
  | f + 1, i, fuel, r, h1, h2, h3, h4 => by
    obtain ⟨q, rfl⟩ : ∃ q, fuel = q + 1 := ⟨fuel - 1, by omega⟩
    obtain ⟨t1, t2, t3, t4⟩ := id hT
    obtain ⟨z1, z2, z3, z4⟩ := t4 i (by omega)
    have hzi := hz i (by omega)
    have e : iI (i : Int) + (1 : Int32) = iI ((i + 1 : Nat) : Int) := by rw [ilit, iI_add]; congr 1
    have hi : zin (iI (i : Int)) (zlen 20 0) := zin_k 300 rfl (by omega) (by omega) (by omega)
    have hi3 : zin (iI (i : Int)) (zlen 43 0) := zin_k 300 rfl (by omega) (by omega) (by omega)
    have hs : sgn (z i) = z i := by unfold sgn; split <;> omega
    have hm0 : ¬ iI m = 0 := by rw [zi0, iI_eq (by omega) (by omega) (by omega) (by omega)]; omega
    rw [hs] at z4
    obtain ⟨d, hd⟩ : ∃ d : Int, d = if z i = 63 then g else z i - 48 := ⟨_, rfl⟩
    have hdr : 0 ≤ d ∧ d ≤ 9 := by rw [hd]; split <;> omega
    have e1 : zremI (iI r * (10 : Int32) + iI d) (iI m) = iI ((r * 10 + d).tmod m) := by rw [ilit, iI_mul, iI_add, iI_rem (by omega) (by omega) (by omega) (by omega)]
    have e2 : zremI ((10 : Int32) * iI r + iI d) (iI m) = iI ((r * 10 + d).tmod m) := by rw [ilit, iI_mul, iI_add, Int.mul_comm, iI_rem (by omega) (by omega) (by omega) (by omega)]
    have hr : 0 ≤ (r * 10 + d).tmod m ∧ (r * 10 + d).tmod m ≤ 9999 := by
      rw [Int.tmod_eq_emod_of_nonneg (by omega)]
      have := Int.emod_nonneg (r * 10 + d) (show m ≠ 0 by omega)
      have := Int.emod_lt_of_pos (r * 10 + d) (show 0 < m by omega)
      omega
    obtain ⟨a1, a2, a3⟩ := rest_a (N := N) hT hz hm1 hm2 hg0 hg f (i + 1) q ((r * 10 + d).tmod m) (by omega) (by omega) hr.1 hr.2
    unfold rsS
    rw [← hd]
    refine ⟨?_, ?_, a3⟩
    · simp only [f_Tape_restBy_l5, t2, zlt_eq, zchk_t hi, zchk_t hm0, cl_nat (show i < 2147483648 by omega), z4, e]
      rw [zif_f (by rw [iI_le (by omega) (by omega) (by omega) (by omega)]; omega), zif_f (by rw [zi0, iI_le (by omega) (by omega) (by omega) (by omega)]; omega)]
      by_cases c1 : z i = 63
      · rw [if_pos c1] at hd
        rw [zif_t (by rw [ilit, iI_eq (by omega) (by omega) (by omega) (by omega)]; omega), ← hd, e1]
        rw [← hd] at a1
        exact a1
      · rw [if_neg c1] at hd
        rw [zif_f (by rw [ilit, iI_eq (by omega) (by omega) (by omega) (by omega)]; omega), show iI (z i) - (48 : Int32) = iI d by rw [hd, ilit, iI_sub], e1]
        exact a1
    · simp only [f_M_restBy_l5, t3, zlt_eq, zchk_t hi3, zchk_t hm0, cl_nat (show i < 2147483648 by omega), z3, e]
      rw [zif_f (by rw [iI_le (by omega) (by omega) (by omega) (by omega)]; omega)]
      by_cases c1 : z i = 63
      · rw [if_pos c1] at hd
        rw [zif_t (by rw [ilit, iI_eq (by omega) (by omega) (by omega) (by omega)]; omega), ← hd, e2]
        rw [← hd] at a2
        exact a2
      · rw [if_neg c1] at hd
        rw [zif_f (by rw [ilit, iI_eq (by omega) (by omega) (by omega) (by omega)]; omega), show iI (z i) - (48 : Int32) = iI d by rw [hd, ilit, iI_sub], e2]
        exact a2
theorem s_restBy {N : Nat} {μ : ZMem} {n : Nat} {z : Nat → Int} {m g : Int} (hN : 400 ≤ N) (hT : tpR μ n z) (hz : ∀ j, j < n → z j = 63 ∨ (48 ≤ z j ∧ z j ≤ 57)) (hm1 : 1 ≤ m) (hm2 : m ≤ 9999) (hg0 : 0 ≤ g) (hg : g ≤ 9) : ∃ r : Int, 0 ≤ r ∧ r ≤ 9999 ∧ f_Tape_restBy N μ (iI m) (iI g) = some (iI r, μ) ∧ f_M_restBy N μ (iI m) (iI g) = some (iI r, μ) := by
  have := hT.1
  obtain ⟨a1, a2, a3, a4⟩ := rest_a (N := N) hT hz hm1 hm2 hg0 hg n 0 N 0 (by omega) (by omega) (by omega) (by omega)
  exact ⟨_, a3, a4, a1, a2⟩
theorem ag_rest (N : Nat) (hN : 400 ≤ N) (p0 : Int32) : Agree (fun μ => f_A_rest N μ p0) (fun μ => f_M_rest N μ p0) := by
  refine Agree.same (fun μ hI => ?_)
  obtain ⟨n, z, hT⟩ := tape_ex hI.1
  obtain ⟨m, h1, h2, rfl⟩ := iI_ex p0
  have eI : f_M_isIn N μ (iI m) 1 9999 = some (if 1 ≤ m ∧ m ≤ 9999 then 1 else 0, μ) := s_M_isIn (a := 1) (b := 9999) h1 h2 (by omega) (by omega) (by omega) (by omega)
  have hr := mks_rng (n := n) (z := z)
  unfold f_A_rest f_M_rest
  by_cases c : 1 ≤ m ∧ m ≤ 9999
  · rw [zif_f (by rw [ilit, iI_lt (by omega) (by omega) (by omega) (by omega)]; omega), zif_f (by rw [ilit, iI_lt (by omega) (by omega) (by omega) (by omega)]; omega), s_marks hN hT, zbnd_eq]
    by_cases c2 : mks n z = 0
    · obtain ⟨r, r1, r2, r3, r4⟩ := s_restBy (N := N) (m := m) (g := 0) hN hT (mks_fig (by omega)) c.1 c.2 (by omega) (by omega)
      have r3' : f_Tape_restBy N μ (iI m) 0 = some (iI r, μ) := r3
      have r4' : f_M_restBy N μ (iI m) 0 = some (iI r, μ) := r4
      refine ⟨iI r, μ, μ, ?_, ?_, Same.rf, Same.rf⟩
      · rw [zif_t (by rw [c2]; rfl), r3', zbnd_eq]; rfl
      · rw [eI, zbnd_eq, if_pos c, zif_f (by decide), s_hidden hN hT, zbnd_eq, zif_t (by rw [c2]; rfl), r4', zbnd_eq]; rfl
    · have z0 : ¬ iI (mks n z) = 0 := by rw [zi0, iI_eq (by omega) (by omega) (by omega) (by omega)]; exact c2
      refine ⟨-1, μ, μ, ?_, ?_, Same.rf, Same.rf⟩
      · rw [zif_f z0]; rfl
      · rw [eI, zbnd_eq, if_pos c, zif_f (by decide), s_hidden hN hT, zbnd_eq, zif_f z0]; rfl
  · refine ⟨-1, μ, μ, ?_, ?_, Same.rf, Same.rf⟩
    · by_cases c1 : m < 1
      · rw [zif_t (by rw [ilit, iI_lt (by omega) (by omega) (by omega) (by omega)]; omega)]; rfl
      · rw [zif_f (by rw [ilit, iI_lt (by omega) (by omega) (by omega) (by omega)]; omega), zif_t (by rw [ilit, iI_lt (by omega) (by omega) (by omega) (by omega)]; omega)]; rfl
    · rw [eI, zbnd_eq, if_neg c, zif_t rfl]; rfl
theorem struck_l {N : Nat} {μ : ZMem} {n : Nat} {z : Nat → Int} {m : Int} (hN : 400 ≤ N) (hT : tpR μ n z) (hz : ∀ j, j < n → z j = 63 ∨ (48 ≤ z j ∧ z j ≤ 57)) (hm1 : 1 ≤ m) (hm2 : m ≤ 9999) : ∀ (f g fuel : Nat) (a : Int32), g + f = 10 → f < fuel → ∃ r, f_A_struck_l29 N (iI m) fuel a (iI g) μ = some (r, μ) ∧ f_M_struck_l25 N (iI m) fuel a (iI g) μ = some (r, μ)
  | 0, g, fuel, a, h1, h2 => by
    obtain ⟨q, rfl⟩ : ∃ q, fuel = q + 1 := ⟨fuel - 1, by omega⟩
    refine ⟨a, ?_, ?_⟩
    · simp only [f_A_struck_l29]
      rw [zif_t (by rw [ilit, iI_le (by omega) (by omega) (by omega) (by omega)]; omega)]; rfl
    · simp only [f_M_struck_l25]
      rw [zif_t (by rw [ilit, iI_le (by omega) (by omega) (by omega) (by omega)]; omega)]; rfl
  | f + 1, g, fuel, a, h1, h2 => by
    obtain ⟨q, rfl⟩ : ∃ q, fuel = q + 1 := ⟨fuel - 1, by omega⟩
    have e : iI (g : Int) + (1 : Int32) = iI ((g + 1 : Nat) : Int) := by rw [ilit, iI_add]; congr 1
    obtain ⟨r, r1, r2, r3, r4⟩ := s_restBy (N := N) (m := m) (g := g) hN hT hz hm1 hm2 (by omega) (by omega)
    by_cases c : iI r = 0
    · obtain ⟨r', x1, x2⟩ := struck_l (N := N) hN hT hz hm1 hm2 f (g + 1) q (a ||| zshlI 1 (iI (g : Int))) (by omega) (by omega)
      refine ⟨r', ?_, ?_⟩
      · simp only [f_A_struck_l29, r3, zbnd_eq, zlt_eq, e]
        rw [zif_f (by rw [ilit, iI_le (by omega) (by omega) (by omega) (by omega)]; omega), zif_t c]
        exact x1
      · simp only [f_M_struck_l25, r4, zbnd_eq, zlt_eq, e]
        rw [zif_f (by rw [ilit, iI_le (by omega) (by omega) (by omega) (by omega)]; omega), zif_t c]
        exact x2
    · obtain ⟨r', x1, x2⟩ := struck_l (N := N) hN hT hz hm1 hm2 f (g + 1) q a (by omega) (by omega)
      refine ⟨r', ?_, ?_⟩
      · simp only [f_A_struck_l29, r3, zbnd_eq, zlt_eq, e]
        rw [zif_f (by rw [ilit, iI_le (by omega) (by omega) (by omega) (by omega)]; omega), zif_f c]
        exact x1
      · simp only [f_M_struck_l25, r4, zbnd_eq, zlt_eq, e]
        rw [zif_f (by rw [ilit, iI_le (by omega) (by omega) (by omega) (by omega)]; omega), zif_f c, Int32.or_zero]
        exact x2
theorem ag_struck (N : Nat) (hN : 400 ≤ N) (p0 : Int32) : Agree (fun μ => f_A_struck N μ p0) (fun μ => f_M_struck N μ p0) := by
  refine Agree.same (fun μ hI => ?_)
  obtain ⟨n, z, hT⟩ := tape_ex hI.1
  obtain ⟨m, h1, h2, rfl⟩ := iI_ex p0
  have eI : f_M_isIn N μ (iI m) 1 9999 = some (if 1 ≤ m ∧ m ≤ 9999 then 1 else 0, μ) := s_M_isIn (a := 1) (b := 9999) h1 h2 (by omega) (by omega) (by omega) (by omega)
  have hr := mks_rng (n := n) (z := z)
  unfold f_A_struck f_M_struck
  by_cases c : 1 ≤ m ∧ m ≤ 9999
  · rw [zif_f (by rw [ilit, iI_lt (by omega) (by omega) (by omega) (by omega)]; omega), zif_f (by rw [ilit, iI_lt (by omega) (by omega) (by omega) (by omega)]; omega), s_marks hN hT, zbnd_eq]
    by_cases c2 : mks n z = 1
    · obtain ⟨r, r1, r2⟩ := struck_l (N := N) hN hT (mks_fig (by omega)) c.1 c.2 10 0 N 0 (by omega) (by omega)
      refine ⟨r, μ, μ, ?_, ?_, Same.rf, Same.rf⟩
      · rw [zif_t (by rw [c2]; rfl), zlt_eq, zlt_eq]; exact r1
      · rw [eI, zbnd_eq, if_pos c, zif_f (by decide), s_hidden hN hT, zbnd_eq, zif_t (by rw [c2]; rfl), zlt_eq, zlt_eq]; exact r2
    · have z0 : ¬ iI (mks n z) = (1 : Int32) := by rw [ilit, iI_eq (by omega) (by omega) (by omega) (by omega)]; exact c2
      refine ⟨-1, μ, μ, ?_, ?_, Same.rf, Same.rf⟩
      · rw [zif_f z0]; rfl
      · rw [eI, zbnd_eq, if_pos c, zif_f (by decide), s_hidden hN hT, zbnd_eq, zif_f z0]; rfl
  · refine ⟨-1, μ, μ, ?_, ?_, Same.rf, Same.rf⟩
    · by_cases c1 : m < 1
      · rw [zif_t (by rw [ilit, iI_lt (by omega) (by omega) (by omega) (by omega)]; omega)]; rfl
      · rw [zif_f (by rw [ilit, iI_lt (by omega) (by omega) (by omega) (by omega)]; omega), zif_t (by rw [ilit, iI_lt (by omega) (by omega) (by omega) (by omega)]; omega)]; rfl
    · rw [eI, zbnd_eq, if_neg c, zif_t rfl]; rfl
