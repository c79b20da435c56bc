theorem red9 {N : Nat} {s : Sm} {μ : ZMem} {kx : Int64 → ZMem → Option (Int32 × ZMem)} (hN : 130 ≤ N) (hs : okB s) (hP : PM μ s) : ∀ (f i fuel : Nat), i + f = 5 → f < fuel → f_M_reduced_l9 N kx fuel (lI (gl s i)) (iI i) μ = kx (lI (gl s 5)) μ
  | 0, i, fuel, h1, h2 => by
    obtain ⟨q, rfl⟩ : ∃ q, fuel = q + 1 := ⟨fuel - 1, by omega⟩
    have : i = 5 := by omega
    subst this
    simp only [f_M_reduced_l9]
    rw [zif_t (by decide)]
  | f + 1, i, fuel, h1, h2 => by
    obtain ⟨q, rfl⟩ : ∃ q, fuel = q + 1 := ⟨fuel - 1, by omega⟩
    have e : iI (i : Int) + (1 : Int32) = iI ((i + 1 : Nat) : Int) := by rw [ilit, iI_add]; congr 1
    have hp := gl_pos hs i
    have hb := hs.2.2 i (by omega)
    have hd := hs.2.1
    simp only [f_M_reduced_l9]
    rw [zif_f (by rw [ilit, iI_le (by omega) (by omega) (by omega) (by omega)]; omega), zchk_t (zin_k 6 rfl (by omega) (by omega) (by omega)), cl_nat (by omega), hP.1 i (by omega), s_M_common hN (by omega) (by omega) (by omega), zbnd_eq, zlt_eq, zlt_eq, e]
    exact red9 hN hs hP f (i + 1) q (by omega) (by omega)
def c6 (s : Sm) : Nat → Int := fun j => if j = 5 then s.2 else s.1 j
def P6 (μ : ZMem) (c : Nat → Int) : Prop := ∀ j, j < 6 → μ.2 45 0 j = lI (c j)
theorem PM_6 {μ : ZMem} {s : Sm} : PM μ s ↔ P6 μ (c6 s) := by
  constructor
  · intro h j hj
    unfold c6
    by_cases c : j = 5
    · rw [if_pos c, c]; exact h.2
    · rw [if_neg c]; exact h.1 j (by omega)
  · intro h
    refine ⟨fun j hj => ?_, ?_⟩
    · have := h j (by omega)
      unfold c6 at this
      rw [if_neg (by omega)] at this
      exact this
    · exact h 5 (by omega)
theorem P6_set {μ : ZMem} {c : Nat → Int} {l : Nat} {v : Int} (h : P6 μ c) : P6 (zsetJ μ 45 0 l (lI v)) (tset c l v) := fun j hj => by
  unfold tset
  rw [rJ]
  by_cases e : j = l
  · rw [if_pos ⟨rfl, rfl, e⟩, if_pos e]
  · rw [if_neg (fun q => e q.2.2), if_neg e]; exact h j hj
theorem c6_rdc {s : Sm} {j : Nat} : c6 (rdc s) j = c6 s j / gl s 5 := by
  unfold c6 rdc
  split <;> rfl
theorem red33 {N : Nat} {s : Sm} {kx : ZMem → Option (Int32 × ZMem)} (hs : okB s) : ∀ (f i fuel : Nat) (μ : ZMem), i + f = 6 → f < fuel → P6 μ (mix (c6 s) (c6 (rdc s)) i) → ∃ μ', f_M_reduced_l33 N (lI (gl s 5)) kx fuel (iI i) μ = kx μ' ∧ frJ μ μ' ∧ PM μ' (rdc s)
  | 0, i, fuel, μ, h1, h2, hP => by
    obtain ⟨q, rfl⟩ : ∃ q, fuel = q + 1 := ⟨fuel - 1, by omega⟩
    have : i = 6 := by omega
    subst this
    refine ⟨μ, ?_, frJ.rf, PM_6.2 (fun j hj => ?_)⟩
    · simp only [f_M_reduced_l33]
      rw [zif_t (by decide)]
    · have := hP j hj
      unfold mix at this
      rw [if_pos hj] at this
      exact this
  | f + 1, i, fuel, μ, h1, h2, hP => by
    obtain ⟨q, rfl⟩ : ∃ q, fuel = q + 1 := ⟨fuel - 1, by omega⟩
    have e : iI (i : Int) + (1 : Int32) = iI ((i + 1 : Nat) : Int) := by rw [ilit, iI_add]; congr 1
    have hp := gl_pos hs 5
    have hd := hs.2.1
    have hd1 := hs.1
    have hz : zin (iI (i : Int)) (zlen 45 0) := zin_k 6 rfl (by omega) (by omega) (by omega)
    have ec : μ.2 45 0 i = lI (c6 s i) := by rw [hP i (by omega), mix_at]
    have hg0 : ¬ lI (gl s 5) = 0 := by rw [zl0, lI_eq (by omega) (by omega) (by omega) (by omega)]; omega
    have hb : -4611686018427387904 < c6 s i ∧ c6 s i < 4611686018427387904 := by
      unfold c6
      split
      · omega
      · exact hs.2.2 i (by omega)
    have hdv : gl s 5 ∣ c6 s i := by
      unfold c6
      split
      · exact (gl_dvd 5).1
      · exact (gl_dvd 5).2 i (by omega)
    have eq : lI (c6 s i) / lI (gl s 5) = lI (c6 (rdc s) i) := by rw [lI_div (by omega) (by omega) (by omega) (by omega), tdivg hdv, c6_rdc]
    have hP2 := P6_set (l := i) (v := c6 (rdc s) i) hP
    have : tset (mix (c6 s) (c6 (rdc s)) i) i (c6 (rdc s) i) = mix (c6 s) (c6 (rdc s)) (i + 1) := mix_set
    rw [this] at hP2
    obtain ⟨μ', a1, a2, a3⟩ := red33 (N := N) (kx := kx) hs f (i + 1) q (zsetJ μ 45 0 i (lI (c6 (rdc s) i))) (by omega) (by omega) hP2
    refine ⟨μ', ?_, (frJ.rf.set rfl).tr a2, a3⟩
    simp only [f_M_reduced_l33]
    rw [zif_f (by rw [ilit, iI_le (by omega) (by omega) (by omega) (by omega)]; omega), zchk_t hz, zchk_t hg0, zchk_t hz, zlt_eq, zlt_eq, cl_nat (by omega), ec, eq, e]
    exact a1
theorem red57 {N : Nat} {s : Sm} {μ : ZMem} {kx : ZMem → Option (Int32 × ZMem)} (hb : ∀ j, j < 5 → -4611686018427387904 < s.1 j ∧ s.1 j < 4611686018427387904) (hP : PM μ s) : ∀ (f i fuel : Nat), i + f = 5 → f < fuel → f_M_reduced_l57 N kx fuel (iI i) μ = if rgS s.1 f i = true then kx μ else some (0, μ)
  | 0, i, fuel, h1, h2 => by
    obtain ⟨q, rfl⟩ : ∃ q, fuel = q + 1 := ⟨fuel - 1, by omega⟩
    have : i = 5 := by omega
    subst this
    simp only [f_M_reduced_l57]
    rw [zif_t (by decide)]
    unfold rgS
    rw [if_pos rfl]
  | f + 1, i, fuel, h1, h2 => by
    obtain ⟨q, rfl⟩ : ∃ q, fuel = q + 1 := ⟨fuel - 1, by omega⟩
    have e : iI (i : Int) + (1 : Int32) = iI ((i + 1 : Nat) : Int) := by rw [ilit, iI_add]; congr 1
    have hbi := hb i (by omega)
    have hz : zin (iI (i : Int)) (zlen 45 0) := zin_k 6 rfl (by omega) (by omega) (by omega)
    simp only [f_M_reduced_l57]
    rw [zif_f (by rw [ilit, iI_le (by omega) (by omega) (by omega) (by omega)]; omega), zchk_t hz, zchk_t hz]
    simp only [cl_nat (show i < 2147483648 by omega), hP.1 i (by omega), zlt_eq, e]
    unfold rgS
    by_cases c1 : 1000000000000 < s.1 i
    · have : inR (s.1 i) = false := by unfold inR; rw [decide_eq_false_iff_not]; omega
      rw [zif_t (by rw [llit, lcmp_gt (by omega) (by omega) (by omega) (by omega)]; exact c1), this, Bool.false_and, if_neg (by decide)]; rfl
    · rw [zif_f (by rw [llit, lcmp_gt (by omega) (by omega) (by omega) (by omega)]; exact c1)]
      by_cases c2 : -1000000000000 ≤ s.1 i
      · have : inR (s.1 i) = true := by unfold inR; rw [decide_eq_true_eq]; omega
        rw [zif_t (by rw [llit, lI_neg, lcmp_ge (by omega) (by omega) (by omega) (by omega)]; exact c2), this, Bool.true_and]
        exact red57 hb hP f (i + 1) q (by omega) (by omega)
      · have : inR (s.1 i) = false := by unfold inR; rw [decide_eq_false_iff_not]; omega
        rw [zif_f (by rw [llit, lI_neg, lcmp_ge (by omega) (by omega) (by omega) (by omega)]; exact c2), this, Bool.false_and, if_neg (by decide)]; rfl
theorem s_reduced {N : Nat} {μ : ZMem} {s : Sm} (hN : 130 ≤ N) (hs : okB s) (hP : PM μ s) : ∃ μ', f_M_reduced N μ = some (bI (rdOkB (rdc s)), μ') ∧ frJ μ μ' ∧ PM μ' (rdc s) := by
  have hp := gl_pos hs 5
  have hr := (okB_div hs)
  have hr2 := hr.2
  obtain ⟨kx, hkx⟩ : ∃ kx : ZMem → Option (Int32 × ZMem), kx = fun (μ22 : ZMem) => zchk (zin (5 : Int32) (zlen 45 0)) (zif ((0 : Int32) < (lg_cmp (μ22.2 45 0 (5 : Int32).toNatClampNeg) (1000000 : Int64))) (zret (0 : Int32) μ22) (zret (1 : Int32) μ22)) := ⟨_, rfl⟩
  obtain ⟨μ', a1, a2, a3⟩ := red33 (N := N) (kx := fun (μ17 : ZMem) => zlt (0 : Int32) (fun (x18 : Int32) => f_M_reduced_l57 N kx N x18 μ17)) hs 6 0 N μ (by omega) (by omega) (by rw [mix_0]; exact PM_6.1 hP)
  refine ⟨μ', ?_, a2, a3⟩
  have a1' : f_M_reduced_l33 N (lI (gl s 5)) (fun (μ17 : ZMem) => zlt (0 : Int32) (fun (x18 : Int32) => f_M_reduced_l57 N kx N x18 μ17)) N 0 μ = zlt (0 : Int32) (fun (x18 : Int32) => f_M_reduced_l57 N kx N x18 μ') := a1
  have h9 : ∀ kx : Int64 → ZMem → Option (Int32 × ZMem), f_M_reduced_l9 N kx N (lI s.2) 0 μ = kx (lI (gl s 5)) μ := fun kx => red9 (kx := kx) hN hs hP 5 0 N (by omega) (by omega)
  have h57 : f_M_reduced_l57 N kx N 0 μ' = if rgS (rdc s).1 5 0 = true then kx μ' else some (0, μ') := red57 (kx := kx) hr.1 a3 5 0 N (by omega) (by omega)
  have e5 : μ.2 45 0 (5 : Int32).toNatClampNeg = lI s.2 := hP.2
  have e5' : μ'.2 45 0 (5 : Int32).toNatClampNeg = lI (rdc s).2 := a3.2
  have hK : kx μ' = some (bI (decide ((rdc s).2 ≤ 1000000)), μ') := by
    rw [hkx]
    simp only
    rw [zchk_t (by decide), e5']
    by_cases c : (rdc s).2 ≤ 1000000
    · rw [zif_f (by rw [llit, lcmp_gt (by omega) (by omega) (by omega) (by omega)]; show ¬ 1000000 < _; omega), decide_eq_true c]; rfl
    · rw [zif_t (by rw [llit, lcmp_gt (by omega) (by omega) (by omega) (by omega)]; show 1000000 < _; omega), decide_eq_false c]; rfl
  unfold f_M_reduced
  rw [zchk_t (by decide), zlt_eq, zlt_eq, e5, h9]
  rw [hkx] at a1' h57
  simp only [zlt_eq] at a1' ⊢
  rw [a1', h57, ← hkx, hK, rdOkB_rg]
  cases rgS (rdc s).1 5 0 with
  | true => rw [if_pos rfl, Bool.and_true]
  | false => rw [if_neg (by decide), Bool.and_false]; rfl
