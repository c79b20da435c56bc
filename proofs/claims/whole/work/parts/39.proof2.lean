def pC (k : Nat) (μ : ZMem) (c : Nat → Int) : Prop := ∀ j, j < 5 → μ.2 k 0 j = lI (c j)
def PA (μ : ZMem) (s : Sm) : Prop := pC 31 μ s.1 ∧ μ.2 9 0 1 = lI s.2
def PM (μ : ZMem) (s : Sm) : Prop := pC 45 μ s.1 ∧ μ.2 45 0 5 = lI s.2
theorem pC_set {k : Nat} {μ : ZMem} {c : Nat → Int} {l : Nat} {v : Int} (h : pC k μ c) : pC k (zsetJ μ k 0 l (lI v)) (tset c l v) := fun j hj => by
  unfold tset
  rw [rJ]
  by_cases e : j = l
  · rw [if_pos ⟨rfl, rfl, e⟩, if_pos e]
  · rw [if_neg (fun q => e q.2.2), if_neg e]; exact h j hj
theorem PA_set {μ : ZMem} {s : Sm} {l : Nat} {v : Int} (h : PA μ s) : PA (zsetJ μ 31 0 l (lI v)) (tset s.1 l v, s.2) := ⟨pC_set h.1, by rw [rJ, if_neg (by omega)]; exact h.2⟩
theorem PM_set {μ : ZMem} {s : Sm} {l : Nat} {v : Int} (hl : l < 5) (h : PM μ s) : PM (zsetJ μ 45 0 l (lI v)) (tset s.1 l v, s.2) := ⟨pC_set h.1, by rw [rJ, if_neg (by omega)]; exact h.2⟩
theorem PA_setd {μ : ZMem} {s : Sm} {v : Int} (h : PA μ s) : PA (zsetJ μ 9 0 1 (lI v)) (s.1, v) := ⟨fun j hj => by rw [rJ, if_neg (by omega)]; exact h.1 j hj, by rw [rJ, if_pos (by omega)]⟩
theorem PM_setd {μ : ZMem} {s : Sm} {v : Int} (h : PM μ s) : PM (zsetJ μ 45 0 5 (lI v)) (s.1, v) := ⟨fun j hj => by rw [rJ, if_neg (by omega)]; exact h.1 j hj, by rw [rJ, if_pos (by omega)]⟩
/-- only longs that do not count may differ -/
def frJ (μ μ' : ZMem) : Prop := μ'.1 = μ.1 ∧ ∀ k i x, relJ k = true → μ'.2 k i x = μ.2 k i x
theorem frJ.rf {μ : ZMem} : frJ μ μ := ⟨rfl, fun _ _ _ _ => rfl⟩
theorem frJ.tr {μ μ' μ'' : ZMem} (h : frJ μ μ') (h' : frJ μ' μ'') : frJ μ μ'' := ⟨h'.1.trans h.1, fun k i x q => (h'.2 k i x q).trans (h.2 k i x q)⟩
theorem frJ.set {μ μ' : ZMem} {k i x : Nat} {v : Int64} (h : frJ μ μ') (hr : relJ k = false) : frJ μ (zsetJ μ' k i x v) := ⟨h.1, fun k' i' x' q => by
  rw [rJ, if_neg (fun e => by rw [e.1, hr] at q; cases q)]
  exact h.2 k' i' x' q⟩
theorem frJ.same {μ μ' : ZMem} (h : frJ μ μ') : Same μ μ' := ⟨fun k i x _ => by rw [h.1], h.2⟩
def mix (c c' : Nat → Int) (i : Nat) : Nat → Int := fun j => if j < i then c' j else c j
theorem mix_set {c c' : Nat → Int} {i : Nat} : tset (mix c c' i) i (c' i) = mix c c' (i + 1) := by
  funext j
  unfold tset mix
  by_cases e : j = i
  · rw [if_pos e, if_pos (by omega), e]
  · rw [if_neg e]
    by_cases d : j < i
    · rw [if_pos d, if_pos (by omega)]
    · rw [if_neg d, if_neg (by omega)]
theorem mix_at {c c' : Nat → Int} {i : Nat} : mix c c' i i = c i := by unfold mix; rw [if_neg (by omega)]
theorem mix_0 {c c' : Nat → Int} : mix c c' 0 = c := by funext j; unfold mix; rw [if_neg (by omega)]
theorem pC_mix {k : Nat} {μ : ZMem} {c c' : Nat → Int} (h : pC k μ (mix c c' 5)) : pC k μ c' := fun j hj => by
  have := h j hj
  unfold mix at this
  rw [if_pos hj] at this
  exact this
theorem mulA {N : Nat} {s : Sm} {x : Int} (hx0 : 0 ≤ x) (hx : x ≤ 9999) : ∀ (f i fuel : Nat) (μ : ZMem), i + f = 5 → f < fuel → PA μ (mix s.1 (fun j => s.1 j * x) i, s.2) → ∃ μ', f_Sum_multiply_l2 N (iI x) fuel (iI i) μ = some (1, μ') ∧ frJ μ μ' ∧ PA μ' (fun j => s.1 j * x, s.2)
  | 0, i, fuel, μ, h1, h2, hP => by
    obtain ⟨q, rfl⟩ : ∃ q, fuel = q + 1 := ⟨fuel - 1, by omega⟩
    have : i = 5 := by omega
    subst this
    refine ⟨μ, ?_, frJ.rf, pC_mix hP.1, hP.2⟩
    simp only [f_Sum_multiply_l2]
    rw [zif_t (by decide)]; rfl
  | f + 1, i, fuel, μ, h1, h2, hP => by
    obtain ⟨q, rfl⟩ : ∃ q, fuel = q + 1 := ⟨fuel - 1, by omega⟩
    have e : iI (i : Int) + (1 : Int32) = iI ((i + 1 : Nat) : Int) := by rw [ilit, iI_add]; congr 1
    have ec : μ.2 31 0 i = lI (s.1 i) := by rw [hP.1 i (by omega)]; show lI (mix s.1 (fun j => s.1 j * x) i i) = lI (s.1 i); rw [mix_at]
    have hz : zin (iI (i : Int)) (zlen 31 0) := zin_k 5 rfl (by omega) (by omega) (by omega)
    have hP2 := PA_set (l := i) (v := s.1 i * x) hP
    have : tset (mix s.1 (fun j => s.1 j * x) i) i (s.1 i * x) = mix s.1 (fun j => s.1 j * x) (i + 1) := mix_set (c := s.1) (c' := fun j => s.1 j * x)
    simp only [this] at hP2
    obtain ⟨μ', a1, a2, a3⟩ := mulA (N := N) hx0 hx f (i + 1) q (zsetJ μ 31 0 i (lI (s.1 i * x))) (by omega) (by omega) hP2
    refine ⟨μ', ?_, (frJ.rf.set rfl).tr a2, a3⟩
    simp only [f_Sum_multiply_l2]
    rw [zif_f (by rw [nI_iI, iI_le (by decide) (by decide) (by omega) (by omega)]; show ¬ ((5 : Nat) : Int) ≤ _; omega), zchk_t hz, zchk_t hz, zlt_eq, zlt_eq, cl_nat (by omega), ec, iI_long (by omega) (by omega), lI_mul, e]
    exact a1
theorem letA {N : Nat} {s : Sm} {p0 : Int32} {kx : ZMem → Option (Int32 × ZMem)} {μ : ZMem} (hP : PA μ s) (hb : ∀ j, j < 5 → -4611686018427387904 < s.1 j ∧ s.1 j < 4611686018427387904) : ∀ (f i fuel : Nat), i + f = 4 → f < fuel → (∀ j, j < i → s.1 j = 0) → f_Sum_multiplyByLetter_l2 N p0 kx fuel (iI i) μ = if s.1 0 = 0 ∧ s.1 1 = 0 ∧ s.1 2 = 0 ∧ s.1 3 = 0 then kx μ else some (0, μ)
  | 0, i, fuel, h1, h2, h3 => by
    obtain ⟨q, rfl⟩ : ∃ q, fuel = q + 1 := ⟨fuel - 1, by omega⟩
    have : i = 4 := by omega
    subst this
    simp only [f_Sum_multiplyByLetter_l2]
    rw [zif_t (by decide), if_pos ⟨h3 0 (by omega), h3 1 (by omega), h3 2 (by omega), h3 3 (by omega)⟩]
  | f + 1, i, fuel, h1, h2, h3 => by
    obtain ⟨q, rfl⟩ : ∃ q, fuel = q + 1 := ⟨fuel - 1, by omega⟩
    have e : iI (i : Int) + (1 : Int32) = iI ((i + 1 : Nat) : Int) := by rw [ilit, iI_add]; congr 1
    have hbi := hb i (by omega)
    simp only [f_Sum_multiplyByLetter_l2]
    rw [zif_f (by rw [ilit, iI_le (by omega) (by omega) (by omega) (by omega)]; omega), zchk_t (zin_k 5 rfl (by omega) (by omega) (by omega)), cl_nat (by omega), hP.1 i (by omega)]
    by_cases c : s.1 i = 0
    · rw [zif_t (by rw [llit, lcmp_eq (by omega) (by omega) (by omega) (by omega)]; exact c), zlt_eq, e]
      exact letA hP hb f (i + 1) q (by omega) (by omega) (fun j hj => by
        by_cases d : j = i
        · rw [d]; exact c
        · exact h3 j (by omega))
    · rw [zif_f (by rw [llit, lcmp_eq (by omega) (by omega) (by omega) (by omega)]; exact c), if_neg (fun q => c (by
        have : i = 0 ∨ i = 1 ∨ i = 2 ∨ i = 3 := by omega
        rcases this with rfl | rfl | rfl | rfl
        · exact q.1
        · exact q.2.1
        · exact q.2.2.1
        · exact q.2.2.2))]; rfl
theorem boolchk {r : Int32} {μ : ZMem} (h : r = 0 ∨ r = 1) : zchk (narrow .boolean (.int r) = .int r) (zret r μ) = some (r, μ) := by
  rcases h with rfl | rfl <;> rfl
theorem addA {N : Nat} {μ : ZMem} {s : Sm} {x sg : Int} (hx : okX x) (hs : sg = 1 ∨ sg = -1) (hP : PA μ s) : ∃ μ', f_Sum_addPart N μ (iI x) (iI sg) = some (1, μ') ∧ frJ μ μ' ∧ PA μ' (if x < 10000 then tset s.1 4 (s.1 4 + sg * x * s.2) else tset s.1 (x - 10000).toNat (s.1 (x - 10000).toNat + sg * s.2), s.2) := by
  unfold okX at hx
  unfold f_Sum_addPart
  have e0 : iI x - (10000 : Int32) = iI (x - 10000) := by rw [ilit, iI_sub]
  have hsx : -9999 * 2 ≤ sg * x ∧ sg * x ≤ 10003 * 2 ∧ -10003 * 2 ≤ sg * x := by rcases hs with rfl | rfl <;> omega
  rw [zlt_eq, e0, s_A_isLetter (by omega) (by omega), zbnd_eq]
  by_cases c : x < 10000
  · have e4 : μ.2 31 0 (4 : Int32).toNatClampNeg = lI (s.1 4) := hP.1 4 (by omega)
    rw [if_neg (by omega), zif_t rfl, zchk_t (by decide), zchk_t (by decide), zlt_eq, e4, hP.2, iI_mul, iI_long (by omega) (by omega), lI_mul, lI_add]
    refine ⟨_, rfl, frJ.rf.set rfl, ?_⟩
    rw [if_pos c]
    exact PA_set hP
  · have el : (iI (x - 10000)).toNatClampNeg = (x - 10000).toNat := cl_int (by omega) (by omega)
    have hz : zin (iI (x - 10000)) (zlen 31 0) := zin_k 5 rfl (by omega) (by omega) (by omega)
    rw [if_pos (by omega), zif_f (by decide), zchk_t hz, zchk_t hz, zlt_eq, el, hP.1 _ (by omega), hP.2, iI_long (by omega) (by omega), lI_mul, lI_add]
    refine ⟨_, rfl, frJ.rf.set rfl, ?_⟩
    rw [if_neg c]
    exact PA_set hP
theorem s_follow {N : Nat} {μ : ZMem} {s : Sm} {k x : Int} (hN : 130 ≤ N) (hk0 : 0 ≤ k) (hk : k ≤ 9) (hx : okX x) (hs : okP s) (hP : PA μ s) : ∃ μ', f_Sum_follow N μ (iI k) (iI x) = some (so (opS k x s) 1 0, μ') ∧ frJ μ μ' ∧ ∀ s', opS k x s = some s' → PA μ' s' := by
  have hx' := hx
  unfold okX at hx'
  obtain ⟨o1, ⟨o2, o3⟩, o4⟩ := hs
  have o3' : ∀ j, j < 5 → -4611686018427387904 < s.1 j ∧ s.1 j < 4611686018427387904 := fun j hj => by have := o3 j hj; omega
  unfold f_Sum_follow
  obtain ⟨b, hb⟩ : ∃ b : Int32, b = if 10000 ≤ x then 0 else 1 := ⟨_, rfl⟩
  refine zlt_gen' (P := fun z => ∃ μ', z = some (so (opS k x s) 1 0, μ') ∧ frJ μ μ' ∧ ∀ s', opS k x s = some s' → PA μ' s') (fun J hJ => ?_)
  suffices hh : ∃ μ', J b μ = some (so (opS k x s) 1 0, μ') ∧ frJ μ μ' ∧ ∀ s', opS k x s = some s' → PA μ' s' by
    by_cases c : 10000 ≤ x
    · rw [zif_t (by rw [ilit, iI_le (by omega) (by omega) (by omega) (by omega)]; exact c)]
      rw [if_pos c] at hb; rw [hb] at hh; exact hh
    · rw [zif_f (by rw [ilit, iI_le (by omega) (by omega) (by omega) (by omega)]; exact c)]
      rw [if_neg c] at hb; rw [hb] at hh; exact hh
  rw [hJ]
  simp only [zlt_eq]
  have kne : ∀ n : Nat, n < 10 → k ≠ n → ¬ iI k = iI n := fun n hn q => by rw [iI_eq (by omega) (by omega) (by omega) (by omega)]; exact q
  have kn0 : k ≠ 0 → ¬ iI k = (0 : Int32) := fun q => kne 0 (by omega) q
  have kn1 : k ≠ 1 → ¬ iI k = (1 : Int32) := fun q => kne 1 (by omega) q
  have kn2 : k ≠ 2 → ¬ iI k = (2 : Int32) := fun q => kne 2 (by omega) q
  have kn3 : k ≠ 3 → ¬ iI k = (3 : Int32) := fun q => kne 3 (by omega) q
  have kn4 : k ≠ 4 → ¬ iI k = (4 : Int32) := fun q => kne 4 (by omega) q
  have kn5 : k ≠ 5 → ¬ iI k = (5 : Int32) := fun q => kne 5 (by omega) q
  have kn6 : k ≠ 6 → ¬ iI k = (6 : Int32) := fun q => kne 6 (by omega) q
  have kn7 : k ≠ 7 → ¬ iI k = (7 : Int32) := fun q => kne 7 (by omega) q
  have kn8 : k ≠ 8 → ¬ iI k = (8 : Int32) := fun q => kne 8 (by omega) q
  have kn9 : k ≠ 9 → ¬ iI k = (9 : Int32) := fun q => kne 9 (by omega) q
  by_cases k0 : k = 0
  · obtain ⟨μ', a1, a2, a3⟩ := addA (N := N) (x := x) (sg := 1) hx (Or.inl rfl) hP
    have a1' : f_Sum_addPart N μ (iI x) 1 = some (1, μ') := a1
    refine ⟨μ', ?_, a2, fun s' e => ?_⟩
    · rw [zif_t (by rw [k0]; rfl), a1', zbnd_eq, boolchk (Or.inr rfl)]
      unfold opS; rw [if_pos k0]; rfl
    · unfold opS at e; rw [if_pos k0] at e; cases e
      simp only [Int.one_mul] at a3; exact a3
  rw [zif_f (kn0 k0)]
  by_cases k1 : k = 1
  · obtain ⟨μ', a1, a2, a3⟩ := addA (N := N) (x := x) (sg := -1) hx (Or.inr rfl) hP
    refine ⟨μ', ?_, a2, fun s' e => ?_⟩
    · rw [zif_t (by rw [k1]; rfl), m1, a1, zbnd_eq, boolchk (Or.inr rfl)]
      unfold opS; rw [if_neg k0, if_pos k1]; rfl
    · unfold opS at e; rw [if_neg k0, if_pos k1] at e; cases e
      have e1 : s.1 4 + -1 * x * s.2 = s.1 4 - x * s.2 := by rw [Int.neg_mul, Int.one_mul, Int.neg_mul]; omega
      have e2 : ∀ z : Int, z + -1 * s.2 = z - s.2 := fun z => by omega
      simp only [e1, e2] at a3; exact a3
  rw [zif_f (kn1 k1)]
  by_cases k2 : k = 2
  · rw [zif_t (by rw [k2]; rfl)]
    by_cases c : 10000 ≤ x
    · rw [if_pos c] at hb
      have e0 : iI x - (10000 : Int32) = iI (x - 10000) := by rw [ilit, iI_sub]
      rw [zif_t hb, e0]
      unfold f_Sum_multiplyByLetter
      have hL : ∀ kx : ZMem → Option (Int32 × ZMem), f_Sum_multiplyByLetter_l2 N (iI (x - 10000)) kx N 0 μ = if s.1 0 = 0 ∧ s.1 1 = 0 ∧ s.1 2 = 0 ∧ s.1 3 = 0 then kx μ else some (0, μ) := fun kx => letA (kx := kx) hP o3' 4 0 N (by omega) (by omega) (fun j hj => by omega)
      rw [zlt_eq, hL]
      by_cases d : s.1 0 = 0 ∧ s.1 1 = 0 ∧ s.1 2 = 0 ∧ s.1 3 = 0
      · have el : (iI (x - 10000)).toNatClampNeg = (x - 10000).toNat := cl_int (by omega) (by omega)
        have hz : zin (iI (x - 10000)) (zlen 31 0) := zin_k 5 rfl (by omega) (by omega) (by omega)
        have e4 : μ.2 31 0 (4 : Int32).toNatClampNeg = lI (s.1 4) := hP.1 4 (by omega)
        rw [if_pos d, s_A_isLetter (by omega) (by omega), zbnd_eq, if_pos (by omega), zif_f (by decide), zchk_t (by decide), zchk_t hz, zlt_eq, zchk_t (by decide), zlt_eq, el, e4]
        refine ⟨zsetJ (zsetJ μ 31 0 (x - 10000).toNat (lI (s.1 4))) 31 0 4 (lI 0), ?_, (frJ.rf.set rfl).set rfl, fun s' e => ?_⟩
        · unfold opS
          rw [if_neg k0, if_neg k1, if_pos k2, if_neg (by omega), if_pos d]; rfl
        · unfold opS at e
          rw [if_neg k0, if_neg k1, if_pos k2, if_neg (by omega), if_pos d] at e; cases e
          exact PA_set (PA_set hP)
      · rw [if_neg d]
        refine ⟨μ, ?_, frJ.rf, fun s' e => ?_⟩
        · unfold opS
          rw [if_neg k0, if_neg k1, if_pos k2, if_neg (by omega), if_neg d]; rfl
        · unfold opS at e
          rw [if_neg k0, if_neg k1, if_pos k2, if_neg (by omega), if_neg d] at e; cases e
    · rw [if_neg c] at hb
      obtain ⟨μ', a1, a2, a3⟩ := mulA (N := N) (s := s) (x := x) (by omega) (by omega) 5 0 N μ (by omega) (by omega) (by rw [mix_0]; exact hP)
      have hM : f_Sum_multiply N μ (iI x) = some (1, μ') := by unfold f_Sum_multiply; rw [zlt_eq]; exact a1
      rw [zif_f (by rw [hb]; decide), hM, zbnd_eq, boolchk (Or.inr rfl)]
      refine ⟨μ', ?_, a2, fun s' e => ?_⟩
      · unfold opS
        rw [if_neg k0, if_neg k1, if_pos k2, if_pos (by omega)]; rfl
      · unfold opS at e
        rw [if_neg k0, if_neg k1, if_pos k2, if_pos (by omega)] at e; cases e
        exact a3
  rw [zif_f (kn2 k2)]
  by_cases k3 : k = 3
  · rw [zif_t (by rw [k3]; rfl)]
    have rd : ∀ v : Int64, (zsetJ μ 9 0 1 v).2 9 0 1 = v := fun v => by rw [rJ, if_pos (by omega)]
    simp only [hP.2, rd]
    by_cases c : 10000 ≤ x
    · rw [if_pos c] at hb
      rw [zif_t hb]
      refine ⟨zsetJ μ 9 0 1 (lI (s.2 * 0)), ?_, frJ.rf.set rfl, fun s' e => ?_⟩
      · rw [show lI s.2 * (0 : Int64) = lI (s.2 * 0) by rw [llit, lI_mul], zif_t (by rw [llit, lcmp_le (by omega) (by omega) (by omega) (by omega)]; omega)]
        unfold opS
        rw [if_neg k0, if_neg k1, if_neg k2, if_pos k3, if_neg (by omega)]; rfl
      · unfold opS at e
        rw [if_neg k0, if_neg k1, if_neg k2, if_pos k3, if_neg (by omega)] at e; cases e
    · rw [if_neg c] at hb
      have e1 := Int.mul_le_mul o2 (show x ≤ 9999 by omega) (by omega) (by omega)
      have e2 := Int.mul_nonneg (show 0 ≤ s.2 by omega) hx'.1
      rw [zif_f (by rw [hb]; decide), iI_long (by omega) (by omega), lI_mul]
      refine ⟨zsetJ μ 9 0 1 (lI (s.2 * x)), ?_, frJ.rf.set rfl, fun s' e => ?_⟩
      · by_cases d : x = 0
        · rw [zif_t (by rw [llit, lcmp_le (by omega) (by omega) (by omega) (by omega), d]; show s.2 * 0 ≤ 0; omega)]
          unfold opS
          rw [if_neg k0, if_neg k1, if_neg k2, if_pos k3, if_neg (by omega)]; rfl
        · have := Int.mul_le_mul o1 (show 1 ≤ x by omega) (by omega) (by omega)
          rw [zif_f (by rw [llit, lcmp_le (by omega) (by omega) (by omega) (by omega)]; show ¬ s.2 * x ≤ 0; omega)]
          unfold opS
          rw [if_neg k0, if_neg k1, if_neg k2, if_pos k3, if_pos ⟨by omega, d⟩]; rfl
      · unfold opS at e
        rw [if_neg k0, if_neg k1, if_neg k2, if_pos k3] at e
        split at e
        · cases e; exact PA_setd hP
        · cases e
  rw [zif_f (kn3 k3)]
  by_cases k9 : k = 9
  · refine ⟨μ, ?_, frJ.rf, fun s' e => ?_⟩
    · rw [zif_f (kn4 (by omega)), zif_f (kn5 (by omega)), zif_f (kn6 (by omega)), zif_f (kn7 (by omega)), zif_f (kn8 (by omega)), zif_t (by rw [k9]; rfl)]
      unfold opS
      rw [if_neg k0, if_neg k1, if_neg k2, if_neg k3, if_pos k9]; rfl
    · unfold opS at e
      rw [if_neg k0, if_neg k1, if_neg k2, if_neg k3, if_pos k9] at e; cases e; exact hP
  · have hop : opS k x s = none := by
      unfold opS
      rw [if_neg k0, if_neg k1, if_neg k2, if_neg k3, if_neg k9]
    rw [hop]
    refine ⟨μ, ?_, frJ.rf, fun s' e => by cases e⟩
    have : k = 4 ∨ k = 5 ∨ k = 6 ∨ k = 7 ∨ k = 8 := by omega
    rcases this with rfl | rfl | rfl | rfl | rfl <;> rfl
