def bI : Bool → Int32
  | true => 1
  | false => 0
theorem bI_01 (b : Bool) : bI b = 0 ∨ bI b = 1 := by cases b; exact Or.inl rfl; exact Or.inr rfl
def rgS (c : Nat → Int) : Nat → Nat → Bool
  | 0, _ => true
  | f + 1, i => inR (c i) && rgS c f (i + 1)
theorem rdOkB_rg {s : Sm} : rdOkB s = (decide (s.2 ≤ 1000000) && rgS s.1 5 0) := by
  unfold rdOkB
  simp only [rgS, Bool.and_true, Bool.and_assoc, Nat.zero_add, Nat.reduceAdd]
theorem tdivg {a g : Int} (h : g ∣ a) : a.tdiv g = a / g := Int.tdiv_eq_ediv_of_dvd h
theorem div_rng {a g A : Int} (hg : 1 ≤ g) (h1 : -A < a) (h2 : a < A) : -A < a / g ∧ a / g < A := by
  have := Int.natAbs_ediv_le_natAbs a g
  omega
theorem okB_div {s : Sm} (h : okB s) : (∀ j, j < 5 → -4611686018427387904 < (rdc s).1 j ∧ (rdc s).1 j < 4611686018427387904) ∧ 0 ≤ (rdc s).2 ∧ (rdc s).2 < 1099511627776 := by
  have hp := gl_pos h 5
  have h1 := h.1
  have h2 := h.2.1
  refine ⟨fun j hj => div_rng hp.1 (h.2.2 j hj).1 (h.2.2 j hj).2, Int.ediv_nonneg (by omega) (by omega), ?_⟩
  have := div_rng (a := s.2) (A := 1099511627776) hp.1 (by omega) h.2.1
  exact this.2
theorem put7 {N : Nat} {s : Sm} {μ : ZMem} {kx : Int64 → ZMem → Option (Int32 × ZMem)} (hN : 130 ≤ N) (hs : okB s) (hP : PA μ s) : ∀ (f i fuel : Nat), i + f = 5 → f < fuel → f_Sum_putInLowestTerms_l7 N kx fuel (lI (gl s i)) (iI i) μ = kx (lI (gl s 5)) μ
  | 0, i, fuel, h1, h2 => by
    obtain ⟨q, rfl⟩ : ∃ q, fuel = q + 1 := ⟨fuel - 1, by omega⟩
    have : i = 5 := by omega
    subst this
    simp only [f_Sum_putInLowestTerms_l7]
    rw [zif_t (by decide)]
  | f + 1, i, fuel, h1, h2 => by
    obtain ⟨q, rfl⟩ : ∃ q, fuel = q + 1 := ⟨fuel - 1, by omega⟩
    have e : iI (i : Int) + (1 : Int32) = iI ((i + 1 : Nat) : Int) := by rw [ilit, iI_add]; congr 1
    have hp := gl_pos hs i
    have hb := hs.2.2 i (by omega)
    have hd := hs.2.1
    simp only [f_Sum_putInLowestTerms_l7]
    rw [zif_f (by rw [nI_iI, iI_le (by decide) (by decide) (by omega) (by omega)]; show ¬ ((5 : Nat) : Int) ≤ _; omega), zchk_t (zin_k 5 rfl (by omega) (by omega) (by omega)), cl_nat (by omega), hP.1 i (by omega), s_A_commonMeasure (by omega) (by omega) (by omega), zbnd_eq, zlt_eq, zlt_eq, e]
    exact put7 hN hs hP f (i + 1) q (by omega) (by omega)
theorem put71 {N : Nat} {s : Sm} (hs : okB s) : ∀ (f i fuel : Nat) (b : Bool) (μ : ZMem), i + f = 5 → f < fuel → PA μ (mix s.1 (rdc s).1 i, (rdc s).2) → ∃ μ', f_Sum_putInLowestTerms_l71 N (lI (gl s 5)) fuel (bI b) (iI i) μ = some (bI (b && rgS (rdc s).1 f i), μ') ∧ frJ μ μ' ∧ PA μ' (rdc s)
  | 0, i, fuel, b, μ, h1, h2, hP => by
    obtain ⟨q, rfl⟩ : ∃ q, fuel = q + 1 := ⟨fuel - 1, by omega⟩
    have : i = 5 := by omega
    subst this
    refine ⟨μ, ?_, frJ.rf, pC_mix hP.1, hP.2⟩
    simp only [f_Sum_putInLowestTerms_l71]
    rw [zif_t (by decide), boolchk (bI_01 b)]
    unfold rgS
    rw [Bool.and_true]
  | f + 1, i, fuel, b, μ, h1, h2, hP => by
    obtain ⟨q, rfl⟩ : ∃ q, fuel = q + 1 := ⟨fuel - 1, by omega⟩
    have e : iI (i : Int) + (1 : Int32) = iI ((i + 1 : Nat) : Int) := by rw [ilit, iI_add]; congr 1
    have hp := gl_pos hs 5
    have hb := hs.2.2 i (by omega)
    have hd := hs.2.1
    have hz : zin (iI (i : Int)) (zlen 31 0) := zin_k 5 rfl (by omega) (by omega) (by omega)
    have ec : μ.2 31 0 i = lI (s.1 i) := by rw [hP.1 i (by omega)]; show lI (mix s.1 (rdc s).1 i i) = lI (s.1 i); rw [mix_at]
    have eq : lI (s.1 i) / lI (gl s 5) = lI ((rdc s).1 i) := by rw [lI_div (by omega) (by omega) (by omega) (by omega), tdivg ((gl_dvd 5).2 i (by omega))]; rfl
    have hg0 : ¬ lI (gl s 5) = 0 := by rw [zl0, lI_eq (by omega) (by omega) (by omega) (by omega)]; omega
    have hr := (okB_div hs).1 i (by omega)
    have hP2 := PA_set (l := i) (v := (rdc s).1 i) hP
    have : tset (mix s.1 (rdc s).1 i) i ((rdc s).1 i) = mix s.1 (rdc s).1 (i + 1) := mix_set
    simp only [this] at hP2
    have rd : (zsetJ μ 31 0 i (lI ((rdc s).1 i))).2 31 0 i = lI ((rdc s).1 i) := by rw [rJ, if_pos ⟨rfl, rfl, rfl⟩]
    obtain ⟨μ', a1, a2, a3⟩ := put71 (N := N) hs f (i + 1) q (b && inR ((rdc s).1 i)) (zsetJ μ 31 0 i (lI ((rdc s).1 i))) (by omega) (by omega) hP2
    refine ⟨μ', ?_, (frJ.rf.set rfl).tr a2, a3⟩
    simp only [f_Sum_putInLowestTerms_l71]
    rw [zif_f (by rw [nI_iI, iI_le (by decide) (by decide) (by omega) (by omega)]; show ¬ ((5 : Nat) : Int) ≤ _; omega), zchk_t hz, zchk_t hg0, zchk_t hz]
    simp only [zlt_eq, cl_nat (show i < 2147483648 by omega), ec, eq, e, rd, zchk_t hz]
    unfold rgS
    rw [← Bool.and_assoc]
    cases b with
    | false =>
      rw [zif_t (show bI false = 0 from rfl)]
      exact a1
    | true =>
      rw [zif_f (by decide)]
      by_cases c1 : 1000000000000 < (rdc s).1 i
      · rw [zif_t (by rw [llit, lcmp_gt (by omega) (by omega) (by omega) (by omega)]; exact c1)]
        have : inR ((rdc s).1 i) = false := by unfold inR; rw [decide_eq_false_iff_not]; omega
        rw [this] at a1 ⊢
        exact a1
      · rw [zif_f (by rw [llit, lcmp_gt (by omega) (by omega) (by omega) (by omega)]; exact c1)]
        by_cases c2 : (rdc s).1 i < -1000000000000
        · rw [zif_t (by rw [llit, lI_neg, lcmp_lt (by omega) (by omega) (by omega) (by omega)]; exact c2)]
          have : inR ((rdc s).1 i) = false := by unfold inR; rw [decide_eq_false_iff_not]; omega
          rw [this] at a1 ⊢
          exact a1
        · rw [zif_f (by rw [llit, lI_neg, lcmp_lt (by omega) (by omega) (by omega) (by omega)]; exact c2)]
          have : inR ((rdc s).1 i) = true := by unfold inR; rw [decide_eq_true_eq]; omega
          rw [this] at a1 ⊢
          exact a1
theorem s_put {N : Nat} {μ : ZMem} {s : Sm} (hN : 130 ≤ N) (hs : okB s) (hP : PA μ s) : ∃ μ', f_Sum_putInLowestTerms N μ = some (bI (rdOkB (rdc s)), μ') ∧ frJ μ μ' ∧ PA μ' (rdc s) := by
  have hp := gl_pos hs 5
  have hd := hs.2.1
  have hd1 := hs.1
  have hg0 : ¬ lI (gl s 5) = 0 := by rw [zl0, lI_eq (by omega) (by omega) (by omega) (by omega)]; omega
  have eq : lI s.2 / lI (gl s 5) = lI (rdc s).2 := by rw [lI_div (by omega) (by omega) (by omega) (by omega), tdivg ((gl_dvd 5).1)]; rfl
  have hr := (okB_div hs).2
  have hP2 : PA (zsetJ μ 9 0 1 (lI (rdc s).2)) (mix s.1 (rdc s).1 0, (rdc s).2) := by rw [mix_0]; exact PA_setd hP
  have rd : (zsetJ μ 9 0 1 (lI (rdc s).2)).2 9 0 1 = lI (rdc s).2 := hP2.2
  obtain ⟨μ', a1, a2, a3⟩ := put71 (N := N) hs 5 0 N (decide ((rdc s).2 ≤ 1000000)) _ (by omega) (by omega) hP2
  refine ⟨μ', ?_, (frJ.rf.set rfl).tr a2, a3⟩
  rw [rdOkB_rg, ← a1]
  unfold f_Sum_putInLowestTerms
  rw [zlt_eq, zlt_eq, hP.2]
  have h7 : ∀ kx : Int64 → ZMem → Option (Int32 × ZMem), f_Sum_putInLowestTerms_l7 N kx N (lI s.2) 0 μ = kx (lI (gl s 5)) μ := fun kx => put7 (kx := kx) hN hs hP 5 0 N (by omega) (by omega)
  rw [h7, zif_t (by rw [llit, lcmp_ge (by omega) (by omega) (by omega) (by omega)]; exact hp.1), zchk_t hg0]
  simp only [zlt_eq, hP.2, eq, rd]
  by_cases c : (rdc s).2 ≤ 1000000
  · rw [zif_f (by rw [llit, lcmp_gt (by omega) (by omega) (by omega) (by omega)]; show ¬ 1000000 < _; omega), decide_eq_true c]; rfl
  · rw [zif_t (by rw [llit, lcmp_gt (by omega) (by omega) (by omega) (by omega)]; show 1000000 < _; omega), decide_eq_false c]; rfl
theorem prove_a {N : Nat} {t : Nat} {T : Tb} {μ0 : ZMem} (hN : 130 ≤ N) (htl : t < 4) (hC : TabC μ0 t T) (hO : TabOk T) : ∀ (f i fuel : Nat) (μ : ZMem) (s : Sm), i + f = T.1 → f < fuel → Same μ0 μ → PA μ s → okP s → ∃ μ', f_Sum_prove_l34 N t fuel (iI i) μ = some (so (pvS T.2.1 T.2.2.1 f i s) 1 0, μ') ∧ Same μ0 μ' ∧ ∀ s', pvS T.2.1 T.2.2.1 f i s = some s' → PA μ' s'
  | 0, i, fuel, μ, s, h1, h2, hS, hP, hs => by
    obtain ⟨q, rfl⟩ : ∃ q, fuel = q + 1 := ⟨fuel - 1, by omega⟩
    have hn := hO.1
    have hC' := hC.same hS
    refine ⟨μ, ?_, hS, fun s' e => by cases e; exact hP⟩
    simp only [f_Sum_prove_l34, hC'.1.1]
    rw [zif_t (by rw [iI_le (by omega) (by omega) (by omega) (by omega)]; omega)]; rfl
  | f + 1, i, fuel, μ, s, h1, h2, hS, hP, hs => by
    obtain ⟨q, rfl⟩ : ∃ q, fuel = q + 1 := ⟨fuel - 1, by omega⟩
    have e : iI (i : Int) + (1 : Int32) = iI ((i + 1 : Nat) : Int) := by rw [ilit, iI_add]; congr 1
    have hn := hO.1
    have hC' := hC.same hS
    have hl : zlen 22 t = 24 := by rw [len22, if_pos htl]
    have hl3 : zlen 23 t = zlen 22 t := rfl
    have hi' := hO.2.1 i (by omega)
    have hc := hC'.1.2 i (by omega)
    obtain ⟨μ1, a1, a2, a3⟩ := s_follow (N := N) (μ := μ) (s := s) (k := T.2.1 i) (x := T.2.2.1 i) hN hi'.1 hi'.2.1 hi'.2.2.1 hs hP
    simp only [f_Sum_prove_l34, hC'.1.1]
    rw [zif_f (by rw [iI_le (by omega) (by omega) (by omega) (by omega)]; omega), zchk_t (zin_iI (by omega) (by omega) (by omega)), zchk_t (zin_iI (by omega) (by omega) (by omega)), cl_nat (by omega), hc.1, hc.2, a1, zbnd_eq]
    unfold pvS
    cases h : opS (T.2.1 i) (T.2.2.1 i) s with
    | none =>
      exact ⟨μ1, rfl, hS.tr a2.same, fun s' e => by cases e⟩
    | some s1 =>
      have hB := opS_ok hs hi'.2.2.1 h
      obtain ⟨μ2, b1, b2, b3⟩ := s_put (N := N) (μ := μ1) hN hB (a3 s1 h)
      have hS2 := (hS.tr a2.same).tr b2.same
      rw [zif_f (show ¬ so (some s1) (1 : Int32) 0 = 0 from (by decide : ¬ (1 : Int32) = 0)), b1, zbnd_eq]
      simp only
      cases hk : rdOkB (rdc s1) with
      | false =>
        exact ⟨μ2, rfl, hS2, fun s' e => by cases e⟩
      | true =>
        obtain ⟨μ', d1, d2, d3⟩ := prove_a hN htl hC hO f (i + 1) q μ2 (rdc s1) (by omega) (by omega) hS2 b3 (okP_rdc hB (rdOkB_iff.1 hk))
        refine ⟨μ', ?_, d2, ?_⟩
        · rw [zif_f (by decide), zlt_eq, e]
          exact d1
        · exact d3
def st0 (T : Tb) : Sm := (fun j => if j = 0 ∧ T.2.2.2.1 0 ≠ -1 then 1 else 0, 1)
theorem st0_ok {T : Tb} : okP (st0 T) := by
  refine ⟨by show (1 : Int) ≤ 1; omega, ⟨by show (1 : Int) ≤ _; omega, fun j hj => ?_⟩, ?_⟩
  · show _ ≤ (if j = 0 ∧ T.2.2.2.1 0 ≠ -1 then (1 : Int) else 0) ∧ (if j = 0 ∧ T.2.2.2.1 0 ≠ -1 then (1 : Int) else 0) ≤ _
    split <;> omega
  · have hB : okB (st0 T) := by
      refine ⟨by show (1 : Int) ≤ 1; omega, by show (1 : Int) < _; omega, fun j hj => ?_⟩
      show _ < (if j = 0 ∧ T.2.2.2.1 0 ≠ -1 then (1 : Int) else 0) ∧ (if j = 0 ∧ T.2.2.2.1 0 ≠ -1 then (1 : Int) else 0) < _
      split <;> omega
    have := gl_pos hB 5
    have h2 : (st0 T).2 = 1 := rfl
    omega
theorem s_prove {N : Nat} {μ : ZMem} {t : Nat} {T : Tb} (hN : 130 ≤ N) (htl : t < 4) (hC : TabC μ t T) (hO : TabOk T) : ∃ μ', f_Sum_prove N μ t = some (so (pvS T.2.1 T.2.2.1 T.1 0 (st0 T)) 1 0, μ') ∧ Same μ μ' ∧ ∀ s', pvS T.2.1 T.2.2.1 T.1 0 (st0 T) = some s' → PA μ' s' := by
  have hn := hO.1
  obtain ⟨μ1, a1, a2, a3⟩ := s_fillJ (N := N) (k := 31) (o := 0) (n := 5) (v := 0) (μ := μ) (by omega) rfl (by omega)
  have f1 : frJ μ μ1 := ⟨a2, fun k i x q => by rw [a3, if_neg (fun e => by rw [e.1] at q; cases q)]⟩
  obtain ⟨v, hv⟩ : ∃ v : Int, v = if T.2.2.2.1 0 = -1 then 0 else 1 := ⟨_, rfl⟩
  obtain ⟨μ3, hμ3⟩ : ∃ μ3, μ3 = zsetJ (zsetJ μ1 31 0 0 (lI v)) 9 0 1 (lI 1) := ⟨_, rfl⟩
  have f3 : frJ μ μ3 := by rw [hμ3]; exact (f1.set rfl).set rfl
  have hP : PA μ3 (st0 T) := by
    rw [hμ3]
    refine ⟨fun j hj => ?_, by rw [rJ, if_pos (by omega)]; rfl⟩
    rw [rJ, if_neg (by omega), rJ]
    show _ = lI (if j = 0 ∧ T.2.2.2.1 0 ≠ -1 then 1 else 0)
    by_cases c : j = 0
    · rw [if_pos ⟨rfl, rfl, c⟩, hv]
      by_cases d : T.2.2.2.1 0 = -1
      · rw [if_pos d, if_neg (fun q => q.2 d)]
      · rw [if_neg d, if_pos ⟨c, d⟩]
    · rw [if_neg (fun q => c q.2.2), a3, if_pos ⟨rfl, rfl, hj⟩, if_neg (fun q => c q.1)]; rfl
  obtain ⟨μ', d1, d2, d3⟩ := prove_a (N := N) hN htl hC hO T.1 0 N μ3 (st0 T) (by omega) (by omega) f3.same hP st0_ok
  refine ⟨μ', ?_, d2, d3⟩
  have hH : f_Table_isHidden N μ1 t 0 = some (if T.2.2.2.1 0 = -1 then 0 else 1, μ1) := s_Table_isHidden (l := 0) (hC.same f1.same) hO (by omega)
  unfold f_Sum_prove
  rw [a1, zbnd_eq, hH, zbnd_eq]
  simp only [zlt_eq]
  rw [← d1, hμ3]
  by_cases d : T.2.2.2.1 0 = -1
  · rw [if_pos d] at hv ⊢
    rw [zif_t rfl, zchk_t (by decide), hv]; rfl
  · rw [if_neg d] at hv ⊢
    rw [zif_f (by decide), zchk_t (by decide), hv]; rfl
