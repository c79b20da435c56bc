def stS (k x : Int) (s : Sm) : Option Sm := match opS k x s with
  | none => none
  | some s1 => if rdOkB (rdc s1) = true then some (rdc s1) else none
theorem st_tail {N : Nat} {μ9 : ZMem} {k x : Int} {s s1 : Sm} (hN : 130 ≤ N) (h : opS k x s = some s1) (hB : okB s1) (hP : PM μ9 s1) : ∃ μ', zbnd (f_M_reduced N μ9) (fun (r11 : Int32) (μ10 : ZMem) => zchk (narrow .boolean (.int r11) = .int r11) (zret r11 μ10)) = some (so (stS k x s) 1 0, μ') ∧ frJ μ9 μ' ∧ ∀ s', stS k x s = some s' → PM μ' s' := by
  obtain ⟨μ', b1, b2, b3⟩ := s_reduced (N := N) hN hB hP
  refine ⟨μ', ?_, b2, ?_⟩
  · rw [b1, zbnd_eq, boolchk (bI_01 _)]
    unfold stS
    rw [h]
    simp only
    cases rdOkB (rdc s1) with
    | true => rfl
    | false => rfl
  · intro s' e
    unfold stS at e
    rw [h] at e
    simp only at e
    split at e
    · cases e; exact b3
    · cases e
theorem mulM {N : Nat} {s : Sm} {x : Int} {kx : ZMem → Option (Int32 × ZMem)} (hx0 : 0 ≤ x) (hx : x ≤ 9999) : ∀ (f i fuel : Nat) (μ : ZMem), i + f = 5 → f < fuel → PM μ (mix s.1 (fun j => s.1 j * x) i, s.2) → ∃ μ', f_M_proves_l166 N (iI x) kx fuel (iI i) μ = kx μ' ∧ frJ μ μ' ∧ PM μ' (fun j => s.1 j * x, s.2)
  | 0, i, fuel, μ, h1, h2, hP => by
    obtain ⟨q, rfl⟩ : ∃ q, fuel = q + 1 := ⟨fuel - 1, by omega⟩
    have : i = 5 := by omega
    subst this
    refine ⟨μ, ?_, frJ.rf, pC_mix hP.1, hP.2⟩
    simp only [f_M_proves_l166]
    rw [zif_t (by decide)]
  | f + 1, i, fuel, μ, h1, h2, hP => by
    obtain ⟨q, rfl⟩ : ∃ q, fuel = q + 1 := ⟨fuel - 1, by omega⟩
    have e : iI (i : Int) + (1 : Int32) = iI ((i + 1 : Nat) : Int) := by rw [ilit, iI_add]; congr 1
    have ec : μ.2 45 0 i = lI (s.1 i) := by rw [hP.1 i (by omega)]; show lI (mix s.1 (fun j => s.1 j * x) i i) = lI (s.1 i); rw [mix_at]
    have hz : zin (iI (i : Int)) (zlen 45 0) := zin_k 6 rfl (by omega) (by omega) (by omega)
    have hP2 := PM_set (l := i) (v := s.1 i * x) (by omega) hP
    have : tset (mix s.1 (fun j => s.1 j * x) i) i (s.1 i * x) = mix s.1 (fun j => s.1 j * x) (i + 1) := mix_set (c := s.1) (c' := fun j => s.1 j * x)
    simp only [this] at hP2
    obtain ⟨μ', a1, a2, a3⟩ := mulM (N := N) (kx := kx) hx0 hx f (i + 1) q (zsetJ μ 45 0 i (lI (s.1 i * x))) (by omega) (by omega) hP2
    refine ⟨μ', ?_, (frJ.rf.set rfl).tr a2, a3⟩
    simp only [f_M_proves_l166]
    rw [zif_f (by rw [ilit, iI_le (by omega) (by omega) (by omega) (by omega)]; omega), zchk_t hz, zchk_t hz, zlt_eq, zlt_eq, cl_nat (by omega), ec, iI_long (by omega) (by omega), lI_mul, e]
    exact a1
theorem s_isNum {N : Nat} {μ : ZMem} {s : Sm} (hb : ∀ j, j < 5 → -4611686018427387904 < s.1 j ∧ s.1 j < 4611686018427387904) (hP : PM μ s) : f_M_isNumber N μ = some (if s.1 0 = 0 ∧ s.1 1 = 0 ∧ s.1 2 = 0 ∧ s.1 3 = 0 then 1 else 0, μ) := by
  have e0 : μ.2 45 0 (0 : Int32).toNatClampNeg = lI (s.1 0) := hP.1 0 (by omega)
  have e1 : μ.2 45 0 (1 : Int32).toNatClampNeg = lI (s.1 1) := hP.1 1 (by omega)
  have e2 : μ.2 45 0 (2 : Int32).toNatClampNeg = lI (s.1 2) := hP.1 2 (by omega)
  have e3 : μ.2 45 0 (3 : Int32).toNatClampNeg = lI (s.1 3) := hP.1 3 (by omega)
  have b0 := hb 0 (by omega)
  have b1 := hb 1 (by omega)
  have b2 := hb 2 (by omega)
  have b3 := hb 3 (by omega)
  unfold f_M_isNumber
  rw [zchk_t (by decide), zchk_t (by decide), zchk_t (by decide), zchk_t (by decide), e0, e1, e2, e3]
  by_cases c0 : s.1 0 = 0
  · rw [zif_t (by rw [llit, lcmp_eq (by omega) (by omega) (by omega) (by omega)]; exact c0)]
    by_cases c1 : s.1 1 = 0
    · rw [zif_t (by rw [llit, lcmp_eq (by omega) (by omega) (by omega) (by omega)]; exact c1)]
      by_cases c2 : s.1 2 = 0
      · rw [zif_t (by rw [llit, lcmp_eq (by omega) (by omega) (by omega) (by omega)]; exact c2)]
        by_cases c3 : s.1 3 = 0
        · rw [zif_t (by rw [llit, lcmp_eq (by omega) (by omega) (by omega) (by omega)]; exact c3), if_pos ⟨c0, c1, c2, c3⟩]; rfl
        · rw [zif_f (by rw [llit, lcmp_eq (by omega) (by omega) (by omega) (by omega)]; exact c3), if_neg (fun q => c3 q.2.2.2)]; rfl
      · rw [zif_f (by rw [llit, lcmp_eq (by omega) (by omega) (by omega) (by omega)]; exact c2), if_neg (fun q => c2 q.2.2.1)]; rfl
    · rw [zif_f (by rw [llit, lcmp_eq (by omega) (by omega) (by omega) (by omega)]; exact c1), if_neg (fun q => c1 q.2.1)]; rfl
  · rw [zif_f (by rw [llit, lcmp_eq (by omega) (by omega) (by omega) (by omega)]; exact c0), if_neg (fun q => c0 q.1)]; rfl
theorem s_proves {N : Nat} {μ : ZMem} {s : Sm} {k x : Int} (hN : 130 ≤ N) (hk0 : 0 ≤ k) (hk : k ≤ 9) (hx : okX x) (hs : okP s) (hP : PM μ s) : ∃ μ', f_M_proves N μ (iI k) (iI x) = some (so (stS k x s) 1 0, μ') ∧ frJ μ μ' ∧ ∀ s', stS k x s = some s' → PM μ' s' := by
  have hx' := hx
  unfold okX at hx'
  have hs' := hs
  obtain ⟨o1, ⟨o2, o3⟩, o4⟩ := hs
  have o3' : ∀ j, j < 5 → -4611686018427387904 < s.1 j ∧ s.1 j < 4611686018427387904 := fun j hj => by have := o3 j hj; omega
  have e0 : iI x - (10000 : Int32) = iI (x - 10000) := by rw [ilit, iI_sub]
  have e5 : μ.2 45 0 (5 : Int32).toNatClampNeg = lI s.2 := hP.2
  have e4 : μ.2 45 0 (4 : Int32).toNatClampNeg = lI (s.1 4) := hP.1 4 (by omega)
  have c4 : (4 : Int32).toNatClampNeg = 4 := rfl
  have c5 : (5 : Int32).toNatClampNeg = 5 := rfl
  have z4 : zin (4 : Int32) (zlen 45 0) := by decide
  have z5 : zin (5 : Int32) (zlen 45 0) := by decide
  unfold f_M_proves
  rw [zlt_eq, e0]
  have kne : ∀ n : Nat, n < 10 → k ≠ n → ¬ iI k = iI n := fun n hn q => by rw [iI_eq (by omega) (by omega) (by omega) (by omega)]; exact q
  have kn0 : k ≠ 0 → ¬ iI k = (0 : Int32) := fun q => kne 0 (by omega) q
  have kn1 : k ≠ 1 → ¬ iI k = (1 : Int32) := fun q => kne 1 (by omega) q
  have kn2 : k ≠ 2 → ¬ iI k = (2 : Int32) := fun q => kne 2 (by omega) q
  have kn3 : k ≠ 3 → ¬ iI k = (3 : Int32) := fun q => kne 3 (by omega) q
  have kn9 : k ≠ 9 → ¬ iI k = (9 : Int32) := fun q => kne 9 (by omega) q
  by_cases k0 : k = 0
  · have hop : opS k x s = some (if x < 10000 then tset s.1 4 (s.1 4 + x * s.2) else tset s.1 (x - 10000).toNat (s.1 (x - 10000).toNat + s.2), s.2) := by unfold opS; rw [if_pos k0]
    have hB := opS_ok hs' hx hop
    rw [zif_t (by rw [k0]; rfl)]
    simp only [zlt_eq]
    by_cases c : x < 10000
    · rw [if_pos c] at hop hB
      have c' : ¬ (0 : Int32) ≤ iI (x - 10000) := by rw [zi0, iI_le (by omega) (by omega) (by omega) (by omega)]; omega
      obtain ⟨μ', t1, t2, t3⟩ := st_tail (N := N) (μ9 := zsetJ μ 45 0 4 (lI (s.1 4 + x * s.2))) hN hop hB (PM_set (by omega) hP)
      refine ⟨μ', ?_, (frJ.rf.set rfl).tr t2, t3⟩
      rw [zif_f c', zchk_t z4, zif_f c', zchk_t z5, zchk_t z4, e4, e5, c4, iI_long (by omega) (by omega), lI_mul, lI_add]
      exact t1
    · rw [if_neg c] at hop hB
      have c' : (0 : Int32) ≤ iI (x - 10000) := by rw [zi0, iI_le (by omega) (by omega) (by omega) (by omega)]; omega
      have el : (iI (x - 10000)).toNatClampNeg = (x - 10000).toNat := cl_int (by omega) (by omega)
      have hz : zin (iI (x - 10000)) (zlen 45 0) := zin_k 6 rfl (by omega) (by omega) (by omega)
      obtain ⟨μ', t1, t2, t3⟩ := st_tail (N := N) (μ9 := zsetJ μ 45 0 (x - 10000).toNat (lI (s.1 (x - 10000).toNat + s.2))) hN hop hB (PM_set (by omega) hP)
      refine ⟨μ', ?_, (frJ.rf.set rfl).tr t2, t3⟩
      rw [zif_t c', zchk_t hz, zif_t c', zchk_t z5, zchk_t hz, e5, el, hP.1 _ (by omega), lI_add]
      exact t1
  rw [zif_f (kn0 k0)]
  by_cases k1 : k = 1
  · have hop : opS k x s = some (if x < 10000 then tset s.1 4 (s.1 4 - x * s.2) else tset s.1 (x - 10000).toNat (s.1 (x - 10000).toNat - s.2), s.2) := by unfold opS; rw [if_neg k0, if_pos k1]
    have hB := opS_ok hs' hx hop
    rw [zif_t (by rw [k1]; rfl)]
    simp only [zlt_eq]
    by_cases c : x < 10000
    · rw [if_pos c] at hop hB
      have c' : ¬ (0 : Int32) ≤ iI (x - 10000) := by rw [zi0, iI_le (by omega) (by omega) (by omega) (by omega)]; omega
      obtain ⟨μ', t1, t2, t3⟩ := st_tail (N := N) (μ9 := zsetJ μ 45 0 4 (lI (s.1 4 - x * s.2))) hN hop hB (PM_set (by omega) hP)
      refine ⟨μ', ?_, (frJ.rf.set rfl).tr t2, t3⟩
      rw [zif_f c', zchk_t z4, zif_f c', zchk_t z5, zchk_t z4, e4, e5, c4, iI_long (by omega) (by omega), lI_mul, lI_sub]
      exact t1
    · rw [if_neg c] at hop hB
      have c' : (0 : Int32) ≤ iI (x - 10000) := by rw [zi0, iI_le (by omega) (by omega) (by omega) (by omega)]; omega
      have el : (iI (x - 10000)).toNatClampNeg = (x - 10000).toNat := cl_int (by omega) (by omega)
      have hz : zin (iI (x - 10000)) (zlen 45 0) := zin_k 6 rfl (by omega) (by omega) (by omega)
      obtain ⟨μ', t1, t2, t3⟩ := st_tail (N := N) (μ9 := zsetJ μ 45 0 (x - 10000).toNat (lI (s.1 (x - 10000).toNat - s.2))) hN hop hB (PM_set (by omega) hP)
      refine ⟨μ', ?_, (frJ.rf.set rfl).tr t2, t3⟩
      rw [zif_t c', zchk_t hz, zif_t c', zchk_t z5, zchk_t hz, e5, el, hP.1 _ (by omega), lI_sub]
      exact t1
  rw [zif_f (kn1 k1)]
  by_cases k2 : k = 2
  · rw [zif_t (by rw [k2]; rfl)]
    simp only [zlt_eq]
    by_cases c : x < 10000
    · have hop : opS k x s = some (fun j => s.1 j * x, s.2) := by unfold opS; rw [if_neg k0, if_neg k1, if_pos k2, if_pos c]
      have hB := opS_ok hs' hx hop
      have c' : iI (x - 10000) < (0 : Int32) := by rw [zi0, iI_lt (by omega) (by omega) (by omega) (by omega)]; omega
      obtain ⟨μ1, a1, a2, a3⟩ := mulM (N := N) (s := s) (x := x) (kx := fun (μ34 : ZMem) => zbnd (f_M_reduced N μ34) (fun (r28 : Int32) (μ27 : ZMem) => zchk (narrow .boolean (.int r28) = .int r28) (zret r28 μ27))) (by omega) (by omega) 5 0 N μ (by omega) (by omega) (by rw [mix_0]; exact hP)
      obtain ⟨μ', t1, t2, t3⟩ := st_tail (N := N) (μ9 := μ1) hN hop hB a3
      refine ⟨μ', ?_, a2.tr t2, t3⟩
      rw [zif_t c', zif_t c']
      exact a1.trans t1
    · have c' : ¬ iI (x - 10000) < (0 : Int32) := by rw [zi0, iI_lt (by omega) (by omega) (by omega) (by omega)]; omega
      have el : (iI (x - 10000)).toNatClampNeg = (x - 10000).toNat := cl_int (by omega) (by omega)
      have hz : zin (iI (x - 10000)) (zlen 45 0) := zin_k 6 rfl (by omega) (by omega) (by omega)
      rw [zif_f c', s_isNum o3' hP, zbnd_eq, zif_f c']
      by_cases d : s.1 0 = 0 ∧ s.1 1 = 0 ∧ s.1 2 = 0 ∧ s.1 3 = 0
      · have hop : opS k x s = some (tset (tset s.1 (x - 10000).toNat (s.1 4)) 4 0, s.2) := by unfold opS; rw [if_neg k0, if_neg k1, if_pos k2, if_neg c, if_pos d]
        have hB := opS_ok hs' hx hop
        obtain ⟨μ', t1, t2, t3⟩ := st_tail (N := N) (μ9 := zsetJ (zsetJ μ 45 0 (x - 10000).toNat (lI (s.1 4))) 45 0 4 (lI 0)) hN hop hB (PM_set (s := (tset s.1 (x - 10000).toNat (s.1 4), s.2)) (by omega) (PM_set (by omega) hP))
        refine ⟨μ', ?_, ((frJ.rf.set rfl).set rfl).tr t2, t3⟩
        rw [if_pos d, zif_f (by decide), zchk_t z4, zchk_t hz, zchk_t z4, el, e4, c4]
        exact t1
      · have hop : opS k x s = none := by unfold opS; rw [if_neg k0, if_neg k1, if_pos k2, if_neg c, if_neg d]
        have hst : stS k x s = none := by unfold stS; rw [hop]
        refine ⟨μ, ?_, frJ.rf, fun s' e => by rw [hst] at e; cases e⟩
        rw [if_neg d, zif_t rfl, hst]; rfl
  rw [zif_f (kn2 k2)]
  by_cases k3 : k = 3
  · rw [zif_t (by rw [k3]; rfl)]
    by_cases c : x < 10000 ∧ x ≠ 0
    · have hop : opS k x s = some (s.1, s.2 * x) := by unfold opS; rw [if_neg k0, if_neg k1, if_neg k2, if_pos k3, if_pos c]
      have hB := opS_ok hs' hx hop
      obtain ⟨μ', t1, t2, t3⟩ := st_tail (N := N) (μ9 := zsetJ μ 45 0 5 (lI (s.2 * x))) hN hop hB (PM_setd hP)
      refine ⟨μ', ?_, (frJ.rf.set rfl).tr t2, t3⟩
      rw [zif_f (by rw [zi0, iI_le (by omega) (by omega) (by omega) (by omega)]; omega), zif_f (by rw [zi0, iI_eq (by omega) (by omega) (by omega) (by omega)]; omega), zchk_t z5, zchk_t z5, zlt_eq, e5, c5, iI_long (by omega) (by omega), lI_mul]
      exact t1
    · have hop : opS k x s = none := by unfold opS; rw [if_neg k0, if_neg k1, if_neg k2, if_pos k3, if_neg c]
      have hst : stS k x s = none := by unfold stS; rw [hop]
      refine ⟨μ, ?_, frJ.rf, fun s' e => by rw [hst] at e; cases e⟩
      rw [hst]
      by_cases d : 10000 ≤ x
      · rw [zif_t (by rw [zi0, iI_le (by omega) (by omega) (by omega) (by omega)]; omega)]; rfl
      · rw [zif_f (by rw [zi0, iI_le (by omega) (by omega) (by omega) (by omega)]; omega), zif_t (by rw [zi0, iI_eq (by omega) (by omega) (by omega) (by omega)]; omega)]; rfl
  rw [zif_f (kn3 k3)]
  by_cases k9 : k = 9
  · have hop : opS k x s = some s := by unfold opS; rw [if_neg k0, if_neg k1, if_neg k2, if_neg k3, if_pos k9]
    have hst : stS k x s = some s := by
      unfold stS
      rw [hop]
      simp only [rdc_id hs']
      rw [if_pos (rdOkB_iff.2 hs'.2.1)]
    refine ⟨μ, ?_, frJ.rf, fun s' e => by rw [hst] at e; cases e; exact hP⟩
    rw [zif_t (by rw [k9]; rfl), hst]; rfl
  · have hop : opS k x s = none := by unfold opS; rw [if_neg k0, if_neg k1, if_neg k2, if_neg k3, if_neg k9]
    have hst : stS k x s = none := by unfold stS; rw [hop]
    refine ⟨μ, ?_, frJ.rf, fun s' e => by rw [hst] at e; cases e⟩
    rw [zif_f (kn9 k9), hst]; rfl
theorem pvS_st {kd xs : Nat → Int} {f i : Nat} {s : Sm} : pvS kd xs (f + 1) i s = (match stS (kd i) (xs i) s with | none => none | some s' => pvS kd xs f (i + 1) s') := by
  rw [pvS]
  unfold stS
  cases opS (kd i) (xs i) s with
  | none => rfl
  | some s1 =>
    simp only
    cases rdOkB (rdc s1) with
    | true => rfl
    | false => rfl
theorem stS_ok {k x : Int} {s s' : Sm} (h : okP s) (hx : okX x) (e : stS k x s = some s') : okP s' := by
  unfold stS at e
  cases h1 : opS k x s with
  | none => rw [h1] at e; cases e
  | some s1 =>
    rw [h1] at e
    simp only at e
    split at e
    · rename_i q
      cases e
      exact okP_rdc (opS_ok h hx h1) (rdOkB_iff.1 q)
    · cases e
theorem prove_m {N : Nat} {t : Nat} {T : Tb} {μ0 : ZMem} {p1 : Int32} {kx : ZMem → Option (Int64 × ZMem)} (hN : 130 ≤ N) (htl : t < 4) (hM : TabM μ0 t T) (hO : TabOk T) : ∀ (f i fuel : Nat) (μ : ZMem) (s : Sm), i + f = T.1 → f < fuel → Same μ0 μ → PM μ s → okP s → ∃ μ', f_M_proof_l66 N (iI t) p1 kx fuel (iI i) μ = so (pvS T.2.1 T.2.2.1 f i s) (kx μ') (some (-10000000000000, μ')) ∧ Same μ0 μ' ∧ ∀ s', pvS T.2.1 T.2.2.1 f i s = some s' → PM μ' s'
  | 0, i, fuel, μ, s, h1, h2, hS, hP, hs => by
    obtain ⟨q, rfl⟩ : ∃ q, fuel = q + 1 := ⟨fuel - 1, by omega⟩
    have hn := hO.1
    refine ⟨μ, ?_, hS, fun s' e => by cases e; exact hP⟩
    simp only [f_M_proof_l66]
    rw [s_M_ordersOf htl (hM.same hS), zbnd_eq, zif_t (by rw [iI_le (by omega) (by omega) (by omega) (by omega)]; omega)]; rfl
  | f + 1, i, fuel, μ, s, h1, h2, hS, hP, hs => by
    obtain ⟨q, rfl⟩ : ∃ q, fuel = q + 1 := ⟨fuel - 1, by omega⟩
    have e : iI (i : Int) + (1 : Int32) = iI ((i + 1 : Nat) : Int) := by rw [ilit, iI_add]; congr 1
    have hn := hO.1
    have hM' := hM.same hS
    have hi' := hO.2.1 i (by omega)
    obtain ⟨μ1, a1, a2, a3⟩ := s_proves (N := N) (μ := μ) (s := s) (k := T.2.1 i) (x := T.2.2.1 i) hN hi'.1 hi'.2.1 hi'.2.2.1 hs hP
    simp only [f_M_proof_l66]
    rw [s_M_ordersOf htl hM', zbnd_eq, zif_f (by rw [iI_le (by omega) (by omega) (by omega) (by omega)]; omega), s_M_kindOf htl hM' (by omega) hn, zbnd_eq, s_M_xOf htl hM' (by omega) hn, zbnd_eq, a1, zbnd_eq, pvS_st]
    cases h : stS (T.2.1 i) (T.2.2.1 i) s with
    | none =>
      exact ⟨μ1, rfl, hS.tr a2.same, fun s' e => by cases e⟩
    | some s1 =>
      obtain ⟨μ', d1, d2, d3⟩ := prove_m (p1 := p1) (kx := kx) hN htl hM hO f (i + 1) q μ1 s1 (by omega) (by omega) (hS.tr a2.same) (a3 s1 h) (stS_ok hs hi'.2.2.1 h)
      refine ⟨μ', ?_, d2, d3⟩
      rw [zif_f (show ¬ so (some s1) (1 : Int32) 0 = 0 from (by decide : ¬ (1 : Int32) = 0)), zlt_eq, e]
      exact d1
theorem proof_z {N : Nat} {t : Nat} {T : Tb} {μ0 : ZMem} {p1 : Int32} {kx : ZMem → Option (Int64 × ZMem)} (htl : t < 4) (hM : TabM μ0 t T) : ∀ (f i fuel : Nat) (μ : ZMem), i + f = 6 → f < fuel → frJ μ0 μ → (∀ j, j < i → μ.2 45 0 j = lI (c6 (st0 T) j)) → ∃ μ', f_M_proof_l23 N (iI t) p1 kx fuel (iI i) μ = kx μ' ∧ frJ μ0 μ' ∧ P6 μ' (c6 (st0 T))
  | 0, i, fuel, μ, h1, h2, hS, hj => by
    obtain ⟨q, rfl⟩ : ∃ q, fuel = q + 1 := ⟨fuel - 1, by omega⟩
    refine ⟨μ, ?_, hS, fun j q => hj j (by omega)⟩
    simp only [f_M_proof_l23]
    rw [zif_t (by rw [ilit, iI_le (by omega) (by omega) (by omega) (by omega)]; omega)]
  | f + 1, i, fuel, μ, h1, h2, hS, hj => by
    obtain ⟨q, rfl⟩ : ∃ q, fuel = q + 1 := ⟨fuel - 1, by omega⟩
    have e : iI (i : Int) + (1 : Int32) = iI ((i + 1 : Nat) : Int) := by rw [ilit, iI_add]; congr 1
    have hz : zin (iI (i : Int)) (zlen 45 0) := zin_k 6 rfl (by omega) (by omega) (by omega)
    obtain ⟨μ', a1, a2, a3⟩ := proof_z (N := N) (p1 := p1) (kx := kx) htl hM f (i + 1) q (zsetJ μ 45 0 i (lI (c6 (st0 T) i))) (by omega) (by omega) (hS.set rfl) (fun j q => by
      rw [rJ]
      by_cases c : j = i
      · rw [if_pos ⟨rfl, rfl, c⟩, c]
      · rw [if_neg (fun q => c q.2.2)]; exact hj j (by omega))
    refine ⟨μ', ?_, a2, a3⟩
    have hH : f_M_isHidden N μ (iI t) 0 = some (if T.2.2.2.1 0 = -1 then 0 else 1, μ) := s_M_isHidden (l := 0) htl (hM.same hS.same) (by omega)
    simp only [f_M_proof_l23]
    rw [zif_f (by rw [ilit, iI_le (by omega) (by omega) (by omega) (by omega)]; omega)]
    simp only [zlt_eq, zchk_t hz, e, cl_nat (show i < 2147483648 by omega), hH, zbnd_eq]
    rw [← a1]
    by_cases i5 : i = 5
    · rw [zif_t (by rw [i5]; rfl), show c6 (st0 T) i = 1 by unfold c6; rw [if_pos i5]; rfl]; rfl
    · rw [zif_f (by rw [ilit, iI_eq (by omega) (by omega) (by omega) (by omega)]; omega)]
      by_cases i0 : i = 0
      · rw [zif_t (by rw [i0]; rfl)]
        by_cases d : T.2.2.2.1 0 = -1
        · rw [if_pos d, zif_t rfl, show c6 (st0 T) i = 0 by unfold c6 st0; rw [if_neg i5]; exact if_neg (fun q => q.2 d)]; rfl
        · rw [if_neg d, zif_f (by decide), show c6 (st0 T) i = 1 by unfold c6 st0; rw [if_neg i5]; exact if_pos ⟨i0, d⟩]; rfl
      · rw [zif_f (by rw [zi0, iI_eq (by omega) (by omega) (by omega) (by omega)]; omega), show c6 (st0 T) i = 0 by unfold c6 st0; rw [if_neg i5]; exact if_neg (fun q => i0 q.1)]; rfl
theorem ag_proof (N : Nat) (hN : 130 ≤ N) (p0 p1 : Int32) : Agree (fun μ => f_A_proof N μ p0 p1) (fun μ => f_M_proof N μ p0 p1) := by
  refine Agree.same (fun μ hI => ?_)
  unfold f_A_proof f_M_proof
  rcases tab_split hI N p0 with ⟨h1, h2⟩ | ⟨t, ht, rfl, htn, h1, h2⟩
  · exact ⟨_, μ, μ, by simp only [h1, zbrf_n]; rfl, by simp only [h2 μ Same.rf, zbnd_eq]; rfl, Same.rf, Same.rf⟩
  · obtain ⟨hC, hM, hO⟩ := hI.tab htn
    have hn := hO.1
    obtain ⟨p, hp1, hp2, rfl⟩ := iI_ex p1
    generalize hT : tabOf μ t = T at hC hM hO hn
    have eI : ∀ μ' : ZMem, f_M_isIn N μ' (iI p) 0 5 = some (if 0 ≤ p ∧ p ≤ 5 then 1 else 0, μ') := fun μ' => s_M_isIn (a := 0) (b := 5) hp1 hp2 (by omega) (by omega) (by omega) (by omega)
    by_cases c : 0 ≤ p ∧ p ≤ 5
    · obtain ⟨l, rfl⟩ : ∃ l : Nat, p = l := ⟨p.toNat, by omega⟩
      obtain ⟨μ1, a1, a2, a3⟩ := s_prove (N := N) hN ht hC hO
      have hM1 := hM.same a2
      obtain ⟨kx, hkx⟩ : ∃ kx : ZMem → Option (Int64 × ZMem), kx = fun (μ32 : ZMem) => zchk (zin (iI (l : Int)) (zlen 45 0)) (zret (μ32.2 45 0 (iI (l : Int)).toNatClampNeg) μ32) := ⟨_, rfl⟩
      obtain ⟨μ2, b1, b2, b3⟩ := proof_z (N := N) (p1 := iI (l : Int)) (μ0 := μ1) (kx := fun (μ19 : ZMem) => zlt (0 : Int32) (fun (x20 : Int32) => f_M_proof_l66 N (iI (t : Int)) (iI (l : Int)) kx N x20 μ19)) ht hM1 6 0 N μ1 (by omega) (by omega) frJ.rf (fun j hj => by omega)
      have b1' : f_M_proof_l23 N (iI (t : Int)) (iI (l : Int)) (fun (μ19 : ZMem) => zlt (0 : Int32) (fun (x20 : Int32) => f_M_proof_l66 N (iI (t : Int)) (iI (l : Int)) kx N x20 μ19)) N 0 μ1 = f_M_proof_l66 N (iI (t : Int)) (iI (l : Int)) kx N 0 μ2 := b1
      obtain ⟨μ3, d1, d2, d3⟩ := prove_m (N := N) (p1 := iI (l : Int)) (kx := kx) (μ0 := μ1) hN ht hM1 hO T.1 0 N μ2 (st0 T) (by omega) (by omega) b2.same (PM_6.2 b3) st0_ok
      have d1' : f_M_proof_l66 N (iI (t : Int)) (iI (l : Int)) kx N 0 μ2 = so (pvS T.2.1 T.2.2.1 T.1 0 (st0 T)) (kx μ3) (some (-10000000000000, μ3)) := d1
      refine ⟨(match pvS T.2.1 T.2.2.1 T.1 0 (st0 T) with | none => -10000000000000 | some s => lI (c6 s l)), μ1, μ3, ?_, ?_, a2, d2⟩
      · simp only [h1, zbrf_s]
        rw [zchk_t ht, zif_f (by rw [zi0, iI_lt (by omega) (by omega) (by omega) (by omega)]; omega), zif_f (by rw [ilit, iI_lt (by omega) (by omega) (by omega) (by omega)]; omega), a1, zbnd_eq]
        cases h : pvS T.2.1 T.2.2.1 T.1 0 (st0 T) with
        | none => rfl
        | some s =>
          have hPA := a3 s h
          rw [zif_f (show ¬ so (some s) (1 : Int32) 0 = 0 from (by decide : ¬ (1 : Int32) = 0))]
          by_cases c5 : l = 5
          · rw [zif_t (by rw [ilit, iI_lt (by omega) (by omega) (by omega) (by omega)]; omega), hPA.2]
            simp only [c6, if_pos c5]; rfl
          · rw [zif_f (by rw [ilit, iI_lt (by omega) (by omega) (by omega) (by omega)]; omega), zchk_t (zin_k 5 rfl (by omega) (by omega) (by omega)), cl_nat (by omega), hPA.1 l (by omega)]
            simp only [c6, if_neg c5]; rfl
      · simp only [h2 _ a2, zbnd_eq]
        rw [zif_f (by decide), eI, zbnd_eq, if_pos c, zif_f (by decide), zlt_eq]
        rw [hkx] at b1' d1'
        rw [b1', d1']
        cases h : pvS T.2.1 T.2.2.1 T.1 0 (st0 T) with
        | none => rfl
        | some s =>
          have hPM := PM_6.1 (d3 s h)
          show zchk (zin (iI (l : Int)) (zlen 45 0)) (zret (μ3.2 45 0 (iI (l : Int)).toNatClampNeg) μ3) = _
          rw [zchk_t (zin_k 6 rfl (by omega) (by omega) (by omega)), cl_nat (by omega), hPM l (by omega)]; rfl
    · refine ⟨-10000000000000, μ, μ, ?_, ?_, Same.rf, Same.rf⟩
      · simp only [h1, zbrf_s]
        rw [zchk_t ht]
        by_cases c1 : p < 0
        · rw [zif_t (by rw [zi0, iI_lt (by omega) (by omega) (by omega) (by omega)]; omega)]; rfl
        · rw [zif_f (by rw [zi0, iI_lt (by omega) (by omega) (by omega) (by omega)]; omega), zif_t (by rw [ilit, iI_lt (by omega) (by omega) (by omega) (by omega)]; omega)]; rfl
      · simp only [h2 μ Same.rf, zbnd_eq]
        rw [zif_f (by decide), eI, zbnd_eq, if_neg c, zif_t rfl]; rfl
