/-! all that may be thought, step by step -/
def thN (T : Tb) : Nat → (Nat → Int)
  | 0 => lo T
  | m + 1 => nx T 4 (thN T m)
theorem thN_in {T : Tb} (hO : TabOk T) : ∀ m, inB T (thN T m)
  | 0 => inB_lo hO
  | m + 1 => nx_in hO 4 _ (by omega) (thN_in hO m)
def frQ (μ μ' : ZMem) : Prop := (∀ k i x, ¬ (k = 26 ∧ i = 2) → μ'.1 k i x = μ.1 k i x) ∧ ∀ k i x, k ≠ 7 → k ≠ 32 → k ≠ 33 → μ'.2 k i x = μ.2 k i x
theorem frQ.rf {μ : ZMem} : frQ μ μ := ⟨fun _ _ _ _ => rfl, fun _ _ _ _ _ _ => rfl⟩
theorem frQ.tr {μ μ' μ'' : ZMem} (h : frQ μ μ') (h' : frQ μ' μ'') : frQ μ μ'' := ⟨fun k i x q => (h'.1 k i x q).trans (h.1 k i x q), fun k i x q1 q2 q3 => (h'.2 k i x q1 q2 q3).trans (h.2 k i x q1 q2 q3)⟩
theorem frQ.same {μ μ' : ZMem} (h : frQ μ μ') : Same μ μ' := ⟨fun k i x q => h.1 k i x (fun e => by
  rw [e.1, e.2] at q
  have : relI 26 2 x = false := by unfold relI; simp
  rw [this] at q; cases q), fun k i x q => h.2 k i x (fun e => by rw [e] at q; cases q) (fun e => by rw [e] at q; cases q) (fun e => by rw [e] at q; cases q)⟩
theorem frA.q {μ μ' : ZMem} (h : frA 2 μ μ') : frQ μ μ' := ⟨h.2, fun k i x _ _ _ => by rw [h.1]⟩
theorem frQ.setJ {μ μ' : ZMem} {k i x : Nat} {v : Int64} (h : frQ μ μ') (hk : k = 7 ∨ k = 32 ∨ k = 33) : frQ μ (zsetJ μ' k i x v) := ⟨h.1, fun k' i' x' q1 q2 q3 => by rw [rJ, if_neg (by omega)]; exact h.2 k' i' x' q1 q2 q3⟩
def aR (μ : ZMem) (n : Nat) (V : Nat → Option (Int × Int)) : Prop := ∀ m, m < n → (V m = none → μ.2 33 0 m = 0) ∧ ∀ v, V m = some v → isV v ∧ μ.2 32 0 m = lI v.1 ∧ μ.2 33 0 m = lI v.2
def mixV (V V' : Nat → Option (Int × Int)) (m : Nat) : Nat → Option (Int × Int) := fun u => if u < m then V' u else V u
theorem aR_set {ν : ZMem} {n m : Nat} {V V' : Nat → Option (Int × Int)} {ω : ZMem} (h : aR ν n (mixV V V' m)) (h1 : ∀ u, u ≠ m → ω.2 32 0 u = ν.2 32 0 u ∧ ω.2 33 0 u = ν.2 33 0 u) (h2 : V' m = none → ω.2 33 0 m = 0) (h3 : ∀ v, V' m = some v → isV v ∧ ω.2 32 0 m = lI v.1 ∧ ω.2 33 0 m = lI v.2) : aR ω n (mixV V V' (m + 1)) := fun u hu => by
  unfold mixV
  by_cases c : u = m
  · rw [if_pos (by omega), c]; exact ⟨h2, h3⟩
  · have := h u hu
    unfold mixV at this
    rw [(h1 u c).1, (h1 u c).2]
    by_cases d : u < m
    · rw [if_pos (by omega)]; rw [if_pos d] at this; exact this
    · rw [if_neg (by omega)]; rw [if_neg d] at this; exact this
theorem aR_end {ν : ZMem} {n m : Nat} {V V' : Nat → Option (Int × Int)} (h : aR ν n (mixV V V' m)) (hm : n ≤ m) : aR ν n V' := fun u hu => by
  have := h u hu
  unfold mixV at this
  rw [if_pos (by omega)] at this
  exact this
theorem start_l {N : Nat} {μ : ZMem} {t n : Nat} {T : Tb} {V' : Nat → Option (Int × Int)} (hN : 2000 ≤ N) (htl : t < 4) (hC : TabC μ t T) (hO : TabOk T) (hn : n ≤ 500) (hc : μ.1 10 0 5 = iI n) (hV : ∀ m, V' m = if μ.1 34 0 m = -1 then none else some (bg T (thN T m), 1)) : ∀ (f m fuel : Nat) (ν : ZMem), m + f = n → f < fuel → frQ μ ν → thC ν 2 (thN T m) → (∀ u, u < m → (V' u = none → ν.2 33 0 u = 0) ∧ ∀ v, V' u = some v → isV v ∧ ν.2 32 0 u = lI v.1 ∧ ν.2 33 0 u = lI v.2) →
    ∃ ν', f_Parting_startAll_l8 N t 2 0 fuel (iI m) ν = some ((), ν') ∧ frQ μ ν' ∧ aR ν' n V'
  | 0, m, fuel, ν, h1, h2, hF, hth, hu => by
    obtain ⟨q, rfl⟩ : ∃ q, fuel = q + 1 := ⟨fuel - 1, by omega⟩
    refine ⟨ν, ?_, hF, fun u hun => hu u (by omega)⟩
    simp only [f_Parting_startAll_l8]
    rw [hF.1 10 0 5 (by omega), hc, zif_t (by rw [iI_le (by omega) (by omega) (by omega) (by omega)]; omega)]; rfl
  | f + 1, m, fuel, ν, h1, h2, hF, hth, hu => by
    obtain ⟨q, rfl⟩ : ∃ q, fuel = q + 1 := ⟨fuel - 1, by omega⟩
    have e : iI (m : Int) + (1 : Int32) = iI ((m + 1 : Nat) : Int) := by rw [ilit, iI_add]; congr 1
    have hB := thN_in hO m
    have hok := hB.ok hO
    have hC' := hC.same hF.same
    have z2 : zin (iI (m : Int)) (zlen 32 0) := zin_k 500 rfl (by omega) (by omega) (by omega)
    have z3 : zin (iI (m : Int)) (zlen 33 0) := zin_k 500 rfl (by omega) (by omega) (by omega)
    have z4 : zin (iI (m : Int)) (zlen 34 0) := zin_k 500 rfl (by omega) (by omega) (by omega)
    have hg : ν.1 34 0 m = μ.1 34 0 m := hF.1 34 0 m (by omega)
    obtain ⟨y, hy⟩ : ∃ y : Int64, y = if μ.1 34 0 m = -1 then 0 else lI 1 := ⟨_, rfl⟩
    obtain ⟨ω, hω⟩ : ∃ ω, ω = zsetJ (zsetJ (setV ν 0 (bg T (thN T m), 1)) 32 0 m (lI (bg T (thN T m)))) 33 0 m y := ⟨_, rfl⟩
    have fω : frQ μ ω := by rw [hω]; exact (((hF.setJ (Or.inl rfl)).setJ (Or.inl rfl)).setJ (Or.inr (Or.inl rfl))).setJ (Or.inr (Or.inr rfl))
    have w32 : ω.2 32 0 m = lI (bg T (thN T m)) := by rw [hω, rJ, if_neg (by omega), rJ, if_pos ⟨rfl, rfl, rfl⟩]
    have w33 : ω.2 33 0 m = y := by rw [hω, rJ, if_pos ⟨rfl, rfl, rfl⟩]
    have wo : ∀ u, u ≠ m → ω.2 32 0 u = ν.2 32 0 u ∧ ω.2 33 0 u = ν.2 33 0 u := fun u hne => by
      rw [hω]
      unfold setV
      constructor
      · rw [rJ, if_neg (by omega), rJ, if_neg (by omega), rJ, if_neg (by omega), rJ, if_neg (by omega)]
      · rw [rJ, if_neg (by omega), rJ, if_neg (by omega), rJ, if_neg (by omega), rJ, if_neg (by omega)]
    have hthω : thC ω 2 (thN T m) := by rw [hω]; exact hth
    obtain ⟨μ9, b1, b2, b3⟩ := s_nextOfAll (N := N) (μ := ω) (t := t) (p := 2) (by omega) (by omega) rfl (hC.same fω.same) hO hthω hB
    obtain ⟨ν', d1, d2, d3⟩ := start_l hN htl hC hO hn hc hV f (m + 1) q μ9 (by omega) (by omega) (fω.tr b3.q) b2 (fun u hu1 => by
      rw [b3.1]
      by_cases d : u = m
      · rw [d, hV, w32, w33, hy]
        by_cases g : μ.1 34 0 m = -1
        · rw [if_pos g, if_pos g]; exact ⟨fun _ => rfl, fun v e => by cases e⟩
        · rw [if_neg g, if_neg g]; exact ⟨fun e => (by cases e), fun v e => (by cases e; exact ⟨bg_isV hok, rfl, rfl⟩)⟩
      · rw [(wo u d).1, (wo u d).2]; exact hu u (by omega))
    refine ⟨ν', ?_, d2, d3⟩
    simp only [f_Parting_startAll_l8]
    have r1 : (zsetJ (setV ν 0 (bg T (thN T m), 1)) 32 0 m (lI (bg T (thN T m)))).1 34 0 m = μ.1 34 0 m := hg
    have r2 : (zsetJ (setV ν 0 (bg T (thN T m), 1)) 32 0 m (lI (bg T (thN T m)))).2 7 0 1 = lI 1 := by rw [rJ, if_neg (by omega)]; exact setV_1
    rw [hF.1 10 0 5 (by omega), hc, zif_f (by rw [iI_le (by omega) (by omega) (by omega) (by omega)]; omega), s_Table_begin hC' hO hth hok, zbnd_eq, zchk_t z2]
    simp only [zlt_eq, zchk_t z4, zchk_t z3, cl_nat (show m < 2147483648 by omega), setV_0, r1, r2, e]
    by_cases g : μ.1 34 0 m = -1
    · rw [if_pos g] at hy
      rw [zif_t g, show (0 : Int64) = y from hy.symm, ← hω, b1, zbnd_eq]
      exact d1
    · rw [if_neg g] at hy
      rw [zif_f g, ← hy, ← hω, b1, zbnd_eq]
      exact d1
theorem s_startAll {N : Nat} {μ : ZMem} {t n : Nat} {T : Tb} {V' : Nat → Option (Int × Int)} (hN : 2000 ≤ N) (htl : t < 4) (hC : TabC μ t T) (hO : TabOk T) (hn : n ≤ 500) (hc : μ.1 10 0 5 = iI n) (hV : ∀ m, V' m = if μ.1 34 0 m = -1 then none else some (bg T (thN T m), 1)) : ∃ ν', f_Parting_startAll N μ t 2 0 = some ((), ν') ∧ frQ μ ν' ∧ aR ν' n V' := by
  obtain ⟨μ1, b1, b2, b3⟩ := s_firstOfAll (N := N) (μ := μ) (t := t) (p := 2) (by omega) (by omega) rfl hC hO
  unfold f_Parting_startAll
  rw [b1, zbnd_eq, zlt_eq]
  exact start_l hN htl hC hO hn hc hV n 0 N μ1 (by omega) (by omega) b3.q b2 (fun u hu => by omega)
def stV (T : Tb) (i : Nat) (V : Nat → Option (Int × Int)) : Nat → Option (Int × Int) := fun m => match V m with
  | none => none
  | some v => ordS (T.2.1 i) (amt (T.2.2.1 i) (thN T m)) v
theorem step_l {N : Nat} {μ : ZMem} {t n i : Nat} {T : Tb} {V : Nat → Option (Int × Int)} (hN : 2000 ≤ N) (htl : t < 4) (hC : TabC μ t T) (hO : TabOk T) (hn : n ≤ 500) (hc : μ.1 10 0 5 = iI n) (hi : i < T.1) : ∀ (f m fuel : Nat) (ν : ZMem), m + f = n → f < fuel → frQ μ ν → thC ν 2 (thN T m) → aR ν n (mixV V (stV T i V) m) →
    ∃ ν', f_Parting_stepAll_l8 N t (iI i) 2 0 fuel (iI m) ν = some ((), ν') ∧ frQ μ ν' ∧ aR ν' n (stV T i V)
  | 0, m, fuel, ν, h1, h2, hF, hth, hu => by
    obtain ⟨q, rfl⟩ : ∃ q, fuel = q + 1 := ⟨fuel - 1, by omega⟩
    refine ⟨ν, ?_, hF, aR_end hu (by omega)⟩
    simp only [f_Parting_stepAll_l8]
    rw [hF.1 10 0 5 (by omega), hc, zif_t (by rw [iI_le (by omega) (by omega) (by omega) (by omega)]; omega)]; rfl
  | f + 1, m, fuel, ν, h1, h2, hF, hth, hu => by
    obtain ⟨q, rfl⟩ : ∃ q, fuel = q + 1 := ⟨fuel - 1, by omega⟩
    have e : iI (m : Int) + (1 : Int32) = iI ((m + 1 : Nat) : Int) := by rw [ilit, iI_add]; congr 1
    have hB := thN_in hO m
    have hok := hB.ok hO
    have hC' := hC.same hF.same
    have hl : zlen 22 t = 24 := by rw [len22, if_pos htl]
    have hl3 : zlen 23 t = zlen 22 t := rfl
    have hnn := hO.1
    have z2 : zin (iI (m : Int)) (zlen 32 0) := zin_k 500 rfl (by omega) (by omega) (by omega)
    have z3 : zin (iI (m : Int)) (zlen 33 0) := zin_k 500 rfl (by omega) (by omega) (by omega)
    have hum := hu m (by omega)
    have hmx : mixV V (stV T i V) m m = V m := by unfold mixV; rw [if_neg (by omega)]
    rw [hmx] at hum
    have hnext : ∀ ω : ZMem, frQ μ ω → thC ω 2 (thN T m) → aR ω n (mixV V (stV T i V) (m + 1)) → ∃ ν', zbnd (f_Table_nextOfAll N ω t 2) (fun _ (μ7 : ZMem) => f_Parting_stepAll_l8 N t (iI i) 2 0 q (iI ((m + 1 : Nat) : Int)) μ7) = some ((), ν') ∧ frQ μ ν' ∧ aR ν' n (stV T i V) := fun ω r1 r2 r3 => by
      obtain ⟨μ9, b1, b2, b3⟩ := s_nextOfAll (N := N) (μ := ω) (t := t) (p := 2) (by omega) (by omega) rfl (hC.same r1.same) hO r2 hB
      rw [b1, zbnd_eq]
      exact step_l hN htl hC hO hn hc hi f (m + 1) q μ9 (by omega) (by omega) (r1.tr b3.q) b2 (fun u hu1 => by rw [b3.1]; exact r3 u hu1)
    simp only [f_Parting_stepAll_l8]
    rw [hF.1 10 0 5 (by omega), hc, zif_f (by rw [iI_le (by omega) (by omega) (by omega) (by omega)]; omega), zchk_t z3]
    simp only [zlt_eq, zchk_t z3, zchk_t z2, cl_nat (show m < 2147483648 by omega), cl_nat (show i < 2147483648 by omega), e]
    cases hv : V m with
    | none =>
      rw [zif_t (by rw [lcmp_eqv]; exact hum.1 hv)]
      exact hnext ν hF hth (aR_set hu (fun u _ => ⟨rfl, rfl⟩) (fun _ => hum.1 hv) (fun v e => by unfold stV at e; rw [hv] at e; cases e))
    | some v =>
      obtain ⟨v1, v2, v3⟩ := hum.2 v hv
      obtain ⟨p1, p2, p3, p4, p5⟩ := id v1
      have hv0 : ¬ ν.2 33 0 m = 0 := by rw [v3, zl0, lI_eq (by omega) (by omega) (by omega) (by omega)]; omega
      have r1 : (zsetJ ν 7 0 0 (lI v.1)).2 33 0 m = lI v.2 := by rw [rJ, if_neg (by omega)]; exact v3
      have hi' := hO.2.1 i hi
      have hci := hC'.1.2 i hi
      have ha := amt_rng hi'.2.2.1 hok
      have hsv : zsetJ (zsetJ ν 7 0 0 (lI v.1)) 7 0 1 (lI v.2) = setV ν 0 v := rfl
      have hk : (setV ν 0 v).1 22 t i = iI (T.2.1 i) := hci.1
      rw [zif_f (by rw [lcmp_eqv]; exact hv0), v2, r1, hsv, zchk_t (zin_iI (by omega) (by omega) (by omega)), s_Orders_amount (μ := setV ν 0 v) (x := T.2.2.1 i) (th := thN T m) hi'.2.2.1 hci.2 hth (by omega), zbnd_eq, hk, s_Value_obey (by omega) v1 setV_0 setV_1 hi'.1 hi'.2.1 ha.1 ha.2 (fun q => amt8 (hi'.2.2.2 q))]
      have fV : ∀ w, frQ μ (setV ν 0 w) := fun w => (hF.setJ (Or.inl rfl)).setJ (Or.inl rfl)
      cases h : ordS (T.2.1 i) (amt (T.2.2.1 i) (thN T m)) v with
      | none =>
        simp only [ansV, zbnd_eq, setV_0]
        rw [zif_t trivial]
        refine hnext (zsetJ (zsetJ (setV ν 0 v) 32 0 m (lI v.1)) 33 0 m 0) (((fV v).setJ (Or.inr (Or.inl rfl))).setJ (Or.inr (Or.inr rfl))) hth (aR_set hu (fun u hne => ?_) (fun _ => by rw [rJ, if_pos ⟨rfl, rfl, rfl⟩]) (fun w e => by unfold stV at e; rw [hv] at e; simp only at e; rw [h] at e; cases e))
        unfold setV
        constructor
        · rw [rJ, if_neg (by omega), rJ, if_neg (by omega), rJ, if_neg (by omega), rJ, if_neg (by omega)]
        · rw [rJ, if_neg (by omega), rJ, if_neg (by omega), rJ, if_neg (by omega), rJ, if_neg (by omega)]
      | some w =>
        have hw := ordS_isV v1 ha.1 h
        have r2 : (zsetJ (setV ν 0 w) 32 0 m (lI w.1)).2 7 0 1 = lI w.2 := by rw [rJ, if_neg (by omega)]; exact setV_1
        simp only [ansV, zbnd_eq, setV_setV, setV_0, r2]
        rw [zif_f (by decide)]
        refine hnext (zsetJ (zsetJ (setV ν 0 w) 32 0 m (lI w.1)) 33 0 m (lI w.2)) (((fV w).setJ (Or.inr (Or.inl rfl))).setJ (Or.inr (Or.inr rfl))) hth (aR_set hu (fun u hne => ?_) (fun e => by unfold stV at e; rw [hv] at e; simp only at e; rw [h] at e; cases e) (fun w2 e => by
          unfold stV at e; rw [hv] at e; simp only at e; rw [h] at e; cases e
          exact ⟨hw, by rw [rJ, if_neg (by omega), rJ, if_pos ⟨rfl, rfl, rfl⟩], by rw [rJ, if_pos ⟨rfl, rfl, rfl⟩]⟩))
        unfold setV
        constructor
        · rw [rJ, if_neg (by omega), rJ, if_neg (by omega), rJ, if_neg (by omega), rJ, if_neg (by omega)]
        · rw [rJ, if_neg (by omega), rJ, if_neg (by omega), rJ, if_neg (by omega), rJ, if_neg (by omega)]
theorem s_stepAll {N : Nat} {μ : ZMem} {t n i : Nat} {T : Tb} {V : Nat → Option (Int × Int)} (hN : 2000 ≤ N) (htl : t < 4) (hC : TabC μ t T) (hO : TabOk T) (hn : n ≤ 500) (hc : μ.1 10 0 5 = iI n) (hi : i < T.1) (hV : aR μ n V) : ∃ ν', f_Parting_stepAll N μ t (iI i) 2 0 = some ((), ν') ∧ frQ μ ν' ∧ aR ν' n (stV T i V) := by
  obtain ⟨μ1, b1, b2, b3⟩ := s_firstOfAll (N := N) (μ := μ) (t := t) (p := 2) (by omega) (by omega) rfl hC hO
  unfold f_Parting_stepAll
  rw [b1, zbnd_eq, zlt_eq]
  refine step_l hN htl hC hO hn hc hi n 0 N μ1 (by omega) (by omega) b3.q b2 (fun u hu => ?_)
  rw [b3.1]
  have : mixV V (stV T i V) 0 u = V u := by unfold mixV; rw [if_neg (by omega)]
  rw [this]
  exact hV u hu
