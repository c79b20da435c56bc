/-! the reference: all rows laid -/
def frL (r : Nat) (ν ν' : ZMem) : Prop := ν'.1 = ν.1 ∧ ∀ k i x, k ≠ 12 → ¬ ((k = 47 ∨ k = 48) ∧ 24 * r ≤ x) → ν'.2 k i x = ν.2 k i x
theorem frL.rf {r : Nat} {ν : ZMem} : frL r ν ν := ⟨rfl, fun _ _ _ _ _ => rfl⟩
theorem frL.tr {r : Nat} {ν ν' ν'' : ZMem} (h : frL r ν ν') (h' : frL r ν' ν'') : frL r ν ν'' := ⟨h'.1.trans h.1, fun k i x q1 q2 => (h'.2 k i x q1 q2).trans (h.2 k i x q1 q2)⟩
theorem frL.same {r : Nat} {ν ν' : ZMem} (h : frL r ν ν') : Same ν ν' := ⟨fun k i x _ => by rw [h.1], fun k i x q => h.2 k i x (fun e => by rw [e] at q; cases q) (fun e => by rcases e.1 with e | e <;> (rw [e] at q; cases q))⟩
theorem frL.set12 {r x : Nat} {ν ν' : ZMem} {v : Int64} (h : frL r ν ν') : frL r ν (zsetJ ν' 12 0 x v) := ⟨h.1, fun k i y q1 q2 => by rw [rJ, if_neg (fun e => q1 e.1)]; exact h.2 k i y q1 q2⟩
theorem frL.setM {r : Nat} {ν ν' : ZMem} {v : Int × Int} (h : frL r ν ν') : frL r ν (setM ν' v) := h.set12.set12
theorem frL.set47 {r k x : Nat} {ν ν' : ZMem} {v : Int64} (h : frL r ν ν') (hk : k = 47 ∨ k = 48) (hx : 24 * r ≤ x) : frL r ν (zsetJ ν' k 0 x v) := ⟨h.1, fun k' i y q1 q2 => by rw [rJ, if_neg (fun e => q2 ⟨by rw [e.1]; exact hk, by omega⟩)]; exact h.2 k' i y q1 q2⟩
/-- row r holds what m comes to, order by order, up to i -/
def rwR (ν : ZMem) (T : Tb) (r m i : Nat) : Prop := ∀ j, j < i → ∃ v, vv T (j + 1) m = some v ∧ isV v ∧ ν.2 47 0 (24 * r + j) = lI v.1 ∧ ν.2 48 0 (24 * r + j) = lI v.2
theorem vv_V {T : Tb} (hO : TabOk T) {m : Nat} {v : Int × Int} : ∀ i, i ≤ T.1 → vv T i m = some v → isV v := by
  intro i
  induction i generalizing v with
  | zero => intro _ h; cases h; exact bg_isV ((thN_in hO m).ok hO)
  | succ i ih =>
    intro hi h
    have h' : stV T i (vv T i) m = some v := h
    unfold stV at h'
    cases h2 : vv T i m with
    | none => rw [h2] at h'; cases h'
    | some w =>
      rw [h2] at h'
      exact ordS_isV (ih (by omega) h2) (amt_rng (hO.2.1 i (by omega)).2.2.1 ((thN_in hO m).ok hO)).1 h'
theorem lay_l {N : Nat} {μ : ZMem} {t n m r : Nat} {T : Tb} {p1 z5 : Int32} {kx : Int32 → ZMem → Option (Int32 × ZMem)} (hN : 2000 ≤ N) (htl : t < 4) (hM : TabM μ t T) (hO : TabOk T) (hr : r < 500) (hth : thM μ (thN T m)) : ∀ (f i fuel : Nat) (ν : ZMem) (w : Int × Int), i + f = T.1 → f + 1 < fuel → frL r μ ν → vv T i m = some w → ν.2 12 0 15 = lI w.1 → ν.2 12 0 16 = lI w.2 → rwR ν T r m i →
    ∃ ν', f_M_layAll_l27 N (iI t) p1 (iI r) z5 kx fuel 1 (iI i) ν = kx (bI (eA T m)) ν' ∧ frL r μ ν' ∧ (eA T m = true → rwR ν' T r m T.1)
  | 0, i, fuel, ν, w, h1, h2, hF, hv, w1, w2, hR => by
    obtain ⟨q, rfl⟩ : ∃ q, fuel = q + 1 := ⟨fuel - 1, by omega⟩
    have : i = T.1 := by omega
    subst this
    have hnn := hO.1
    have hA : eA T m = true := by unfold eA; rw [hv]; rfl
    refine ⟨ν, ?_, hF, fun _ => hR⟩
    simp only [f_M_layAll_l27]
    rw [s_M_ordersOf htl (hM.same hF.same), zbnd_eq, zif_t (by rw [iI_le (by omega) (by omega) (by omega) (by omega)]; omega), hA]; rfl
  | f + 1, i, fuel, ν, w, h1, h2, hF, hv, w1, w2, hR => by
    obtain ⟨q, rfl⟩ : ∃ q, fuel = q + 1 := ⟨fuel - 1, by omega⟩
    have e : iI (i : Int) + (1 : Int32) = iI ((i + 1 : Nat) : Int) := by rw [ilit, iI_add]; congr 1
    have hnn := hO.1
    have hM' := hM.same hF.same
    have hi' := hO.2.1 i (by omega)
    have hB := thN_in hO m
    have hok := hB.ok hO
    have ex : (24 : Int32) * iI (r : Int) + iI (i : Int) = iI ((24 * r + i : Nat) : Int) := by rw [ilit, iI_mul, iI_add]; congr 1
    have z7 : zin (iI ((24 * r + i : Nat) : Int)) (zlen 47 0) := zin_k 12000 rfl (by omega) (by omega) (by omega)
    have z8 : zin (iI ((24 * r + i : Nat) : Int)) (zlen 48 0) := zin_k 12000 rfl (by omega) (by omega) (by omega)
    have hthν : thM ν (thN T m) := fun j hj => by rw [hF.1]; exact hth j hj
    have hw := vv_V hO i (by omega) hv
    have hnx : vv T (i + 1) m = ordS (T.2.1 i) (amt (T.2.2.1 i) (thN T m)) w := by show stV T i (vv T i) m = _; unfold stV; rw [hv]
    simp only [f_M_layAll_l27]
    rw [s_M_ordersOf htl hM', zbnd_eq, zif_f (by rw [iI_le (by omega) (by omega) (by omega) (by omega)]; omega), zif_f (by decide), s_M_kindOf htl hM' (by omega) hnn, zbnd_eq, s_M_xOf htl hM' (by omega) hnn, zbnd_eq, s_M_does (by omega) hw w1 w2 hthν hok hi'.1 hi'.2.1 hi'.2.2.1 (fun q => amt8 (hi'.2.2.2 q)), ex]
    have rd1 : ∀ (ω : ZMem) (x : Int64), (zsetJ ω 47 0 (24 * r + i) x).2 12 0 16 = ω.2 12 0 16 := fun ω x => by rw [rJ, if_neg (by omega)]
    cases h : ordS (T.2.1 i) (amt (T.2.2.1 i) (thN T m)) w with
    | none =>
      simp only [ansM, zbnd_eq, zlt_eq, zchk_t z7, zchk_t z8, cl_nat (show 24 * r + i < 2147483648 by omega), e, rd1]
      have hA : eA T m = false := by
        cases hA : eA T m with
        | false => rfl
        | true => exact absurd (hnx.trans h) (vv_mono (T.1 - (i + 1)) (i + 1) (by rw [show i + 1 + (T.1 - (i + 1)) = T.1 by omega]; exact eA_iff.1 hA))
      obtain ⟨ω, hω⟩ : ∃ ω, ω = zsetJ (zsetJ ν 47 0 (24 * r + i) (ν.2 12 0 15)) 48 0 (24 * r + i) (ν.2 12 0 16) := ⟨_, rfl⟩
      have hFω : frL r μ ω := by rw [hω]; exact (hF.set47 (Or.inl rfl) (by omega)).set47 (Or.inr rfl) (by omega)
      rw [← hω]
      refine ⟨ω, ?_, hFω, fun q => by rw [hA] at q; cases q⟩
      obtain ⟨q2, rfl⟩ : ∃ q2, q = q2 + 1 := ⟨q - 1, by omega⟩
      simp only [f_M_layAll_l27]
      rw [s_M_ordersOf htl (hM.same hFω.same), zbnd_eq, hA]
      by_cases c : T.1 ≤ i + 1
      · rw [zif_t (by rw [iI_le (by omega) (by omega) (by omega) (by omega)]; omega)]; rfl
      · rw [zif_f (by rw [iI_le (by omega) (by omega) (by omega) (by omega)]; omega), zif_t trivial]; rfl
    | some w' =>
      simp only [ansM, zbnd_eq, zlt_eq, zchk_t z7, zchk_t z8, cl_nat (show 24 * r + i < 2147483648 by omega), e, rd1, setM_0, setM_1]
      have hw' := vv_V hO (i + 1) (by omega) (hnx.trans h)
      obtain ⟨ω, hω⟩ : ∃ ω, ω = zsetJ (zsetJ (setM ν w') 47 0 (24 * r + i) (lI w'.1)) 48 0 (24 * r + i) (lI w'.2) := ⟨_, rfl⟩
      have hFω : frL r μ ω := by rw [hω]; exact ((hF.setM).set47 (Or.inl rfl) (by omega)).set47 (Or.inr rfl) (by omega)
      rw [← hω]
      refine lay_l (n := n) hN htl hM hO hr hth f (i + 1) q ω w' (by omega) (by omega) hFω (hnx.trans h) ?_ ?_ ?_
      · rw [hω, rJ, if_neg (by omega), rJ, if_neg (by omega)]; exact setM_0
      · rw [hω, rJ, if_neg (by omega), rJ, if_neg (by omega)]; exact setM_1
      · intro j hj
        by_cases c : j = i
        · refine ⟨w', by rw [c]; exact hnx.trans h, hw', ?_, ?_⟩
          · rw [hω, rJ, if_neg (by omega), rJ, if_pos ⟨rfl, rfl, by omega⟩]
          · rw [hω, rJ, if_pos ⟨rfl, rfl, by omega⟩]
        · obtain ⟨v, v1, v2, v3, v4⟩ := hR j (by omega)
          refine ⟨v, v1, v2, ?_, ?_⟩
          · rw [hω]; unfold setM; rw [rJ, if_neg (by omega), rJ, if_neg (by omega), rJ, if_neg (by omega), rJ, if_neg (by omega)]; exact v3
          · rw [hω]; unfold setM; rw [rJ, if_neg (by omega), rJ, if_neg (by omega), rJ, if_neg (by omega), rJ, if_neg (by omega)]; exact v4
theorem alS_le {A : Nat → Bool} : ∀ n, alS A n ≤ n
  | 0 => Nat.le_refl _
  | n + 1 => by
    have := alS_le (A := A) n
    show alS A n + _ ≤ _
    split <;> omega
theorem alS_mono {A : Nat → Bool} {u : Nat} : ∀ d, alS A u ≤ alS A (u + d)
  | 0 => Nat.le_refl _
  | d + 1 => by
    have := alS_mono (A := A) (u := u) d
    show _ ≤ alS A (u + d) + _
    split <;> omega
theorem alS_lt {A : Nat → Bool} {u u' : Nat} (h : u < u') (hA : A u = true) : alS A u < alS A u' := by
  have h1 : alS A (u + 1) = alS A u + 1 := by show alS A u + _ = _; rw [if_pos hA]
  have h2 := alS_mono (A := A) (u := u + 1) (u' - (u + 1))
  rw [show u + 1 + (u' - (u + 1)) = u' by omega] at h2
  omega
theorem alS_ex {A : Nat → Bool} {r : Nat} : ∀ n, r < alS A n → ∃ u, u < n ∧ A u = true ∧ alS A u = r
  | 0, h => by exact absurd h (by show ¬ r < 0; omega)
  | n + 1, h => by
    by_cases c : r < alS A n
    · obtain ⟨u, u1, u2⟩ := alS_ex n c
      exact ⟨u, by omega, u2⟩
    · have h' : r < alS A n + (if A n = true then 1 else 0) := h
      by_cases d : A n = true
      · rw [if_pos d] at h'
        exact ⟨n, by omega, d, by omega⟩
      · rw [if_neg d] at h'; omega
def rws (ν : ZMem) (T : Tb) (n : Nat) : Prop := ∀ u, u < n → eA T u = true → rwR ν T (alS (eA T) u) u T.1
theorem layAll_l {N : Nat} {μ : ZMem} {t n : Nat} {T : Tb} (hN : 2000 ≤ N) (htl : t < 4) (hM : TabM μ t T) (hO : TabOk T) (hn : n ≤ 500) : ∀ (f m fuel : Nat) (ν : ZMem), m + f = n → f < fuel → Same μ ν → thM ν (thN T m) → rws ν T m → ∃ ν', f_M_layAll_l10 N (iI t) (iI n) fuel (iI ((alS (eA T) m : Nat) : Int)) (iI m) ν = some (iI ((alS (eA T) n : Nat) : Int), ν') ∧ Same μ ν' ∧ rws ν' T n
  | 0, m, fuel, ν, h1, h2, hS, hth, hR => by
    obtain ⟨q, rfl⟩ : ∃ q, fuel = q + 1 := ⟨fuel - 1, by omega⟩
    have : m = n := by omega
    subst this
    refine ⟨ν, ?_, hS, hR⟩
    simp only [f_M_layAll_l10]
    rw [zif_t (by rw [iI_le (by omega) (by omega) (by omega) (by omega)]; omega)]; rfl
  | f + 1, m, fuel, ν, h1, h2, hS, hth, hR => by
    obtain ⟨q, rfl⟩ : ∃ q, fuel = q + 1 := ⟨fuel - 1, by omega⟩
    have e : iI (m : Int) + (1 : Int32) = iI ((m + 1 : Nat) : Int) := by rw [ilit, iI_add]; congr 1
    have hle := alS_le (A := eA T) m
    have e1 : iI ((alS (eA T) m : Nat) : Int) + (1 : Int32) = iI ((alS (eA T) m + 1 : Nat) : Int) := by rw [ilit, iI_add]; congr 1
    have e0 : iI ((alS (eA T) m : Nat) : Int) + (0 : Int32) = iI ((alS (eA T) m : Nat) : Int) := Int32.add_zero _
    have hnn := hO.1
    have hB := thN_in hO m
    have hok := hB.ok hO
    have hM' := hM.same hS
    obtain ⟨kx, hkx⟩ : ∃ kx : Int32 → ZMem → Option (Int32 × ZMem), kx = fun (x25 : Int32) (μ26 : ZMem) => zlt (fun (y27 : Int32) (μ28 : ZMem) => zlt (iI ((alS (eA T) m : Nat) : Int) + y27) (fun (x30 : Int32) => zbnd (f_M_thinkNext N μ28 (iI (t : Int))) (fun _ (μ31 : ZMem) => zlt (iI (m : Int) + (1 : Int32)) (fun (x32 : Int32) => f_M_layAll_l10 N (iI (t : Int)) (iI (n : Int)) q x30 x32 μ31)))) (fun k29 => zif (x25 = 0) (k29 (0 : Int32) μ26) (k29 (1 : Int32) μ26)) := ⟨_, rfl⟩
    obtain ⟨ν1, a1, a2, a3⟩ := lay_l (N := N) (μ := ν) (n := n) (m := m) (r := alS (eA T) m) (p1 := iI (n : Int)) (z5 := iI (m : Int)) (kx := kx) hN htl hM' hO (by omega) hth T.1 0 N (setM ν (bg T (thN T m), 1)) (bg T (thN T m), 1) (by omega) (by omega) frL.rf.setM rfl setM_0 setM_1 (fun j hj => by omega)
    have hS1 := hS.tr a2.same
    have hth1 : thM ν1 (thN T m) := fun j hj => by rw [a2.1]; exact hth j hj
    obtain ⟨ν2, b1, b2, b3⟩ := s_thinkNext (N := N) (μ := ν1) (t := t) (by omega) htl (hM.same hS1) hO hth1 hB
    have hS2 := hS1.tr b3.same
    have keep : ∀ u, u < m → eA T u = true → rwR ν2 T (alS (eA T) u) u T.1 := fun u hu hA j hj => by
      obtain ⟨v, v1, v2, v3, v4⟩ := hR u hu hA j hj
      have := alS_lt (A := eA T) hu hA
      refine ⟨v, v1, v2, ?_, ?_⟩
      · rw [b3.1, a2.2 47 0 _ (by omega) (by omega)]; exact v3
      · rw [b3.1, a2.2 48 0 _ (by omega) (by omega)]; exact v4
    have hR2 : rws ν2 T (m + 1) := fun u hu hA => by
      by_cases c : u = m
      · rw [c] at hA ⊢
        intro j hj
        obtain ⟨v, v1, v2, v3, v4⟩ := a3 hA j hj
        exact ⟨v, v1, v2, by rw [b3.1]; exact v3, by rw [b3.1]; exact v4⟩
      · exact keep u (by omega) hA
    obtain ⟨ν', d1, d2, d3⟩ := layAll_l hN htl hM hO hn f (m + 1) q ν2 (by omega) (by omega) hS2 b2 hR2
    refine ⟨ν', ?_, d2, d3⟩
    have a1' : f_M_layAll_l27 N (iI (t : Int)) (iI (n : Int)) (iI ((alS (eA T) m : Nat) : Int)) (iI (m : Int)) kx N 1 0 (setM ν (bg T (thN T m), 1)) = kx (bI (eA T m)) ν1 := a1
    simp only [f_M_layAll_l10]
    rw [zif_f (by rw [iI_le (by omega) (by omega) (by omega) (by omega)]; omega), s_M_begin htl hM' hth hok, zbnd_eq, zlt_eq, zlt_eq, ← hkx, a1', hkx]
    simp only [zlt_eq, b1, zbnd_eq, e, e1, e0]
    cases hA : eA T m with
    | false =>
      have : alS (eA T) (m + 1) = alS (eA T) m := by show alS (eA T) m + _ = _; rw [if_neg (by rw [hA]; decide)]; rfl
      rw [this] at d1
      rw [zif_t (show bI false = 0 from rfl)]
      exact d1
    | true =>
      have : alS (eA T) (m + 1) = alS (eA T) m + 1 := by show alS (eA T) m + _ = _; rw [if_pos hA]
      rw [this] at d1
      rw [zif_f (by decide)]
      exact d1
theorem s_layAll {N : Nat} {μ : ZMem} {t n : Nat} {T : Tb} (hN : 2000 ≤ N) (htl : t < 4) (hM : TabM μ t T) (hO : TabOk T) (hn : n ≤ 500) : ∃ ν', f_M_layAll N μ (iI t) (iI n) = some (iI ((alS (eA T) n : Nat) : Int), ν') ∧ Same μ ν' ∧ rws ν' T n := by
  obtain ⟨ν1, b1, b2, b3⟩ := s_thinkFirst (N := N) (μ := μ) (t := t) (by omega) htl hM hO
  unfold f_M_layAll
  rw [zlt_eq, b1, zbnd_eq, zlt_eq]
  exact layAll_l hN htl hM hO hn n 0 N ν1 (by omega) (by omega) b3.same b2 (fun u hu => by omega)
