def tl (T : Tb) (n i : Nat) : Prop := ∀ m m', m < m' → m' < n → eA T m = true → eA T m' = true → ¬ (sm T m m' T.1 ∧ vv T (i + 1) m = vv T (i + 1) m')
def lst (T : Tb) (n : Nat) (r : Int) : Prop := (∃ i, i < T.1 ∧ r = ((i : Nat) : Int) ∧ tl T n i ∧ ∀ j, j < i → ¬ tl T n j) ∨ (r = -1 ∧ ∀ j, j < T.1 → ¬ tl T n j)
theorem lst_uniq {T : Tb} {n : Nat} {r r' : Int} (h : lst T n r) (h' : lst T n r') : r = r' := by
  rcases h with ⟨i, i1, i2, i3, i4⟩ | ⟨h1, h2⟩
  · rcases h' with ⟨j, j1, j2, j3, j4⟩ | ⟨h1, h2⟩
    · by_cases c : i < j
      · exact absurd i3 (j4 i c)
      · by_cases d : j < i
        · exact absurd j3 (i4 j d)
        · omega
    · exact absurd i3 (h2 i i1)
  · rcases h' with ⟨j, j1, j2, j3, j4⟩ | ⟨h1', h2'⟩
    · exact absurd j3 (h2 j j1)
    · omega
def ww (T : Tb) (i : Nat) : Nat → Option (Int × Int) := fun m => if eA T m = true then vv T i m else none
theorem ww_st {T : Tb} {i : Nat} : stV T i (ww T i) = ww T (i + 1) := by
  funext m
  unfold ww
  by_cases c : eA T m = true
  · rw [if_pos c]
    show stV T i _ m = stV T i (vv T i) m
    unfold stV
    simp only [if_pos c]
  · rw [if_neg c]
    unfold stV
    simp only [if_neg c]
theorem ww_al {T : Tb} {i m : Nat} (hi : i ≤ T.1) : ww T i m ≠ none ↔ eA T m = true := by
  unfold ww
  by_cases c : eA T m = true
  · rw [if_pos c]
    refine ⟨fun _ => c, fun _ => ?_⟩
    have := eA_iff.1 c
    exact vv_mono (T.1 - i) i (by rw [show i + (T.1 - i) = T.1 by omega]; exact this)
  · rw [if_neg c]
    exact ⟨fun q => absurd rfl q, fun q => absurd q c⟩
theorem alS_congr {A B : Nat → Bool} : ∀ n, (∀ m, m < n → A m = B m) → alS A n = alS B n
  | 0, _ => rfl
  | n + 1, h => by
    show alS A n + _ = alS B n + _
    rw [alS_congr n (fun m hm => h m (by omega)), h n (by omega)]
theorem tell_l {N : Nat} {μ : ZMem} {t n : Nat} {T : Tb} (hN : 2000 ≤ N) (htl : t < 4) (hC : TabC μ t T) (hO : TabOk T) (hn : n ≤ 500) (hc : μ.1 10 0 5 = iI n) (hG : gI T n μ T.1) : ∀ (f i fuel : Nat) (ν : ZMem), i + f = T.1 → f < fuel → frR μ ν → (∀ m, ν.1 34 0 m = μ.1 34 0 m ∨ (n ≤ m ∨ eA T m = false)) → aR ν n (ww T i) → (∀ j, j < i → ¬ tl T n j) →
    ∃ r ν', f_Parting_lowestTelling_l32 N t 2 0 (iI ((alS (eA T) n : Nat) : Int)) fuel (iI i) ν = some (iI r, ν') ∧ Same μ ν' ∧ lst T n r
  | 0, i, fuel, ν, h1, h2, hF, hg, hV, hno => by
    obtain ⟨q, rfl⟩ : ∃ q, fuel = q + 1 := ⟨fuel - 1, by omega⟩
    have hnn := hO.1
    refine ⟨-1, ν, ?_, hF.1, Or.inr ⟨rfl, fun j hj => hno j (by omega)⟩⟩
    simp only [f_Parting_lowestTelling_l32]
    rw [(hC.same hF.1).1.1, zif_t (by rw [iI_le (by omega) (by omega) (by omega) (by omega)]; omega), m1]; rfl
  | f + 1, i, fuel, ν, h1, h2, hF, hg, hV, hno => by
    obtain ⟨q, rfl⟩ : ∃ q, fuel = q + 1 := ⟨fuel - 1, by omega⟩
    have e : iI (i : Int) + (1 : Int32) = iI ((i + 1 : Nat) : Int) := by rw [ilit, iI_add]; congr 1
    have hnn := hO.1
    have hC' := hC.same hF.1
    obtain ⟨ν1, a1, a2, a3⟩ := s_stepAll (N := N) (μ := ν) (i := i) hN htl hC' hO hn (hF.2.trans hc) (by omega) hV
    rw [ww_st] at a3
    have hF1 := hF.tr a2.r
    obtain ⟨ν2, b1, b2, b3⟩ := s_countGroups (N := N) (μ := ν1) (n := n) hN hn (hF1.2.trans hc)
    have hF2 := hF1.tr b2.r
    have hal : ∀ m, m < n → alA ν1 m = eA T m := fun m hm => by
      have k1 := aR_al a3 hm
      rw [ww_al (by omega)] at k1
      cases h3 : alA ν1 m with
      | true => exact (k1.1 h3).symm
      | false =>
        cases h4 : eA T m with
        | false => rfl
        | true => rw [k1.2 h4] at h3; cases h3
    have hgl := gc_le (ky := kyOf ν1) (A := alA ν1) n
    have hkey : gcS (kyOf ν1) (alA ν1) n = alS (eA T) n ↔ tl T n i := by
      rw [← alS_congr n hal, gc_all]
      have hg1 : ∀ m, m < n → eA T m = true → ν1.1 34 0 m = μ.1 34 0 m := fun m hm hA => by
        rw [a2.1 34 0 m (by omega)]
        rcases hg m with h | h | h
        · exact h
        · omega
        · rw [hA] at h; cases h
      have hpair : ∀ m m', m < n → m' < n → eA T m = true → eA T m' = true → (kyOf ν1 m = kyOf ν1 m' ↔ (sm T m m' T.1 ∧ vv T (i + 1) m = vv T (i + 1) m')) := fun m m' hm hm' hA hA' => by
        rw [aR_ky a3 hm hm' ((ww_al (by omega)).2 hA) ((ww_al (by omega)).2 hA'), hg1 m hm hA, hg1 m' hm' hA', (hG m hm (eA_iff.1 hA)).2 m' hm' (eA_iff.1 hA')]
        unfold ww
        rw [if_pos hA, if_pos hA']
      constructor
      · intro h m m' q1 q2 hA hA' e
        exact h m m' q1 q2 (by rw [hal m (by omega)]; exact hA) (by rw [hal m' q2]; exact hA') ((hpair m m' (by omega) q2 hA hA').2 e)
      · intro h m m' q1 q2 hA hA' e
        rw [hal m (by omega)] at hA
        rw [hal m' q2] at hA'
        exact h m m' q1 q2 hA hA' ((hpair m m' (by omega) q2 hA hA').1 e)
    have hle := (gc_le (ky := kyOf ν1) (A := eA T) n).2.1
    simp only [f_Parting_lowestTelling_l32]
    rw [hC'.1.1, zif_f (by rw [iI_le (by omega) (by omega) (by omega) (by omega)]; omega), a1, zbnd_eq, b1, zbnd_eq]
    by_cases c : tl T n i
    · rw [zif_t (by rw [hkey.2 c])]
      exact ⟨(i : Int), ν2, rfl, hF2.1, Or.inl ⟨i, by omega, rfl, c, hno⟩⟩
    · rw [zif_f (by rw [iI_eq (by omega) (by omega) (by omega) (by omega)]; exact fun q => c (hkey.1 (by omega))), zlt_eq, e]
      exact tell_l hN htl hC hO hn hc hG f (i + 1) q ν2 (by omega) (by omega) hF2 (fun m => by
        rw [b2.2 34 0 m (by omega) (by omega), a2.1 34 0 m (by omega)]; exact hg m) (fun m hm => by rw [b2.1]; exact a3 m hm) (fun j hj => by
        by_cases d : j = i
        · rw [d]; exact c
        · exact hno j (by omega))
theorem s_lowest {N : Nat} {μ : ZMem} {t n : Nat} {T : Tb} (hN : 2000 ≤ N) (htl : t < 4) (hC : TabC μ t T) (hO : TabOk T) (hn : n ≤ 500) : ∃ r ν', f_Parting_lowestTelling N μ t (iI n) 2 0 = some (iI r, ν') ∧ Same μ ν' ∧ lst T n r := by
  have hnn := hO.1
  have em : zminI (iI (n : Int)) (500 : Int32) = iI (n : Int) := by
    rw [ilit, iI_min (by omega) (by omega) (by omega) (by omega)]
    congr 1; omega
  obtain ⟨μ1, hμ1⟩ : ∃ μ1, μ1 = zsetI μ 10 0 5 (iI (n : Int)) := ⟨_, rfl⟩
  have s1 : Same μ μ1 := by rw [hμ1]; exact Same.rf.setI rfl
  have hc1 : μ1.1 10 0 5 = iI n := by rw [hμ1, rI, if_pos ⟨rfl, rfl, rfl⟩]
  have hC1 := hC.same s1
  obtain ⟨μ2, a1, a2, a3⟩ := s_fillI (N := N) (k := 34) (o := 0) (n := 500) (v := 0) (μ := μ1) (by omega) rfl (by omega)
  have s2 : frR μ1 μ2 := ⟨⟨fun k i x q => by
    rw [a3, if_neg (fun e => by
      rw [e.1] at q
      have : relI 34 i x = false := by unfold relI; simp
      rw [this] at q; cases q)], fun k i x _ => by rw [a2]⟩, by rw [a3, if_neg (by omega)]⟩
  have hC2 := hC1.same s2.1
  have hc2 : μ2.1 10 0 5 = iI n := s2.2.trans hc1
  obtain ⟨μ3, b1, b2, b3⟩ := s_startAll (N := N) (μ := μ2) (t := t) (V' := fun m => if μ2.1 34 0 m = -1 then none else some (bg T (thN T m), 1)) hN htl hC2 hO hn hc2 (fun m => rfl)
  have g2 : ∀ m, m < n → μ2.1 34 0 m = 0 := fun m hm => by rw [a3, if_pos ⟨rfl, rfl, by omega⟩]
  have hV3 : aR μ3 n (vv T 0) := fun m hm => by
    have := b3 m hm
    simp only [g2 m hm] at this
    rw [if_neg (by decide)] at this
    exact this
  have hF3 := b2.r
  have g3 : ∀ m, μ3.1 34 0 m = μ2.1 34 0 m := fun m => b2.1 34 0 m (by omega)
  have hG3 : gI T n μ3 0 := fun m hm _ => by
    rw [g3 m, g2 m hm]
    refine ⟨by decide, fun m' hm' _ => ?_⟩
    rw [g3 m', g2 m' hm']
    exact ⟨fun _ j hj => by omega, fun _ => rfl⟩
  obtain ⟨kx, hkx⟩ : ∃ kx : ZMem → Option (Int32 × ZMem), kx = fun (μ13 : ZMem) => zlt (0 : Int32) (fun (x14 : Int32) => zlt (0 : Int32) (fun (x15 : Int32) => f_Parting_groupBySaid_l88 N N x14 x15 μ13)) := ⟨_, rfl⟩
  obtain ⟨μ4, c1, c2, c3, c4⟩ := said_g (N := N) (μ := μ2) (kx := kx) hN htl hC2 hO hn hc2 T.1 0 N μ3 (by omega) (by omega) hF3 hV3 hG3
  have hc4 : μ4.1 10 0 5 = iI n := c2.2.trans hc2
  obtain ⟨μ5, d1, d2, d3, d4⟩ := ends_l (N := N) (μ := μ4) (T := T) hn hc4 c3 n 0 N μ4 (by omega) (by omega) rfl (fun _ _ _ _ => rfl) (fun u => by rw [if_neg (by omega)])
  have s5 : frR μ4 μ5 := ⟨⟨fun k i x q => d3 k i x (fun e => by
      rw [e] at q
      have : relI 34 i x = false := by unfold relI; simp
      rw [this] at q; cases q), fun k i x _ => by rw [d2]⟩, d3 10 0 5 (by omega)⟩
  have hF5 := c2.tr s5
  have hC5 := hC2.same hF5.1
  have hc5 : μ5.1 10 0 5 = iI n := hF5.2.trans hc2
  have g5 : ∀ m, m < n → (μ5.1 34 0 m = -1 ↔ eA T m = false) := fun m hm => by
    rw [d4 m]
    cases hA : eA T m with
    | false => rw [if_pos ⟨hm, rfl⟩]; exact ⟨fun _ => rfl, fun _ => rfl⟩
    | true =>
      rw [if_neg (fun q => by cases q.2)]
      have := (c4 m hm (eA_iff.1 hA)).1
      refine ⟨fun q => ?_, fun q => by cases q⟩
      rw [q] at this
      exact absurd this (by decide)
  have hG5 : gI T n μ5 T.1 := fun m hm hm2 => by
    have k : ∀ u, u < n → vv T T.1 u ≠ none → μ5.1 34 0 u = μ4.1 34 0 u := fun u hu hu2 => by
      rw [d4 u, if_neg (fun q => by rw [eA_iff.2 hu2] at q; cases q.2)]
    obtain ⟨x1, x2⟩ := c4 m hm hm2
    rw [k m hm hm2]
    exact ⟨x1, fun m' hm' hm2' => by rw [k m' hm' hm2']; exact x2 m' hm' hm2'⟩
  obtain ⟨μ6, e1, e2, e3⟩ := s_startAll (N := N) (μ := μ5) (t := t) (V' := fun m => if μ5.1 34 0 m = -1 then none else some (bg T (thN T m), 1)) hN htl hC5 hO hn hc5 (fun m => rfl)
  have hV6 : aR μ6 n (ww T 0) := fun m hm => by
    have := e3 m hm
    have hw : ww T 0 m = if μ5.1 34 0 m = -1 then none else some (bg T (thN T m), 1) := by
      unfold ww
      cases hA : eA T m with
      | false => rw [if_neg (by decide), if_pos ((g5 m hm).2 hA)]
      | true => rw [if_pos rfl, if_neg (fun q => by rw [(g5 m hm).1 q] at hA; cases hA)]; rfl
    rw [hw]
    exact this
  obtain ⟨r, ν', f1, f2, f3⟩ := tell_l (N := N) (μ := μ5) hN htl hC5 hO hn hc5 hG5 T.1 0 N μ6 (by omega) (by omega) e2.r (fun m => Or.inl (e2.1 34 0 m (by omega))) hV6 (fun j hj => by omega)
  refine ⟨r, ν', ?_, ((s1.tr s2.1).tr hF5.1).tr f2, f3⟩
  have c1' : f_Parting_groupBySaid_l18 N t 2 0 kx N 0 μ3 = kx μ4 := c1
  have d1' : f_Parting_groupBySaid_l88 N N 0 0 μ4 = some (iI ((alS (eA T) n : Nat) : Int), μ5) := d1
  unfold f_Parting_lowestTelling
  rw [em, zlt_eq, ← hμ1]
  unfold f_Parting_groupBySaid
  rw [a1, zbnd_eq, b1, zbnd_eq, zlt_eq, ← hkx, c1', hkx]
  simp only [zlt_eq]
  rw [d1', zbnd_eq, e1, zbnd_eq]
  exact f1
