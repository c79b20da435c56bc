def chn (ν : ZMem) : Int32 → List Nat → Prop
  | c, [] => c = -1
  | c, r :: L => c = iI ((r : Nat) : Int) ∧ r < 500 ∧ chn ν (ν.1 49 0 r) L
theorem chn_congr {ν ν' : ZMem} : ∀ (L : List Nat) (c : Int32), (∀ r, r ∈ L → ν'.1 49 0 r = ν.1 49 0 r) → chn ν c L → chn ν' c L
  | [], c, _, h => h
  | r :: L, c, hr, h => ⟨h.1, h.2.1, by
    rw [hr r (List.mem_cons_self ..)]
    exact chn_congr L _ (fun x hx => hr x (List.mem_cons_of_mem _ hx)) h.2.2⟩
theorem walk {N : Nat} {ν : ZMem} {t r0 : Nat} {p : Nat} {T : Tb} {e : Nat → Nat} {p1 x12 : Int32} {kx : ZMem → Option (Int32 × ZMem)} (hN : 2000 ≤ N) (htl : t < 4) (hM : TabM ν t T) (hO : TabOk T) (hp : p < T.1) (hr0 : r0 < 500) (h0 : rwR ν T r0 (e r0) T.1) : ∀ (L : List Nat) (fuel : Nat) (c : Int32), L.length < fuel → chn ν c L → (∀ r, r ∈ L → rwR ν T r (e r) T.1) → f_M_areUnlike_l53 N (iI t) p1 (iI p) (iI r0) x12 kx fuel c ν = if (L.any fun r => ak T (e r) (e r0) p T.1 0) = true then some (0, ν) else kx ν
  | [], fuel, c, h1, h2, h3 => by
    obtain ⟨q, rfl⟩ : ∃ q, fuel = q + 1 := ⟨fuel - 1, by omega⟩
    have h2' : c = -1 := h2
    simp only [f_M_areUnlike_l53]
    rw [h2', zif_t (by decide), if_neg (by simp)]
  | r :: L, fuel, c, h1, h2, h3 => by
    obtain ⟨q, rfl⟩ : ∃ q, fuel = q + 1 := ⟨fuel - 1, by omega⟩
    obtain ⟨c1, c2, c3⟩ := h2
    have hal := s_isAlike (N := N) (m := e r) (m' := e r0) (r := r) (r' := r0) hN htl hM hO c2 hr0 hp (h3 r (List.mem_cons_self ..)) h0
    have hrec := walk (N := N) (p1 := p1) (x12 := x12) (kx := kx) hN htl hM hO hp hr0 h0 L q (ν.1 49 0 r) (by simp at h1; omega) c3 (fun x hx => h3 x (List.mem_cons_of_mem _ hx))
    simp only [f_M_areUnlike_l53]
    rw [c1, zif_f (by rw [zi0, iI_lt (by omega) (by omega) (by omega) (by omega)]; omega), hal, zbnd_eq, List.any_cons]
    cases ha : ak T (e r) (e r0) p T.1 0 with
    | true =>
      rw [zif_f (by decide), Bool.true_or, if_pos rfl]; rfl
    | false =>
      rw [zif_t (show bI false = 0 from rfl), zchk_t (zin_k 500 rfl (by omega) (by omega) (by omega)), zlt_eq, cl_nat (by omega), Bool.false_or]
      exact hrec
def frU (μ ν : ZMem) : Prop := ν.2 = μ.2 ∧ ∀ k i x, k ≠ 49 → k ≠ 50 → ν.1 k i x = μ.1 k i x
theorem frU.same {μ ν : ZMem} (h : frU μ ν) : Same μ ν := ⟨fun k i x q => h.2 k i x (fun e => by
  rw [e] at q
  have : relI 49 i x = false := by unfold relI; simp
  rw [this] at q; cases q) (fun e => by
  rw [e] at q
  have : relI 50 i x = false := by unfold relI; simp
  rw [this] at q; cases q), fun k i x _ => by rw [h.1]⟩
theorem unl_l {N : Nat} {μ : ZMem} {t c : Nat} {p : Nat} {T : Tb} {e : Nat → Nat} (hN : 2000 ≤ N) (htl : t < 4) (hM : TabM μ t T) (hO : TabOk T) (hp : p < T.1) (hc : c ≤ 500) (he : ∀ r, r < c → rwR μ T r (e r) T.1) : ∀ (f r0 fuel : Nat) (ν : ZMem), r0 + f = c → f < fuel → frU μ ν → (∀ h, h < 1024 → ∃ L : List Nat, chn ν (ν.1 50 0 h) L ∧ L.length ≤ r0 ∧ (∀ r, r ∈ L → r < r0) ∧ ∀ r, r < r0 → hh T (e r) p = h → r ∈ L) → (∀ r r', r < r' → r' < r0 → ak T (e r) (e r') p T.1 0 = false) →
    ∃ b ν', f_M_areUnlike_l28 N (iI t) (iI c) (iI p) fuel (iI r0) ν = some (bI b, ν') ∧ frU μ ν' ∧ (b = true ↔ ∀ r r', r < r' → r' < c → ak T (e r) (e r') p T.1 0 = false)
  | 0, r0, fuel, ν, h1, h2, hF, hch, hno => by
    obtain ⟨q, rfl⟩ : ∃ q, fuel = q + 1 := ⟨fuel - 1, by omega⟩
    have : r0 = c := by omega
    subst this
    refine ⟨true, ν, ?_, hF, fun _ => hno, fun _ => rfl⟩
    simp only [f_M_areUnlike_l28]
    rw [zif_t (by rw [iI_le (by omega) (by omega) (by omega) (by omega)]; omega)]; rfl
  | f + 1, r0, fuel, ν, h1, h2, hF, hch, hno => by
    obtain ⟨q, rfl⟩ : ∃ q, fuel = q + 1 := ⟨fuel - 1, by omega⟩
    have e1 : iI (r0 : Int) + (1 : Int32) = iI ((r0 + 1 : Nat) : Int) := by rw [ilit, iI_add]; congr 1
    have he' : ∀ r, r < c → rwR ν T r (e r) T.1 := fun r hr j hj => by rw [hF.1]; exact he r hr j hj
    have hM' := hM.same hF.same
    obtain ⟨s1, s2⟩ := s_sumOf (N := N) hN htl hM' hO (show r0 < 500 by omega) hp (he' r0 (by omega))
    obtain ⟨h0, hh0⟩ : ∃ h0, h0 = hh T (e r0) p := ⟨_, rfl⟩
    rw [← hh0] at s1 s2
    obtain ⟨L, l1, l2, l3, l4⟩ := hch h0 s1
    have z5 : zin (iI (h0 : Int)) (zlen 50 0) := zin_k 1024 rfl (by omega) (by omega) (by omega)
    have z4 : zin (iI (r0 : Int)) (zlen 49 0) := zin_k 500 rfl (by omega) (by omega) (by omega)
    have hw : ∀ kx : ZMem → Option (Int32 × ZMem), f_M_areUnlike_l53 N (iI t) (iI c) (iI p) (iI r0) (iI (h0 : Int)) kx N (ν.1 50 0 h0) ν = if (L.any fun r => ak T (e r) (e r0) p T.1 0) = true then some (0, ν) else kx ν := fun kx => walk (kx := kx) hN htl hM' hO hp (by omega) (he' r0 (by omega)) L N _ (by omega) l1 (fun r hr => he' r (by have := l3 r hr; omega))
    simp only [f_M_areUnlike_l28]
    rw [zif_f (by rw [iI_le (by omega) (by omega) (by omega) (by omega)]; omega), s2, zbnd_eq, zlt_eq, zchk_t z5, zlt_eq]
    simp only [cl_nat (show h0 < 2147483648 by omega)]
    rw [hw]
    cases ha : L.any fun r => ak T (e r) (e r0) p T.1 0 with
    | true =>
      rw [if_pos rfl]
      refine ⟨false, ν, rfl, hF, fun q => (by cases q), fun q => ?_⟩
      rw [List.any_eq_true] at ha
      obtain ⟨r, r1, r2⟩ := ha
      rw [q r r0 (l3 r r1) (by omega)] at r2; cases r2
    | false =>
      rw [if_neg (by decide)]
      have hnew : ∀ r, r < r0 → ak T (e r) (e r0) p T.1 0 = false := fun r hr => by
        cases hk : ak T (e r) (e r0) p T.1 0 with
        | false => rfl
        | true =>
          have hin := l4 r hr ((hh_ak hk).trans hh0.symm)
          have : (L.any fun r => ak T (e r) (e r0) p T.1 0) = true := List.any_eq_true.2 ⟨r, hin, hk⟩
          rw [this] at ha; cases ha
      obtain ⟨ω, hω⟩ : ∃ ω, ω = zsetI (zsetI ν 49 0 r0 (ν.1 50 0 h0)) 50 0 h0 (iI (r0 : Int)) := ⟨_, rfl⟩
      have w49 : ∀ x, ω.1 49 0 x = if x = r0 then ν.1 50 0 h0 else ν.1 49 0 x := fun x => by
        rw [hω, rI, if_neg (by omega), rI]
        by_cases c : x = r0
        · rw [if_pos ⟨rfl, rfl, c⟩, if_pos c]
        · rw [if_neg (fun q => c q.2.2), if_neg c]
      have w50 : ∀ x, ω.1 50 0 x = if x = h0 then iI (r0 : Int) else ν.1 50 0 x := fun x => by
        rw [hω, rI]
        by_cases c : x = h0
        · rw [if_pos ⟨rfl, rfl, c⟩, if_pos c]
        · rw [if_neg (fun q => c q.2.2), if_neg c, rI, if_neg (by omega)]
      have hFω : frU μ ω := by
        rw [hω]
        exact ⟨hF.1, fun k i x q1 q2 => by rw [rI, if_neg (fun q => q2 q.1), rI, if_neg (fun q => q1 q.1)]; exact hF.2 k i x q1 q2⟩
      obtain ⟨b, ν', d1, d2, d3⟩ := unl_l hN htl hM hO hp hc he f (r0 + 1) q ω (by omega) (by omega) hFω (fun h hlt => by
        by_cases c : h = h0
        · refine ⟨r0 :: L, ⟨by rw [w50, if_pos c], by omega, ?_⟩, by simp; omega, fun r hr => ?_, fun r hr hk => ?_⟩
          · rw [w49, if_pos rfl]
            exact chn_congr L _ (fun r hr => by rw [w49, if_neg (by have := l3 r hr; omega)]) l1
          · rcases List.mem_cons.1 hr with q | q
            · omega
            · have := l3 r q; omega
          · by_cases q : r = r0
            · rw [q]; exact List.mem_cons_self ..
            · exact List.mem_cons_of_mem _ (l4 r (by omega) (hk.trans c))
        · obtain ⟨L', m1', m2, m3, m4⟩ := hch h hlt
          refine ⟨L', ?_, by omega, fun r hr => by have := m3 r hr; omega, fun r hr hk => ?_⟩
          · rw [w50, if_neg c]
            exact chn_congr L' _ (fun r hr => by rw [w49, if_neg (by have := m3 r hr; omega)]) m1'
          · by_cases q : r = r0
            · rw [q] at hk; exact absurd (hk.symm.trans hh0.symm) c
            · exact m4 r (by omega) hk) (fun r r' q1 q2 => by
        by_cases q : r' = r0
        · rw [q]; exact hnew r (by omega)
        · exact hno r r' q1 (by omega))
      refine ⟨b, ν', ?_, d2, d3⟩
      have rd : (zsetI ν 49 0 r0 (ν.1 50 0 h0)).1 50 0 h0 = ν.1 50 0 h0 := by rw [rI, if_neg (by omega)]
      simp only [zchk_t z5, zchk_t z4, cl_nat (show h0 < 2147483648 by omega), cl_nat (show r0 < 2147483648 by omega), zlt_eq, e1]
      rw [← hω]
      exact d1
theorem ak_iff {T : Tb} {m m' p : Nat} : ∀ (f j : Nat), ak T m m' p f j = true ↔ ∀ i, j ≤ i → i < j + f → (i = p ∨ T.2.1 i = 9) → vd T i m = vd T i m'
  | 0, j => ⟨fun _ i h1 h2 => by omega, fun _ => rfl⟩
  | f + 1, j => by
    have hr := ak_iff (T := T) (m := m) (m' := m') (p := p) f (j + 1)
    rw [show ak T m m' p (f + 1) j = (if j = p ∨ T.2.1 j = 9 then (decide (vd T j m = vd T j m') && ak T m m' p f (j + 1)) else ak T m m' p f (j + 1)) from rfl]
    by_cases c : j = p ∨ T.2.1 j = 9
    · rw [if_pos c, Bool.and_eq_true, decide_eq_true_eq, hr]
      constructor
      · intro h i h1 h2 h3
        by_cases d : i = j
        · rw [d]; exact h.1
        · exact h.2 i (by omega) (by omega) h3
      · intro h
        exact ⟨h j (by omega) (by omega) c, fun i h1 h2 h3 => h i (by omega) (by omega) h3⟩
    · rw [if_neg c, hr]
      constructor
      · intro h i h1 h2 h3
        by_cases d : i = j
        · rw [d] at h3; exact absurd h3 c
        · exact h i (by omega) (by omega) h3
      · intro h i h1 h2 h3
        exact h i (by omega) (by omega) h3
theorem vd_eq {T : Tb} {u u' j : Nat} (hA : eA T u = true) (hA' : eA T u' = true) (hj : j < T.1) : vd T j u = vd T j u' ↔ vv T (j + 1) u = vv T (j + 1) u' := by
  have a := vv_mono (T := T) (m := u) (T.1 - (j + 1)) (j + 1) (by rw [show j + 1 + (T.1 - (j + 1)) = T.1 by omega]; exact eA_iff.1 hA)
  have a' := vv_mono (T := T) (m := u') (T.1 - (j + 1)) (j + 1) (by rw [show j + 1 + (T.1 - (j + 1)) = T.1 by omega]; exact eA_iff.1 hA')
  unfold vd
  cases h : vv T (j + 1) u with
  | none => exact absurd h a
  | some v =>
    cases h' : vv T (j + 1) u' with
    | none => exact absurd h' a'
    | some v' => exact ⟨fun q => by rw [show v = v' from q], fun q => by cases q; rfl⟩
theorem ak_sm {T : Tb} {u u' p : Nat} (hA : eA T u = true) (hA' : eA T u' = true) (hp : p < T.1) : ak T u u' p T.1 0 = true ↔ (sm T u u' T.1 ∧ vv T (p + 1) u = vv T (p + 1) u') := by
  rw [ak_iff]
  constructor
  · intro h
    exact ⟨fun j hj k9 => (vd_eq hA hA' hj).1 (h j (by omega) (by omega) (Or.inr k9)), (vd_eq hA hA' hp).1 (h p (by omega) (by omega) (Or.inl rfl))⟩
  · intro h i h1 h2 h3
    refine (vd_eq hA hA' (by omega)).2 ?_
    rcases h3 with q | q
    · rw [q]; exact h.2
    · exact h.1 i (by omega) q
theorem unl_z {N : Nat} {p0 p1 p2 : Int32} {kx : ZMem → Option (Int32 × ZMem)} {μ : ZMem} : ∀ (f i fuel : Nat) (ν : ZMem), i + f = 1024 → f < fuel → frU μ ν → (∀ j, j < i → ν.1 50 0 j = -1) → ∃ ν', f_M_areUnlike_l3 N p0 p1 p2 kx fuel (iI i) ν = kx ν' ∧ frU μ ν' ∧ ∀ j, j < 1024 → ν'.1 50 0 j = -1
  | 0, i, fuel, ν, h1, h2, hF, hj => by
    obtain ⟨q, rfl⟩ : ∃ q, fuel = q + 1 := ⟨fuel - 1, by omega⟩
    refine ⟨ν, ?_, hF, fun j q => hj j (by omega)⟩
    simp only [f_M_areUnlike_l3]
    rw [zif_t (by rw [ilit, iI_le (by omega) (by omega) (by omega) (by omega)]; omega)]
  | f + 1, i, fuel, ν, h1, h2, hF, hj => by
    obtain ⟨q, rfl⟩ : ∃ q, fuel = q + 1 := ⟨fuel - 1, by omega⟩
    have e : iI (i : Int) + (1 : Int32) = iI ((i + 1 : Nat) : Int) := by rw [ilit, iI_add]; congr 1
    obtain ⟨ν', a1, a2, a3⟩ := unl_z (N := N) (p0 := p0) (p1 := p1) (p2 := p2) (kx := kx) (μ := μ) f (i + 1) q (zsetI ν 50 0 i (-1)) (by omega) (by omega) ⟨hF.1, fun k i' x q1 q2 => by rw [rI, if_neg (fun q => q2 q.1)]; exact hF.2 k i' x q1 q2⟩ (fun j q => by
      rw [rI]
      by_cases c : j = i
      · rw [if_pos ⟨rfl, rfl, c⟩]
      · rw [if_neg (fun q => c q.2.2)]; exact hj j (by omega))
    refine ⟨ν', ?_, a2, a3⟩
    simp only [f_M_areUnlike_l3]
    rw [zif_f (by rw [ilit, iI_le (by omega) (by omega) (by omega) (by omega)]; omega), zchk_t (zin_k 1024 rfl (by omega) (by omega) (by omega)), cl_nat (by omega), zlt_eq, zlt_eq, e]
    exact a1
theorem s_areUnlike {N : Nat} {μ : ZMem} {t n p : Nat} {T : Tb} (hN : 2000 ≤ N) (htl : t < 4) (hM : TabM μ t T) (hO : TabOk T) (hp : p < T.1) (hn : n ≤ 500) (hR : rws μ T n) : ∃ b ν', f_M_areUnlike N μ (iI t) (iI ((alS (eA T) n : Nat) : Int)) (iI p) = some (bI b, ν') ∧ frU μ ν' ∧ (b = true ↔ tl T n p) := by
  have hle := alS_le (A := eA T) n
  obtain ⟨e, he⟩ : ∃ e : Nat → Nat, ∀ r, r < alS (eA T) n → e r < n ∧ eA T (e r) = true ∧ alS (eA T) (e r) = r := ⟨fun r => if h : r < alS (eA T) n then Classical.choose (alS_ex n h) else 0, fun r h => by simp only [dif_pos h]; exact Classical.choose_spec (alS_ex n h)⟩
  have hrw : ∀ r, r < alS (eA T) n → rwR μ T r (e r) T.1 := fun r hr => by
    obtain ⟨a1, a2, a3⟩ := he r hr
    have := hR (e r) a1 a2
    rw [a3] at this
    exact this
  obtain ⟨ν1, a1, a2, a3⟩ := unl_z (N := N) (p0 := iI (t : Int)) (p1 := iI ((alS (eA T) n : Nat) : Int)) (p2 := iI (p : Int)) (kx := fun (μ6 : ZMem) => zlt (0 : Int32) (fun (x7 : Int32) => f_M_areUnlike_l28 N (iI (t : Int)) (iI ((alS (eA T) n : Nat) : Int)) (iI (p : Int)) N x7 μ6)) (μ := μ) 1024 0 N μ (by omega) (by omega) ⟨rfl, fun _ _ _ _ _ => rfl⟩ (fun j hj => by omega)
  obtain ⟨b, ν', d1, d2, d3⟩ := unl_l (N := N) (μ := μ) (c := alS (eA T) n) (e := e) hN htl hM hO hp (by omega) hrw (alS (eA T) n) 0 N ν1 (by omega) (by omega) a2 (fun h hlt => ⟨[], a3 h hlt, Nat.le_refl _, fun r hr => (by cases hr), fun r hr => by omega⟩) (fun r r' _ q => by omega)
  refine ⟨b, ν', ?_, d2, ?_⟩
  · unfold f_M_areUnlike
    rw [zlt_eq]
    exact a1.trans d1
  · rw [d3]
    constructor
    · intro h u u' q1 q2 hA hA' hs
      have l1 := alS_lt (A := eA T) q1 hA
      have l2 := alS_lt (A := eA T) q2 hA'
      obtain ⟨x1, x2, x3⟩ := he (alS (eA T) u) (by omega)
      obtain ⟨y1, y2, y3⟩ := he (alS (eA T) u') l2
      have eu : e (alS (eA T) u) = u := by
        by_cases c : e (alS (eA T) u) < u
        · have := alS_lt (A := eA T) c x2; omega
        · by_cases d : u < e (alS (eA T) u)
          · have := alS_lt (A := eA T) d hA; omega
          · omega
      have eu' : e (alS (eA T) u') = u' := by
        by_cases c : e (alS (eA T) u') < u'
        · have := alS_lt (A := eA T) c y2; omega
        · by_cases d : u' < e (alS (eA T) u')
          · have := alS_lt (A := eA T) d hA'; omega
          · omega
      have := h (alS (eA T) u) (alS (eA T) u') l1 l2
      rw [eu, eu', (ak_sm hA hA' hp).2 hs] at this
      cases this
    · intro h r r' q1 q2
      obtain ⟨x1, x2, x3⟩ := he r (by omega)
      obtain ⟨y1, y2, y3⟩ := he r' q2
      have hlt : e r < e r' := by
        by_cases c : e r < e r'
        · exact c
        · by_cases d : e r = e r'
          · rw [d, y3] at x3; omega
          · have := alS_lt (A := eA T) (show e r' < e r by omega) y2; omega
      cases hk : ak T (e r) (e r') p T.1 0 with
      | false => rfl
      | true => exact absurd ((ak_sm x2 y2 hp).1 hk) (h (e r) (e r') hlt y1 x2 y2)
theorem more_l {N : Nat} {μ : ZMem} {t n : Nat} {T : Tb} (hN : 2000 ≤ N) (htl : t < 4) (hM : TabM μ t T) (hO : TabOk T) (hn : n ≤ 500) (hR : rws μ T n) : ∀ (f p fuel : Nat) (ν : ZMem), p + f = T.1 → f < fuel → frU μ ν → (∀ j, j < p → ¬ tl T n j) → ∃ r ν', f_M_more_l36 N (iI t) (iI ((alS (eA T) n : Nat) : Int)) fuel (iI p) ν = some (iI r, ν') ∧ frU μ ν' ∧ lst T n r
  | 0, p, fuel, ν, h1, h2, hF, hno => by
    obtain ⟨q, rfl⟩ : ∃ q, fuel = q + 1 := ⟨fuel - 1, by omega⟩
    have hnn := hO.1
    refine ⟨-1, ν, ?_, hF, Or.inr ⟨rfl, fun j hj => hno j (by omega)⟩⟩
    simp only [f_M_more_l36]
    rw [s_M_ordersOf htl (hM.same hF.same), zbnd_eq, zif_t (by rw [iI_le (by omega) (by omega) (by omega) (by omega)]; omega), m1]; rfl
  | f + 1, p, fuel, ν, h1, h2, hF, hno => by
    obtain ⟨q, rfl⟩ : ∃ q, fuel = q + 1 := ⟨fuel - 1, by omega⟩
    have e : iI (p : Int) + (1 : Int32) = iI ((p + 1 : Nat) : Int) := by rw [ilit, iI_add]; congr 1
    have hnn := hO.1
    have hM' := hM.same hF.same
    obtain ⟨b, ν1, a1, a2, a3⟩ := s_areUnlike (N := N) (p := p) hN htl hM' hO (by omega) hn (fun u hu hA j hj => by rw [hF.1]; exact hR u hu hA j hj)
    have hF1 : frU μ ν1 := ⟨a2.1.trans hF.1, fun k i x q1 q2 => (a2.2 k i x q1 q2).trans (hF.2 k i x q1 q2)⟩
    simp only [f_M_more_l36]
    rw [s_M_ordersOf htl hM', zbnd_eq, zif_f (by rw [iI_le (by omega) (by omega) (by omega) (by omega)]; omega), a1, zbnd_eq]
    cases hb : b with
    | true =>
      rw [zif_f (by decide)]
      exact ⟨(p : Int), ν1, rfl, hF1, Or.inl ⟨p, by omega, rfl, a3.1 hb, hno⟩⟩
    | false =>
      rw [zif_t (show bI false = 0 from rfl), zlt_eq, e]
      exact more_l hN htl hM hO hn hR f (p + 1) q ν1 (by omega) (by omega) hF1 (fun j hj => by
        by_cases d : j = p
        · rw [d]; intro ht; rw [a3.2 ht] at hb; cases hb
        · exact hno j (by omega))
theorem ag_more (N : Nat) (hN : 30000 ≤ N) (p0 : Int32) : Agree (fun μ => f_A_more N μ p0) (fun μ => f_M_more N μ p0) := by
  refine Agree.same (fun μ hI => ?_)
  unfold f_A_more f_M_more
  rcases tab_split hI N p0 with ⟨h1, h2⟩ | ⟨t, ht, rfl, htn, h1, h2⟩
  · exact ⟨_, μ, μ, by simp only [h1, zbrf_n]; rfl, by simp only [h2 μ Same.rf, zbnd_eq]; rfl, Same.rf, Same.rf⟩
  · obtain ⟨hC, hM, hO⟩ := hI.tab htn
    have hnn := hO.1
    generalize hT : tabOf μ t = T at hC hM hO hnn
    have hb := cn_rng hO (l := 4) (by omega)
    by_cases c : cn T 4 ≤ 500
    · obtain ⟨n, hn⟩ : ∃ n : Nat, cn T 4 = n := ⟨(cn T 4).toNat, by omega⟩
      obtain ⟨r, μ1, a1, a2, a3⟩ := s_lowest (N := N) (n := n) (by omega) ht hC hO (by omega)
      have hM1 := hM.same a2
      obtain ⟨μ2, b1, b2, b3⟩ := s_layAll (N := N) (n := n) (by omega) ht hM1 hO (by omega)
      have hM2 := hM1.same b2
      obtain ⟨r', μ3, d1, d2, d3⟩ := more_l (N := N) (n := n) (by omega) ht hM2 hO (by omega) b3 T.1 0 N μ2 (by omega) (by omega) ⟨rfl, fun _ _ _ _ _ => rfl⟩ (fun j hj => by omega)
      have hrr := lst_uniq a3 d3
      rw [← hrr] at d1
      refine ⟨iI r, μ1, μ3, ?_, ?_, a2, b2.tr d2.same⟩
      · simp only [h1, zbrf_s]
        rw [zchk_t ht, s_countAll (by omega) hC hO, zbnd_eq, zlt_eq, zif_t (by rw [llit, lcmp_le (by omega) (by omega) (by omega) (by omega)]; exact c), lI_int, hn, a1, zbnd_eq]; rfl
      · simp only [h2 _ a2, zbnd_eq]
        rw [zif_f (by decide), s_M_allOf (by omega) ht hM1 hO, zbnd_eq, if_pos (by omega), zlt_eq, zif_t (by rw [ilit, iI_le (by omega) (by omega) (by omega) (by omega)]; exact c), hn, b1, zbnd_eq, zlt_eq, zlt_eq]
        exact d1
    · refine ⟨-2, μ, μ, ?_, ?_, Same.rf, Same.rf⟩
      · simp only [h1, zbrf_s]
        rw [zchk_t ht, s_countAll (by omega) hC hO, zbnd_eq, zlt_eq, zif_f (by rw [llit, lcmp_le (by omega) (by omega) (by omega) (by omega)]; exact c)]; rfl
      · simp only [h2 μ Same.rf, zbnd_eq]
        rw [zif_f (by decide), s_M_allOf (by omega) ht hM hO, zbnd_eq, zlt_eq]
        by_cases d : cn T 4 ≤ 20000
        · rw [if_pos d, zif_f (by rw [ilit, iI_le (by omega) (by omega) (by omega) (by omega)]; exact c)]; rfl
        · rw [if_neg d, zif_f (by decide)]; rfl
