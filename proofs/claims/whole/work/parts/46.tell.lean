/-! the class: grouped by what was said -/
def vv (T : Tb) : Nat → Nat → Option (Int × Int)
  | 0 => fun m => some (bg T (thN T m), 1)
  | i + 1 => stV T i (vv T i)
theorem vv_down {T : Tb} {m i : Nat} (h : vv T (i + 1) m ≠ none) : vv T i m ≠ none := fun q => h (by show stV T i (vv T i) m = none; unfold stV; rw [q])
theorem vv_mono {T : Tb} {m : Nat} : ∀ (d i : Nat), vv T (i + d) m ≠ none → vv T i m ≠ none
  | 0, i, h => h
  | d + 1, i, h => vv_mono d i (vv_down h)
def sm (T : Tb) (m m' i : Nat) : Prop := ∀ j, j < i → T.2.1 j = 9 → vv T (j + 1) m = vv T (j + 1) m'
def frR (μ μ' : ZMem) : Prop := Same μ μ' ∧ μ'.1 10 0 5 = μ.1 10 0 5
theorem frR.tr {μ μ' μ'' : ZMem} (h : frR μ μ') (h' : frR μ' μ'') : frR μ μ'' := ⟨h.1.tr h'.1, h'.2.trans h.2⟩
theorem frQ.r {μ μ' : ZMem} (h : frQ μ μ') : frR μ μ' := ⟨h.same, h.1 10 0 5 (by omega)⟩
theorem frP.same {μ μ' : ZMem} (h : frP μ μ') : Same μ μ' := ⟨fun k i x q => h.2 k i x (fun e => by
  rw [e] at q
  have : relI 35 i x = false := by unfold relI; simp
  rw [this] at q; cases q) (fun e => by
  rw [e] at q
  have : relI 36 i x = false := by unfold relI; simp
  rw [this] at q; cases q), fun k i x _ => by rw [h.1]⟩
theorem frP.r {μ μ' : ZMem} (h : frP μ μ') : frR μ μ' := ⟨h.same, h.2 10 0 5 (by omega) (by omega)⟩
def gI (T : Tb) (n : Nat) (ν : ZMem) (i : Nat) : Prop := ∀ m, m < n → vv T i m ≠ none → 0 ≤ (ν.1 34 0 m).toInt ∧ ∀ m', m' < n → vv T i m' ≠ none → (ν.1 34 0 m = ν.1 34 0 m' ↔ sm T m m' i)
theorem aR_al {ν : ZMem} {n m : Nat} {V : Nat → Option (Int × Int)} (h : aR ν n V) (hm : m < n) : alA ν m = true ↔ V m ≠ none := by
  obtain ⟨h1, h2⟩ := h m hm
  unfold alA
  rw [decide_eq_true_eq]
  cases hv : V m with
  | none => exact ⟨fun q => absurd (h1 hv) q, fun q => absurd rfl q⟩
  | some v =>
    obtain ⟨⟨p1, p2, -⟩, v2, v3⟩ := h2 v hv
    refine ⟨fun _ q => (by cases q), fun _ => ?_⟩
    rw [v3, zl0, lI_eq (by omega) (by omega) (by omega) (by omega)]; omega
theorem aR_ky {ν : ZMem} {n m m' : Nat} {V : Nat → Option (Int × Int)} (h : aR ν n V) (hm : m < n) (hm' : m' < n) (a : V m ≠ none) (a' : V m' ≠ none) : kyOf ν m = kyOf ν m' ↔ (ν.1 34 0 m = ν.1 34 0 m' ∧ V m = V m') := by
  cases hv : V m with
  | none => exact absurd hv a
  | some v =>
    cases hv' : V m' with
    | none => exact absurd hv' a'
    | some v' =>
      obtain ⟨⟨p1, p2, p3, p4, -⟩, v2, v3⟩ := (h m hm).2 v hv
      obtain ⟨⟨q1, q2, q3, q4, -⟩, w2, w3⟩ := (h m' hm').2 v' hv'
      unfold kyOf
      rw [v2, v3, w2, w3]
      constructor
      · intro e
        have e1 : ν.1 34 0 m = ν.1 34 0 m' := congrArg (fun z => z.1) e
        have e2 : lI v.1 = lI v'.1 := congrArg (fun z => z.2.1) e
        have e3 : lI v.2 = lI v'.2 := congrArg (fun z => z.2.2) e
        rw [lI_eq (by omega) (by omega) (by omega) (by omega)] at e2 e3
        exact ⟨e1, by rw [show v = v' from Prod.ext e2 e3]⟩
      · intro e
        have e2 := e.2
        cases e2
        rw [e.1]
theorem sm_succ {T : Tb} {m m' i : Nat} : sm T m m' (i + 1) ↔ (sm T m m' i ∧ (T.2.1 i = 9 → vv T (i + 1) m = vv T (i + 1) m')) := by
  constructor
  · intro h; exact ⟨fun j hj => h j (by omega), h i (by omega)⟩
  · intro h j hj k9
    by_cases c : j = i
    · rw [c] at k9 ⊢; exact h.2 k9
    · exact h.1 j (by omega) k9
theorem said_g {N : Nat} {μ : ZMem} {t n : Nat} {T : Tb} {kx : ZMem → Option (Int32 × ZMem)} (hN : 2000 ≤ N) (htl : t < 4) (hC : TabC μ t T) (hO : TabOk T) (hn : n ≤ 500) (hc : μ.1 10 0 5 = iI n) : ∀ (f i fuel : Nat) (ν : ZMem), i + f = T.1 → f < fuel → frR μ ν → aR ν n (vv T i) → gI T n ν i →
    ∃ ν', f_Parting_groupBySaid_l18 N t 2 0 kx fuel (iI i) ν = kx ν' ∧ frR μ ν' ∧ aR ν' n (vv T T.1) ∧ gI T n ν' T.1
  | 0, i, fuel, ν, h1, h2, hF, hV, hG => by
    obtain ⟨q, rfl⟩ : ∃ q, fuel = q + 1 := ⟨fuel - 1, by omega⟩
    have : i = T.1 := by omega
    subst this
    have hnn := hO.1
    refine ⟨ν, ?_, hF, hV, hG⟩
    simp only [f_Parting_groupBySaid_l18]
    rw [(hC.same hF.1).1.1, zif_t (by rw [iI_le (by omega) (by omega) (by omega) (by omega)]; omega)]
  | f + 1, i, fuel, ν, h1, h2, hF, hV, hG => by
    obtain ⟨q, rfl⟩ : ∃ q, fuel = q + 1 := ⟨fuel - 1, by omega⟩
    have e : iI (i : Int) + (1 : Int32) = iI ((i + 1 : Nat) : Int) := by rw [ilit, iI_add]; congr 1
    have hnn := hO.1
    have hC' := hC.same hF.1
    have hl : zlen 22 t = 24 := by rw [len22, if_pos htl]
    have hi' := hO.2.1 i (by omega)
    obtain ⟨ν1, a1, a2, a3⟩ := s_stepAll (N := N) (μ := ν) (i := i) hN htl hC' hO hn (hF.2.trans hc) (by omega) hV
    have a3' : aR ν1 n (vv T (i + 1)) := a3
    have g1 : ∀ m, ν1.1 34 0 m = ν.1 34 0 m := fun m => a2.1 34 0 m (by omega)
    have hF1 := hF.tr a2.r
    have hk : ν1.1 22 t i = iI (T.2.1 i) := ((hC.same hF1.1).1.2 i (by omega)).1
    simp only [f_Parting_groupBySaid_l18]
    rw [hC'.1.1, zif_f (by rw [iI_le (by omega) (by omega) (by omega) (by omega)]; omega), a1, zbnd_eq, zchk_t (zin_iI (by omega) (by omega) (by omega))]
    simp only [zlt_eq, cl_nat (show i < 2147483648 by omega), hk, e]
    by_cases k9 : T.2.1 i = 9
    · rw [zif_t (by rw [k9]; rfl)]
      obtain ⟨ν2, b1, b2, b3⟩ := s_countGroups (N := N) (μ := ν1) (n := n) hN hn (hF1.2.trans hc)
      have hF2 := hF1.tr b2.r
      have hc2 : ν2.1 10 0 5 = iI n := hF2.2.trans hc
      obtain ⟨ν3, hν3⟩ : ∃ ν3, ν3 = zputI ν2 34 0 (va_cpy (ν2.1 35 0) (ν2.1 34 0) 0 0 n) := ⟨_, rfl⟩
      have w34 : ∀ m, m < n → ν3.1 34 0 m = ν2.1 35 0 m := fun m hm => by rw [hν3, rPI, if_pos ⟨rfl, rfl⟩, cpy0, if_pos hm]
      have hF3 : frR ν2 ν3 := by
        rw [hν3]
        exact ⟨Same.rf.putI (fun x => by unfold relI; simp), by rw [rPI, if_neg (by omega)]⟩
      have hV3 : aR ν3 n (vv T (i + 1)) := fun m hm => by rw [hν3, rPIJ, b2.1]; exact a3' m hm
      have hG3 : gI T n ν3 (i + 1) := by
        intro m hm hm2
        have hal := (aR_al a3' hm).2 hm2
        rw [w34 m hm, b3 m hm hal]
        have hfs := (fs_spec (ky := kyOf ν1) hal).1
        refine ⟨by rw [iI_toInt (by omega) (by omega)]; omega, fun m' hm' hm2' => ?_⟩
        have hal' := (aR_al a3' hm').2 hm2'
        have hfs' := (fs_spec (ky := kyOf ν1) hal').1
        rw [w34 m' hm', b3 m' hm' hal', iI_eq (by omega) (by omega) (by omega) (by omega), sm_succ, ← ((hG m hm (vv_down hm2)).2 m' hm' (vv_down hm2')), ← g1 m, ← g1 m']
        have k1 := fs_eq (ky := kyOf ν1) hal hal'
        have k2 := aR_ky a3' hm hm' hm2 hm2'
        constructor
        · intro q
          have := k2.1 (k1.1 (by omega))
          exact ⟨this.1, fun _ => this.2⟩
        · intro q
          have := k1.2 (k2.2 ⟨q.1, q.2 k9⟩)
          omega
      obtain ⟨ν', d1, d2, d3, d4⟩ := said_g (kx := kx) hN htl hC hO hn hc f (i + 1) q ν3 (by omega) (by omega) (hF2.tr hF3) hV3 hG3
      refine ⟨ν', ?_, d2, d3, d4⟩
      rw [b1, zbnd_eq]
      simp only [hc2]
      rw [zchk_t (zcp_0 (show n ≤ zlen 35 0 from hn) (show n ≤ zlen 34 0 from hn) (by omega)), cl_nat (by omega), show (0 : Int32).toNatClampNeg = 0 from rfl, ← hν3]
      exact d1
    · rw [zif_f (by rw [ilit, iI_eq (by omega) (by omega) (by omega) (by omega)]; exact k9)]
      refine said_g (kx := kx) hN htl hC hO hn hc f (i + 1) q ν1 (by omega) (by omega) hF1 a3' ?_
      intro m hm hm2
      rw [g1 m]
      obtain ⟨x1, x2⟩ := hG m hm (vv_down hm2)
      refine ⟨x1, fun m' hm' hm2' => ?_⟩
      rw [g1 m', sm_succ, x2 m' hm' (vv_down hm2')]
      exact ⟨fun q => ⟨q, fun c => absurd c k9⟩, fun q => q.1⟩
def eA (T : Tb) (m : Nat) : Bool := (vv T T.1 m).isSome
theorem eA_iff {T : Tb} {m : Nat} : eA T m = true ↔ vv T T.1 m ≠ none := by
  unfold eA
  cases vv T T.1 m with
  | none => exact ⟨fun q => (by cases q), fun q => absurd rfl q⟩
  | some v => exact ⟨fun _ q => (by cases q), fun _ => rfl⟩
theorem ends_l {N : Nat} {μ : ZMem} {n : Nat} {T : Tb} (hn : n ≤ 500) (hc : μ.1 10 0 5 = iI n) (hV : aR μ n (vv T T.1)) : ∀ (f m fuel : Nat) (ν : ZMem), m + f = n → f < fuel → ν.2 = μ.2 → (∀ k i x, k ≠ 34 → ν.1 k i x = μ.1 k i x) → (∀ u, ν.1 34 0 u = if u < m ∧ eA T u = false then -1 else μ.1 34 0 u) →
    ∃ ν', f_Parting_groupBySaid_l88 N fuel (iI ((alS (eA T) m : Nat) : Int)) (iI m) ν = some (iI ((alS (eA T) n : Nat) : Int), ν') ∧ ν'.2 = μ.2 ∧ (∀ k i x, k ≠ 34 → ν'.1 k i x = μ.1 k i x) ∧ (∀ u, ν'.1 34 0 u = if u < n ∧ eA T u = false then -1 else μ.1 34 0 u)
  | 0, m, fuel, ν, h1, h2, hJ, hI, hg => by
    obtain ⟨q, rfl⟩ : ∃ q, fuel = q + 1 := ⟨fuel - 1, by omega⟩
    have : m = n := by omega
    subst this
    refine ⟨ν, ?_, hJ, hI, hg⟩
    simp only [f_Parting_groupBySaid_l88]
    rw [hI 10 0 5 (by omega), hc, zif_t (by rw [iI_le (by omega) (by omega) (by omega) (by omega)]; omega)]; rfl
  | f + 1, m, fuel, ν, h1, h2, hJ, hI, hg => by
    obtain ⟨q, rfl⟩ : ∃ q, fuel = q + 1 := ⟨fuel - 1, by omega⟩
    have e : iI (m : Int) + (1 : Int32) = iI ((m + 1 : Nat) : Int) := by rw [ilit, iI_add]; congr 1
    have e1 : iI ((alS (eA T) m : Nat) : Int) + (1 : Int32) = iI ((alS (eA T) m + 1 : Nat) : Int) := by rw [ilit, iI_add]; congr 1
    have z3 : zin (iI (m : Int)) (zlen 33 0) := zin_k 500 rfl (by omega) (by omega) (by omega)
    have z4 : zin (iI (m : Int)) (zlen 34 0) := zin_k 500 rfl (by omega) (by omega) (by omega)
    have hal := aR_al hV (show m < n by omega)
    rw [← eA_iff] at hal
    simp only [f_Parting_groupBySaid_l88]
    rw [hI 10 0 5 (by omega), hc, zif_f (by rw [iI_le (by omega) (by omega) (by omega) (by omega)]; omega), zchk_t z3]
    simp only [zlt_eq, zchk_t z4, cl_nat (show m < 2147483648 by omega), hJ, e, e1]
    cases hA : eA T m with
    | false =>
      have h0 : μ.2 33 0 m = 0 := by
        have : ¬ alA μ m = true := fun q => by rw [hal.1 q] at hA; cases hA
        unfold alA at this
        rw [decide_eq_true_eq, Classical.not_not] at this
        exact this
      have hgc : alS (eA T) (m + 1) = alS (eA T) m := by
        show alS (eA T) m + _ = _
        rw [if_neg (by rw [hA]; decide)]; rfl
      rw [zif_t (by rw [lcmp_eqv]; exact h0), ← hgc]
      refine ends_l hn hc hV f (m + 1) q (zsetI ν 34 0 m (-1)) (by omega) (by omega) hJ (fun k i x qk => by rw [rI, if_neg (fun e => qk e.1)]; exact hI k i x qk) (fun u => ?_)
      rw [rI]
      by_cases d : u = m
      · rw [if_pos ⟨rfl, rfl, d⟩, if_pos ⟨by omega, by rw [d]; exact hA⟩]
      · rw [if_neg (fun e => d e.2.2), hg u]
        by_cases c : u < m ∧ eA T u = false
        · rw [if_pos c, if_pos ⟨by omega, c.2⟩]
        · rw [if_neg c, if_neg (fun x => c ⟨by omega, x.2⟩)]
    | true =>
      have h0 : ¬ μ.2 33 0 m = 0 := by
        have := hal.2 hA
        unfold alA at this
        rw [decide_eq_true_eq] at this
        exact this
      have hgc : alS (eA T) (m + 1) = alS (eA T) m + 1 := by
        show alS (eA T) m + _ = _
        rw [if_pos hA]
      rw [zif_f (by rw [lcmp_eqv]; exact h0), ← hgc]
      refine ends_l hn hc hV f (m + 1) q ν (by omega) (by omega) hJ hI (fun u => ?_)
      rw [hg u]
      by_cases d : u = m
      · rw [if_neg (by omega), if_neg (fun x => by rw [d, hA] at x; cases x.2)]
      · by_cases c : u < m ∧ eA T u = false
        · rw [if_pos c, if_pos ⟨by omega, c.2⟩]
        · rw [if_neg c, if_neg (fun x => c ⟨by omega, x.2⟩)]
