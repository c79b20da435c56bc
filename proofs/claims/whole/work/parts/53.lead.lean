/-! made: the reference: one row of orders after the other -/
theorem s_M_does0 {N : Nat} {μ : ZMem} {k x t : Int} {v : Int × Int} (hN : 130 ≤ N) (hv : isV v) (h1 : μ.2 12 0 15 = lI v.1) (h2 : μ.2 12 0 16 = lI v.2) (hth : μ.1 44 0 0 = iI t) (ht0 : 0 ≤ t) (ht : t ≤ 9999) (hk0 : 0 ≤ k) (hk : k ≤ 7) (hx0 : 0 ≤ x) (hx : x ≤ 10000) :
    f_M_does N μ (iI k) (iI x) = ansM μ (ordS k (amt x (fun _ => t)) v) := by
  have ha : 0 ≤ amt x (fun _ => t) ∧ amt x (fun _ => t) ≤ 9999 := by simp only [amt]; split <;> omega
  have h8 : k = 8 → 1 ≤ amt x (fun _ => t) := fun q => by omega
  unfold f_M_does
  refine zlt_gen (fun J hJ => ?_)
  have flag : zif ((10000 : Int32) ≤ iI x) (zchk (zin (iI x - (10000 : Int32)) (zlen 44 0)) (J ((μ.1 44 0 (iI x - (10000 : Int32)).toNatClampNeg).toInt64) μ)) (J (iI x).toInt64 μ) = J (lI (amt x (fun _ => t))) μ := by
    by_cases c : x < 10000
    · rw [zif_f (by rw [ilit, iI_le (by omega) (by omega) (by omega) (by omega)]; omega), iI_long (by omega) (by omega)]
      unfold amt
      rw [if_pos c]
    · rw [zif_t (by rw [ilit, iI_le (by omega) (by omega) (by omega) (by omega)]; omega), ilit, iI_sub, zchk_t (zin_iI (by omega) (show x - 10000 < ((zlen 44 0 : Nat) : Int) by show x - 10000 < ((4 : Nat) : Int); omega) (by decide)), iI_clamp (by omega) (by omega), show (x - 10000).toNat = 0 by omega, hth, iI_long (by omega) (by omega)]
      unfold amt
      rw [if_neg c]
  refine flag.trans ?_
  rw [hJ]
  generalize amt x (fun _ => t) = y at *
  obtain ⟨v1, v2⟩ := v
  have hv' := hv
  obtain ⟨g1, g2, g3, g4, g5⟩ := hv
  simp only at g1 g2 g3 g4 g5 h1 h2
  have hm : (y * v2).natAbs ≤ 9999000000 := by have := mul_rng (a := y) (b := v2) (A := 9999) (B := 1000000) (by omega) (by omega); omega
  have hm0 : 0 ≤ y * v2 := Int.mul_nonneg (by omega) (by omega)
  have hm3 : (v1 * y).natAbs ≤ 9999000000000000 := by have := mul_rng (a := v1) (b := y) (A := 1000000000000) (B := 9999) (by omega) (by omega); omega
  simp only [zlt_eq]
  have fg : 4 ≤ k → k ≤ 8 → zbnd (f_M_figures N μ (iI k) (lI y)) (fun (r8 : Int32) (μ7 : ZMem) => zchk (narrow .boolean (.int r8) = .int r8) (zret r8 μ7)) = ansM μ (ordS k y (v1, v2)) := fun a b => by
    rw [s_M_figures hN hv' h1 h2 a b ha.1 ha.2 h8, ansM_chk]
  have kc : k = 0 ∨ k = 1 ∨ k = 2 ∨ k = 3 ∨ k = 4 ∨ k = 5 ∨ k = 6 ∨ k = 7 ∨ k = 8 ∨ k = 9 := by omega
  rcases kc with rfl | rfl | rfl | rfl | rfl | rfl | rfl | rfl | rfl | rfl
  · rw [zif_t (by decide), h1, h2, lI_mul, lI_add, lay_ans (by omega) (by omega) (by omega) (by omega), ansM_chk]; rfl
  · rw [zif_f (by decide), zif_t (by decide), h1, h2, lI_mul, lI_sub, lay_ans (by omega) (by omega) (by omega) (by omega), ansM_chk]; rfl
  · rw [zif_f (by decide), zif_f (by decide), zif_t (by decide), h1, h2, lI_mul, lay_ans (by omega) (by omega) (by omega) (by omega), ansM_chk]; rfl
  · rw [zif_f (by decide), zif_f (by decide), zif_f (by decide), zif_t (by decide)]
    by_cases q : y = 0
    · rw [zif_t (by rw [llit, lcmp_eq (by omega) (by omega) (by omega) (by omega)]; omega)]; subst q; rfl
    · have : 0 < v2 * y := Int.mul_pos (by omega) (by omega)
      have e9 : v2 * y = y * v2 := Int.mul_comm _ _
      rw [zif_f (by rw [llit, lcmp_eq (by omega) (by omega) (by omega) (by omega)]; omega), h1, h2, lI_mul, lay_ans (by omega) (by omega) (by omega) (by omega), ansM_if]
      simp only [ordS, if_neg q]; rfl
  · rw [zif_f (by decide), zif_f (by decide), zif_f (by decide), zif_f (by decide), zif_t (by decide)]; exact fg (by omega) (by omega)
  · rw [zif_f (by decide), zif_f (by decide), zif_f (by decide), zif_f (by decide), zif_f (by decide), zif_t (by decide)]; exact fg (by omega) (by omega)
  · rw [zif_f (by decide), zif_f (by decide), zif_f (by decide), zif_f (by decide), zif_f (by decide), zif_f (by decide), zif_t (by decide)]; exact fg (by omega) (by omega)
  · rw [zif_f (by decide), zif_f (by decide), zif_f (by decide), zif_f (by decide), zif_f (by decide), zif_f (by decide), zif_f (by decide), zif_t (by decide)]; exact fg (by omega) (by omega)
  · rw [zif_f (by decide), zif_f (by decide), zif_f (by decide), zif_f (by decide), zif_f (by decide), zif_f (by decide), zif_f (by decide), zif_f (by decide), zif_t (by decide)]; exact fg (by omega) (by omega)
  · rw [zif_f (by decide), zif_f (by decide), zif_f (by decide), zif_f (by decide), zif_f (by decide), zif_f (by decide), zif_f (by decide), zif_f (by decide), zif_f (by decide), zif_t (by decide)]
    have : setM μ (v1, v2) = μ := setM_self h1 h2
    simp [ordS, ansM, this]; rfl
def KN (ν : ZMem) (c : Nat) (kd xs : Nat → Int) : Prop := (c ≤ 6 ∧ ν.1 40 0 6 = iI c) ∧ ∀ a, a < c → ν.1 40 0 (12 + 2 * a) = iI (kd a) ∧ ν.1 40 0 (12 + 2 * a + 1) = iI (xs a) ∧ 0 ≤ kd a ∧ kd a ≤ 7 ∧ 0 ≤ xs a ∧ xs a ≤ 10000
def fqL (ν ν' : ZMem) : Prop := (∀ k i x, ¬ (k = 44 ∧ i = 0 ∧ x = 0) → ν'.1 k i x = ν.1 k i x) ∧ ∀ k i x, ¬ (k = 12 ∧ i = 0) → ν'.2 k i x = ν.2 k i x
theorem fqL.rf {ν : ZMem} : fqL ν ν := ⟨fun _ _ _ _ => rfl, fun _ _ _ _ => rfl⟩
theorem fqL.tr {ν ν' ν'' : ZMem} (h : fqL ν ν') (h' : fqL ν' ν'') : fqL ν ν'' := ⟨fun k i x q => (h'.1 k i x q).trans (h.1 k i x q), fun k i x q => (h'.2 k i x q).trans (h.2 k i x q)⟩
theorem fqL_setM {ν ν' : ZMem} {v : Int × Int} (h : fqL ν ν') : fqL ν (setM ν' v) := ⟨h.1, fun k i x q => by
  unfold setM
  rw [rJ, if_neg (fun e => q ⟨e.1, e.2.1⟩), rJ, if_neg (fun e => q ⟨e.1, e.2.1⟩)]
  exact h.2 k i x q⟩
theorem leads_l {N : Nat} {μ : ZMem} {c l j : Nat} {kd xs : Nat → Int} {low goal : Int} {q : Nat → Nat} (hN : 130 ≤ N) (hK : KN μ c kd xs) (h44 : μ.1 44 0 0 = iI (low + (j : Int))) (hl0 : 0 ≤ low + (j : Int)) (hl1 : low + (j : Int) ≤ 9999) (hl : l ≤ 5) (hq : ∀ i, i < l → μ.1 51 0 i = iI (q i) ∧ q i < c) (hg0 : 0 ≤ goal) (hg : goal ≤ 9999) :
    ∀ (m i fuel : Nat) (u : Int), i + m = l → m < fuel → 0 ≤ u → u ≤ 1000000000000 → ∃ w, f_M_leads_l21 N (iI goal) (iI l) (fun (μ10 : ZMem) => zif ((lg_cmp (μ10.2 12 0 15) (iI goal).toInt64) = 0) (zret (1 : Int32) μ10) (zret (0 : Int32) μ10)) fuel (iI i) (setM μ (u, 1)) = some (bI (decide (rl kd xs low j q m i u = some goal)), setM μ w)
  | 0, i, fuel, u, e1, e2, h0, h1 => by
    obtain ⟨f, rfl⟩ : ∃ q, fuel = q + 1 := ⟨fuel - 1, by omega⟩
    refine ⟨(u, 1), ?_⟩
    simp only [f_M_leads_l21, setM_0, iI_long (show -2147483648 ≤ goal by omega) (show goal < 2147483648 by omega)]
    rw [zif_t (by rw [iI_le (by omega) (by omega) (by omega) (by omega)]; omega)]
    by_cases c : u = goal
    · rw [zif_t (by rw [lcmp_eq (by omega) (by omega) (by omega) (by omega)]; exact c)]
      have : decide (rl kd xs low j q 0 i u = some goal) = true := by simp [rl, c]
      rw [this]; rfl
    · rw [zif_f (by rw [lcmp_eq (by omega) (by omega) (by omega) (by omega)]; exact c)]
      have : decide (rl kd xs low j q 0 i u = some goal) = false := by simp [rl, c]
      rw [this]; rfl
  | m + 1, i, fuel, u, e1, e2, h0, h1 => by
    obtain ⟨f, rfl⟩ : ∃ q, fuel = q + 1 := ⟨fuel - 1, by omega⟩
    obtain ⟨q1, q2⟩ := hq i (by omega)
    obtain ⟨⟨c6, -⟩, hb⟩ := id hK
    obtain ⟨b1, b2, b3, b4, b5, b6⟩ := hb (q i) q2
    have e : iI (i : Int) + (1 : Int32) = iI ((i + 1 : Nat) : Int) := by rw [ilit, iI_add]; congr 1
    have ex : (12 : Int32) + (2 : Int32) * iI (q i : Int) = iI ((12 + 2 * q i : Nat) : Int) := by rw [ilit, ilit, iI_mul, iI_add]; rfl
    have ex1 : iI ((12 + 2 * q i : Nat) : Int) + (1 : Int32) = iI ((12 + 2 * q i + 1 : Nat) : Int) := by rw [ilit, iI_add]; congr 1
    have hV : isV (u, 1) := ⟨by show (0 : Int) < 1; omega, by show (1 : Int) ≤ _; omega, by show _ ≤ u; omega, h1, by show Int.gcd u 1 = 1; exact Int.gcd_one⟩
    have zi : zin (iI (i : Int)) (zlen 51 0) := zin_k 5 rfl (by omega) (by omega) (by omega)
    have z1 : zin (iI ((12 + 2 * q i : Nat) : Int)) (zlen 40 0) := zin_k 30 rfl (by omega) (by omega) (by omega)
    have z2 : zin (iI ((12 + 2 * q i + 1 : Nat) : Int)) (zlen 40 0) := zin_k 30 rfl (by omega) (by omega) (by omega)
    have hI : (setM μ (u, 1)).1 = μ.1 := rfl
    have hD := s_M_does0 (N := N) (μ := setM μ (u, 1)) (k := kd (q i)) (x := xs (q i)) (t := low + (j : Int)) hN hV setM_0 setM_1 h44 hl0 hl1 b3 b4 b5 b6
    simp only [f_M_leads_l21]
    rw [zif_f (by rw [iI_le (by omega) (by omega) (by omega) (by omega)]; omega)]
    simp only [hI, cl_nat (show i < 2147483648 by omega), q1, ex, ex1, cl_nat (show 12 + 2 * q i < 2147483648 by omega), cl_nat (show 12 + 2 * q i + 1 < 2147483648 by omega), b1, b2, zchk_t zi, zchk_t z1, zchk_t z2, e]
    rw [hD]
    have hsv : sv (kd (q i)) (xs (q i)) low j u = (match ordS (kd (q i)) (amt (xs (q i)) (fun _ => low + (j : Int))) (u, 1) with | none => none | some w => if w.2 = 1 ∧ 0 ≤ w.1 then some w.1 else none) := rfl
    have hno : sv (kd (q i)) (xs (q i)) low j u = none → decide (rl kd xs low j q (m + 1) i u = some goal) = false := fun h => by rw [rl_none h]; simp
    have ha0 : 0 ≤ amt (xs (q i)) (fun _ => low + (j : Int)) := by simp only [amt]; split <;> omega
    cases h : ordS (kd (q i)) (amt (xs (q i)) (fun _ => low + (j : Int))) (u, 1) with
    | none =>
      rw [h] at hsv
      rw [hno hsv]
      simp only [ansM, zbnd_eq]
      rw [zif_t trivial]
      exact ⟨(u, 1), rfl⟩
    | some w =>
      rw [h] at hsv
      obtain ⟨p1, p2, p3, p4, -⟩ := ordS_isV hV ha0 h
      simp only [ansM, zbnd_eq, setM_0, setM_1, setM_setM]
      rw [zif_f (by decide)]
      by_cases c1 : w.2 = 1
      · rw [zif_t (by rw [llit, lcmp_eq (by omega) (by omega) (by omega) (by omega)]; exact c1)]
        by_cases c2 : 0 ≤ w.1
        · rw [zif_t (by rw [llit, lcmp_ge (by omega) (by omega) (by omega) (by omega)]; exact c2)]
          have hsw : sv (kd (q i)) (xs (q i)) low j u = some w.1 := by rw [hsv]; exact if_pos ⟨c1, c2⟩
          rw [rl_succ hsw, zlt_eq, show w = (w.1, 1) from by rw [← c1]]
          exact leads_l hN hK h44 hl0 hl1 hl hq hg0 hg m (i + 1) f w.1 (by omega) (by omega) c2 p4
        · rw [zif_f (by rw [llit, lcmp_ge (by omega) (by omega) (by omega) (by omega)]; exact c2)]
          rw [hno (by rw [hsv]; exact if_neg (fun q => c2 q.2))]
          exact ⟨w, rfl⟩
      · rw [zif_f (by rw [llit, lcmp_eq (by omega) (by omega) (by omega) (by omega)]; exact c1)]
        rw [hno (by rw [hsv]; exact if_neg (fun q => c1 q.1))]
        exact ⟨w, rfl⟩
theorem s_leads {N : Nat} {μ : ZMem} {c l j : Nat} {kd xs : Nat → Int} {low goal : Int} {q : Nat → Nat} (hN : 130 ≤ N) (hK : KN μ c kd xs) (hl0 : 0 ≤ low + (j : Int)) (hl1 : low + (j : Int) ≤ 9999) (hl : l ≤ 5) (hq : ∀ i, i < l → μ.1 51 0 i = iI (q i) ∧ q i < c) (hg0 : 0 ≤ goal) (hg : goal ≤ 9999) :
    ∃ μ', f_M_leads N μ (iI (low + (j : Int))) (iI goal) (iI l) = some (bI (decide (rl kd xs low j q l 0 (low + (j : Int)) = some goal)), μ') ∧ fqL μ μ' := by
  obtain ⟨ν, hν⟩ : ∃ ν, ν = zsetI μ 44 0 0 (iI (low + (j : Int))) := ⟨_, rfl⟩
  have hF : fqL μ ν := by rw [hν]; exact ⟨fun k i x q => by rw [rI, if_neg q], fun _ _ _ _ => rfl⟩
  have hK' : KN ν c kd xs := by
    obtain ⟨⟨k1, k2⟩, k3⟩ := hK
    exact ⟨⟨k1, by rw [hF.1 40 0 6 (by omega)]; exact k2⟩, fun a ha => by rw [hF.1 40 0 _ (by omega), hF.1 40 0 _ (by omega)]; exact k3 a ha⟩
  obtain ⟨w, hw⟩ := leads_l (N := N) (μ := ν) (c := c) (l := l) (j := j) (low := low) (goal := goal) (q := q) hN hK' (by rw [hν, rI, if_pos ⟨rfl, rfl, rfl⟩]) hl0 hl1 hl (fun i hi => by rw [hF.1 51 0 i (by omega)]; exact hq i hi) hg0 hg l 0 N (low + (j : Int)) (by omega) (by omega) hl0 (by omega)
  refine ⟨setM ν w, ?_, fqL_setM hF⟩
  unfold f_M_leads
  rw [zchk_t (by decide)]
  simp only [zlt_eq, iI_long (show -2147483648 ≤ low + (j : Int) by omega) (show low + (j : Int) < 2147483648 by omega), show (0 : Int32).toNatClampNeg = 0 from rfl, ← hν]
  exact hw
