def RM (μ : ZMem) (s : Ty) : Prop := ∀ j, j < 10000 → μ.1 46 0 j = if s.2.2.2.2 j then 1 else 0
/-- only the thought, the value and the marks of the reference may differ -/
theorem sel_min {β : Type} {J : Int32 → ZMem → Option β} {μ : ZMem} {n : Nat} {l y : Int} (hn : n < 100000) (hl0 : 0 ≤ l) (hl : l ≤ 9999) (hy0 : 0 ≤ y) (hy : y ≤ 9999) : zlt (fun (μ58 : ZMem) => J (iI y) μ58) (fun k59 => zif (iI (n : Int) = 0) (k59 μ) (zif (iI l ≤ iI y) (J (iI l) μ) (k59 μ))) = J (iI (if n = 0 then y else min l y)) μ := by
  simp only [zlt_eq]
  by_cases c : n = 0
  · rw [zif_t (by rw [c]; rfl), if_pos c]
  · rw [zif_f (by rw [zi0, iI_eq (by omega) (by omega) (by omega) (by omega)]; omega), if_neg c]
    by_cases d : l ≤ y
    · rw [zif_t (by rw [iI_le (by omega) (by omega) (by omega) (by omega)]; exact d), show min l y = l by omega]
    · rw [zif_f (by rw [iI_le (by omega) (by omega) (by omega) (by omega)]; exact d), show min l y = y by omega]
theorem sel_max {β : Type} {J : Int32 → ZMem → Option β} {μ : ZMem} {n : Nat} {l y : Int} (hn : n < 100000) (hl0 : 0 ≤ l) (hl : l ≤ 9999) (hy0 : 0 ≤ y) (hy : y ≤ 9999) : zlt (fun (μ58 : ZMem) => J (iI y) μ58) (fun k59 => zif (iI (n : Int) = 0) (k59 μ) (zif (iI y ≤ iI l) (J (iI l) μ) (k59 μ))) = J (iI (if n = 0 then y else max l y)) μ := by
  simp only [zlt_eq]
  by_cases c : n = 0
  · rw [zif_t (by rw [c]; rfl), if_pos c]
  · rw [zif_f (by rw [zi0, iI_eq (by omega) (by omega) (by omega) (by omega)]; omega), if_neg c]
    by_cases d : y ≤ l
    · rw [zif_t (by rw [iI_le (by omega) (by omega) (by omega) (by omega)]; exact d), show max l y = l by omega]
    · rw [zif_f (by rw [iI_le (by omega) (by omega) (by omega) (by omega)]; exact d), show max l y = y by omega]
theorem note_m {β : Type} {J : Int32 → Int32 → Int32 → Int32 → ZMem → Option β} {μ : ZMem} {s : Ty} {y : Nat} (hy : y < 10000) (hR : RM μ s) (hs : tlOk s) (hs2 : s.1 < 100000) :
    zlt (iI (y : Int)) (fun (x41 : Int32) => zlt (fun (y42 : Int32) (μ43 : ZMem) => zlt y42 (fun (x45 : Int32) => zlt (fun (y46 : Int32) (μ47 : ZMem) => zlt y46 (fun (x49 : Int32) => zchk (zin x41 (zlen 46 0)) (zlt (fun (y50 : Int32) (μ51 : ZMem) => zlt (iI (s.2.1 : Int) + y50) (fun (x53 : Int32) => zchk (zin x41 (zlen 46 0)) (zlt (zsetI μ51 46 0 x41.toNatClampNeg (vp_nar .boolean (1 : Int32))) (fun (μ54 : ZMem) => zlt (iI (s.1 : Int) + (1 : Int32)) (fun (x55 : Int32) => J x55 x53 x45 x49 μ54))))) (fun k52 => zif ((μ47.1 46 0 x41.toNatClampNeg) = 0) (k52 (1 : Int32) μ47) (k52 (0 : Int32) μ47))))) (fun k48 => zlt (fun (μ56 : ZMem) => k48 x41 μ56) (fun k57 => zif (iI (s.1 : Int) = 0) (k57 μ43) (zif (x41 ≤ iI s.2.2.2.1) (k48 (iI s.2.2.2.1) μ43) (k57 μ43)))))) (fun k44 => zlt (fun (μ58 : ZMem) => k44 x41 μ58) (fun k59 => zif (iI (s.1 : Int) = 0) (k59 μ) (zif (iI s.2.2.1 ≤ x41) (k44 (iI s.2.2.1) μ) (k59 μ)))))
      = J (iI ((tlN s y).1 : Int)) (iI ((tlN s y).2.1 : Int)) (iI (tlN s y).2.2.1) (iI (tlN s y).2.2.2.1) (zsetI μ 46 0 y 1) := by
  obtain ⟨o1, o2, o3, o4, o5⟩ := hs
  rw [zlt_eq]
  refine zlt_gen (fun J44 h44 => ?_)
  rw [sel_min hs2 o2 o3 (by omega) (by omega), h44]
  simp only
  rw [zlt_eq]
  refine zlt_gen (fun J48 h48 => ?_)
  rw [sel_max hs2 o4 o5 (by omega) (by omega), h48]
  simp only
  rw [zlt_eq, zchk_t (zin_k 10000 rfl (by omega) (by omega) (by omega))]
  simp only [cl_nat (show y < 2147483648 by omega), hR y hy]
  have en : iI (s.1 : Int) + (1 : Int32) = iI ((s.1 + 1 : Nat) : Int) := by rw [ilit, iI_add]; congr 1
  have ed : iI (s.2.1 : Int) + (1 : Int32) = iI ((s.2.1 + 1 : Nat) : Int) := by rw [ilit, iI_add]; congr 1
  have ed0 : iI (s.2.1 : Int) + (0 : Int32) = iI (s.2.1 : Int) := Int32.add_zero _
  have vb : vp_nar .boolean (1 : Int32) = 1 := rfl
  simp only [zlt_eq, zchk_t (zin_k (z := (y : Int)) (k := 46) (i := 0) 10000 rfl (by omega) (by omega) (by omega)), en, ed, ed0, vb]
  unfold tlN
  cases hb : s.2.2.2.2 y with
  | true => rw [if_pos rfl, zif_f (by decide)]; rfl
  | false => rw [if_neg (by decide), zif_t rfl]; rfl
theorem RM_note {μ : ZMem} {s : Ty} {y : Nat} (hR : RM μ s) : RM (zsetI μ 46 0 y 1) (tlN s y) := fun j hj => by
  rw [rI]
  unfold tlN
  by_cases c : j = y
  · rw [if_pos ⟨rfl, rfl, c⟩]; simp [c]
  · rw [if_neg (fun q => c q.2.2), hR j hj]; simp [c]
theorem same46 {μ μ' : ZMem} {y : Nat} {v : Int32} (h : Same μ μ') : Same μ (zsetI μ' 46 0 y v) := h.setI rfl
theorem fits_m {N : Nat} {t m : Nat} {T : Tb} {ln ld : Nat → Int64} {p : Int} {p2 : Int32} {kx : Int32 → Int32 → Int32 → Int32 → ZMem → Option (Int32 × ZMem)} {μ0 : ZMem} (hN : 130 ≤ N) (htl : t < 4) (hM : TabM μ0 t T) (hO : TabOk T) (hc : cn T 4 ≤ 20000) (hm : m ≤ 6) (hmc : μ0.1 40 0 5 = iI m) (hL : ∀ j, j < m → μ0.2 41 0 (48 + 2 * j) = ln j ∧ μ0.2 41 0 (48 + 2 * j + 1) = ld j) (hp0 : -1 ≤ p) (hp : p < 4) :
    ∀ (f i fuel : Nat) (μ : ZMem) (th : Nat → Int) (s : Ty), ((i + f : Nat) : Int) = cn T 4 → f < fuel → Same μ0 μ → thM μ th → inB T th → RM μ s → tlOk s → s.1 ≤ i →
      ∃ μ', f_M_fits_l95 N (iI t) (iI p) p2 (iI (cn T 4)) kx fuel (iI s.1) (iI s.2.1) (iI s.2.2.1) (iI s.2.2.2.1) (iI i) μ = (fun (s' : Ty) => kx (iI s'.1) (iI s'.2.1) (iI s'.2.2.1) (iI s'.2.2.2.1) μ') (fiS T m ln ld p f th s) ∧ Same μ0 μ'
  | 0, i, fuel, μ, th, s, h1, h2, hS, hth, hB, hR, hs, hsi => by
    obtain ⟨q, rfl⟩ : ∃ q, fuel = q + 1 := ⟨fuel - 1, by omega⟩
    refine ⟨μ, ?_, hS⟩
    simp only [f_M_fits_l95]
    rw [zif_t (by rw [iI_le (by omega) (by omega) (by omega) (by omega)]; omega)]
    rfl
  | f + 1, i, fuel, μ, th, s, h1, h2, hS, hth, hB, hR, hs, hsi => by
    obtain ⟨q, rfl⟩ : ∃ q, fuel = q + 1 := ⟨fuel - 1, by omega⟩
    have e : iI (i : Int) + (1 : Int32) = iI ((i + 1 : Nat) : Int) := by rw [ilit, iI_add]; congr 1
    have hok := hB.ok hO
    obtain ⟨w', hJ⟩ := s_isFit (N := N) (μ := μ) (t := t) (m := m) (ln := ln) (ld := ld) hN htl (hM.same hS) hO hth hok hm (by rw [hS.1 40 0 5 rfl]; exact hmc) (fun j hj => by rw [hS.2 41 0 _ rfl, hS.2 41 0 _ rfl]; exact hL j hj)
    have hy : yOf p th < 10000 := by
      unfold yOf
      split
      · omega
      · have := hok p.toNat (by omega); omega
    have hB2 := nx_in hO 4 th (by omega) hB
    simp only [f_M_fits_l95]
    rw [zif_f (by rw [iI_le (by omega) (by omega) (by omega) (by omega)]; omega), hJ, zbnd_eq]
    refine zlt_gen' (P := fun z => ∃ μ', z = (fun (s' : Ty) => kx (iI s'.1) (iI s'.2.1) (iI s'.2.2.1) (iI s'.2.2.2.1) μ') (fiS T m ln ld p (f + 1) th s) ∧ Same μ0 μ') (fun J hJ2 => ?_)
    have hJJ : ∀ (μ8 : ZMem) (s2 : Ty), Same μ0 μ8 → thM μ8 th → RM μ8 s2 → tlOk s2 → s2.1 ≤ i + 1 → s2 = (if ft T m ln ld th then tlN s (yOf p th) else s) → ∃ μ', J (iI s2.1) (iI s2.2.1) (iI s2.2.2.1) (iI s2.2.2.2.1) μ8 = (fun (s' : Ty) => kx (iI s'.1) (iI s'.2.1) (iI s'.2.2.1) (iI s'.2.2.2.1) μ') (fiS T m ln ld p (f + 1) th s) ∧ Same μ0 μ' := by
      intro μ8 s2 r1 r2 r3 r4 r5 r6
      obtain ⟨μ9, b1, b2, b3⟩ := s_thinkNext (N := N) (μ := μ8) (t := t) hN htl (hM.same r1) hO r2 hB
      have b4 := b3.same
      obtain ⟨μ', d1, d2⟩ := fits_m (p2 := p2) (kx := kx) hN htl hM hO hc hm hmc hL hp0 hp f (i + 1) q μ9 (nx T 4 th) s2 (by omega) (by omega) (r1.tr b4) b2 hB2 (fun j hj => by rw [b3.2 46 0 j (by omega)]; exact r3 j hj) r4 (by omega)
      refine ⟨μ', ?_, d2⟩
      rw [hJ2]
      simp only
      rw [b1, zbnd_eq, zlt_eq, e]
      unfold fiS
      rw [← r6]
      exact d1
    have sV : Same μ0 (setM μ w') := hS.setM
    have rV : RM (setM μ w') s := hR
    cases hf : ft T m ln ld th with
    | false =>
      rw [if_neg (by decide), zif_t rfl]
      exact hJJ _ s sV hth rV hs (by omega) (by rw [hf]; rfl)
    | true =>
      rw [if_pos rfl, zif_f (by decide)]
      have hK := hJJ (zsetI (setM μ w') 46 0 (yOf p th) 1) (tlN s (yOf p th)) (same46 sV) (fun j hj => by rw [rI, if_neg (by omega)]; exact hth j hj) (RM_note rV) (tlN_ok hs hy) (by show s.1 + 1 ≤ _; omega) (by rw [hf]; rfl)
      refine zlt_gen' (P := fun z => ∃ μ', z = (fun (s' : Ty) => kx (iI s'.1) (iI s'.2.1) (iI s'.2.2.1) (iI s'.2.2.2.1) μ') (fiS T m ln ld p (f + 1) th s) ∧ Same μ0 μ') (fun J3 hJ3 => ?_)
      have h3 : J3 (iI (yOf p th : Nat)) (setM μ w') = J (iI ((tlN s (yOf p th)).1 : Int)) (iI ((tlN s (yOf p th)).2.1 : Int)) (iI (tlN s (yOf p th)).2.2.1) (iI (tlN s (yOf p th)).2.2.2.1) (zsetI (setM μ w') 46 0 (yOf p th) 1) := by
        rw [hJ3]
        exact note_m hy rV hs (by omega)
      by_cases cp : p = -1
      · rw [zif_f (by rw [zi0, iI_le (by omega) (by omega) (by omega) (by omega)]; omega)]
        have : yOf p th = 0 := by unfold yOf; rw [if_pos cp]
        have h4 : J3 (0 : Int32) (setM μ w') = J3 (iI (yOf p th : Nat)) (setM μ w') := by rw [this]; rfl
        rw [h4, h3]
        exact hK
      · have ho := hok p.toNat (by omega)
        have : ((yOf p th : Nat) : Int) = th p.toNat := by unfold yOf; rw [if_neg cp]; omega
        have ev : (setM μ w').1 44 0 p.toNat = iI (yOf p th : Nat) := by rw [this]; exact hth p.toNat (by omega)
        rw [zif_t (by rw [zi0, iI_le (by omega) (by omega) (by omega) (by omega)]; omega), zchk_t (zin_k 4 rfl (by omega) (by omega) (by omega)), cl_int (n := p.toNat) (by omega) (by omega), ev, h3]
        exact hK
theorem fits_z {N : Nat} {p0 p1 p2 x9 : Int32} {kx : ZMem → Option (Int32 × ZMem)} {μ0 : ZMem} : ∀ (f i fuel : Nat) (μ : ZMem), i + f = 10000 → f < fuel → Same μ0 μ → (∀ j, j < i → μ.1 46 0 j = 0) → ∃ μ', f_M_fits_l53 N p0 p1 p2 x9 kx fuel (iI i) μ = kx μ' ∧ Same μ0 μ' ∧ ∀ j, j < 10000 → μ'.1 46 0 j = 0
  | 0, i, fuel, μ, h1, h2, hS, h3 => by
    obtain ⟨q, rfl⟩ : ∃ q, fuel = q + 1 := ⟨fuel - 1, by omega⟩
    refine ⟨μ, ?_, hS, fun j hj => h3 j (by omega)⟩
    simp only [f_M_fits_l53]
    rw [zif_t (by rw [ilit, iI_le (by omega) (by omega) (by omega) (by omega)]; omega)]
  | f + 1, i, fuel, μ, h1, h2, hS, h3 => by
    obtain ⟨q, rfl⟩ : ∃ q, fuel = q + 1 := ⟨fuel - 1, by omega⟩
    have e : iI (i : Int) + (1 : Int32) = iI ((i + 1 : Nat) : Int) := by rw [ilit, iI_add]; congr 1
    obtain ⟨μ', a1, a2, a3⟩ := fits_z (N := N) (p0 := p0) (p1 := p1) (p2 := p2) (x9 := x9) (kx := kx) (μ0 := μ0) f (i + 1) q (zsetI μ 46 0 i 0) (by omega) (by omega) (same46 hS) (fun j hj => by
      rw [rI]
      by_cases c : j = i
      · rw [if_pos ⟨rfl, rfl, c⟩]
      · rw [if_neg (fun q => c q.2.2)]; exact h3 j (by omega))
    refine ⟨μ', ?_, a2, a3⟩
    simp only [f_M_fits_l53]
    rw [zif_f (by rw [ilit, iI_le (by omega) (by omega) (by omega) (by omega)]; omega), zchk_t (zin_k 10000 rfl (by omega) (by omega) (by omega)), cl_nat (by omega), zlt_eq, zlt_eq, e]
    exact a1
def pkS (s : Ty) (p : Int) (p2 : Int32) : Int32 := if p = -1 then iI s.1 else if s.1 = 0 then -1 else if p2 = 0 then iI s.2.2.1 else if p2 = 1 then iI s.2.2.2.1 else iI s.2.1
theorem ag_fits (N : Nat) (hN : 30000 ≤ N) (p0 p1 p2 : Int32) : Agree (fun μ => f_A_fits N μ p0 p1 p2) (fun μ => f_M_fits N μ p0 p1 p2) := by
  refine Agree.same (fun μ hI => ?_)
  unfold f_A_fits f_M_fits
  rcases tab_split hI N p0 with ⟨h1, h2⟩ | ⟨t, ht, rfl, htn, h1, h2⟩
  · exact ⟨_, μ, μ, by simp only [h1, zbrf_n]; rfl, by simp only [h2 μ Same.rf, zbnd_eq]; rfl, Same.rf, Same.rf⟩
  · obtain ⟨hC, hM, hO⟩ := hI.tab htn
    obtain ⟨-, -, ⟨-, -, -, ⟨l1, l2, l3, l4⟩, -⟩, -⟩ := hI
    obtain ⟨m, hm1, hm2, hm3⟩ := nat_ex l2 l3
    generalize hT : tabOf μ t = T at hC hM hO
    have hb := cn_rng hO (l := 4) (by omega)
    obtain ⟨p, hp1, hp2, rfl⟩ := iI_ex p1
    obtain ⟨w, hw1, hw2, rfl⟩ := iI_ex p2
    have eI : ∀ μ' : ZMem, f_M_isIn N μ' (iI p) (-1) 3 = some (if -1 ≤ p ∧ p ≤ 3 then 1 else 0, μ') := fun μ' => by rw [m1]; exact s_M_isIn (b := 3) hp1 hp2 (by omega) (by omega) (by omega) (by omega)
    have eI2 : ∀ μ' : ZMem, f_M_isIn N μ' (iI w) 0 2 = some (if 0 ≤ w ∧ w ≤ 2 then 1 else 0, μ') := fun μ' => s_M_isIn (a := 0) (b := 2) hw1 hw2 (by omega) (by omega) (by omega) (by omega)
    by_cases cv : p = -1 ∨ (0 ≤ p ∧ p < 4 ∧ 0 ≤ w ∧ w ≤ 2)
    · -- the arguments are good
      have hA0 : ∀ J : ZMem → Option (Int32 × ZMem), zif (iI p = (-1 : Int32)) (J μ) (zbnd (f_A_isLetter N μ (iI p)) (fun (r28 : Int32) (μ27 : ZMem) => zif (r28 = 0) (zret (-1 : Int32) μ27) (zif (iI w < 0) (zret (-1 : Int32) μ27) (zif (iI w ≤ (2 : Int32)) (J μ27) (zret (-1 : Int32) μ27))))) = J μ := fun J => by
        by_cases c : p = -1
        · rw [zif_t (by rw [c, m1])]
        · rw [zif_f (by rw [m1, iI_eq (by omega) (by omega) (by omega) (by omega)]; exact c), s_A_isLetter hp1 hp2, zbnd_eq, if_pos (by omega), zif_f (by decide), zif_f (by rw [zi0, iI_lt (by omega) (by omega) (by omega) (by omega)]; omega), zif_t (by rw [ilit, iI_le (by omega) (by omega) (by omega) (by omega)]; omega)]
      have hM0 : ∀ (μ' : ZMem) (J : ZMem → Option (Int32 × ZMem)), zif (iI p < 0) (J μ') (zbnd (f_M_isIn N μ' (iI w) (0 : Int32) (2 : Int32)) (fun (r66 : Int32) (μ65 : ZMem) => zif (r66 = 0) (zret (-1 : Int32) μ65) (J μ65))) = J μ' := fun μ' J => by
        by_cases c : p = -1
        · rw [zif_t (by rw [zi0, iI_lt (by omega) (by omega) (by omega) (by omega)]; omega)]
        · rw [zif_f (by rw [zi0, iI_lt (by omega) (by omega) (by omega) (by omega)]; omega), eI2, zbnd_eq, if_pos (by omega), zif_f (by decide)]
      by_cases c : cn T 4 ≤ 20000
      · obtain ⟨ln, hln⟩ : ∃ ln, ln = fun j => μ.2 28 1 j := ⟨_, rfl⟩
        obtain ⟨ld, hld⟩ : ∃ ld, ld = fun j => μ.2 29 1 j := ⟨_, rfl⟩
        have hLa : ∀ j, j < m → μ.2 28 1 j = ln j ∧ μ.2 29 1 j = ld j := fun j _ => by rw [hln, hld]; exact ⟨rfl, rfl⟩
        have hLm : ∀ j, j < m → μ.2 41 0 (48 + 2 * j) = ln j ∧ μ.2 41 0 (48 + 2 * j + 1) = ld j := fun j hj => by
          have := l4 j (by omega)
          rw [hln, hld]; exact ⟨this.1.symm, this.2.symm⟩
        -- the class
        obtain ⟨μ1, a1, a2, a3⟩ := s_fillJ (N := N) (k := 30) (o := 0) (n := 157) (v := 0) (μ := μ) (by omega) rfl (by omega)
        obtain ⟨μ3, hμ3⟩ : ∃ μ3, μ3 = zsetI (zsetI μ1 8 0 1 0) 8 0 4 0 := ⟨_, rfl⟩
        have s3 : Same μ μ3 := by
          refine ⟨fun k i x q => ?_, fun k i x q => ?_⟩
          · rw [hμ3, ((Same.rf (μ := μ1)).setI (k := 8) (i := 0) (x := 1) (v := 0) rfl |>.setI (k := 8) (i := 0) (x := 4) (v := 0) rfl).1 k i x q, a2]
          · rw [hμ3]
            show μ1.2 k i x = _
            rw [a3, if_neg (fun e => by rw [e.1] at q; cases q)]
        obtain ⟨s0, hs0⟩ : ∃ s0 : Ty, s0 = (0, 0, 0, 0, fun _ => false) := ⟨_, rfl⟩
        have hs0k : tlOk s0 := by rw [hs0]; unfold tlOk; simp only; omega
        have hR3 : RA μ3 s0 := by
          rw [hs0]
          refine ⟨by rw [hμ3]; simp [rI]; rfl, by rw [hμ3]; simp [rI]; rfl, fun q => absurd rfl q, fun j hj => ?_⟩
          have : μ3.2 30 0 (j / 64) = 0 := by
            rw [hμ3]
            show μ1.2 30 0 (j / 64) = 0
            rw [a3, if_pos (by omega)]
          rw [this]
          unfold bt
          show (0#64).getLsbD _ = false
          simp
        obtain ⟨μ4, b1, b2, b3⟩ := s_firstOfAll (N := N) (μ := μ3) (t := t) (p := 2) (by omega) (by omega) rfl (hC.same s3) hO
        have s4 := s3.tr (b3.same (by omega))
        obtain ⟨kx, hkx⟩ : ∃ kx : ZMem → Option (Int32 × ZMem), kx = fun (μ24 : ZMem) => zif (iI p = (-1 : Int32)) (zret (μ24.1 8 0 1) μ24) (zbnd (f_Tally_pick N μ24 (iI w)) (fun (r26 : Int32) (μ25 : ZMem) => zret r26 μ25)) := ⟨_, rfl⟩
        obtain ⟨μ5, d1, d2, d3⟩ := fits_a (N := N) (p2 := iI w) (kx := kx) (by omega) ht hC hO c (by omega) hm2 hLa (p := p) (by omega) (by omega) (cn T 4).toNat 0 N μ4 (lo T) s0 (by omega) (by omega) s4 b2 (inB_lo hO) (hR3.same (fun x => b3.2 8 0 x (by omega)) (fun x => by rw [b3.1])) hs0k (by rw [hs0]; exact Nat.le_refl 0)
        have hF := fiS_ok (m := m) (ln := ln) (ld := ld) (p := p) hO (by omega) (by omega) (cn T 4).toNat (lo T) s0 (inB_lo hO) hs0k
        generalize hS : fiS T m ln ld p (cn T 4).toNat (lo T) s0 = S at d3 hF
        have hF2 := hF.2
        have hz0 : s0.1 = 0 := by rw [hs0]
        have hA : kx μ5 = some (pkS S p (iI w), μ5) := by
          rw [hkx]
          obtain ⟨r1, r2, r3, r4⟩ := d3
          unfold pkS f_Tally_pick
          simp only
          by_cases e1 : p = -1
          · rw [zif_t (by rw [e1, m1]), if_pos e1, r1]; rfl
          · rw [zif_f (by rw [m1, iI_eq (by omega) (by omega) (by omega) (by omega)]; exact e1), if_neg e1, r1]
            by_cases e2 : S.1 = 0
            · rw [zif_t (by rw [e2]; rfl), if_pos e2]; rfl
            · rw [zif_f (by rw [zi0, iI_eq (by omega) (by omega) (by omega) (by omega)]; omega), if_neg e2, (r3 e2).1, (r3 e2).2, r2]
              by_cases e3 : iI w = 0
              · rw [zif_t e3, if_pos e3]; rfl
              · rw [zif_f e3, if_neg e3]
                by_cases e4 : iI w = 1
                · rw [zif_t e4, if_pos e4]; rfl
                · rw [zif_f e4, if_neg e4]; rfl
        -- the reference
        have hM5 := hM.same d2
        obtain ⟨kz, hkz⟩ : ∃ kz : Int32 → Int32 → Int32 → Int32 → ZMem → Option (Int32 × ZMem), kz = fun (x60 : Int32) (x61 : Int32) (x62 : Int32) (x63 : Int32) (μ64 : ZMem) => zif ((0 : Int32) ≤ iI p) (zif (x60 = 0) (zret (-1 : Int32) μ64) (zif (iI w = 0) (zret x62 μ64) (zif (iI w = (1 : Int32)) (zret x63 μ64) (zret x61 μ64)))) (zret x60 μ64) := ⟨_, rfl⟩
        obtain ⟨ky, hky⟩ : ∃ ky : ZMem → Option (Int32 × ZMem), ky = fun (μ15 : ZMem) => zlt (0 : Int32) (fun (x16 : Int32) => zlt (0 : Int32) (fun (x17 : Int32) => zlt (0 : Int32) (fun (x18 : Int32) => zlt (0 : Int32) (fun (x19 : Int32) => zbnd (f_M_thinkFirst N μ15 (iI (t : Int))) (fun _ (μ20 : ZMem) => zlt (0 : Int32) (fun (x21 : Int32) => f_M_fits_l95 N (iI (t : Int)) (iI p) (iI w) (iI (cn T 4)) kz N x16 x17 x18 x19 x21 μ20)))))) := ⟨_, rfl⟩
        obtain ⟨μ6, g1, g2, g3⟩ := fits_z (N := N) (p0 := iI (t : Int)) (p1 := iI p) (p2 := iI w) (x9 := iI (cn T 4)) (kx := ky) (μ0 := μ5) 10000 0 N μ5 (by omega) (by omega) Same.rf (fun j hj => by omega)
        have s6 := d2.tr g2
        obtain ⟨μ7, u1, u2, u3⟩ := s_thinkFirst (N := N) (μ := μ6) (t := t) (by omega) ht (hM.same s6) hO
        have s7 := s6.tr u3.same
        obtain ⟨μ8, v1, v2⟩ := fits_m (N := N) (p2 := iI w) (kx := kz) (μ0 := μ) (by omega) ht hM hO c (by omega) (by rw [← l1]; exact hm2) hLm (p := p) (by omega) (by omega) (cn T 4).toNat 0 N μ7 (lo T) s0 (by omega) (by omega) s7 u2 (inB_lo hO) (fun j hj => by rw [u3.2 46 0 j (by omega), g3 j hj, hs0]; rfl) hs0k (by rw [hs0]; exact Nat.le_refl 0)
        rw [hS] at v1
        have hB : kz (iI S.1) (iI S.2.1) (iI S.2.2.1) (iI S.2.2.2.1) μ8 = some (pkS S p (iI w), μ8) := by
          rw [hkz]
          unfold pkS
          by_cases e1 : p = -1
          · simp only
            rw [zif_f (by rw [zi0, iI_le (by omega) (by omega) (by omega) (by omega)]; omega), if_pos e1]; rfl
          · simp only
            rw [zif_t (by rw [zi0, iI_le (by omega) (by omega) (by omega) (by omega)]; omega), if_neg e1]
            by_cases e2 : S.1 = 0
            · rw [zif_t (by rw [e2]; rfl), if_pos e2]; rfl
            · rw [zif_f (by rw [zi0, iI_eq (by omega) (by omega) (by omega) (by omega)]; omega), if_neg e2]
              by_cases e3 : iI w = 0
              · rw [zif_t e3, if_pos e3]; rfl
              · rw [zif_f e3, if_neg e3]
                by_cases e4 : iI w = 1
                · rw [zif_t e4, if_pos e4]; rfl
                · rw [zif_f e4, if_neg e4]; rfl
        have s58 : Same μ5 μ8 := ⟨fun k i x q => by rw [v2.1 k i x q, d2.1 k i x q], fun k i x q => by rw [v2.2 k i x q, d2.2 k i x q]⟩
        refine ⟨pkS S p (iI w), μ5, μ8, ?_, ?_, d2, s58⟩
        · simp only [h1, zbrf_s]
          rw [zchk_t ht]
          refine zlt_gen (fun J hJ => ?_)
          rw [hA0 J, hJ]
          simp only
          rw [s_countAll (by omega) hC hO, zbnd_eq, zlt_eq, zif_t (by rw [llit, lcmp_le (by omega) (by omega) (by omega) (by omega)]; exact c)]
          unfold f_Tally_clear
          rw [a1]
          simp only [zbnd_eq, zlt_eq, zret]
          rw [← hμ3, b1, zbnd_eq, ← hA, ← d1, hkx]; rfl
        · simp only [h2 _ d2, zbnd_eq]
          rw [zif_f (by decide), eI, zbnd_eq, if_pos (by omega), zif_f (by decide)]
          refine zlt_gen (fun J hJ => ?_)
          rw [hM0 μ5 J, hJ]
          simp only
          rw [s_M_allOf (by omega) ht hM5 hO, zbnd_eq, if_pos c, zlt_eq, zif_t (by rw [ilit, iI_le (by omega) (by omega) (by omega) (by omega)]; exact c), zlt_eq]
          have g1' : f_M_fits_l53 N (iI (t : Int)) (iI p) (iI w) (iI (cn T 4)) ky N 0 μ5 = ky μ6 := g1
          have v1' : f_M_fits_l95 N (iI (t : Int)) (iI p) (iI w) (iI (cn T 4)) kz N 0 0 0 0 0 μ7 = kz (iI S.1) (iI S.2.1) (iI S.2.2.1) (iI S.2.2.2.1) μ8 := by rw [hs0] at v1; exact v1
          rw [hky, hkz] at g1'
          rw [hkz] at v1' hB
          rw [g1']
          simp only [zlt_eq]
          rw [u1, zbnd_eq, v1', hB]
      · refine ⟨-2, μ, μ, ?_, ?_, Same.rf, Same.rf⟩
        · simp only [h1, zbrf_s]
          rw [zchk_t ht]
          refine zlt_gen (fun J hJ => ?_)
          rw [hA0 J, hJ]
          simp only
          rw [s_countAll (by omega) hC hO, zbnd_eq, zlt_eq, zif_f (by rw [llit, lcmp_le (by omega) (by omega) (by omega) (by omega)]; exact c)]; rfl
        · simp only [h2 μ Same.rf, zbnd_eq]
          rw [zif_f (by decide), eI, zbnd_eq, if_pos (by omega), zif_f (by decide)]
          refine zlt_gen (fun J hJ => ?_)
          rw [hM0 μ J, hJ]
          simp only
          rw [s_M_allOf (by omega) ht hM hO, zbnd_eq, if_neg c, zlt_eq, zif_f (by decide)]; rfl
    · refine ⟨-1, μ, μ, ?_, ?_, Same.rf, Same.rf⟩
      · simp only [h1, zbrf_s]
        rw [zchk_t ht]
        refine zlt_gen (fun J hJ => ?_)
        rw [zif_f (by rw [m1, iI_eq (by omega) (by omega) (by omega) (by omega)]; omega), s_A_isLetter hp1 hp2, zbnd_eq]
        by_cases c1 : 0 ≤ p ∧ p < 4
        · rw [if_pos c1, zif_f (by decide)]
          by_cases c2 : w < 0
          · rw [zif_t (by rw [zi0, iI_lt (by omega) (by omega) (by omega) (by omega)]; omega)]; rfl
          · rw [zif_f (by rw [zi0, iI_lt (by omega) (by omega) (by omega) (by omega)]; omega), zif_f (by rw [ilit, iI_le (by omega) (by omega) (by omega) (by omega)]; omega)]; rfl
        · rw [if_neg c1, zif_t rfl]; rfl
      · simp only [h2 μ Same.rf, zbnd_eq]
        rw [zif_f (by decide), eI, zbnd_eq]
        by_cases c1 : -1 ≤ p ∧ p ≤ 3
        · rw [if_pos c1, zif_f (by decide)]
          refine zlt_gen (fun J hJ => ?_)
          rw [zif_f (by rw [zi0, iI_lt (by omega) (by omega) (by omega) (by omega)]; omega), eI2, zbnd_eq, if_neg (by omega), zif_t rfl]; rfl
        · rw [if_neg c1, zif_t rfl]; rfl
