def ftS (kd xs th : Nat → Int) (m : Nat) (ln ld : Nat → Int64) : Nat → Nat → Nat → Int × Int → Bool
  | 0, c, _, _ => decide (c = m)
  | f + 1, c, i, v => match ordS (kd i) (amt (xs i) th) v with
    | none => false
    | some w => if kd i = 9 then (if c < m ∧ lI w.1 = ln c ∧ lI w.2 = ld c then ftS kd xs th m ln ld f (c + 1) (i + 1) w else false) else ftS kd xs th m ln ld f c (i + 1) w
def ft (T : Tb) (m : Nat) (ln ld : Nat → Int64) (th : Nat → Int) : Bool := ftS T.2.1 T.2.2.1 th m ln ld T.1 0 0 (bg T th, 1)
theorem s_holds {N : Nat} {μ : ZMem} {o v c m cap : Nat} {w : Int × Int} {ln ld : Nat → Int64} (h0 : μ.2 7 v 0 = lI w.1) (h1 : μ.2 7 v 1 = lI w.2) (hmc : μ.1 6 o 2 = iI m) (hL : ∀ j, j < m → μ.2 28 o j = ln j ∧ μ.2 29 o j = ld j) (hl : zlen 28 o = cap) (hl2 : zlen 29 o = cap) (hm : m ≤ cap) (hcap : cap < 1000) (hc : c < 1000) :
    f_Values_holds N μ o (iI c) v = some (if c < m ∧ lI w.1 = ln c ∧ lI w.2 = ld c then 1 else 0, μ) := by
  unfold f_Values_holds f_Value_is
  rw [zif_f (by rw [zi0, iI_lt (by omega) (by omega) (by omega) (by omega)]; omega), hmc]
  by_cases d0 : c < m
  · rw [zif_f (by rw [iI_le (by omega) (by omega) (by omega) (by omega)]; omega), zchk_t (zin_k cap hl (by omega) (by omega) (by omega)), zchk_t (zin_k cap hl2 (by omega) (by omega) (by omega)), cl_nat (by omega), (hL c d0).1, (hL c d0).2, h0, h1]
    by_cases d1 : lI w.1 = ln c
    · rw [zif_t (by rw [lcmp_eqv]; exact d1)]
      by_cases d2 : lI w.2 = ld c
      · rw [zif_t (by rw [lcmp_eqv]; exact d2), if_pos ⟨d0, d1, d2⟩]; rfl
      · rw [zif_f (by rw [lcmp_eqv]; exact d2), if_neg (fun q => d2 q.2.2)]; rfl
    · rw [zif_f (by rw [lcmp_eqv]; exact d1), if_neg (fun q => d1 q.2.1)]; rfl
  · rw [zif_t (by rw [iI_le (by omega) (by omega) (by omega) (by omega)]; omega), if_neg (fun q => d0 q.1)]; rfl
theorem just_loop {N : Nat} {μ : ZMem} {t p m : Nat} {T : Tb} {th : Nat → Int} {ln ld : Nat → Int64} (hN : 130 ≤ N) (htl : t < 4) (hC : TabC μ t T) (hO : TabOk T) (ht : thC μ p th) (hth : okT th) (hm : m ≤ 6) (hmc : μ.1 6 1 2 = iI m) (hL : ∀ j, j < m → μ.2 28 1 j = ln j ∧ μ.2 29 1 j = ld j) :
    ∀ (f c i fuel : Nat) (w : Int × Int), i + f = T.1 → c ≤ i → f < fuel → isV w → ∃ w', f_Table_saysJust_l12 N t 1 p 0 (fun (x19 : Int32) (μ20 : ZMem) => zif (x19 = (μ20.1 6 1 2)) (zret (1 : Int32) μ20) (zret (0 : Int32) μ20)) fuel (iI c) (iI i) (setV μ 0 w) = some (if ftS T.2.1 T.2.2.1 th m ln ld f c i w then 1 else 0, setV μ 0 w')
  | 0, c, i, fuel, w, hi, hci, hf, hw => by
    obtain ⟨q, rfl⟩ : ∃ q, fuel = q + 1 := ⟨fuel - 1, by omega⟩
    have hn := hO.1
    have hc : (setV μ 0 w).1 4 t 2 = iI T.1 := hC.1.1
    have hc6 : (setV μ 0 w).1 6 1 2 = iI m := hmc
    refine ⟨w, ?_⟩
    simp only [f_Table_saysJust_l12, hc, hc6]
    rw [zif_t (by rw [iI_le (by omega) (by omega) (by omega) (by omega)]; omega)]
    unfold ftS
    by_cases d : c = m
    · rw [zif_t (by rw [d]), if_pos (by rw [decide_eq_true_eq]; exact d)]; rfl
    · rw [zif_f (by rw [iI_eq (by omega) (by omega) (by omega) (by omega)]; omega), if_neg (by rw [decide_eq_true_eq]; exact d)]; rfl
  | f + 1, c, i, fuel, w, hi, hci, hf, hw => by
    obtain ⟨q, rfl⟩ : ∃ q, fuel = q + 1 := ⟨fuel - 1, by omega⟩
    have hn := hO.1
    have hl : zlen 22 t = 24 := by rw [len22, if_pos htl]
    have hl3 : zlen 23 t = zlen 22 t := rfl
    have hi' := hO.2.1 i (by omega)
    have hc := hC.1.2 i (by omega)
    have ha := amt_rng hi'.2.2.1 hth
    have hcn : (setV μ 0 w).1 4 t 2 = iI T.1 := hC.1.1
    simp only [f_Table_saysJust_l12, hcn]
    have hk : (setV μ 0 w).1 22 t i = iI (T.2.1 i) := hc.1
    rw [zif_f (by rw [iI_le (by omega) (by omega) (by omega) (by omega)]; omega), zchk_t (zin_iI (by omega) (by omega) (by omega)), zlt_eq, s_Orders_amount (μ := setV μ 0 w) (x := T.2.2.1 i) (th := th) hi'.2.2.1 hc.2 ht (by omega), zbnd_eq, cl_nat (by omega), hk, s_Value_obey hN hw setV_0 setV_1 hi'.1 hi'.2.1 ha.1 ha.2 (fun q => amt8 (hi'.2.2.2 q))]
    unfold ftS
    cases h : ordS (T.2.1 i) (amt (T.2.2.1 i) th) w with
    | none =>
      simp only [ansV, zbnd_eq]
      exact ⟨w, by rw [zif_t trivial]; rfl⟩
    | some w2 =>
      have hw2 := ordS_isV hw ha.1 h
      have e : iI (i : Int) + (1 : Int32) = iI ((i + 1 : Nat) : Int) := by rw [ilit, iI_add]; congr 1
      have e' : iI (c : Int) + (1 : Int32) = iI ((c + 1 : Nat) : Int) := by rw [ilit, iI_add]; congr 1
      have hH := s_holds (N := N) (μ := setV μ 0 w2) (o := 1) (v := 0) (c := c) (m := m) (cap := 6) (ln := ln) (ld := ld) setV_0 setV_1 hmc (fun j hj => by unfold setV; simp only [rJ]; exact hL j hj) rfl rfl hm (by omega) (by omega)
      simp only [ansV, zbnd_eq, zlt_eq, setV_setV, e, e', hH]
      rw [zif_f (by decide)]
      by_cases c9 : T.2.1 i = 9
      · rw [zif_t (by rw [ilit, iI_eq (by omega) (by omega) (by omega) (by omega)]; omega)]
        simp only [if_pos c9]
        by_cases cp : c < m ∧ lI w2.1 = ln c ∧ lI w2.2 = ld c
        · simp only [if_pos cp]
          rw [zif_f (by decide)]
          exact just_loop hN htl hC hO ht hth hm hmc hL f (c + 1) (i + 1) q w2 (by omega) (by omega) (by omega) hw2
        · simp only [if_neg cp]
          exact ⟨w2, rfl⟩
      · rw [zif_f (by rw [ilit, iI_eq (by omega) (by omega) (by omega) (by omega)]; omega)]
        simp only [if_neg c9]
        exact just_loop hN htl hC hO ht hth hm hmc hL f c (i + 1) q w2 (by omega) (by omega) (by omega) hw2
theorem s_saysJust {N : Nat} {μ : ZMem} {t p m : Nat} {T : Tb} {th : Nat → Int} {ln ld : Nat → Int64} (hN : 130 ≤ N) (htl : t < 4) (hC : TabC μ t T) (hO : TabOk T) (ht : thC μ p th) (hth : okT th) (hm : m ≤ 6) (hmc : μ.1 6 1 2 = iI m) (hL : ∀ j, j < m → μ.2 28 1 j = ln j ∧ μ.2 29 1 j = ld j) :
    ∃ w', f_Table_saysJust N μ t 1 p 0 = some (if ft T m ln ld th then 1 else 0, setV μ 0 w') := by
  unfold f_Table_saysJust
  rw [zlt_eq, s_Table_begin hC hO ht hth, zbnd_eq, zlt_eq]
  exact just_loop hN htl hC hO ht hth hm hmc hL T.1 0 0 N _ (by omega) (by omega) (by have := hO.1; omega) (bg_isV hth)
theorem fit_loop {N : Nat} {μ : ZMem} {t m : Nat} {T : Tb} {th : Nat → Int} {ln ld : Nat → Int64} (hN : 130 ≤ N) (htl : t < 4) (hM : TabM μ t T) (hO : TabOk T) (ht : thM μ th) (hth : okT th) (hm : m ≤ 6) (hmc : μ.1 40 0 5 = iI m) (hL : ∀ j, j < m → μ.2 41 0 (48 + 2 * j) = ln j ∧ μ.2 41 0 (48 + 2 * j + 1) = ld j) :
    ∀ (f c i fuel : Nat) (w : Int × Int), i + f = T.1 → c ≤ i → c ≤ m → f < fuel → isV w → ∃ w', f_M_isFit_l9 N (iI t) (fun (x22 : Int32) (μ23 : ZMem) => zchk (zin (5 : Int32) (zlen 40 0)) (zif (x22 = (μ23.1 40 0 (5 : Int32).toNatClampNeg)) (zret (1 : Int32) μ23) (zret (0 : Int32) μ23))) fuel (iI c) (iI i) (setM μ w) = some (if ftS T.2.1 T.2.2.1 th m ln ld f c i w then 1 else 0, setM μ w')
  | 0, c, i, fuel, w, hi, hci, hcm, hf, hw => by
    obtain ⟨q, rfl⟩ : ∃ q, fuel = q + 1 := ⟨fuel - 1, by omega⟩
    have hn := hO.1
    have hM' : TabM (setM μ w) t T := hM
    have q1 : (setM μ w).1 40 0 (5 : Int32).toNatClampNeg = iI m := hmc
    refine ⟨w, ?_⟩
    simp only [f_M_isFit_l9]
    rw [s_M_ordersOf htl hM', zbnd_eq, zif_t (by rw [iI_le (by omega) (by omega) (by omega) (by omega)]; omega), zchk_t (by exact zin_k (z := 5) 30 rfl (by omega) (by omega) (by omega)), q1]
    unfold ftS
    by_cases d : c = m
    · rw [zif_t (by rw [d]), if_pos (by rw [decide_eq_true_eq]; exact d)]; rfl
    · rw [zif_f (by rw [iI_eq (by omega) (by omega) (by omega) (by omega)]; omega), if_neg (by rw [decide_eq_true_eq]; exact d)]; rfl
  | f + 1, c, i, fuel, w, hi, hci, hcm, hf, hw => by
    obtain ⟨q, rfl⟩ : ∃ q, fuel = q + 1 := ⟨fuel - 1, by omega⟩
    have hn := hO.1
    have hi' := hO.2.1 i (by omega)
    have ha := amt_rng hi'.2.2.1 hth
    have hM' : TabM (setM μ w) t T := hM
    simp only [f_M_isFit_l9]
    rw [s_M_ordersOf htl hM', zbnd_eq, zif_f (by rw [iI_le (by omega) (by omega) (by omega) (by omega)]; omega), s_M_kindOf htl hM' (by omega) hn, zbnd_eq, s_M_xOf htl hM' (by omega) hn, zbnd_eq, s_M_does (μ := setM μ w) (th := th) hN hw setM_0 setM_1 ht hth hi'.1 hi'.2.1 hi'.2.2.1 (fun q => amt8 (hi'.2.2.2 q))]
    unfold ftS
    cases h : ordS (T.2.1 i) (amt (T.2.2.1 i) th) w with
    | none =>
      simp only [ansM, zbnd_eq]
      exact ⟨w, by rw [zif_t trivial]; rfl⟩
    | some w2 =>
      have hw2 := ordS_isV hw ha.1 h
      have e : iI (i : Int) + (1 : Int32) = iI ((i + 1 : Nat) : Int) := by rw [ilit, iI_add]; congr 1
      have e' : iI (c : Int) + (1 : Int32) = iI ((c + 1 : Nat) : Int) := by rw [ilit, iI_add]; congr 1
      have e2 : (48 : Int32) + (2 : Int32) * iI (c : Int) = iI (48 + 2 * (c : Int)) := by rw [ilit, ilit, iI_mul, iI_add]
      have e3 : iI (48 + 2 * (c : Int)) + (1 : Int32) = iI (48 + 2 * (c : Int) + 1) := by rw [ilit, iI_add]
      have hM2 : TabM (setM μ w2) t T := hM
      have q1 : (setM μ w2).1 40 0 (5 : Int32).toNatClampNeg = iI m := hmc
      simp only [ansM, zbnd_eq, zlt_eq, setM_setM, e, e', e2, e3]
      rw [zif_f (by decide), s_M_kindOf htl hM2 (by omega) hn, zbnd_eq]
      by_cases c9 : T.2.1 i = 9
      · rw [zif_t (by rw [ilit, iI_eq (by omega) (by omega) (by omega) (by omega)]; omega), zchk_t (by exact zin_k (z := 5) 30 rfl (by omega) (by omega) (by omega)), q1]
        simp only [if_pos c9]
        by_cases d0 : c < m
        · have r1 : (setM μ w2).2 41 0 (48 + 2 * c) = ln c := by unfold setM; simp only [rJ]; exact (hL c d0).1
          have r2 : (setM μ w2).2 41 0 (48 + 2 * c + 1) = ld c := by unfold setM; simp only [rJ]; exact (hL c d0).2
          rw [zif_f (by rw [iI_eq (by omega) (by omega) (by omega) (by omega)]; omega), zchk_t (zin_k 122 rfl (by omega) (by omega) (by omega)), zchk_t (zin_k 122 rfl (by omega) (by omega) (by omega)), cl_int (n := 48 + 2 * c) (by omega) (by omega), cl_int (n := 48 + 2 * c + 1) (by omega) (by omega), r1, r2, setM_0, setM_1]
          by_cases d1 : lI w2.1 = ln c
          · rw [zif_t (by rw [lcmp_eqv]; exact d1)]
            by_cases d2 : lI w2.2 = ld c
            · rw [zif_t (by rw [lcmp_eqv]; exact d2)]
              simp only [if_pos (show c < m ∧ lI w2.1 = ln c ∧ lI w2.2 = ld c from ⟨d0, d1, d2⟩)]
              exact fit_loop hN htl hM hO ht hth hm hmc hL f (c + 1) (i + 1) q w2 (by omega) (by omega) (by omega) (by omega) hw2
            · rw [zif_f (by rw [lcmp_eqv]; exact d2)]
              simp only [if_neg (show ¬ (c < m ∧ lI w2.1 = ln c ∧ lI w2.2 = ld c) from fun q => d2 q.2.2)]
              exact ⟨w2, rfl⟩
          · rw [zif_f (by rw [lcmp_eqv]; exact d1)]
            simp only [if_neg (show ¬ (c < m ∧ lI w2.1 = ln c ∧ lI w2.2 = ld c) from fun q => d1 q.2.1)]
            exact ⟨w2, rfl⟩
        · rw [zif_t (by rw [iI_eq (by omega) (by omega) (by omega) (by omega)]; omega)]
          simp only [if_neg (show ¬ (c < m ∧ lI w2.1 = ln c ∧ lI w2.2 = ld c) from fun q => d0 q.1)]
          exact ⟨w2, rfl⟩
      · rw [zif_f (by rw [ilit, iI_eq (by omega) (by omega) (by omega) (by omega)]; omega)]
        simp only [if_neg c9]
        exact fit_loop hN htl hM hO ht hth hm hmc hL f c (i + 1) q w2 (by omega) (by omega) (by omega) (by omega) hw2
theorem s_isFit {N : Nat} {μ : ZMem} {t m : Nat} {T : Tb} {th : Nat → Int} {ln ld : Nat → Int64} (hN : 130 ≤ N) (htl : t < 4) (hM : TabM μ t T) (hO : TabOk T) (ht : thM μ th) (hth : okT th) (hm : m ≤ 6) (hmc : μ.1 40 0 5 = iI m) (hL : ∀ j, j < m → μ.2 41 0 (48 + 2 * j) = ln j ∧ μ.2 41 0 (48 + 2 * j + 1) = ld j) :
    ∃ w', f_M_isFit N μ (iI t) = some (if ft T m ln ld th then 1 else 0, setM μ w') := by
  unfold f_M_isFit
  rw [s_M_begin htl hM ht hth, zbnd_eq, zlt_eq, zlt_eq]
  exact fit_loop hN htl hM hO ht hth hm hmc hL T.1 0 0 N _ (by omega) (by omega) (by omega) (by have := hO.1; omega) (bg_isV hth)
def yOf (p : Int) (th : Nat → Int) : Nat := if p = -1 then 0 else (th p.toNat).toNat
def fiS (T : Tb) (m : Nat) (ln ld : Nat → Int64) (p : Int) : Nat → (Nat → Int) → Ty → Ty
  | 0, _, s => s
  | f + 1, th, s => fiS T m ln ld p f (nx T 4 th) (if ft T m ln ld th then tlN s (yOf p th) else s)
theorem fiS_ok {T : Tb} {m : Nat} {ln ld : Nat → Int64} {p : Int} (hO : TabOk T) (hp0 : -1 ≤ p) (hp : p < 4) : ∀ (f : Nat) (th : Nat → Int) (s : Ty), inB T th → tlOk s → tlOk (fiS T m ln ld p f th s) ∧ (fiS T m ln ld p f th s).1 ≤ s.1 + f
  | 0, th, s, hB, hs => ⟨hs, Nat.le_refl _⟩
  | f + 1, th, s, hB, hs => by
    unfold fiS
    have hy : yOf p th < 10000 := by
      unfold yOf
      split
      · omega
      · have := hB.ok hO p.toNat (by omega); omega
    have hB2 := nx_in hO 4 th (by omega) hB
    cases ft T m ln ld th with
    | false =>
      have := fiS_ok (m := m) (ln := ln) (ld := ld) hO hp0 hp f (nx T 4 th) s hB2 hs
      exact ⟨this.1, by have := this.2; simp only [Bool.false_eq_true, if_false]; omega⟩
    | true =>
      have := fiS_ok (m := m) (ln := ln) (ld := ld) hO hp0 hp f (nx T 4 th) (tlN s (yOf p th)) hB2 (tlN_ok hs hy)
      refine ⟨this.1, ?_⟩
      have h2 := this.2
      have : (tlN s (yOf p th)).1 = s.1 + 1 := rfl
      simp only [if_true]
      omega
theorem RA.same {μ μ' : ZMem} {s : Ty} (h : RA μ s) (h1 : ∀ x, μ'.1 8 0 x = μ.1 8 0 x) (h2 : ∀ x, μ'.2 30 0 x = μ.2 30 0 x) : RA μ' s := by
  unfold RA at *
  simp only [h1, h2]
  exact h
theorem fits_a {N : Nat} {t m : Nat} {T : Tb} {ln ld : Nat → Int64} {p : Int} {p2 : Int32} {kx : ZMem → Option (Int32 × ZMem)} {μ0 : ZMem} (hN : 130 ≤ N) (htl : t < 4) (hC : TabC μ0 t T) (hO : TabOk T) (hc : cn T 4 ≤ 20000) (hm : m ≤ 6) (hmc : μ0.1 6 1 2 = iI m) (hL : ∀ j, j < m → μ0.2 28 1 j = ln j ∧ μ0.2 29 1 j = ld j) (hp0 : -1 ≤ p) (hp : p < 4) :
    ∀ (f i fuel : Nat) (μ : ZMem) (th : Nat → Int) (s : Ty), ((i + f : Nat) : Int) = cn T 4 → f < fuel → Same μ0 μ → thC μ 2 th → inB T th → RA μ s → tlOk s → s.1 ≤ i →
      ∃ μ', f_A_fits_l73 N (iI p) p2 t (lI (cn T 4)) kx fuel (iI i) μ = kx μ' ∧ Same μ0 μ' ∧ RA μ' (fiS T m ln ld p f th s)
  | 0, i, fuel, μ, th, s, h1, h2, hS, hth, hB, hR, hs, hsi => by
    obtain ⟨q, rfl⟩ : ∃ q, fuel = q + 1 := ⟨fuel - 1, by omega⟩
    refine ⟨μ, ?_, hS, hR⟩
    simp only [f_A_fits_l73]
    rw [iI_long (by omega) (by omega), zif_t (by rw [lcmp_ge (by omega) (by omega) (by omega) (by omega)]; omega)]
  | f + 1, i, fuel, μ, th, s, h1, h2, hS, hth, hB, hR, hs, hsi => by
    obtain ⟨q, rfl⟩ : ∃ q, fuel = q + 1 := ⟨fuel - 1, by omega⟩
    have e : iI (i : Int) + (1 : Int32) = iI ((i + 1 : Nat) : Int) := by rw [ilit, iI_add]; congr 1
    have hok := hB.ok hO
    obtain ⟨w', hJ⟩ := s_saysJust (N := N) (μ := μ) (t := t) (p := 2) (m := m) (ln := ln) (ld := ld) hN htl (hC.same hS) hO hth hok hm (by rw [hS.1 6 1 2 rfl]; exact hmc) (fun j hj => by rw [hS.2 28 1 j rfl, hS.2 29 1 j rfl]; exact hL j hj)
    have hy : yOf p th < 10000 := by
      unfold yOf
      split
      · omega
      · have := hok p.toNat (by omega); omega
    have hB2 := nx_in hO 4 th (by omega) hB
    simp only [f_A_fits_l73]
    rw [iI_long (by omega) (by omega), zif_f (by rw [lcmp_ge (by omega) (by omega) (by omega) (by omega)]; omega), show 3 * 0 + 1 = 1 from rfl, hJ, zbnd_eq]
    refine zlt_gen' (P := fun z => ∃ μ', z = kx μ' ∧ Same μ0 μ' ∧ RA μ' (fiS T m ln ld p (f + 1) th s)) (fun J hJ2 => ?_)
    have hJJ : ∀ (μ8 : ZMem) (s2 : Ty), Same μ0 μ8 → thC μ8 2 th → RA μ8 s2 → tlOk s2 → s2.1 ≤ i + 1 → s2 = (if ft T m ln ld th then tlN s (yOf p th) else s) → ∃ μ', J μ8 = kx μ' ∧ Same μ0 μ' ∧ RA μ' (fiS T m ln ld p (f + 1) th s) := by
      intro μ8 s2 r1 r2 r3 r4 r5 r6
      obtain ⟨μ9, b1, b2, b3⟩ := s_nextOfAll (N := N) (μ := μ8) (t := t) (p := 2) hN (by omega) rfl (hC.same r1) hO r2 hB
      have b4 := b3.same (by omega)
      obtain ⟨μ', d1, d2, d3⟩ := fits_a (p2 := p2) (kx := kx) hN htl hC hO hc hm hmc hL hp0 hp f (i + 1) q μ9 (nx T 4 th) s2 (by omega) (by omega) (r1.tr b4) b2 hB2 (r3.same (fun x => b3.2 8 0 x (by omega)) (fun x => by rw [b3.1])) r4 (by omega)
      refine ⟨μ', ?_, d2, ?_⟩
      · rw [hJ2]
        simp only
        rw [b1, zbnd_eq, zlt_eq, e]
        exact d1
      · unfold fiS; rw [← r6]; exact d3
    have sV : Same μ0 (setV μ 0 w') := hS.setV
    have rV : RA (setV μ 0 w') s := hR.same (fun x => rfl) (fun x => by unfold setV; simp only [rJ]; rfl)
    cases hf : ft T m ln ld th with
    | false =>
      rw [if_neg (by decide), zif_t rfl]
      exact hJJ _ s sV hth rV hs (by omega) (by rw [hf]; rfl)
    | true =>
      rw [if_pos rfl, zif_f (by decide)]
      obtain ⟨μ7, c1, c2, c3⟩ := s_note (N := N) (μ := setV μ 0 w') (s := s) (y := yOf p th) hy rV hs (by omega)
      have hK := hJJ μ7 (tlN s (yOf p th)) (sV.tr c3.same) (fun j hj => by rw [c3.1 26 2 j (by omega)]; exact hth j hj) c2 (tlN_ok hs hy) (by show s.1 + 1 ≤ _; omega) (by rw [hf]; rfl)
      refine zlt_gen' (P := fun z => ∃ μ', z = kx μ' ∧ Same μ0 μ' ∧ RA μ' (fiS T m ln ld p (f + 1) th s)) (fun J3 hJ3 => ?_)
      have h3 : J3 (iI (yOf p th : Nat)) (setV μ 0 w') = J μ7 := by
        rw [hJ3]
        simp only
        rw [c1, zbnd_eq]
      by_cases cp : p = -1
      · rw [zif_t (by rw [cp, m1])]
        have : yOf p th = 0 := by unfold yOf; rw [if_pos cp]
        rw [this] at h3
        rw [show J3 (0 : Int32) (setV μ 0 w') = J μ7 from h3]
        exact hK
      · have ho := hok p.toNat (by omega)
        have : ((yOf p th : Nat) : Int) = th p.toNat := by unfold yOf; rw [if_neg cp]; omega
        have ev : (setV μ 0 w').1 26 2 p.toNat = iI (yOf p th : Nat) := by rw [this]; exact hth p.toNat (by omega)
        rw [zif_f (by rw [m1, iI_eq (by omega) (by omega) (by omega) (by omega)]; exact cp), zchk_t (zin_k 4 rfl (by omega) (by omega) (by omega)), cl_int (n := p.toNat) (by omega) (by omega), ev, h3]
        exact hK
