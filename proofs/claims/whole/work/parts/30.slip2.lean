theorem slip_la {N : Nat} {ν : ZMem} {t : Nat} {T : Tb} {th : Nat → Int} {g : Int × Int} {p : Int} (hp0 : -2147483648 ≤ p) (hp : p < 2147483648) (hg : isV g) (hN : 130 ≤ N) (htl : t < 4) (hC : TabC ν t T) (hO : TabOk T) (ht : thC ν 0 th) (hth : okT th) :
    ∀ (f c s fuel : Nat) (μ : ZMem), s + f = 3 * T.1 → c ≤ s → f < fuel → μ.1 = ν.1 → μ.2 7 1 0 = lI g.1 → μ.2 7 1 1 = lI g.2 → Same ν μ →
      ∃ μ', f_A_slip_l40 N (iI p) t (fun (x22 : Int32) (μ23 : ZMem) => zif (iI p = (-1 : Int32)) (zret x22 μ23) (zret (-1 : Int32) μ23)) fuel (iI c) (iI s) μ = some (iI (spS (spP T th g) p f c s), μ') ∧ Same ν μ'
  | 0, c, s, fuel, μ, hi, hc, hf, m1', m2, m3, m4 => by
    obtain ⟨q, rfl⟩ : ∃ q, fuel = q + 1 := ⟨fuel - 1, by omega⟩
    have hn := hO.1
    have hcn : μ.1 4 t 2 = iI T.1 := by rw [m1']; exact hC.1.1
    have e3 : (3 : Int32) * iI (T.1 : Int) = iI (3 * (T.1 : Int)) := by rw [ilit, iI_mul]
    refine ⟨μ, ?_, m4⟩
    simp only [f_A_slip_l40, hcn, e3]
    rw [zif_t (by rw [iI_le (by omega) (by omega) (by omega) (by omega)]; omega)]
    unfold spS
    by_cases c1 : p = -1
    · rw [zif_t (by rw [c1, m1]), if_pos c1]; rfl
    · rw [zif_f (by rw [m1, iI_eq (by omega) (by omega) (by omega) (by omega)]; exact c1), if_neg c1]; rfl
  | f + 1, c, s, fuel, μ, hi, hc, hf, m1', m2, m3, m4 => by
    obtain ⟨q, rfl⟩ : ∃ q, fuel = q + 1 := ⟨fuel - 1, by omega⟩
    have hn := hO.1
    have hcn : μ.1 4 t 2 = iI T.1 := by rw [m1']; exact hC.1.1
    have e3 : (3 : Int32) * iI (T.1 : Int) = iI (3 * (T.1 : Int)) := by rw [ilit, iI_mul]
    have e : iI (s : Int) + (1 : Int32) = iI ((s + 1 : Nat) : Int) := by rw [ilit, iI_add]; congr 1
    have e' : iI (c : Int) + (1 : Int32) = iI ((c + 1 : Nat) : Int) := by rw [ilit, iI_add]; congr 1
    obtain ⟨w', v1, v2, v3⟩ := s_runWithSlip (N := N) (μ := μ) (t := t) (s := s) (T := T) (th := th) hN htl (hC.same m4) hO (ht.same (by omega) m4) hth (by omega)
    have m4' : Same ν (setV μ 0 w') := m4.setV
    have m2' : (setV μ 0 w').2 7 1 0 = lI g.1 := by unfold setV; simp only [rJ]; exact m2
    have m3' : (setV μ 0 w').2 7 1 1 = lI g.2 := by unfold setV; simp only [rJ]; exact m3
    have r1 := slip_la hp0 hp hg hN htl hC hO ht hth f c (s + 1) q (setV μ 0 w') (by omega) (by omega) (by omega) m1' m2' m3' m4'
    have r2 := slip_la hp0 hp hg hN htl hC hO ht hth f (c + 1) (s + 1) q (setV μ 0 w') (by omega) (by omega) (by omega) m1' m2' m3' m4'
    simp only [f_A_slip_l40, hcn, e3, e, e']
    rw [zif_f (by rw [iI_le (by omega) (by omega) (by omega) (by omega)]; omega), v2, zbnd_eq]
    simp only [zlt_eq]
    unfold spS
    cases h : slS T.2.1 T.2.2.1 th (s / 3) ((s % 3 : Nat) : Int) T.1 0 (bg T th, 1) with
    | none =>
      have hP : spP T th g s = false := by unfold spP; rw [h]
      rw [zif_t (show so (none : Option (Int × Int)) (1 : Int32) 0 = 0 from rfl), hP]
      exact r1
    | some u =>
      have hu := v3 u h
      have hP : spP T th g s = decide (w' = g) := by unfold spP; rw [h, hu]
      have hV : f_Value_is N (setV μ 0 w') 0 ((setV μ 0 w').2 7 1 0) ((setV μ 0 w').2 7 1 1) = some (if w' = g then 1 else 0, setV μ 0 w') := by
        obtain ⟨b1, b2, b3, b4, b5⟩ := v1
        obtain ⟨a1, a2, a3, a4, a5⟩ := hg
        unfold f_Value_is
        rw [m2', m3', setV_0, setV_1]
        by_cases d1 : w'.1 = g.1
        · rw [zif_t (by rw [lcmp_eq (by omega) (by omega) (by omega) (by omega)]; exact d1)]
          by_cases d2 : w'.2 = g.2
          · rw [zif_t (by rw [lcmp_eq (by omega) (by omega) (by omega) (by omega)]; exact d2), if_pos (Prod.ext d1 d2)]; rfl
          · rw [zif_f (by rw [lcmp_eq (by omega) (by omega) (by omega) (by omega)]; exact d2), if_neg (fun q => d2 (by rw [q]))]; rfl
        · rw [zif_f (by rw [lcmp_eq (by omega) (by omega) (by omega) (by omega)]; exact d1), if_neg (fun q => d1 (by rw [q]))]; rfl
      rw [zif_f (show ¬ so (some u) (1 : Int32) 0 = 0 from (by decide : ¬ (1 : Int32) = 0)), hV, zbnd_eq, hP]
      by_cases d : w' = g
      · rw [if_pos d, zif_f (by decide), if_pos (by rw [decide_eq_true_eq]; exact d)]
        by_cases cp : (c : Int) = p
        · rw [zif_t (by rw [cp]), if_pos cp]
          exact ⟨_, rfl, m4'⟩
        · rw [zif_f (by rw [iI_eq (by omega) (by omega) (by omega) (by omega)]; omega), if_neg cp]
          exact r2
      · rw [if_neg d, zif_t rfl, if_neg (by rw [decide_eq_true_eq]; exact d)]
        exact r1
theorem slip_lm {N : Nat} {ν : ZMem} {t : Nat} {T : Tb} {th : Nat → Int} {g : Int × Int} {p : Int} {p1 p2 : Int32} {x8 : Int64} (hx8 : ¬ x8 = 0) (hg1 : p1.toInt64 / x8 = lI g.1) (hg2 : p2.toInt64 / x8 = lI g.2) (hp0 : -2147483648 ≤ p) (hp : p < 2147483648) (hg : isV g) (hN : 130 ≤ N) (htl : t < 4) (hM : TabM ν t T) (hO : TabOk T) (ht : thM ν th) (hth : okT th) :
    ∀ (f c s fuel : Nat) (μ : ZMem), s + f = 3 * T.1 → c ≤ s → f < fuel → μ.1 = ν.1 → Same ν μ →
      ∃ μ', f_M_slip_l43 N (iI t) p1 p2 (iI p) x8 (fun (x22 : Int32) (μ23 : ZMem) => zif (iI p = (-1 : Int32)) (zret x22 μ23) (zret (-1 : Int32) μ23)) fuel (iI c) (iI s) μ = some (iI (spS (spP T th g) p f c s), μ') ∧ Same ν μ'
  | 0, c, s, fuel, μ, hi, hc, hf, m1', m4 => by
    obtain ⟨q, rfl⟩ : ∃ q, fuel = q + 1 := ⟨fuel - 1, by omega⟩
    have hn := hO.1
    have e3 : (3 : Int32) * iI (T.1 : Int) = iI (3 * (T.1 : Int)) := by rw [ilit, iI_mul]
    refine ⟨μ, ?_, m4⟩
    simp only [f_M_slip_l43]
    rw [s_M_ordersOf htl (hM.same m4), zbnd_eq, e3, zif_t (by rw [iI_le (by omega) (by omega) (by omega) (by omega)]; omega)]
    unfold spS
    by_cases c1 : p = -1
    · rw [zif_t (by rw [c1, m1]), if_pos c1]; rfl
    · rw [zif_f (by rw [m1, iI_eq (by omega) (by omega) (by omega) (by omega)]; exact c1), if_neg c1]; rfl
  | f + 1, c, s, fuel, μ, hi, hc, hf, m1', m4 => by
    obtain ⟨q, rfl⟩ : ∃ q, fuel = q + 1 := ⟨fuel - 1, by omega⟩
    have hn := hO.1
    have e3 : (3 : Int32) * iI (T.1 : Int) = iI (3 * (T.1 : Int)) := by rw [ilit, iI_mul]
    have e : iI (s : Int) + (1 : Int32) = iI ((s + 1 : Nat) : Int) := by rw [ilit, iI_add]; congr 1
    have e' : iI (c : Int) + (1 : Int32) = iI ((c + 1 : Nat) : Int) := by rw [ilit, iI_add]; congr 1
    obtain ⟨w', v1, v2⟩ := s_isSlip (N := N) (μ := μ) (t := t) (s := s) (T := T) (th := th) hg hN htl (hM.same m4) hO (fun j hj => by rw [m1']; exact ht j hj) hth (by omega)
    obtain ⟨μ2, v4, v5, v6⟩ : ∃ μ2, f_M_isSlip N μ (iI t) (iI s / 3) (zremI (iI s) 3) (lI g.1) (lI g.2) = some (if spP T th g s then 1 else 0, μ2) ∧ μ2.1 = ν.1 ∧ Same ν μ2 := by
      rcases v2 with v2 | v2
      · exact ⟨_, v2, m1', m4.setM⟩
      · exact ⟨_, v2, m1', m4⟩
    have r1 := slip_lm hx8 hg1 hg2 hp0 hp hg hN htl hM hO ht hth f c (s + 1) q μ2 (by omega) (by omega) (by omega) v5 v6
    have r2 := slip_lm hx8 hg1 hg2 hp0 hp hg hN htl hM hO ht hth f (c + 1) (s + 1) q μ2 (by omega) (by omega) (by omega) v5 v6
    simp only [f_M_slip_l43, e, e']
    rw [s_M_ordersOf htl (hM.same m4), zbnd_eq, e3, zif_f (by rw [iI_le (by omega) (by omega) (by omega) (by omega)]; omega), zchk_t (by decide), zchk_t (by decide), zchk_t hx8, zchk_t hx8, hg1, hg2, v4, zbnd_eq]
    simp only [zlt_eq]
    unfold spS
    cases h : spP T th g s with
    | false =>
      rw [if_neg (by decide), zif_t rfl, if_neg (by decide)]
      exact r1
    | true =>
      rw [if_pos rfl, zif_f (by decide), if_pos rfl]
      by_cases cp : (c : Int) = p
      · rw [zif_t (by rw [cp]), if_pos cp]
        exact ⟨_, rfl, v6⟩
      · rw [zif_f (by rw [iI_eq (by omega) (by omega) (by omega) (by omega)]; omega), if_neg cp]
        exact r2
theorem spS_low {P : Nat → Bool} {p : Int} (hp : p < -1) : ∀ (f c s : Nat), spS P p f c s = -1
  | 0, c, s => by unfold spS; rw [if_neg (by omega)]
  | f + 1, c, s => by
    unfold spS
    cases P s with
    | false => rw [if_neg (by decide)]; exact spS_low hp f c (s + 1)
    | true => rw [if_pos rfl, if_neg (by omega)]; exact spS_low hp f (c + 1) (s + 1)
theorem ag_slip (N : Nat) (hN : 130 ≤ N) (p0 p1 p2 p3 : Int32) : Agree (fun μ => f_A_slip N μ p0 p1 p2 p3) (fun μ => f_M_slip N μ p0 p1 p2 p3) := by
  refine Agree.same (fun μ hI => ?_)
  unfold f_A_slip f_M_slip
  rcases tab_split hI N p0 with ⟨h1, h2⟩ | ⟨t, ht, rfl, htn, h1, h2⟩
  · exact ⟨_, μ, μ, by simp only [h1, zbrf_n]; rfl, by simp only [h2 μ Same.rf, zbnd_eq]; rfl, Same.rf, Same.rf⟩
  · obtain ⟨hC, hM, hO⟩ := hI.tab htn
    obtain ⟨hth, hok, hthM⟩ := hI.th
    have hn := hO.1
    obtain ⟨u, hu1, hu2, rfl⟩ := iI_ex p1
    obtain ⟨d, hd1, hd2, rfl⟩ := iI_ex p2
    obtain ⟨p, hp1, hp2, rfl⟩ := iI_ex p3
    generalize hT : tabOf μ t = T at hC hM hO hn
    by_cases c : -1000000000 ≤ u ∧ u ≤ 1000000000 ∧ 1 ≤ d ∧ d ≤ 1000000
    · have hg := gcd_pos' (u := u) (d := d) (by omega)
      have hgl := gcd_le' (u := u) (d := d) (by omega)
      have hP := s_Value_put (N := N) (μ := μ) (o := 1) (u := u) (d := d) (by omega) (by omega) (by omega) (by omega)
      rw [tld_lay c.1 c.2.1 c.2.2.1 c.2.2.2] at hP
      have hV : isV (tld u d) := layS_isV (by omega) (tld_lay c.1 c.2.1 c.2.2.1 c.2.2.2)
      obtain ⟨μ1, a1, a2⟩ := slip_la (N := N) (ν := setV μ 1 (tld u d)) (t := t) (T := T) (th := thOf μ 0) (g := tld u d) (p := p) hp1 hp2 hV hN ht (hC.same Same.rf.setV) hO (hth.same (by omega) Same.rf.setV) hok (3 * T.1) 0 0 N _ (by omega) (by omega) (by omega) rfl setV_0 setV_1 Same.rf
      have s1 : Same μ μ1 := Same.rf.setV.tr a2
      obtain ⟨μ2, g1, g2, g3, g4, g5⟩ := s_M_thinkNow (N := N) (μ := μ1) (th := thOf μ 0) (by omega) (fun j hj => by rw [s1.1 40 0 _ rfl]; exact hthM j hj)
      have hz : ¬ lI (Int.gcd u d : Int) = 0 := by rw [zl0, lI_eq (by omega) (by omega) (by omega) (by omega)]; omega
      have hA : f_A_slip N μ (iI t) (iI u) (iI d) (iI p) = some (iI (spS (spP T (thOf μ 0) (tld u d)) p (3 * T.1) 0 0), μ1) := by
        unfold f_A_slip
        simp only [h1, zbrf_s]
        rw [zchk_t ht, s_A_isTold hu1 hu2 hd1 hd2, zbnd_eq, if_pos c, zif_f (by decide), iI_long (by omega) (by omega), iI_long (by omega) (by omega), hP]
        exact a1
      unfold f_A_slip at hA
      by_cases cp : -1 ≤ p
      · obtain ⟨μ3, b1, b2⟩ := slip_lm (N := N) (ν := μ2) (t := t) (T := T) (th := thOf μ 0) (g := tld u d) (p := p) (p1 := iI u) (p2 := iI d) (x8 := lI (Int.gcd u d : Int)) hz (by rw [iI_long (by omega) (by omega), lI_div (by omega) (by omega) (by omega) (by omega), tdiv_gcd (by omega)]; rfl) (by rw [iI_long (by omega) (by omega), lI_div (by omega) (by omega) (by omega) (by omega), tdiv_gcd2 (by omega)]; rfl) hp1 hp2 hV hN ht (hM.same (s1.tr g3)) hO g2 hok (3 * T.1) 0 0 N μ2 (by omega) (by omega) (by omega) rfl Same.rf
        refine ⟨_, μ1, μ3, hA, ?_, s1, g3.tr b2⟩
        simp only [h2 _ s1, zbnd_eq]
        rw [zif_f (by decide), s_M_isFraction hu1 hu2 hd1 hd2, zbnd_eq, if_pos c, zif_f (by decide), zif_t (by rw [m1, iI_le (by omega) (by omega) (by omega) (by omega)]; exact cp), g1, zbnd_eq, iI_long (by omega) (by omega), iI_long (by omega) (by omega), s_M_common hN (by omega) (by omega) (by omega), zbnd_eq]
        exact b1
      · refine ⟨_, μ1, μ1, hA, ?_, s1, Same.rf⟩
        simp only [h2 _ s1, zbnd_eq]
        rw [zif_f (by decide), s_M_isFraction hu1 hu2 hd1 hd2, zbnd_eq, if_pos c, zif_f (by decide), zif_f (by rw [m1, iI_le (by omega) (by omega) (by omega) (by omega)]; exact cp), spS_low (by omega), m1]; rfl
    · refine ⟨-1, μ, μ, ?_, ?_, Same.rf, Same.rf⟩
      · simp only [h1, zbrf_s]
        rw [zchk_t ht, s_A_isTold hu1 hu2 hd1 hd2, zbnd_eq, if_neg c, zif_t rfl]; rfl
      · simp only [h2 μ Same.rf, zbnd_eq]
        rw [zif_f (by decide), s_M_isFraction hu1 hu2 hd1 hd2, zbnd_eq, if_neg c, zif_t rfl]; rfl
