/-! made: one order on all numbers of a level -/
def sv (k x low : Int) (j : Nat) (u : Int) : Option Int := match ordS k (amt x (fun _ => low + (j : Int))) (u, 1) with
  | none => none
  | some w => if w.2 = 1 ∧ 0 ≤ w.1 then some w.1 else none
def frS (d : Nat) (ν ν' : ZMem) : Prop := (∀ k i x, ¬ (k = 26 ∧ i = 3) → ν'.1 k i x = ν.1 k i x) ∧ ∀ k i x, ¬ (k = 7 ∧ i = 2) → ¬ (k = 38 ∧ i = d + 1) → ν'.2 k i x = ν.2 k i x
theorem frS.rf {d : Nat} {ν : ZMem} : frS d ν ν := ⟨fun _ _ _ _ => rfl, fun _ _ _ _ _ => rfl⟩
theorem frS.tr {d : Nat} {ν ν' ν'' : ZMem} (h : frS d ν ν') (h' : frS d ν' ν'') : frS d ν ν'' := ⟨fun k i x q => (h'.1 k i x q).trans (h.1 k i x q), fun k i x q1 q2 => (h'.2 k i x q1 q2).trans (h.2 k i x q1 q2)⟩
theorem spread_l {N : Nat} {μ : ZMem} {o kk d n : Nat} {k x low goal : Int} {last : Bool} {Lv : Nat → Int} (hN : 130 ≤ N) (hkk : kk < zlen 22 o) (hk22 : μ.1 22 o kk = iI k) (hk23 : μ.1 23 o kk = iI x) (hk0 : 0 ≤ k) (hk7 : k ≤ 7) (hx0 : 0 ≤ x) (hx : x ≤ 10000) (hd : d < 5) (hn : n ≤ 100) (hl0 : 0 ≤ low) (hl : low + n ≤ 10000) (hg0 : 0 ≤ goal) (hg : goal ≤ 9999) (h4 : μ.1 11 0 4 = iI low) (h5 : μ.1 11 0 5 = iI n) (h6 : μ.1 11 0 6 = iI goal) (hLv : ∀ j, j < n → μ.2 38 d j = lI (Lv j) ∧ 0 ≤ Lv j ∧ Lv j ≤ 1000000000000) :
    ∀ (f j fuel : Nat) (ν : ZMem), j + f = n → f < fuel → frS d μ ν → (∀ i, i < j → ∃ w, sv k x low i (Lv i) = some w ∧ (last = true → w = goal) ∧ ν.2 38 (d + 1) i = lI w) → ∃ b ν', f_Maker_spread_l3 N o (iI kk) (iI d) (bI last) fuel (iI j) ν = some (bI b, ν') ∧ frS d μ ν' ∧ (b = true → ∀ i, i < n → ∃ w, sv k x low i (Lv i) = some w ∧ (last = true → w = goal) ∧ ν'.2 38 (d + 1) i = lI w) ∧ (b = false → ∃ i, i < n ∧ ∀ w, sv k x low i (Lv i) = some w → last = true ∧ w ≠ goal)
  | 0, j, fuel, ν, q1, q2, hF, hi => by
    obtain ⟨q, rfl⟩ : ∃ q, fuel = q + 1 := ⟨fuel - 1, by omega⟩
    refine ⟨true, ν, ?_, hF, fun _ i h => hi i (by omega), fun q => by cases q⟩
    simp only [f_Maker_spread_l3]
    rw [hF.1 11 0 5 (by omega), h5, zif_t (by rw [iI_le (by omega) (by omega) (by omega) (by omega)]; omega)]; rfl
  | f + 1, j, fuel, ν, q1, q2, hF, hi => by
    obtain ⟨q, rfl⟩ : ∃ q, fuel = q + 1 := ⟨fuel - 1, by omega⟩
    have hl22 : zlen 22 o ≤ 24 := by rw [len22]; split <;> omega
    have hl3 : zlen 23 o = zlen 22 o := rfl
    have e : iI (j : Int) + (1 : Int32) = iI ((j + 1 : Nat) : Int) := by rw [ilit, iI_add]; congr 1
    have ed : iI (d : Int) + (1 : Int32) = iI ((d + 1 : Nat) : Int) := by rw [ilit, iI_add]; congr 1
    have el : iI low + iI (j : Int) = iI (low + (j : Int)) := by rw [iI_add]
    obtain ⟨l1, l2, l3⟩ := hLv j (by omega)
    have zd : zin (iI (d : Int)) 6 := zin_iI (by omega) (by omega) (by omega)
    have zd1 : zin (iI ((d + 1 : Nat) : Int)) 6 := zin_iI (by omega) (by omega) (by omega)
    have zj : ∀ i, zin (iI (j : Int)) (zlen 38 i) := fun i => zin_k 100 rfl (by omega) (by omega) (by omega)
    have z0 : zin (0 : Int32) (zlen 26 3) := by decide
    have c0 : (0 : Int32).toNatClampNeg = 0 := rfl
    have hv38 : ν.2 38 d j = lI (Lv j) := by rw [hF.2 38 d j (by omega) (by omega)]; exact l1
    obtain ⟨ω, hω⟩ : ∃ ω, ω = zsetI (setV ν 2 (Lv j, 1)) 26 3 0 (iI (low + (j : Int))) := ⟨_, rfl⟩
    have hSW : f_Value_setWhole N ν 2 (lI (Lv j)) = some ((), setV ν 2 (Lv j, 1)) := rfl
    have hV : isV (Lv j, 1) := ⟨by show (0 : Int) < 1; omega, by show (1 : Int) ≤ _; omega, by show _ ≤ Lv j; omega, l3, by show Int.gcd (Lv j) 1 = 1; exact Int.gcd_one⟩
    have hA : f_Orders_amount N ω o (iI (kk : Int)) 3 = some (iI (amt x (fun _ => low + (j : Int))), ω) := by
      unfold f_Orders_amount
      have r23 : ω.1 23 o kk = iI x := by rw [hω, rI, if_neg (by omega)]; show ν.1 23 o kk = _; rw [hF.1 23 o kk (by omega)]; exact hk23
      have r26 : ω.1 26 3 0 = iI (low + (j : Int)) := by rw [hω, rI, if_pos ⟨rfl, rfl, rfl⟩]
      have e0 : iI x - (10000 : Int32) = iI (x - 10000) := by rw [ilit, iI_sub]
      rw [zchk_t (zin_iI (by omega) (by omega) (by omega)), zlt_eq]
      simp only [cl_nat (show kk < 2147483648 by omega), r23, e0]
      rw [s_A_isLetter (by omega) (by omega), zbnd_eq]
      unfold amt
      by_cases c : x < 10000
      · rw [if_neg (by omega), zif_t rfl, zchk_t (zin_iI (by omega) (by omega) (by omega)), r23, if_pos c]; rfl
      · rw [if_pos (by omega), zif_f (by decide), zchk_t (zin_k 4 rfl (by omega) (by omega) (by omega)), cl_int (n := 0) (by omega) (by omega), r26, if_neg c]; rfl
    have ha0 : 0 ≤ amt x (fun _ => low + (j : Int)) ∧ amt x (fun _ => low + (j : Int)) ≤ 9999 := by simp only [amt]; split <;> omega
    have fω : frS d μ ω := hF.tr (by
      rw [hω]
      refine ⟨fun k i y q => ?_, fun k i y q1 q2 => ?_⟩
      · rw [rI, if_neg (fun e => q ⟨e.1, e.2.1⟩)]; rfl
      · show (setV ν 2 (Lv j, 1)).2 k i y = _
        unfold setV
        rw [rJ, if_neg (fun e => q1 ⟨e.1, e.2.1⟩), rJ, if_neg (fun e => q1 ⟨e.1, e.2.1⟩)])
    have hωJ : ∀ y, ω.2 38 (d + 1) y = ν.2 38 (d + 1) y := fun y => by
      rw [hω]
      show (setV ν 2 (Lv j, 1)).2 38 (d + 1) y = _
      unfold setV
      rw [rJ, if_neg (by omega), rJ, if_neg (by omega)]
    have r22 : ω.1 22 o kk = iI k := by rw [fω.1 22 o kk (by omega)]; exact hk22
    have s0 : ω.2 7 2 0 = lI (Lv j, (1 : Int)).1 := by rw [hω]; show (setV ν 2 (Lv j, 1)).2 7 2 0 = _; exact setV_0
    have s1 : ω.2 7 2 1 = lI (Lv j, (1 : Int)).2 := by rw [hω]; show (setV ν 2 (Lv j, 1)).2 7 2 1 = _; exact setV_1
    have hO := s_Value_obey (N := N) (μ := ω) (o := 2) (k := k) (x := amt x (fun _ => low + (j : Int))) (v := (Lv j, 1)) hN hV s0 s1 hk0 (by omega) ha0.1 ha0.2 (by omega)
    simp only [f_Maker_spread_l3]
    rw [hF.1 11 0 5 (by omega), h5, zif_f (by rw [iI_le (by omega) (by omega) (by omega) (by omega)]; omega), zchk_t zd, zchk_t (zj _)]
    simp only [cl_nat (show d < 2147483648 by omega), cl_nat (show j < 2147483648 by omega), hv38]
    rw [hSW, zbnd_eq, zchk_t z0, zlt_eq]
    have r4 : (setV ν 2 (Lv j, 1)).1 11 0 4 = iI low := by show ν.1 11 0 4 = _; rw [hF.1 11 0 4 (by omega)]; exact h4
    rw [r4, el, c0, ← hω, zchk_t (zin_iI (by omega) (by omega) (by omega)), hA, zbnd_eq]
    simp only [cl_nat (show kk < 2147483648 by omega), r22]
    rw [hO]
    have hsv : sv k x low j (Lv j) = (match ordS k (amt x (fun _ => low + (j : Int))) (Lv j, 1) with | none => none | some w => if w.2 = 1 ∧ 0 ≤ w.1 then some w.1 else none) := rfl
    cases h : ordS k (amt x (fun _ => low + (j : Int))) (Lv j, 1) with
    | none =>
      rw [h] at hsv
      simp only [ansV, zbnd_eq, zlt_eq]
      rw [zif_t trivial]
      exact ⟨false, ω, rfl, fω, fun q => (by cases q), fun _ => ⟨j, by omega, fun w e => by rw [hsv] at e; cases e⟩⟩
    | some w =>
      rw [h] at hsv
      have hw := ordS_isV hV ha0.1 h
      obtain ⟨p1, p2, p3, p4, -⟩ := id hw
      have fw : frS d μ (setV ω 2 w) := fω.tr ⟨fun _ _ _ _ => rfl, fun k i y q1 q2 => by unfold setV; rw [rJ, if_neg (fun e => q1 ⟨e.1, e.2.1⟩), rJ, if_neg (fun e => q1 ⟨e.1, e.2.1⟩)]⟩
      have r6 : (setV ω 2 w).1 11 0 6 = iI goal := by rw [fw.1 11 0 6 (by omega)]; exact h6
      simp only [ansV, zbnd_eq, zlt_eq, setV_0, setV_1, r6, ed, e, zchk_t zd1, zchk_t (zj _), cl_nat (show d + 1 < 2147483648 by omega), cl_nat (show j < 2147483648 by omega), iI_long (show -2147483648 ≤ goal by omega) (show goal < 2147483648 by omega)]
      rw [zif_f (by decide)]
      by_cases c1 : w.2 = 1
      · rw [zif_t (by rw [llit, lcmp_eq (by omega) (by omega) (by omega) (by omega)]; exact c1)]
        by_cases c2 : 0 ≤ w.1
        · rw [zif_t (by rw [llit, lcmp_ge (by omega) (by omega) (by omega) (by omega)]; exact c2)]
          have hsw : sv k x low j (Lv j) = some w.1 := by rw [hsv]; exact if_pos ⟨c1, c2⟩
          obtain ⟨τ, hτ⟩ : ∃ τ, τ = zsetJ (setV ω 2 w) 38 (d + 1) j (lI w.1) := ⟨_, rfl⟩
          have fτ : frS d μ τ := fw.tr (by rw [hτ]; exact ⟨fun _ _ _ _ => rfl, fun k i y q1 q2 => by rw [rJ, if_neg (fun e => q2 ⟨e.1, e.2.1⟩)]⟩)
          have hgo : (last = true → w.1 = goal) → ∃ b ν', f_Maker_spread_l3 N o (iI kk) (iI d) (bI last) q (iI ((j + 1 : Nat) : Int)) τ = some (bI b, ν') ∧ frS d μ ν' ∧ (b = true → ∀ i, i < n → ∃ w, sv k x low i (Lv i) = some w ∧ (last = true → w = goal) ∧ ν'.2 38 (d + 1) i = lI w) ∧ (b = false → ∃ i, i < n ∧ ∀ w, sv k x low i (Lv i) = some w → last = true ∧ w ≠ goal) := fun hlast =>
            spread_l hN hkk hk22 hk23 hk0 hk7 hx0 hx hd hn hl0 hl hg0 hg h4 h5 h6 hLv f (j + 1) q τ (by omega) (by omega) fτ (fun i h => by
              by_cases c : i = j
              · rw [c]; exact ⟨w.1, hsw, hlast, by rw [hτ, rJ, if_pos ⟨rfl, rfl, rfl⟩]⟩
              · obtain ⟨w', x1, x2, x3⟩ := hi i (by omega)
                refine ⟨w', x1, x2, ?_⟩
                rw [hτ, rJ, if_neg (fun e => c e.2.2)]
                have hwJ : (setV ω 2 w).2 38 (d + 1) i = ω.2 38 (d + 1) i := by unfold setV; rw [rJ, if_neg (by omega), rJ, if_neg (by omega)]
                rw [hwJ, hωJ]
                exact x3)
          rw [← hτ]
          cases hb : last with
          | false =>
            rw [zif_t (show bI false = 0 from rfl)]
            rw [hb] at hgo
            exact hgo (fun q => by cases q)
          | true =>
            rw [zif_f (by decide)]
            by_cases c3 : w.1 = goal
            · rw [zif_t (by rw [lcmp_eq (by omega) (by omega) (by omega) (by omega)]; exact c3)]
              rw [hb] at hgo
              exact hgo (fun _ => c3)
            · rw [zif_f (by rw [lcmp_eq (by omega) (by omega) (by omega) (by omega)]; exact c3)]
              exact ⟨false, setV ω 2 w, rfl, fw, fun q => (by cases q), fun _ => ⟨j, by omega, fun w' e => by rw [hsw] at e; cases e; exact ⟨rfl, c3⟩⟩⟩
        · rw [zif_f (by rw [llit, lcmp_ge (by omega) (by omega) (by omega) (by omega)]; exact c2)]
          have hsw : sv k x low j (Lv j) = none := by rw [hsv]; exact if_neg (fun q => c2 q.2)
          exact ⟨false, setV ω 2 w, rfl, fw, fun q => (by cases q), fun _ => ⟨j, by omega, fun w' e => by rw [hsw] at e; cases e⟩⟩
      · rw [zif_f (by rw [llit, lcmp_eq (by omega) (by omega) (by omega) (by omega)]; exact c1)]
        have hsw : sv k x low j (Lv j) = none := by rw [hsv]; exact if_neg (fun q => c1 q.1)
        exact ⟨false, setV ω 2 w, rfl, fw, fun q => (by cases q), fun _ => ⟨j, by omega, fun w' e => by rw [hsw] at e; cases e⟩⟩
