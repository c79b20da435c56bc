/-! calls that only read: fault, order, span, comes, fails -/
theorem m1 : (-1 : Int32) = iI (-1) := by decide
theorem ag_fault (N : Nat) (p0 : Int32) : Agree (fun μ => f_A_fault N μ p0) (fun μ => f_M_fault N μ p0) := by
  refine Agree.same (fun μ hI => ?_)
  obtain ⟨-, ⟨h1, h2⟩, -⟩ := hI
  unfold f_A_fault f_M_fault
  by_cases c : p0 = 0
  · exact ⟨_, μ, μ, by rw [zif_t c]; rfl, by rw [zif_t c, h1]; rfl, Same.rf, Same.rf⟩
  · by_cases c2 : p0 = 1
    · exact ⟨_, μ, μ, by rw [zif_f c, zif_t c2]; rfl, by rw [zif_f c, zif_t c2, h2]; rfl, Same.rf, Same.rf⟩
    · exact ⟨_, μ, μ, by rw [zif_f c, zif_f c2]; rfl, by rw [zif_f c, zif_f c2]; rfl, Same.rf, Same.rf⟩
/-- a table is asked for: there is none, or it is one -/
theorem tab_split {μ : ZMem} (hI : Inv μ) (N : Nat) (p0 : Int32) : (f_A_find N μ p0 = some (none, μ) ∧ ∀ μ', Same μ μ' → f_M_isTable N μ' p0 = some (0, μ')) ∨ ∃ t : Nat, t < 4 ∧ p0 = iI t ∧ (t : Int) < (μ.1 5 0 0).toInt ∧ f_A_find N μ p0 = some (some t, μ) ∧ ∀ μ', Same μ μ' → f_M_isTable N μ' p0 = some (1, μ') := by
  obtain ⟨nt, hn, h1, h2, h3⟩ := hI.nt
  obtain ⟨x, hx1, hx2, rfl⟩ := iI_ex p0
  have hM : ∀ μ', Same μ μ' → μ'.1 40 0 0 = iI nt := fun μ' s => by rw [s.1 40 0 0 rfl]; exact h2
  by_cases c : 0 ≤ x ∧ x < nt
  · refine Or.inr ⟨x.toNat, by omega, by rw [show ((x.toNat : Nat) : Int) = x by omega], by omega, ?_, fun μ' s => ?_⟩
    · rw [s_A_find h1 hn hx1 hx2, if_pos c]
    · rw [s_M_isTable (hM μ' s) hn hx1 hx2, if_pos c]
  · refine Or.inl ⟨?_, fun μ' s => ?_⟩
    · rw [s_A_find h1 hn hx1 hx2, if_neg c]
    · rw [s_M_isTable (hM μ' s) hn hx1 hx2, if_neg c]
theorem ag_order (N : Nat) (p0 p1 p2 : Int32) : Agree (fun μ => f_A_order N μ p0 p1 p2) (fun μ => f_M_order N μ p0 p1 p2) := by
  refine Agree.same (fun μ hI => ?_)
  unfold f_A_order f_M_order
  rcases tab_split hI N p0 with ⟨h1, h2⟩ | ⟨t, ht, rfl, htn, h1, h2⟩
  · exact ⟨_, μ, μ, by simp only [h1, zbrf_n]; rfl, by simp only [h2 μ Same.rf, zbnd_eq]; rfl, Same.rf, Same.rf⟩
  · obtain ⟨hC, hM, hO⟩ := hI.tab htn
    have hn := hO.1
    simp only [h1, zbrf_s]
    obtain ⟨x, hx1, hx2, rfl⟩ := iI_ex p1
    have e1 : iI ((tabOf μ t).1 : Int) - (1 : Int32) = iI (((tabOf μ t).1 : Int) - 1) := iI_sub _ 1
    have e2 : f_M_isIn N μ (iI x) 0 (iI (((tabOf μ t).1 : Int) - 1)) = _ := s_M_isIn (a := 0) hx1 hx2 (by omega) (by omega) (by omega) (by omega)
    by_cases c : x = -1
    · subst c
      refine ⟨iI (tabOf μ t).1, μ, μ, ?_, ?_, Same.rf, Same.rf⟩
      · rw [zchk_t ht, zif_t (by decide), hC.1.1]; rfl
      · rw [h2 μ Same.rf, zbnd_eq, zif_f (by decide), zif_t (by decide), s_M_ordersOf ht hM]; rfl
    · have hne : ¬ iI x = (-1 : Int32) := by rw [ilit, iI_neg, iI_eq (by omega) (by omega) (by omega) (by omega)]; omega
      by_cases c2 : 0 ≤ x ∧ x < ((tabOf μ t).1 : Int)
      · obtain ⟨i, rfl⟩ : ∃ i : Nat, x = i := ⟨x.toNat, by omega⟩
        have hk := hC.1.2 i (by omega)
        by_cases c3 : p2 = 0
        · refine ⟨iI ((tabOf μ t).2.1 i), μ, μ, ?_, ?_, Same.rf, Same.rf⟩
          · rw [zchk_t ht, zif_f hne, s_Orders_has (by omega) hC.1.1 hx1 hx2, zbnd_eq, if_pos c2, zif_f (by decide), zif_t c3, zchk_t (zin_k 24 (by rw [len22, if_pos ht]) (by omega) (by omega) (by omega)), cl_nat (by omega), hk.1]; rfl
          · rw [h2 μ Same.rf, zbnd_eq, zif_f (by decide), zif_f hne, s_M_ordersOf ht hM, zbnd_eq, e1, e2, zbnd_eq, if_pos (by omega), zif_f (by decide), zif_t c3, s_M_kindOf ht hM (by omega) hn]; rfl
        · refine ⟨iI ((tabOf μ t).2.2.1 i), μ, μ, ?_, ?_, Same.rf, Same.rf⟩
          · rw [zchk_t ht, zif_f hne, s_Orders_has (by omega) hC.1.1 hx1 hx2, zbnd_eq, if_pos c2, zif_f (by decide), zif_f c3, zchk_t (zin_k 24 (by rw [len23, if_pos ht]) (by omega) (by omega) (by omega)), cl_nat (by omega), hk.2]; rfl
          · rw [h2 μ Same.rf, zbnd_eq, zif_f (by decide), zif_f hne, s_M_ordersOf ht hM, zbnd_eq, e1, e2, zbnd_eq, if_pos (by omega), zif_f (by decide), zif_f c3, s_M_xOf ht hM (by omega) hn]; rfl
      · refine ⟨-1, μ, μ, ?_, ?_, Same.rf, Same.rf⟩
        · rw [zchk_t ht, zif_f hne, s_Orders_has (by omega) hC.1.1 hx1 hx2, zbnd_eq, if_neg c2, zif_t rfl]; rfl
        · rw [h2 μ Same.rf, zbnd_eq, zif_f (by decide), zif_f hne, s_M_ordersOf ht hM, zbnd_eq, e1, e2, zbnd_eq, if_neg (by omega), zif_t rfl]; rfl
theorem ag_span (N : Nat) (p0 p1 p2 : Int32) : Agree (fun μ => f_A_span N μ p0 p1 p2) (fun μ => f_M_span N μ p0 p1 p2) := by
  refine Agree.same (fun μ hI => ?_)
  unfold f_A_span f_M_span
  rcases tab_split hI N p0 with ⟨h1, h2⟩ | ⟨t, ht, rfl, htn, h1, h2⟩
  · exact ⟨_, μ, μ, by simp only [h1, zbrf_n]; rfl, by simp only [h2 μ Same.rf, zbnd_eq]; rfl, Same.rf, Same.rf⟩
  · obtain ⟨hC, hM, hO⟩ := hI.tab htn
    simp only [h1, zbrf_s]
    obtain ⟨x, hx1, hx2, rfl⟩ := iI_ex p1
    have e2 : f_M_isIn N μ (iI x) 0 3 = _ := s_M_isIn (a := 0) (b := 3) hx1 hx2 (by omega) (by omega) (by omega) (by omega)
    by_cases c2 : 0 ≤ x ∧ x < 4
    · obtain ⟨i, rfl⟩ : ∃ i : Nat, x = i := ⟨x.toNat, by omega⟩
      have hk := hC.2 i (by omega)
      have hz := hM.2.2 i (by omega)
      have hok := hO.2.2 i (by omega)
      have hA : ∀ v : Int32, (if p2 = 0 then iI ((tabOf μ t).2.2.2.1 i) else iI ((tabOf μ t).2.2.2.2 i)) = v → zchk (t < 4) (zbnd (f_A_isLetter N μ (iI (i : Int))) (fun (r5 : Int32) (μ4 : ZMem) => zif (r5 = 0) (zret (-1 : Int32) μ4) (zif (p2 = 0) (zchk (zin (iI (i : Int)) (zlen 24 t)) (zret (μ4.1 24 t (iI (i : Int)).toNatClampNeg) μ4)) (zchk (zin (iI (i : Int)) (zlen 25 t)) (zret (μ4.1 25 t (iI (i : Int)).toNatClampNeg) μ4))))) = some (v, μ) := by
        intro v hv
        rw [zchk_t ht, s_A_isLetter hx1 hx2, zbnd_eq, if_pos c2, zif_f (by decide), zchk_t (zin_k 4 rfl (by omega) (by omega) (by omega)), zchk_t (zin_k 4 rfl (by omega) (by omega) (by omega)), cl_nat (by omega), hk.1, hk.2, ← hv]
        by_cases c3 : p2 = 0
        · rw [zif_t c3, if_pos c3]; rfl
        · rw [zif_f c3, if_neg c3]; rfl
      by_cases c : (tabOf μ t).2.2.2.1 i = -1
      · refine ⟨-1, μ, μ, hA _ ?_, ?_, Same.rf, Same.rf⟩
        · have : (tabOf μ t).2.2.2.2 i = -1 := by omega
          rw [c, this]; split <;> rfl
        · rw [h2 μ Same.rf, zbnd_eq, zif_f (by decide), e2, zbnd_eq, if_pos (by omega), zif_f (by decide), s_M_isHidden ht hM (by omega), zbnd_eq, if_pos c, zif_t rfl]; rfl
      · have hzc := hz.2 c
        refine ⟨_, μ, μ, hA _ rfl, ?_, Same.rf, Same.rf⟩
        rw [h2 μ Same.rf, zbnd_eq, zif_f (by decide), e2, zbnd_eq, if_pos (by omega), zif_f (by decide), s_M_isHidden ht hM (by omega), zbnd_eq, if_neg c, zif_f (by decide)]
        simp only [zlt_eq]
        have e3 : f_M_spanOf N μ (iI t) (iI i) 1 = _ := s_M_spanOf (w := 1) ht (by omega) (by omega)
        have e4 : f_M_spanOf N μ (iI t) (iI i) 2 = _ := s_M_spanOf (w := 2) ht (by omega) (by omega)
        by_cases c3 : p2 = 0
        · rw [zif_t c3, if_pos c3, e3, zbnd_eq, hzc.2.1]; rfl
        · rw [zif_f c3, if_neg c3, e4, zbnd_eq, hzc.2.2]; rfl
    · refine ⟨-1, μ, μ, ?_, ?_, Same.rf, Same.rf⟩
      · rw [zchk_t ht, s_A_isLetter hx1 hx2, zbnd_eq, if_neg c2, zif_t rfl]; rfl
      · rw [h2 μ Same.rf, zbnd_eq, zif_f (by decide), e2, zbnd_eq, if_neg (by omega), zif_t rfl]; rfl
theorem s_Value_part {N : Nat} {μ : ZMem} {o : Nat} {p : Int32} {v : Int × Int} (h0 : μ.2 7 o 0 = lI v.1) (h1 : μ.2 7 o 1 = lI v.2) : f_Value_part N μ o p = some (if p = 0 then lI v.1 else lI v.2, μ) := by
  unfold f_Value_part
  by_cases c : p = 0
  · rw [zif_t c, if_pos c, h0]; rfl
  · rw [zif_f c, if_neg c, h1]; rfl
theorem ag_comes (N : Nat) (hN : 130 ≤ N) (p0 p1 p2 : Int32) : Agree (fun μ => f_A_comes N μ p0 p1 p2) (fun μ => f_M_comes N μ p0 p1 p2) := by
  refine Agree.same (fun μ hI => ?_)
  unfold f_A_comes f_M_comes
  rcases tab_split hI N p0 with ⟨h1, h2⟩ | ⟨t, ht, rfl, htn, h1, h2⟩
  · exact ⟨_, μ, μ, by simp only [h1, zbrf_n]; rfl, by simp only [h2 μ Same.rf, zbnd_eq]; rfl, Same.rf, Same.rf⟩
  · obtain ⟨hC, hM, hO⟩ := hI.tab htn
    obtain ⟨hth, hok, hthM⟩ := hI.th
    have hn := hO.1
    obtain ⟨x, hx1, hx2, rfl⟩ := iI_ex p1
    generalize hT : tabOf μ t = T at hC hM hO hn
    by_cases c2 : -1 ≤ x ∧ x < (T.1 : Int)
    · obtain ⟨w, hw⟩ : ∃ w : Nat, (w : Int) = x + 1 := ⟨(x + 1).toNat, by omega⟩
      have e1 : iI x + (1 : Int32) = iI (w : Int) := by rw [hw]; exact iI_add x 1
      have hmin : min w T.1 = w := by omega
      have hr := rnS_rng (kd := T.2.1) (xs := T.2.2.1) (th := thOf μ 0) w 0 (bg T (thOf μ 0), 1)
      generalize hR : rnS T.2.1 T.2.2.1 (thOf μ 0) w 0 (bg T (thOf μ 0), 1) = R at hr
      have hA : zchk (t < 4) (zlt (fun (μ4 : ZMem) => zlt (iI x + (1 : Int32)) (fun (x6 : Int32) => zbnd (f_Table_run N μ4 t x6 0 0) (fun (r8 : Int32) (μ7 : ZMem) => zif (r8 = x6) (zbnd (f_Value_part N μ7 0 p2) (fun (r10 : Int64) (μ9 : ZMem) => zret r10 μ9)) (zret (-10000000000000 : Int64) μ7)))) (fun k5 => zif (iI x = (-1 : Int32)) (k5 μ) (zbnd (f_Orders_has N μ t (iI x)) (fun (r12 : Int32) (μ11 : ZMem) => zif (r12 = 0) (zret (-10000000000000 : Int64) μ11) (k5 μ11))))) = some (if R.1 = w then (if p2 = 0 then lI R.2.1 else lI R.2.2) else -10000000000000, setV μ 0 R.2) := by
        rw [zchk_t ht]
        refine zlt_gen (fun J hJ => ?_)
        have hJμ : J μ = some (if R.1 = w then (if p2 = 0 then lI R.2.1 else lI R.2.2) else -10000000000000, setV μ 0 R.2) := by
          rw [hJ]
          simp only [zlt_eq, e1]
          rw [s_Table_run hN ht hC hO hth hok (by omega), zbnd_eq, hmin, hR]
          by_cases c4 : R.1 = w
          · rw [zif_t (by rw [c4]), s_Value_part setV_0 setV_1, zbnd_eq, if_pos c4]; rfl
          · rw [zif_f (by rw [iI_eq (by omega) (by omega) (by omega) (by omega)]; omega), if_neg c4]; rfl
        by_cases c3 : x = -1
        · rw [zif_t (by rw [c3, m1])]; exact hJμ
        · rw [zif_f (by rw [ilit, iI_neg, iI_eq (by omega) (by omega) (by omega) (by omega)]; omega), s_Orders_has (by omega) hC.1.1 hx1 hx2, zbnd_eq, if_pos (by omega), zif_f (by decide)]; exact hJμ
      have s1 : Same μ (setV μ 0 R.2) := Same.rf.setV
      have hM1 := hM.same s1
      obtain ⟨μ2, g1, g2, g3, g4, g5⟩ := s_M_thinkNow (N := N) (μ := setV μ 0 R.2) (th := thOf μ 0) (by omega) hthM
      have hM2 := hM1.same g3
      have e3 : iI (T.1 : Int) - (1 : Int32) = iI ((T.1 : Int) - 1) := iI_sub _ 1
      have e4 : f_M_isIn N (setV μ 0 R.2) (iI x) (-1) (iI ((T.1 : Int) - 1)) = some (if -1 ≤ x ∧ x ≤ (T.1 : Int) - 1 then 1 else 0, setV μ 0 R.2) := by rw [m1]; exact s_M_isIn hx1 hx2 (by omega) (by omega) (by omega) (by omega)
      refine ⟨if R.1 = w then (if p2 = 0 then lI R.2.1 else lI R.2.2) else -10000000000000, setV μ 0 R.2, setM μ2 R.2, ?_, ?_, s1, g3.setM⟩
      · simp only [h1, zbrf_s]; exact hA
      · simp only [h2 _ s1, zbnd_eq]
        rw [zif_f (by decide), s_M_ordersOf ht hM1, zbnd_eq, e3, e4, zbnd_eq, if_pos (by omega), zif_f (by decide), g1, zbnd_eq, e1, s_M_goTo hN ht hM2 hO g2 hok (by omega), zbnd_eq, hR]
        by_cases c4 : R.1 = w
        · rw [if_pos c4, zif_t (by decide), if_pos c4, setM_0, setM_1]
          by_cases c5 : p2 = 0
          · rw [zif_t c5, if_pos c5]; rfl
          · rw [zif_f c5, if_neg c5]; rfl
        · rw [if_neg c4, zif_f (by rw [zi0, iI_lt (by omega) (by omega) (by omega) (by omega)]; omega), if_neg c4]; rfl
    · have e3 : iI (T.1 : Int) - (1 : Int32) = iI ((T.1 : Int) - 1) := iI_sub _ 1
      have e4 : f_M_isIn N μ (iI x) (-1) (iI ((T.1 : Int) - 1)) = some (if -1 ≤ x ∧ x ≤ (T.1 : Int) - 1 then 1 else 0, μ) := by rw [m1]; exact s_M_isIn hx1 hx2 (by omega) (by omega) (by omega) (by omega)
      refine ⟨-10000000000000, μ, μ, ?_, ?_, Same.rf, Same.rf⟩
      · simp only [h1, zbrf_s]
        rw [zchk_t ht]
        simp only [zlt_eq]
        rw [zif_f (by rw [ilit, iI_neg, iI_eq (by omega) (by omega) (by omega) (by omega)]; omega), s_Orders_has (by omega) hC.1.1 hx1 hx2, zbnd_eq, if_neg (by omega), zif_t rfl]; rfl
      · simp only [h2 μ Same.rf, zbnd_eq]
        rw [zif_f (by decide), s_M_ordersOf ht hM, zbnd_eq, e3, e4, zbnd_eq, if_neg (by omega), zif_t rfl]; rfl
theorem ag_fails (N : Nat) (hN : 130 ≤ N) (p0 : Int32) : Agree (fun μ => f_A_fails N μ p0) (fun μ => f_M_fails N μ p0) := by
  refine Agree.same (fun μ hI => ?_)
  unfold f_A_fails f_M_fails
  rcases tab_split hI N p0 with ⟨h1, h2⟩ | ⟨t, ht, rfl, htn, h1, h2⟩
  · exact ⟨_, μ, μ, by simp only [h1, zbrf_n]; rfl, by simp only [h2 μ Same.rf, zbnd_eq]; rfl, Same.rf, Same.rf⟩
  · obtain ⟨hC, hM, hO⟩ := hI.tab htn
    obtain ⟨hth, hok, hthM⟩ := hI.th
    have hn := hO.1
    generalize hT : tabOf μ t = T at hC hM hO hn
    have hr := rnS_rng (kd := T.2.1) (xs := T.2.2.1) (th := thOf μ 0) T.1 0 (bg T (thOf μ 0), 1)
    generalize hR : rnS T.2.1 T.2.2.1 (thOf μ 0) T.1 0 (bg T (thOf μ 0), 1) = R at hr
    have s1 : Same μ (setV μ 0 R.2) := Same.rf.setV
    obtain ⟨μ2, g1, g2, g3, g4, g5⟩ := s_M_thinkNow (N := N) (μ := setV μ 0 R.2) (th := thOf μ 0) (by omega) hthM
    have hM2 := (hM.same s1).same g3
    have hc : (setV μ 0 R.2).1 4 t 2 = iI T.1 := hC.1.1
    refine ⟨if R.1 = T.1 then iI (-1) else iI R.1, setV μ 0 R.2, setM μ2 R.2, ?_, ?_, s1, g3.setM⟩
    · simp only [h1, zbrf_s]
      rw [zchk_t ht, hC.1.1, s_Table_run hN ht hC hO hth hok (by omega), zbnd_eq, Nat.min_self, hR, zlt_eq, hc]
      by_cases c4 : R.1 = T.1
      · rw [zif_t (by rw [iI_le (by omega) (by omega) (by omega) (by omega)]; omega), if_pos c4]; rfl
      · rw [zif_f (by rw [iI_le (by omega) (by omega) (by omega) (by omega)]; omega), if_neg c4]; rfl
    · simp only [h2 _ s1, zbnd_eq]
      rw [zif_f (by decide), g1, zbnd_eq, s_M_ordersOf ht hM2, zbnd_eq, s_M_goTo hN ht hM2 hO g2 hok (by omega), zbnd_eq, hR]; rfl
