/-! go -/
theorem s_M_keep {N : Nat} {μ : ZMem} {s : Nat} (hs : s ≤ 24) (hc : μ.1 40 0 3 = iI s) : f_M_keep N μ = some ((), zsetI (zsetJ (zsetJ μ 41 0 (62 + 2 * s) (μ.2 41 0 60)) 41 0 (62 + 2 * s + 1) (μ.2 41 0 61)) 40 0 3 (iI ((s + 1 : Nat) : Int))) := by
  unfold f_M_keep
  have e3 : (3 : Int32).toNatClampNeg = 3 := rfl
  have e60 : (60 : Int32).toNatClampNeg = 60 := rfl
  have e61 : (61 : Int32).toNatClampNeg = 61 := rfl
  have z3 : zin (3 : Int32) (zlen 40 0) := by decide
  have z60 : zin (60 : Int32) (zlen 41 0) := by decide
  have z61 : zin (61 : Int32) (zlen 41 0) := by decide
  have eC : (62 : Int32) + (2 : Int32) * iI (s : Int) = iI ((62 + 2 * s : Nat) : Int) := by rw [ilit, ilit, iI_mul, iI_add]; rfl
  have eD : iI ((62 + 2 * s : Nat) : Int) + (1 : Int32) = iI ((62 + 2 * s + 1 : Nat) : Int) := iI_add _ 1
  have eE : iI (s : Int) + (1 : Int32) = iI ((s + 1 : Nat) : Int) := iI_add _ 1
  rw [zchk_t z3]
  refine zlt_gen (fun J hJ => ?_)
  simp only [e3, hc]
  rw [zif_f (by rw [ilit, iI_eq (by omega) (by omega) (by omega) (by omega)]; omega), hJ]
  simp only [zlt_eq, zchk_t z3, zchk_t z60, zchk_t z61, e3, e60, e61, hc, rJI, eC, eD, eE]
  rw [zchk_t (zin_k 122 rfl (by omega) (by omega) (by omega)), zchk_t (zin_k 122 rfl (by omega) (by omega) (by omega)), cl_nat (by omega), cl_nat (by omega), rJ, if_neg (by omega)]; rfl
theorem ag_go (N : Nat) (hN : 130 ≤ N) : Agree (fun μ => f_A_go N μ) (fun μ => f_M_go N μ) := by
  refine Agree.mk (fun μ hI => ?_)
  have hI' := hI
  obtain ⟨hth, hok, hthM⟩ := hI.th
  obtain ⟨nt, hnt, hnt1, hnt2, hnt3⟩ := hI.nt
  obtain ⟨ht, hf, ⟨k1, k2, k3, k4, k5, k6, k7⟩, h1, hle, htb⟩ := hI
  obtain ⟨n, hn, hn1, hn2, hn3, hn4⟩ := trl_cnt k7
  obtain ⟨r1, r2, r3, r4⟩ := k7
  have e1 : (1 : Int32).toNatClampNeg = 1 := rfl
  have e2 : (2 : Int32).toNatClampNeg = 2 := rfl
  have e60 : (60 : Int32).toNatClampNeg = 60 := rfl
  have e61 : (61 : Int32).toNatClampNeg = 61 := rfl
  have z1 : zin (1 : Int32) (zlen 40 0) := by decide
  have z2 : zin (2 : Int32) (zlen 40 0) := by decide
  have z60 : zin (60 : Int32) (zlen 41 0) := by decide
  have z61 : zin (61 : Int32) (zlen 41 0) := by decide
  unfold f_A_go f_M_go
  rcases r4 with ⟨b1, b2, b3, b4, b5, b6⟩ | ⟨b1, b2, b3, b4, b5, b6, b7, b8, b9⟩
  · refine ⟨-1, μ, μ, ?_, ?_, hI'⟩
    · rw [b2, s_A_find hnt1 hnt (by omega) (by omega), if_neg (by omega), zbrf_n, s_State_ordersPlayed hn1 (by omega), zbnd_eq]; rfl
    · simp only [zchk_t z1, e1, ← r1, b2]
      rw [zif_t (by decide)]; rfl
  · obtain ⟨t, htl, ht1, ht2⟩ := nat_ex b2 (m := 3) (by omega)
    have htn : (t : Int) < (μ.1 5 0 0).toInt := by omega
    have hp40 : μ.1 40 0 1 = iI t := by rw [← r1]; exact ht1
    obtain ⟨hC, hM, hO⟩ := hI'.tab htn
    rw [ht2, Int.toNat_natCast, hn2] at b4
    have hcT : ((tabOf μ t).1 : Int) = (μ.1 4 t 2).toInt := by
      have := (htb t htn).1
      show (((μ.1 4 t 2).toInt.toNat : Nat) : Int) = _
      omega
    generalize hT : tabOf μ t = T at hC hM hO hcT
    rw [← hcT] at b4
    have hnT := hO.1
    obtain ⟨m, rfl⟩ : ∃ m, n = m + 1 := ⟨n - 1, by omega⟩
    rw [show m + 1 - 1 = m by omega] at hn3 hn4
    have hfind : f_A_find N μ (μ.1 5 0 7) = some (some t, μ) := by
      rw [ht1, s_A_find hnt1 hnt (by omega) (by omega), if_pos (by omega), Int.toNat_natCast]
    have hOP : f_State_ordersPlayed N μ 0 = some (iI (m : Int), μ) := s_State_ordersPlayed (n := m + 1) hn1 (by omega)
    simp only [hfind, zbrf_s]
    rw [zchk_t (show t < 4 by omega), hOP, zbnd_eq, zlt_eq, s_Orders_has (n := T.1) (by omega) hC.1.1 (by omega) (by omega), zbnd_eq]
    by_cases c : m < T.1
    · rw [if_pos (by omega), zif_f (by decide)]
      obtain ⟨v, hv⟩ : ∃ v : Int × Int, v = ((μ.2 28 (3 * 0 + 2) m).toInt, (μ.2 29 (3 * 0 + 2) m).toInt) := ⟨_, rfl⟩
      have hV : isV v := by rw [hv]; exact b7 m (by omega)
      have hL := s_Values_readLast (N := N) (μ := μ) (w := 3 * 0 + 2) (p := 0) (cap := 25) hn1 (by omega) rfl rfl (by omega)
      rw [if_neg (by omega), show m + 1 - 1 = m by omega, ← hv] at hL
      have hO' := hO.2.1 m c
      have hc' := hC.1.2 m c
      have ha := amt_rng hO'.2.2.1 hok
      rw [hL, zbnd_eq, zchk_t (zin_k 24 (by rw [len22, if_pos (by omega)]) (by omega) (by omega) (by omega)), s_Orders_amount (μ := setV μ 0 v) (x := T.2.2.1 m) (th := thOf μ 0) hO'.2.2.1 hc'.2 hth (by rw [len23, if_pos (by omega)]; omega), zbnd_eq, cl_nat (by omega), show (setV μ 0 v).1 22 t m = iI (T.2.1 m) from hc'.1, s_Value_obey hN hV setV_0 setV_1 hO'.1 hO'.2.1 ha.1 ha.2 (fun q => amt8 (hO'.2.2.2 q))]
      -- the reference, up to the order
      have b9' := b9 m (by omega)
      have hv60 : μ.2 41 0 60 = lI v.1 := by rw [b9'.1, hv]; exact lI_of _
      have hv61 : μ.2 41 0 61 = lI v.2 := by rw [b9'.2, hv]; exact lI_of _
      have hMgo : ∀ ν : ZMem, (∀ i x, ν.1 40 i x = μ.1 40 i x) → (∀ i x, ν.1 42 i x = μ.1 42 i x) → (∀ x, ν.2 41 0 x = μ.2 41 0 x) → ∃ μ2, Same ν μ2 ∧ (∀ k i x, k ≠ 44 → μ2.1 k i x = ν.1 k i x) ∧ μ2.2 = ν.2 ∧ (zchk (zin (1 : Int32) (zlen 40 0)) (zif ((ν.1 40 0 (1 : Int32).toNatClampNeg) = (-1 : Int32)) (zret (-1 : Int32) ν) (zchk (zin (2 : Int32) (zlen 40 0)) (zchk (zin (1 : Int32) (zlen 40 0)) (zbnd (f_M_ordersOf N ν (ν.1 40 0 (1 : Int32).toNatClampNeg)) (fun (r2 : Int32) (μ1 : ZMem) => zif ((ν.1 40 0 (2 : Int32).toNatClampNeg) = r2) (zret (-1 : Int32) μ1) (zbnd (f_M_thinkNow N μ1) (fun _ (μ3 : ZMem) => zchk (zin (60 : Int32) (zlen 41 0)) (zlt (zsetJ μ3 12 0 15 (μ3.2 41 0 (60 : Int32).toNatClampNeg)) (fun (μ4 : ZMem) => zchk (zin (61 : Int32) (zlen 41 0)) (zlt (zsetJ μ4 12 0 16 (μ4.2 41 0 (61 : Int32).toNatClampNeg)) (fun (μ5 : ZMem) => zchk (zin (1 : Int32) (zlen 40 0)) (zchk (zin (2 : Int32) (zlen 40 0)) (zbnd (f_M_kindOf N μ5 (μ5.1 40 0 (1 : Int32).toNatClampNeg) (μ5.1 40 0 (2 : Int32).toNatClampNeg)) (fun (r7 : Int32) (μ6 : ZMem) => zchk (zin (1 : Int32) (zlen 40 0)) (zchk (zin (2 : Int32) (zlen 40 0)) (zbnd (f_M_xOf N μ6 (μ6.1 40 0 (1 : Int32).toNatClampNeg) (μ6.1 40 0 (2 : Int32).toNatClampNeg)) (fun (r9 : Int32) (μ8 : ZMem) => zbnd (f_M_does N μ8 r7 r9) (fun (r11 : Int32) (μ10 : ZMem) => zif (r11 = 0) (zret (-1 : Int32) μ10) (zbnd (f_M_keep N μ10) (fun _ (μ12 : ZMem) => zchk (zin (60 : Int32) (zlen 41 0)) (zlt (zsetJ μ12 41 0 (60 : Int32).toNatClampNeg (μ12.2 12 0 15)) (fun (μ13 : ZMem) => zchk (zin (61 : Int32) (zlen 41 0)) (zlt (zsetJ μ13 41 0 (61 : Int32).toNatClampNeg (μ13.2 12 0 16)) (fun (μ14 : ZMem) => zchk (zin (2 : Int32) (zlen 40 0)) (zchk (zin (2 : Int32) (zlen 40 0)) (zlt (zsetI μ14 40 0 (2 : Int32).toNatClampNeg ((μ14.1 40 0 (2 : Int32).toNatClampNeg) + (1 : Int32))) (fun (μ15 : ZMem) => zchk (zin (2 : Int32) (zlen 40 0)) (zret ((μ15.1 40 0 (2 : Int32).toNatClampNeg) - (1 : Int32)) μ15)))))))))))))))))))))))))))) : Option (Int32 × ZMem)) = match ordS (T.2.1 m) (amt (T.2.2.1 m) (thOf μ 0)) v with
          | none => some (-1, setM μ2 v)
          | some w => some (iI (m : Int), zsetI (zsetJ (zsetJ (zsetI (zsetJ (zsetJ (setM μ2 w) 41 0 (62 + 2 * m) (lI v.1)) 41 0 (62 + 2 * m + 1) (lI v.2)) 40 0 3 (iI ((m + 1 : Nat) : Int))) 41 0 60 (lI w.1)) 41 0 61 (lI w.2)) 40 0 2 (iI ((m + 1 : Nat) : Int))) := by
        intro ν hν40 hν42 hν41
        have hMν : TabM ν t T := by simp only [TabM, hν42] at hM ⊢; exact hM
        obtain ⟨μ2, g1, g2, g3, g4, g5⟩ := s_M_thinkNow (N := N) (μ := ν) (th := thOf μ 0) (by omega) (fun j hj => by rw [hν40]; exact hthM j hj)
        refine ⟨μ2, g3, g5, g4, ?_⟩
        have hM2 := hMν.same g3
        have y1 : μ2.1 40 0 1 = iI t := by rw [g5 _ _ _ (by omega), hν40]; exact hp40
        have y2 : μ2.1 40 0 2 = iI m := by rw [g5 _ _ _ (by omega), hν40]; exact hn3
        have y3 : μ2.1 40 0 3 = iI m := by rw [g5 _ _ _ (by omega), hν40]; exact hn4
        have y60 : μ2.2 41 0 60 = lI v.1 := by rw [g4, hν41]; exact hv60
        have y61 : (zsetJ μ2 12 0 15 (lI v.1)).2 41 0 61 = lI v.2 := by rw [rJ, if_neg (by omega), g4, hν41]; exact hv61
        have hMM : TabM (setM μ2 v) t T := hM2
        have hsetM : zsetJ (zsetJ μ2 12 0 15 (lI v.1)) 12 0 16 (lI v.2) = setM μ2 v := rfl
        simp only [e1, e2, e60, e61, hν40, hp40, hn3, zchk_t z1, zchk_t z2, zchk_t z60, zchk_t z61]
        rw [zif_f (by rw [m1, iI_eq (by omega) (by omega) (by omega) (by omega)]; omega), s_M_ordersOf (by omega) hMν, zbnd_eq, zif_f (by rw [iI_eq (by omega) (by omega) (by omega) (by omega)]; omega), g1, zbnd_eq]
        simp only [zlt_eq, y60, y61, hsetM, show (setM μ2 v).1 40 0 1 = iI t from y1, show (setM μ2 v).1 40 0 2 = iI m from y2]
        rw [s_M_kindOf (by omega) hMM c hnT, zbnd_eq, show (setM μ2 v).1 40 0 1 = iI t from y1, show (setM μ2 v).1 40 0 2 = iI m from y2, s_M_xOf (by omega) hMM c hnT, zbnd_eq, s_M_does (μ := setM μ2 v) (th := thOf μ 0) hN hV setM_0 setM_1 g2 hok hO'.1 hO'.2.1 hO'.2.2.1 (fun q => amt8 (hO'.2.2.2 q))]
        cases ordS (T.2.1 m) (amt (T.2.2.1 m) (thOf μ 0)) v with
        | none => simp only [ansM, zbnd_eq]; rw [zif_t trivial]; rfl
        | some w =>
          simp only [ansM, zbnd_eq, setM_setM]
          have x60 : (setM μ2 w).2 41 0 60 = lI v.1 := by unfold setM; rw [rJ, if_neg (by omega), rJ, if_neg (by omega)]; exact y60
          have x61 : (setM μ2 w).2 41 0 61 = lI v.2 := by unfold setM; rw [rJ, if_neg (by omega), rJ, if_neg (by omega), g4, hν41]; exact hv61
          rw [zif_f (by decide), s_M_keep (μ := setM μ2 w) (s := m) (by omega) y3, zbnd_eq, x60, x61]
          have x15 : (zsetI (zsetJ (zsetJ (setM μ2 w) 41 0 (62 + 2 * m) (lI v.1)) 41 0 (62 + 2 * m + 1) (lI v.2)) 40 0 3 (iI ((m + 1 : Nat) : Int))).2 12 0 15 = lI w.1 := by rw [rIJ, rJ, if_neg (by omega), rJ, if_neg (by omega)]; exact setM_0
          have x16 : (zsetJ (zsetI (zsetJ (zsetJ (setM μ2 w) 41 0 (62 + 2 * m) (lI v.1)) 41 0 (62 + 2 * m + 1) (lI v.2)) 40 0 3 (iI ((m + 1 : Nat) : Int))) 41 0 60 (lI w.1)).2 12 0 16 = lI w.2 := by rw [rJ, if_neg (by omega), rIJ, rJ, if_neg (by omega), rJ, if_neg (by omega)]; exact setM_1
          have x2 : (zsetI (zsetJ (zsetJ (setM μ2 w) 41 0 (62 + 2 * m) (lI v.1)) 41 0 (62 + 2 * m + 1) (lI v.2)) 40 0 3 (iI ((m + 1 : Nat) : Int))).1 40 0 2 = iI m := by rw [rI, if_neg (by omega)]; exact y2
          have eE : iI (m : Int) + (1 : Int32) = iI ((m + 1 : Nat) : Int) := iI_add _ 1
          have eF : iI ((m + 1 : Nat) : Int) - (1 : Int32) = iI (m : Int) := by rw [ilit, iI_sub]; congr 1; omega
          simp only [x15, x16, rJI, x2, eE]
          rw [rI, if_pos ⟨rfl, rfl, rfl⟩, eF]; rfl
      cases h : ordS (T.2.1 m) (amt (T.2.2.1 m) (thOf μ 0)) v with
      | none =>
        obtain ⟨μ2, s1, -, -, hR⟩ := hMgo (setV μ 0 v) (fun _ _ => rfl) (fun _ _ => rfl) (fun x => by unfold setV; rw [rJ, if_neg (by omega), rJ, if_neg (by omega)])
        rw [h] at hR
        simp only [ansV, zbnd_eq]
        exact ⟨-1, setV μ 0 v, setM μ2 v, by rw [zlt_eq, zif_t rfl]; rfl, hR, hI'.same ((Same.rf.setV).tr s1.setM)⟩
      | some w =>
        have hW := ordS_isV hV ha.1 h
        simp only [ansV, zbnd_eq, setV_setV]
        rw [zlt_eq, zif_f (by decide)]
        have hA2 := s_Values_append (N := N) (μ := setV μ 0 w) (w := 3 * 0 + 2) (n := m + 1) (cap := 25) (p := 0) (v := w) hn1 (by omega) rfl rfl (by omega) setV_0 setV_1
        rw [if_pos (by omega)] at hA2
        generalize hν : zsetI (zsetJ (zsetJ (setV μ 0 w) 28 (3 * 0 + 2) (m + 1) (lI w.1)) 29 (3 * 0 + 2) (m + 1) (lI w.2)) 6 (3 * 0 + 2) 2 (iI ((m + 1 + 1 : Nat) : Int)) = ν at hA2
        have n1 : ∀ k i x, ν.1 k i x = if k = 6 ∧ i = 2 ∧ x = 2 then iI ((m + 1 + 1 : Nat) : Int) else μ.1 k i x := by
          intro k i x; rw [← hν]; unfold setV; simp only [rI, rJI]
        have n2 : ∀ k i x, ν.2 k i x = if k = 29 ∧ i = 2 ∧ x = m + 1 then lI w.2 else if k = 28 ∧ i = 2 ∧ x = m + 1 then lI w.1 else if k = 7 ∧ i = 0 ∧ x = 1 then lI w.2 else if k = 7 ∧ i = 0 ∧ x = 0 then lI w.1 else μ.2 k i x := by
          intro k i x; rw [← hν]; unfold setV; simp only [rJ, rIJ]
        obtain ⟨μ2, -, g5, g4, hR⟩ := hMgo ν (fun i x => by rw [n1, if_neg (by omega)]) (fun i x => by rw [n1, if_neg (by omega)]) (fun x => by rw [n2, if_neg (by omega), if_neg (by omega), if_neg (by omega), if_neg (by omega)])
        rw [h] at hR
        refine ⟨_, ν, _, by rw [hA2, zbnd_eq, zif_f (by decide)]; rfl, hR, ?_⟩
        have w1 : ∀ k i x, k ≠ 44 → (zsetI (zsetJ (zsetJ (zsetI (zsetJ (zsetJ (setM μ2 w) 41 0 (62 + 2 * m) (lI v.1)) 41 0 (62 + 2 * m + 1) (lI v.2)) 40 0 3 (iI ((m + 1 : Nat) : Int))) 41 0 60 (lI w.1)) 41 0 61 (lI w.2)) 40 0 2 (iI ((m + 1 : Nat) : Int))).1 k i x = if k = 40 ∧ i = 0 ∧ x = 2 then iI ((m + 1 : Nat) : Int) else if k = 40 ∧ i = 0 ∧ x = 3 then iI ((m + 1 : Nat) : Int) else if k = 6 ∧ i = 2 ∧ x = 2 then iI ((m + 1 + 1 : Nat) : Int) else μ.1 k i x := by
          intro k i x hk
          simp only [rJI, rI]
          rw [show (setM μ2 w).1 k i x = μ2.1 k i x from rfl, g5 k i x hk, n1]
        have w2 : ∀ k i x, (k = 28 ∨ k = 29 ∨ k = 41) → (zsetI (zsetJ (zsetJ (zsetI (zsetJ (zsetJ (setM μ2 w) 41 0 (62 + 2 * m) (lI v.1)) 41 0 (62 + 2 * m + 1) (lI v.2)) 40 0 3 (iI ((m + 1 : Nat) : Int))) 41 0 60 (lI w.1)) 41 0 61 (lI w.2)) 40 0 2 (iI ((m + 1 : Nat) : Int))).2 k i x = if k = 41 ∧ i = 0 ∧ x = 61 then lI w.2 else if k = 41 ∧ i = 0 ∧ x = 60 then lI w.1 else if k = 41 ∧ i = 0 ∧ x = 62 + 2 * m + 1 then lI v.2 else if k = 41 ∧ i = 0 ∧ x = 62 + 2 * m then lI v.1 else if k = 29 ∧ i = 2 ∧ x = m + 1 then lI w.2 else if k = 28 ∧ i = 2 ∧ x = m + 1 then lI w.1 else μ.2 k i x := by
          intro k i x hk
          unfold setM
          simp only [rJ, rIJ]
          rw [g4, n2, if_neg (show ¬ (k = 12 ∧ i = 0 ∧ x = 16) by omega), if_neg (show ¬ (k = 12 ∧ i = 0 ∧ x = 15) by omega), if_neg (show ¬ (k = 7 ∧ i = 0 ∧ x = 1) by omega), if_neg (show ¬ (k = 7 ∧ i = 0 ∧ x = 0) by omega)]
        generalize (zsetI (zsetJ (zsetJ (zsetI (zsetJ (zsetJ (setM μ2 w) 41 0 (62 + 2 * m) (lI v.1)) 41 0 (62 + 2 * m + 1) (lI v.2)) 40 0 3 (iI ((m + 1 : Nat) : Int))) 41 0 60 (lI w.1)) 41 0 61 (lI w.2)) 40 0 2 (iI ((m + 1 : Nat) : Int))) = ω at w1 w2
        have fI : ∀ k i x, k ≠ 44 → ¬ (k = 40 ∧ i = 0 ∧ (x = 2 ∨ x = 3)) → ¬ (k = 6 ∧ i = 2 ∧ x = 2) → ¬ (k = 44) → ω.1 k i x = μ.1 k i x := fun k i x q1 q2 q3 q4 => by
          rw [w1 k i x q1, if_neg (by omega), if_neg (by omega), if_neg (by omega)]
        have fJ : ∀ k i x, (k = 28 ∨ k = 29 ∨ k = 41) → ¬ (k = 41 ∧ i = 0 ∧ (x = 60 ∨ x = 61 ∨ x = 62 + 2 * m ∨ x = 62 + 2 * m + 1)) → ¬ (k = 28 ∧ i = 2 ∧ x = m + 1) → ¬ (k = 29 ∧ i = 2 ∧ x = m + 1) → ω.2 k i x = μ.2 k i x := fun k i x q1 q2 q3 q4 => by
          rw [w2 k i x q1, if_neg (by omega), if_neg (by omega), if_neg (by omega), if_neg (by omega), if_neg (by omega), if_neg (by omega)]
        have ei : (iI ((m + 1 + 1 : Nat) : Int)).toInt = m + 2 := by rw [toI (by omega) (by omega)]; omega
        have o6 : ω.1 6 2 2 = iI ((m + 1 + 1 : Nat) : Int) := by rw [w1 6 2 2 (by omega), if_neg (by omega), if_neg (by omega), if_pos ⟨rfl, rfl, rfl⟩]
        have o402 : ω.1 40 0 2 = iI ((m + 1 : Nat) : Int) := by rw [w1 40 0 2 (by omega), if_pos ⟨rfl, rfl, rfl⟩]
        have o403 : ω.1 40 0 3 = iI ((m + 1 : Nat) : Int) := by rw [w1 40 0 3 (by omega), if_neg (by omega), if_pos ⟨rfl, rfl, rfl⟩]
        have o60 : ω.2 41 0 60 = lI w.1 := by rw [w2 41 0 60 (by omega), if_neg (by omega), if_pos ⟨rfl, rfl, rfl⟩]
        have o61 : ω.2 41 0 61 = lI w.2 := by rw [w2 41 0 61 (by omega), if_pos ⟨rfl, rfl, rfl⟩]
        have o62 : ω.2 41 0 (62 + 2 * m) = lI v.1 := by rw [w2 41 0 _ (by omega), if_neg (by omega), if_neg (by omega), if_neg (by omega), if_pos ⟨rfl, rfl, rfl⟩]
        have o63 : ω.2 41 0 (62 + 2 * m + 1) = lI v.2 := by rw [w2 41 0 _ (by omega), if_neg (by omega), if_neg (by omega), if_pos ⟨rfl, rfl, rfl⟩]
        have o28 : ω.2 28 2 (m + 1) = lI w.1 := by rw [w2 28 2 _ (by omega), if_neg (by omega), if_neg (by omega), if_neg (by omega), if_neg (by omega), if_neg (by omega), if_pos ⟨rfl, rfl, rfl⟩]
        have o29 : ω.2 29 2 (m + 1) = lI w.2 := by rw [w2 29 2 _ (by omega), if_neg (by omega), if_neg (by omega), if_neg (by omega), if_neg (by omega), if_pos ⟨rfl, rfl, rfl⟩]
        have n4 : (μ.1 5 0 0).toInt ≤ 4 := k1.2.2
        refine ⟨ht.congr (by intros; first | exact fI _ _ _ (by omega) (by omega) (by omega) (by omega) | exact fJ _ _ _ (by omega) (by omega) (by omega) (by omega) | exact ⟨fJ _ _ _ (by omega) (by omega) (by omega) (by omega), fJ _ _ _ (by omega) (by omega) (by omega) (by omega)⟩) (by intros; first | exact fI _ _ _ (by omega) (by omega) (by omega) (by omega) | exact fJ _ _ _ (by omega) (by omega) (by omega) (by omega) | exact ⟨fJ _ _ _ (by omega) (by omega) (by omega) (by omega), fJ _ _ _ (by omega) (by omega) (by omega) (by omega)⟩) (by intros; first | exact fI _ _ _ (by omega) (by omega) (by omega) (by omega) | exact fJ _ _ _ (by omega) (by omega) (by omega) (by omega) | exact ⟨fJ _ _ _ (by omega) (by omega) (by omega) (by omega), fJ _ _ _ (by omega) (by omega) (by omega) (by omega)⟩) (by intros; first | exact fI _ _ _ (by omega) (by omega) (by omega) (by omega) | exact fJ _ _ _ (by omega) (by omega) (by omega) (by omega) | exact ⟨fJ _ _ _ (by omega) (by omega) (by omega) (by omega), fJ _ _ _ (by omega) (by omega) (by omega) (by omega)⟩), ⟨by rw [fI 2 0 1 (by omega) (by omega) (by omega) (by omega), fI 12 0 7 (by omega) (by omega) (by omega) (by omega)]; exact hf.1, by rw [fI 2 0 2 (by omega) (by omega) (by omega) (by omega), fI 12 0 8 (by omega) (by omega) (by omega) (by omega)]; exact hf.2⟩, ⟨k1.congr (by intros; first | exact fI _ _ _ (by omega) (by omega) (by omega) (by omega) | exact fJ _ _ _ (by omega) (by omega) (by omega) (by omega) | exact ⟨fJ _ _ _ (by omega) (by omega) (by omega) (by omega), fJ _ _ _ (by omega) (by omega) (by omega) (by omega)⟩) (by intros; first | exact fI _ _ _ (by omega) (by omega) (by omega) (by omega) | exact fJ _ _ _ (by omega) (by omega) (by omega) (by omega) | exact ⟨fJ _ _ _ (by omega) (by omega) (by omega) (by omega), fJ _ _ _ (by omega) (by omega) (by omega) (by omega)⟩), k2.congr (by intros; first | exact fI _ _ _ (by omega) (by omega) (by omega) (by omega) | exact fJ _ _ _ (by omega) (by omega) (by omega) (by omega) | exact ⟨fJ _ _ _ (by omega) (by omega) (by omega) (by omega), fJ _ _ _ (by omega) (by omega) (by omega) (by omega)⟩) (by intros; first | exact fI _ _ _ (by omega) (by omega) (by omega) (by omega) | exact fJ _ _ _ (by omega) (by omega) (by omega) (by omega) | exact ⟨fJ _ _ _ (by omega) (by omega) (by omega) (by omega), fJ _ _ _ (by omega) (by omega) (by omega) (by omega)⟩), k3.congr (by intros; first | exact fI _ _ _ (by omega) (by omega) (by omega) (by omega) | exact fJ _ _ _ (by omega) (by omega) (by omega) (by omega) | exact ⟨fJ _ _ _ (by omega) (by omega) (by omega) (by omega), fJ _ _ _ (by omega) (by omega) (by omega) (by omega)⟩) (by intros; first | exact fI _ _ _ (by omega) (by omega) (by omega) (by omega) | exact fJ _ _ _ (by omega) (by omega) (by omega) (by omega) | exact ⟨fJ _ _ _ (by omega) (by omega) (by omega) (by omega), fJ _ _ _ (by omega) (by omega) (by omega) (by omega)⟩) (by intros; first | exact fI _ _ _ (by omega) (by omega) (by omega) (by omega) | exact fJ _ _ _ (by omega) (by omega) (by omega) (by omega) | exact ⟨fJ _ _ _ (by omega) (by omega) (by omega) (by omega), fJ _ _ _ (by omega) (by omega) (by omega) (by omega)⟩) (by intros; first | exact fI _ _ _ (by omega) (by omega) (by omega) (by omega) | exact fJ _ _ _ (by omega) (by omega) (by omega) (by omega) | exact ⟨fJ _ _ _ (by omega) (by omega) (by omega) (by omega), fJ _ _ _ (by omega) (by omega) (by omega) (by omega)⟩) (by intros; first | exact fI _ _ _ (by omega) (by omega) (by omega) (by omega) | exact fJ _ _ _ (by omega) (by omega) (by omega) (by omega) | exact ⟨fJ _ _ _ (by omega) (by omega) (by omega) (by omega), fJ _ _ _ (by omega) (by omega) (by omega) (by omega)⟩), k4.congr (by intros; first | exact fI _ _ _ (by omega) (by omega) (by omega) (by omega) | exact fJ _ _ _ (by omega) (by omega) (by omega) (by omega) | exact ⟨fJ _ _ _ (by omega) (by omega) (by omega) (by omega), fJ _ _ _ (by omega) (by omega) (by omega) (by omega)⟩) (by intros; first | exact fI _ _ _ (by omega) (by omega) (by omega) (by omega) | exact fJ _ _ _ (by omega) (by omega) (by omega) (by omega) | exact ⟨fJ _ _ _ (by omega) (by omega) (by omega) (by omega), fJ _ _ _ (by omega) (by omega) (by omega) (by omega)⟩) (by intros; first | exact fI _ _ _ (by omega) (by omega) (by omega) (by omega) | exact fJ _ _ _ (by omega) (by omega) (by omega) (by omega) | exact ⟨fJ _ _ _ (by omega) (by omega) (by omega) (by omega), fJ _ _ _ (by omega) (by omega) (by omega) (by omega)⟩) (by intros; first | exact fI _ _ _ (by omega) (by omega) (by omega) (by omega) | exact fJ _ _ _ (by omega) (by omega) (by omega) (by omega) | exact ⟨fJ _ _ _ (by omega) (by omega) (by omega) (by omega), fJ _ _ _ (by omega) (by omega) (by omega) (by omega)⟩) (by intros; first | exact fI _ _ _ (by omega) (by omega) (by omega) (by omega) | exact fJ _ _ _ (by omega) (by omega) (by omega) (by omega) | exact ⟨fJ _ _ _ (by omega) (by omega) (by omega) (by omega), fJ _ _ _ (by omega) (by omega) (by omega) (by omega)⟩), k5.congr (by intros; first | exact fI _ _ _ (by omega) (by omega) (by omega) (by omega) | exact fJ _ _ _ (by omega) (by omega) (by omega) (by omega) | exact ⟨fJ _ _ _ (by omega) (by omega) (by omega) (by omega), fJ _ _ _ (by omega) (by omega) (by omega) (by omega)⟩) (by intros; first | exact fI _ _ _ (by omega) (by omega) (by omega) (by omega) | exact fJ _ _ _ (by omega) (by omega) (by omega) (by omega) | exact ⟨fJ _ _ _ (by omega) (by omega) (by omega) (by omega), fJ _ _ _ (by omega) (by omega) (by omega) (by omega)⟩) (by intros; first | exact fI _ _ _ (by omega) (by omega) (by omega) (by omega) | exact fJ _ _ _ (by omega) (by omega) (by omega) (by omega) | exact ⟨fJ _ _ _ (by omega) (by omega) (by omega) (by omega), fJ _ _ _ (by omega) (by omega) (by omega) (by omega)⟩) (by intros; first | exact fI _ _ _ (by omega) (by omega) (by omega) (by omega) | exact fJ _ _ _ (by omega) (by omega) (by omega) (by omega) | exact ⟨fJ _ _ _ (by omega) (by omega) (by omega) (by omega), fJ _ _ _ (by omega) (by omega) (by omega) (by omega)⟩) (by intros; first | exact fI _ _ _ (by omega) (by omega) (by omega) (by omega) | exact fJ _ _ _ (by omega) (by omega) (by omega) (by omega) | exact ⟨fJ _ _ _ (by omega) (by omega) (by omega) (by omega), fJ _ _ _ (by omega) (by omega) (by omega) (by omega)⟩), k6.congr (by intros; first | exact fI _ _ _ (by omega) (by omega) (by omega) (by omega) | exact fJ _ _ _ (by omega) (by omega) (by omega) (by omega) | exact ⟨fJ _ _ _ (by omega) (by omega) (by omega) (by omega), fJ _ _ _ (by omega) (by omega) (by omega) (by omega)⟩) (by intros; first | exact fI _ _ _ (by omega) (by omega) (by omega) (by omega) | exact fJ _ _ _ (by omega) (by omega) (by omega) (by omega) | exact ⟨fJ _ _ _ (by omega) (by omega) (by omega) (by omega), fJ _ _ _ (by omega) (by omega) (by omega) (by omega)⟩) (by intros; first | exact fI _ _ _ (by omega) (by omega) (by omega) (by omega) | exact fJ _ _ _ (by omega) (by omega) (by omega) (by omega) | exact ⟨fJ _ _ _ (by omega) (by omega) (by omega) (by omega), fJ _ _ _ (by omega) (by omega) (by omega) (by omega)⟩) (by intros; first | exact fI _ _ _ (by omega) (by omega) (by omega) (by omega) | exact fJ _ _ _ (by omega) (by omega) (by omega) (by omega) | exact ⟨fJ _ _ _ (by omega) (by omega) (by omega) (by omega), fJ _ _ _ (by omega) (by omega) (by omega) (by omega)⟩), ?_⟩, h1.congr (by intros; first | exact fI _ _ _ (by omega) (by omega) (by omega) (by omega) | exact fJ _ _ _ (by omega) (by omega) (by omega) (by omega) | exact ⟨fJ _ _ _ (by omega) (by omega) (by omega) (by omega), fJ _ _ _ (by omega) (by omega) (by omega) (by omega)⟩) (by intros; first | exact fI _ _ _ (by omega) (by omega) (by omega) (by omega) | exact fJ _ _ _ (by omega) (by omega) (by omega) (by omega) | exact ⟨fJ _ _ _ (by omega) (by omega) (by omega) (by omega), fJ _ _ _ (by omega) (by omega) (by omega) (by omega)⟩) (by intros; first | exact fI _ _ _ (by omega) (by omega) (by omega) (by omega) | exact fJ _ _ _ (by omega) (by omega) (by omega) (by omega) | exact ⟨fJ _ _ _ (by omega) (by omega) (by omega) (by omega), fJ _ _ _ (by omega) (by omega) (by omega) (by omega)⟩) (by intros; first | exact fI _ _ _ (by omega) (by omega) (by omega) (by omega) | exact fJ _ _ _ (by omega) (by omega) (by omega) (by omega) | exact ⟨fJ _ _ _ (by omega) (by omega) (by omega) (by omega), fJ _ _ _ (by omega) (by omega) (by omega) (by omega)⟩) (by intros; first | exact fI _ _ _ (by omega) (by omega) (by omega) (by omega) | exact fJ _ _ _ (by omega) (by omega) (by omega) (by omega) | exact ⟨fJ _ _ _ (by omega) (by omega) (by omega) (by omega), fJ _ _ _ (by omega) (by omega) (by omega) (by omega)⟩) (by intros; first | exact fI _ _ _ (by omega) (by omega) (by omega) (by omega) | exact fJ _ _ _ (by omega) (by omega) (by omega) (by omega) | exact ⟨fJ _ _ _ (by omega) (by omega) (by omega) (by omega), fJ _ _ _ (by omega) (by omega) (by omega) (by omega)⟩) (by intros; first | exact fI _ _ _ (by omega) (by omega) (by omega) (by omega) | exact fJ _ _ _ (by omega) (by omega) (by omega) (by omega) | exact ⟨fJ _ _ _ (by omega) (by omega) (by omega) (by omega), fJ _ _ _ (by omega) (by omega) (by omega) (by omega)⟩) (by intros; first | exact fI _ _ _ (by omega) (by omega) (by omega) (by omega) | exact fJ _ _ _ (by omega) (by omega) (by omega) (by omega) | exact ⟨fJ _ _ _ (by omega) (by omega) (by omega) (by omega), fJ _ _ _ (by omega) (by omega) (by omega) (by omega)⟩) (by intros; first | exact fI _ _ _ (by omega) (by omega) (by omega) (by omega) | exact fJ _ _ _ (by omega) (by omega) (by omega) (by omega) | exact ⟨fJ _ _ _ (by omega) (by omega) (by omega) (by omega), fJ _ _ _ (by omega) (by omega) (by omega) (by omega)⟩) (by intros; first | exact fI _ _ _ (by omega) (by omega) (by omega) (by omega) | exact fJ _ _ _ (by omega) (by omega) (by omega) (by omega) | exact ⟨fJ _ _ _ (by omega) (by omega) (by omega) (by omega), fJ _ _ _ (by omega) (by omega) (by omega) (by omega)⟩) (by intros; first | exact fI _ _ _ (by omega) (by omega) (by omega) (by omega) | exact fJ _ _ _ (by omega) (by omega) (by omega) (by omega) | exact ⟨fJ _ _ _ (by omega) (by omega) (by omega) (by omega), fJ _ _ _ (by omega) (by omega) (by omega) (by omega)⟩) (by intros; first | exact fI _ _ _ (by omega) (by omega) (by omega) (by omega) | exact fJ _ _ _ (by omega) (by omega) (by omega) (by omega) | exact ⟨fJ _ _ _ (by omega) (by omega) (by omega) (by omega), fJ _ _ _ (by omega) (by omega) (by omega) (by omega)⟩), by rw [fI 5 1 0 (by omega) (by omega) (by omega) (by omega), fI 5 0 0 (by omega) (by omega) (by omega) (by omega)]; exact hle, htb.congr (by intros; first | exact fI _ _ _ (by omega) (by omega) (by omega) (by omega) | exact fJ _ _ _ (by omega) (by omega) (by omega) (by omega) | exact ⟨fJ _ _ _ (by omega) (by omega) (by omega) (by omega), fJ _ _ _ (by omega) (by omega) (by omega) (by omega)⟩) (by intros; first | exact fI _ _ _ (by omega) (by omega) (by omega) (by omega) | exact fJ _ _ _ (by omega) (by omega) (by omega) (by omega) | exact ⟨fJ _ _ _ (by omega) (by omega) (by omega) (by omega), fJ _ _ _ (by omega) (by omega) (by omega) (by omega)⟩) (by intros; first | exact fI _ _ _ (by omega) (by omega) (by omega) (by omega) | exact fJ _ _ _ (by omega) (by omega) (by omega) (by omega) | exact ⟨fJ _ _ _ (by omega) (by omega) (by omega) (by omega), fJ _ _ _ (by omega) (by omega) (by omega) (by omega)⟩) (by intros; first | exact fI _ _ _ (by omega) (by omega) (by omega) (by omega) | exact fJ _ _ _ (by omega) (by omega) (by omega) (by omega) | exact ⟨fJ _ _ _ (by omega) (by omega) (by omega) (by omega), fJ _ _ _ (by omega) (by omega) (by omega) (by omega)⟩) (by intros; first | exact fI _ _ _ (by omega) (by omega) (by omega) (by omega) | exact fJ _ _ _ (by omega) (by omega) (by omega) (by omega) | exact ⟨fJ _ _ _ (by omega) (by omega) (by omega) (by omega), fJ _ _ _ (by omega) (by omega) (by omega) (by omega)⟩) (by intros; first | exact fI _ _ _ (by omega) (by omega) (by omega) (by omega) | exact fJ _ _ _ (by omega) (by omega) (by omega) (by omega) | exact ⟨fJ _ _ _ (by omega) (by omega) (by omega) (by omega), fJ _ _ _ (by omega) (by omega) (by omega) (by omega)⟩) (by intros; first | exact fI _ _ _ (by omega) (by omega) (by omega) (by omega) | exact fJ _ _ _ (by omega) (by omega) (by omega) (by omega) | exact ⟨fJ _ _ _ (by omega) (by omega) (by omega) (by omega), fJ _ _ _ (by omega) (by omega) (by omega) (by omega)⟩) k1.2.2⟩
        have p5 : ω.1 5 0 7 = iI t := by rw [fI 5 0 7 (by omega) (by omega) (by omega) (by omega)]; exact ht1
        have et : (iI (t : Int)).toInt = t := toI (by omega) (by omega)
        refine ⟨by rw [p5, fI 40 0 1 (by omega) (by omega) (by omega) (by omega)]; exact hp40.symm, by show 0 ≤ (ω.1 6 2 2).toInt; rw [o6, ei]; omega, by show (ω.1 6 2 2).toInt ≤ 25; rw [o6, ei]; omega, Or.inr ⟨by show 1 ≤ (ω.1 6 2 2).toInt; rw [o6, ei]; omega, by rw [p5, et]; omega, by rw [p5, et, fI 5 0 0 (by omega) (by omega) (by omega) (by omega)]; exact htn, ?_, by show ω.1 40 0 2 = iI ((ω.1 6 2 2).toInt - 1); rw [o6, ei, o402]; congr 1; omega, by show ω.1 40 0 3 = iI ((ω.1 6 2 2).toInt - 1); rw [o6, ei, o403]; congr 1; omega, fun j hj => ?_, fun j hj => ?_, fun j hj => ?_⟩⟩
        · show (ω.1 6 2 2).toInt - 1 ≤ _
          rw [o6, ei, p5, et, Int.toNat_natCast, fI 4 t 2 (by omega) (by omega) (by omega) (by omega), ← hcT]; omega
        · have hj' : (j : Int) < (ω.1 6 2 2).toInt := hj
          rw [o6, ei] at hj'
          show isV ((ω.2 28 2 j).toInt, (ω.2 29 2 j).toInt)
          by_cases q : j = m + 1
          · subst q
            have q1 := hW.1
            have q2 := hW.2.1
            have q3 := hW.2.2.1
            have q4 := hW.2.2.2.1
            rw [o28, o29, lI_toInt (by omega) (by omega), lI_toInt (by omega) (by omega)]; exact hW
          · rw [fJ 28 2 j (by omega) (by omega) (by omega) (by omega), fJ 29 2 j (by omega) (by omega) (by omega) (by omega)]
            exact b7 j (by omega)
        · have hj' : (j : Int) + 1 < (ω.1 6 2 2).toInt := hj
          rw [o6, ei] at hj'
          show ω.2 41 0 (62 + 2 * j) = ω.2 28 2 j ∧ ω.2 41 0 (62 + 2 * j + 1) = ω.2 29 2 j
          rw [fJ 28 2 j (by omega) (by omega) (by omega) (by omega), fJ 29 2 j (by omega) (by omega) (by omega) (by omega)]
          by_cases q : j = m
          · subst q
            rw [o62, o63, hv]
            exact ⟨(lI_of _).symm, (lI_of _).symm⟩
          · rw [fJ 41 0 _ (by omega) (by omega) (by omega) (by omega), fJ 41 0 _ (by omega) (by omega) (by omega) (by omega)]
            exact b8 j (by omega)
        · have hj' : (j : Int) + 1 = (ω.1 6 2 2).toInt := hj
          rw [o6, ei] at hj'
          have : j = m + 1 := by omega
          subst this
          exact ⟨by rw [o60]; exact o28.symm, by rw [o61]; exact o29.symm⟩
    · refine ⟨-1, μ, μ, by rw [if_neg (by omega), zif_t rfl]; rfl, ?_, hI'⟩
      simp only [zchk_t z1, zchk_t z2, e1, e2, hp40, hn3]
      rw [zif_f (by rw [m1, iI_eq (by omega) (by omega) (by omega) (by omega)]; omega), s_M_ordersOf (by omega) hM, zbnd_eq, zif_t (by rw [show m = T.1 by omega])]; rfl
