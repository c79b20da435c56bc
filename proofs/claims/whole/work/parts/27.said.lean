/-! what is said; what is judged -/
theorem lcmp_eqv (a b : Int64) : (lg_cmp a b = 0) = (a = b) := by
  have ha := Int64.le_toInt a
  have ha' := Int64.toInt_lt a
  have hb := Int64.le_toInt b
  have hb' := Int64.toInt_lt b
  have h := lcmp_eq (a := a.toInt) (b := b.toInt) (by omega) (by omega) (by omega) (by omega)
  rw [← lI_of a, ← lI_of b] at h
  rw [h, Int64.toInt_inj]
def sdS (kd xs th : Nat → Int) (p : Int) : Nat → Nat → Nat → Int × Int → Bool × (Int × Int)
  | 0, _, _, v => (false, v)
  | f + 1, c, i, v => match ordS (kd i) (amt (xs i) th) v with
    | none => (false, v)
    | some w => if kd i = 9 then (if (c : Int) = p then (true, w) else sdS kd xs th p f (c + 1) (i + 1) w) else sdS kd xs th p f c (i + 1) w
theorem said_a {N : Nat} {μ : ZMem} {t : Nat} {T : Tb} {th : Nat → Int} {p : Int} {p2 : Int32} {kx : ZMem → Option (Int64 × ZMem)} (hp0 : 0 ≤ p) (hp : p < 2147483648) (hN : 130 ≤ N) (htl : t < 4) (hC : TabC μ t T) (hO : TabOk T) (ht : thC μ 0 th) (hth : okT th) :
    ∀ (f c i fuel : Nat) (w : Int × Int), i + f = T.1 → c ≤ i → f < fuel → isV w → f_A_said_l42 N (iI p) p2 t kx fuel (iI c) (iI i) (setV μ 0 w) = if (sdS T.2.1 T.2.2.1 th p f c i w).1 then kx (setV μ 0 (sdS T.2.1 T.2.2.1 th p f c i w).2) else some (-10000000000000, setV μ 0 (sdS T.2.1 T.2.2.1 th p f c i w).2)
  | 0, c, i, fuel, w, hi, hci, hf, hw => by
    obtain ⟨q, rfl⟩ : ∃ q, fuel = q + 1 := ⟨fuel - 1, by omega⟩
    have hn := hO.1
    have hc : (setV μ 0 w).1 4 t 2 = iI T.1 := hC.1.1
    simp only [f_A_said_l42, hc]
    rw [zif_t (by rw [iI_le (by omega) (by omega) (by omega) (by omega)]; omega)]
    rfl
  | f + 1, c, i, fuel, w, hi, hci, hf, hw => by
    obtain ⟨q, rfl⟩ : ∃ q, fuel = q + 1 := ⟨fuel - 1, by omega⟩
    have hn := hO.1
    have hl : zlen 22 t = 24 := by rw [len22, if_pos htl]
    have hl3 : zlen 23 t = zlen 22 t := rfl
    have hi' := hO.2.1 i (by omega)
    have hc := hC.1.2 i (by omega)
    have ha := amt_rng hi'.2.2.1 hth
    have hcn : (setV μ 0 w).1 4 t 2 = iI T.1 := hC.1.1
    simp only [f_A_said_l42, hcn]
    have hk : (setV μ 0 w).1 22 t i = iI (T.2.1 i) := hc.1
    rw [zif_f (by rw [iI_le (by omega) (by omega) (by omega) (by omega)]; omega), zchk_t (zin_iI (by omega) (by omega) (by omega)), zlt_eq, s_Orders_amount (μ := setV μ 0 w) (x := T.2.2.1 i) (th := th) hi'.2.2.1 hc.2 ht (by omega), zbnd_eq, cl_nat (by omega), hk, s_Value_obey hN hw setV_0 setV_1 hi'.1 hi'.2.1 ha.1 ha.2 (fun q => amt8 (hi'.2.2.2 q))]
    unfold sdS
    cases h : ordS (T.2.1 i) (amt (T.2.2.1 i) th) w with
    | none =>
      simp only [ansV, zbnd_eq]
      rw [zif_t trivial]; rfl
    | some w2 =>
      have hw2 := ordS_isV hw ha.1 h
      have e : iI (i : Int) + (1 : Int32) = iI ((i + 1 : Nat) : Int) := by rw [ilit, iI_add]; congr 1
      have e' : iI (c : Int) + (1 : Int32) = iI ((c + 1 : Nat) : Int) := by rw [ilit, iI_add]; congr 1
      simp only [ansV, zbnd_eq, zlt_eq, setV_setV, e, e']
      rw [zif_f (by decide)]
      by_cases c9 : T.2.1 i = 9
      · rw [zif_t (by rw [ilit, iI_eq (by omega) (by omega) (by omega) (by omega)]; omega), if_pos c9]
        by_cases cp : (c : Int) = p
        · rw [zif_t (by rw [cp]), if_pos cp]; rfl
        · rw [zif_f (by rw [iI_eq (by omega) (by omega) (by omega) (by omega)]; omega), if_neg cp]
          exact said_a hp0 hp hN htl hC hO ht hth f (c + 1) (i + 1) q w2 (by omega) (by omega) (by omega) hw2
      · rw [zif_f (by rw [ilit, iI_eq (by omega) (by omega) (by omega) (by omega)]; omega), if_neg c9]
        exact said_a hp0 hp hN htl hC hO ht hth f c (i + 1) q w2 (by omega) (by omega) (by omega) hw2
theorem said_m {N : Nat} {μ : ZMem} {t : Nat} {T : Tb} {th : Nat → Int} {p : Int} {p2 : Int32} {kx : ZMem → Option (Int64 × ZMem)} (hp0 : 0 ≤ p) (hp : p < 2147483648) (hN : 130 ≤ N) (htl : t < 4) (hM : TabM μ t T) (hO : TabOk T) (ht : thM μ th) (hth : okT th) :
    ∀ (f c i fuel : Nat) (w : Int × Int), i + f = T.1 → c ≤ i → f < fuel → isV w → f_M_said_l31 N (iI t) (iI p) p2 kx fuel (iI c) (iI i) (setM μ w) = if (sdS T.2.1 T.2.2.1 th p f c i w).1 then kx (setM μ (sdS T.2.1 T.2.2.1 th p f c i w).2) else some (-10000000000000, setM μ (sdS T.2.1 T.2.2.1 th p f c i w).2)
  | 0, c, i, fuel, w, hi, hci, hf, hw => by
    obtain ⟨q, rfl⟩ : ∃ q, fuel = q + 1 := ⟨fuel - 1, by omega⟩
    have hn := hO.1
    have hM' : TabM (setM μ w) t T := hM
    simp only [f_M_said_l31]
    rw [s_M_ordersOf htl hM', zbnd_eq, zif_t (by rw [iI_le (by omega) (by omega) (by omega) (by omega)]; omega)]
    rfl
  | f + 1, c, i, fuel, w, hi, hci, hf, hw => by
    obtain ⟨q, rfl⟩ : ∃ q, fuel = q + 1 := ⟨fuel - 1, by omega⟩
    have hn := hO.1
    have hi' := hO.2.1 i (by omega)
    have ha := amt_rng hi'.2.2.1 hth
    have hM' : TabM (setM μ w) t T := hM
    simp only [f_M_said_l31]
    rw [s_M_ordersOf htl hM', zbnd_eq, zif_f (by rw [iI_le (by omega) (by omega) (by omega) (by omega)]; omega), s_M_kindOf htl hM' (by omega) hn, zbnd_eq, s_M_xOf htl hM' (by omega) hn, zbnd_eq, s_M_does (μ := setM μ w) (th := th) hN hw setM_0 setM_1 ht hth hi'.1 hi'.2.1 hi'.2.2.1 (fun q => amt8 (hi'.2.2.2 q))]
    unfold sdS
    cases h : ordS (T.2.1 i) (amt (T.2.2.1 i) th) w with
    | none =>
      simp only [ansM, zbnd_eq]
      rw [zif_t trivial]; rfl
    | some w2 =>
      have hw2 := ordS_isV hw ha.1 h
      have e : iI (i : Int) + (1 : Int32) = iI ((i + 1 : Nat) : Int) := by rw [ilit, iI_add]; congr 1
      have e' : iI (c : Int) + (1 : Int32) = iI ((c + 1 : Nat) : Int) := by rw [ilit, iI_add]; congr 1
      have hM2 : TabM (setM μ w2) t T := hM
      simp only [ansM, zbnd_eq, zlt_eq, setM_setM, e, e']
      rw [zif_f (by decide), s_M_kindOf htl hM2 (by omega) hn, zbnd_eq]
      by_cases c9 : T.2.1 i = 9
      · rw [zif_t (by rw [ilit, iI_eq (by omega) (by omega) (by omega) (by omega)]; omega), if_pos c9]
        by_cases cp : (c : Int) = p
        · rw [zif_t (by rw [cp]), if_pos cp]; rfl
        · rw [zif_f (by rw [iI_eq (by omega) (by omega) (by omega) (by omega)]; omega), if_neg cp]
          exact said_m hp0 hp hN htl hM hO ht hth f (c + 1) (i + 1) q w2 (by omega) (by omega) (by omega) hw2
      · rw [zif_f (by rw [ilit, iI_eq (by omega) (by omega) (by omega) (by omega)]; omega), if_neg c9]
        exact said_m hp0 hp hN htl hM hO ht hth f c (i + 1) q w2 (by omega) (by omega) (by omega) hw2
theorem ag_said (N : Nat) (hN : 130 ≤ N) (p0 p1 p2 : Int32) : Agree (fun μ => f_A_said N μ p0 p1 p2) (fun μ => f_M_said N μ p0 p1 p2) := by
  refine Agree.same (fun μ hI => ?_)
  unfold f_A_said f_M_said
  rcases tab_split hI N p0 with ⟨h1, h2⟩ | ⟨t, ht, rfl, htn, h1, h2⟩
  · exact ⟨_, μ, μ, by simp only [h1, zbrf_n]; rfl, by simp only [h2 μ Same.rf, zbnd_eq]; rfl, Same.rf, Same.rf⟩
  · obtain ⟨hC, hM, hO⟩ := hI.tab htn
    obtain ⟨hth, hok, hthM⟩ := hI.th
    have hn := hO.1
    obtain ⟨p, hp1, hp2, rfl⟩ := iI_ex p1
    generalize hT : tabOf μ t = T at hC hM hO hn
    by_cases c : 0 ≤ p
    · have hA := said_a (N := N) (p2 := p2) (kx := fun (μ20 : ZMem) => zbnd (f_Value_part N μ20 0 p2) (fun (r22 : Int64) (μ21 : ZMem) => zret r22 μ21)) c hp2 hN ht hC hO hth hok T.1 0 0 N (bg T (thOf μ 0), 1) (by omega) (by omega) (by omega) (bg_isV hok)
      generalize hR : sdS T.2.1 T.2.2.1 (thOf μ 0) p T.1 0 0 (bg T (thOf μ 0), 1) = R at hA
      have s1 : Same μ (setV μ 0 R.2) := Same.rf.setV
      obtain ⟨μ2, g1, g2, g3, g4, g5⟩ := s_M_thinkNow (N := N) (μ := setV μ 0 R.2) (th := thOf μ 0) (by omega) hthM
      have hM2 := (hM.same s1).same g3
      have hB := said_m (N := N) (p2 := p2) (kx := fun (μ25 : ZMem) => zif (p2 = 0) (zret (μ25.2 12 0 15) μ25) (zret (μ25.2 12 0 16) μ25)) c hp2 hN ht hM2 hO g2 hok T.1 0 0 N (bg T (thOf μ 0), 1) (by omega) (by omega) (by omega) (bg_isV hok)
      rw [hR] at hB
      have h0 : (0 : Int32) ≤ iI p := by rw [zi0, iI_le (by omega) (by omega) (by omega) (by omega)]; exact c
      refine ⟨if R.1 then (if p2 = 0 then lI R.2.1 else lI R.2.2) else -10000000000000, setV μ 0 R.2, setM μ2 R.2, ?_, ?_, s1, g3.setM⟩
      · simp only [h1, zbrf_s]
        rw [zchk_t ht, zif_t h0, zlt_eq, s_Table_begin hC hO hth hok, zbnd_eq, zlt_eq]
        refine hA.trans ?_
        cases R.1 with
        | false => rfl
        | true =>
          simp only [if_true]
          rw [s_Value_part setV_0 setV_1, zbnd_eq]; rfl
      · simp only [h2 _ s1, zbnd_eq]
        rw [zif_f (by decide), zif_t h0, g1, zbnd_eq, s_M_begin ht hM2 g2 hok, zbnd_eq, zlt_eq, zlt_eq]
        refine hB.trans ?_
        cases R.1 with
        | false => rfl
        | true =>
          simp only [if_true, setM_0, setM_1]
          by_cases c5 : p2 = 0
          · rw [zif_t c5, if_pos c5]; rfl
          · rw [zif_f c5, if_neg c5]; rfl
    · have h0 : ¬ (0 : Int32) ≤ iI p := by rw [zi0, iI_le (by omega) (by omega) (by omega) (by omega)]; exact c
      refine ⟨-10000000000000, μ, μ, ?_, ?_, Same.rf, Same.rf⟩
      · simp only [h1, zbrf_s]
        rw [zchk_t ht, zif_f h0]; rfl
      · simp only [h2 μ Same.rf, zbnd_eq]
        rw [zif_f (by decide), zif_f h0]; rfl
