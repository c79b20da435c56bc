/-! what is judged -/
def jdS (kd xs th : Nat → Int) (ln ld : Nat → Int64) : Nat → Nat → Int × Int → Int × (Int × Int)
  | 0, _, v => (-1, v)
  | f + 1, i, v => match ordS (kd i) (amt (xs i) th) v with
    | none => (i, v)
    | some w => if lI w.1 = ln i ∧ lI w.2 = ld i then jdS kd xs th ln ld f (i + 1) w else (i, w)
theorem judge_a {N : Nat} {μ : ZMem} {t m : Nat} {T : Tb} {th : Nat → Int} {ln ld : Nat → Int64} (hN : 130 ≤ N) (htl : t < 4) (hC : TabC μ t T) (hO : TabOk T) (ht : thC μ 0 th) (hth : okT th) (hm : m ≤ 24) (hmc : μ.1 6 0 2 = iI m) (hL : ∀ j, j < m → μ.2 28 0 j = ln j ∧ μ.2 29 0 j = ld j) {b : Nat} (hb : b ≤ T.1) (hb2 : b ≤ m) :
    ∀ (f i fuel : Nat) (w : Int × Int), i + f = b → f < fuel → isV w → f_A_judge_l52 N t (iI b) fuel (iI i) (setV μ 0 w) = some (iI (jdS T.2.1 T.2.2.1 th ln ld f i w).1, setV μ 0 (jdS T.2.1 T.2.2.1 th ln ld f i w).2)
  | 0, i, fuel, w, hi, hf, hw => by
    obtain ⟨q, rfl⟩ : ∃ q, fuel = q + 1 := ⟨fuel - 1, by omega⟩
    simp only [f_A_judge_l52]
    rw [zif_t (by rw [iI_le (by omega) (by omega) (by omega) (by omega)]; omega)]
    rfl
  | f + 1, i, fuel, w, hi, hf, hw => by
    obtain ⟨q, rfl⟩ : ∃ q, fuel = q + 1 := ⟨fuel - 1, by omega⟩
    have hn := hO.1
    have hl : zlen 22 t = 24 := by rw [len22, if_pos htl]
    have hl3 : zlen 23 t = zlen 22 t := rfl
    have hi' := hO.2.1 i (by omega)
    have hc := hC.1.2 i (by omega)
    have ha := amt_rng hi'.2.2.1 hth
    simp only [f_A_judge_l52]
    have hk : (setV μ 0 w).1 22 t i = iI (T.2.1 i) := hc.1
    rw [zif_f (by rw [iI_le (by omega) (by omega) (by omega) (by omega)]; omega), zchk_t (zin_iI (by omega) (by omega) (by omega)), s_Orders_amount (μ := setV μ 0 w) (x := T.2.2.1 i) (th := th) hi'.2.2.1 hc.2 ht (by omega), zbnd_eq, cl_nat (by omega), hk, s_Value_obey hN hw setV_0 setV_1 hi'.1 hi'.2.1 ha.1 ha.2 (fun q => amt8 (hi'.2.2.2 q))]
    unfold jdS
    cases h : ordS (T.2.1 i) (amt (T.2.2.1 i) th) w with
    | none =>
      simp only [ansV, zbnd_eq, zlt_eq]
      rw [zif_t trivial]; rfl
    | some w2 =>
      have hw2 := ordS_isV hw ha.1 h
      have e : iI (i : Int) + (1 : Int32) = iI ((i + 1 : Nat) : Int) := by rw [ilit, iI_add]; congr 1
      have hH : f_Values_holds N (setV μ 0 w2) 0 (iI i) 0 = some (if lI w2.1 = ln i ∧ lI w2.2 = ld i then 1 else 0, setV μ 0 w2) := by
        unfold f_Values_holds f_Value_is
        have q1 : (setV μ 0 w2).1 6 0 2 = iI m := hmc
        have q2 : (setV μ 0 w2).2 28 0 i = ln i := by unfold setV; simp only [rJ]; exact (hL i (by omega)).1
        have q3 : (setV μ 0 w2).2 29 0 i = ld i := by unfold setV; simp only [rJ]; exact (hL i (by omega)).2
        rw [zif_f (by rw [zi0, iI_lt (by omega) (by omega) (by omega) (by omega)]; omega), q1, zif_f (by rw [iI_le (by omega) (by omega) (by omega) (by omega)]; omega), zchk_t (zin_k 24 rfl (by omega) (by omega) (by omega)), zchk_t (zin_k 24 rfl (by omega) (by omega) (by omega)), cl_nat (by omega), q2, q3, setV_0, setV_1]
        by_cases d1 : lI w2.1 = ln i
        · rw [zif_t (by rw [lcmp_eqv]; exact d1)]
          by_cases d2 : lI w2.2 = ld i
          · rw [zif_t (by rw [lcmp_eqv]; exact d2), if_pos ⟨d1, d2⟩]; rfl
          · rw [zif_f (by rw [lcmp_eqv]; exact d2), if_neg (fun q => d2 q.2)]; rfl
        · rw [zif_f (by rw [lcmp_eqv]; exact d1), if_neg (fun q => d1 q.1)]; rfl
      simp only [ansV, zbnd_eq, zlt_eq, setV_setV, e, hH, Nat.mul_zero]
      rw [zif_f (by decide)]
      by_cases c9 : lI w2.1 = ln i ∧ lI w2.2 = ld i
      · rw [if_pos c9, if_pos c9, zif_f (by decide)]
        exact judge_a hN htl hC hO ht hth hm hmc hL hb hb2 f (i + 1) q w2 (by omega) (by omega) hw2
      · rw [if_neg c9, if_neg c9, zif_t rfl]; rfl
theorem judge_m {N : Nat} {μ : ZMem} {t m : Nat} {T : Tb} {th : Nat → Int} {ln ld : Nat → Int64} (hN : 130 ≤ N) (htl : t < 4) (hM : TabM μ t T) (hO : TabOk T) (ht : thM μ th) (hth : okT th) (hm : m ≤ 24) (hmc : μ.1 40 0 4 = iI m) (hL : ∀ j, j < m → μ.2 41 0 (2 * j) = ln j ∧ μ.2 41 0 (2 * j + 1) = ld j) {b : Nat} (hb : b = min T.1 m) :
    ∀ (f i fuel : Nat) (w : Int × Int), i + f = b → f < fuel → isV w → f_M_judge_l22 N (iI t) fuel (iI i) (setM μ w) = some (iI (jdS T.2.1 T.2.2.1 th ln ld f i w).1, setM μ (jdS T.2.1 T.2.2.1 th ln ld f i w).2)
  | 0, i, fuel, w, hi, hf, hw => by
    obtain ⟨q, rfl⟩ : ∃ q, fuel = q + 1 := ⟨fuel - 1, by omega⟩
    have hn := hO.1
    have hM' : TabM (setM μ w) t T := hM
    have q1 : (setM μ w).1 40 0 (4 : Int32).toNatClampNeg = iI m := hmc
    simp only [f_M_judge_l22]
    rw [s_M_ordersOf htl hM', zbnd_eq]
    by_cases c : T.1 ≤ i
    · rw [zif_t (by rw [iI_le (by omega) (by omega) (by omega) (by omega)]; omega)]
      rfl
    · rw [zif_f (by rw [iI_le (by omega) (by omega) (by omega) (by omega)]; omega), zchk_t (by exact zin_k (z := 4) 30 rfl (by omega) (by omega) (by omega)), q1, zif_t (by rw [iI_le (by omega) (by omega) (by omega) (by omega)]; omega)]
      rfl
  | f + 1, i, fuel, w, hi, hf, hw => by
    obtain ⟨q, rfl⟩ : ∃ q, fuel = q + 1 := ⟨fuel - 1, by omega⟩
    have hn := hO.1
    have hi' := hO.2.1 i (by omega)
    have ha := amt_rng hi'.2.2.1 hth
    have hM' : TabM (setM μ w) t T := hM
    have q1 : (setM μ w).1 40 0 (4 : Int32).toNatClampNeg = iI m := hmc
    simp only [f_M_judge_l22]
    rw [s_M_ordersOf htl hM', zbnd_eq, zif_f (by rw [iI_le (by omega) (by omega) (by omega) (by omega)]; omega), zchk_t (by exact zin_k (z := 4) 30 rfl (by omega) (by omega) (by omega)), q1, zif_f (by rw [iI_le (by omega) (by omega) (by omega) (by omega)]; omega), s_M_kindOf htl hM' (by omega) hn, zbnd_eq, s_M_xOf htl hM' (by omega) hn, zbnd_eq, s_M_does (μ := setM μ w) (th := th) hN hw setM_0 setM_1 ht hth hi'.1 hi'.2.1 hi'.2.2.1 (fun q => amt8 (hi'.2.2.2 q))]
    unfold jdS
    cases h : ordS (T.2.1 i) (amt (T.2.2.1 i) th) w with
    | none =>
      simp only [ansM, zbnd_eq]
      rw [zif_t trivial]; rfl
    | some w2 =>
      have hw2 := ordS_isV hw ha.1 h
      have e : iI (i : Int) + (1 : Int32) = iI ((i + 1 : Nat) : Int) := by rw [ilit, iI_add]; congr 1
      have e2 : (0 : Int32) + (2 : Int32) * iI (i : Int) = iI (2 * (i : Int)) := by rw [Int32.zero_add, ilit, iI_mul]
      have e3 : iI (2 * (i : Int)) + (1 : Int32) = iI (2 * (i : Int) + 1) := by rw [ilit, iI_add]
      have r1 : (setM μ w2).2 41 0 (2 * i) = ln i := by unfold setM; simp only [rJ]; exact (hL i (by omega)).1
      have r2 : (setM μ w2).2 41 0 (2 * i + 1) = ld i := by unfold setM; simp only [rJ]; exact (hL i (by omega)).2
      simp only [ansM, zbnd_eq, zlt_eq, setM_setM, e, e2, e3]
      rw [zif_f (by decide), zchk_t (zin_k 122 rfl (by omega) (by omega) (by omega)), zchk_t (zin_k 122 rfl (by omega) (by omega) (by omega)), cl_int (n := 2 * i) (by omega) (by omega), cl_int (n := 2 * i + 1) (by omega) (by omega), r1, r2, setM_0, setM_1]
      by_cases d1 : lI w2.1 = ln i
      · rw [zif_t (by rw [lcmp_eqv]; exact d1)]
        by_cases d2 : lI w2.2 = ld i
        · rw [zif_t (by rw [lcmp_eqv]; exact d2), if_pos ⟨d1, d2⟩]
          exact judge_m hN htl hM hO ht hth hm hmc hL hb f (i + 1) q w2 (by omega) (by omega) hw2
        · rw [zif_f (by rw [lcmp_eqv]; exact d2), if_neg (fun q => d2 q.2)]; rfl
      · rw [zif_f (by rw [lcmp_eqv]; exact d1), if_neg (fun q => d1 q.1)]; rfl
theorem ag_judge (N : Nat) (hN : 130 ≤ N) (p0 : Int32) : Agree (fun μ => f_A_judge N μ p0) (fun μ => f_M_judge N μ p0) := by
  refine Agree.same (fun μ hI => ?_)
  unfold f_A_judge f_M_judge
  rcases tab_split hI N p0 with ⟨h1, h2⟩ | ⟨t, ht, rfl, htn, h1, h2⟩
  · exact ⟨_, μ, μ, by simp only [h1, zbrf_n]; rfl, by simp only [h2 μ Same.rf, zbnd_eq]; rfl, Same.rf, Same.rf⟩
  · obtain ⟨hC, hM, hO⟩ := hI.tab htn
    obtain ⟨hth, hok, hthM⟩ := hI.th
    have hn := hO.1
    obtain ⟨-, -, ⟨-, -, ⟨l1, l2, l3, l4⟩, -⟩, -⟩ := hI
    obtain ⟨m, m1', m2, m3⟩ := nat_ex l2 l3
    generalize hT : tabOf μ t = T at hC hM hO hn
    obtain ⟨ln, hln⟩ : ∃ ln, ln = fun j => μ.2 28 0 j := ⟨_, rfl⟩
    obtain ⟨ld, hld⟩ : ∃ ld, ld = fun j => μ.2 29 0 j := ⟨_, rfl⟩
    have hLa : ∀ j, j < m → μ.2 28 0 j = ln j ∧ μ.2 29 0 j = ld j := fun j _ => by rw [hln, hld]; exact ⟨rfl, rfl⟩
    have hLm : ∀ j, j < m → μ.2 41 0 (2 * j) = ln j ∧ μ.2 41 0 (2 * j + 1) = ld j := fun j hj => by
      have := l4 j (by omega)
      simp only [Nat.mul_zero, Nat.zero_add] at this
      rw [hln, hld]; exact ⟨this.1.symm, this.2.symm⟩
    have hA := judge_a (N := N) (m := m) hN ht hC hO hth hok (by omega) m2 hLa (b := min T.1 m) (by omega) (by omega) (min T.1 m) 0 N (bg T (thOf μ 0), 1) (by omega) (by omega) (bg_isV hok)
    generalize hR : jdS T.2.1 T.2.2.1 (thOf μ 0) ln ld (min T.1 m) 0 (bg T (thOf μ 0), 1) = R at hA
    have s1 : Same μ (setV μ 0 R.2) := Same.rf.setV
    obtain ⟨μ2, g1, g2, g3, g4, g5⟩ := s_M_thinkNow (N := N) (μ := setV μ 0 R.2) (th := thOf μ 0) (by omega) hthM
    have hM2 := (hM.same s1).same g3
    have s2 := s1.tr g3
    have hB := judge_m (N := N) (m := m) hN ht hM2 hO g2 hok (by omega) (by rw [s2.1 40 0 4 rfl, ← l1]; exact m2) (fun j hj => by rw [s2.2 41 0 _ rfl, s2.2 41 0 _ rfl]; exact hLm j hj) (b := min T.1 m) rfl (min T.1 m) 0 N (bg T (thOf μ 0), 1) (by omega) (by omega) (bg_isV hok)
    rw [hR] at hB
    refine ⟨iI R.1, setV μ 0 R.2, setM μ2 R.2, ?_, ?_, s1, g3.setM⟩
    · simp only [h1, zbrf_s]
      have e0 : zminI (μ.1 4 t 2) (μ.1 6 (3 * 0) 2) = iI ((min T.1 m : Nat) : Int) := by
        have : μ.1 6 (3 * 0) 2 = iI m := m2
        rw [this, hC.1.1, iI_min (by omega) (by omega) (by omega) (by omega)]
        congr 1; omega
      rw [zchk_t ht, zlt_eq, s_Table_begin hC hO hth hok, zbnd_eq, zlt_eq, e0]
      exact hA
    · simp only [h2 _ s1, zbnd_eq]
      rw [zif_f (by decide), g1, zbnd_eq, s_M_begin ht hM2 g2 hok, zbnd_eq, zlt_eq]
      exact hB
