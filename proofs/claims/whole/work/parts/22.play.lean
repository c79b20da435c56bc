/-! value, about, undo -/
theorem s_Values_readLast {N : Nat} {μ : ZMem} {w n cap p : Nat} (hc : μ.1 6 w 2 = iI n) (hn : n ≤ cap) (hl : zlen 28 w = cap) (hl2 : zlen 29 w = cap) (hcap : cap < 100) :
    f_Values_readLast N μ w p = some ((), if n = 0 then setV μ p (0, 1) else setV μ p ((μ.2 28 w (n - 1)).toInt, (μ.2 29 w (n - 1)).toInt)) := by
  unfold f_Values_readLast f_Value_setWhole
  simp only [zlt_eq]
  have e0 : zsetJ (zsetJ μ 7 p 0 (0 : Int64)) 7 p 1 (1 : Int64) = setV μ p (0, 1) := rfl
  have hret : (zret () (zsetJ (zsetJ μ 7 p 0 (0 : Int64)) 7 p 1 (1 : Int64)) : Option (Unit × ZMem)) = some ((), setV μ p (0, 1)) := rfl
  rw [hret, zbnd_eq]
  have hc' : (setV μ p (0, 1)).1 6 w 2 = iI n := hc
  by_cases c : n = 0
  · subst c
    rw [zif_t (by rw [hc']; decide), if_pos rfl]; rfl
  · have e1 : iI (n : Int) - (1 : Int32) = iI ((n - 1 : Nat) : Int) := by
      rw [ilit, iI_sub]; congr 1; omega
    rw [zif_f (by rw [hc', zi0, iI_le (by omega) (by omega) (by omega) (by omega)]; omega), zif_f (by rw [hc', hl, nI_iI, iI_lt (by omega) (by omega) (by omega) (by omega)]; omega), if_neg c]
    simp only [hc', rJI, e1, cl_nat (show n - 1 < 2147483648 by omega)]
    rw [zchk_t (zin_k cap hl (by omega) (by omega) (by omega)), zchk_t (zin_k cap hl2 (by omega) (by omega) (by omega))]
    simp only [zret]
    congr 2
    refine mem_ext (fun _ _ _ => rfl) (fun k i x => ?_)
    unfold setV
    simp only [rJ, ← lI_of]
    by_cases h1 : k = 7 ∧ i = p ∧ x = 1
    · obtain ⟨rfl, rfl, rfl⟩ := h1
      simp
    · by_cases h0 : k = 7 ∧ i = p ∧ x = 0
      · obtain ⟨rfl, rfl, rfl⟩ := h0
        simp
      · simp only [h1, h0, ite_false]
theorem s_State_ordersPlayed {N : Nat} {μ : ZMem} {o n : Nat} (hc : μ.1 6 (3 * o + 2) 2 = iI n) (hn : n < 100) : f_State_ordersPlayed N μ o = some (iI ((n - 1 : Nat) : Int), μ) := by
  unfold f_State_ordersPlayed
  rw [hc, show iI (n : Int) - (1 : Int32) = iI ((n : Int) - 1) from iI_sub _ 1, zi0, iI_max (by omega) (by omega) (by omega) (by omega)]
  rw [show max ((n : Int) - 1) 0 = ((n - 1 : Nat) : Int) by omega]; rfl
theorem ag_value (N : Nat) (p0 : Int32) : Agree (fun μ => f_A_value N μ p0) (fun μ => f_M_value N μ p0) := by
  refine Agree.same (fun μ hI => ?_)
  obtain ⟨-, -, ⟨-, -, -, -, -, -, ⟨r1, r2, r3, r4⟩⟩, -⟩ := hI
  obtain ⟨n, hn, hn1, hn2⟩ := nat_ex r2 r3
  unfold f_A_value f_M_value
  have hL := s_Values_readLast (N := N) (μ := μ) (w := 3 * 0 + 2) (p := 0) (cap := 25) hn1 (by omega) rfl rfl (by omega)
  have e60 : (60 : Int32).toNatClampNeg = 60 := rfl
  have e61 : (61 : Int32).toNatClampNeg = 61 := rfl
  have z60 : zin (60 : Int32) (zlen 41 0) := by decide
  have z61 : zin (61 : Int32) (zlen 41 0) := by decide
  have key : ∀ v : Int × Int, (if n = 0 then setV μ 0 (0, 1) else setV μ 0 ((μ.2 28 (3 * 0 + 2) (n - 1)).toInt, (μ.2 29 (3 * 0 + 2) (n - 1)).toInt)) = setV μ 0 v → μ.2 41 0 60 = lI v.1 → μ.2 41 0 61 = lI v.2 → ∃ r μ1 μ2, zbnd (f_Values_readLast N μ (3 * 0 + 2) 0) (fun _ (μ1 : ZMem) => zbnd (f_Value_part N μ1 0 p0) (fun (r3 : Int64) (μ2 : ZMem) => zret r3 μ2)) = some (r, μ1) ∧ zif (p0 = 0) (zchk (zin (60 : Int32) (zlen 41 0)) (zret (μ1.2 41 0 (60 : Int32).toNatClampNeg) μ1)) (zchk (zin (61 : Int32) (zlen 41 0)) (zret (μ1.2 41 0 (61 : Int32).toNatClampNeg) μ1)) = some (r, μ2) ∧ Same μ μ1 ∧ Same μ1 μ2 := by
    intro v hv g1 g2
    rw [hL, hv, zbnd_eq, s_Value_part setV_0 setV_1, zbnd_eq]
    refine ⟨_, _, setV μ 0 v, rfl, ?_, Same.rf.setV, Same.rf⟩
    have q1 : (setV μ 0 v).2 41 0 60 = lI v.1 := by unfold setV; rw [rJ, if_neg (by omega), rJ, if_neg (by omega)]; exact g1
    have q2 : (setV μ 0 v).2 41 0 61 = lI v.2 := by unfold setV; rw [rJ, if_neg (by omega), rJ, if_neg (by omega)]; exact g2
    rw [zchk_t z60, zchk_t z61, e60, e61, q1, q2]
    by_cases c : p0 = 0
    · rw [zif_t c, if_pos c]; rfl
    · rw [zif_f c, if_neg c]; rfl
  rcases r4 with ⟨b1, -, -, -, b5, b6⟩ | ⟨b1, -, -, -, -, -, -, -, b9⟩
  · have h0 : n = 0 := by omega
    exact key (0, 1) (by rw [if_pos h0]) b5 b6
  · have h0 : ¬ n = 0 := by omega
    have := b9 (n - 1) (by omega)
    exact key _ (by rw [if_neg h0]) (by rw [this.1]; exact lI_of _) (by rw [this.2]; exact lI_of _)
theorem trl_cnt {μ : ZMem} {e : Nat} (h : trlR μ e) : ∃ n : Nat, n ≤ 25 ∧ μ.1 6 (3 * e + 2) 2 = iI n ∧ (μ.1 6 (3 * e + 2) 2).toInt = n ∧ μ.1 40 e 2 = iI ((n - 1 : Nat) : Int) ∧ μ.1 40 e 3 = iI ((n - 1 : Nat) : Int) := by
  obtain ⟨r1, r2, r3, r4⟩ := h
  obtain ⟨n, hn, hn1, hn2⟩ := nat_ex r2 r3
  refine ⟨n, by omega, hn1, hn2, ?_⟩
  rcases r4 with ⟨b1, -, b3, b4, -, -⟩ | ⟨b1, -, -, -, b5, b6, -, -, -⟩
  · have : n - 1 = 0 := by omega
    rw [this]
    exact ⟨b3, b4⟩
  · rw [hn2] at b5 b6
    rw [show ((n - 1 : Nat) : Int) = (n : Int) - 1 by omega]
    exact ⟨b5, b6⟩
theorem ag_about (N : Nat) (p0 : Int32) : Agree (fun μ => f_A_about N μ p0) (fun μ => f_M_about N μ p0) := by
  refine Agree.same (fun μ hI => ?_)
  obtain ⟨⟨t1, -⟩, -, ⟨⟨k1, -⟩, k2, ⟨k3, -⟩, ⟨k4, -⟩, ⟨k5, -⟩, ⟨k6, -⟩, k7⟩, -⟩ := hI
  obtain ⟨n, hn, hn1, hn2, hn3, hn4⟩ := trl_cnt k7
  have k71 := k7.1
  obtain ⟨x, hx1, hx2, rfl⟩ := iI_ex p0
  have eI : f_M_isIn N μ (iI x) 10 13 = _ := s_M_isIn (a := 10) (b := 13) hx1 hx2 (by omega) (by omega) (by omega) (by omega)
  have eI2 : f_M_isIn N μ (iI x) 0 7 = _ := s_M_isIn (a := 0) (b := 7) hx1 hx2 (by omega) (by omega) (by omega) (by omega)
  unfold f_A_about f_M_about
  simp only [zlt_eq]
  by_cases c : 10 ≤ x ∧ x ≤ 13
  · obtain ⟨j, hj⟩ : ∃ j : Nat, x = 10 + j := ⟨(x - 10).toNat, by omega⟩
    subst hj
    have hne : ∀ y : Int, y < 10 → 0 ≤ y → ¬ iI (10 + (j : Int)) = iI y := fun y q q2 => by rw [iI_eq (by omega) (by omega) (by omega) (by omega)]; omega
    have e1 : iI (10 + (j : Int)) - (10 : Int32) = iI (j : Int) := by rw [ilit, iI_sub]; congr 1; omega
    have e2 : (8 : Int32) + iI (10 + (j : Int)) - (10 : Int32) = iI ((8 + j : Nat) : Int) := by rw [ilit, ilit, iI_add, iI_sub]; congr 1; omega
    refine ⟨μ.1 26 0 j, μ, μ, ?_, ?_, Same.rf, Same.rf⟩
    · rw [zif_f (show ¬ iI (10 + (j : Int)) = (0 : Int32) from hne 0 (by omega) (by omega)), zif_f (show ¬ iI (10 + (j : Int)) = (1 : Int32) from hne 1 (by omega) (by omega)), zif_f (show ¬ iI (10 + (j : Int)) = (2 : Int32) from hne 2 (by omega) (by omega)), zif_f (show ¬ iI (10 + (j : Int)) = (3 : Int32) from hne 3 (by omega) (by omega)), zif_f (show ¬ iI (10 + (j : Int)) = (4 : Int32) from hne 4 (by omega) (by omega)), zif_f (show ¬ iI (10 + (j : Int)) = (5 : Int32) from hne 5 (by omega) (by omega)), zif_f (show ¬ iI (10 + (j : Int)) = (6 : Int32) from hne 6 (by omega) (by omega)), zif_f (show ¬ iI (10 + (j : Int)) = (7 : Int32) from hne 7 (by omega) (by omega)), zif_f (show ¬ iI (10 + (j : Int)) = (8 : Int32) from hne 8 (by omega) (by omega)), zif_f (by rw [ilit, iI_lt (by omega) (by omega) (by omega) (by omega)]; omega), zif_f (by rw [ilit, iI_le (by omega) (by omega) (by omega) (by omega)]; omega)]
      simp only [e1, cl_nat (show j < 2147483648 by omega)]
      rw [zchk_t (zin_k 4 rfl (by omega) (by omega) (by omega))]; rfl
    · rw [eI, zbnd_eq, if_pos c, zif_f (by decide)]
      simp only [e2, cl_nat (show 8 + j < 2147483648 by omega)]
      rw [zchk_t (zin_k 30 rfl (by omega) (by omega) (by omega)), ← (k2 j (by omega)).1]; rfl
  · by_cases c2 : 0 ≤ x ∧ x ≤ 7
    · obtain ⟨j, rfl⟩ : ∃ j : Nat, x = j := ⟨x.toNat, by omega⟩
      refine ⟨μ.1 40 0 j, μ, μ, ?_, ?_, Same.rf, Same.rf⟩
      · have : j = 0 ∨ j = 1 ∨ j = 2 ∨ j = 3 ∨ j = 4 ∨ j = 5 ∨ j = 6 ∨ j = 7 := by omega
        have hO := s_State_ordersPlayed (N := N) (μ := μ) (o := 0) hn1 (by omega)
        rcases this with rfl | rfl | rfl | rfl | rfl | rfl | rfl | rfl
        · rw [zif_t (by decide), k1]; rfl
        · rw [zif_f (by decide), zif_t (by decide), k71]; rfl
        · rw [zif_f (by decide), zif_f (by decide), zif_t (by decide), hO, zbnd_eq, hn3]; rfl
        · rw [zif_f (by decide), zif_f (by decide), zif_f (by decide), zif_t (by decide), hO, zbnd_eq, hn4]; rfl
        · rw [zif_f (by decide), zif_f (by decide), zif_f (by decide), zif_f (by decide), zif_t (by decide), k3]; rfl
        · rw [zif_f (by decide), zif_f (by decide), zif_f (by decide), zif_f (by decide), zif_f (by decide), zif_t (by decide), k4]; rfl
        · rw [zif_f (by decide), zif_f (by decide), zif_f (by decide), zif_f (by decide), zif_f (by decide), zif_f (by decide), zif_t (by decide), k5]; rfl
        · rw [zif_f (by decide), zif_f (by decide), zif_f (by decide), zif_f (by decide), zif_f (by decide), zif_f (by decide), zif_f (by decide), zif_t (by decide), k6]; rfl
      · rw [eI, zbnd_eq, if_neg c, zif_t rfl, eI2, zbnd_eq, if_pos c2, zif_f (by decide), zchk_t (zin_k 30 rfl (by omega) (by omega) (by omega)), cl_nat (by omega)]; rfl
    · have hne : ∀ y : Int, y < 8 → 0 ≤ y → ¬ iI x = iI y := fun y q q2 => by rw [iI_eq (by omega) (by omega) (by omega) (by omega)]; omega
      have hpre : ∀ a0 a1 a2 a3 a4 a5 a6 a7 b : Option (Int32 × ZMem), zif (iI x = (0 : Int32)) a0 (zif (iI x = (1 : Int32)) a1 (zif (iI x = (2 : Int32)) a2 (zif (iI x = (3 : Int32)) a3 (zif (iI x = (4 : Int32)) a4 (zif (iI x = (5 : Int32)) a5 (zif (iI x = (6 : Int32)) a6 (zif (iI x = (7 : Int32)) a7 b))))))) = b := fun a0 a1 a2 a3 a4 a5 a6 a7 b => by
        rw [zif_f (show ¬ iI x = (0 : Int32) from hne 0 (by omega) (by omega)), zif_f (show ¬ iI x = (1 : Int32) from hne 1 (by omega) (by omega)), zif_f (show ¬ iI x = (2 : Int32) from hne 2 (by omega) (by omega)), zif_f (show ¬ iI x = (3 : Int32) from hne 3 (by omega) (by omega)), zif_f (show ¬ iI x = (4 : Int32) from hne 4 (by omega) (by omega)), zif_f (show ¬ iI x = (5 : Int32) from hne 5 (by omega) (by omega)), zif_f (show ¬ iI x = (6 : Int32) from hne 6 (by omega) (by omega)), zif_f (show ¬ iI x = (7 : Int32) from hne 7 (by omega) (by omega))]
      by_cases c3 : x = 8
      · subst c3
        refine ⟨μ.1 1 0 1, μ, μ, ?_, ?_, Same.rf, Same.rf⟩
        · rw [hpre, zif_t (by decide)]; rfl
        · rw [eI, zbnd_eq, if_neg c, zif_t rfl, eI2, zbnd_eq, if_neg c2, zif_t rfl, zif_t (by decide), ← t1]; rfl
      · have h8 : ¬ iI x = (8 : Int32) := by rw [ilit, iI_eq (by omega) (by omega) (by omega) (by omega)]; omega
        refine ⟨-2, μ, μ, ?_, ?_, Same.rf, Same.rf⟩
        · rw [hpre, zif_f h8]
          by_cases c4 : x < 10
          · rw [zif_t (by rw [ilit, iI_lt (by omega) (by omega) (by omega) (by omega)]; omega)]; rfl
          · rw [zif_f (by rw [ilit, iI_lt (by omega) (by omega) (by omega) (by omega)]; omega), zif_t (by rw [ilit, iI_le (by omega) (by omega) (by omega) (by omega)]; omega)]; rfl
        · rw [eI, zbnd_eq, if_neg c, zif_t rfl, eI2, zbnd_eq, if_neg c2, zif_t rfl, zif_f h8]; rfl
