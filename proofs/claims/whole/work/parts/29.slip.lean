/-! slips -/
def so {α β : Type} (o : Option α) (a b : β) : β := match o with
  | none => b
  | some _ => a
def slA (m k x : Int) (v : Int × Int) : Option (Int × Int) :=
  if m = 0 then some v else if m = 1 then (match ordS k x v with | none => none | some w => ordS k x w) else if 3 < k then none else ordS (if k = 0 then 1 else if k = 1 then 0 else if k = 2 then 3 else 2) x v
def slS (kd xs th : Nat → Int) (j : Nat) (m : Int) : Nat → Nat → Int × Int → Option (Int × Int)
  | 0, _, v => some v
  | f + 1, i, v => match (if i = j then slA m (kd i) (amt (xs i) th) v else ordS (kd i) (amt (xs i) th) v) with
    | none => none
    | some w => slS kd xs th j m f (i + 1) w
theorem slA_isV {m k x : Int} {v w : Int × Int} (hv : isV v) (hx : 0 ≤ x) (h : slA m k x v = some w) : isV w := by
  unfold slA at h
  split at h
  · cases h; exact hv
  · split at h
    · cases h1 : ordS k x v with
      | none => rw [h1] at h; cases h
      | some u => rw [h1] at h; exact ordS_isV (ordS_isV hv hx h1) hx h
    · split at h
      · cases h
      · exact ordS_isV hv hx h
theorem xor1 {k : Int} (h0 : 0 ≤ k) (h : k ≤ 3) : iI k ^^^ (1 : Int32) = iI (if k = 0 then 1 else if k = 1 then 0 else if k = 2 then 3 else 2) := by
  have : k = 0 ∨ k = 1 ∨ k = 2 ∨ k = 3 := by omega
  rcases this with rfl | rfl | rfl | rfl <;> decide
theorem s_slipAt {N : Nat} {μ : ZMem} {m k x : Int} {v : Int × Int} (hN : 130 ≤ N) (hm0 : 0 ≤ m) (hm : m ≤ 2) (hv : isV v) (hk0 : 0 ≤ k) (hk : k ≤ 9) (hx0 : 0 ≤ x) (hx : x ≤ 9999) (h8 : k = 8 → 1 ≤ x) :
    ∃ w, isV w ∧ f_Table_slipAt N (setV μ 0 v) (iI k) (iI x) (iI m) 0 = some (so (slA m k x v) 1 0, setV μ 0 w) ∧ ∀ u, slA m k x v = some u → w = u := by
  unfold f_Table_slipAt slA
  by_cases m0 : m = 0
  · refine ⟨v, hv, ?_, ?_⟩
    · rw [zif_t (by rw [m0]; rfl), if_pos m0]; rfl
    · rw [if_pos m0]; intro u h; cases h; rfl
  · have z0 : ¬ iI m = 0 := by rw [zi0, iI_eq (by omega) (by omega) (by omega) (by omega)]; exact m0
    rw [zif_f z0, if_neg m0]
    by_cases m1 : m = 1
    · rw [zif_t (by rw [m1]; rfl), if_pos m1, s_Value_obey hN hv setV_0 setV_1 hk0 hk hx0 hx h8]
      cases h1 : ordS k x v with
      | none =>
        refine ⟨v, hv, ?_, fun u h => by cases h⟩
        simp only [ansV, zbnd_eq]
        rw [zif_t trivial]; rfl
      | some w =>
        have hw := ordS_isV hv hx0 h1
        simp only [ansV, zbnd_eq, setV_setV]
        rw [zif_f (by decide), s_Value_obey hN hw setV_0 setV_1 hk0 hk hx0 hx h8]
        cases h2 : ordS k x w with
        | none =>
          refine ⟨w, hw, ?_, fun u h => by cases h⟩
          simp only [ansV, zbnd_eq]
          rw [zif_t trivial]; rfl
        | some w2 =>
          refine ⟨w2, ordS_isV hw hx0 h2, ?_, fun u h => by cases h; rfl⟩
          simp only [ansV, zbnd_eq, setV_setV]
          rw [zif_f (by decide)]; rfl
    · have z1 : ¬ iI m = (1 : Int32) := by rw [ilit, iI_eq (by omega) (by omega) (by omega) (by omega)]; exact m1
      rw [zif_f z1, if_neg m1]
      by_cases k3 : 3 < k
      · refine ⟨v, hv, ?_, ?_⟩
        · rw [zif_t (by rw [ilit, iI_lt (by omega) (by omega) (by omega) (by omega)]; exact k3), if_pos k3]; rfl
        · rw [if_pos k3]; intro u h; cases h
      · rw [zif_f (by rw [ilit, iI_lt (by omega) (by omega) (by omega) (by omega)]; exact k3), if_neg k3, xor1 hk0 (by omega)]
        generalize hk' : (if k = 0 then (1 : Int) else if k = 1 then 0 else if k = 2 then 3 else 2) = k'
        have hkr : 0 ≤ k' ∧ k' ≤ 3 := by
          rw [← hk']; split
          · omega
          · split
            · omega
            · split <;> omega
        rw [s_Value_obey hN hv setV_0 setV_1 hkr.1 (by omega) hx0 hx (by omega)]
        cases h1 : ordS k' x v with
        | none =>
          refine ⟨v, hv, ?_, fun u h => by cases h⟩
          simp only [ansV, zbnd_eq]
          rw [zif_t trivial]; rfl
        | some w =>
          refine ⟨w, ordS_isV hv hx0 h1, ?_, fun u h => by cases h; rfl⟩
          simp only [ansV, zbnd_eq, setV_setV]
          rw [zif_f (by decide)]; rfl
theorem s_slips {N : Nat} {μ : ZMem} {m k x : Int} {v : Int × Int} {th : Nat → Int} (hN : 130 ≤ N) (hm0 : 0 ≤ m) (hm : m ≤ 2) (hv : isV v) (ht : thM μ th) (hth : okT th) (hk0 : 0 ≤ k) (hk : k ≤ 9) (hx : okX x) (h8 : k = 8 → 1 ≤ amt x th) (hm3 : m = 2 → k ≤ 3) :
    ∃ w, isV w ∧ f_M_slips N (setM μ v) (iI k) (iI x) (iI m) = some (so (slA m k (amt x th) v) 1 0, setM μ w) ∧ ∀ u, slA m k (amt x th) v = some u → w = u := by
  have hx0 := (amt_rng hx hth).1
  have ht' : ∀ v, thM (setM μ v) th := fun _ => ht
  unfold f_M_slips slA
  by_cases m0 : m = 0
  · refine ⟨v, hv, ?_, ?_⟩
    · rw [zif_t (by rw [m0]; rfl), if_pos m0]; rfl
    · rw [if_pos m0]; intro u h; cases h; rfl
  · have z0 : ¬ iI m = 0 := by rw [zi0, iI_eq (by omega) (by omega) (by omega) (by omega)]; exact m0
    rw [zif_f z0, if_neg m0]
    by_cases m1 : m = 1
    · have z2 : ¬ iI m = (2 : Int32) := by rw [ilit, iI_eq (by omega) (by omega) (by omega) (by omega)]; omega
      have z1 : iI m = (1 : Int32) := by rw [m1]; rfl
      rw [zif_f z2, if_pos m1, s_M_does hN hv setM_0 setM_1 (ht' v) hth hk0 hk hx h8]
      cases h1 : ordS k (amt x th) v with
      | none =>
        refine ⟨v, hv, ?_, fun u h => by cases h⟩
        simp only [ansM, zbnd_eq]
        rw [zif_t trivial]; rfl
      | some w =>
        have hw := ordS_isV hv hx0 h1
        simp only [ansM, zbnd_eq, setM_setM, zlt_eq]
        rw [zif_f (by decide), zif_t z1, s_M_does hN hw setM_0 setM_1 (ht' w) hth hk0 hk hx h8]
        cases h2 : ordS k (amt x th) w with
        | none =>
          refine ⟨w, hw, ?_, fun u h => by cases h⟩
          simp only [ansM, zbnd_eq]
          rw [zif_t trivial]; rfl
        | some w2 =>
          refine ⟨w2, ordS_isV hw hx0 h2, ?_, fun u h => by cases h; rfl⟩
          simp only [ansM, zbnd_eq, setM_setM]
          rw [zif_f (by decide)]; rfl
    · have z2 : iI m = (2 : Int32) := by rw [show m = 2 by omega]; rfl
      have hk3 := hm3 (by omega)
      rw [zif_t z2, if_neg m1, if_neg (show ¬ 3 < k by omega)]
      have hR : f_M_turnedRound N (setM μ v) (iI k) = some (iI (if k = 0 then 1 else if k = 1 then 0 else if k = 2 then 3 else 2), setM μ v) := by
        have : k = 0 ∨ k = 1 ∨ k = 2 ∨ k = 3 := by omega
        rcases this with rfl | rfl | rfl | rfl <;> rfl
      rw [hR, zbnd_eq]
      generalize hk' : (if k = 0 then (1 : Int) else if k = 1 then 0 else if k = 2 then 3 else 2) = k'
      have hkr : 0 ≤ k' ∧ k' ≤ 3 := by
        rw [← hk']; split
        · omega
        · split
          · omega
          · split <;> omega
      rw [s_M_does hN hv setM_0 setM_1 (ht' v) hth hkr.1 (by omega) hx (by omega)]
      cases h1 : ordS k' (amt x th) v with
      | none =>
        refine ⟨v, hv, ?_, fun u h => by cases h⟩
        simp only [ansM, zbnd_eq]
        rfl
      | some w =>
        refine ⟨w, ordS_isV hv hx0 h1, ?_, fun u h => by cases h; rfl⟩
        simp only [ansM, zbnd_eq, setM_setM]
        rfl
theorem slip_a {N : Nat} {μ : ZMem} {t j : Nat} {T : Tb} {th : Nat → Int} {m s : Int} (hN : 130 ≤ N) (htl : t < 4) (hC : TabC μ t T) (hO : TabOk T) (ht : thC μ 0 th) (hth : okT th) (hm0 : 0 ≤ m) (hm : m ≤ 2) (hs : zremI (iI s) 3 = iI m) (hj : j < T.1) :
    ∀ (f i fuel : Nat) (w : Int × Int), i + f = T.1 → f < fuel → isV w → ∃ w', isV w' ∧ f_Table_runWithSlip_l14 N t (iI s) 0 0 (iI j) fuel (iI i) (setV μ 0 w) = some (so (slS T.2.1 T.2.2.1 th j m f i w) 1 0, setV μ 0 w') ∧ ∀ u, slS T.2.1 T.2.2.1 th j m f i w = some u → w' = u
  | 0, i, fuel, w, hi, hf, hw => by
    obtain ⟨q, rfl⟩ : ∃ q, fuel = q + 1 := ⟨fuel - 1, by omega⟩
    have hn := hO.1
    have hc : (setV μ 0 w).1 4 t 2 = iI T.1 := hC.1.1
    refine ⟨w, hw, ?_, fun u h => by cases h; rfl⟩
    simp only [f_Table_runWithSlip_l14, hc]
    rw [zif_t (by rw [iI_le (by omega) (by omega) (by omega) (by omega)]; omega)]
    rfl
  | f + 1, i, fuel, w, hi, hf, hw => by
    obtain ⟨q, rfl⟩ : ∃ q, fuel = q + 1 := ⟨fuel - 1, by omega⟩
    have hn := hO.1
    have hl : zlen 22 t = 24 := by rw [len22, if_pos htl]
    have hl3 : zlen 23 t = zlen 22 t := rfl
    have hi' := hO.2.1 i (by omega)
    have hc := hC.1.2 i (by omega)
    have ha := amt_rng hi'.2.2.1 hth
    have hcn : (setV μ 0 w).1 4 t 2 = iI T.1 := hC.1.1
    have hk : (setV μ 0 w).1 22 t i = iI (T.2.1 i) := hc.1
    have e : iI (i : Int) + (1 : Int32) = iI ((i + 1 : Nat) : Int) := by rw [ilit, iI_add]; congr 1
    simp only [f_Table_runWithSlip_l14, hcn]
    rw [zif_f (by rw [iI_le (by omega) (by omega) (by omega) (by omega)]; omega), zchk_t (zin_iI (by omega) (by omega) (by omega)), zlt_eq, s_Orders_amount (μ := setV μ 0 w) (x := T.2.2.1 i) (th := th) hi'.2.2.1 hc.2 ht (by omega), zbnd_eq, cl_nat (by omega), hk]
    simp only [zlt_eq, hs, e]
    unfold slS
    by_cases c : i = j
    · rw [zif_t (by rw [c]), if_pos c, zchk_t (by decide)]
      obtain ⟨w1, v1, v2, v3⟩ := s_slipAt (N := N) (μ := μ) (m := m) (k := T.2.1 i) (x := amt (T.2.2.1 i) th) (v := w) hN hm0 hm hw hi'.1 hi'.2.1 ha.1 ha.2 (fun q => amt8 (hi'.2.2.2 q))
      rw [v2, zbnd_eq]
      cases h : slA m (T.2.1 i) (amt (T.2.2.1 i) th) w with
      | none =>
        refine ⟨w1, v1, ?_, fun u h => by cases h⟩
        rw [zif_t (show so (none : Option (Int × Int)) (1 : Int32) 0 = 0 from rfl)]; rfl
      | some w2 =>
        rw [v3 w2 h]
        rw [zif_f (show ¬ so (some w2) (1 : Int32) 0 = 0 from (by decide : ¬ (1 : Int32) = 0))]
        exact slip_a hN htl hC hO ht hth hm0 hm hs hj f (i + 1) q w2 (by omega) (by omega) (slA_isV hw ha.1 h)
    · rw [zif_f (by rw [iI_eq (by omega) (by omega) (by omega) (by omega)]; omega), if_neg c, s_Value_obey hN hw setV_0 setV_1 hi'.1 hi'.2.1 ha.1 ha.2 (fun q => amt8 (hi'.2.2.2 q))]
      cases h : ordS (T.2.1 i) (amt (T.2.2.1 i) th) w with
      | none =>
        refine ⟨w, hw, ?_, fun u h => by cases h⟩
        simp only [ansV, zbnd_eq]
        rw [zif_t trivial]; rfl
      | some w2 =>
        simp only [ansV, zbnd_eq, setV_setV]
        rw [zif_f (by decide)]
        exact slip_a hN htl hC hO ht hth hm0 hm hs hj f (i + 1) q w2 (by omega) (by omega) (ordS_isV hw ha.1 h)
theorem slip_m {N : Nat} {μ : ZMem} {t j : Nat} {T : Tb} {th : Nat → Int} {m : Int} {a b : Int64} {kx : ZMem → Option (Int32 × ZMem)} (hN : 130 ≤ N) (htl : t < 4) (hM : TabM μ t T) (hO : TabOk T) (ht : thM μ th) (hth : okT th) (hm0 : 0 ≤ m) (hm : m ≤ 2) (hj : j < T.1) (hj3 : m = 2 → T.2.1 j ≤ 3) :
    ∀ (f i fuel : Nat) (w : Int × Int), i + f = T.1 → f < fuel → isV w → ∃ w', isV w' ∧ f_M_isSlip_l25 N (iI t) (iI j) (iI m) a b kx fuel (iI i) (setM μ w) = so (slS T.2.1 T.2.2.1 th j m f i w) (kx (setM μ w')) (some (0, setM μ w')) ∧ ∀ u, slS T.2.1 T.2.2.1 th j m f i w = some u → w' = u
  | 0, i, fuel, w, hi, hf, hw => by
    obtain ⟨q, rfl⟩ : ∃ q, fuel = q + 1 := ⟨fuel - 1, by omega⟩
    have hn := hO.1
    have hM' : TabM (setM μ w) t T := hM
    refine ⟨w, hw, ?_, fun u h => by cases h; rfl⟩
    simp only [f_M_isSlip_l25]
    rw [s_M_ordersOf htl hM', zbnd_eq, zif_t (by rw [iI_le (by omega) (by omega) (by omega) (by omega)]; omega)]
    rfl
  | f + 1, i, fuel, w, hi, hf, hw => by
    obtain ⟨q, rfl⟩ : ∃ q, fuel = q + 1 := ⟨fuel - 1, by omega⟩
    have hn := hO.1
    have hi' := hO.2.1 i (by omega)
    have ha := amt_rng hi'.2.2.1 hth
    have hM' : TabM (setM μ w) t T := hM
    have e : iI (i : Int) + (1 : Int32) = iI ((i + 1 : Nat) : Int) := by rw [ilit, iI_add]; congr 1
    simp only [f_M_isSlip_l25]
    rw [s_M_ordersOf htl hM', zbnd_eq, zif_f (by rw [iI_le (by omega) (by omega) (by omega) (by omega)]; omega), s_M_kindOf htl hM' (by omega) hn, zbnd_eq, s_M_xOf htl hM' (by omega) hn, zbnd_eq]
    simp only [zlt_eq, e]
    unfold slS
    by_cases c : i = j
    · rw [zif_t (by rw [c]), if_pos c]
      obtain ⟨w1, v1, v2, v3⟩ := s_slips (N := N) (μ := μ) (m := m) (k := T.2.1 i) (x := T.2.2.1 i) (v := w) hN hm0 hm hw ht hth hi'.1 hi'.2.1 hi'.2.2.1 (fun q => amt8 (hi'.2.2.2 q)) (by rw [c]; exact hj3)
      rw [v2, zbnd_eq]
      cases h : slA m (T.2.1 i) (amt (T.2.2.1 i) th) w with
      | none =>
        refine ⟨w1, v1, ?_, fun u h => by cases h⟩
        rw [zif_t (show so (none : Option (Int × Int)) (1 : Int32) 0 = 0 from rfl)]; rfl
      | some w2 =>
        rw [v3 w2 h]
        rw [zif_f (show ¬ so (some w2) (1 : Int32) 0 = 0 from (by decide : ¬ (1 : Int32) = 0))]
        exact slip_m hN htl hM hO ht hth hm0 hm hj hj3 f (i + 1) q w2 (by omega) (by omega) (slA_isV hw ha.1 h)
    · have hS : f_M_slips N (setM μ w) (iI (T.2.1 i)) (iI (T.2.2.1 i)) (-1) = (match ansM (setM μ w) (ordS (T.2.1 i) (amt (T.2.2.1 i) th) w) with | none => none | some (r, μ') => some (r, μ')) := by
        unfold f_M_slips
        rw [zif_f (by decide), zif_f (by decide), s_M_does (μ := setM μ w) (th := th) hN hw setM_0 setM_1 ht hth hi'.1 hi'.2.1 hi'.2.2.1 (fun q => amt8 (hi'.2.2.2 q))]
        cases h : ordS (T.2.1 i) (amt (T.2.2.1 i) th) w with
        | none =>
          simp only [ansM, zbnd_eq]
          rw [zif_t trivial]; rfl
        | some w2 =>
          simp only [ansM, zbnd_eq, zlt_eq]
          rw [zif_f (by decide), zif_f (by decide)]; rfl
      rw [zif_f (by rw [iI_eq (by omega) (by omega) (by omega) (by omega)]; omega), if_neg c, hS]
      cases h : ordS (T.2.1 i) (amt (T.2.2.1 i) th) w with
      | none =>
        refine ⟨w, hw, ?_, fun u h => by cases h⟩
        simp only [ansM, zbnd_eq]
        rw [zif_t trivial]; rfl
      | some w2 =>
        simp only [ansM, zbnd_eq, setM_setM]
        rw [zif_f (by decide)]
        exact slip_m hN htl hM hO ht hth hm0 hm hj hj3 f (i + 1) q w2 (by omega) (by omega) (ordS_isV hw ha.1 h)
theorem slS_none {kd xs th : Nat → Int} {j : Nat} (hk : 3 < kd j) : ∀ (f i : Nat) (v : Int × Int), i ≤ j → j < i + f → slS kd xs th j 2 f i v = none
  | 0, i, v, h1, h2 => by omega
  | f + 1, i, v, h1, h2 => by
    unfold slS
    by_cases c : i = j
    · rw [if_pos c]
      have : slA 2 (kd i) (amt (xs i) th) v = none := by
        unfold slA
        rw [if_neg (by omega), if_neg (by omega), if_pos (by rw [c]; exact hk)]
      rw [this]
    · rw [if_neg c]
      cases ordS (kd i) (amt (xs i) th) v with
      | none => rfl
      | some w => exact slS_none hk f (i + 1) w (by omega) (by omega)
def spP (T : Tb) (th : Nat → Int) (g : Int × Int) (s : Nat) : Bool := match slS T.2.1 T.2.2.1 th (s / 3) ((s % 3 : Nat) : Int) T.1 0 (bg T th, 1) with
  | none => false
  | some v => decide (v = g)
def spS (P : Nat → Bool) (p : Int) : Nat → Nat → Nat → Int
  | 0, c, _ => if p = -1 then c else -1
  | f + 1, c, s => if P s then (if (c : Int) = p then s else spS P p f (c + 1) (s + 1)) else spS P p f c (s + 1)
theorem s_runWithSlip {N : Nat} {μ : ZMem} {t s : Nat} {T : Tb} {th : Nat → Int} (hN : 130 ≤ N) (htl : t < 4) (hC : TabC μ t T) (hO : TabOk T) (ht : thC μ 0 th) (hth : okT th) (hs : s < 3 * T.1) :
    ∃ w', isV w' ∧ f_Table_runWithSlip N μ t (iI s) 0 0 = some (so (slS T.2.1 T.2.2.1 th (s / 3) ((s % 3 : Nat) : Int) T.1 0 (bg T th, 1)) 1 0, setV μ 0 w') ∧ ∀ u, slS T.2.1 T.2.2.1 th (s / 3) ((s % 3 : Nat) : Int) T.1 0 (bg T th, 1) = some u → w' = u := by
  have hn := hO.1
  have e1 : iI (s : Int) / (3 : Int32) = iI ((s / 3 : Nat) : Int) := by
    have : iI (s : Int) / (3 : Int32) = _ := iI_div (a := s) (b := 3) (by omega) (by omega) (by omega) (by omega)
    rw [this, Int.tdiv_eq_ediv_of_nonneg (by omega)]; rfl
  have e2 : zremI (iI (s : Int)) 3 = iI ((s % 3 : Nat) : Int) := by
    have : zremI (iI (s : Int)) 3 = _ := iI_rem (a := s) (b := 3) (by omega) (by omega) (by omega) (by omega)
    rw [this, Int.tmod_eq_emod_of_nonneg (by omega)]; rfl
  obtain ⟨w', v1, v2, v3⟩ := slip_a (N := N) (μ := μ) (t := t) (j := s / 3) (T := T) (th := th) (m := ((s % 3 : Nat) : Int)) (s := s) hN htl hC hO ht hth (by omega) (by omega) e2 (by omega) T.1 0 N (bg T th, 1) (by omega) (by omega) (bg_isV hth)
  refine ⟨w', v1, ?_, v3⟩
  unfold f_Table_runWithSlip
  rw [zchk_t (by decide), e1, zlt_eq, s_Table_begin hC hO ht hth, zbnd_eq, zlt_eq]
  exact v2
theorem s_isSlip {N : Nat} {μ : ZMem} {t s : Nat} {T : Tb} {th : Nat → Int} {g : Int × Int} (hg : isV g) (hN : 130 ≤ N) (htl : t < 4) (hM : TabM μ t T) (hO : TabOk T) (ht : thM μ th) (hth : okT th) (hs : s < 3 * T.1) :
    ∃ w', isV w' ∧ (f_M_isSlip N μ (iI t) (iI s / 3) (zremI (iI s) 3) (lI g.1) (lI g.2) = some (if spP T th g s then 1 else 0, setM μ w') ∨ f_M_isSlip N μ (iI t) (iI s / 3) (zremI (iI s) 3) (lI g.1) (lI g.2) = some (if spP T th g s then 1 else 0, μ)) := by
  have hn := hO.1
  have e1 : iI (s : Int) / (3 : Int32) = iI ((s / 3 : Nat) : Int) := by
    have : iI (s : Int) / (3 : Int32) = _ := iI_div (a := s) (b := 3) (by omega) (by omega) (by omega) (by omega)
    rw [this, Int.tdiv_eq_ediv_of_nonneg (by omega)]; rfl
  have e2 : zremI (iI (s : Int)) 3 = iI ((s % 3 : Nat) : Int) := by
    have : zremI (iI (s : Int)) 3 = _ := iI_rem (a := s) (b := 3) (by omega) (by omega) (by omega) (by omega)
    rw [this, Int.tmod_eq_emod_of_nonneg (by omega)]; rfl
  have hk := hO.2.1 (s / 3) (by omega)
  rw [e1, e2]
  unfold f_M_isSlip
  by_cases c : s % 3 = 2 ∧ 3 < T.2.1 (s / 3)
  · refine ⟨g, hg, Or.inr ?_⟩
    have hP : spP T th g s = false := by
      unfold spP
      rw [show ((s % 3 : Nat) : Int) = 2 by omega, slS_none c.2 T.1 0 _ (by omega) (by omega)]
    rw [hP, zlt_eq, zif_t (by rw [ilit, iI_eq (by omega) (by omega) (by omega) (by omega)]; omega), s_M_kindOf htl hM (by omega) hn, zbnd_eq, zif_f (by rw [ilit, iI_le (by omega) (by omega) (by omega) (by omega)]; omega)]; rfl
  · obtain ⟨w', v1, v2, v3⟩ := slip_m (N := N) (μ := μ) (t := t) (j := s / 3) (T := T) (th := th) (m := ((s % 3 : Nat) : Int)) (a := lI g.1) (b := lI g.2) (kx := fun (μ19 : ZMem) => zif ((lg_cmp (μ19.2 12 0 15) (lI g.1)) = 0) (zif ((lg_cmp (μ19.2 12 0 16) (lI g.2)) = 0) (zret (1 : Int32) μ19) (zret (0 : Int32) μ19)) (zret (0 : Int32) μ19)) hN htl hM hO ht hth (by omega) (by omega) (by omega) (by omega) T.1 0 N (bg T th, 1) (by omega) (by omega) (bg_isV hth)
    refine ⟨w', v1, Or.inl ?_⟩
    refine zlt_gen (fun J hJ => ?_)
    have hJμ : J μ = some (if spP T th g s then 1 else 0, setM μ w') := by
      rw [hJ]
      simp only
      rw [s_M_begin htl hM ht hth, zbnd_eq, zlt_eq]
      refine v2.trans ?_
      unfold spP
      cases h : slS T.2.1 T.2.2.1 th (s / 3) ((s % 3 : Nat) : Int) T.1 0 (bg T th, 1) with
      | none => rfl
      | some u =>
        have hu := v3 u h
        rw [hu] at v1 ⊢
        obtain ⟨b1, b2, b3, b4, b5⟩ := v1
        obtain ⟨a1, a2, a3, a4, a5⟩ := hg
        simp only [so, setM_0, setM_1]
        by_cases d1 : u.1 = g.1
        · rw [zif_t (by rw [lcmp_eq (by omega) (by omega) (by omega) (by omega)]; exact d1)]
          by_cases d2 : u.2 = g.2
          · rw [zif_t (by rw [lcmp_eq (by omega) (by omega) (by omega) (by omega)]; exact d2), if_pos (by rw [decide_eq_true_eq]; exact Prod.ext d1 d2)]; rfl
          · rw [zif_f (by rw [lcmp_eq (by omega) (by omega) (by omega) (by omega)]; exact d2), if_neg (by rw [decide_eq_true_eq]; intro q; exact d2 (by rw [q]))]; rfl
        · rw [zif_f (by rw [lcmp_eq (by omega) (by omega) (by omega) (by omega)]; exact d1), if_neg (by rw [decide_eq_true_eq]; intro q; exact d1 (by rw [q]))]; rfl
    by_cases c2 : s % 3 = 2
    · rw [zif_t (by rw [ilit, iI_eq (by omega) (by omega) (by omega) (by omega)]; omega), s_M_kindOf htl hM (by omega) hn, zbnd_eq, zif_t (by rw [ilit, iI_le (by omega) (by omega) (by omega) (by omega)]; omega)]
      exact hJμ
    · rw [zif_f (by rw [ilit, iI_eq (by omega) (by omega) (by omega) (by omega)]; omega)]
      exact hJμ
