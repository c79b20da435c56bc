/-! kit -/
theorem s_Orders_add {N : Nat} {μ : ZMem} {o n cap : Nat} {a b : Int32} (hc : μ.1 4 o 2 = iI n) (hn : n ≤ cap) (hl : zlen 22 o = cap) (hl2 : zlen 23 o = cap) (hcap : cap < 100) :
    f_Orders_add N μ o a b = if n < cap then some (1, zsetI (zsetI (zsetI μ 22 o n a) 23 o n b) 4 o 2 (iI ((n + 1 : Nat) : Int))) else some (0, μ) := by
  unfold f_Orders_add
  have e2 : iI (n : Int) + (1 : Int32) = iI ((n + 1 : Nat) : Int) := iI_add n 1
  have r1 : (zsetI μ 22 o n a).1 4 o 2 = iI n := by rw [rI, if_neg (by omega)]; exact hc
  have r2 : (zsetI (zsetI μ 22 o n a) 23 o n b).1 4 o 2 = iI n := by rw [rI, if_neg (by omega)]; exact r1
  by_cases c : n < cap
  · rw [zif_t (by rw [hc, hl, nI_iI, iI_lt (by omega) (by omega) (by omega) (by omega)]; omega), if_pos c]
    simp only [hc, zlt_eq, cl_nat (show n < 2147483648 by omega), r1, r2, e2]
    rw [zchk_t (zin_k cap hl (by omega) (by omega) (by omega)), zchk_t (zin_k cap hl2 (by omega) (by omega) (by omega))]; rfl
  · rw [zif_f (by rw [hc, hl, nI_iI, iI_lt (by omega) (by omega) (by omega) (by omega)]; omega), if_neg c]; rfl
/-- the class's side of one order more of the kit -/
theorem s_A_kit {N : Nat} {μ : ZMem} {n : Nat} {k x : Int} (hc : μ.1 4 4 2 = iI n) (hn : n ≤ 6) (hk0 : 0 ≤ k) (hk : k ≤ 7) (hx1 : -2147483648 ≤ x) (hx2 : x < 2147483648) (hx : 6 ≤ k ∨ (-1 ≤ x ∧ x ≤ 9999)) :
    f_A_kit N μ (iI k) (iI x) = if n < 6 then some (iI ((n + 1 : Nat) : Int), zsetI (zsetI (zsetI μ 22 4 n (iI k)) 23 4 n (iI (if 6 ≤ k then 0 else if x = -1 then 10000 else x))) 4 4 2 (iI ((n + 1 : Nat) : Int))) else some (-1, μ) := by
  have fin : ∀ y : Int32, zbnd (f_Orders_add N μ (0 + 4) (iI k) y) (fun (r12 : Int32) (μ11 : ZMem) => zif (r12 = 0) (zret (-1 : Int32) μ11) (zret (μ11.1 4 (0 + 4) 2) μ11)) = if n < 6 then some (iI ((n + 1 : Nat) : Int), zsetI (zsetI (zsetI μ 22 4 n (iI k)) 23 4 n y) 4 4 2 (iI ((n + 1 : Nat) : Int))) else some (-1, μ) := by
    intro y
    rw [s_Orders_add (o := 0 + 4) (n := n) (cap := 6) hc hn rfl rfl (by omega)]
    by_cases c : n < 6
    · rw [if_pos c, if_pos c, zbnd_eq, zif_f (by decide)]
      simp [zret, rI]
    · rw [if_neg c, if_neg c, zbnd_eq, zif_t rfl]; rfl
  unfold f_A_kit
  rw [zif_f (by rw [m1, iI_eq (by omega) (by omega) (by omega) (by omega)]; omega), zif_f (by rw [zi0, iI_lt (by omega) (by omega) (by omega) (by omega)]; omega), zif_t (by rw [ilit, iI_le (by omega) (by omega) (by omega) (by omega)]; omega)]
  simp only [zlt_eq]
  by_cases c6 : 6 ≤ k
  · rw [zif_t (by rw [ilit, iI_le (by omega) (by omega) (by omega) (by omega)]; omega), zif_t trivial, zif_t trivial, if_pos c6]
    exact fin _
  · rw [zif_f (by rw [ilit, iI_le (by omega) (by omega) (by omega) (by omega)]; omega), zif_f (by decide), if_neg c6]
    by_cases cx : x = -1
    · subst cx
      rw [zif_t (by decide), zif_f (by decide), zif_t (by decide), if_pos rfl]
      exact fin _
    · have hne : ¬ iI x = (-1 : Int32) := by rw [m1, iI_eq (by omega) (by omega) (by omega) (by omega)]; omega
      rw [zif_f hne, s_A_isNumber hx1 hx2, zbnd_eq, if_pos (by omega), zif_f (by decide), zif_f (by decide), zif_f hne, if_neg cx]
      exact fin _
theorem s_M_kit {N : Nat} {μ : ZMem} {n : Nat} {k x : Int} (hc : μ.1 40 0 6 = iI n) (hn : n ≤ 6) (hk0 : 0 ≤ k) (hk : k ≤ 7) (hx1 : -2147483648 ≤ x) (hx2 : x < 2147483648) (hx : 6 ≤ k ∨ (-1 ≤ x ∧ x ≤ 9999)) :
    f_M_kit N μ (iI k) (iI x) = if n < 6 then some (iI ((n + 1 : Nat) : Int), zsetI (zsetI (zsetI μ 40 0 (12 + 2 * n) (iI k)) 40 0 (12 + 2 * n + 1) (iI (if 6 ≤ k then 0 else if x = -1 then 10000 else x))) 40 0 6 (iI ((n + 1 : Nat) : Int))) else some (-1, μ) := by
  have e1 : (12 : Int32) + (2 : Int32) * iI (n : Int) = iI ((12 + 2 * n : Nat) : Int) := by rw [ilit, ilit, iI_mul, iI_add]; rfl
  have e2 : iI ((12 + 2 * n : Nat) : Int) + (1 : Int32) = iI ((12 + 2 * n + 1 : Nat) : Int) := iI_add _ 1
  have e3 : iI (n : Int) + (1 : Int32) = iI ((n + 1 : Nat) : Int) := iI_add n 1
  have r1 : (zsetI μ 40 0 (12 + 2 * n) (iI k)).1 40 0 6 = iI n := by rw [rI, if_neg (by omega)]; exact hc
  have r2 : ∀ y, (zsetI (zsetI μ 40 0 (12 + 2 * n) (iI k)) 40 0 (12 + 2 * n + 1) y).1 40 0 6 = iI n := fun y => by rw [rI, if_neg (by omega)]; exact r1
  have z6 : zin (6 : Int32) (zlen 40 0) := by decide
  have eI : f_M_isIn N μ (iI k) 0 7 = _ := s_M_isIn (a := 0) (b := 7) (by omega) (by omega) (by omega) (by omega) (by omega) (by omega)
  have eX : f_M_isIn N μ (iI x) (-1) 9999 = some (if -1 ≤ x ∧ x ≤ 9999 then 1 else 0, μ) := by rw [m1]; exact s_M_isIn (b := 9999) hx1 hx2 (by omega) (by omega) (by omega) (by omega)
  unfold f_M_kit
  rw [zif_f (by rw [m1, iI_eq (by omega) (by omega) (by omega) (by omega)]; omega)]
  simp only [zlt_eq, eI, zbnd_eq, show (0 ≤ k ∧ k ≤ 7) from ⟨hk0, hk⟩, and_self, ite_true, show (6 : Int32).toNatClampNeg = 6 from rfl, hc, e1, r1, r2, e2, e3, eX, zchk_t z6]
  by_cases c : n < 6
  · have z1 : zin (iI ((12 + 2 * n : Nat) : Int)) (zlen 40 0) := zin_k 30 rfl (by omega) (by omega) (by omega)
    have z2 : zin (iI ((12 + 2 * n + 1 : Nat) : Int)) (zlen 40 0) := zin_k 30 rfl (by omega) (by omega) (by omega)
    have hne6 : ¬ iI (n : Int) = (6 : Int32) := by rw [ilit, iI_eq (by omega) (by omega) (by omega) (by omega)]; omega
    have n10 : ¬ (1 : Int32) = 0 := by decide
    simp only [zif_f hne6, zif_f n10, e1, zchk_t z1, zchk_t z2, cl_nat (show 12 + 2 * n < 2147483648 by omega), r1, e1, e2, zchk_t z2, cl_nat (show 12 + 2 * n + 1 < 2147483648 by omega), r2, e3, if_pos c]
    have z0 : ∀ a b : Option (Int32 × ZMem), zif ((0 : Int32) = 0) a b = a := fun a b => zif_t rfl
    by_cases c6 : 6 ≤ k
    · rw [if_pos c6]
      have : k = 6 ∨ k = 7 := by omega
      rcases this with rfl | rfl
      · rw [zif_t (by decide)]
        simp [zret, rI]
        rfl
      · rw [zif_f (by decide), zif_t (by decide)]
        simp [zret, rI]
        rfl
    · rw [if_neg c6, zif_f (by rw [ilit, iI_eq (by omega) (by omega) (by omega) (by omega)]; omega), zif_f (by rw [ilit, iI_eq (by omega) (by omega) (by omega) (by omega)]; omega), if_pos (show -1 ≤ x ∧ x ≤ 9999 by omega)]
      simp only [zif_f n10]
      by_cases cx : x = -1
      · subst cx
        simp only [if_true, zif_t (show iI (-1) = (-1 : Int32) by decide)]
        rw [zif_t trivial, zif_t trivial]
        simp [zret, rI]
        rfl
      · have hne : ¬ iI x = (-1 : Int32) := by rw [m1, iI_eq (by omega) (by omega) (by omega) (by omega)]; omega
        simp only [if_neg cx, zif_f hne]
        rw [zif_t trivial, zif_t trivial]
        simp [zret, rI]
  · have hn6 : n = 6 := by omega
    have he6 : iI (n : Int) = (6 : Int32) := by rw [hn6]; rfl
    have n10 : ¬ (1 : Int32) = 0 := by decide
    simp only [zif_t he6, zif_f n10, if_neg c]
    by_cases c6 : 6 ≤ k
    · have : k = 6 ∨ k = 7 := by omega
      rcases this with rfl | rfl
      · rw [zif_t (by decide)]; rfl
      · rw [zif_f (by decide), zif_t (by decide)]; rfl
    · rw [zif_f (by rw [ilit, iI_eq (by omega) (by omega) (by omega) (by omega)]; omega), zif_f (by rw [ilit, iI_eq (by omega) (by omega) (by omega) (by omega)]; omega), if_pos (show -1 ≤ x ∧ x ≤ 9999 by omega)]
      simp only [zif_f n10]
      rw [zif_t trivial]; rfl
theorem ag_kit (N : Nat) (p0 p1 : Int32) : Agree (fun μ => f_A_kit N μ p0 p1) (fun μ => f_M_kit N μ p0 p1) := by
  refine Agree.mk (fun μ hI => ?_)
  have hI' := hI
  obtain ⟨ht, hf, ⟨k1, k2, k3, k4, ⟨r1, r2, r3, r4⟩, k6, k7⟩, h1, hle, htb⟩ := hI
  obtain ⟨k, hk1, hk2, rfl⟩ := iI_ex p0
  obtain ⟨x, hx1, hx2, rfl⟩ := iI_ex p1
  obtain ⟨n, hn, hn1, hn2⟩ := nat_ex r2 r3
  have hn40 : μ.1 40 0 6 = iI n := by rw [← r1]; exact hn1
  have n4a : (μ.1 5 0 0).toInt ≤ 4 := k1.2.2
  have n4b : (μ.1 5 1 0).toInt ≤ 4 := h1.1.2.2
  by_cases c : k = -1
  · subst c
    refine ⟨0, zsetI μ 4 4 2 0, zsetI (zsetI μ 4 4 2 0) 40 0 6 0, by unfold f_A_kit; rw [zif_t (by decide)]; rfl, by unfold f_M_kit; rw [zif_t (by decide), zchk_t (by decide)]; rfl, ?_⟩
    refine ⟨ht.congr (by intros; first | rfl | (simp [rI, rIJ, rJ, rJI]; done) | (simp [rI, rIJ, rJ, rJI]; intros; omega) | (simp only [rI, rIJ, rJ, rJI]; repeat (first | rw [if_neg (by omega)] | rfl | exact ⟨rfl, rfl⟩))) (by intros; first | rfl | (simp [rI, rIJ, rJ, rJI]; done) | (simp [rI, rIJ, rJ, rJI]; intros; omega) | (simp only [rI, rIJ, rJ, rJI]; repeat (first | rw [if_neg (by omega)] | rfl | exact ⟨rfl, rfl⟩))) (by intros; first | rfl | (simp [rI, rIJ, rJ, rJI]; done) | (simp [rI, rIJ, rJ, rJI]; intros; omega) | (simp only [rI, rIJ, rJ, rJI]; repeat (first | rw [if_neg (by omega)] | rfl | exact ⟨rfl, rfl⟩))) (by intros; first | rfl | (simp [rI, rIJ, rJ, rJI]; done) | (simp [rI, rIJ, rJ, rJI]; intros; omega) | (simp only [rI, rIJ, rJ, rJI]; repeat (first | rw [if_neg (by omega)] | rfl | exact ⟨rfl, rfl⟩))), ⟨by simp [rI, rJI, rJ, rIJ]; exact hf.1, by simp [rI, rJI, rJ, rIJ]; exact hf.2⟩, ⟨k1.congr (by intros; first | rfl | (simp [rI, rIJ, rJ, rJI]; done) | (simp [rI, rIJ, rJ, rJI]; intros; omega) | (simp only [rI, rIJ, rJ, rJI]; repeat (first | rw [if_neg (by omega)] | rfl | exact ⟨rfl, rfl⟩))) (by intros; first | rfl | (simp [rI, rIJ, rJ, rJI]; done) | (simp [rI, rIJ, rJ, rJI]; intros; omega) | (simp only [rI, rIJ, rJ, rJI]; repeat (first | rw [if_neg (by omega)] | rfl | exact ⟨rfl, rfl⟩))), k2.congr (by intros; first | rfl | (simp [rI, rIJ, rJ, rJI]; done) | (simp [rI, rIJ, rJ, rJI]; intros; omega) | (simp only [rI, rIJ, rJ, rJI]; repeat (first | rw [if_neg (by omega)] | rfl | exact ⟨rfl, rfl⟩))) (by intros; first | rfl | (simp [rI, rIJ, rJ, rJI]; done) | (simp [rI, rIJ, rJ, rJI]; intros; omega) | (simp only [rI, rIJ, rJ, rJI]; repeat (first | rw [if_neg (by omega)] | rfl | exact ⟨rfl, rfl⟩))), k3.congr (by intros; first | rfl | (simp [rI, rIJ, rJ, rJI]; done) | (simp [rI, rIJ, rJ, rJI]; intros; omega) | (simp only [rI, rIJ, rJ, rJI]; repeat (first | rw [if_neg (by omega)] | rfl | exact ⟨rfl, rfl⟩))) (by intros; first | rfl | (simp [rI, rIJ, rJ, rJI]; done) | (simp [rI, rIJ, rJ, rJI]; intros; omega) | (simp only [rI, rIJ, rJ, rJI]; repeat (first | rw [if_neg (by omega)] | rfl | exact ⟨rfl, rfl⟩))) (by intros; first | rfl | (simp [rI, rIJ, rJ, rJI]; done) | (simp [rI, rIJ, rJ, rJI]; intros; omega) | (simp only [rI, rIJ, rJ, rJI]; repeat (first | rw [if_neg (by omega)] | rfl | exact ⟨rfl, rfl⟩))) (by intros; first | rfl | (simp [rI, rIJ, rJ, rJI]; done) | (simp [rI, rIJ, rJ, rJI]; intros; omega) | (simp only [rI, rIJ, rJ, rJI]; repeat (first | rw [if_neg (by omega)] | rfl | exact ⟨rfl, rfl⟩))) (by intros; first | rfl | (simp [rI, rIJ, rJ, rJI]; done) | (simp [rI, rIJ, rJ, rJI]; intros; omega) | (simp only [rI, rIJ, rJ, rJI]; repeat (first | rw [if_neg (by omega)] | rfl | exact ⟨rfl, rfl⟩))), k4.congr (by intros; first | rfl | (simp [rI, rIJ, rJ, rJI]; done) | (simp [rI, rIJ, rJ, rJI]; intros; omega) | (simp only [rI, rIJ, rJ, rJI]; repeat (first | rw [if_neg (by omega)] | rfl | exact ⟨rfl, rfl⟩))) (by intros; first | rfl | (simp [rI, rIJ, rJ, rJI]; done) | (simp [rI, rIJ, rJ, rJI]; intros; omega) | (simp only [rI, rIJ, rJ, rJI]; repeat (first | rw [if_neg (by omega)] | rfl | exact ⟨rfl, rfl⟩))) (by intros; first | rfl | (simp [rI, rIJ, rJ, rJI]; done) | (simp [rI, rIJ, rJ, rJI]; intros; omega) | (simp only [rI, rIJ, rJ, rJI]; repeat (first | rw [if_neg (by omega)] | rfl | exact ⟨rfl, rfl⟩))) (by intros; first | rfl | (simp [rI, rIJ, rJ, rJI]; done) | (simp [rI, rIJ, rJ, rJI]; intros; omega) | (simp only [rI, rIJ, rJ, rJI]; repeat (first | rw [if_neg (by omega)] | rfl | exact ⟨rfl, rfl⟩))) (by intros; first | rfl | (simp [rI, rIJ, rJ, rJI]; done) | (simp [rI, rIJ, rJ, rJI]; intros; omega) | (simp only [rI, rIJ, rJ, rJI]; repeat (first | rw [if_neg (by omega)] | rfl | exact ⟨rfl, rfl⟩))), ?_, k6.congr (by intros; first | rfl | (simp [rI, rIJ, rJ, rJI]; done) | (simp [rI, rIJ, rJ, rJI]; intros; omega) | (simp only [rI, rIJ, rJ, rJI]; repeat (first | rw [if_neg (by omega)] | rfl | exact ⟨rfl, rfl⟩))) (by intros; first | rfl | (simp [rI, rIJ, rJ, rJI]; done) | (simp [rI, rIJ, rJ, rJI]; intros; omega) | (simp only [rI, rIJ, rJ, rJI]; repeat (first | rw [if_neg (by omega)] | rfl | exact ⟨rfl, rfl⟩))) (by intros; first | rfl | (simp [rI, rIJ, rJ, rJI]; done) | (simp [rI, rIJ, rJ, rJI]; intros; omega) | (simp only [rI, rIJ, rJ, rJI]; repeat (first | rw [if_neg (by omega)] | rfl | exact ⟨rfl, rfl⟩))) (by intros; first | rfl | (simp [rI, rIJ, rJ, rJI]; done) | (simp [rI, rIJ, rJ, rJI]; intros; omega) | (simp only [rI, rIJ, rJ, rJI]; repeat (first | rw [if_neg (by omega)] | rfl | exact ⟨rfl, rfl⟩))), k7.congr (by intros; first | rfl | (simp [rI, rIJ, rJ, rJI]; done) | (simp [rI, rIJ, rJ, rJI]; intros; omega) | (simp only [rI, rIJ, rJ, rJI]; repeat (first | rw [if_neg (by omega)] | rfl | exact ⟨rfl, rfl⟩))) (by intros; first | rfl | (simp [rI, rIJ, rJ, rJI]; done) | (simp [rI, rIJ, rJ, rJI]; intros; omega) | (simp only [rI, rIJ, rJ, rJI]; repeat (first | rw [if_neg (by omega)] | rfl | exact ⟨rfl, rfl⟩))) (by intros; first | rfl | (simp [rI, rIJ, rJ, rJI]; done) | (simp [rI, rIJ, rJ, rJI]; intros; omega) | (simp only [rI, rIJ, rJ, rJI]; repeat (first | rw [if_neg (by omega)] | rfl | exact ⟨rfl, rfl⟩))) (by intros; first | rfl | (simp [rI, rIJ, rJ, rJI]; done) | (simp [rI, rIJ, rJ, rJI]; intros; omega) | (simp only [rI, rIJ, rJ, rJI]; repeat (first | rw [if_neg (by omega)] | rfl | exact ⟨rfl, rfl⟩))) (by intros; first | rfl | (simp [rI, rIJ, rJ, rJI]; done) | (simp [rI, rIJ, rJ, rJI]; intros; omega) | (simp only [rI, rIJ, rJ, rJI]; repeat (first | rw [if_neg (by omega)] | rfl | exact ⟨rfl, rfl⟩))) (by intros; first | rfl | (simp [rI, rIJ, rJ, rJI]; done) | (simp [rI, rIJ, rJ, rJI]; intros; omega) | (simp only [rI, rIJ, rJ, rJI]; repeat (first | rw [if_neg (by omega)] | rfl | exact ⟨rfl, rfl⟩))) (by intros; first | rfl | (simp [rI, rIJ, rJ, rJI]; done) | (simp [rI, rIJ, rJ, rJI]; intros; omega) | (simp only [rI, rIJ, rJ, rJI]; repeat (first | rw [if_neg (by omega)] | rfl | exact ⟨rfl, rfl⟩))) (by intros; first | rfl | (simp [rI, rIJ, rJ, rJI]; done) | (simp [rI, rIJ, rJ, rJI]; intros; omega) | (simp only [rI, rIJ, rJ, rJI]; repeat (first | rw [if_neg (by omega)] | rfl | exact ⟨rfl, rfl⟩))) (by intros; first | rfl | (simp [rI, rIJ, rJ, rJI]; done) | (simp [rI, rIJ, rJ, rJI]; intros; omega) | (simp only [rI, rIJ, rJ, rJI]; repeat (first | rw [if_neg (by omega)] | rfl | exact ⟨rfl, rfl⟩))) (by intros; first | rfl | (simp [rI, rIJ, rJ, rJI]; done) | (simp [rI, rIJ, rJ, rJI]; intros; omega) | (simp only [rI, rIJ, rJ, rJI]; repeat (first | rw [if_neg (by omega)] | rfl | exact ⟨rfl, rfl⟩)))⟩, h1.congr (by intros; first | rfl | (simp [rI, rIJ, rJ, rJI]; done) | (simp [rI, rIJ, rJ, rJI]; intros; omega) | (simp only [rI, rIJ, rJ, rJI]; repeat (first | rw [if_neg (by omega)] | rfl | exact ⟨rfl, rfl⟩))) (by intros; first | rfl | (simp [rI, rIJ, rJ, rJI]; done) | (simp [rI, rIJ, rJ, rJI]; intros; omega) | (simp only [rI, rIJ, rJ, rJI]; repeat (first | rw [if_neg (by omega)] | rfl | exact ⟨rfl, rfl⟩))) (by intros; first | rfl | (simp [rI, rIJ, rJ, rJI]; done) | (simp [rI, rIJ, rJ, rJI]; intros; omega) | (simp only [rI, rIJ, rJ, rJI]; repeat (first | rw [if_neg (by omega)] | rfl | exact ⟨rfl, rfl⟩))) (by intros; first | rfl | (simp [rI, rIJ, rJ, rJI]; done) | (simp [rI, rIJ, rJ, rJI]; intros; omega) | (simp only [rI, rIJ, rJ, rJI]; repeat (first | rw [if_neg (by omega)] | rfl | exact ⟨rfl, rfl⟩))) (by intros; first | rfl | (simp [rI, rIJ, rJ, rJI]; done) | (simp [rI, rIJ, rJ, rJI]; intros; omega) | (simp only [rI, rIJ, rJ, rJI]; repeat (first | rw [if_neg (by omega)] | rfl | exact ⟨rfl, rfl⟩))) (by intros; first | rfl | (simp [rI, rIJ, rJ, rJI]; done) | (simp [rI, rIJ, rJ, rJI]; intros; omega) | (simp only [rI, rIJ, rJ, rJI]; repeat (first | rw [if_neg (by omega)] | rfl | exact ⟨rfl, rfl⟩))) (by intros; first | rfl | (simp [rI, rIJ, rJ, rJI]; done) | (simp [rI, rIJ, rJ, rJI]; intros; omega) | (simp only [rI, rIJ, rJ, rJI]; repeat (first | rw [if_neg (by omega)] | rfl | exact ⟨rfl, rfl⟩))) (by intros; first | rfl | (simp [rI, rIJ, rJ, rJI]; done) | (simp [rI, rIJ, rJ, rJI]; intros; omega) | (simp only [rI, rIJ, rJ, rJI]; repeat (first | rw [if_neg (by omega)] | rfl | exact ⟨rfl, rfl⟩))) (by intros; first | rfl | (simp [rI, rIJ, rJ, rJI]; done) | (simp [rI, rIJ, rJ, rJI]; intros; omega) | (simp only [rI, rIJ, rJ, rJI]; repeat (first | rw [if_neg (by omega)] | rfl | exact ⟨rfl, rfl⟩))) (by intros; first | rfl | (simp [rI, rIJ, rJ, rJI]; done) | (simp [rI, rIJ, rJ, rJI]; intros; omega) | (simp only [rI, rIJ, rJ, rJI]; repeat (first | rw [if_neg (by omega)] | rfl | exact ⟨rfl, rfl⟩))) (by intros; first | rfl | (simp [rI, rIJ, rJ, rJI]; done) | (simp [rI, rIJ, rJ, rJI]; intros; omega) | (simp only [rI, rIJ, rJ, rJI]; repeat (first | rw [if_neg (by omega)] | rfl | exact ⟨rfl, rfl⟩))) (by intros; first | rfl | (simp [rI, rIJ, rJ, rJI]; done) | (simp [rI, rIJ, rJ, rJI]; intros; omega) | (simp only [rI, rIJ, rJ, rJI]; repeat (first | rw [if_neg (by omega)] | rfl | exact ⟨rfl, rfl⟩))), by simp [rI, rJI, rJ, rIJ]; exact hle, htb.congr (by intros; first | rfl | (simp [rI, rIJ, rJ, rJI]; done) | (simp [rI, rIJ, rJ, rJI]; intros; omega) | (simp only [rI, rIJ, rJ, rJI]; repeat (first | rw [if_neg (by omega)] | rfl | exact ⟨rfl, rfl⟩))) (by intros; first | rfl | (simp [rI, rIJ, rJ, rJI]; done) | (simp [rI, rIJ, rJ, rJI]; intros; omega) | (simp only [rI, rIJ, rJ, rJI]; repeat (first | rw [if_neg (by omega)] | rfl | exact ⟨rfl, rfl⟩))) (by intros; first | rfl | (simp [rI, rIJ, rJ, rJI]; done) | (simp [rI, rIJ, rJ, rJI]; intros; omega) | (simp only [rI, rIJ, rJ, rJI]; repeat (first | rw [if_neg (by omega)] | rfl | exact ⟨rfl, rfl⟩))) (by intros; first | rfl | (simp [rI, rIJ, rJ, rJI]; done) | (simp [rI, rIJ, rJ, rJI]; intros; omega) | (simp only [rI, rIJ, rJ, rJI]; repeat (first | rw [if_neg (by omega)] | rfl | exact ⟨rfl, rfl⟩))) (by intros; first | rfl | (simp [rI, rIJ, rJ, rJI]; done) | (simp [rI, rIJ, rJ, rJI]; intros; omega) | (simp only [rI, rIJ, rJ, rJI]; repeat (first | rw [if_neg (by omega)] | rfl | exact ⟨rfl, rfl⟩))) (by intros; first | rfl | (simp [rI, rIJ, rJ, rJI]; done) | (simp [rI, rIJ, rJ, rJI]; intros; omega) | (simp only [rI, rIJ, rJ, rJI]; repeat (first | rw [if_neg (by omega)] | rfl | exact ⟨rfl, rfl⟩))) (by intros; first | rfl | (simp [rI, rIJ, rJ, rJI]; done) | (simp [rI, rIJ, rJ, rJI]; intros; omega) | (simp only [rI, rIJ, rJ, rJI]; repeat (first | rw [if_neg (by omega)] | rfl | exact ⟨rfl, rfl⟩))) k1.2.2⟩
    exact ⟨by simp [rI], by simp [rI], by simp [rI], fun j hj => by simp [rI] at hj; omega⟩
  · have hne : ¬ iI k = (-1 : Int32) := by rw [m1, iI_eq (by omega) (by omega) (by omega) (by omega)]; omega
    by_cases c2 : (0 ≤ k ∧ k ≤ 7) ∧ (6 ≤ k ∨ (-1 ≤ x ∧ x ≤ 9999))
    · obtain ⟨⟨c3, c4⟩, c5⟩ := c2
      have hA := s_A_kit (N := N) (μ := μ) hn1 (by omega) c3 c4 hx1 hx2 c5
      by_cases c6 : n < 6
      · rw [if_pos c6] at hA
        have hM := s_M_kit (N := N) (μ := zsetI (zsetI (zsetI μ 22 4 n (iI k)) 23 4 n (iI (if 6 ≤ k then 0 else if x = -1 then 10000 else x))) 4 4 2 (iI ((n + 1 : Nat) : Int))) (n := n) (by rw [rI, if_neg (by omega), rI, if_neg (by omega), rI, if_neg (by omega)]; exact hn40) (by omega) c3 c4 hx1 hx2 c5
        rw [if_pos c6] at hM
        refine ⟨_, _, _, hA, hM, ?_⟩
        have hy : 0 ≤ (if 6 ≤ k then 0 else if x = -1 then 10000 else x) ∧ (if 6 ≤ k then 0 else if x = -1 then 10000 else x) ≤ 10000 := by
          split
          · omega
          · split <;> omega
        generalize (if 6 ≤ k then 0 else if x = -1 then 10000 else x) = y at hy ⊢
        refine ⟨ht.congr (by intros; first | rfl | (simp [rI, rIJ, rJ, rJI]; done) | (simp [rI, rIJ, rJ, rJI]; intros; omega) | (simp only [rI, rIJ, rJ, rJI]; repeat (first | rw [if_neg (by omega)] | rfl | exact ⟨rfl, rfl⟩))) (by intros; first | rfl | (simp [rI, rIJ, rJ, rJI]; done) | (simp [rI, rIJ, rJ, rJI]; intros; omega) | (simp only [rI, rIJ, rJ, rJI]; repeat (first | rw [if_neg (by omega)] | rfl | exact ⟨rfl, rfl⟩))) (by intros; first | rfl | (simp [rI, rIJ, rJ, rJI]; done) | (simp [rI, rIJ, rJ, rJI]; intros; omega) | (simp only [rI, rIJ, rJ, rJI]; repeat (first | rw [if_neg (by omega)] | rfl | exact ⟨rfl, rfl⟩))) (by intros; first | rfl | (simp [rI, rIJ, rJ, rJI]; done) | (simp [rI, rIJ, rJ, rJI]; intros; omega) | (simp only [rI, rIJ, rJ, rJI]; repeat (first | rw [if_neg (by omega)] | rfl | exact ⟨rfl, rfl⟩))), ⟨by simp [rI, rJI, rJ, rIJ]; exact hf.1, by simp [rI, rJI, rJ, rIJ]; exact hf.2⟩, ⟨k1.congr (by intros; first | rfl | (simp [rI, rIJ, rJ, rJI]; done) | (simp [rI, rIJ, rJ, rJI]; intros; omega) | (simp only [rI, rIJ, rJ, rJI]; repeat (first | rw [if_neg (by omega)] | rfl | exact ⟨rfl, rfl⟩))) (by intros; first | rfl | (simp [rI, rIJ, rJ, rJI]; done) | (simp [rI, rIJ, rJ, rJI]; intros; omega) | (simp only [rI, rIJ, rJ, rJI]; repeat (first | rw [if_neg (by omega)] | rfl | exact ⟨rfl, rfl⟩))), k2.congr (by intros; first | rfl | (simp [rI, rIJ, rJ, rJI]; done) | (simp [rI, rIJ, rJ, rJI]; intros; omega) | (simp only [rI, rIJ, rJ, rJI]; repeat (first | rw [if_neg (by omega)] | rfl | exact ⟨rfl, rfl⟩))) (by intros; first | rfl | (simp [rI, rIJ, rJ, rJI]; done) | (simp [rI, rIJ, rJ, rJI]; intros; omega) | (simp only [rI, rIJ, rJ, rJI]; repeat (first | rw [if_neg (by omega)] | rfl | exact ⟨rfl, rfl⟩))), k3.congr (by intros; first | rfl | (simp [rI, rIJ, rJ, rJI]; done) | (simp [rI, rIJ, rJ, rJI]; intros; omega) | (simp only [rI, rIJ, rJ, rJI]; repeat (first | rw [if_neg (by omega)] | rfl | exact ⟨rfl, rfl⟩))) (by intros; first | rfl | (simp [rI, rIJ, rJ, rJI]; done) | (simp [rI, rIJ, rJ, rJI]; intros; omega) | (simp only [rI, rIJ, rJ, rJI]; repeat (first | rw [if_neg (by omega)] | rfl | exact ⟨rfl, rfl⟩))) (by intros; first | rfl | (simp [rI, rIJ, rJ, rJI]; done) | (simp [rI, rIJ, rJ, rJI]; intros; omega) | (simp only [rI, rIJ, rJ, rJI]; repeat (first | rw [if_neg (by omega)] | rfl | exact ⟨rfl, rfl⟩))) (by intros; first | rfl | (simp [rI, rIJ, rJ, rJI]; done) | (simp [rI, rIJ, rJ, rJI]; intros; omega) | (simp only [rI, rIJ, rJ, rJI]; repeat (first | rw [if_neg (by omega)] | rfl | exact ⟨rfl, rfl⟩))) (by intros; first | rfl | (simp [rI, rIJ, rJ, rJI]; done) | (simp [rI, rIJ, rJ, rJI]; intros; omega) | (simp only [rI, rIJ, rJ, rJI]; repeat (first | rw [if_neg (by omega)] | rfl | exact ⟨rfl, rfl⟩))), k4.congr (by intros; first | rfl | (simp [rI, rIJ, rJ, rJI]; done) | (simp [rI, rIJ, rJ, rJI]; intros; omega) | (simp only [rI, rIJ, rJ, rJI]; repeat (first | rw [if_neg (by omega)] | rfl | exact ⟨rfl, rfl⟩))) (by intros; first | rfl | (simp [rI, rIJ, rJ, rJI]; done) | (simp [rI, rIJ, rJ, rJI]; intros; omega) | (simp only [rI, rIJ, rJ, rJI]; repeat (first | rw [if_neg (by omega)] | rfl | exact ⟨rfl, rfl⟩))) (by intros; first | rfl | (simp [rI, rIJ, rJ, rJI]; done) | (simp [rI, rIJ, rJ, rJI]; intros; omega) | (simp only [rI, rIJ, rJ, rJI]; repeat (first | rw [if_neg (by omega)] | rfl | exact ⟨rfl, rfl⟩))) (by intros; first | rfl | (simp [rI, rIJ, rJ, rJI]; done) | (simp [rI, rIJ, rJ, rJI]; intros; omega) | (simp only [rI, rIJ, rJ, rJI]; repeat (first | rw [if_neg (by omega)] | rfl | exact ⟨rfl, rfl⟩))) (by intros; first | rfl | (simp [rI, rIJ, rJ, rJI]; done) | (simp [rI, rIJ, rJ, rJI]; intros; omega) | (simp only [rI, rIJ, rJ, rJI]; repeat (first | rw [if_neg (by omega)] | rfl | exact ⟨rfl, rfl⟩))), ?_, k6.congr (by intros; first | rfl | (simp [rI, rIJ, rJ, rJI]; done) | (simp [rI, rIJ, rJ, rJI]; intros; omega) | (simp only [rI, rIJ, rJ, rJI]; repeat (first | rw [if_neg (by omega)] | rfl | exact ⟨rfl, rfl⟩))) (by intros; first | rfl | (simp [rI, rIJ, rJ, rJI]; done) | (simp [rI, rIJ, rJ, rJI]; intros; omega) | (simp only [rI, rIJ, rJ, rJI]; repeat (first | rw [if_neg (by omega)] | rfl | exact ⟨rfl, rfl⟩))) (by intros; first | rfl | (simp [rI, rIJ, rJ, rJI]; done) | (simp [rI, rIJ, rJ, rJI]; intros; omega) | (simp only [rI, rIJ, rJ, rJI]; repeat (first | rw [if_neg (by omega)] | rfl | exact ⟨rfl, rfl⟩))) (by intros; first | rfl | (simp [rI, rIJ, rJ, rJI]; done) | (simp [rI, rIJ, rJ, rJI]; intros; omega) | (simp only [rI, rIJ, rJ, rJI]; repeat (first | rw [if_neg (by omega)] | rfl | exact ⟨rfl, rfl⟩))), k7.congr (by intros; first | rfl | (simp [rI, rIJ, rJ, rJI]; done) | (simp [rI, rIJ, rJ, rJI]; intros; omega) | (simp only [rI, rIJ, rJ, rJI]; repeat (first | rw [if_neg (by omega)] | rfl | exact ⟨rfl, rfl⟩))) (by intros; first | rfl | (simp [rI, rIJ, rJ, rJI]; done) | (simp [rI, rIJ, rJ, rJI]; intros; omega) | (simp only [rI, rIJ, rJ, rJI]; repeat (first | rw [if_neg (by omega)] | rfl | exact ⟨rfl, rfl⟩))) (by intros; first | rfl | (simp [rI, rIJ, rJ, rJI]; done) | (simp [rI, rIJ, rJ, rJI]; intros; omega) | (simp only [rI, rIJ, rJ, rJI]; repeat (first | rw [if_neg (by omega)] | rfl | exact ⟨rfl, rfl⟩))) (by intros; first | rfl | (simp [rI, rIJ, rJ, rJI]; done) | (simp [rI, rIJ, rJ, rJI]; intros; omega) | (simp only [rI, rIJ, rJ, rJI]; repeat (first | rw [if_neg (by omega)] | rfl | exact ⟨rfl, rfl⟩))) (by intros; first | rfl | (simp [rI, rIJ, rJ, rJI]; done) | (simp [rI, rIJ, rJ, rJI]; intros; omega) | (simp only [rI, rIJ, rJ, rJI]; repeat (first | rw [if_neg (by omega)] | rfl | exact ⟨rfl, rfl⟩))) (by intros; first | rfl | (simp [rI, rIJ, rJ, rJI]; done) | (simp [rI, rIJ, rJ, rJI]; intros; omega) | (simp only [rI, rIJ, rJ, rJI]; repeat (first | rw [if_neg (by omega)] | rfl | exact ⟨rfl, rfl⟩))) (by intros; first | rfl | (simp [rI, rIJ, rJ, rJI]; done) | (simp [rI, rIJ, rJ, rJI]; intros; omega) | (simp only [rI, rIJ, rJ, rJI]; repeat (first | rw [if_neg (by omega)] | rfl | exact ⟨rfl, rfl⟩))) (by intros; first | rfl | (simp [rI, rIJ, rJ, rJI]; done) | (simp [rI, rIJ, rJ, rJI]; intros; omega) | (simp only [rI, rIJ, rJ, rJI]; repeat (first | rw [if_neg (by omega)] | rfl | exact ⟨rfl, rfl⟩))) (by intros; first | rfl | (simp [rI, rIJ, rJ, rJI]; done) | (simp [rI, rIJ, rJ, rJI]; intros; omega) | (simp only [rI, rIJ, rJ, rJI]; repeat (first | rw [if_neg (by omega)] | rfl | exact ⟨rfl, rfl⟩))) (by intros; first | rfl | (simp [rI, rIJ, rJ, rJI]; done) | (simp [rI, rIJ, rJ, rJI]; intros; omega) | (simp only [rI, rIJ, rJ, rJI]; repeat (first | rw [if_neg (by omega)] | rfl | exact ⟨rfl, rfl⟩)))⟩, h1.congr (by intros; first | rfl | (simp [rI, rIJ, rJ, rJI]; done) | (simp [rI, rIJ, rJ, rJI]; intros; omega) | (simp only [rI, rIJ, rJ, rJI]; repeat (first | rw [if_neg (by omega)] | rfl | exact ⟨rfl, rfl⟩))) (by intros; first | rfl | (simp [rI, rIJ, rJ, rJI]; done) | (simp [rI, rIJ, rJ, rJI]; intros; omega) | (simp only [rI, rIJ, rJ, rJI]; repeat (first | rw [if_neg (by omega)] | rfl | exact ⟨rfl, rfl⟩))) (by intros; first | rfl | (simp [rI, rIJ, rJ, rJI]; done) | (simp [rI, rIJ, rJ, rJI]; intros; omega) | (simp only [rI, rIJ, rJ, rJI]; repeat (first | rw [if_neg (by omega)] | rfl | exact ⟨rfl, rfl⟩))) (by intros; first | rfl | (simp [rI, rIJ, rJ, rJI]; done) | (simp [rI, rIJ, rJ, rJI]; intros; omega) | (simp only [rI, rIJ, rJ, rJI]; repeat (first | rw [if_neg (by omega)] | rfl | exact ⟨rfl, rfl⟩))) (by intros; first | rfl | (simp [rI, rIJ, rJ, rJI]; done) | (simp [rI, rIJ, rJ, rJI]; intros; omega) | (simp only [rI, rIJ, rJ, rJI]; repeat (first | rw [if_neg (by omega)] | rfl | exact ⟨rfl, rfl⟩))) (by intros; first | rfl | (simp [rI, rIJ, rJ, rJI]; done) | (simp [rI, rIJ, rJ, rJI]; intros; omega) | (simp only [rI, rIJ, rJ, rJI]; repeat (first | rw [if_neg (by omega)] | rfl | exact ⟨rfl, rfl⟩))) (by intros; first | rfl | (simp [rI, rIJ, rJ, rJI]; done) | (simp [rI, rIJ, rJ, rJI]; intros; omega) | (simp only [rI, rIJ, rJ, rJI]; repeat (first | rw [if_neg (by omega)] | rfl | exact ⟨rfl, rfl⟩))) (by intros; first | rfl | (simp [rI, rIJ, rJ, rJI]; done) | (simp [rI, rIJ, rJ, rJI]; intros; omega) | (simp only [rI, rIJ, rJ, rJI]; repeat (first | rw [if_neg (by omega)] | rfl | exact ⟨rfl, rfl⟩))) (by intros; first | rfl | (simp [rI, rIJ, rJ, rJI]; done) | (simp [rI, rIJ, rJ, rJI]; intros; omega) | (simp only [rI, rIJ, rJ, rJI]; repeat (first | rw [if_neg (by omega)] | rfl | exact ⟨rfl, rfl⟩))) (by intros; first | rfl | (simp [rI, rIJ, rJ, rJI]; done) | (simp [rI, rIJ, rJ, rJI]; intros; omega) | (simp only [rI, rIJ, rJ, rJI]; repeat (first | rw [if_neg (by omega)] | rfl | exact ⟨rfl, rfl⟩))) (by intros; first | rfl | (simp [rI, rIJ, rJ, rJI]; done) | (simp [rI, rIJ, rJ, rJI]; intros; omega) | (simp only [rI, rIJ, rJ, rJI]; repeat (first | rw [if_neg (by omega)] | rfl | exact ⟨rfl, rfl⟩))) (by intros; first | rfl | (simp [rI, rIJ, rJ, rJI]; done) | (simp [rI, rIJ, rJ, rJI]; intros; omega) | (simp only [rI, rIJ, rJ, rJI]; repeat (first | rw [if_neg (by omega)] | rfl | exact ⟨rfl, rfl⟩))), by simp [rI, rJI, rJ, rIJ]; exact hle, htb.congr (by intros; first | rfl | (simp [rI, rIJ, rJ, rJI]; done) | (simp [rI, rIJ, rJ, rJI]; intros; omega) | (simp only [rI, rIJ, rJ, rJI]; repeat (first | rw [if_neg (by omega)] | rfl | exact ⟨rfl, rfl⟩))) (by intros; first | rfl | (simp [rI, rIJ, rJ, rJI]; done) | (simp [rI, rIJ, rJ, rJI]; intros; omega) | (simp only [rI, rIJ, rJ, rJI]; repeat (first | rw [if_neg (by omega)] | rfl | exact ⟨rfl, rfl⟩))) (by intros; first | rfl | (simp [rI, rIJ, rJ, rJI]; done) | (simp [rI, rIJ, rJ, rJI]; intros; omega) | (simp only [rI, rIJ, rJ, rJI]; repeat (first | rw [if_neg (by omega)] | rfl | exact ⟨rfl, rfl⟩))) (by intros; first | rfl | (simp [rI, rIJ, rJ, rJI]; done) | (simp [rI, rIJ, rJ, rJI]; intros; omega) | (simp only [rI, rIJ, rJ, rJI]; repeat (first | rw [if_neg (by omega)] | rfl | exact ⟨rfl, rfl⟩))) (by intros; first | rfl | (simp [rI, rIJ, rJ, rJI]; done) | (simp [rI, rIJ, rJ, rJI]; intros; omega) | (simp only [rI, rIJ, rJ, rJI]; repeat (first | rw [if_neg (by omega)] | rfl | exact ⟨rfl, rfl⟩))) (by intros; first | rfl | (simp [rI, rIJ, rJ, rJI]; done) | (simp [rI, rIJ, rJ, rJI]; intros; omega) | (simp only [rI, rIJ, rJ, rJI]; repeat (first | rw [if_neg (by omega)] | rfl | exact ⟨rfl, rfl⟩))) (by intros; first | rfl | (simp [rI, rIJ, rJ, rJI]; done) | (simp [rI, rIJ, rJ, rJI]; intros; omega) | (simp only [rI, rIJ, rJ, rJI]; repeat (first | rw [if_neg (by omega)] | rfl | exact ⟨rfl, rfl⟩))) k1.2.2⟩
        have e9' : (iI ((n : Int) + 1)).toInt = n + 1 := toI (by omega) (by omega)
        refine ⟨by simp [rI], by simp [rI, e9']; omega, by simp [rI, e9']; omega, fun j hj => ?_⟩
        simp [rI, e9'] at hj ⊢
        by_cases q : j = n
        · subst q
          simp [toI (n := k) (by omega) (by omega), toI (n := y) (by omega) (by omega), show ¬ 12 + 2 * j = 6 by omega, show ¬ 12 + 2 * j + 1 = 6 by omega]
          omega
        · have := r4 j (by omega)
          simp [q, show ¬ 12 + 2 * j = 6 by omega, show ¬ 12 + 2 * j = 5 by omega, show ¬ 12 + 2 * j + 1 = 6 by omega, show ¬ 2 * j = 2 * n by omega, show ¬ 12 + 2 * j = 12 + 2 * n + 1 by omega, show ¬ 12 + 2 * j + 1 = 12 + 2 * n by omega]
          exact this
      · rw [if_neg c6] at hA
        have hM := s_M_kit (N := N) (μ := μ) hn40 (by omega) c3 c4 hx1 hx2 c5
        rw [if_neg c6] at hM
        exact ⟨_, _, _, hA, hM, hI'⟩
    · refine ⟨-1, μ, μ, ?_, ?_, hI'⟩
      · unfold f_A_kit
        rw [zif_f hne]
        by_cases c3 : k < 0
        · rw [zif_t (by rw [zi0, iI_lt (by omega) (by omega) (by omega) (by omega)]; omega)]; rfl
        · rw [zif_f (by rw [zi0, iI_lt (by omega) (by omega) (by omega) (by omega)]; omega)]
          by_cases c4 : k ≤ 7
          · rw [zif_t (by rw [ilit, iI_le (by omega) (by omega) (by omega) (by omega)]; omega)]
            simp only [zlt_eq]
            rw [zif_f (by rw [ilit, iI_le (by omega) (by omega) (by omega) (by omega)]; omega), zif_f (by decide), zif_f (by rw [m1, iI_eq (by omega) (by omega) (by omega) (by omega)]; omega), s_A_isNumber hx1 hx2, zbnd_eq, if_neg (by omega), zif_t rfl]; rfl
          · rw [zif_f (by rw [ilit, iI_le (by omega) (by omega) (by omega) (by omega)]; omega)]; rfl
      · unfold f_M_kit
        have eI : f_M_isIn N μ (iI k) 0 7 = _ := s_M_isIn (a := 0) (b := 7) (by omega) (by omega) (by omega) (by omega) (by omega) (by omega)
        have eX : f_M_isIn N μ (iI x) (-1) 9999 = some (if -1 ≤ x ∧ x ≤ 9999 then 1 else 0, μ) := by rw [m1]; exact s_M_isIn (b := 9999) hx1 hx2 (by omega) (by omega) (by omega) (by omega)
        rw [zif_f hne]
        refine zlt_gen (fun J hJ => ?_)
        have hJ0 : ∀ y : Int32, ¬ (0 ≤ k ∧ k ≤ 7) → J y μ = some (-1, μ) := fun y q => by
          rw [hJ]; simp only [zlt_eq]
          rw [eI, zbnd_eq, if_neg q, zif_t rfl]; rfl
        have hJ1 : (0 ≤ k ∧ k ≤ 7) → ¬ (-1 ≤ x ∧ x ≤ 9999) → J 0 μ = some (-1, μ) := fun q q2 => by
          rw [hJ]; simp only [zlt_eq]
          rw [eI, zbnd_eq, if_pos q, zif_f (by decide), zif_t trivial, eX, zbnd_eq, if_neg q2, zif_t rfl]; rfl
        simp only [zlt_eq]
        by_cases c3 : 0 ≤ k ∧ k ≤ 7
        · rw [zif_f (by rw [ilit, iI_eq (by omega) (by omega) (by omega) (by omega)]; omega), zif_f (by rw [ilit, iI_eq (by omega) (by omega) (by omega) (by omega)]; omega)]
          exact hJ1 c3 (by omega)
        · rw [hJ0 _ c3, hJ0 _ c3]
          simp only [zif]
          split
          · rfl
          · split <;> rfl
