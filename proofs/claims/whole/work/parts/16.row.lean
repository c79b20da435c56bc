/-! rows of orders, run -/
theorem setV_0 {μ : ZMem} {o : Nat} {v : Int × Int} : (setV μ o v).2 7 o 0 = lI v.1 := by
  unfold setV; rw [rJ, if_neg (by omega), rJ, if_pos ⟨rfl, rfl, rfl⟩]
theorem setV_1 {μ : ZMem} {o : Nat} {v : Int × Int} : (setV μ o v).2 7 o 1 = lI v.2 := by
  unfold setV; rw [rJ, if_pos ⟨rfl, rfl, rfl⟩]
theorem setM_0 {μ : ZMem} {v : Int × Int} : (setM μ v).2 12 0 15 = lI v.1 := by
  unfold setM; rw [rJ, if_neg (by omega), rJ, if_pos ⟨rfl, rfl, rfl⟩]
theorem setM_1 {μ : ZMem} {v : Int × Int} : (setM μ v).2 12 0 16 = lI v.2 := by
  unfold setM; rw [rJ, if_pos ⟨rfl, rfl, rfl⟩]
theorem mem_ext {μ μ' : ZMem} (h1 : ∀ k i x, μ.1 k i x = μ'.1 k i x) (h2 : ∀ k i x, μ.2 k i x = μ'.2 k i x) : μ = μ' := Prod.ext (funext fun k => funext fun i => funext fun x => h1 k i x) (funext fun k => funext fun i => funext fun x => h2 k i x)
theorem setV_setV {μ : ZMem} {o : Nat} {v w : Int × Int} : setV (setV μ o v) o w = setV μ o w := by
  refine mem_ext (fun _ _ _ => rfl) (fun k i x => ?_)
  unfold setV
  simp only [rJ]
  by_cases h1 : k = 7 ∧ i = o ∧ x = 1
  · simp only [h1, and_self, ite_true]
  · by_cases h0 : k = 7 ∧ i = o ∧ x = 0
    · simp only [h0, and_self, ite_true]
    · simp only [h1, h0, ite_false]
theorem setM_setM {μ : ZMem} {v w : Int × Int} : setM (setM μ v) w = setM μ w := by
  refine mem_ext (fun _ _ _ => rfl) (fun k i x => ?_)
  unfold setM
  simp only [rJ]
  by_cases h1 : k = 12 ∧ i = 0 ∧ x = 16
  · simp only [h1, and_self, ite_true]
  · by_cases h0 : k = 12 ∧ i = 0 ∧ x = 15
    · simp only [h0, and_self, ite_true]
    · simp only [h1, h0, ite_false]
theorem s_A_isLetter {N : Nat} {μ : ZMem} {x : Int} (h1 : -2147483648 ≤ x) (h2 : x < 2147483648) : f_A_isLetter N μ (iI x) = some (if 0 ≤ x ∧ x < 4 then 1 else 0, μ) := by
  unfold f_A_isLetter
  by_cases c1 : x < 0
  · rw [zif_t (by rw [zi0, iI_lt (by omega) (by omega) (by omega) (by omega)]; omega), if_neg (by omega)]; rfl
  · rw [zif_f (by rw [zi0, iI_lt (by omega) (by omega) (by omega) (by omega)]; omega)]
    by_cases c2 : 4 ≤ x
    · rw [zif_t (by rw [ilit, iI_le (by omega) (by omega) (by omega) (by omega)]; omega), if_neg (by omega)]; rfl
    · rw [zif_f (by rw [ilit, iI_le (by omega) (by omega) (by omega) (by omega)]; omega), if_pos (by omega)]; rfl
theorem s_M_isIn {N : Nat} {μ : ZMem} {x a b : Int} (h1 : -2147483648 ≤ x) (h2 : x < 2147483648) (h3 : -2147483648 ≤ a) (h4 : a < 2147483648) (h5 : -2147483648 ≤ b) (h6 : b < 2147483648) : f_M_isIn N μ (iI x) (iI a) (iI b) = some (if a ≤ x ∧ x ≤ b then 1 else 0, μ) := by
  unfold f_M_isIn
  by_cases c1 : x < a
  · rw [zif_t (by rw [iI_lt (by omega) (by omega) (by omega) (by omega)]; omega), if_neg (by omega)]; rfl
  · rw [zif_f (by rw [iI_lt (by omega) (by omega) (by omega) (by omega)]; omega)]
    by_cases c2 : b < x
    · rw [zif_t (by rw [iI_lt (by omega) (by omega) (by omega) (by omega)]; omega), if_neg (by omega)]; rfl
    · rw [zif_f (by rw [iI_lt (by omega) (by omega) (by omega) (by omega)]; omega), if_pos (by omega)]; rfl
theorem s_Orders_has {N : Nat} {μ : ZMem} {o n : Nat} {x : Int} (hn : n < 1000) (hc : μ.1 4 o 2 = iI n) (h1 : -2147483648 ≤ x) (h2 : x < 2147483648) : f_Orders_has N μ o (iI x) = some (if 0 ≤ x ∧ x < n then 1 else 0, μ) := by
  unfold f_Orders_has
  rw [hc]
  by_cases c1 : x < 0
  · rw [zif_t (by rw [zi0, iI_lt (by omega) (by omega) (by omega) (by omega)]; omega), if_neg (by omega)]; rfl
  · rw [zif_f (by rw [zi0, iI_lt (by omega) (by omega) (by omega) (by omega)]; omega)]
    by_cases c2 : (n : Int) ≤ x
    · rw [zif_t (by rw [iI_le (by omega) (by omega) (by omega) (by omega)]; omega), if_neg (by omega)]; rfl
    · rw [zif_f (by rw [iI_le (by omega) (by omega) (by omega) (by omega)]; omega), if_pos (by omega)]; rfl
theorem cl_nat {n : Nat} (h : n < 2147483648) : (iI (n : Int)).toNatClampNeg = n := by rw [iI_clamp (by omega) (by omega), Int.toNat_natCast]
theorem cl_int {z : Int} {n : Nat} (h : z = n) (h2 : n < 2147483648) : (iI z).toNatClampNeg = n := by rw [h, cl_nat h2]
theorem len24 (o : Nat) : zlen 24 o = 4 := rfl
theorem len25 (o : Nat) : zlen 25 o = 4 := rfl
theorem len22 (o : Nat) : zlen 22 o = if o < 4 then 24 else 6 := rfl
theorem len23 (o : Nat) : zlen 23 o = if o < 4 then 24 else 6 := rfl
theorem len26 (o : Nat) : zlen 26 o = 4 := rfl
def thC (μ : ZMem) (p : Nat) (th : Nat → Int) : Prop := ∀ j, j < 4 → μ.1 26 p j = iI (th j)
theorem s_Orders_amount {N : Nat} {μ : ZMem} {o p i : Nat} {x : Int} {th : Nat → Int} (hx : okX x) (hr : μ.1 23 o i = iI x) (ht : thC μ p th) (hi : i < zlen 23 o) : f_Orders_amount N μ o (iI i) p = some (iI (amt x th), μ) := by
  unfold okX at hx
  have hl : zlen 23 o ≤ 24 := by rw [len23]; split <;> omega
  have hz : zin (iI (i : Int)) (zlen 23 o) := zin_iI (by omega) (by omega) (by omega)
  unfold f_Orders_amount
  have e1 : iI x - (10000 : Int32) = iI (x - 10000) := iI_sub x 10000
  simp only [zchk_t hz, cl_nat (show i < 2147483648 by omega), hr, zlt_eq, e1]
  rw [s_A_isLetter (by omega) (by omega), zbnd_eq]
  by_cases c : x < 10000
  · rw [if_neg (by omega), zif_t rfl, hr]
    simp only [amt, if_pos c]; rfl
  · rw [if_pos (by omega), zif_f (by decide), zchk_t (zin_iI (by omega) (by rw [len26]; omega) (by rw [len26]; omega)), iI_clamp (by omega) (by omega), ht _ (by omega)]
    simp only [amt, if_neg c]; rfl
theorem s_Table_isHidden {N : Nat} {μ : ZMem} {t l : Nat} {T : Tb} (hT : TabC μ t T) (hO : TabOk T) (hl : l < 4) : f_Table_isHidden N μ t (iI l) = some (if T.2.2.2.1 l = -1 then 0 else 1, μ) := by
  unfold f_Table_isHidden
  have h1 := hO.2.2 l hl
  rw [s_A_isLetter (by omega) (by omega), zbnd_eq, if_pos (by omega), zif_f (by decide), zchk_t (zin_iI (by omega) (by rw [len24]; omega) (by rw [len24]; omega)), cl_nat (by omega), (hT.2 l hl).1]
  by_cases c : T.2.2.2.1 l = -1
  · rw [zif_t (by rw [c]; rfl), if_pos c]; rfl
  · rw [zif_f (by rw [ilit, iI_neg, iI_eq (by omega) (by omega) (by omega) (by omega)]; omega), if_neg c]; rfl
def bg (T : Tb) (th : Nat → Int) : Int := if T.2.2.2.1 0 = -1 then 0 else th 0
theorem s_Table_begin {N : Nat} {μ : ZMem} {t v p : Nat} {T : Tb} {th : Nat → Int} (hT : TabC μ t T) (hO : TabOk T) (ht : thC μ p th) (hth : okT th) : f_Table_begin N μ t v p = some ((), setV μ v (bg T th, 1)) := by
  unfold f_Table_begin
  have h0 : f_Table_isHidden N μ t 0 = _ := s_Table_isHidden (N := N) (l := 0) hT hO (by omega)
  have h1 := hth 0 (by omega)
  rw [h0, zbnd_eq]
  simp only [zlt_eq]
  unfold bg
  by_cases c : T.2.2.2.1 0 = -1
  · rw [if_pos c, zif_t rfl, if_pos c]; rfl
  · rw [if_neg c, zif_f (by decide), zchk_t (p := zin (0 : Int32) (zlen 26 p)) (show zin (0 : Int32) 4 by decide), show (0 : Int32).toNatClampNeg = 0 from rfl, ht 0 (by omega), iI_long (by omega) (by omega), if_neg c]; rfl
theorem bg_isV {T : Tb} {th : Nat → Int} (hth : okT th) : isV (bg T th, 1) := by
  have h1 := hth 0 (by omega)
  unfold isV bg
  simp only
  split
  · simp
  · simp; omega
/-- so many orders, from one on: how far it comes, and to what -/
def rnS (kd xs : Nat → Int) (th : Nat → Int) : Nat → Nat → Int × Int → Nat × (Int × Int)
  | 0, i, v => (i, v)
  | f + 1, i, v => match ordS (kd i) (amt (xs i) th) v with
    | none => (i, v)
    | some w => rnS kd xs th f (i + 1) w
theorem rnS_rng {kd xs th : Nat → Int} : ∀ (f i : Nat) (v : Int × Int), i ≤ (rnS kd xs th f i v).1 ∧ (rnS kd xs th f i v).1 ≤ i + f
  | 0, i, v => ⟨Nat.le_refl i, Nat.le_refl i⟩
  | f + 1, i, v => by
    unfold rnS
    cases ordS (kd i) (amt (xs i) th) v with
    | none => exact ⟨Nat.le_refl i, by show i ≤ _; omega⟩
    | some w =>
      have := rnS_rng (kd := kd) (xs := xs) (th := th) f (i + 1) w
      exact ⟨Nat.le_trans (by omega) this.1, Nat.le_trans this.2 (by omega)⟩
theorem rnS_isV {kd xs th : Nat → Int} {n : Nat} (hO : OrdOk n kd xs) (hth : okT th) : ∀ (f i : Nat) (v : Int × Int), i + f ≤ n → isV v → isV (rnS kd xs th f i v).2
  | 0, i, v, hf, hv => hv
  | f + 1, i, v, hf, hv => by
    unfold rnS
    cases h : ordS (kd i) (amt (xs i) th) v with
    | none => exact hv
    | some w => exact rnS_isV hO hth f (i + 1) w (by omega) (ordS_isV hv (amt_rng (hO i (by omega)).2.2.1 hth).1 h)
theorem amt8 {x : Int} {th : Nat → Int} (h : 1 ≤ x ∧ x ≤ 9) : 1 ≤ amt x th := by
  unfold amt; rw [if_pos (by omega)]; omega
theorem run_loop {N : Nat} {μ : ZMem} {o p v n : Nat} {kd xs th : Nat → Int} (hN : 130 ≤ N) (hC : OrdC μ o n kd xs) (hO : OrdOk n kd xs) (ht : thC μ p th) (hth : okT th) (hn : n ≤ zlen 22 o) {m : Nat} (hm : m ≤ n) :
    ∀ (f i fuel : Nat) (w : Int × Int), i + f = m → f < fuel → isV w → f_Table_run_l22 N o p v (iI m) fuel (iI i) (setV μ v w) = some (iI ((rnS kd xs th f i w).1 : Int), setV μ v (rnS kd xs th f i w).2)
  | 0, i, fuel, w, hi, hf, hw => by
    obtain ⟨q, rfl⟩ : ∃ q, fuel = q + 1 := ⟨fuel - 1, by omega⟩
    have hl : zlen 22 o ≤ 24 := by rw [len22]; split <;> omega
    have : i = m := by omega
    subst this
    simp only [f_Table_run_l22]
    rw [zif_t (by rw [iI_le (by omega) (by omega) (by omega) (by omega)]; omega)]
    rfl
  | f + 1, i, fuel, w, hi, hf, hw => by
    obtain ⟨q, rfl⟩ : ∃ q, fuel = q + 1 := ⟨fuel - 1, by omega⟩
    have hl : zlen 22 o ≤ 24 := by rw [len22]; split <;> omega
    have hl3 : zlen 23 o = zlen 22 o := rfl
    have hi' := hO i (by omega)
    have hc := hC.2 i (by omega)
    have ha := amt_rng hi'.2.2.1 hth
    simp only [f_Table_run_l22]
    have hk : (setV μ v w).1 22 o i = iI (kd i) := hc.1
    rw [zif_f (by rw [iI_le (by omega) (by omega) (by omega) (by omega)]; omega), zchk_t (zin_iI (by omega) (by omega) (by omega)), s_Orders_amount (μ := setV μ v w) (x := xs i) (th := th) hi'.2.2.1 hc.2 ht (by omega), zbnd_eq, cl_nat (by omega), hk, s_Value_obey hN hw setV_0 setV_1 hi'.1 hi'.2.1 ha.1 ha.2 (fun q => amt8 (hi'.2.2.2 q))]
    unfold rnS
    cases h : ordS (kd i) (amt (xs i) th) w with
    | none =>
      simp only [ansV, zbnd_eq]
      rw [zif_t trivial]; rfl
    | some w2 =>
      simp only [ansV, zbnd_eq]
      rw [zif_f (by decide), zlt_eq, ilit, iI_add, setV_setV, show (i : Int) + 1 = ((i + 1 : Nat) : Int) by omega]
      exact run_loop hN hC hO ht hth hn hm f (i + 1) q w2 (by omega) (by omega) (ordS_isV hw ha.1 h)
theorem s_Table_run {N : Nat} {μ : ZMem} {t p v : Nat} {T : Tb} {th : Nat → Int} {w : Nat} (hN : 130 ≤ N) (htl : t < 4) (hT : TabC μ t T) (hO : TabOk T) (ht : thC μ p th) (hth : okT th) (hw : w < 1000) :
    f_Table_run N μ t (iI w) p v = some (iI ((rnS T.2.1 T.2.2.1 th (min w T.1) 0 (bg T th, 1)).1 : Int), setV μ v (rnS T.2.1 T.2.2.1 th (min w T.1) 0 (bg T th, 1)).2) := by
  unfold f_Table_run
  have hn := hO.1
  have hl : zlen 22 t = 24 := by rw [len22, if_pos htl]
  rw [hT.1.1, iI_min (by omega) (by omega) (by omega) (by omega), zlt_eq, s_Table_begin hT hO ht hth, zbnd_eq, zlt_eq, show (min (w : Int) (T.1 : Int)) = ((min w T.1 : Nat) : Int) by omega]
  exact run_loop hN hT.1 hO.2.1 ht hth (by omega) (by omega) (min w T.1) 0 N _ (by omega) (by omega) (bg_isV hth)
theorem s_Table_comesToEnd {N : Nat} {μ : ZMem} {t p v : Nat} {T : Tb} {th : Nat → Int} (hN : 130 ≤ N) (htl : t < 4) (hT : TabC μ t T) (hO : TabOk T) (ht : thC μ p th) (hth : okT th) :
    f_Table_comesToEnd N μ t p v = some (if (rnS T.2.1 T.2.2.1 th T.1 0 (bg T th, 1)).1 = T.1 then 1 else 0, setV μ v (rnS T.2.1 T.2.2.1 th T.1 0 (bg T th, 1)).2) := by
  unfold f_Table_comesToEnd
  have hn := hO.1
  have hr := rnS_rng (kd := T.2.1) (xs := T.2.2.1) (th := th) T.1 0 (bg T th, 1)
  have hc : (setV μ v (rnS T.2.1 T.2.2.1 th T.1 0 (bg T th, 1)).2).1 4 t 2 = iI T.1 := hT.1.1
  rw [hT.1.1, s_Table_run hN htl hT hO ht hth (by omega), zbnd_eq, Nat.min_self, hc]
  by_cases c : (rnS T.2.1 T.2.2.1 th T.1 0 (bg T th, 1)).1 = T.1
  · rw [zif_t (by rw [c]), if_pos c]; rfl
  · rw [zif_f (by rw [iI_eq (by omega) (by omega) (by omega) (by omega)]; omega), if_neg c]; rfl
theorem s_A_find {N : Nat} {μ : ZMem} {t : Int} {nt : Nat} (hc : μ.1 5 0 0 = iI nt) (hn : nt ≤ 4) (h1 : -2147483648 ≤ t) (h2 : t < 2147483648) : f_A_find N μ (iI t) = some (if 0 ≤ t ∧ t < nt then some t.toNat else none, μ) := by
  unfold f_A_find
  rw [hc]
  by_cases c1 : t < 0
  · rw [zif_t (by rw [zi0, iI_lt (by omega) (by omega) (by omega) (by omega)]; omega), if_neg (by omega)]; rfl
  · rw [zif_f (by rw [zi0, iI_lt (by omega) (by omega) (by omega) (by omega)]; omega)]
    by_cases c2 : (nt : Int) ≤ t
    · rw [zif_t (by rw [iI_le (by omega) (by omega) (by omega) (by omega)]; omega), if_neg (by omega)]; rfl
    · rw [zif_f (by rw [iI_le (by omega) (by omega) (by omega) (by omega)]; omega), zif_f (by rw [ilit, iI_le (by omega) (by omega) (by omega) (by omega)]; omega), zchk_t (zin_iI (by omega) (by omega) (by omega)), iI_clamp (by omega) (by omega), if_pos (by omega)]; rfl
/-- the reference's table -/
theorem s_M_isTable {N : Nat} {μ : ZMem} {t : Int} {nt : Nat} (hc : μ.1 40 0 0 = iI nt) (hn : nt ≤ 4) (h1 : -2147483648 ≤ t) (h2 : t < 2147483648) : f_M_isTable N μ (iI t) = some (if 0 ≤ t ∧ t < nt then 1 else 0, μ) := by
  unfold f_M_isTable
  have e1 : iI (nt : Int) - (1 : Int32) = iI ((nt : Int) - 1) := iI_sub _ 1
  have e2 : f_M_isIn N μ (iI t) 0 (iI ((nt : Int) - 1)) = _ := s_M_isIn (a := 0) (by omega) (by omega) (by omega) (by omega) (by omega) (by omega)
  rw [zchk_t (by decide), show (0 : Int32).toNatClampNeg = 0 from rfl, hc, e1, e2, zbnd_eq]
  by_cases c : 0 ≤ t ∧ t ≤ (nt : Int) - 1
  · rw [if_pos c, zchk_t (by decide), if_pos (by omega)]; rfl
  · rw [if_neg c, zchk_t (by decide), if_neg (by omega)]; rfl
theorem len42 : zlen 42 0 = 244 := rfl
theorem s_M_ordersOf {N : Nat} {μ : ZMem} {t : Nat} {T : Tb} (ht : t < 4) (hM : TabM μ t T) : f_M_ordersOf N μ (iI t) = some (iI T.1, μ) := by
  unfold f_M_ordersOf
  simp only [ilit, iI_mul]
  rw [zchk_t (zin_iI (by omega) (by rw [len42]; omega) (by decide)), cl_int (n := 61 * t) (by omega) (by omega), hM.1]; rfl
theorem s_M_kindOf {N : Nat} {μ : ZMem} {t i : Nat} {T : Tb} (ht : t < 4) (hM : TabM μ t T) (hi : i < T.1) (hn : T.1 ≤ 24) : f_M_kindOf N μ (iI t) (iI i) = some (iI (T.2.1 i), μ) := by
  unfold f_M_kindOf
  simp only [ilit, iI_mul, iI_add]
  rw [zchk_t (zin_iI (by omega) (by rw [len42]; omega) (by decide)), cl_int (n := 61 * t + 1 + 2 * i) (by omega) (by omega), (hM.2.1 i hi).1]; rfl
theorem s_M_xOf {N : Nat} {μ : ZMem} {t i : Nat} {T : Tb} (ht : t < 4) (hM : TabM μ t T) (hi : i < T.1) (hn : T.1 ≤ 24) : f_M_xOf N μ (iI t) (iI i) = some (iI (T.2.2.1 i), μ) := by
  unfold f_M_xOf
  simp only [ilit, iI_mul, iI_add]
  rw [zchk_t (zin_iI (by omega) (by rw [len42]; omega) (by decide)), cl_int (n := 61 * t + 2 + 2 * i) (by omega) (by omega), (hM.2.1 i hi).2]; rfl
theorem s_M_spanOf {N : Nat} {μ : ZMem} {t l w : Nat} (ht : t < 4) (hl : l < 4) (hw : w < 3) : f_M_spanOf N μ (iI t) (iI l) (iI w) = some (μ.1 42 0 (61 * t + 49 + 3 * l + w), μ) := by
  unfold f_M_spanOf
  simp only [ilit, iI_mul, iI_add]
  rw [zchk_t (zin_iI (by omega) (by rw [len42]; omega) (by decide)), cl_int (n := 61 * t + 49 + 3 * l + w) (by omega) (by omega)]; rfl
theorem s_M_isHidden {N : Nat} {μ : ZMem} {t l : Nat} {T : Tb} (ht : t < 4) (hM : TabM μ t T) (hl : l < 4) : f_M_isHidden N μ (iI t) (iI l) = some (if T.2.2.2.1 l = -1 then 0 else 1, μ) := by
  unfold f_M_isHidden
  have e0 : f_M_spanOf N μ (iI t) (iI l) 0 = _ := s_M_spanOf (w := 0) ht hl (by omega)
  rw [e0, zbnd_eq, Nat.add_zero]
  by_cases c : T.2.2.2.1 l = -1
  · rw [((hM.2.2 l hl).1 c), zif_f (by decide), if_pos c]; rfl
  · rw [((hM.2.2 l hl).2 c).1, zif_t (by decide), if_neg c]; rfl
def thM (μ : ZMem) (th : Nat → Int) : Prop := ∀ j, j < 4 → μ.1 44 0 j = iI (th j)
theorem s_M_begin {N : Nat} {μ : ZMem} {t : Nat} {T : Tb} {th : Nat → Int} (htl : t < 4) (hM : TabM μ t T) (ht : thM μ th) (hth : okT th) : f_M_begin N μ (iI t) = some ((), setM μ (bg T th, 1)) := by
  unfold f_M_begin
  have h0 : f_M_isHidden N μ (iI t) 0 = _ := s_M_isHidden (N := N) (l := 0) htl hM (by omega)
  have h1 := hth 0 (by omega)
  rw [h0, zbnd_eq]
  simp only [zlt_eq]
  unfold bg
  by_cases c : T.2.2.2.1 0 = -1
  · rw [if_pos c, zif_t rfl, if_pos c]; rfl
  · rw [if_neg c, zif_f (by decide), zchk_t (p := zin (0 : Int32) (zlen 44 0)) (show zin (0 : Int32) 4 by decide), show (0 : Int32).toNatClampNeg = 0 from rfl, ht 0 (by omega), iI_long (by omega) (by omega), if_neg c]; rfl
theorem goTo_loop {N : Nat} {μ : ZMem} {t : Nat} {T : Tb} {th : Nat → Int} (hN : 130 ≤ N) (htl : t < 4) (hM : TabM μ t T) (hO : TabOk T) (ht : thM μ th) (hth : okT th) {m : Nat} (hm : m ≤ T.1) :
    ∀ (f i fuel : Nat) (w : Int × Int), i + f = m → f < fuel → isV w → f_M_goTo_l7 N (iI t) (iI m) fuel (iI i) (setM μ w) = some (if (rnS T.2.1 T.2.2.1 th f i w).1 = m then iI (-1) else iI ((rnS T.2.1 T.2.2.1 th f i w).1 : Int), setM μ (rnS T.2.1 T.2.2.1 th f i w).2)
  | 0, i, fuel, w, hi, hf, hw => by
    obtain ⟨q, rfl⟩ : ∃ q, fuel = q + 1 := ⟨fuel - 1, by omega⟩
    have hn := hO.1
    have : i = m := by omega
    subst this
    simp only [f_M_goTo_l7]
    rw [zif_t (by rw [iI_le (by omega) (by omega) (by omega) (by omega)]; omega), show (rnS T.2.1 T.2.2.1 th 0 i w).1 = i from rfl, if_pos rfl]
    rfl
  | f + 1, i, fuel, w, hi, hf, hw => by
    obtain ⟨q, rfl⟩ : ∃ q, fuel = q + 1 := ⟨fuel - 1, by omega⟩
    have hn := hO.1
    have hi' := hO.2.1 i (by omega)
    have ha := amt_rng hi'.2.2.1 hth
    have hM' : TabM (setM μ w) t T := hM
    simp only [f_M_goTo_l7]
    rw [zif_f (by rw [iI_le (by omega) (by omega) (by omega) (by omega)]; omega), s_M_kindOf htl hM' (by omega) hn, zbnd_eq, s_M_xOf htl hM' (by omega) hn, zbnd_eq, s_M_does (μ := setM μ w) (th := th) hN hw setM_0 setM_1 ht hth hi'.1 hi'.2.1 hi'.2.2.1 (fun q => amt8 (hi'.2.2.2 q))]
    unfold rnS
    cases h : ordS (T.2.1 i) (amt (T.2.2.1 i) th) w with
    | none =>
      simp only [ansM, zbnd_eq]
      rw [zif_t trivial, if_neg (by omega)]; rfl
    | some w2 =>
      simp only [ansM, zbnd_eq]
      rw [zif_f (by decide), zlt_eq, ilit, iI_add, setM_setM, show (i : Int) + 1 = ((i + 1 : Nat) : Int) by omega]
      exact goTo_loop hN htl hM hO ht hth hm f (i + 1) q w2 (by omega) (by omega) (ordS_isV hw ha.1 h)
theorem s_M_goTo {N : Nat} {μ : ZMem} {t m : Nat} {T : Tb} {th : Nat → Int} (hN : 130 ≤ N) (htl : t < 4) (hM : TabM μ t T) (hO : TabOk T) (ht : thM μ th) (hth : okT th) (hm : m ≤ T.1) :
    f_M_goTo N μ (iI t) (iI m) = some (if (rnS T.2.1 T.2.2.1 th m 0 (bg T th, 1)).1 = m then iI (-1) else iI ((rnS T.2.1 T.2.2.1 th m 0 (bg T th, 1)).1 : Int), setM μ (rnS T.2.1 T.2.2.1 th m 0 (bg T th, 1)).2) := by
  unfold f_M_goTo
  have hn := hO.1
  rw [s_M_begin htl hM ht hth, zbnd_eq, zlt_eq]
  exact goTo_loop hN htl hM hO ht hth hm m 0 N _ (by omega) (by omega) (bg_isV hth)
