/-! all that may be thought -/
def lo (T : Tb) (l : Nat) : Int := if T.2.2.2.1 l = -1 then 0 else T.2.2.2.1 l
def hi (T : Tb) (l : Nat) : Int := if T.2.2.2.1 l = -1 then 0 else T.2.2.2.2 l
theorem lohi {T : Tb} {l : Nat} (hO : TabOk T) (hl : l < 4) : 0 ≤ lo T l ∧ lo T l ≤ hi T l ∧ hi T l ≤ 9999 := by
  have := hO.2.2 l hl
  unfold lo hi
  split <;> omega
def cn (T : Tb) : Nat → Int
  | 0 => 1
  | l + 1 => cn T l * (hi T l - lo T l + 1)
theorem mul_bd {a b A : Int} (h1 : 1 ≤ a) (h2 : a ≤ A) (h3 : 1 ≤ b) (h4 : b ≤ 10000) : 1 ≤ a * b ∧ a * b ≤ A * 10000 ∧ a ≤ a * b := by
  have e1 := Int.mul_le_mul h1 h3 (by omega) (by omega)
  have e2 := Int.mul_le_mul h2 h4 (by omega) (by omega)
  have e3 := Int.mul_le_mul (Int.le_refl a) h3 (by omega) (by omega)
  omega
theorem cn_bd {T : Tb} (hO : TabOk T) : (1 ≤ cn T 1 ∧ cn T 1 ≤ 10000) ∧ (1 ≤ cn T 2 ∧ cn T 2 ≤ 100000000 ∧ cn T 1 ≤ cn T 2) ∧ (1 ≤ cn T 3 ∧ cn T 3 ≤ 1000000000000 ∧ cn T 2 ≤ cn T 3) ∧ (1 ≤ cn T 4 ∧ cn T 4 ≤ 10000000000000000 ∧ cn T 3 ≤ cn T 4) := by
  have a0 := lohi hO (l := 0) (by omega)
  have a1 := lohi hO (l := 1) (by omega)
  have a2 := lohi hO (l := 2) (by omega)
  have a3 := lohi hO (l := 3) (by omega)
  have b0 : cn T 1 = hi T 0 - lo T 0 + 1 := by show 1 * _ = _; rw [Int.one_mul]
  have b1 := mul_bd (a := cn T 1) (b := hi T 1 - lo T 1 + 1) (A := 10000) (by omega) (by omega) (by omega) (by omega)
  have c1 : cn T 2 = cn T 1 * (hi T 1 - lo T 1 + 1) := rfl
  rw [← c1] at b1
  have b2 := mul_bd (a := cn T 2) (b := hi T 2 - lo T 2 + 1) (A := 100000000) (by omega) (by omega) (by omega) (by omega)
  have c2 : cn T 3 = cn T 2 * (hi T 2 - lo T 2 + 1) := rfl
  rw [← c2] at b2
  have b3 := mul_bd (a := cn T 3) (b := hi T 3 - lo T 3 + 1) (A := 1000000000000) (by omega) (by omega) (by omega) (by omega)
  have c3 : cn T 4 = cn T 3 * (hi T 3 - lo T 3 + 1) := rfl
  rw [← c3] at b3
  omega
theorem cn_rng {T : Tb} (hO : TabOk T) {l : Nat} (hl : l ≤ 4) : 1 ≤ cn T l ∧ cn T l ≤ cn T 4 ∧ cn T l ≤ 10000000000000000 := by
  have h := cn_bd hO
  have : l = 0 ∨ l = 1 ∨ l = 2 ∨ l = 3 ∨ l = 4 := by omega
  rcases this with rfl | rfl | rfl | rfl | rfl
  · show (1 : Int) ≤ 1 ∧ (1 : Int) ≤ _ ∧ (1 : Int) ≤ _; omega
  all_goals omega
theorem count_loop {N : Nat} {μ : ZMem} {t : Nat} {T : Tb} (hC : TabC μ t T) (hO : TabOk T) : ∀ (f l fuel : Nat), l + f = 4 → f < fuel → f_Table_countAll_l4 N t fuel (lI (cn T l)) (iI l) μ = some (lI (cn T 4), μ)
  | 0, l, fuel, h1, h2 => by
    obtain ⟨q, rfl⟩ : ∃ q, fuel = q + 1 := ⟨fuel - 1, by omega⟩
    have : l = 4 := by omega
    subst this
    simp only [f_Table_countAll_l4]
    rw [zif_t (by decide)]; rfl
  | f + 1, l, fuel, h1, h2 => by
    obtain ⟨q, rfl⟩ : ∃ q, fuel = q + 1 := ⟨fuel - 1, by omega⟩
    have e : iI (l : Int) + (1 : Int32) = iI ((l + 1 : Nat) : Int) := by rw [ilit, iI_add]; congr 1
    have hl := lohi hO (l := l) (by omega)
    have hc := hC.2 l (by omega)
    simp only [f_Table_countAll_l4]
    rw [zif_f (by rw [ilit, iI_le (by omega) (by omega) (by omega) (by omega)]; omega), s_Table_isHidden hC hO (by omega), zbnd_eq]
    simp only [zlt_eq, e]
    have hr := count_loop hC hO f (l + 1) q (by omega) (by omega) (N := N)
    by_cases c : T.2.2.2.1 l = -1
    · rw [if_pos c, zif_t rfl]
      have : cn T (l + 1) = cn T l := by
        show cn T l * _ = _
        unfold hi lo
        rw [if_pos c, if_pos c]
        exact Int.mul_one _
      rw [this] at hr
      exact hr
    · rw [if_neg c, zif_f (by decide), zchk_t (zin_k 4 rfl (by omega) (by omega) (by omega)), zchk_t (zin_k 4 rfl (by omega) (by omega) (by omega)), cl_nat (by omega), hc.1, hc.2, iI_sub, ilit, iI_add]
      unfold lo hi at hl
      rw [if_neg c, if_neg c] at hl
      have e5 : (T.2.2.2.2 l - T.2.2.2.1 l + 1) = hi T l - lo T l + 1 := by unfold hi lo; rw [if_neg c, if_neg c]
      rw [iI_long (by omega) (by omega), lI_mul, e5]
      exact hr
theorem s_countAll {N : Nat} {μ : ZMem} {t : Nat} {T : Tb} (hN : 130 ≤ N) (hC : TabC μ t T) (hO : TabOk T) : f_Table_countAll N μ t = some (lI (cn T 4), μ) := by
  unfold f_Table_countAll
  simp only [zlt_eq]
  exact count_loop hC hO 4 0 N (by omega) (by omega)
theorem s_M_firstOf {N : Nat} {μ : ZMem} {t l : Nat} {T : Tb} (ht : t < 4) (hM : TabM μ t T) (hl : l < 4) : f_M_firstOf N μ (iI t) (iI l) = some (iI (lo T l), μ) := by
  unfold f_M_firstOf lo
  have e : f_M_spanOf N μ (iI t) (iI l) 1 = _ := s_M_spanOf (w := 1) ht hl (by omega)
  rw [s_M_isHidden ht hM hl, zbnd_eq]
  by_cases c : T.2.2.2.1 l = -1
  · rw [if_pos c, if_pos c, zif_t rfl]; rfl
  · rw [if_neg c, if_neg c, zif_f (by decide), e, zbnd_eq, ((hM.2.2 l hl).2 c).2.1]; rfl
theorem s_M_lastOf {N : Nat} {μ : ZMem} {t l : Nat} {T : Tb} (ht : t < 4) (hM : TabM μ t T) (hl : l < 4) : f_M_lastOf N μ (iI t) (iI l) = some (iI (hi T l), μ) := by
  unfold f_M_lastOf hi
  have e : f_M_spanOf N μ (iI t) (iI l) 2 = _ := s_M_spanOf (w := 2) ht hl (by omega)
  rw [s_M_isHidden ht hM hl, zbnd_eq]
  by_cases c : T.2.2.2.1 l = -1
  · rw [if_pos c, if_pos c, zif_t rfl]; rfl
  · rw [if_neg c, if_neg c, zif_f (by decide), e, zbnd_eq, ((hM.2.2 l hl).2 c).2.2]; rfl
theorem allOf_loop {N : Nat} {μ : ZMem} {t : Nat} {T : Tb} (ht : t < 4) (hM : TabM μ t T) (hO : TabOk T) : ∀ (f l fuel : Nat), l + f = 4 → f < fuel → cn T l ≤ 20000 → f_M_allOf_l5 N (iI t) fuel (lI (cn T l)) (iI l) μ = some (iI (if cn T 4 ≤ 20000 then cn T 4 else 20001), μ)
  | 0, l, fuel, h1, h2, h3 => by
    obtain ⟨q, rfl⟩ : ∃ q, fuel = q + 1 := ⟨fuel - 1, by omega⟩
    have : l = 4 := by omega
    subst this
    have := cn_rng hO (l := 4) (by omega)
    simp only [f_M_allOf_l5]
    rw [zif_t (by decide), if_pos h3, lI_int]; rfl
  | f + 1, l, fuel, h1, h2, h3 => by
    obtain ⟨q, rfl⟩ : ∃ q, fuel = q + 1 := ⟨fuel - 1, by omega⟩
    have e : iI (l : Int) + (1 : Int32) = iI ((l + 1 : Nat) : Int) := by rw [ilit, iI_add]; congr 1
    have hl := lohi hO (l := l) (by omega)
    have hr1 := cn_rng hO (l := l + 1) (by omega)
    have ec : cn T l * (hi T l - lo T l + 1) = cn T (l + 1) := rfl
    simp only [f_M_allOf_l5]
    rw [zif_f (by rw [ilit, iI_le (by omega) (by omega) (by omega) (by omega)]; omega), s_M_lastOf ht hM (by omega), zbnd_eq, s_M_firstOf ht hM (by omega), zbnd_eq, zlt_eq, zlt_eq, e, iI_sub, ilit, iI_add, iI_long (by omega) (by omega), lI_mul, ec]
    by_cases c : cn T (l + 1) ≤ 20000
    · rw [zif_t (by rw [llit, lcmp_le (by omega) (by omega) (by omega) (by omega)]; exact c)]
      exact allOf_loop ht hM hO f (l + 1) q (by omega) (by omega) c
    · rw [zif_f (by rw [llit, lcmp_le (by omega) (by omega) (by omega) (by omega)]; exact c), if_neg (by omega)]; rfl
theorem s_M_allOf {N : Nat} {μ : ZMem} {t : Nat} {T : Tb} (hN : 130 ≤ N) (ht : t < 4) (hM : TabM μ t T) (hO : TabOk T) : f_M_allOf N μ (iI t) = some (iI (if cn T 4 ≤ 20000 then cn T 4 else 20001), μ) := by
  unfold f_M_allOf
  simp only [zlt_eq]
  exact allOf_loop ht hM hO 4 0 N (by omega) (by omega) (by show (1 : Int) ≤ 20000; omega)
def tset (th : Nat → Int) (l : Nat) (v : Int) : Nat → Int := fun j => if j = l then v else th j
def nx (T : Tb) : Nat → (Nat → Int) → (Nat → Int)
  | 0, th => th
  | l + 1, th => if hi T l ≤ th l then nx T l (tset th l (lo T l)) else tset th l (th l + 1)
def inB (T : Tb) (th : Nat → Int) : Prop := ∀ l, l < 4 → lo T l ≤ th l ∧ th l ≤ hi T l
theorem inB.ok {T : Tb} {th : Nat → Int} (hO : TabOk T) (h : inB T th) : okT th := fun j hj => by
  have := lohi hO hj
  have := h j hj
  omega
theorem inB_lo {T : Tb} (hO : TabOk T) : inB T (lo T) := fun l hl => by
  have := lohi hO hl
  omega
theorem inB_set {T : Tb} {th : Nat → Int} {l : Nat} {v : Int} (h : inB T th) (h1 : lo T l ≤ v) (h2 : v ≤ hi T l) : inB T (tset th l v) := fun j hj => by
  unfold tset
  split
  · rename_i e; rw [e]; exact ⟨h1, h2⟩
  · exact h j hj
theorem nx_in {T : Tb} (hO : TabOk T) : ∀ (l : Nat) (th : Nat → Int), l ≤ 4 → inB T th → inB T (nx T l th)
  | 0, th, _, h => h
  | l + 1, th, hl, h => by
    unfold nx
    have a := lohi hO (l := l) (by omega)
    have b := h l (by omega)
    split
    · exact nx_in hO l _ (by omega) (inB_set h (by omega) (by omega))
    · exact inB_set h (by omega) (by omega)
/-- only the thought p of the class may differ -/
def frA (p : Nat) (μ μ' : ZMem) : Prop := μ'.2 = μ.2 ∧ ∀ k i x, ¬ (k = 26 ∧ i = p) → μ'.1 k i x = μ.1 k i x
theorem frA.rf {p : Nat} {μ : ZMem} : frA p μ μ := ⟨rfl, fun _ _ _ _ => rfl⟩
theorem frA.tr {p : Nat} {μ μ' μ'' : ZMem} (h : frA p μ μ') (h' : frA p μ' μ'') : frA p μ μ'' := ⟨h'.1.trans h.1, fun k i x q => (h'.2 k i x q).trans (h.2 k i x q)⟩
theorem frA.set {p x : Nat} {μ μ' : ZMem} {v : Int32} (h : frA p μ μ') : frA p μ (zsetI μ' 26 p x v) := ⟨h.1, fun k i y q => by rw [rI, if_neg (fun e => q ⟨e.1, e.2.1⟩)]; exact h.2 k i y q⟩
theorem frA.same {p : Nat} {μ μ' : ZMem} (h : frA p μ μ') (hp : 2 ≤ p) : Same μ μ' := ⟨fun k i x q => h.2 k i x (fun e => by
  rw [e.1, e.2] at q
  have : relI 26 p x = decide (p < 2) := by unfold relI; simp
  rw [this, decide_eq_true_eq] at q
  omega), fun k i x _ => by rw [h.1]⟩
def frM (μ μ' : ZMem) : Prop := μ'.2 = μ.2 ∧ ∀ k i x, k ≠ 44 → μ'.1 k i x = μ.1 k i x
theorem frM.rf {μ : ZMem} : frM μ μ := ⟨rfl, fun _ _ _ _ => rfl⟩
theorem frM.tr {μ μ' μ'' : ZMem} (h : frM μ μ') (h' : frM μ' μ'') : frM μ μ'' := ⟨h'.1.trans h.1, fun k i x q => (h'.2 k i x q).trans (h.2 k i x q)⟩
theorem frM.set {x : Nat} {μ μ' : ZMem} {v : Int32} (h : frM μ μ') : frM μ (zsetI μ' 44 0 x v) := ⟨h.1, fun k i y q => by rw [rI, if_neg (fun e => q e.1)]; exact h.2 k i y q⟩
theorem frM.same {μ μ' : ZMem} (h : frM μ μ') : Same μ μ' := ⟨fun k i x q => h.2 k i x (fun e => by
  rw [e] at q
  have : relI 44 i x = false := by unfold relI; simp
  rw [this] at q; cases q), fun k i x _ => by rw [h.1]⟩
theorem first_loop {N : Nat} {t p : Nat} {T : Tb} (hp : 2 ≤ p) (hl26 : zlen 26 p = 4) (hO : TabOk T) : ∀ (f l fuel : Nat) (μ : ZMem), l + f = 4 → f < fuel → TabC μ t T → (∀ j, j < l → μ.1 26 p j = iI (lo T j)) → ∃ μ', f_Table_firstOfAll_l2 N t p fuel (iI l) μ = some ((), μ') ∧ thC μ' p (lo T) ∧ frA p μ μ'
  | 0, l, fuel, μ, h1, h2, hC, h3 => by
    obtain ⟨q, rfl⟩ : ∃ q, fuel = q + 1 := ⟨fuel - 1, by omega⟩
    have : l = 4 := by omega
    subst this
    refine ⟨μ, ?_, h3, frA.rf⟩
    simp only [f_Table_firstOfAll_l2]
    rw [zif_t (by decide)]; rfl
  | f + 1, l, fuel, μ, h1, h2, hC, h3 => by
    obtain ⟨q, rfl⟩ : ∃ q, fuel = q + 1 := ⟨fuel - 1, by omega⟩
    have e : iI (l : Int) + (1 : Int32) = iI ((l + 1 : Nat) : Int) := by rw [ilit, iI_add]; congr 1
    have hl := lohi hO (l := l) (by omega)
    have hc := hC.2 l (by omega)
    have hk := hO.2.2 l (by omega)
    have em : zmaxI (μ.1 24 t l) 0 = iI (lo T l) := by
      rw [hc.1, zi0, iI_max (by omega) (by omega) (by omega) (by omega)]
      congr 1
      unfold lo
      split <;> omega
    have fr : frA p μ (zsetI μ 26 p l (iI (lo T l))) := frA.rf.set
    obtain ⟨μ', a1, a2, a3⟩ := first_loop hp hl26 hO f (l + 1) q (zsetI μ 26 p l (iI (lo T l))) (by omega) (by omega) (hC.same (fr.same hp)) (fun j hj => by
      rw [rI]
      by_cases c : j = l
      · rw [if_pos ⟨rfl, rfl, c⟩, c]
      · rw [if_neg (fun e => c e.2.2)]; exact h3 j (by omega)) (N := N)
    refine ⟨μ', ?_, a2, fr.tr a3⟩
    simp only [f_Table_firstOfAll_l2]
    rw [zif_f (by rw [ilit, iI_le (by omega) (by omega) (by omega) (by omega)]; omega), zchk_t (zin_k 4 rfl (by omega) (by omega) (by omega)), zchk_t (zin_k 4 hl26 (by omega) (by omega) (by omega)), cl_nat (by omega), em, zlt_eq, zlt_eq, e]
    exact a1
theorem s_firstOfAll {N : Nat} {μ : ZMem} {t p : Nat} {T : Tb} (hN : 130 ≤ N) (hp : 2 ≤ p) (hl26 : zlen 26 p = 4) (hC : TabC μ t T) (hO : TabOk T) : ∃ μ', f_Table_firstOfAll N μ t p = some ((), μ') ∧ thC μ' p (lo T) ∧ frA p μ μ' := by
  unfold f_Table_firstOfAll
  simp only [zlt_eq]
  exact first_loop hp hl26 hO 4 0 N μ (by omega) (by omega) hC (fun j hj => by omega)
theorem firstM_loop {N : Nat} {t : Nat} {T : Tb} (ht : t < 4) (hO : TabOk T) : ∀ (f l fuel : Nat) (μ : ZMem), l + f = 4 → f < fuel → TabM μ t T → (∀ j, j < l → μ.1 44 0 j = iI (lo T j)) → ∃ μ', f_M_thinkFirst_l2 N (iI t) fuel (iI l) μ = some ((), μ') ∧ thM μ' (lo T) ∧ frM μ μ'
  | 0, l, fuel, μ, h1, h2, hM, h3 => by
    obtain ⟨q, rfl⟩ : ∃ q, fuel = q + 1 := ⟨fuel - 1, by omega⟩
    have : l = 4 := by omega
    subst this
    refine ⟨μ, ?_, h3, frM.rf⟩
    simp only [f_M_thinkFirst_l2]
    rw [zif_t (by decide)]; rfl
  | f + 1, l, fuel, μ, h1, h2, hM, h3 => by
    obtain ⟨q, rfl⟩ : ∃ q, fuel = q + 1 := ⟨fuel - 1, by omega⟩
    have e : iI (l : Int) + (1 : Int32) = iI ((l + 1 : Nat) : Int) := by rw [ilit, iI_add]; congr 1
    have fr : frM μ (zsetI μ 44 0 l (iI (lo T l))) := frM.rf.set
    obtain ⟨μ', a1, a2, a3⟩ := firstM_loop ht hO f (l + 1) q (zsetI μ 44 0 l (iI (lo T l))) (by omega) (by omega) (hM.same fr.same) (fun j hj => by
      rw [rI]
      by_cases c : j = l
      · rw [if_pos ⟨rfl, rfl, c⟩, c]
      · rw [if_neg (fun e => c e.2.2)]; exact h3 j (by omega)) (N := N)
    refine ⟨μ', ?_, a2, fr.tr a3⟩
    simp only [f_M_thinkFirst_l2]
    rw [zif_f (by rw [ilit, iI_le (by omega) (by omega) (by omega) (by omega)]; omega), s_M_firstOf ht hM (by omega), zbnd_eq, zchk_t (zin_k 4 rfl (by omega) (by omega) (by omega)), cl_nat (by omega), zlt_eq, zlt_eq, e]
    exact a1
theorem s_thinkFirst {N : Nat} {μ : ZMem} {t : Nat} {T : Tb} (hN : 130 ≤ N) (ht : t < 4) (hM : TabM μ t T) (hO : TabOk T) : ∃ μ', f_M_thinkFirst N μ (iI t) = some ((), μ') ∧ thM μ' (lo T) ∧ frM μ μ' := by
  unfold f_M_thinkFirst
  simp only [zlt_eq]
  exact firstM_loop ht hO 4 0 N μ (by omega) (by omega) hM (fun j hj => by omega)
theorem thC_set {μ : ZMem} {p l : Nat} {th : Nat → Int} {v : Int} (h : thC μ p th) : thC (zsetI μ 26 p l (iI v)) p (tset th l v) := fun j hj => by
  unfold tset
  rw [rI]
  by_cases c : j = l
  · rw [if_pos ⟨rfl, rfl, c⟩, if_pos c]
  · rw [if_neg (fun e => c e.2.2), if_neg c]; exact h j hj
theorem thM_set {μ : ZMem} {l : Nat} {th : Nat → Int} {v : Int} (h : thM μ th) : thM (zsetI μ 44 0 l (iI v)) (tset th l v) := fun j hj => by
  unfold tset
  rw [rI]
  by_cases c : j = l
  · rw [if_pos ⟨rfl, rfl, c⟩, if_pos c]
  · rw [if_neg (fun e => c e.2.2), if_neg c]; exact h j hj
theorem next_loop {N : Nat} {t p : Nat} {T : Tb} (hp : 2 ≤ p) (hl26 : zlen 26 p = 4) (hO : TabOk T) : ∀ (f fuel : Nat) (μ : ZMem) (th : Nat → Int), f ≤ 4 → f < fuel → TabC μ t T → thC μ p th → inB T th → ∃ μ', f_Table_nextOfAll_l2 N t p (fun (x10 : Int32) (μ11 : ZMem) => zchk (zin x10 (zlen 26 p)) (zchk (zin x10 (zlen 26 p)) (zlt (zsetI μ11 26 p x10.toNatClampNeg ((μ11.1 26 p x10.toNatClampNeg) + (1 : Int32))) (fun (μ12 : ZMem) => zret () μ12)))) fuel (iI ((f : Int) - 1)) μ = some ((), μ') ∧ thC μ' p (nx T f th) ∧ frA p μ μ'
  | 0, fuel, μ, th, h1, h2, hC, hth, hB => by
    obtain ⟨q, rfl⟩ : ∃ q, fuel = q + 1 := ⟨fuel - 1, by omega⟩
    refine ⟨μ, ?_, hth, frA.rf⟩
    simp only [f_Table_nextOfAll_l2]
    rw [zif_t (by decide)]; rfl
  | f + 1, fuel, μ, th, h1, h2, hC, hth, hB => by
    obtain ⟨q, rfl⟩ : ∃ q, fuel = q + 1 := ⟨fuel - 1, by omega⟩
    have ef : ((f + 1 : Nat) : Int) - 1 = f := by omega
    have e : iI (f : Int) + (-1 : Int32) = iI ((f : Int) - 1) := by rw [m1, iI_add]; congr 1
    have hl := lohi hO (l := f) (by omega)
    have hc := hC.2 f (by omega)
    have hb := hB f (by omega)
    have ht := hth f (by omega)
    rw [ef]
    simp only [f_Table_nextOfAll_l2]
    rw [zif_f (by rw [zi0, iI_lt (by omega) (by omega) (by omega) (by omega)]; omega), s_Table_isHidden hC hO (by omega), zbnd_eq]
    simp only [zlt_eq, e]
    unfold nx
    by_cases c : T.2.2.2.1 f = -1
    · have l0 : lo T f = 0 := by unfold lo; rw [if_pos c]
      have h0 : hi T f = 0 := by unfold hi; rw [if_pos c]
      rw [if_pos c, zif_t rfl, if_pos (by omega)]
      have : tset th f (lo T f) = th := by
        funext j
        unfold tset
        split
        · rename_i q; rw [q]; omega
        · rfl
      rw [this]
      exact next_loop hp hl26 hO f q μ th (by omega) (by omega) hC hth hB
    · have l0 : T.2.2.2.1 f = lo T f := by unfold lo; rw [if_neg c]
      have h0 : T.2.2.2.2 f = hi T f := by unfold hi; rw [if_neg c]
      rw [if_neg c, zif_f (by decide), zchk_t (zin_k 4 hl26 (by omega) (by omega) (by omega)), zchk_t (zin_k 4 rfl (by omega) (by omega) (by omega))]
      simp only [cl_nat (show f < 2147483648 by omega), hc.1, hc.2, ht, l0, h0]
      by_cases c2 : hi T f ≤ th f
      · rw [zif_t (by rw [iI_le (by omega) (by omega) (by omega) (by omega)]; exact c2), if_pos c2, zchk_t (zin_k 4 rfl (by omega) (by omega) (by omega)), zchk_t (zin_k 4 hl26 (by omega) (by omega) (by omega))]
        have fr : frA p μ (zsetI μ 26 p f (iI (lo T f))) := frA.rf.set
        obtain ⟨μ', a1, a2, a3⟩ := next_loop hp hl26 hO f q (zsetI μ 26 p f (iI (lo T f))) (tset th f (lo T f)) (by omega) (by omega) (hC.same (fr.same hp)) (thC_set hth) (inB_set hB (by omega) (by omega)) (N := N)
        exact ⟨μ', a1, a2, fr.tr a3⟩
      · rw [zif_f (by rw [iI_le (by omega) (by omega) (by omega) (by omega)]; exact c2), if_neg c2, zchk_t (zin_k 4 hl26 (by omega) (by omega) (by omega)), zchk_t (zin_k 4 hl26 (by omega) (by omega) (by omega)), ilit, iI_add]
        exact ⟨_, rfl, thC_set hth, frA.rf.set⟩
theorem s_nextOfAll {N : Nat} {μ : ZMem} {t p : Nat} {T : Tb} {th : Nat → Int} (hN : 130 ≤ N) (hp : 2 ≤ p) (hl26 : zlen 26 p = 4) (hC : TabC μ t T) (hO : TabOk T) (hth : thC μ p th) (hB : inB T th) : ∃ μ', f_Table_nextOfAll N μ t p = some ((), μ') ∧ thC μ' p (nx T 4 th) ∧ frA p μ μ' := by
  unfold f_Table_nextOfAll
  simp only [zlt_eq]
  exact next_loop hp hl26 hO 4 N μ th (by omega) (by omega) hC hth hB
theorem nextM_loop {N : Nat} {t : Nat} {T : Tb} (htl : t < 4) (hO : TabOk T) : ∀ (f fuel : Nat) (μ : ZMem) (th : Nat → Int), f ≤ 4 → f < fuel → TabM μ t T → thM μ th → inB T th → ∃ μ', f_M_thinkNext_l2 N (iI t) (fun (x10 : Int32) (μ11 : ZMem) => zchk (zin x10 (zlen 44 0)) (zchk (zin x10 (zlen 44 0)) (zlt (zsetI μ11 44 0 x10.toNatClampNeg ((μ11.1 44 0 x10.toNatClampNeg) + (1 : Int32))) (fun (μ12 : ZMem) => zret () μ12)))) fuel (iI ((f : Int) - 1)) μ = some ((), μ') ∧ thM μ' (nx T f th) ∧ frM μ μ'
  | 0, fuel, μ, th, h1, h2, hM, hth, hB => by
    obtain ⟨q, rfl⟩ : ∃ q, fuel = q + 1 := ⟨fuel - 1, by omega⟩
    refine ⟨μ, ?_, hth, frM.rf⟩
    simp only [f_M_thinkNext_l2]
    rw [zif_t (by decide)]; rfl
  | f + 1, fuel, μ, th, h1, h2, hM, hth, hB => by
    obtain ⟨q, rfl⟩ : ∃ q, fuel = q + 1 := ⟨fuel - 1, by omega⟩
    have ef : ((f + 1 : Nat) : Int) - 1 = f := by omega
    have e : iI (f : Int) + (-1 : Int32) = iI ((f : Int) - 1) := by rw [m1, iI_add]; congr 1
    have hl := lohi hO (l := f) (by omega)
    have hb := hB f (by omega)
    have ht := hth f (by omega)
    rw [ef]
    simp only [f_M_thinkNext_l2]
    rw [zif_f (by rw [zi0, iI_lt (by omega) (by omega) (by omega) (by omega)]; omega), zchk_t (zin_k 4 rfl (by omega) (by omega) (by omega)), s_M_lastOf htl hM (by omega), zbnd_eq]
    simp only [cl_nat (show f < 2147483648 by omega), ht]
    unfold nx
    by_cases c2 : hi T f ≤ th f
    · rw [zif_t (by rw [iI_le (by omega) (by omega) (by omega) (by omega)]; exact c2), if_pos c2, s_M_firstOf htl hM (by omega), zbnd_eq, zchk_t (zin_k 4 rfl (by omega) (by omega) (by omega)), zlt_eq, zlt_eq, e]
      have fr : frM μ (zsetI μ 44 0 f (iI (lo T f))) := frM.rf.set
      obtain ⟨μ', a1, a2, a3⟩ := nextM_loop htl hO f q (zsetI μ 44 0 f (iI (lo T f))) (tset th f (lo T f)) (by omega) (by omega) (hM.same fr.same) (thM_set hth) (inB_set hB (by omega) (by omega)) (N := N)
      exact ⟨μ', a1, a2, fr.tr a3⟩
    · rw [zif_f (by rw [iI_le (by omega) (by omega) (by omega) (by omega)]; exact c2), if_neg c2, zchk_t (zin_k 4 rfl (by omega) (by omega) (by omega)), zchk_t (zin_k 4 rfl (by omega) (by omega) (by omega)), ilit, iI_add]
      exact ⟨_, rfl, thM_set hth, frM.rf.set⟩
theorem s_thinkNext {N : Nat} {μ : ZMem} {t : Nat} {T : Tb} {th : Nat → Int} (hN : 130 ≤ N) (ht : t < 4) (hM : TabM μ t T) (hO : TabOk T) (hth : thM μ th) (hB : inB T th) : ∃ μ', f_M_thinkNext N μ (iI t) = some ((), μ') ∧ thM μ' (nx T 4 th) ∧ frM μ μ' := by
  unfold f_M_thinkNext
  simp only [zlt_eq]
  exact nextM_loop ht hO 4 N μ th (by omega) (by omega) hM hth hB
