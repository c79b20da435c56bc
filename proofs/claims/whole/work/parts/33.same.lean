/-! same, unlike -/
theorem zlt_gen' {α β : Type} {v : α} {k : α → Option β} {P : Option β → Prop} (h : ∀ J, J = v → P (k J)) : P (zlt v k) := h v rfl
def rn (T : Tb) (th : Nat → Int) : Nat × (Int × Int) := rnS T.2.1 T.2.2.1 th T.1 0 (bg T th, 1)
def uS (T : Tb) (v : Int × Int) : Nat → (Nat → Int) → Option (Nat → Int)
  | 0, _ => none
  | f + 1, th => if (rn T th).1 = T.1 ∧ (rn T th).2 = v then uS T v f (nx T 4 th) else some th
theorem rn_isV {T : Tb} {th : Nat → Int} (hO : TabOk T) (hth : okT th) : isV (rn T th).2 := rnS_isV hO.2.1 hth T.1 0 _ (by omega) (bg_isV hth)
theorem is_eq {N : Nat} {μ : ZMem} {o : Nat} {v w : Int × Int} (hv : isV v) (hw : isV w) (h0 : μ.2 7 o 0 = lI v.1) (h1 : μ.2 7 o 1 = lI v.2) : f_Value_is N μ o (lI w.1) (lI w.2) = some (if v = w then 1 else 0, μ) := by
  obtain ⟨b1, b2, b3, b4, b5⟩ := hv
  obtain ⟨a1, a2, a3, a4, a5⟩ := hw
  unfold f_Value_is
  rw [h0, h1]
  by_cases d1 : v.1 = w.1
  · rw [zif_t (by rw [lcmp_eq (by omega) (by omega) (by omega) (by omega)]; exact d1)]
    by_cases d2 : v.2 = w.2
    · rw [zif_t (by rw [lcmp_eq (by omega) (by omega) (by omega) (by omega)]; exact d2), if_pos (Prod.ext d1 d2)]; rfl
    · rw [zif_f (by rw [lcmp_eq (by omega) (by omega) (by omega) (by omega)]; exact d2), if_neg (fun q => d2 (by rw [q]))]; rfl
  · rw [zif_f (by rw [lcmp_eq (by omega) (by omega) (by omega) (by omega)]; exact d1), if_neg (fun q => d1 (by rw [q]))]; rfl
theorem un_a {N : Nat} {t : Nat} {T : Tb} {v : Int × Int} (hN : 130 ≤ N) (htl : t < 4) (hO : TabOk T) (hc : cn T 4 ≤ 20000) (hv : isV v) :
    ∀ (f i fuel : Nat) (μ : ZMem) (th : Nat → Int), ((i + f : Nat) : Int) = cn T 4 → f < fuel → TabC μ t T → thC μ 2 th → inB T th → (i = 0 → v = (rn T th).2) → (i ≠ 0 → μ.2 7 1 0 = lI v.1 ∧ μ.2 7 1 1 = lI v.2) →
      ∃ μ', f_A_findUnlike_l16 N t (lI (cn T 4)) fuel (iI i) μ = some (so (uS T v f th) 1 0, μ') ∧ Same μ μ' ∧ ∀ u, uS T v f th = some u → thC μ' 2 u ∧ inB T u
  | 0, i, fuel, μ, th, h1, h2, hC, hth, hB, h0, h0' => by
    obtain ⟨q, rfl⟩ : ∃ q, fuel = q + 1 := ⟨fuel - 1, by omega⟩
    refine ⟨μ, ?_, Same.rf, fun u h => by cases h⟩
    simp only [f_A_findUnlike_l16]
    rw [iI_long (by omega) (by omega), zif_t (by rw [lcmp_ge (by omega) (by omega) (by omega) (by omega)]; omega)]; rfl
  | f + 1, i, fuel, μ, th, h1, h2, hC, hth, hB, h0, h0' => by
    obtain ⟨q, rfl⟩ : ∃ q, fuel = q + 1 := ⟨fuel - 1, by omega⟩
    have hr := rn_isV hO (hB.ok hO)
    have e : iI (i : Int) + (1 : Int32) = iI ((i + 1 : Nat) : Int) := by rw [ilit, iI_add]; congr 1
    have hE := s_Table_comesToEnd (N := N) (μ := μ) (t := t) (p := 2) (v := 0) hN htl hC hO hth (hB.ok hO)
    rw [show rnS T.2.1 T.2.2.1 th T.1 0 (bg T th, 1) = rn T th from rfl] at hE
    have s0 : Same μ (setV μ 0 (rn T th).2) := Same.rf.setV
    simp only [f_A_findUnlike_l16]
    rw [iI_long (by omega) (by omega), zif_f (by rw [lcmp_ge (by omega) (by omega) (by omega) (by omega)]; omega), zif_f (by rw [ilit, iI_le (by omega) (by omega) (by omega) (by omega)]; omega), hE, zbnd_eq]
    unfold uS
    by_cases c : (rn T th).1 = T.1
    · rw [if_pos c, zif_f (by decide)]
      refine zlt_gen' (P := fun z => ∃ μ', z = some (so (if (rn T th).1 = T.1 ∧ (rn T th).2 = v then uS T v f (nx T 4 th) else some th) 1 0, μ') ∧ Same μ μ' ∧ ∀ u, (if (rn T th).1 = T.1 ∧ (rn T th).2 = v then uS T v f (nx T 4 th) else some th) = some u → thC μ' 2 u ∧ inB T u) (fun J hJ => ?_)
      -- the join
      have hJJ : ∀ μ8 : ZMem, Same μ μ8 → thC μ8 2 th → μ8.2 7 0 0 = lI (rn T th).2.1 → μ8.2 7 0 1 = lI (rn T th).2.2 → μ8.2 7 1 0 = lI v.1 → μ8.2 7 1 1 = lI v.2 → ∃ μ', J μ8 = some (so (if (rn T th).1 = T.1 ∧ (rn T th).2 = v then uS T v f (nx T 4 th) else some th) 1 0, μ') ∧ Same μ μ' ∧ ∀ u, (if (rn T th).1 = T.1 ∧ (rn T th).2 = v then uS T v f (nx T 4 th) else some th) = some u → thC μ' 2 u ∧ inB T u := by
        intro μ8 r1 r2 r3 r4 r5 r6
        rw [hJ]
        simp only [r5, r6]
        rw [is_eq hr hv r3 r4, zbnd_eq]
        by_cases d : (rn T th).2 = v
        · rw [if_pos d, zif_f (by decide), if_pos ⟨c, d⟩]
          obtain ⟨μ9, b1, b2, b3⟩ := s_nextOfAll (N := N) (μ := μ8) (t := t) (p := 2) hN (by omega) rfl (hC.same r1) hO r2 hB
          have b4 := b3.same (by omega)
          obtain ⟨μ', d1, d2, d3⟩ := un_a hN htl hO hc hv f (i + 1) q μ9 (nx T 4 th) (by omega) (by omega) ((hC.same r1).same b4) b2 (nx_in hO 4 th (by omega) hB) (by omega) (fun _ => by rw [b3.1]; exact ⟨r5, r6⟩)
          rw [b1, zbnd_eq, zlt_eq, e]
          exact ⟨μ', d1, (r1.tr b4).tr d2, d3⟩
        · rw [if_neg d, zif_t rfl, if_neg (fun q => d q.2)]
          exact ⟨μ8, rfl, r1, fun u h => by cases h; exact ⟨r2, hB⟩⟩
      by_cases c0 : i = 0
      · rw [zif_t (by rw [c0]; rfl)]
        have hv' := h0 c0
        unfold f_Value_copyFrom
        simp only [zlt_eq, zret, zbnd_eq, setV_0]
        have r0 : (zsetJ (setV μ 0 (rn T th).2) 7 1 0 (lI (rn T th).2.1)).2 7 0 1 = lI (rn T th).2.2 := by rw [rJ, if_neg (by omega)]; exact setV_1
        rw [r0]
        refine hJJ (setV (setV μ 0 (rn T th).2) 1 (rn T th).2) s0.setV hth ?_ ?_ (by rw [hv']; exact setV_0) (by rw [hv']; exact setV_1)
        · unfold setV; simp only [rJ]; rfl
        · unfold setV; simp only [rJ]; rfl
      · rw [zif_f (by rw [zi0, iI_eq (by omega) (by omega) (by omega) (by omega)]; omega)]
        refine hJJ (setV μ 0 (rn T th).2) s0 hth setV_0 setV_1 ?_ ?_
        · unfold setV; simp only [rJ]; exact (h0' c0).1
        · unfold setV; simp only [rJ]; exact (h0' c0).2
    · rw [if_neg c, zif_t rfl, if_neg (fun q => c q.1)]
      exact ⟨setV μ 0 (rn T th).2, rfl, s0, fun u h => by cases h; exact ⟨hth, hB⟩⟩
theorem s_findUnlike {N : Nat} {μ : ZMem} {t : Nat} {T : Tb} (hN : 30000 ≤ N) (htl : t < 4) (hC : TabC μ t T) (hO : TabOk T) (hc : cn T 4 ≤ 20000) :
    ∃ μ', f_A_findUnlike N μ t = some (so (uS T (rn T (lo T)).2 (cn T 4).toNat (lo T)) 1 0, μ') ∧ Same μ μ' ∧ ∀ u, uS T (rn T (lo T)).2 (cn T 4).toNat (lo T) = some u → thC μ' 2 u ∧ inB T u := by
  have hb := cn_rng hO (l := 4) (by omega)
  obtain ⟨μ1, b1, b2, b3⟩ := s_firstOfAll (N := N) (μ := μ) (t := t) (p := 2) (by omega) (by omega) rfl hC hO
  have b4 := b3.same (by omega)
  obtain ⟨μ', d1, d2, d3⟩ := un_a (N := N) (v := (rn T (lo T)).2) (by omega) htl hO hc (rn_isV hO ((inB_lo hO).ok hO)) (cn T 4).toNat 0 N μ1 (lo T) (by omega) (by omega) (hC.same b4) b2 (inB_lo hO) (fun _ => rfl) (fun q => absurd rfl q)
  refine ⟨μ', ?_, b4.tr d2, d3⟩
  unfold f_A_findUnlike
  rw [s_countAll (by omega) hC hO, zbnd_eq, zlt_eq, b1, zbnd_eq, zlt_eq]
  exact d1
theorem un_m {N : Nat} {t : Nat} {T : Tb} {v : Int × Int} (hN : 130 ≤ N) (htl : t < 4) (hO : TabOk T) (hc : cn T 4 ≤ 20000) (hv : isV v) :
    ∀ (f i fuel : Nat) (μ : ZMem) (th : Nat → Int), ((i + f : Nat) : Int) = cn T 4 → f < fuel → TabM μ t T → thM μ th → inB T th →
      ∃ μ', f_M_isSame_l40 N (iI t) (iI (cn T 4)) (lI v.1) (lI v.2) fuel (iI i) μ = some (so (uS T v f (nx T 4 th)) 0 1, μ') ∧ Same μ μ' ∧ ∀ u, uS T v f (nx T 4 th) = some u → thM μ' u ∧ inB T u
  | 0, i, fuel, μ, th, h1, h2, hM, hth, hB => by
    obtain ⟨q, rfl⟩ : ∃ q, fuel = q + 1 := ⟨fuel - 1, by omega⟩
    refine ⟨μ, ?_, Same.rf, fun u h => by cases h⟩
    simp only [f_M_isSame_l40]
    rw [zif_t (by rw [iI_le (by omega) (by omega) (by omega) (by omega)]; omega)]; rfl
  | f + 1, i, fuel, μ, th, h1, h2, hM, hth, hB => by
    obtain ⟨q, rfl⟩ : ∃ q, fuel = q + 1 := ⟨fuel - 1, by omega⟩
    have hn := hO.1
    have e : iI (i : Int) + (1 : Int32) = iI ((i + 1 : Nat) : Int) := by rw [ilit, iI_add]; congr 1
    obtain ⟨μ9, b1, b2, b3⟩ := s_thinkNext (N := N) (μ := μ) (t := t) hN htl hM hO hth hB
    have hB2 := nx_in hO 4 th (by omega) hB
    generalize hth2 : nx T 4 th = th2 at *
    have b4 := b3.same
    have hM9 := hM.same b4
    have hr := rn_isV hO (hB2.ok hO)
    have hE := s_M_goTo (N := N) (μ := μ9) (t := t) (m := T.1) hN htl hM9 hO b2 (hB2.ok hO) (by omega)
    rw [show rnS T.2.1 T.2.2.1 th2 T.1 0 (bg T th2, 1) = rn T th2 from rfl] at hE
    have hrr := rnS_rng (kd := T.2.1) (xs := T.2.2.1) (th := th2) T.1 0 (bg T th2, 1)
    rw [show rnS T.2.1 T.2.2.1 th2 T.1 0 (bg T th2, 1) = rn T th2 from rfl] at hrr
    have s0 : Same μ (setM μ9 (rn T th2).2) := b4.setM
    have s9 : Same μ9 (setM μ9 (rn T th2).2) := Same.rf.setM
    simp only [f_M_isSame_l40]
    rw [zif_f (by rw [iI_le (by omega) (by omega) (by omega) (by omega)]; omega), b1, zbnd_eq, s_M_ordersOf htl hM9, zbnd_eq, hE, zbnd_eq, setM_0, setM_1, zlt_eq, e]
    unfold uS
    obtain ⟨b1', b2', b3', b4', b5'⟩ := hr
    obtain ⟨a1, a2, a3, a4, a5⟩ := id hv
    by_cases c : (rn T th2).1 = T.1
    · rw [if_pos c, zif_f (by rw [zi0, iI_le (by omega) (by omega) (by omega) (by omega)]; omega)]
      by_cases d : (rn T th2).2 = v
      · rw [zif_t (by rw [lcmp_eq (by omega) (by omega) (by omega) (by omega), d]), zif_t (by rw [lcmp_eq (by omega) (by omega) (by omega) (by omega), d]), if_pos ⟨c, d⟩]
        obtain ⟨μ', d1, d2, d3⟩ := un_m hN htl hO hc hv f (i + 1) q (setM μ9 (rn T th2).2) th2 (by omega) (by omega) (hM.same s0) b2 hB2
        exact ⟨μ', d1, s0.tr d2, d3⟩
      · rw [if_neg (fun q => d q.2)]
        by_cases d1 : (rn T th2).2.1 = v.1
        · have d2 : ¬ (rn T th2).2.2 = v.2 := fun q => d (Prod.ext d1 q)
          rw [zif_t (by rw [lcmp_eq (by omega) (by omega) (by omega) (by omega)]; exact d1), zif_f (by rw [lcmp_eq (by omega) (by omega) (by omega) (by omega)]; exact d2)]
          exact ⟨_, rfl, s0, fun u h => by cases h; exact ⟨b2, hB2⟩⟩
        · rw [zif_f (by rw [lcmp_eq (by omega) (by omega) (by omega) (by omega)]; exact d1)]
          exact ⟨_, rfl, s0, fun u h => by cases h; exact ⟨b2, hB2⟩⟩
    · rw [if_neg c, zif_t (by rw [zi0, iI_le (by omega) (by omega) (by omega) (by omega)]; omega), if_neg (fun q => c q.1)]
      exact ⟨_, rfl, s0, fun u h => by cases h; exact ⟨b2, hB2⟩⟩
theorem s_isSame {N : Nat} {μ : ZMem} {t : Nat} {T : Tb} (hN : 30000 ≤ N) (htl : t < 4) (hM : TabM μ t T) (hO : TabOk T) (hc : cn T 4 ≤ 20000) :
    ∃ μ', f_M_isSame N μ (iI t) = some (so (uS T (rn T (lo T)).2 (cn T 4).toNat (lo T)) 0 1, μ') ∧ Same μ μ' ∧ ∀ u, uS T (rn T (lo T)).2 (cn T 4).toNat (lo T) = some u → thM μ' u ∧ inB T u := by
  have hn := hO.1
  have hb := cn_rng hO (l := 4) (by omega)
  obtain ⟨μ9, b1, b2, b3⟩ := s_thinkFirst (N := N) (μ := μ) (t := t) (by omega) htl hM hO
  have b4 := b3.same
  have hM9 := hM.same b4
  have hB := inB_lo hO
  have hr := rn_isV hO (hB.ok hO)
  have hE := s_M_goTo (N := N) (μ := μ9) (t := t) (m := T.1) (by omega) htl hM9 hO b2 (hB.ok hO) (by omega)
  rw [show rnS T.2.1 T.2.2.1 (lo T) T.1 0 (bg T (lo T), 1) = rn T (lo T) from rfl] at hE
  have hrr := rnS_rng (kd := T.2.1) (xs := T.2.2.1) (th := lo T) T.1 0 (bg T (lo T), 1)
  rw [show rnS T.2.1 T.2.2.1 (lo T) T.1 0 (bg T (lo T), 1) = rn T (lo T) from rfl] at hrr
  have s0 : Same μ (setM μ9 (rn T (lo T)).2) := b4.setM
  unfold f_M_isSame
  rw [s_M_allOf (by omega) htl hM hO, zbnd_eq, if_pos hc, zlt_eq, b1, zbnd_eq, s_M_ordersOf htl hM9, zbnd_eq, hE, zbnd_eq, setM_0, setM_1, zlt_eq, zlt_eq, zlt_eq]
  obtain ⟨f, hf⟩ : ∃ f, (cn T 4).toNat = f + 1 := ⟨(cn T 4).toNat - 1, by omega⟩
  rw [hf]
  unfold uS
  by_cases c : (rn T (lo T)).1 = T.1
  · rw [if_pos c, zif_t (by rw [zi0, iI_lt (by omega) (by omega) (by omega) (by omega)]; omega), if_pos ⟨c, rfl⟩]
    obtain ⟨μ', d1, d2, d3⟩ := un_m (N := N) (v := (rn T (lo T)).2) (by omega) htl hO hc hr f 1 N (setM μ9 (rn T (lo T)).2) (lo T) (by omega) (by omega) (hM.same s0) b2 hB
    exact ⟨μ', d1, s0.tr d2, d3⟩
  · rw [if_neg c, zif_f (by rw [zi0, iI_lt (by omega) (by omega) (by omega) (by omega)]; omega), if_neg (fun q => c q.1)]
    exact ⟨_, rfl, s0, fun u h => by cases h; exact ⟨b2, hB⟩⟩
theorem ag_same (N : Nat) (hN : 30000 ≤ N) (p0 : Int32) : Agree (fun μ => f_A_same N μ p0) (fun μ => f_M_same N μ p0) := by
  refine Agree.same (fun μ hI => ?_)
  unfold f_A_same f_M_same
  rcases tab_split hI N p0 with ⟨h1, h2⟩ | ⟨t, ht, rfl, htn, h1, h2⟩
  · exact ⟨_, μ, μ, by simp only [h1, zbrf_n]; rfl, by simp only [h2 μ Same.rf, zbnd_eq]; rfl, Same.rf, Same.rf⟩
  · obtain ⟨hC, hM, hO⟩ := hI.tab htn
    generalize hT : tabOf μ t = T at hC hM hO
    have hb := cn_rng hO (l := 4) (by omega)
    by_cases c : cn T 4 ≤ 20000
    · obtain ⟨μ1, a1, a2, a3⟩ := s_findUnlike (N := N) hN ht hC hO c
      have hM1 := hM.same a2
      obtain ⟨μ2, b1, b2, b3⟩ := s_isSame (N := N) hN ht hM1 hO c
      refine ⟨so (uS T (rn T (lo T)).2 (cn T 4).toNat (lo T)) 0 1, μ1, μ2, ?_, ?_, a2, b2⟩
      · simp only [h1, zbrf_s]
        rw [zchk_t ht, s_countAll (by omega) hC hO, zbnd_eq, zif_t (by rw [llit, lcmp_le (by omega) (by omega) (by omega) (by omega)]; exact c), a1, zbnd_eq]
        cases uS T (rn T (lo T)).2 (cn T 4).toNat (lo T) with
        | none => rfl
        | some u => rfl
      · simp only [h2 _ a2, zbnd_eq]
        rw [zif_f (by decide), s_M_allOf (by omega) ht hM1 hO, zbnd_eq, if_pos c, zif_t (by rw [ilit, iI_le (by omega) (by omega) (by omega) (by omega)]; exact c), b1, zbnd_eq]
        cases uS T (rn T (lo T)).2 (cn T 4).toNat (lo T) with
        | none => rfl
        | some u => rfl
    · refine ⟨-2, μ, μ, ?_, ?_, Same.rf, Same.rf⟩
      · simp only [h1, zbrf_s]
        rw [zchk_t ht, s_countAll (by omega) hC hO, zbnd_eq, zif_f (by rw [llit, lcmp_le (by omega) (by omega) (by omega) (by omega)]; exact c)]; rfl
      · simp only [h2 μ Same.rf, zbnd_eq]
        rw [zif_f (by decide), s_M_allOf (by omega) ht hM hO, zbnd_eq, if_neg c, zif_f (by decide)]; rfl
theorem ag_unlike (N : Nat) (hN : 30000 ≤ N) (p0 p1 : Int32) : Agree (fun μ => f_A_unlike N μ p0 p1) (fun μ => f_M_unlike N μ p0 p1) := by
  refine Agree.same (fun μ hI => ?_)
  unfold f_A_unlike f_M_unlike
  rcases tab_split hI N p0 with ⟨h1, h2⟩ | ⟨t, ht, rfl, htn, h1, h2⟩
  · exact ⟨_, μ, μ, by simp only [h1, zbrf_n]; rfl, by simp only [h2 μ Same.rf, zbnd_eq]; rfl, Same.rf, Same.rf⟩
  · obtain ⟨hC, hM, hO⟩ := hI.tab htn
    generalize hT : tabOf μ t = T at hC hM hO
    have hb := cn_rng hO (l := 4) (by omega)
    obtain ⟨x, hx1, hx2, rfl⟩ := iI_ex p1
    have eI : ∀ μ' : ZMem, f_M_isIn N μ' (iI x) 0 3 = some (if 0 ≤ x ∧ x ≤ 3 then 1 else 0, μ') := fun μ' => s_M_isIn (a := 0) (b := 3) hx1 hx2 (by omega) (by omega) (by omega) (by omega)
    by_cases cx : 0 ≤ x ∧ x < 4
    · obtain ⟨l, rfl⟩ : ∃ l : Nat, x = l := ⟨x.toNat, by omega⟩
      by_cases c : cn T 4 ≤ 20000
      · obtain ⟨μ1, a1, a2, a3⟩ := s_findUnlike (N := N) hN ht hC hO c
        have hM1 := hM.same a2
        obtain ⟨μ2, b1, b2, b3⟩ := s_isSame (N := N) hN ht hM1 hO c
        refine ⟨(match uS T (rn T (lo T)).2 (cn T 4).toNat (lo T) with | none => -1 | some u => iI (u l)), μ1, μ2, ?_, ?_, a2, b2⟩
        · simp only [h1, zbrf_s]
          rw [zchk_t ht, s_A_isLetter hx1 hx2, zbnd_eq, if_pos cx, zif_f (by decide), s_countAll (by omega) hC hO, zbnd_eq, zif_t (by rw [llit, lcmp_le (by omega) (by omega) (by omega) (by omega)]; exact c), a1, zbnd_eq]
          cases h : uS T (rn T (lo T)).2 (cn T 4).toNat (lo T) with
          | none => rfl
          | some u =>
            rw [zif_f (show ¬ so (some u) (1 : Int32) 0 = 0 from (by decide : ¬ (1 : Int32) = 0)), zchk_t (zin_k 4 rfl (by omega) (by omega) (by omega)), cl_nat (by omega), (a3 u h).1 l (by omega)]; rfl
        · simp only [h2 _ a2, zbnd_eq]
          rw [zif_f (by decide), eI, zbnd_eq, if_pos (by omega), zif_f (by decide), s_M_allOf (by omega) ht hM1 hO, zbnd_eq, if_pos c, zif_t (by rw [ilit, iI_le (by omega) (by omega) (by omega) (by omega)]; exact c), b1, zbnd_eq]
          cases h : uS T (rn T (lo T)).2 (cn T 4).toNat (lo T) with
          | none => rfl
          | some u =>
            rw [zif_t (show so (some u) (0 : Int32) 1 = 0 from rfl), zchk_t (zin_k 4 rfl (by omega) (by omega) (by omega)), cl_nat (by omega), (b3 u h).1 l (by omega)]; rfl
      · refine ⟨-2, μ, μ, ?_, ?_, Same.rf, Same.rf⟩
        · simp only [h1, zbrf_s]
          rw [zchk_t ht, s_A_isLetter hx1 hx2, zbnd_eq, if_pos cx, zif_f (by decide), s_countAll (by omega) hC hO, zbnd_eq, zif_f (by rw [llit, lcmp_le (by omega) (by omega) (by omega) (by omega)]; exact c)]; rfl
        · simp only [h2 μ Same.rf, zbnd_eq]
          rw [zif_f (by decide), eI, zbnd_eq, if_pos (by omega), zif_f (by decide), s_M_allOf (by omega) ht hM hO, zbnd_eq, if_neg c, zif_f (by decide)]; rfl
    · refine ⟨-1, μ, μ, ?_, ?_, Same.rf, Same.rf⟩
      · simp only [h1, zbrf_s]
        rw [zchk_t ht, s_A_isLetter hx1 hx2, zbnd_eq, if_neg cx, zif_t rfl]; rfl
      · simp only [h2 μ Same.rf, zbnd_eq]
        rw [zif_f (by decide), eI, zbnd_eq, if_neg (by omega), zif_t rfl]; rfl
