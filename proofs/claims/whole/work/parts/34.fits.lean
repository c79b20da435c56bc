/-! fits: what says just this -/
def bt (w : Int64) (k : Nat) : Bool := w.toBitVec.getLsbD k
theorem msk : ∀ k : Fin 64, (zshlJ 1 (iI (k.val : Int))).toBitVec = BitVec.twoPow 64 k.val := by decide +kernel
theorem bt_and {w m : Int64} {k : Nat} (hk : k < 64) (hm : m.toBitVec = BitVec.twoPow 64 k) : (lg_cmp (w &&& m) 0 = 0) = (bt w k = false) := by
  rw [lcmp_eqv, ← Int64.toBitVec_inj, Int64.toBitVec_and, hm, BitVec.and_twoPow]
  unfold bt
  cases h : w.toBitVec.getLsbD k with
  | false => simp
  | true =>
    simp only [if_true]
    refine propext ⟨fun q => ?_, fun q => by cases q⟩
    have := congrArg (fun z => BitVec.getLsbD z k) q
    simp [hk] at this
theorem bt_or {w m : Int64} {k j : Nat} (hk : k < 64) (hm : m.toBitVec = BitVec.twoPow 64 k) : bt (w ||| m) j = (bt w j || decide (k = j)) := by
  unfold bt
  rw [Int64.toBitVec_or, hm, BitVec.getLsbD_or, BitVec.getLsbD_twoPow]
  simp [hk]
theorem shr6 {y : Nat} (h : y < 10000) : zshrI (iI (y : Int)) 6 = iI ((y / 64 : Nat) : Int) := by
  have h1 : (zshrI (iI (y : Int)) 6).toInt = (iI (y : Int)).toInt >>> 6 := by
    show (BitVec.sshiftRight' (iI (y : Int)).toBitVec _).toInt = _
    rw [BitVec.toInt_sshiftRight']
    rfl
  rw [← Int32.toInt_inj, h1, iI_toInt (by omega) (by omega), iI_toInt (by omega) (by omega), Int.shiftRight_eq_div_pow]
  rfl
theorem and63 {y : Nat} (h : y < 10000) : iI (y : Int) &&& 63 = iI ((y % 64 : Nat) : Int) := by
  rw [← Int32.toInt_inj, iI_toInt (by omega) (by omega)]
  have e : (iI (y : Int)).toBitVec.toNat = y := by
    show (BitVec.ofInt 32 (y : Int)).toNat = y
    rw [BitVec.toNat_ofInt]
    omega
  have h1 : (iI (y : Int) &&& 63).toBitVec.toNat = y % 64 := by
    show ((iI (y : Int)).toBitVec &&& 63#32).toNat = _
    rw [BitVec.toNat_and, e]
    exact Nat.and_two_pow_sub_one_eq_mod _ 6
  have h2 : (iI (y : Int) &&& 63).toInt = (iI (y : Int) &&& 63).toBitVec.toInt := rfl
  rw [h2, BitVec.toInt_eq_toNat_cond, h1]
  rw [if_pos (by omega)]
theorem fillJ_loop {N k o n : Nat} {v : Int64} {μ : ZMem} (hn : zlen k o = n) (hn2 : n < 2147483648) : ∀ (f i fuel : Nat) (ν : ZMem), i + f = n → f < fuel → ν.1 = μ.1 → (∀ k' i' x, ν.2 k' i' x = if k' = k ∧ i' = o ∧ x < i then v else μ.2 k' i' x) → ∃ ν', f_JArr_fillJ_l6 N k o v (iI n) fuel (iI i) ν = some ((), ν') ∧ ν'.1 = μ.1 ∧ (∀ k' i' x, ν'.2 k' i' x = if k' = k ∧ i' = o ∧ x < n then v else μ.2 k' i' x)
  | 0, i, fuel, ν, h1, h2, h3, h4 => by
    obtain ⟨q, rfl⟩ : ∃ q, fuel = q + 1 := ⟨fuel - 1, by omega⟩
    have : i = n := by omega
    subst this
    refine ⟨ν, ?_, h3, h4⟩
    simp only [f_JArr_fillJ_l6]
    rw [zif_t (by rw [iI_le (by omega) (by omega) (by omega) (by omega)]; omega)]; rfl
  | f + 1, i, fuel, ν, h1, h2, h3, h4 => by
    obtain ⟨q, rfl⟩ : ∃ q, fuel = q + 1 := ⟨fuel - 1, by omega⟩
    have e : iI (i : Int) + (1 : Int32) = iI ((i + 1 : Nat) : Int) := by rw [ilit, iI_add]; congr 1
    obtain ⟨ν', a1, a2, a3⟩ := fillJ_loop (N := N) (v := v) (μ := μ) hn hn2 f (i + 1) q (zsetJ ν k o i v) (by omega) (by omega) h3 (fun k' i' x => by
      rw [rJ]
      by_cases c : k' = k ∧ i' = o ∧ x = i
      · rw [if_pos c, if_pos (by omega)]
      · rw [if_neg c, h4]
        by_cases c2 : k' = k ∧ i' = o ∧ x < i
        · rw [if_pos c2, if_pos (by omega)]
        · rw [if_neg c2, if_neg (by omega)])
    refine ⟨ν', ?_, a2, a3⟩
    simp only [f_JArr_fillJ_l6]
    rw [zif_f (by rw [iI_le (by omega) (by omega) (by omega) (by omega)]; omega), zchk_t (zin_k n hn (by omega) (by omega) (by omega)), cl_nat (by omega), zlt_eq, zlt_eq, e]
    exact a1
theorem s_fillJ {N k o n : Nat} {v : Int64} {μ : ZMem} (hN : n < N) (hn : zlen k o = n) (hn2 : n < 2147483648) : ∃ ν', f_JArr_fillJ N μ k o v = some ((), ν') ∧ ν'.1 = μ.1 ∧ (∀ k' i' x, ν'.2 k' i' x = if k' = k ∧ i' = o ∧ x < n then v else μ.2 k' i' x) := by
  unfold f_JArr_fillJ
  rw [hn, nI_iI]
  simp only [zlt_eq]
  exact fillJ_loop hn hn2 n 0 N μ (by omega) (by omega) rfl (fun k' i' x => by rw [if_neg (by omega)])
abbrev Ty : Type := Nat × Nat × Int × Int × (Nat → Bool)
def tlN (s : Ty) (y : Nat) : Ty := (s.1 + 1, if s.2.2.2.2 y then s.2.1 else s.2.1 + 1, if s.1 = 0 then (y : Int) else min s.2.2.1 y, if s.1 = 0 then (y : Int) else max s.2.2.2.1 y, fun j => s.2.2.2.2 j || decide (j = y))
def tlOk (s : Ty) : Prop := s.2.1 ≤ s.1 ∧ 0 ≤ s.2.2.1 ∧ s.2.2.1 ≤ 9999 ∧ 0 ≤ s.2.2.2.1 ∧ s.2.2.2.1 ≤ 9999
theorem tlN_ok {s : Ty} {y : Nat} (h : tlOk s) (hy : y < 10000) : tlOk (tlN s y) := by
  unfold tlOk tlN at *
  simp only
  refine ⟨?_, ?_, ?_, ?_, ?_⟩
  · split <;> omega
  all_goals (split <;> omega)
def RA (μ : ZMem) (s : Ty) : Prop := μ.1 8 0 1 = iI s.1 ∧ μ.1 8 0 4 = iI s.2.1 ∧ (s.1 ≠ 0 → μ.1 8 0 2 = iI s.2.2.1 ∧ μ.1 8 0 3 = iI s.2.2.2.1) ∧ ∀ j, j < 10000 → bt (μ.2 30 0 (j / 64)) (j % 64) = s.2.2.2.2 j
/-- only the tally of the class may differ -/
def frT (μ μ' : ZMem) : Prop := (∀ k i x, k ≠ 8 → μ'.1 k i x = μ.1 k i x) ∧ ∀ k i x, k ≠ 30 → μ'.2 k i x = μ.2 k i x
theorem frT.same {μ μ' : ZMem} (h : frT μ μ') : Same μ μ' := ⟨fun k i x q => h.1 k i x (fun e => by
  rw [e] at q
  have : relI 8 i x = false := by unfold relI; simp
  rw [this] at q; cases q), fun k i x q => h.2 k i x (fun e => by
  rw [e] at q; cases q)⟩
theorem s_note {N : Nat} {μ : ZMem} {s : Ty} {y : Nat} (hy : y < 10000) (hR : RA μ s) (hs : tlOk s) (hs2 : s.1 < 100000) : ∃ μ', f_Tally_note N μ (iI y) = some ((), μ') ∧ RA μ' (tlN s y) ∧ frT μ μ' := by
  obtain ⟨r1, r2, r3, r4⟩ := hR
  obtain ⟨o1, o2, o3, o4, o5⟩ := hs
  have en : iI (s.1 : Int) + (1 : Int32) = iI ((s.1 + 1 : Nat) : Int) := by rw [ilit, iI_add]; congr 1
  have ed : iI (s.2.1 : Int) + (1 : Int32) = iI ((s.2.1 + 1 : Nat) : Int) := by rw [ilit, iI_add]; congr 1
  have hm : (zshlJ 1 (iI ((y % 64 : Nat) : Int))).toBitVec = BitVec.twoPow 64 (y % 64) := msk ⟨y % 64, by omega⟩
  generalize hmm : zshlJ 1 (iI ((y % 64 : Nat) : Int)) = m at hm
  -- least and most
  obtain ⟨l', hl'⟩ : ∃ l' : Int, l' = if s.1 = 0 then (y : Int) else min s.2.2.1 y := ⟨_, rfl⟩
  obtain ⟨h', hh'⟩ : ∃ h' : Int, h' = if s.1 = 0 then (y : Int) else max s.2.2.2.1 y := ⟨_, rfl⟩
  obtain ⟨ν, hν⟩ : ∃ ν, ν = zsetI (zsetI (zsetI μ 8 0 2 (iI l')) 8 0 3 (iI h')) 8 0 1 (iI ((s.1 + 1 : Nat) : Int)) := ⟨_, rfl⟩
  have n1 : ν.1 8 0 1 = iI ((s.1 + 1 : Nat) : Int) := by rw [hν]; simp [rI]
  have n2 : ν.1 8 0 2 = iI l' := by rw [hν]; simp [rI]
  have n3 : ν.1 8 0 3 = iI h' := by rw [hν]; simp [rI]
  have n4 : ν.1 8 0 4 = iI s.2.1 := by rw [hν]; simp [rI]; exact r2
  have n5 : ν.2 = μ.2 := by rw [hν]; rfl
  have n6 : ∀ k i x, k ≠ 8 → ν.1 k i x = μ.1 k i x := fun k i x q => by rw [hν]; simp [rI, q]
  have hF : f_Tally_note N μ (iI y) = zif ((lg_cmp ((ν.2 30 0 (y / 64)) &&& m) (0 : Int64)) = 0) (some ((), zsetI (zsetJ ν 30 0 (y / 64) ((ν.2 30 0 (y / 64)) ||| m)) 8 0 4 (iI ((s.2.1 + 1 : Nat) : Int)))) (some ((), ν)) := by
    unfold f_Tally_note
    have e4 : (zsetJ ν 30 0 (y / 64) ((ν.2 30 0 (y / 64)) ||| m)).1 8 0 4 = iI s.2.1 := n4
    rw [s_A_isNumber (by omega) (by omega), zbnd_eq, if_pos (by omega), zif_f (by decide)]
    have e9 : ∀ μ6 : ZMem, μ6 = zsetI μ 8 0 2 (iI l') → μ6.1 8 0 1 = iI s.1 ∧ (s.1 ≠ 0 → μ6.1 8 0 3 = iI s.2.2.2.1) := fun μ6 h => by rw [h]; simp [rI]; exact ⟨r1, fun q => (r3 q).2⟩
    obtain ⟨μ6, hμ6⟩ : ∃ μ6, μ6 = zsetI μ 8 0 2 (iI l') := ⟨_, rfl⟩
    obtain ⟨e10, e11⟩ := e9 μ6 hμ6
    have eT : ∀ μ8 : ZMem, μ8 = μ6 → zlt (zsetI μ8 8 0 3 (iI h')) (fun (μ10 : ZMem) => zlt (zsetI μ10 8 0 1 ((μ10.1 8 0 1) + (1 : Int32))) (fun (μ11 : ZMem) => zlt (zshlJ (1 : Int64) (iI (y : Int) &&& (63 : Int32))) (fun (x12 : Int64) => zchk (zin (zshrI (iI (y : Int)) (6 : Int32)) (zlen 30 0)) (zif ((lg_cmp ((μ11.2 30 0 (zshrI (iI (y : Int)) (6 : Int32)).toNatClampNeg) &&& x12) (0 : Int64)) = 0) (zchk (zin (zshrI (iI (y : Int)) (6 : Int32)) (zlen 30 0)) (zchk (zin (zshrI (iI (y : Int)) (6 : Int32)) (zlen 30 0)) (zlt (zsetJ μ11 30 0 (zshrI (iI (y : Int)) (6 : Int32)).toNatClampNeg ((μ11.2 30 0 (zshrI (iI (y : Int)) (6 : Int32)).toNatClampNeg) ||| x12)) (fun (μ13 : ZMem) => zlt (zsetI μ13 8 0 4 ((μ13.1 8 0 4) + (1 : Int32))) (fun (μ14 : ZMem) => zret () μ14))))) (zret () μ11))))) = zif ((lg_cmp ((ν.2 30 0 (y / 64)) &&& m) (0 : Int64)) = 0) (some ((), zsetI (zsetJ ν 30 0 (y / 64) ((ν.2 30 0 (y / 64)) ||| m)) 8 0 4 (iI ((s.2.1 + 1 : Nat) : Int)))) (some ((), ν)) := fun μ8 h8 => by
      have e1 : zsetI (zsetI μ8 8 0 3 (iI h')) 8 0 1 ((zsetI μ8 8 0 3 (iI h')).1 8 0 1 + 1) = ν := by
        have : (zsetI μ8 8 0 3 (iI h')).1 8 0 1 = iI s.1 := by rw [rI, if_neg (by omega), h8]; exact e10
        rw [this, en, hν, h8, hμ6]
      simp only [zlt_eq, e1, and63 hy, shr6 hy, hmm]
      simp only [zchk_t (zin_k (z := ((y / 64 : Nat) : Int)) (k := 30) (i := 0) 157 rfl (by omega) (by omega) (by omega)), cl_nat (show y / 64 < 2147483648 by omega), e4, ed]
      rfl
    rw [r1]
    refine zlt_gen (fun J hJ => ?_)
    have hJJ : J (iI l') μ = zif ((lg_cmp ((ν.2 30 0 (y / 64)) &&& m) (0 : Int64)) = 0) (some ((), zsetI (zsetJ ν 30 0 (y / 64) ((ν.2 30 0 (y / 64)) ||| m)) 8 0 4 (iI ((s.2.1 + 1 : Nat) : Int)))) (some ((), ν)) := by
      rw [hJ]
      show zlt (zsetI μ 8 0 2 (iI l')) _ = _
      rw [zlt_eq, ← hμ6]
      refine zlt_gen (fun J2 hJ2 => ?_)
      have hJ3 : J2 (iI h') μ6 = zif ((lg_cmp ((ν.2 30 0 (y / 64)) &&& m) (0 : Int64)) = 0) (some ((), zsetI (zsetJ ν 30 0 (y / 64) ((ν.2 30 0 (y / 64)) ||| m)) 8 0 4 (iI ((s.2.1 + 1 : Nat) : Int)))) (some ((), ν)) := by rw [hJ2]; exact eT μ6 rfl
      rw [e10]
      by_cases c : s.1 = 0
      · rw [zif_t (by rw [c]; rfl)]
        rw [if_pos c] at hh'
        rw [hh'] at hJ3
        rw [hh'] at *
        exact hJ3
      · rw [zif_f (by rw [zi0, iI_eq (by omega) (by omega) (by omega) (by omega)]; omega), e11 c, iI_max (by omega) (by omega) (by omega) (by omega)]
        rw [if_neg c] at hh'
        rw [← hh']
        exact hJ3
    by_cases c : s.1 = 0
    · rw [zif_t (by rw [c]; rfl)]
      have : l' = y := by rw [hl', if_pos c]
      rw [← this]
      rw [this] at hJJ ⊢
      exact hJJ
    · rw [zif_f (by rw [zi0, iI_eq (by omega) (by omega) (by omega) (by omega)]; omega), (r3 c).1, iI_min (by omega) (by omega) (by omega) (by omega)]
      have : l' = min s.2.2.1 y := by rw [hl', if_neg c]
      rw [← this]
      exact hJJ
  have r4' : ∀ j, j < 10000 → bt (ν.2 30 0 (j / 64)) (j % 64) = s.2.2.2.2 j := by rw [n5]; exact r4
  cases hb : s.2.2.2.2 y with
  | true =>
    refine ⟨ν, ?_, ⟨n1, ?_, fun _ => ⟨?_, ?_⟩, fun j hj => ?_⟩, n6, fun k i x _ => by rw [n5]⟩
    · rw [hF, zif_f (by rw [bt_and (by omega) hm, r4' y hy, hb]; decide)]
    · rw [n4]; unfold tlN; rw [hb]; rfl
    · rw [n2, hl']; rfl
    · rw [n3, hh']; rfl
    · rw [r4' j hj]
      unfold tlN
      by_cases c : j = y
      · rw [c]; simp [hb]
      · simp [c]
  | false =>
    refine ⟨zsetI (zsetJ ν 30 0 (y / 64) ((ν.2 30 0 (y / 64)) ||| m)) 8 0 4 (iI ((s.2.1 + 1 : Nat) : Int)), ?_, ⟨?_, ?_, fun _ => ⟨?_, ?_⟩, fun j hj => ?_⟩, fun k i x q => ?_, fun k i x q => ?_⟩
    · rw [hF, zif_t (by rw [bt_and (by omega) hm, r4' y hy, hb])]
    · rw [rI, if_neg (by omega)]; exact n1
    · rw [rI, if_pos (by omega)]; unfold tlN; rw [hb]; rfl
    · rw [rI, if_neg (by omega)]; show ν.1 8 0 2 = _; rw [n2, hl']; rfl
    · rw [rI, if_neg (by omega)]; show ν.1 8 0 3 = _; rw [n3, hh']; rfl
    · show bt ((zsetJ ν 30 0 (y / 64) ((ν.2 30 0 (y / 64)) ||| m)).2 30 0 (j / 64)) (j % 64) = _
      rw [rJ]
      unfold tlN
      by_cases c : j / 64 = y / 64
      · rw [if_pos ⟨rfl, rfl, c⟩, bt_or (by omega) hm, ← c, r4' j hj]
        have : (y % 64 = j % 64) = (j = y) := propext ⟨fun q => by omega, fun q => by omega⟩
        simp only [this]
      · rw [if_neg (fun q => c q.2.2), r4' j hj]
        have : ¬ j = y := fun q => c (by rw [q])
        simp [this]
    · rw [rI, if_neg (fun e => q e.1)]; exact n6 k i x q
    · show (zsetJ ν 30 0 (y / 64) ((ν.2 30 0 (y / 64)) ||| m)).2 k i x = _
      rw [rJ, if_neg (fun e => q e.1), n5]
