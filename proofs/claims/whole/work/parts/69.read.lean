/-! table: the class reads numbers, words, letters -/
theorem vN_dA {z : Nat → Int} {n p : Nat} (hp : p ≤ n) (hg : tG z n p = 2) : 0 ≤ dA z (tS z n p) (tE z n p - tS z n p) ∧ dA z (tS z n p) (tE z n p - tS z n p) ≤ 99999 ∧ (dA z (tS z n p) (tE z n p - tS z n p) = vN z n p ∨ (9999 < dA z (tS z n p) (tE z n p - tS z n p) ∧ 9999 < vN z n p)) ∧ 0 ≤ vN z n p ∧ vN z n p ≤ 999999 := by
  obtain ⟨r1, r2, r3, r4, r5, r6, r7, r8, r9⟩ := tk_rng (z := z) hp
  have hd : ∀ j, j < tE z n p - tS z n p → 48 ≤ z (tS z n p + j) ∧ z (tS z n p + j) ≤ 57 := fun j hj => srt2.1 ((r9 (Or.inr hg) (tS z n p + j) (by omega) (by omega)).trans hg)
  have h1 := dA_dM _ hd
  have h2 := dM_rng _ hd
  exact ⟨h1.1, h1.2.1, h1.2.2, h2.1, h2.2⟩
theorem s_readNumber {N n p t : Nat} {z : Nat → Int} {μ : ZMem} {lo hi : Int} (hN : 400 ≤ N) (hT : tpA μ n z) (hp : p ≤ n) (h5 : μ.1 2 0 5 = iI p) (hlo : 0 ≤ lo) (hlo2 : lo ≤ 9999) (hhi0 : 0 ≤ hi) (hhi : hi ≤ 9999) : AX t μ (f_Reader_readNumber N μ (iI lo) (iI hi)) (pN z n lo hi p) := by
  obtain ⟨μ1, a1, a2, a3⟩ := s_advance hN hT hp h5
  obtain ⟨r1, r2, r3, r4, r5, r6, r7, r8, r9⟩ := tk_rng (z := z) hp
  have hn := hT.1
  unfold f_Reader_readNumber pN
  rw [a1, zbnd_eq, a2.2.1]
  by_cases c : tG z n p = 2
  · rw [zif_t (by rw [c]; rfl), if_pos c, s_numberOfDigits hN hp (hT.fr a3) a2 c, zbnd_eq]
    obtain ⟨d1, d2, d3, d4, d5⟩ := vN_dA hp c
    obtain ⟨D, hD⟩ : ∃ D, D = dA z (tS z n p) (tE z n p - tS z n p) := ⟨_, rfl⟩
    rw [← hD] at d1 d2 d3 ⊢
    obtain ⟨ω, hω⟩ : ∃ ω, ω = zsetI μ1 2 0 6 (iI D) := ⟨_, rfl⟩
    have w6 : ω.1 2 0 6 = iI D := by rw [hω, rI, if_pos ⟨rfl, rfl, rfl⟩]
    have w4 : ω.1 2 0 4 = iI (tS z n p : Nat) := by rw [hω, rI, if_neg (by omega)]; exact a2.1
    have w5 : ω.1 2 0 5 = iI (tE z n p : Nat) := by rw [hω, rI, if_neg (by omega)]; exact a2.2.2
    have fω : fr6 μ ω := by rw [hω]; exact a3.six.set (by omega) (by omega)
    simp only [zlt_eq, ← hω, w6]
    by_cases c2 : lo ≤ vN z n p ∧ vN z n p ≤ hi
    · rw [zif_f (by rw [iI_lt (by omega) (by omega) (by omega) (by omega)]; omega), zif_t (by rw [iI_le (by omega) (by omega) (by omega) (by omega)]; omega), if_pos c2]
      exact ⟨ω, rfl, fω, w5, by rw [w6]; congr 1; omega, by omega, by show vN z n p < 10004; omega⟩
    · rw [if_neg c2]
      by_cases c3 : D < lo
      · rw [zif_t (by rw [iI_lt (by omega) (by omega) (by omega) (by omega)]; omega)]
        exact refuse_if (c := 2) w4 fω.g rfl
      · rw [zif_f (by rw [iI_lt (by omega) (by omega) (by omega) (by omega)]; omega), zif_f (by rw [iI_le (by omega) (by omega) (by omega) (by omega)]; omega)]
        exact refuse_if (c := 2) w4 fω.g rfl
  · rw [zif_f (by rw [ilit, iI_eq (by omega) (by omega) (by omega) (by omega)]; exact c), if_neg c]
    exact refuse_chk (c := 1) a2.1 a3.g rfl
theorem s_readWord {N n p t k : Nat} {z : Nat → Int} {μ : ZMem} (hN : 400 ≤ N) (hk : k < 13) (hT : tpA μ n z) (hp : p ≤ n) (h5 : μ.1 2 0 5 = iI p) : AP t μ (f_Reader_readWord N μ k) (pW z n k p) := by
  obtain ⟨μ1, a1, a2, a3⟩ := s_advance hN hT hp h5
  obtain ⟨r1, r2, r3, r4, r5, r6, r7, r8, r9⟩ := tk_rng (z := z) hp
  unfold f_Reader_readWord pW
  rw [a1, zbnd_eq, a2.2.1]
  simp only [zlt_eq]
  by_cases c : tG z n p = 1
  · rw [zif_t (by rw [c]; rfl), s_spells (by omega) hk (hT.fr a3) a2.1 a2.2.2 r3 r4, zbnd_eq]
    cases hb : spB z (tS z n p) (tE z n p - tS z n p) k with
    | true =>
      rw [zif_f (show ¬ bI true = 0 by decide), if_pos ⟨c, rfl⟩]
      exact ⟨μ1, rfl, a3, a2.2.2⟩
    | false =>
      rw [zif_t (show bI false = 0 from rfl), if_neg (fun q => by cases q.2)]
      exact refuse_if (c := 1) a2.1 a3.g rfl
  · rw [zif_f (by rw [ilit, iI_eq (by omega) (by omega) (by omega) (by omega)]; exact c), if_neg (fun q => c q.1)]
    exact refuse_if (c := 1) a2.1 a3.g rfl
theorem s_readSemicolon {N n p t : Nat} {z : Nat → Int} {μ : ZMem} (hN : 400 ≤ N) (hT : tpA μ n z) (hp : p ≤ n) (h5 : μ.1 2 0 5 = iI p) : AP t μ (f_Reader_readSemicolon N μ) (pS z n p) := by
  obtain ⟨μ1, a1, a2, a3⟩ := s_advance hN hT hp h5
  obtain ⟨r1, r2, r3, r4, r5, r6, r7, r8, r9⟩ := tk_rng (z := z) hp
  unfold f_Reader_readSemicolon pS
  rw [a1, zbnd_eq, a2.2.1]
  simp only [zlt_eq]
  by_cases c : tG z n p = 3
  · rw [zif_t (by rw [c]; rfl), if_pos c]
    exact ⟨μ1, rfl, a3, a2.2.2⟩
  · rw [zif_f (by rw [ilit, iI_eq (by omega) (by omega) (by omega) (by omega)]; exact c), if_neg c]
    exact refuse_if (c := 1) a2.1 a3.g rfl
def hidOk (T : Tb) : Prop := ∀ l, l < 4 → -1 ≤ T.2.2.2.1 l ∧ T.2.2.2.1 l ≤ 9999
theorem s_isHidden {N t : Nat} {μ : ZMem} {T : Tb} {l : Int} (ht : t < 4) (hC : TabC μ t T) (hH : hidOk T) (h0 : 0 ≤ l) (h3 : l ≤ 3) : f_Table_isHidden N μ t (iI l) = some (bI (decide (T.2.2.2.1 l.toNat ≠ -1)), μ) := by
  have hr := hH l.toNat (by omega)
  have hc := (hC.2 l.toNat (by omega)).1
  have hl : zlen 24 t = 4 := rfl
  unfold f_Table_isHidden f_A_isLetter
  rw [zif_f (by rw [zi0, iI_lt (by omega) (by omega) (by omega) (by omega)]; omega), zif_f (by rw [ilit, iI_le (by omega) (by omega) (by omega) (by omega)]; omega)]
  show zbnd (some (1, μ)) _ = _
  rw [zbnd_eq, zif_f (by decide), zchk_t (zin_k 4 hl (by omega) (by omega) (by omega)), iI_clamp (by omega) (by omega), hc]
  by_cases c : T.2.2.2.1 l.toNat = -1
  · rw [zif_t (by rw [c]; decide), decide_eq_false (fun q => q c)]; rfl
  · rw [zif_f (by rw [m1, iI_eq (by omega) (by omega) (by omega) (by omega)]; exact c), decide_eq_true c]; rfl
theorem s_readX {N n p t : Nat} {z : Nat → Int} {μ : ZMem} {T : Tb} (hN : 400 ≤ N) (ht : t < 4) (hT : tpA μ n z) (hp : p ≤ n) (h5 : μ.1 2 0 5 = iI p) (hC : TabC μ t T) (hH : hidOk T) : AX t μ (f_Reader_readX N μ t) (pX z n T p) := by
  obtain ⟨μ1, a1, a2, a3⟩ := s_advance hN hT hp h5
  obtain ⟨r1, r2, r3, r4, r5, r6, r7, r8, r9⟩ := tk_rng (z := z) hp
  have hn := hT.1
  unfold f_Reader_readX pX
  rw [a1, zbnd_eq, a2.2.1]
  by_cases c : tG z n p = 2
  · rw [zif_t (by rw [c]; rfl), if_pos c, s_numberOfDigits hN hp (hT.fr a3) a2 c, zbnd_eq]
    obtain ⟨d1, d2, d3, d4, d5⟩ := vN_dA hp c
    obtain ⟨D, hD⟩ : ∃ D, D = dA z (tS z n p) (tE z n p - tS z n p) := ⟨_, rfl⟩
    rw [← hD] at d1 d2 d3 ⊢
    obtain ⟨ω, hω⟩ : ∃ ω, ω = zsetI μ1 2 0 6 (iI D) := ⟨_, rfl⟩
    have w6 : ω.1 2 0 6 = iI D := by rw [hω, rI, if_pos ⟨rfl, rfl, rfl⟩]
    have w4 : ω.1 2 0 4 = iI (tS z n p : Nat) := by rw [hω, rI, if_neg (by omega)]; exact a2.1
    have w5 : ω.1 2 0 5 = iI (tE z n p : Nat) := by rw [hω, rI, if_neg (by omega)]; exact a2.2.2
    have fω : fr6 μ ω := by rw [hω]; exact a3.six.set (by omega) (by omega)
    simp only [zlt_eq, ← hω, w6]
    by_cases c2 : vN z n p ≤ 9999
    · rw [zif_t (by rw [ilit, iI_le (by omega) (by omega) (by omega) (by omega)]; omega), if_pos c2]
      exact ⟨ω, rfl, fω, w5, by rw [w6]; congr 1; omega, by omega, by show vN z n p < 10004; omega⟩
    · rw [if_neg c2, zif_f (by rw [ilit, iI_le (by omega) (by omega) (by omega) (by omega)]; omega)]
      exact refuse_if (c := 2) w4 fω.g rfl
  · have hl := lOf_rng (z := z) (n := n) (p := p)
    rw [zif_f (by rw [ilit, iI_eq (by omega) (by omega) (by omega) (by omega)]; exact c), if_neg c, s_letterOfWord hp (hT.fr a3) a2, zbnd_eq, zlt_eq]
    by_cases c1 : lOf z n p = -1
    · rw [zif_t (by rw [c1]; decide), if_pos c1]
      exact refuse_chk (c := 1) a2.1 a3.g rfl
    · rw [zif_f (by rw [m1, iI_eq (by omega) (by omega) (by omega) (by omega)]; exact c1), if_neg c1, ilit, iI_add, zlt_eq]
      obtain ⟨ω, hω⟩ : ∃ ω, ω = zsetI μ1 2 0 6 (iI (10000 + lOf z n p)) := ⟨_, rfl⟩
      have w6 : ω.1 2 0 6 = iI (10000 + lOf z n p) := by rw [hω, rI, if_pos ⟨rfl, rfl, rfl⟩]
      have w4 : ω.1 2 0 4 = iI (tS z n p : Nat) := by rw [hω, rI, if_neg (by omega)]; exact a2.1
      have w5 : ω.1 2 0 5 = iI (tE z n p : Nat) := by rw [hω, rI, if_neg (by omega)]; exact a2.2.2
      have fω : fr6 μ ω := by rw [hω]; exact a3.six.set (by omega) (by omega)
      have hω2 : zsetI μ1 2 0 6 (iI (OfNat.ofNat 10000 + lOf z n p)) = ω := by rw [hω]
      rw [hω2, s_isHidden ht (hC.fr6 fω) hH (by omega) (by omega), zbnd_eq]
      simp only [zlt_eq]
      by_cases c2 : T.2.2.2.1 (lOf z n p).toNat = -1
      · rw [decide_eq_false (fun q => q c2), zif_t (show bI false = 0 from rfl), if_pos c2]
        exact refuse_if (c := 4) w4 fω.g rfl
      · rw [decide_eq_true c2, zif_f (show ¬ bI true = 0 by decide), if_neg c2]
        exact ⟨ω, rfl, fω, w5, w6, by show 0 ≤ 10000 + lOf z n p; omega, by show 10000 + lOf z n p < 10004; omega⟩
theorem AX.chk {t : Nat} {μ : ZMem} {r : Option (Int32 × ZMem)} {o : Sum (Int × Nat) (Int × Nat)} (h : AX t μ r o) : AX t μ (zbnd r (fun (r7 : Int32) (μ6 : ZMem) => zchk (narrow .boolean (.int r7) = .int r7) (zret r7 μ6))) o := by
  cases o with
  | inl g =>
    obtain ⟨μ', a, b⟩ := h
    exact ⟨μ', by rw [a, zbnd_eq, zchk_t (by decide)]; rfl, b⟩
  | inr w =>
    obtain ⟨μ', a, b⟩ := h
    exact ⟨μ', by rw [a, zbnd_eq, zchk_t (by decide)]; rfl, b⟩
theorem AX.pre {t : Nat} {μ ν : ZMem} {r : Option (Int32 × ZMem)} {o : Sum (Int × Nat) (Int × Nat)} (h : AX t ν r o) (f : fr6 μ ν) : AX t μ r o := by
  cases o with
  | inl g =>
    obtain ⟨μ', a, b, d⟩ := h
    exact ⟨μ', a, f.g.f.tr b, d⟩
  | inr w =>
    obtain ⟨μ', a, b, d⟩ := h
    exact ⟨μ', a, f.tr b, d⟩
theorem s_readArgument {N n p t : Nat} {z : Nat → Int} {μ : ZMem} {T : Tb} {k : Int} (hN : 400 ≤ N) (ht : t < 4) (hT : tpA μ n z) (hp : p ≤ n) (h5 : μ.1 2 0 5 = iI p) (hC : TabC μ t T) (hH : hidOk T) (hk0 : 0 ≤ k) (hk : k ≤ 10) : AX t μ (f_Reader_readArgument N μ t (iI k)) (pA z n T k p) := by
  have hn := hT.1
  unfold f_Reader_readArgument pA
  rw [zlt_eq]
  obtain ⟨ω, hω⟩ : ∃ ω, ω = zsetI μ 2 0 6 (0 : Int32) := ⟨_, rfl⟩
  have fω : fr6 μ ω := by rw [hω]; exact fr6.rf.set (by omega) (by omega)
  have w5 : ω.1 2 0 5 = iI p := by rw [hω, rI, if_neg (by omega)]; exact h5
  rw [← hω]
  by_cases c : k < 6
  · rw [zif_f (by rw [ilit, iI_le (by omega) (by omega) (by omega) (by omega)]; omega), if_pos c]
    exact AX.chk ((s_readX hN ht (hT.fr6 fω) hp w5 (hC.fr6 fω) hH).pre fω)
  · rw [zif_t (by rw [ilit, iI_le (by omega) (by omega) (by omega) (by omega)]; omega), if_neg c]
    simp only [zlt_eq]
    by_cases c8 : k = 8
    · rw [zif_t (by rw [c8]; rfl), if_pos c8]
      have h := (s_readNumber (t := t) (lo := 1) (hi := 9) hN (hT.fr6 fω) hp w5 (by omega) (by omega) (by omega) (by omega)).pre fω
      have e : f_Reader_readNumber N ω (iI 1) (iI 9) = f_Reader_readNumber N ω 1 9 := rfl
      rw [e] at h
      cases ho : pN z n 1 9 p with
      | inl g =>
        rw [ho] at h
        obtain ⟨μ', a, b⟩ := h
        exact ⟨μ', by rw [a, zbnd_eq, zif_t rfl]; rfl, b⟩
      | inr w =>
        rw [ho] at h
        obtain ⟨μ', a, b⟩ := h
        exact ⟨μ', by rw [a, zbnd_eq, zif_f (by decide)]; rfl, b⟩
    · rw [zif_f (by rw [ilit, iI_eq (by omega) (by omega) (by omega) (by omega)]; exact c8), if_neg c8]
      exact ⟨ω, rfl, fω, w5, by rw [hω, rI, if_pos ⟨rfl, rfl, rfl⟩]; rfl, by show (0 : Int) ≤ 0; omega, by show (0 : Int) < 10004; omega⟩
