/-! table: the class reads clauses -/
theorem FAr.pre {t : Nat} {μ ν : ZMem} {r : Option (Int32 × ZMem)} {g : Int × Nat} (h : FAr t ν r g) (f : frG t μ ν) : FAr t μ r g := by
  obtain ⟨μ', a, b, d⟩ := h
  exact ⟨μ', a, f.f.tr b, d⟩
theorem FAr.chk {t : Nat} {μ : ZMem} {r : Option (Int32 × ZMem)} {g : Int × Nat} (h : FAr t μ r g) : FAr t μ (zbnd r (fun (r7 : Int32) (μ6 : ZMem) => zchk (narrow .boolean (.int r7) = .int r7) (zret r7 μ6))) g := by
  obtain ⟨μ', a, b⟩ := h
  exact ⟨μ', by rw [a, zbnd_eq, zchk_t (by decide)]; rfl, b⟩
theorem FAr.iff {t : Nat} {μ : ZMem} {r : Option (Int32 × ZMem)} {g : Int × Nat} {k : ZMem → Option (Int32 × ZMem)} (h : FAr t μ r g) : FAr t μ (zbnd r (fun (r7 : Int32) (μ6 : ZMem) => zif (r7 = 0) (zret (0 : Int32) μ6) (k μ6))) g := by
  obtain ⟨μ', a, b⟩ := h
  exact ⟨μ', by rw [a, zbnd_eq, zif_t rfl]; rfl, b⟩
def AC (t : Nat) (μ : ZMem) (r : Option (Int32 × ZMem)) (o : Sum (Int × Nat) (Tb × Nat)) : Prop := match o with
  | .inl g => FAr t μ r g
  | .inr w => ∃ μ', r = some (1, μ') ∧ frG t μ μ' ∧ μ'.1 2 0 5 = iI (w.2 : Nat) ∧ TabC μ' t w.1
theorem AC.chk {t : Nat} {μ : ZMem} {r : Option (Int32 × ZMem)} {o : Sum (Int × Nat) (Tb × Nat)} (h : AC t μ r o) : AC t μ (zbnd r (fun (r7 : Int32) (μ6 : ZMem) => zchk (narrow .boolean (.int r7) = .int r7) (zret r7 μ6))) o := by
  cases o with
  | inl g => exact FAr.chk h
  | inr w =>
    obtain ⟨μ', a, b⟩ := h
    exact ⟨μ', by rw [a, zbnd_eq, zchk_t (by decide)]; rfl, b⟩
theorem pN_le {z : Nat → Int} {n p : Nat} {lo hi : Int} {w : Int × Nat} (hp : p ≤ n) (h : pN z n lo hi p = .inr w) : w.2 ≤ n ∧ w.1 = vN z n p ∧ lo ≤ w.1 ∧ w.1 ≤ hi ∧ tG z n p = 2 ∧ w.2 = tE z n p := by
  have := (tk_rng (z := z) hp).2.2.2.1
  unfold pN at h
  split at h
  · split at h
    · rename_i c1 c2; cases h; exact ⟨this, rfl, c2.1, c2.2, c1, rfl⟩
    · cases h
  · cases h
theorem pW_le {z : Nat → Int} {n p k w : Nat} (hp : p ≤ n) (h : pW z n k p = .inr w) : w ≤ n := by
  have := (tk_rng (z := z) hp).2.2.2.1
  unfold pW at h
  split at h
  · cases h; exact this
  · cases h
theorem pS_le {z : Nat → Int} {n p w : Nat} (hp : p ≤ n) (h : pS z n p = .inr w) : w ≤ n := by
  have := (tk_rng (z := z) hp).2.2.2.1
  unfold pS at h
  split at h
  · cases h; exact this
  · cases h
theorem pA_le {z : Nat → Int} {n p : Nat} {T : Tb} {k : Int} {w : Int × Nat} (hp : p ≤ n) (h : pA z n T k p = .inr w) : w.2 ≤ n ∧ (k = 8 → 1 ≤ w.1 ∧ w.1 ≤ 9) := by
  have := (tk_rng (z := z) hp).2.2.2.1
  unfold pA at h
  split at h
  · refine ⟨?_, fun q => by omega⟩
    unfold pX at h
    split at h
    · split at h
      · cases h; exact this
      · cases h
    · split at h
      · cases h
      · split at h
        · cases h
        · cases h; exact this
  · split at h
    · have h' := pN_le hp h
      exact ⟨h'.1, fun _ => ⟨h'.2.2.1, h'.2.2.2.1⟩⟩
    · cases h; exact ⟨hp, fun q => absurd q (by assumption)⟩
theorem TabC.setH {t : Nat} {μ μ' : ZMem} {T : Tb} {l : Nat} {a b : Int} (hC : TabC μ t T) (h : ∀ k i x, ¬ ((k = 24 ∨ k = 25) ∧ i = t ∧ x = l) → (k = 4 ∨ k = 22 ∨ k = 23 ∨ k = 24 ∨ k = 25) → i = t → μ'.1 k i x = μ.1 k i x) (h24 : μ'.1 24 t l = iI a) (h25 : μ'.1 25 t l = iI b) : TabC μ' t (setH T l a b) := by
  obtain ⟨⟨o1, o2⟩, c⟩ := hC
  refine ⟨⟨?_, fun j hj => ?_⟩, fun j hj => ?_⟩
  · rw [h 4 t 2 (by omega) (by omega) rfl]; exact o1
  · rw [h 22 t j (by omega) (by omega) rfl, h 23 t j (by omega) (by omega) rfl]; exact o2 j hj
  · show μ'.1 24 t j = iI (if j = l then a else T.2.2.2.1 j) ∧ μ'.1 25 t j = iI (if j = l then b else T.2.2.2.2 j)
    by_cases e : j = l
    · rw [e, if_pos rfl, if_pos rfl]; exact ⟨h24, h25⟩
    · rw [if_neg e, if_neg e, h 24 t j (by omega) (by omega) rfl, h 25 t j (by omega) (by omega) rfl]; exact c j hj
theorem s_readHide {N n p t : Nat} {z : Nat → Int} {μ : ZMem} {T : Tb} (hN : 400 ≤ N) (ht : t < 4) (hT : tpA μ n z) (hp : p ≤ n) (h5 : μ.1 2 0 5 = iI p) (hC : TabC μ t T) (hH : hidOk T) : AC t μ (f_Reader_readHide N μ t) (pH z n T p) := by
  obtain ⟨μ1, a1, a2, a3⟩ := s_advance hN hT hp h5
  obtain ⟨r1, r2, r3, r4, r5, r6, r7, r8, r9⟩ := tk_rng (z := z) hp
  have hn := hT.1
  have hl := lOf_rng (z := z) (n := n) (p := p)
  unfold f_Reader_readHide pH
  rw [a1, zbnd_eq, s_letterOfWord hp (hT.fr a3) a2, zbnd_eq, zlt_eq]
  by_cases c1 : lOf z n p = -1
  · rw [zif_t (by rw [c1]; decide), if_pos c1]
    exact refuse_chk (c := 1) a2.1 a3.g rfl
  · rw [zif_f (by rw [m1, iI_eq (by omega) (by omega) (by omega) (by omega)]; exact c1), if_neg c1, s_isHidden ht (hC.fr6 a3.six) hH (by omega) (by omega), zbnd_eq]
    by_cases c2 : T.2.2.2.1 (lOf z n p).toNat = -1
    · rw [decide_eq_false (fun q => q c2), zif_t (show bI false = 0 from rfl), if_neg (fun q => q c2)]
      have w1 := s_readWord (t := t) (k := 11) hN (by omega) (hT.fr a3) r4 a2.2.2
      cases e1 : pW z n 11 (tE z n p) with
      | inl g => rw [e1] at w1; exact (FAr.iff w1).pre a3.g
      | inr p1 =>
        rw [e1] at w1
        obtain ⟨μ2, b1, b2, b3⟩ := w1
        have f2 : fr6 μ μ2 := a3.six.tr b2.six
        have l1 := pW_le r4 e1
        rw [b1, zbnd_eq, zif_f (by decide)]
        simp only
        have w2 := s_readNumber (t := t) (lo := 0) (hi := 9999) hN (hT.fr6 f2) l1 b3 (by omega) (by omega) (by omega) (by omega)
        have en : ∀ ω, f_Reader_readNumber N ω (iI 0) (iI 9999) = f_Reader_readNumber N ω 0 9999 := fun ω => rfl
        rw [en] at w2
        cases e2 : pN z n 0 9999 p1 with
        | inl g => rw [e2] at w2; exact (FAr.iff w2).pre f2.g
        | inr w =>
          rw [e2] at w2
          obtain ⟨μ3, d1, d2, d3, d4, d5, d6⟩ := w2
          obtain ⟨a, p2⟩ := w
          obtain ⟨l2, -, l21, l22, -⟩ := pN_le l1 e2
          have f3 : fr6 μ μ3 := f2.tr d2
          rw [d1, zbnd_eq, zif_f (by decide), d4]
          simp only [zlt_eq]
          have w3 := s_readWord (t := t) (k := 12) hN (by omega) (hT.fr6 f3) l2 d3
          cases e3 : pW z n 12 p2 with
          | inl g => rw [e3] at w3; exact (FAr.iff w3).pre f3.g
          | inr p3 =>
            rw [e3] at w3
            obtain ⟨μ4, g1, g2, g3⟩ := w3
            have f4 : fr6 μ μ4 := f3.tr g2.six
            have l3 := pW_le l2 e3
            rw [g1, zbnd_eq, zif_f (by decide)]
            simp only
            have w4 := s_readNumber (t := t) (lo := 0) (hi := 9999) hN (hT.fr6 f4) l3 g3 (by omega) (by omega) (by omega) (by omega)
            rw [en] at w4
            cases e4 : pN z n 0 9999 p3 with
            | inl g => rw [e4] at w4; exact (FAr.iff w4).pre f4.g
            | inr w =>
              rw [e4] at w4
              obtain ⟨b, p4⟩ := w
              obtain ⟨l4, lv, l41, l42, l43, l44⟩ := pN_le l3 e4
              -- the start of the last number is kept
              obtain ⟨μ5, k1, k2, k3, k4, k5, k6⟩ := w4
              have f5 : fr6 μ μ5 := f4.tr k2
              have k7 : μ5.1 2 0 4 = iI (tS z n p3 : Nat) := by
                obtain ⟨ρ, y1, y2, y3⟩ := s_advance hN (hT.fr6 f4) l3 g3
                have q := k1
                unfold f_Reader_readNumber at q
                rw [y1, zbnd_eq, y2.2.1, zif_t (by rw [l43]; rfl), s_numberOfDigits hN l3 ((hT.fr6 f4).fr y3) y2 l43, zbnd_eq] at q
                obtain ⟨x1, x2, x3, x4, x5⟩ := vN_dA l3 l43
                simp only [zlt_eq, rI, and_self, if_true] at q
                simp only at l41 l42 lv
                rw [zif_f (by rw [zi0, iI_lt (by omega) (by omega) (by omega) (by omega)]; omega), zif_t (by rw [ilit, iI_le (by omega) (by omega) (by omega) (by omega)]; omega)] at q
                have q' := congrArg Prod.snd (Option.some.inj q)
                have q2 : zsetI ρ 2 0 6 (iI (dA z (tS z n p3) (tE z n p3 - tS z n p3))) = μ5 := q'
                rw [← q2, rI, if_neg (by omega)]; exact y2.1
              rw [k1, zbnd_eq, zif_f (by decide), k4]
              simp only at l41 l42 l21 l22 ⊢
              by_cases c5 : b < a
              · rw [zif_f (by rw [iI_le (by omega) (by omega) (by omega) (by omega)]; omega), if_pos c5]
                exact (refuse_chk (c := 5) k7 (f5.g (t := t)) rfl)
              · rw [zif_t (by rw [iI_le (by omega) (by omega) (by omega) (by omega)]; omega), if_neg c5, zchk_t (zin_k 4 rfl (by omega) (by omega) (by omega))]
                simp only [iI_clamp (show -2147483648 ≤ lOf z n p by omega) (show lOf z n p < 2147483648 by omega)]
                obtain ⟨L, hL⟩ : ∃ L, L = (lOf z n p).toNat := ⟨_, rfl⟩
                rw [← hL]
                have r6' : (zsetI μ5 24 t L (iI a)).1 2 0 6 = iI b := by rw [rI, if_neg (by omega)]; exact k4
                rw [zchk_t (zin_k 4 rfl (by omega) (by omega) (by omega)), r6']
                obtain ⟨ω, hω⟩ : ∃ ω, ω = zsetI (zsetI μ5 24 t L (iI a)) 25 t L (iI b) := ⟨_, rfl⟩
                rw [← hω]
                have fω : frG t μ ω := f5.g.tr (by
                  rw [hω]
                  refine ⟨fun k i x q1 q2 => ?_, rfl⟩
                  rw [rI, if_neg (fun e => q2 ⟨by omega, e.2.1⟩), rI, if_neg (fun e => q2 ⟨by omega, e.2.1⟩)])
                have hCω : TabC ω t (setH T L a b) := by
                  refine (hC.fr6 f5).setH (fun k i x q1 q2 q3 => ?_) ?_ ?_
                  · rw [hω, rI, if_neg (fun e => q1 ⟨by omega, e.2.1, e.2.2⟩), rI, if_neg (fun e => q1 ⟨by omega, e.2.1, e.2.2⟩)]
                  · rw [hω, rI, if_neg (by omega), rI, if_pos ⟨rfl, rfl, rfl⟩]
                  · rw [hω, rI, if_pos ⟨rfl, rfl, rfl⟩]
                have w5 : ω.1 2 0 5 = iI (p4 : Nat) := by rw [hω, rI, if_neg (by omega), rI, if_neg (by omega)]; exact k3
                have ws := s_readSemicolon (t := t) hN (hT.frg fω) l4 w5
                cases e5 : pS z n p4 with
                | inl g => rw [e5] at ws; exact (FAr.chk ws).pre fω
                | inr p5 =>
                  rw [e5] at ws
                  obtain ⟨μ6, v1, v2, v3⟩ := ws
                  exact ⟨μ6, by rw [v1, zbnd_eq, zchk_t (by decide)]; rfl, fω.tr v2.g, v3, hCω.fr6 v2.six⟩
    · rw [decide_eq_true c2, zif_f (show ¬ bI true = 0 by decide), if_pos c2]
      exact refuse_chk (c := 3) a2.1 a3.g rfl
