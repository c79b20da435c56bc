/-! table: the class reads a table -/
def TG (a : Nat) (T : Tb) : Prop := T.1 ≤ a ∧ TabOk T
theorem TG.hid {a : Nat} {T : Tb} (h : TG a T) : hidOk T := fun l hl => by
  rcases h.2.2.2 l hl with q | q <;> omega
theorem kOf_rng {z : Nat → Int} {n p : Nat} : -1 ≤ kOf z n p ∧ kOf z n p ≤ 10 := by
  unfold kOf
  have := fk_rng (P := spB z (tS z n p) (tE z n p - tS z n p)) 11 0
  split <;> omega
theorem pA_rng {z : Nat → Int} {n p : Nat} {T : Tb} {k : Int} {w : Int × Nat} (hp : p ≤ n) (h : pA z n T k p = .inr w) : 0 ≤ w.1 ∧ w.1 < 10004 := by
  have hl := lOf_rng (z := z) (n := n) (p := p)
  unfold pA at h
  split at h
  · unfold pX at h
    split at h
    · rename_i c
      have := vN_dA hp c
      split at h
      · cases h; show 0 ≤ vN z n p ∧ vN z n p < 10004; omega
      · cases h
    · split at h
      · cases h
      · split at h
        · cases h
        · cases h; show 0 ≤ 10000 + lOf z n p ∧ 10000 + lOf z n p < 10004; omega
  · split at h
    · have h' := pN_le hp h; omega
    · cases h; show (0 : Int) ≤ 0 ∧ (0 : Int) < 10004; omega
theorem pCl_ok {z : Nat → Int} {n a p : Nat} {T : Tb} {w : Tb × Nat} (hp : p ≤ n) (hT : TG a T) (h : pCl z n a T p = .inr w) : a < 24 ∧ TG (a + 1) w.1 ∧ w.2 ≤ n := by
  have hE := (tk_rng (z := z) hp).2.2.2.1
  have hk := kOf_rng (z := z) (n := n) (p := p)
  obtain ⟨h1, h2, h3, h4⟩ := hT
  unfold pCl at h
  split at h
  · cases h
  · split at h
    · cases h
    · split at h
      · refine ⟨by omega, ?_⟩
        unfold pH at h
        have hl := lOf_rng (z := z) (n := n) (p := tE z n p)
        split at h
        · cases h
        · split at h
          · cases h
          · have hE2 := (tk_rng (z := z) hE).2.2.2.1
            cases e1 : pW z n 11 (tE z n (tE z n p)) with
            | inl g => rw [e1] at h; cases h
            | inr p1 =>
              rw [e1] at h
              simp only at h
              have l1 := pW_le hE2 e1
              cases e2 : pN z n 0 9999 p1 with
              | inl g => rw [e2] at h; cases h
              | inr w2 =>
                rw [e2] at h
                obtain ⟨x, p2⟩ := w2
                obtain ⟨l2, -, l21, l22, -⟩ := pN_le l1 e2
                simp only at h l2 l21 l22
                cases e3 : pW z n 12 p2 with
                | inl g => rw [e3] at h; cases h
                | inr p3 =>
                  rw [e3] at h
                  simp only at h
                  have l3 := pW_le l2 e3
                  cases e4 : pN z n 0 9999 p3 with
                  | inl g => rw [e4] at h; cases h
                  | inr w4 =>
                    rw [e4] at h
                    obtain ⟨y, p4⟩ := w4
                    obtain ⟨l4, -, l41, l42, -⟩ := pN_le l3 e4
                    simp only at h l4 l41 l42
                    split at h
                    · cases h
                    · cases e5 : pS z n p4 with
                      | inl g => rw [e5] at h; cases h
                      | inr p5 =>
                        rw [e5] at h
                        cases h
                        refine ⟨⟨by show T.1 ≤ a + 1; omega, h2, h3, fun l hl => ?_⟩, pS_le l4 e5⟩
                        show ((if l = (lOf z n (tE z n p)).toNat then x else T.2.2.2.1 l) = -1 ∧ (if l = (lOf z n (tE z n p)).toNat then y else T.2.2.2.2 l) = -1) ∨ (0 ≤ (if l = (lOf z n (tE z n p)).toNat then x else T.2.2.2.1 l) ∧ (if l = (lOf z n (tE z n p)).toNat then x else T.2.2.2.1 l) ≤ (if l = (lOf z n (tE z n p)).toNat then y else T.2.2.2.2 l) ∧ (if l = (lOf z n (tE z n p)).toNat then y else T.2.2.2.2 l) ≤ 9999)
                        by_cases c : l = (lOf z n (tE z n p)).toNat
                        · rw [if_pos c, if_pos c]; right; omega
                        · rw [if_neg c, if_neg c]; exact h4 l hl
      · refine ⟨by omega, ?_⟩
        unfold pO at h
        cases e1 : pA z n T (kOf z n p) (tE z n p) with
        | inl g => rw [e1] at h; cases h
        | inr w1 =>
          rw [e1] at h
          obtain ⟨x, p1⟩ := w1
          obtain ⟨l1, l8⟩ := pA_le hE e1
          have lr := pA_rng hE e1
          simp only at h l1 l8 lr
          cases e2 : pS z n p1 with
          | inl g => rw [e2] at h; cases h
          | inr p2 =>
            rw [e2] at h
            cases h
            refine ⟨⟨by show T.1 + 1 ≤ a + 1; omega, by show T.1 + 1 ≤ 24; omega, fun j hj => ?_, h4⟩, pS_le l1 e2⟩
            have hj' : j < T.1 + 1 := hj
            show 0 ≤ (if j = T.1 then kOf z n p else T.2.1 j) ∧ (if j = T.1 then kOf z n p else T.2.1 j) ≤ 9 ∧ okX (if j = T.1 then x else T.2.2.1 j) ∧ ((if j = T.1 then kOf z n p else T.2.1 j) = 8 → 1 ≤ (if j = T.1 then x else T.2.2.1 j) ∧ (if j = T.1 then x else T.2.2.1 j) ≤ 9)
            by_cases c : j = T.1
            · simp only [if_pos c]
              exact ⟨by omega, by omega, ⟨lr.1, lr.2⟩, l8⟩
            · simp only [if_neg c]
              exact h3 j (by omega)
theorem pR_ok {z : Nat → Int} {n : Nat} : ∀ (f a : Nat) (T : Tb) (p : Nat) {T' : Tb}, p ≤ n → TG a T → pR z n f a T p = .inr T' → TabOk T'
  | 0, a, T, p, T', _, _, h => by cases h
  | f + 1, a, T, p, T', hp, hT, h => by
    unfold pR at h
    split at h
    · cases h; exact hT.2
    · cases e : pCl z n a T p with
      | inl g => rw [e] at h; cases h
      | inr w =>
        rw [e] at h
        obtain ⟨w1, w2, w3⟩ := pCl_ok hp hT e
        exact pR_ok f (a + 1) w.1 w.2 w3 w2 h
theorem s_readClause {N n p t a : Nat} {z : Nat → Int} {μ : ZMem} {T : Tb} (hN : 400 ≤ N) (ht : t < 4) (hT : tpA μ n z) (hp : p ≤ n) (hk : tkA μ z n p) (hC : TabC μ t T) (hG : TG a T) (ha : a ≤ 24) : AC t μ (f_Reader_readClause N μ t (iI a)) (pCl z n a T p) := by
  obtain ⟨r1, r2, r3, r4, r5, r6, r7, r8, r9⟩ := tk_rng (z := z) hp
  have hkr := kOf_rng (z := z) (n := n) (p := p)
  have hn := hT.1
  unfold f_Reader_readClause pCl
  rw [s_kindOfWord (by omega) hp hT hk, zbnd_eq, zlt_eq]
  by_cases c1 : kOf z n p = -1
  · rw [zif_t (by rw [c1]; decide), if_pos c1]
    exact refuse_chk (c := 1) hk.1 frG.rf rfl
  · rw [zif_f (by rw [m1, iI_eq (by omega) (by omega) (by omega) (by omega)]; exact c1), if_neg c1]
    by_cases c2 : 24 ≤ a
    · rw [zif_f (by rw [ilit, iI_lt (by omega) (by omega) (by omega) (by omega)]; omega), if_pos c2]
      exact refuse_chk (c := 6) hk.1 frG.rf rfl
    · rw [zif_t (by rw [ilit, iI_lt (by omega) (by omega) (by omega) (by omega)]; omega), if_neg c2]
      by_cases c3 : kOf z n p = 10
      · rw [zif_t (by rw [c3]; rfl), if_pos c3]
        exact (s_readHide hN ht hT r4 hk.2.2 hC hG.hid).chk
      · rw [zif_f (by rw [ilit, iI_eq (by omega) (by omega) (by omega) (by omega)]; exact c3), if_neg c3]
        unfold pO
        have wA := s_readArgument (t := t) (k := kOf z n p) hN ht hT r4 hk.2.2 hC hG.hid (by omega) (by omega)
        cases e1 : pA z n T (kOf z n p) (tE z n p) with
        | inl g => rw [e1] at wA; exact FAr.iff wA
        | inr w =>
          rw [e1] at wA
          obtain ⟨x, p1⟩ := w
          obtain ⟨μ1, a1, a2, a3, a4, a5, a6⟩ := wA
          have l1 := (pA_le r4 e1).1
          rw [a1, zbnd_eq, zif_f (by decide)]
          simp only at l1 ⊢
          have wS := s_readSemicolon (t := t) hN (hT.fr6 a2) l1 a3
          cases e2 : pS z n p1 with
          | inl g => rw [e2] at wS; exact (FAr.iff wS).pre a2.g
          | inr p2 =>
            rw [e2] at wS
            obtain ⟨μ2, b1, b2, b3⟩ := wS
            rw [b1, zbnd_eq, zif_f (by decide)]
            have f2 : fr6 μ μ2 := a2.tr b2.six
            have hC2 := hC.fr6 f2
            have h6 : μ2.1 2 0 6 = iI x := by rw [b2.1 2 0 6 (by omega)]; exact a4
            have hT1 : T.1 < 24 := by have := hG.1; omega
            have hl22 : zlen 22 t = 24 := by rw [len22]; rw [if_pos ht]
            rw [h6, s_Orders_add (o := t) (n := T.1) (cap := 24) hC2.1.1 (by omega) hl22 (by rw [show zlen 23 t = zlen 22 t from rfl]; exact hl22) (by omega), if_pos hT1, zbnd_eq, zif_f (by decide)]
            refine ⟨_, rfl, f2.g.tr ⟨fun k i y q1 q2 => ?_, rfl⟩, ?_, ⟨⟨?_, fun j hj => ?_⟩, fun l hl => ?_⟩⟩
            · rw [rI, if_neg (fun e => q2 ⟨by omega, e.2.1⟩), rI, if_neg (fun e => q2 ⟨by omega, e.2.1⟩), rI, if_neg (fun e => q2 ⟨by omega, e.2.1⟩)]
            · rw [rI, if_neg (by omega), rI, if_neg (by omega), rI, if_neg (by omega)]; exact b3
            · rw [rI, if_pos ⟨rfl, rfl, rfl⟩]; rfl
            · have hj' : j < T.1 + 1 := hj
              show _ = iI (if j = T.1 then kOf z n p else T.2.1 j) ∧ _ = iI (if j = T.1 then x else T.2.2.1 j)
              simp only [rI]
              by_cases c : j = T.1
              · subst c; simp
              · simp only [if_neg c, c, and_false, if_false]
                obtain ⟨o1, o2⟩ := hC2.1.2 j (by omega)
                exact ⟨by simp [o1], by simp [o2]⟩
            · simp only [rI]
              have := hC2.2 l hl
              exact ⟨by simp; exact this.1, by simp; exact this.2⟩
def AR (t : Nat) (μ : ZMem) (r : Option (Int32 × ZMem)) (o : Sum (Int × Nat) Tb) : Prop := match o with
  | .inl g => FAr t μ r g
  | .inr T => ∃ μ', r = some (1, μ') ∧ frG t μ μ' ∧ TabC μ' t T
theorem read_l {N n t : Nat} {z : Nat → Int} {μ : ZMem} (hN : 400 ≤ N) (ht : t < 4) (hT : tpA μ n z) : ∀ (f a fuel : Nat) (ν : ZMem) (T : Tb) (p : Nat), a + f = 24 → f < fuel → p ≤ n → frG t μ ν → ν.1 2 0 5 = iI p → TabC ν t T → TG a T → AR t μ (f_Reader_read_l21 N t fuel (iI a) ν) (pR z n (f + 1) a T p)
  | f, a, fuel, ν, T, p, e1, e2, hp, hF, h5, hC, hG => by
    obtain ⟨q, rfl⟩ : ∃ q, fuel = q + 1 := ⟨fuel - 1, by omega⟩
    obtain ⟨r1, r2, r3, r4, r5, r6, r7, r8, r9⟩ := tk_rng (z := z) hp
    have e : iI (a : Int) + (1 : Int32) = iI ((a + 1 : Nat) : Int) := by rw [ilit, iI_add]; congr 1
    obtain ⟨ν1, a1, a2, a3⟩ := s_advance hN (hT.frg hF) hp h5
    have hF1 : frG t μ ν1 := hF.tr a3.g
    rw [show pR z n (f + 1) a T p = (if tG z n p = 0 then .inr T else match pCl z n a T p with
      | .inl g => .inl g
      | .inr (T', p') => pR z n f (a + 1) T' p') from rfl]
    simp only [f_Reader_read_l21]
    rw [zif_f (by rw [ilit, iI_lt (by omega) (by omega) (by omega) (by omega)]; omega), a1, zbnd_eq, a2.2.1]
    by_cases c : tG z n p = 0
    · rw [zif_t (by rw [c]; rfl), if_pos c]
      exact ⟨ν1, rfl, hF1, hC.fr6 a3.six⟩
    · rw [zif_f (by rw [zi0, iI_eq (by omega) (by omega) (by omega) (by omega)]; exact c), if_neg c]
      have w := s_readClause (a := a) hN ht (hT.frg hF1) hp a2 (hC.fr6 a3.six) hG (by omega)
      cases e3 : pCl z n a T p with
      | inl g => rw [e3] at w; exact (FAr.iff w).pre hF1
      | inr w' =>
        rw [e3] at w
        obtain ⟨T', p'⟩ := w'
        obtain ⟨ν2, b1, b2, b3, b4⟩ := w
        obtain ⟨w1, w2, w3⟩ := pCl_ok hp hG e3
        rw [b1, zbnd_eq, zif_f (by decide), zlt_eq, e]
        obtain ⟨f', rfl⟩ : ∃ f', f = f' + 1 := ⟨f - 1, by omega⟩
        exact read_l hN ht hT f' (a + 1) q ν2 T' p' (by omega) (by omega) w3 (hF1.tr b2) b3 b4 w2
termination_by f => f
