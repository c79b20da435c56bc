/-! table: the calls -/
def MR (t : Nat) (μ : ZMem) (r : Option (Int32 × ZMem)) (o : Sum (Int × Nat) Tb) : Prop := match o with
  | .inl g => FMr t μ r g
  | .inr T => ∃ μ', r = some (0, μ') ∧ frH t μ μ' ∧ MS μ' t T
theorem readM_l {N n t : Nat} {z : Nat → Int} {μ : ZMem} (hN : 400 ≤ N) (ht : t < 4) (hT : tpM μ n z) : ∀ (f a fuel : Nat) (ν : ZMem) (T : Tb) (p : Nat), a + f = 24 → f < fuel → p ≤ n → frH t μ ν → tkM ν z n p → MS ν t T → TG a T → MR t μ (f_M_readTable_l50 N fuel (iI a) ν) (pR z n (f + 1) a T p)
  | f, a, fuel, ν, T, p, e1, e2, hp, hF, hk, hS, hG => by
    obtain ⟨q, rfl⟩ : ∃ q, fuel = q + 1 := ⟨fuel - 1, by omega⟩
    obtain ⟨r1, r2, r3, r4, r5, r6, r7, r8, r9⟩ := tk_rng (z := z) hp
    have e : iI (a : Int) + (1 : Int32) = iI ((a + 1 : Nat) : Int) := by rw [ilit, iI_add]; congr 1
    have hkr := kOf_rng (z := z) (n := n) (p := p)
    rw [show pR z n (f + 1) a T p = (if tG z n p = 0 then .inr T else match pCl z n a T p with
      | .inl g => .inl g
      | .inr (T', p') => pR z n f (a + 1) T' p') from rfl]
    simp only [f_M_readTable_l50]
    rw [hk.2.1]
    by_cases c : tG z n p = 0
    · rw [zif_t (by rw [tC0]; exact c), if_pos c]
      exact ⟨ν, rfl, hF, hS⟩
    · rw [zif_f (by rw [tC0]; exact c), if_neg c, s_kindAt hp hk, zbnd_eq, zlt_eq]
      by_cases c1 : kOf z n p = -1
      · rw [zif_f (by rw [zi0, iI_le (by omega) (by omega) (by omega) (by omega)]; omega), show pCl z n a T p = .inl (1, tS z n p) by unfold pCl; rw [if_pos c1]]
        exact ⟨ν, rfl, hF, hk.1, by show (1 : Int) ≤ 1; decide, by show (1 : Int) ≤ 6; decide⟩
      · rw [zif_t (by rw [zi0, iI_le (by omega) (by omega) (by omega) (by omega)]; omega)]
        by_cases c2 : 24 ≤ a
        · rw [zif_t (by rw [ilit, iI_eq (by omega) (by omega) (by omega) (by omega)]; omega), show pCl z n a T p = .inl (6, tS z n p) by unfold pCl; rw [if_neg c1, if_pos c2]]
          exact ⟨ν, rfl, hF, hk.1, by show (1 : Int) ≤ 6; decide, by show (6 : Int) ≤ 6; decide⟩
        · rw [zif_f (by rw [ilit, iI_eq (by omega) (by omega) (by omega) (by omega)]; omega)]
          obtain ⟨ν1, a1, a2, a3⟩ := s_nextToken (p := tE z n p) hN (hT.frh hF) r4 hk.2.2.1
          have hF1 : frH t μ ν1 := hF.tr a3.h
          have hS1 := hS.frN a3
          have hT1 := hG.1
          rw [zlt_eq, a1, zbnd_eq, e]
          -- what comes behind the clause
          have fin : ∀ (r : Option (Int32 × ZMem)) (o : Sum (Int × Nat) (Tb × Nat)), MC z n t ν1 r o → pCl z n a T p = semi z n o → (∀ w, o = .inr w → w.2 ≤ n) → MR t μ (zbnd r (fun (r26 : Int32) (μ25 : ZMem) => zif (r26 = 0) (zif ((μ25.1 12 0 11) = (59 : Int32)) (zbnd (f_M_nextToken N μ25) (fun _ (μ22 : ZMem) => f_M_readTable_l50 N q (iI ((a + 1 : Nat) : Int)) μ22)) (zret (1 : Int32) μ25)) (zret r26 μ25))) (match pCl z n a T p with
            | .inl g => .inl g
            | .inr (T', p') => pR z n f (a + 1) T' p') := fun r o hr ho hle => by
            rw [ho]
            cases o with
            | inl g =>
              obtain ⟨ν2, b1, b2, b3, b4, b5⟩ := hr
              rw [b1, zbnd_eq, zif_f (by rw [zi0, iI_eq (by omega) (by omega) (by omega) (by omega)]; omega)]
              exact ⟨ν2, rfl, hF1.tr b2, b3, b4, b5⟩
            | inr w =>
              obtain ⟨T', p4⟩ := w
              obtain ⟨ν2, b1, b2, b3, b4⟩ := hr
              have l4 := hle _ rfl
              simp only at l4 b3 b4
              rw [b1, zbnd_eq, zif_t rfl, b3.2.1]
              have es : semi z n (.inr (T', p4)) = match pS z n p4 with
                | .inl f => .inl f
                | .inr p' => .inr (T', p') := rfl
              rw [es]
              unfold pS
              by_cases c3 : tG z n p4 = 3
              · rw [zif_t (by rw [tC59]; exact c3), if_pos c3]
                simp only
                obtain ⟨ν3, g1, g2, g3⟩ := s_nextToken (p := tE z n p4) hN (hT.frh (hF1.tr b2)) (tk_rng (z := z) l4).2.2.2.1 b3.2.2.1
                rw [g1, zbnd_eq]
                have hpc : pCl z n a T p = .inr (T', tE z n p4) := by rw [ho, es]; unfold pS; rw [if_pos c3]
                obtain ⟨w1, w2, w3⟩ := pCl_ok hp hG hpc
                obtain ⟨f', rfl⟩ : ∃ f', f = f' + 1 := ⟨f - 1, by omega⟩
                exact readM_l hN ht hT f' (a + 1) q ν3 T' (tE z n p4) (by omega) (by omega) w3 ((hF1.tr b2).tr g3.h) g2 (b4.frN g3) w2
              · rw [zif_f (by rw [tC59]; exact c3), if_neg c3]
                exact ⟨ν2, rfl, hF1.tr b2, b3.1, by show (1 : Int) ≤ 1; decide, by show (1 : Int) ≤ 6; decide⟩
          simp only [zlt_eq]
          by_cases c3 : kOf z n p = 10
          · rw [zif_t (by rw [c3]; rfl)]
            refine fin _ _ (s_hide hN ht (hT.frh hF1) r4 a2 hS1 (by omega)) (by unfold pCl; rw [if_neg c1, if_neg c2, if_pos c3, pH_semi]) (fun w hw => ?_)
            unfold pHb at hw
            split at hw
            · cases hw
            · split at hw
              · cases hw
              · cases e1 : pW z n 11 (tE z n (tE z n p)) with
                | inl g => rw [e1] at hw; cases hw
                | inr p1 =>
                  rw [e1] at hw
                  simp only at hw
                  have l1 := pW_le (tk_rng (z := z) r4).2.2.2.1 e1
                  cases e2 : pN z n 0 9999 p1 with
                  | inl g => rw [e2] at hw; cases hw
                  | inr w2 =>
                    rw [e2] at hw
                    simp only at hw
                    have l2 := (pN_le l1 e2).1
                    cases e3 : pW z n 12 w2.2 with
                    | inl g => rw [e3] at hw; cases hw
                    | inr p3 =>
                      rw [e3] at hw
                      simp only at hw
                      have l3 := pW_le l2 e3
                      cases e4 : pN z n 0 9999 p3 with
                      | inl g => rw [e4] at hw; cases hw
                      | inr w4 =>
                        rw [e4] at hw
                        simp only at hw
                        have l4 := (pN_le l3 e4).1
                        split at hw
                        · cases hw
                        · cases hw; exact l4
          · rw [zif_f (by rw [ilit, iI_eq (by omega) (by omega) (by omega) (by omega)]; exact c3)]
            refine fin _ _ (s_order0 (k := kOf z n p) hN ht (hT.frh hF1) r4 a2 hS1 (by omega) (by omega) (by omega)) (by unfold pCl; rw [if_neg c1, if_neg c2, if_neg c3, pO_semi]) (fun w hw => ?_)
            unfold pOb at hw
            cases e1 : pA z n T (kOf z n p) (tE z n p) with
            | inl g => rw [e1] at hw; cases hw
            | inr w1 =>
              rw [e1] at hw
              cases hw
              exact (pA_le r4 e1).1
termination_by f => f
def T0 : Tb := (0, fun _ => 0, fun _ => 0, fun _ => -1, fun _ => -1)
theorem T0_ok : TG 0 T0 := ⟨Nat.le_refl _, Nat.zero_le _, fun j hj => (by cases hj), fun l _ => Or.inl ⟨rfl, rfl⟩⟩
theorem clear_l {N t : Nat} {kx : ZMem → Option (Int32 × ZMem)} (ht : t < 4) : ∀ (f j fuel : Nat) (ν : ZMem), j + f = 61 → f < fuel → ν.1 12 0 13 = iI ((61 * t : Nat) : Int) → (∀ x, x < j → ν.1 42 0 (61 * t + x) = 0) → ∃ ν', f_M_readTable_l15 N kx fuel (iI j) ν = kx ν' ∧ frH t ν ν' ∧ ν'.1 12 0 9 = ν.1 12 0 9 ∧ ∀ x, x < 61 → ν'.1 42 0 (61 * t + x) = 0
  | 0, j, fuel, ν, e1, e2, h13, h => by
    obtain ⟨q, rfl⟩ : ∃ q, fuel = q + 1 := ⟨fuel - 1, by omega⟩
    refine ⟨ν, ?_, frH.rf, rfl, fun x hx => h x (by omega)⟩
    simp only [f_M_readTable_l15]
    rw [zif_t (by rw [ilit, iI_le (by omega) (by omega) (by omega) (by omega)]; omega)]
  | f + 1, j, fuel, ν, e1, e2, h13, h => by
    obtain ⟨q, rfl⟩ : ∃ q, fuel = q + 1 := ⟨fuel - 1, by omega⟩
    have e : iI (j : Int) + (1 : Int32) = iI ((j + 1 : Nat) : Int) := by rw [ilit, iI_add]; congr 1
    have ej : iI ((61 * t : Nat) : Int) + iI (j : Int) = iI ((61 * t + j : Nat) : Int) := by rw [iI_add]; congr 1
    simp only [f_M_readTable_l15, h13, ej, cl_nat (show 61 * t + j < 2147483648 by omega), zlt_eq, e]
    rw [zif_f (by rw [ilit, iI_le (by omega) (by omega) (by omega) (by omega)]; omega), zchk_t (zin_k 244 rfl (by omega) (by omega) (by omega))]
    have fω : frH t ν (zsetI ν 42 0 (61 * t + j) 0) := frH.rf.set (by omega) (by omega)
    obtain ⟨ν', g1, g2, g3, g4⟩ := clear_l (N := N) (kx := kx) ht f (j + 1) q (zsetI ν 42 0 (61 * t + j) 0) (by omega) (by omega) (by rw [rI, if_neg (by omega)]; exact h13) (fun x hx => by
      rw [rI]
      by_cases c : x = j
      · rw [if_pos ⟨rfl, rfl, by omega⟩]
      · rw [if_neg (by omega)]; exact h x (by omega))
    exact ⟨ν', g1, fω.tr g2, by rw [g3, rI, if_neg (by omega)], g4⟩
def frZ (t : Nat) (ν ν' : ZMem) : Prop := (∀ k i x, ¬ (k = 12 ∧ i = 0 ∧ 9 ≤ x ∧ x ≤ 13) → ¬ (k = 42 ∧ i = 0 ∧ 61 * t ≤ x ∧ x < 61 * t + 61) → ν'.1 k i x = ν.1 k i x) ∧ ∀ k i x, ¬ (k = 12 ∧ i = 0 ∧ x = 14) → ν'.2 k i x = ν.2 k i x
theorem s_readTable {N n t : Nat} {z : Nat → Int} {μ : ZMem} (hN : 400 ≤ N) (ht : t < 4) (hT : tpM μ n z) (h40 : μ.1 40 0 0 = iI t) : ∃ r μ', f_M_readTable N μ = some (r, μ') ∧ frZ t μ μ' ∧ match pR z n 25 0 T0 0 with
    | .inl g => r = iI g.1 ∧ μ'.1 12 0 10 = iI (g.2 : Nat) ∧ 1 ≤ g.1 ∧ g.1 ≤ 6
    | .inr T => r = 0 ∧ TabM μ' t T := by
  unfold f_M_readTable
  have e61 : (61 : Int32) * iI (t : Int) = iI ((61 * t : Nat) : Int) := by rw [ilit, iI_mul]; rfl
  rw [zchk_t (by decide)]
  simp only [zlt_eq, show (0 : Int32).toNatClampNeg = 0 from rfl, h40, e61]
  obtain ⟨kx, hkx⟩ : ∃ kx : ZMem → Option (Int32 × ZMem), kx = fun (μ7 : ZMem) => zbnd (f_M_nextToken N (zsetI μ7 12 0 9 (0 : Int32))) (fun _ (μ9 : ZMem) => f_M_readTable_l50 N N (0 : Int32) μ9) := ⟨_, rfl⟩
  obtain ⟨ω, hω⟩ : ∃ ω, ω = zsetI μ 12 0 13 (iI ((61 * t : Nat) : Int)) := ⟨_, rfl⟩
  have w13 : ω.1 12 0 13 = iI ((61 * t : Nat) : Int) := by rw [hω, rI, if_pos ⟨rfl, rfl, rfl⟩]
  obtain ⟨ν, c1, c2, c3, c4⟩ := clear_l (N := N) (kx := kx) ht 61 0 N ω (by omega) (by omega) w13 (fun x h => by omega)
  have c1' : f_M_readTable_l15 N kx N (0 : Int32) ω = kx ν := c1
  have fZ0 : frZ t μ ω := by rw [hω]; exact ⟨fun k i x q1 q2 => by rw [rI, if_neg (fun e => q1 ⟨e.1, e.2.1, by omega, by omega⟩)], fun _ _ _ _ => rfl⟩
  have hZ : ∀ ρ, frH t ω ρ → frZ t μ ρ := fun ρ hf => ⟨fun k i x q1 q2 => (hf.1 k i x (fun e => q1 ⟨e.1, e.2.1, e.2.2.1, by omega⟩) q2).trans (fZ0.1 k i x q1 q2), fun k i x q => (hf.2 k i x q).trans (fZ0.2 k i x q)⟩
  have hTω : tpM ω n z := by
    obtain ⟨t1, t2, t3⟩ := hT
    exact ⟨t1, by rw [fZ0.1 12 0 6 (by omega) (by omega)]; exact t2, fun j hj => by rw [fZ0.1 43 0 j (by omega) (by omega)]; exact t3 j hj⟩
  obtain ⟨σ, hσ⟩ : ∃ σ, σ = zsetI ν 12 0 9 (0 : Int32) := ⟨_, rfl⟩
  have fσ : frH t ω σ := by rw [hσ]; exact c2.tr (frN.rf.set (by omega) (by omega)).h
  obtain ⟨ρ, d1, d2, d3⟩ := s_nextToken (p := 0) hN (hTω.frh fσ) (Nat.zero_le _) (by rw [hσ, rI, if_pos ⟨rfl, rfl, rfl⟩]; rfl)
  have hMSν : MS ν t T0 := by
    refine ⟨by rw [c2.1 12 0 13 (by omega) (by omega)]; exact w13, by have := c4 0 (by omega); rw [Nat.add_zero] at this; rw [this]; rfl, fun j hj => (by cases hj), fun l hl => ⟨fun _ => ?_, fun q => absurd rfl q⟩⟩
    rw [show 61 * t + 49 + 3 * l = 61 * t + (49 + 3 * l) by omega, c4 (49 + 3 * l) (by omega)]; rfl
  have hMSρ : MS ρ t T0 := (hMSν.frN (by rw [hσ]; exact frN.rf.set (by omega) (by omega) : frN ν σ)).frN d3
  have hR := readM_l (N := N) hN ht hTω 24 0 N ρ T0 0 (by omega) (by omega) (Nat.zero_le _) (fσ.tr d3.h) d2 hMSρ T0_ok
  rw [← hω, ← hkx, c1', hkx]
  simp only
  rw [← hσ, d1, zbnd_eq]
  have hR' : MR t ω (f_M_readTable_l50 N N (0 : Int32) ρ) (pR z n 25 0 T0 0) := hR
  cases e : pR z n 25 0 T0 0 with
  | inl g =>
    rw [e] at hR'
    obtain ⟨μ', a1, a2, a3, a4, a5⟩ := hR'
    exact ⟨_, μ', a1, hZ μ' a2, rfl, a3, a4, a5⟩
  | inr T =>
    rw [e] at hR'
    obtain ⟨μ', a1, a2, a3⟩ := hR'
    exact ⟨_, μ', a1, hZ μ' a2, rfl, a3.2⟩
