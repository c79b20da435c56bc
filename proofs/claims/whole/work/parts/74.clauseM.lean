def pHb (z : Nat → Int) (n : Nat) (T : Tb) (p : Nat) : Sum (Int × Nat) (Tb × Nat) :=
  if lOf z n p = -1 then .inl (1, tS z n p)
  else if T.2.2.2.1 (lOf z n p).toNat ≠ -1 then .inl (3, tS z n p)
  else match pW z n 11 (tE z n p) with
    | .inl f => .inl f
    | .inr p1 => match pN z n 0 9999 p1 with
      | .inl f => .inl f
      | .inr (a, p2) => match pW z n 12 p2 with
        | .inl f => .inl f
        | .inr p3 => match pN z n 0 9999 p3 with
          | .inl f => .inl f
          | .inr (b, p4) => if b < a then .inl (5, tS z n p3) else .inr (setH T (lOf z n p).toNat a b, p4)
def semi (z : Nat → Int) (n : Nat) (o : Sum (Int × Nat) (Tb × Nat)) : Sum (Int × Nat) (Tb × Nat) := match o with
  | .inl f => .inl f
  | .inr (T, p) => match pS z n p with
    | .inl f => .inl f
    | .inr p' => .inr (T, p')
def pOb (z : Nat → Int) (n : Nat) (T : Tb) (k : Int) (p : Nat) : Sum (Int × Nat) (Tb × Nat) := match pA z n T k p with
  | .inl f => .inl f
  | .inr (x, p1) => .inr (addO T k x, p1)
theorem pH_semi {z : Nat → Int} {n p : Nat} {T : Tb} : pH z n T p = semi z n (pHb z n T p) := by
  unfold pH pHb
  by_cases c1 : lOf z n p = -1
  · rw [if_pos c1, if_pos c1]; rfl
  · rw [if_neg c1, if_neg c1]
    by_cases c2 : T.2.2.2.1 (lOf z n p).toNat ≠ -1
    · rw [if_pos c2, if_pos c2]; rfl
    · rw [if_neg c2, if_neg c2]
      cases pW z n 11 (tE z n p) with
      | inl g => rfl
      | inr p1 =>
        simp only
        cases pN z n 0 9999 p1 with
        | inl g => rfl
        | inr w =>
          obtain ⟨a, p2⟩ := w
          simp only
          cases pW z n 12 p2 with
          | inl g => rfl
          | inr p3 =>
            simp only
            cases pN z n 0 9999 p3 with
            | inl g => rfl
            | inr w =>
              obtain ⟨b, p4⟩ := w
              simp only
              by_cases c : b < a
              · rw [if_pos c, if_pos c]; rfl
              · rw [if_neg c, if_neg c]; rfl
theorem pO_semi {z : Nat → Int} {n p : Nat} {T : Tb} {k : Int} : pO z n T k p = semi z n (pOb z n T k p) := by
  unfold pO pOb
  cases pA z n T k p with
  | inl g => rfl
  | inr w => rfl
def MC (z : Nat → Int) (n t : Nat) (μ : ZMem) (r : Option (Int32 × ZMem)) (o : Sum (Int × Nat) (Tb × Nat)) : Prop := match o with
  | .inl g => FMr t μ r g
  | .inr w => ∃ μ', r = some (0, μ') ∧ frH t μ μ' ∧ tkM μ' z n w.2 ∧ MS μ' t w.1
theorem s_order0 {N n p t : Nat} {z : Nat → Int} {μ : ZMem} {T : Tb} {k : Int} (hN : 400 ≤ N) (ht : t < 4) (hT : tpM μ n z) (hp : p ≤ n) (hk : tkM μ z n p) (hS : MS μ t T) (hT1 : T.1 < 24) (hk0 : 0 ≤ k) (hk9 : k ≤ 10) : MC z n t μ (f_M_order0 N μ (iI k)) (pOb z n T k p) := by
  obtain ⟨s1, s2, s3, s4⟩ := id hS
  have ex : iI ((61 * t : Nat) : Int) + (1 : Int32) + (2 : Int32) * iI (T.1 : Int) = iI ((61 * t + 1 + 2 * T.1 : Nat) : Int) := by rw [ilit, iI_add, ilit, iI_mul, iI_add]; congr 1
  have ex1 : iI ((61 * t + 1 + 2 * T.1 : Nat) : Int) + (1 : Int32) = iI ((61 * t + 2 + 2 * T.1 : Nat) : Int) := by rw [ilit, iI_add]; congr 1; omega
  have eT : iI (T.1 : Int) + (1 : Int32) = iI ((T.1 + 1 : Nat) : Int) := by rw [ilit, iI_add]; congr 1
  obtain ⟨ω, hω⟩ : ∃ ω, ω = zsetI (zsetI μ 42 0 (61 * t + 1 + 2 * T.1) (iI k)) 42 0 (61 * t + 2 + 2 * T.1) (0 : Int32) := ⟨_, rfl⟩
  have fω : frH t μ ω := by rw [hω]; exact (frH.rf.set (by omega) (by omega)).set (by omega) (by omega)
  have hkω : tkM ω z n p := by rw [hω]; exact hk.set42.set42
  have oth : ∀ x, x ≠ 61 * t + 1 + 2 * T.1 → x ≠ 61 * t + 2 + 2 * T.1 → ω.1 42 0 x = μ.1 42 0 x := fun x q1 q2 => by rw [hω, rI, if_neg (by omega), rI, if_neg (by omega)]
  have hSω : MS ω t T := ⟨by rw [fω.1 12 0 13 (by omega) (by omega)]; exact s1, hS.2.keep (oth _ (by omega) (by omega)) (fun j hj => ⟨oth _ (by omega) (by omega), oth _ (by omega) (by omega)⟩) (fun l hl => ⟨oth _ (by omega) (by omega), fun _ => ⟨oth _ (by omega) (by omega), oth _ (by omega) (by omega)⟩⟩)⟩
  have wk : ω.1 42 0 (61 * t + 1 + 2 * T.1) = iI k := by rw [hω, rI, if_neg (by omega), rI, if_pos ⟨rfl, rfl, rfl⟩]
  have w0 : ω.1 42 0 (61 * t + 2 + 2 * T.1) = iI 0 := by rw [hω, rI, if_pos ⟨rfl, rfl, rfl⟩]; rfl
  -- what follows a good argument
  have fin : ∀ (ν : ZMem) (x : Int) (p1 : Nat), frs (61 * t + 2 + 2 * T.1) ω ν → tkM ν z n p1 → ν.1 42 0 (61 * t + 2 + 2 * T.1) = iI x → ∃ μ', zif ((0 : Int32) = 0) (zchk (zin (ν.1 12 0 13) (zlen 42 0)) (zchk (zin (ν.1 12 0 13) (zlen 42 0)) (zlt (zsetI ν 42 0 (ν.1 12 0 13).toNatClampNeg ((ν.1 42 0 (ν.1 12 0 13).toNatClampNeg) + (1 : Int32))) (fun (μ9 : ZMem) => zret (0 : Int32) μ9)))) (zret (0 : Int32) ν) = some (0, μ') ∧ frH t μ μ' ∧ tkM μ' z n p1 ∧ MS μ' t (addO T k x) := fun ν x p1 hf hkν hx => by
    have v13 : ν.1 12 0 13 = iI ((61 * t : Nat) : Int) := by rw [hf.1 12 0 13 (by omega) (by omega)]; exact hSω.1
    have vo : ∀ y, y ≠ 61 * t + 2 + 2 * T.1 → ν.1 42 0 y = ω.1 42 0 y := fun y q => hf.1 42 0 y (by omega) (by omega)
    have v0 : ν.1 42 0 (61 * t) = iI (T.1 : Int) := by rw [vo _ (by omega)]; exact hSω.2.1
    have z0 : zin (iI ((61 * t : Nat) : Int)) (zlen 42 0) := zin_k 244 rfl (by omega) (by omega) (by omega)
    rw [zif_t rfl, v13, zchk_t z0, zchk_t z0, cl_nat (by omega), v0, eT]
    have ro : ∀ y, y ≠ 61 * t → (zsetI ν 42 0 (61 * t) (iI ((T.1 + 1 : Nat) : Int))).1 42 0 y = ν.1 42 0 y := fun y q => by rw [rI, if_neg (by omega)]
    refine ⟨zsetI ν 42 0 (61 * t) (iI ((T.1 + 1 : Nat) : Int)), rfl, fω.tr ((hf.h (by omega) (by omega)).set (by omega) (by omega)), hkν.set42, by rw [rI, if_neg (by omega)]; exact v13, ?_, fun j hj => ?_, fun l hl => ?_⟩
    · rw [rI, if_pos ⟨rfl, rfl, rfl⟩]; rfl
    · have hj' : j < T.1 + 1 := hj
      show _ = iI (if j = T.1 then k else T.2.1 j) ∧ _ = iI (if j = T.1 then x else T.2.2.1 j)
      rw [ro _ (by omega), ro _ (by omega)]
      by_cases c : j = T.1
      · rw [if_pos c, if_pos c, c]
        exact ⟨by rw [vo _ (by omega)]; exact wk, hx⟩
      · rw [if_neg c, if_neg c, vo _ (by omega), vo _ (by omega)]
        exact hSω.2.2.1 j (by omega)
    · show (T.2.2.2.1 l = -1 → _) ∧ (T.2.2.2.1 l ≠ -1 → _)
      rw [ro _ (by omega), ro _ (by omega), ro _ (by omega), vo _ (by omega), vo _ (by omega), vo _ (by omega)]
      exact hSω.2.2.2 l hl
  have hbad : ∀ (ν : ZMem) (g : Int × Nat), frH t μ ν → ν.1 12 0 10 = iI (g.2 : Nat) → 1 ≤ g.1 → g.1 ≤ 6 → FMr t μ (zif (iI g.1 = 0) (zchk (zin (ν.1 12 0 13) (zlen 42 0)) (zchk (zin (ν.1 12 0 13) (zlen 42 0)) (zlt (zsetI ν 42 0 (ν.1 12 0 13).toNatClampNeg ((ν.1 42 0 (ν.1 12 0 13).toNatClampNeg) + (1 : Int32))) (fun (μ9 : ZMem) => zret (iI g.1) μ9)))) (zret (iI g.1) ν)) g := fun ν g hf h10 h1 h6 => by
    rw [zif_f (by rw [zi0, iI_eq (by omega) (by omega) (by omega) (by omega)]; omega)]
    exact ⟨ν, rfl, hf, h10, h1, h6⟩
  have main : ∀ r, MX z n (61 * t + 2 + 2 * T.1) t ω r (pA z n T k p) → MC z n t μ (zbnd r (fun (r13 : Int32) (μ12 : ZMem) => zif (r13 = 0) (zchk (zin (μ12.1 12 0 13) (zlen 42 0)) (zchk (zin (μ12.1 12 0 13) (zlen 42 0)) (zlt (zsetI μ12 42 0 (μ12.1 12 0 13).toNatClampNeg ((μ12.1 42 0 (μ12.1 12 0 13).toNatClampNeg) + (1 : Int32))) (fun (μ9 : ZMem) => zret r13 μ9)))) (zret r13 μ12))) (pOb z n T k p) := fun r hr => by
    unfold pOb
    cases e : pA z n T k p with
    | inl g =>
      rw [e] at hr
      obtain ⟨ν, h1, h2, h3, h4, h5⟩ := hr
      rw [h1, zbnd_eq]
      exact hbad ν g (fω.tr h2) h3 h4 h5
    | inr w =>
      rw [e] at hr
      obtain ⟨ν, h1, h2, h3, h4⟩ := hr
      obtain ⟨μ', q1, q2, q3, q4⟩ := fin ν w.1 w.2 h2 h3 h4
      rw [h1, zbnd_eq]
      exact ⟨μ', q1, q2, q3, q4⟩
  unfold f_M_order0
  have z0 : zin (iI ((61 * t : Nat) : Int)) (zlen 42 0) := zin_k 244 rfl (by omega) (by omega) (by omega)
  rw [s1, zchk_t z0, cl_nat (by omega), s2]
  simp only [zlt_eq, ex, ex1, cl_nat (show 61 * t + 1 + 2 * T.1 < 2147483648 by omega), cl_nat (show 61 * t + 2 + 2 * T.1 < 2147483648 by omega), ← hω]
  rw [zchk_t (zin_k 244 rfl (by omega) (by omega) (by omega)), zchk_t (zin_k 244 rfl (by omega) (by omega) (by omega))]
  by_cases c : k < 6
  · rw [zif_f (by rw [ilit, iI_le (by omega) (by omega) (by omega) (by omega)]; omega)]
    refine main _ ?_
    unfold pA
    rw [if_pos c]
    exact s_xAt hN ht (hT.frh fω) hp hkω hSω (by omega)
  · rw [zif_t (by rw [ilit, iI_le (by omega) (by omega) (by omega) (by omega)]; omega)]
    by_cases c8 : k = 8
    · rw [zif_t (by rw [c8]; rfl)]
      refine main _ ?_
      unfold pA
      rw [if_neg c, if_pos c8]
      exact s_numberAt (lo := 1) (hi := 9) hN (hT.frh fω) hp hkω (by omega) (by omega) (by omega) (by omega) (by omega)
    · rw [zif_f (by rw [ilit, iI_eq (by omega) (by omega) (by omega) (by omega)]; exact c8)]
      have e : pOb z n T k p = .inr (addO T k 0, p) := by unfold pOb pA; rw [if_neg c, if_neg c8]
      rw [e]
      exact fin ω 0 p ⟨fun _ _ _ _ _ => rfl, fun _ _ _ _ => rfl⟩ hkω w0

theorem pW_pw {z : Nat → Int} {n k p : Nat} : pW z n k p = if pw z n p k = true then .inr (tE z n p) else .inl (1, tS z n p) := by
  unfold pW pw
  by_cases c : tG z n p = 1
  · simp [c]
  · simp [c]
theorem s_hide {N n p t : Nat} {z : Nat → Int} {μ : ZMem} {T : Tb} (hN : 400 ≤ N) (ht : t < 4) (hT : tpM μ n z) (hp : p ≤ n) (hk : tkM μ z n p) (hS : MS μ t T) (hT1 : T.1 ≤ 24) : MC z n t μ (f_M_hide N μ) (pHb z n T p) := by
  obtain ⟨s1, s2, s3, s4⟩ := id hS
  have hl := lOf_rng (z := z) (n := n) (p := p)
  obtain ⟨r1, r2, r3, r4, r5, r6, r7, r8, r9⟩ := tk_rng (z := z) hp
  unfold f_M_hide pHb
  rw [s_letterAt hp hk, zbnd_eq, zlt_eq]
  by_cases c1 : lOf z n p = -1
  · rw [zif_f (by rw [zi0, iI_le (by omega) (by omega) (by omega) (by omega)]; omega), if_pos c1]
    exact ⟨μ, rfl, frH.rf, hk.1, by show (1 : Int) ≤ 1; decide, by show (1 : Int) ≤ 6; decide⟩
  · obtain ⟨l, hl'⟩ : ∃ l : Nat, lOf z n p = (l : Int) := ⟨(lOf z n p).toNat, by omega⟩
    have ex : iI ((61 * t : Nat) : Int) + (49 : Int32) + (3 : Int32) * iI (l : Int) = iI ((61 * t + 49 + 3 * l : Nat) : Int) := by rw [ilit, iI_add, ilit, iI_mul, iI_add]; congr 1
    have ex1 : iI ((61 * t + 49 + 3 * l : Nat) : Int) + (1 : Int32) = iI ((61 * t + 49 + 3 * l + 1 : Nat) : Int) := by rw [ilit, iI_add]; congr 1
    have ex2 : iI ((61 * t + 49 + 3 * l : Nat) : Int) + (2 : Int32) = iI ((61 * t + 49 + 3 * l + 2 : Nat) : Int) := by rw [ilit, iI_add]; congr 1
    have z4 : zin (iI ((61 * t + 49 + 3 * l : Nat) : Int)) (zlen 42 0) := zin_k 244 rfl (by omega) (by omega) (by omega)
    have z41 : zin (iI ((61 * t + 49 + 3 * l + 1 : Nat) : Int)) (zlen 42 0) := zin_k 244 rfl (by omega) (by omega) (by omega)
    rw [if_neg c1, hl', Int.toNat_natCast, zif_t (by rw [zi0, iI_le (by omega) (by omega) (by omega) (by omega)]; omega), s1, ex, zlt_eq]
    simp only [cl_nat (show 61 * t + 49 + 3 * l < 2147483648 by omega), ex1, ex2, zchk_t z4, zchk_t z41, cl_nat (show 61 * t + 49 + 3 * l + 1 < 2147483648 by omega)]
    obtain ⟨f1, f2⟩ := s4 l (by omega)
    by_cases c2 : T.2.2.2.1 l = -1
    · rw [f1 c2, zif_f (by decide), if_neg (fun q => q c2)]
      obtain ⟨μ1, a1, a2, a3⟩ := s_nextToken (p := tE z n p) hN hT r4 hk.2.2.1
      have hw11 : f_M_w4 N μ1 102 114 111 109 = some (lI (cw 11), μ1) := by
        unfold f_M_w4 f_M_w3
        show some ((zshlJ ((zshlJ (102 : Int32).toInt64 16 ||| (zshlI 114 8).toInt64) ||| (111 : Int32).toInt64) 8 ||| (109 : Int32).toInt64), μ1) = _
        rw [show (zshlJ ((zshlJ (102 : Int32).toInt64 16 ||| (zshlI 114 8).toInt64) ||| (111 : Int32).toInt64) 8 ||| (109 : Int32).toInt64) = lI (cw 11) by decide +kernel]
      have hto : (29807 : Int64) = lI (cw 12) := by decide +kernel
      rw [a1, zbnd_eq, hw11, zbnd_eq, s_isWord r4 a2 (by omega), zbnd_eq, pW_pw]
      cases h11 : pw z n (tE z n p) 11 with
      | false =>
        rw [zif_t (show bI false = 0 from rfl), if_neg (by decide)]
        exact ⟨μ1, rfl, a3.h, a2.1, by show (1 : Int) ≤ 1; decide, by show (1 : Int) ≤ 6; decide⟩
      | true =>
        rw [zif_f (show ¬ bI true = 0 by decide), if_pos rfl]
        simp only
        obtain ⟨u1, u2, u3, u4, -⟩ := tk_rng (z := z) r4
        obtain ⟨μ2, b1, b2, b3⟩ := s_nextToken (p := tE z n (tE z n p)) hN (hT.fr a3) u4 a2.2.2.1
        rw [b1, zbnd_eq]
        have f2' : frH t μ μ2 := (a3.tr b3).h
        have w2 := s_numberAt (t := t) (q := 61 * t + 49 + 3 * l + 1) (lo := 0) (hi := 9999) hN (hT.frh f2') u4 b2 (by omega) (by omega) (by omega) (by omega) (by omega)
        have en : ∀ ω s, f_M_numberAt N ω (iI 0) (iI 9999) s = f_M_numberAt N ω 0 9999 s := fun ω s => rfl
        rw [en] at w2
        have S2 := hS.frN (a3.tr b3)
        cases e2 : pN z n 0 9999 (tE z n (tE z n p)) with
        | inl g =>
          rw [e2] at w2
          obtain ⟨μ3, d1, d2, d3, d4, d5⟩ := w2
          rw [d1, zbnd_eq, zlt_eq, zif_f (by rw [zi0, iI_eq (by omega) (by omega) (by omega) (by omega)]; omega)]
          exact ⟨μ3, rfl, f2'.tr d2, d3, d4, d5⟩
        | inr w =>
          rw [e2] at w2
          obtain ⟨a, p2⟩ := w
          obtain ⟨μ3, d1, d2, d3, d4⟩ := w2
          obtain ⟨l2, -, l21, l22, -⟩ := pN_le u4 e2
          simp only at l2 l21 l22 d3 d4
          have f3 : frH t μ μ3 := f2'.tr (d2.h (by omega) (by omega))
          rw [d1, zbnd_eq, zlt_eq, zif_t rfl, hto, s_isWord l2 d3 (by omega), zbnd_eq]
          simp only
          rw [pW_pw]
          cases h12 : pw z n p2 12 with
          | false =>
            rw [zif_t (show bI false = 0 from rfl), if_neg (by decide)]
            exact ⟨μ3, rfl, f3, d3.1, by show (1 : Int) ≤ 1; decide, by show (1 : Int) ≤ 6; decide⟩
          | true =>
            rw [zif_f (show ¬ bI true = 0 by decide), if_pos rfl]
            simp only
            obtain ⟨v1, v2, v3, v4, -⟩ := tk_rng (z := z) l2
            obtain ⟨μ4, g1, g2, g3⟩ := s_nextToken (p := tE z n p2) hN (hT.frh f3) v4 d3.2.2.1
            have f4 : frH t μ μ4 := f3.tr g3.h
            have h41 : μ4.1 42 0 (61 * t + 49 + 3 * l + 1) = iI a := by rw [g3.1 42 0 _ (by omega)]; exact d4
            rw [g1, zbnd_eq]
            have w4 := s_numberAt (t := t) (q := 61 * t + 49 + 3 * l + 2) (lo := 0) (hi := 9999) hN (hT.frh f4) v4 g2 (by omega) (by omega) (by omega) (by omega) (by omega)
            rw [en] at w4
            -- the second number is read, and the letter is hidden
            have fin : ¬ (tG z n (tE z n p2) = 2 ∧ vN z n (tE z n p2) ≤ 9999 ∧ vN z n (tE z n p2) < a) → MC z n t μ (zbnd (f_M_numberAt N μ4 0 9999 (iI ((61 * t + 49 + 3 * l + 2 : Nat) : Int))) (fun (r20 : Int32) (μ19 : ZMem) => zlt r20 (fun (x21 : Int32) => zif (x21 = 0) (zlt (zsetI μ19 42 0 (61 * t + 49 + 3 * l) (1 : Int32)) (fun (μ22 : ZMem) => zret x21 μ22)) (zret x21 μ19)))) (match pN z n 0 9999 (tE z n p2) with
              | .inl f => .inl f
              | .inr (b, p4) => if b < a then .inl (5, tS z n (tE z n p2)) else .inr (setH T l a b, p4)) := fun hno => by
              cases e4 : pN z n 0 9999 (tE z n p2) with
              | inl g =>
                rw [e4] at w4
                obtain ⟨μ5, k1, k2, k3, k4, k5⟩ := w4
                rw [k1, zbnd_eq, zlt_eq, zif_f (by rw [zi0, iI_eq (by omega) (by omega) (by omega) (by omega)]; omega)]
                exact ⟨μ5, rfl, f4.tr k2, k3, k4, k5⟩
              | inr w =>
                rw [e4] at w4
                obtain ⟨b, p4⟩ := w
                obtain ⟨μ5, k1, k2, k3, k4⟩ := w4
                obtain ⟨l4, lv, l41, l42, l43, -⟩ := pN_le v4 e4
                simp only at l4 lv l41 l42 k3 k4
                rw [k1, zbnd_eq, zlt_eq, zif_t rfl, zlt_eq]
                simp only
                rw [if_neg (fun q => hno ⟨l43, by omega, by omega⟩)]
                refine ⟨zsetI μ5 42 0 (61 * t + 49 + 3 * l) 1, rfl, (f4.tr (k2.h (by omega) (by omega))).set (by omega) (by omega), k3.set42, ?_, ?_⟩
                · rw [rI, if_neg (by omega), k2.1 12 0 13 (by omega) (by omega), f4.1 12 0 13 (by omega) (by omega)]; exact s1
                · have all : ∀ y, y ≠ 61 * t + 49 + 3 * l → y ≠ 61 * t + 49 + 3 * l + 1 → y ≠ 61 * t + 49 + 3 * l + 2 → (zsetI μ5 42 0 (61 * t + 49 + 3 * l) (1 : Int32)).1 42 0 y = μ.1 42 0 y := fun y q1 q2 q3 => by
                    rw [rI, if_neg (by omega), k2.1 42 0 y (by omega) (by omega), g3.1 42 0 y (by omega), d2.1 42 0 y (by omega) (by omega), b3.1 42 0 y (by omega), a3.1 42 0 y (by omega)]
                  have hO : ∀ j, j < T.1 → (zsetI μ5 42 0 (61 * t + 49 + 3 * l) (1 : Int32)).1 42 0 (61 * t + 1 + 2 * j) = iI (T.2.1 j) ∧ (zsetI μ5 42 0 (61 * t + 49 + 3 * l) (1 : Int32)).1 42 0 (61 * t + 2 + 2 * j) = iI (T.2.2.1 j) := fun j hj => by
                    rw [all _ (by omega) (by omega) (by omega), all _ (by omega) (by omega) (by omega)]
                    exact s3 j hj
                  refine ⟨by rw [all _ (by omega) (by omega) (by omega)]; exact s2, hO, fun l2 hl2 => ?_⟩
                  show ((if l2 = l then a else T.2.2.2.1 l2) = -1 → _) ∧ ((if l2 = l then a else T.2.2.2.1 l2) ≠ -1 → _ ∧ _ = iI (if l2 = l then a else T.2.2.2.1 l2) ∧ _ = iI (if l2 = l then b else T.2.2.2.2 l2))
                  by_cases c : l2 = l
                  · subst c
                    simp only [if_true]
                    refine ⟨fun q => by omega, fun _ => ⟨?_, ?_, ?_⟩⟩
                    · rw [rI, if_pos ⟨rfl, rfl, rfl⟩]; rfl
                    · rw [rI, if_neg (by omega), k2.1 42 0 _ (by omega) (by omega)]; exact h41
                    · rw [rI, if_neg (by omega)]; exact k4
                  · simp only [if_neg c]
                    rw [all _ (by omega) (by omega) (by omega), all _ (by omega) (by omega) (by omega), all _ (by omega) (by omega) (by omega)]
                    exact s4 l2 hl2
            simp only [zlt_eq]
            simp only [zlt_eq] at fin
            rw [g2.2.1]
            by_cases c3 : tG z n (tE z n p2) = 2
            · have hv := vN_dA v4 c3
              have h12' : μ4.1 12 0 12 = iI (vN z n (tE z n p2)) := g2.2.2.2.1 c3
              rw [zif_t (by rw [tC1]; exact c3), h12']
              by_cases c4 : 9999 < vN z n (tE z n p2)
              · rw [zif_t (by rw [ilit, iI_lt (by omega) (by omega) (by omega) (by omega)]; exact c4)]
                exact fin (fun q => by omega)
              · rw [zif_f (by rw [ilit, iI_lt (by omega) (by omega) (by omega) (by omega)]; exact c4), h41]
                by_cases c5 : a ≤ vN z n (tE z n p2)
                · rw [zif_t (by rw [iI_le (by omega) (by omega) (by omega) (by omega)]; exact c5)]
                  exact fin (fun q => by omega)
                · rw [zif_f (by rw [iI_le (by omega) (by omega) (by omega) (by omega)]; exact c5)]
                  have e4 : pN z n 0 9999 (tE z n p2) = .inr (vN z n (tE z n p2), tE z n (tE z n p2)) := by unfold pN; rw [if_pos c3, if_pos ⟨by omega, by omega⟩]
                  rw [e4]
                  simp only
                  rw [if_pos (by omega)]
                  exact ⟨μ4, rfl, f4, g2.1, by show (1 : Int) ≤ 5; decide, by show (5 : Int) ≤ 6; decide⟩
            · rw [zif_f (by rw [tC1]; exact c3)]
              exact fin (fun q => c3 q.1)
    · rw [(f2 c2).1, zif_t (by decide), if_pos c2]
      exact ⟨μ, rfl, frH.rf, hk.1, by show (1 : Int) ≤ 3; decide, by show (3 : Int) ≤ 6; decide⟩
