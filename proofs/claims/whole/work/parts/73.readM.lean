/-! table: the reference reads clauses -/
def frs (q : Nat) (ν ν' : ZMem) : Prop := (∀ k i x, ¬ (k = 12 ∧ i = 0 ∧ 9 ≤ x ∧ x ≤ 12) → ¬ (k = 42 ∧ i = 0 ∧ x = q) → ν'.1 k i x = ν.1 k i x) ∧ ∀ k i x, ¬ (k = 12 ∧ i = 0 ∧ x = 14) → ν'.2 k i x = ν.2 k i x
def frH (t : Nat) (ν ν' : ZMem) : Prop := (∀ k i x, ¬ (k = 12 ∧ i = 0 ∧ 9 ≤ x ∧ x ≤ 12) → ¬ (k = 42 ∧ i = 0 ∧ 61 * t ≤ x ∧ x < 61 * t + 61) → ν'.1 k i x = ν.1 k i x) ∧ ∀ k i x, ¬ (k = 12 ∧ i = 0 ∧ x = 14) → ν'.2 k i x = ν.2 k i x
theorem frH.rf {t : Nat} {ν : ZMem} : frH t ν ν := ⟨fun _ _ _ _ _ => rfl, fun _ _ _ _ => rfl⟩
theorem frH.tr {t : Nat} {ν ν' ν'' : ZMem} (h : frH t ν ν') (h' : frH t ν' ν'') : frH t ν ν'' := ⟨fun k i x q1 q2 => (h'.1 k i x q1 q2).trans (h.1 k i x q1 q2), fun k i x q => (h'.2 k i x q).trans (h.2 k i x q)⟩
theorem frN.h {t : Nat} {ν ν' : ZMem} (h : frN ν ν') : frH t ν ν' := ⟨fun k i x q1 _ => h.1 k i x q1, h.2⟩
theorem frs.h {t q : Nat} {ν ν' : ZMem} (h : frs q ν ν') (h1 : 61 * t ≤ q) (h2 : q < 61 * t + 61) : frH t ν ν' := ⟨fun k i x q1 q2 => h.1 k i x q1 (fun e => q2 ⟨e.1, e.2.1, by omega, by omega⟩), h.2⟩
theorem frH.set {t x : Nat} {v : Int32} {ν ν' : ZMem} (h : frH t ν ν') (h1 : 61 * t ≤ x) (h2 : x < 61 * t + 61) : frH t ν (zsetI ν' 42 0 x v) := ⟨fun k i y q1 q2 => by rw [rI, if_neg (fun e => q2 ⟨e.1, e.2.1, by omega, by omega⟩)]; exact h.1 k i y q1 q2, h.2⟩
theorem tpM.frh {t : Nat} {ν ν' : ZMem} {n : Nat} {z : Nat → Int} (h : tpM ν n z) (f : frH t ν ν') : tpM ν' n z := by
  obtain ⟨h1, h2, h3⟩ := h
  refine ⟨h1, by rw [f.1 12 0 6 (by omega) (by omega)]; exact h2, fun j hj => ?_⟩
  rw [f.1 43 0 j (by omega) (by omega)]; exact h3 j hj
theorem tkM.set42 {x n p : Nat} {z : Nat → Int} {v : Int32} {ν : ZMem} (h : tkM ν z n p) : tkM (zsetI ν 42 0 x v) z n p := by
  obtain ⟨k1, k2, k3, k4, k5⟩ := h
  refine ⟨by rw [rI, if_neg (by omega)]; exact k1, by rw [rI, if_neg (by omega)]; exact k2, by rw [rI, if_neg (by omega)]; exact k3, fun q => by rw [rI, if_neg (by omega)]; exact k4 q, k5⟩
def FMr (t : Nat) (μ : ZMem) (r : Option (Int32 × ZMem)) (g : Int × Nat) : Prop := ∃ μ', r = some (iI g.1, μ') ∧ frH t μ μ' ∧ μ'.1 12 0 10 = iI (g.2 : Nat) ∧ 1 ≤ g.1 ∧ g.1 ≤ 6
theorem FMr.pre {t : Nat} {μ ν : ZMem} {r : Option (Int32 × ZMem)} {g : Int × Nat} (h : FMr t ν r g) (f : frH t μ ν) : FMr t μ r g := by
  obtain ⟨μ', a, b, d⟩ := h
  exact ⟨μ', a, f.tr b, d⟩
def MX (z : Nat → Int) (n q t : Nat) (μ : ZMem) (r : Option (Int32 × ZMem)) (o : Sum (Int × Nat) (Int × Nat)) : Prop := match o with
  | .inl g => FMr t μ r g
  | .inr w => ∃ μ', r = some (0, μ') ∧ frs q μ μ' ∧ tkM μ' z n w.2 ∧ μ'.1 42 0 q = iI w.1
theorem tC1 {z : Nat → Int} {n p : Nat} : (iI (tC (tG z n p)) = (1 : Int32)) = (tG z n p = 2) := by
  unfold tC
  repeat' split
  all_goals first | exact propext ⟨fun h => absurd h (by decide), fun h => by omega⟩ | exact propext ⟨fun _ => by assumption, fun _ => by decide⟩
theorem tC59 {z : Nat → Int} {n p : Nat} : (iI (tC (tG z n p)) = (59 : Int32)) = (tG z n p = 3) := by
  unfold tC
  repeat' split
  all_goals first | exact propext ⟨fun h => absurd h (by decide), fun h => by omega⟩ | exact propext ⟨fun _ => by assumption, fun _ => by decide⟩
theorem tC0 {z : Nat → Int} {n p : Nat} : (iI (tC (tG z n p)) = (0 : Int32)) = (tG z n p = 0) := by
  unfold tC
  repeat' split
  all_goals first | exact propext ⟨fun h => absurd h (by decide), fun h => by omega⟩ | exact propext ⟨fun _ => by assumption, fun _ => by decide⟩
theorem s_numberAt {N n p t q : Nat} {z : Nat → Int} {μ : ZMem} {lo hi : Int} (hN : 400 ≤ N) (hT : tpM μ n z) (hp : p ≤ n) (hk : tkM μ z n p) (hlo : 0 ≤ lo) (hlo2 : lo ≤ 9999) (hhi0 : 0 ≤ hi) (hhi : hi ≤ 9999) (hq : q < 244) : MX z n q t μ (f_M_numberAt N μ (iI lo) (iI hi) (iI q)) (pN z n lo hi p) := by
  obtain ⟨k1, k2, k3, k4, k5⟩ := id hk
  obtain ⟨r1, r2, r3, r4, r5, r6, r7, r8, r9⟩ := tk_rng (z := z) hp
  unfold f_M_numberAt pN
  rw [k2]
  by_cases c : tG z n p = 2
  · have hv := vN_dA hp c
    have k4' : μ.1 12 0 12 = iI (vN z n p) := k4 c
    rw [zif_t (by rw [tC1]; exact c), if_pos c, k4', s_M_isIn (by omega) (by omega) (by omega) (by omega) (by omega) (by omega), zbnd_eq]
    by_cases c2 : lo ≤ vN z n p ∧ vN z n p ≤ hi
    · rw [if_pos c2, if_pos c2, zif_f (by decide), zchk_t (zin_k 244 rfl (by omega) (by omega) (by omega)), cl_nat (by omega), k4', zlt_eq]
      obtain ⟨ω, hω⟩ : ∃ ω, ω = zsetI μ 42 0 q (iI (vN z n p)) := ⟨_, rfl⟩
      have fω : frs q μ ω := by rw [hω]; exact ⟨fun k i x q1 q2 => by rw [rI, if_neg q2], fun _ _ _ _ => rfl⟩
      have hTω : tpM ω n z := by
        obtain ⟨t1, t2, t3⟩ := hT
        exact ⟨t1, by rw [fω.1 12 0 6 (by omega) (by omega)]; exact t2, fun j hj => by rw [fω.1 43 0 j (by omega) (by omega)]; exact t3 j hj⟩
      obtain ⟨ν, n1, n2, n3⟩ := s_nextToken (p := tE z n p) hN hTω r4 (by rw [hω, rI, if_neg (by omega)]; exact k3)
      rw [← hω, n1, zbnd_eq]
      refine ⟨ν, rfl, ⟨fun k i x q1 q2 => (n3.1 k i x q1).trans (fω.1 k i x q1 q2), fun k i x q1 => (n3.2 k i x q1).trans (fω.2 k i x q1)⟩, n2, ?_⟩
      rw [n3.1 42 0 q (by omega), hω, rI, if_pos ⟨rfl, rfl, rfl⟩]
    · rw [if_neg c2, if_neg c2, zif_t rfl]
      exact ⟨μ, rfl, frH.rf, k1, by show (1 : Int) ≤ 2; decide, by show (2 : Int) ≤ 6; decide⟩
  · rw [zif_f (by rw [tC1]; exact c), if_neg c]
    exact ⟨μ, rfl, frH.rf, k1, by show (1 : Int) ≤ 1; decide, by show (1 : Int) ≤ 6; decide⟩
/-- the reference's table while it is read: where it begins, and what it has -/
def MS (μ : ZMem) (t : Nat) (T : Tb) : Prop := μ.1 12 0 13 = iI ((61 * t : Nat) : Int) ∧ TabM μ t T
theorem TabM.keep {t : Nat} {μ μ' : ZMem} {T : Tb} (h : TabM μ t T) (h0 : μ'.1 42 0 (61 * t) = μ.1 42 0 (61 * t)) (hO : ∀ j, j < T.1 → μ'.1 42 0 (61 * t + 1 + 2 * j) = μ.1 42 0 (61 * t + 1 + 2 * j) ∧ μ'.1 42 0 (61 * t + 2 + 2 * j) = μ.1 42 0 (61 * t + 2 + 2 * j)) (hL : ∀ l, l < 4 → μ'.1 42 0 (61 * t + 49 + 3 * l) = μ.1 42 0 (61 * t + 49 + 3 * l) ∧ (T.2.2.2.1 l ≠ -1 → μ'.1 42 0 (61 * t + 49 + 3 * l + 1) = μ.1 42 0 (61 * t + 49 + 3 * l + 1) ∧ μ'.1 42 0 (61 * t + 49 + 3 * l + 2) = μ.1 42 0 (61 * t + 49 + 3 * l + 2))) : TabM μ' t T := by
  obtain ⟨a, b, c⟩ := h
  refine ⟨by rw [h0]; exact a, fun j hj => by rw [(hO j hj).1, (hO j hj).2]; exact b j hj, fun l hl => ⟨fun q => by rw [(hL l hl).1]; exact (c l hl).1 q, fun q => by rw [(hL l hl).1, ((hL l hl).2 q).1, ((hL l hl).2 q).2]; exact (c l hl).2 q⟩⟩
theorem MS.frN {t : Nat} {μ μ' : ZMem} {T : Tb} (h : MS μ t T) (f : frN μ μ') : MS μ' t T :=
  ⟨by rw [f.1 12 0 13 (by omega)]; exact h.1, h.2.keep (f.1 42 0 _ (by omega)) (fun j _ => ⟨f.1 42 0 _ (by omega), f.1 42 0 _ (by omega)⟩) (fun l _ => ⟨f.1 42 0 _ (by omega), fun _ => ⟨f.1 42 0 _ (by omega), f.1 42 0 _ (by omega)⟩⟩)⟩
theorem s_xAt {N n p t q : Nat} {z : Nat → Int} {μ : ZMem} {T : Tb} (hN : 400 ≤ N) (ht : t < 4) (hT : tpM μ n z) (hp : p ≤ n) (hk : tkM μ z n p) (hS : MS μ t T) (hq : q < 244) : MX z n q t μ (f_M_xAt N μ (iI q)) (pX z n T p) := by
  obtain ⟨k1, k2, k3, k4, k5⟩ := id hk
  obtain ⟨r1, r2, r3, r4, r5, r6, r7, r8, r9⟩ := tk_rng (z := z) hp
  have hl := lOf_rng (z := z) (n := n) (p := p)
  have hl2 : tG z n p = 2 → lOf z n p = -1 := fun c => by unfold lOf; rw [if_neg (by omega)]
  unfold f_M_xAt
  rw [s_letterAt hp hk, zbnd_eq, zlt_eq]
  by_cases c1 : lOf z n p = -1
  · rw [zif_f (by rw [zi0, iI_le (by omega) (by omega) (by omega) (by omega)]; omega)]
    have hn := s_numberAt (t := t) (q := q) (lo := 0) (hi := 9999) hN hT hp hk (by omega) (by omega) (by omega) (by omega) hq
    have en : f_M_numberAt N μ (iI 0) (iI 9999) (iI q) = f_M_numberAt N μ 0 9999 (iI q) := rfl
    rw [en] at hn
    have e : pX z n T p = pN z n 0 9999 p := by
      unfold pX pN
      by_cases c : tG z n p = 2
      · have := vN_dA hp c
        rw [if_pos c, if_pos c]
        by_cases c2 : vN z n p ≤ 9999
        · rw [if_pos c2, if_pos ⟨by omega, c2⟩]
        · rw [if_neg c2, if_neg (fun q => c2 q.2)]
      · rw [if_neg c, if_neg c, if_pos c1]
    rw [e]
    cases ho : pN z n 0 9999 p with
    | inl g =>
      rw [ho] at hn
      obtain ⟨μ', a, b⟩ := hn
      exact ⟨μ', by rw [a, zbnd_eq]; rfl, b⟩
    | inr w =>
      rw [ho] at hn
      obtain ⟨μ', a, b⟩ := hn
      exact ⟨μ', by rw [a, zbnd_eq]; rfl, b⟩
  · obtain ⟨l, hl'⟩ : ∃ l : Nat, lOf z n p = (l : Int) := ⟨(lOf z n p).toNat, by omega⟩
    have c : ¬ tG z n p = 2 := fun q => c1 (hl2 q)
    have ex : iI ((61 * t : Nat) : Int) + (49 : Int32) + (3 : Int32) * iI (l : Int) = iI ((61 * t + 49 + 3 * l : Nat) : Int) := by rw [ilit, iI_add, ilit, iI_mul, iI_add]; congr 1
    unfold pX
    rw [if_neg c, if_neg c1, hl', Int.toNat_natCast]
    rw [zif_t (by rw [zi0, iI_le (by omega) (by omega) (by omega) (by omega)]; omega), hS.1, ex, zchk_t (zin_k 244 rfl (by omega) (by omega) (by omega)), cl_nat (by omega)]
    obtain ⟨f1, f2⟩ := hS.2.2.2 l (by omega)
    by_cases c2 : T.2.2.2.1 l = -1
    · rw [f1 c2, zif_t (by decide), if_pos c2]
      exact ⟨μ, rfl, frH.rf, k1, by show (1 : Int) ≤ 4; decide, by show (4 : Int) ≤ 6; decide⟩
    · rw [(f2 c2).1, zif_f (by decide), if_neg c2, zchk_t (zin_k 244 rfl (by omega) (by omega) (by omega)), cl_nat (by omega), ilit, iI_add, zlt_eq]
      obtain ⟨ω, hω⟩ : ∃ ω, ω = zsetI μ 42 0 q (iI (10000 + (l : Int))) := ⟨_, rfl⟩
      have hω2 : zsetI μ 42 0 q (iI (OfNat.ofNat 10000 + (l : Int))) = ω := by rw [hω]
      have fω : frs q μ ω := by rw [hω]; exact ⟨fun k i x q1 q2 => by rw [rI, if_neg q2], fun _ _ _ _ => rfl⟩
      have hTω : tpM ω n z := by
        obtain ⟨t1, t2, t3⟩ := hT
        exact ⟨t1, by rw [fω.1 12 0 6 (by omega) (by omega)]; exact t2, fun j hj => by rw [fω.1 43 0 j (by omega) (by omega)]; exact t3 j hj⟩
      obtain ⟨ν, n1, n2, n3⟩ := s_nextToken (p := tE z n p) hN hTω r4 (by rw [hω, rI, if_neg (by omega)]; exact k3)
      rw [hω2, n1, zbnd_eq]
      refine ⟨ν, rfl, ⟨fun k i x q1 q2 => (n3.1 k i x q1).trans (fω.1 k i x q1 q2), fun k i x q1 => (n3.2 k i x q1).trans (fω.2 k i x q1)⟩, n2, ?_⟩
      rw [n3.1 42 0 q (by omega), hω, rI, if_pos ⟨rfl, rfl, rfl⟩]
