/-! made: the class's way through the levels -/
def rl (kd xs : Nat → Int) (low : Int) (j : Nat) (q : Nat → Nat) : Nat → Nat → Int → Option Int
  | 0, _, u => some u
  | m + 1, i, u => match sv (kd (q i)) (xs (q i)) low j u with
    | none => none
    | some w => rl kd xs low j q m (i + 1) w
def LD (kd xs : Nat → Int) (low goal : Int) (n : Nat) (q : Nat → Nat) (m d : Nat) (Lv : Nat → Int) : Prop := ∀ j, j < n → rl kd xs low j q m d (Lv j) = some goal
def lx (q' q : Nat → Nat) (d l : Nat) : Prop := ∃ i, d ≤ i ∧ i < l ∧ (∀ i', d ≤ i' → i' < i → q' i' = q i') ∧ q' i < q i
def dgt (c : Nat) (q : Nat → Nat) (d l : Nat) : Prop := ∀ i, d ≤ i → i < l → q i < c
theorem sv_rng {k x low : Int} {j : Nat} {u w : Int} (hx : 0 ≤ amt x (fun _ => low + (j : Int))) (h0 : 0 ≤ u) (h1 : u ≤ 1000000000000) (h : sv k x low j u = some w) : 0 ≤ w ∧ w ≤ 1000000000000 := by
  unfold sv at h
  have hV : isV (u, 1) := ⟨by show (0 : Int) < 1; omega, by show (1 : Int) ≤ _; omega, by show _ ≤ u; omega, h1, by show Int.gcd u 1 = 1; exact Int.gcd_one⟩
  split at h
  · cases h
  · rename_i w' e
    have := ordS_isV hV hx e
    split at h
    · rename_i c
      cases h
      exact ⟨c.2, this.2.2.2.1⟩
    · cases h
def KM (ν : ZMem) (c : Nat) (kd xs : Nat → Int) (low goal : Int) (n : Nat) : Prop := (c ≤ 6 ∧ ν.1 4 4 2 = iI c ∧ ν.1 11 0 4 = iI low ∧ ν.1 11 0 5 = iI n ∧ ν.1 11 0 6 = iI goal ∧ n ≤ 100 ∧ 0 ≤ low ∧ low + n ≤ 10000 ∧ 0 ≤ goal ∧ goal ≤ 9999) ∧ ∀ a, a < c → ν.1 22 4 a = iI (kd a) ∧ ν.1 23 4 a = iI (xs a) ∧ 0 ≤ kd a ∧ kd a ≤ 7 ∧ 0 ≤ xs a ∧ xs a ≤ 10000
def fqR (d : Nat) (ν ν' : ZMem) : Prop := (∀ k i x, ¬ (k = 26 ∧ i = 3) → ¬ (k = 39 ∧ i = 0 ∧ d ≤ x) → ν'.1 k i x = ν.1 k i x) ∧ ∀ k i x, ¬ (k = 7 ∧ i = 2) → ¬ (k = 38 ∧ d < i) → ν'.2 k i x = ν.2 k i x
theorem fqR.rf {d : Nat} {ν : ZMem} : fqR d ν ν := ⟨fun _ _ _ _ _ => rfl, fun _ _ _ _ _ => rfl⟩
theorem fqR.tr {d : Nat} {ν ν' ν'' : ZMem} (h : fqR d ν ν') (h' : fqR d ν' ν'') : fqR d ν ν'' := ⟨fun k i x q1 q2 => (h'.1 k i x q1 q2).trans (h.1 k i x q1 q2), fun k i x q1 q2 => (h'.2 k i x q1 q2).trans (h.2 k i x q1 q2)⟩
theorem fqR.ofS {d : Nat} {ν ν' : ZMem} (h : frS d ν ν') : fqR d ν ν' := ⟨fun k i x q1 _ => h.1 k i x q1, fun k i x q1 q2 => h.2 k i x q1 (fun e => q2 ⟨e.1, by omega⟩)⟩
theorem fqR.up {d : Nat} {ν ν' : ZMem} (h : fqR (d + 1) ν ν') : fqR d ν ν' := ⟨fun k i x q1 q2 => h.1 k i x q1 (fun e => q2 ⟨e.1, e.2.1, by omega⟩), fun k i x q1 q2 => h.2 k i x q1 (fun e => q2 ⟨e.1, by omega⟩)⟩
theorem fqR.same {d : Nat} {ν ν' : ZMem} (h : fqR d ν ν') : Same ν ν' := ⟨fun k i x q => h.1 k i x (fun e => by rw [e.1, e.2] at q; revert q; simp [relI]) (fun e => by rw [e.1] at q; revert q; simp [relI]), fun k i x q => h.2 k i x (fun e => by rw [e.1] at q; cases q) (fun e => by rw [e.1] at q; cases q)⟩
theorem KM.fr {ν ν' : ZMem} {c n d : Nat} {kd xs : Nat → Int} {low goal : Int} (h : KM ν c kd xs low goal n) (f : fqR d ν ν') : KM ν' c kd xs low goal n := by
  obtain ⟨⟨a1, a2, a3, a4, a5, a6⟩, b⟩ := h
  refine ⟨⟨a1, ?_, ?_, ?_, ?_, a6⟩, fun a ha => ?_⟩
  · rw [f.1 4 4 2 (by omega) (by omega)]; exact a2
  · rw [f.1 11 0 4 (by omega) (by omega)]; exact a3
  · rw [f.1 11 0 5 (by omega) (by omega)]; exact a4
  · rw [f.1 11 0 6 (by omega) (by omega)]; exact a5
  · rw [f.1 22 4 a (by omega) (by omega), f.1 23 4 a (by omega) (by omega)]; exact b a ha
theorem s_spread {N : Nat} {ν : ZMem} {c n d a : Nat} {kd xs : Nat → Int} {low goal : Int} {last : Bool} {Lv : Nat → Int} (hN : 130 ≤ N) (hK : KM ν c kd xs low goal n) (ha : a < c) (hd : d < 5) (hLv : ∀ j, j < n → ν.2 38 d j = lI (Lv j) ∧ 0 ≤ Lv j ∧ Lv j ≤ 1000000000000) : ∃ b ν', f_Maker_spread N ν 4 (iI a) (iI d) (bI last) = some (bI b, ν') ∧ frS d ν ν' ∧ (b = true → ∀ i, i < n → ∃ w, sv (kd a) (xs a) low i (Lv i) = some w ∧ (last = true → w = goal) ∧ ν'.2 38 (d + 1) i = lI w) ∧ (b = false → ∃ i, i < n ∧ ∀ w, sv (kd a) (xs a) low i (Lv i) = some w → last = true ∧ w ≠ goal) := by
  obtain ⟨⟨a1, a2, a3, a4, a5, a6, a7, a8, a9, a10⟩, b⟩ := hK
  obtain ⟨b1, b2, b3, b4, b5, b6⟩ := b a ha
  exact spread_l (μ := ν) (o := 4) hN (show a < 6 by omega) b1 b2 b3 b4 b5 b6 hd a6 a7 a8 a9 a10 a3 a4 a5 hLv n 0 N ν (by omega) (by omega) frS.rf (fun i h => by omega)
theorem rl_succ {kd xs : Nat → Int} {low : Int} {j : Nat} {q : Nat → Nat} {m i : Nat} {u w : Int} (h : sv (kd (q i)) (xs (q i)) low j u = some w) : rl kd xs low j q (m + 1) i u = rl kd xs low j q m (i + 1) w := by
  simp only [rl, h]
theorem rl_none {kd xs : Nat → Int} {low : Int} {j : Nat} {q : Nat → Nat} {m i : Nat} {u : Int} (h : sv (kd (q i)) (xs (q i)) low j u = none) : rl kd xs low j q (m + 1) i u = none := by
  simp only [rl, h]
/-- only the orders from i on count -/
theorem rl_congr {kd xs : Nat → Int} {low : Int} {j : Nat} {q q' : Nat → Nat} : ∀ (m i : Nat) (u : Int), (∀ i', i ≤ i' → i' < i + m → q i' = q' i') → rl kd xs low j q m i u = rl kd xs low j q' m i u
  | 0, _, _, _ => rfl
  | m + 1, i, u, h => by
    simp only [rl, h i (by omega) (by omega)]
    split
    · rfl
    · exact rl_congr m (i + 1) _ (fun i' h1 h2 => h i' (by omega) (by omega))
def RR (N D m : Nat) : Prop := ∀ (d : Nat) (ν : ZMem) (c n : Nat) (kd xs : Nat → Int) (low goal : Int) (Lv : Nat → Int), 1 ≤ m → d + m ≤ 5 → KM ν c kd xs low goal n → (∀ j, j < n → ν.2 38 d j = lI (Lv j) ∧ 0 ≤ Lv j ∧ Lv j ≤ 1000000000000) →
  ∃ b ν', f_Maker_reaches N D ν 4 (iI d) (iI ((d + m : Nat) : Int)) = some (bI b, ν') ∧ fqR d ν ν' ∧ (b = true → ∃ q, dgt c q d (d + m) ∧ LD kd xs low goal n q m d Lv ∧ (∀ i, d ≤ i → i < d + m → ν'.1 39 0 i = iI (q i)) ∧ ∀ q', dgt c q' d (d + m) → lx q' q d (d + m) → ¬ LD kd xs low goal n q' m d Lv) ∧ (b = false → ∀ q', dgt c q' d (d + m) → ¬ LD kd xs low goal n q' m d Lv)
theorem reach_l {N D m d c n : Nat} {kd xs : Nat → Int} {low goal : Int} {Lv : Nat → Int} (hN : 130 ≤ N) (hrec : m = 0 ∨ RR N D m) (hd : d + (m + 1) ≤ 5) {μ : ZMem} (hK : KM μ c kd xs low goal n) (hLv : ∀ j, j < n → μ.2 38 d j = lI (Lv j) ∧ 0 ≤ Lv j ∧ Lv j ≤ 1000000000000) :
    ∀ (f a fuel : Nat) (ν : ZMem), a + f = c → f < fuel → fqR d μ ν → (∀ q', q' d < a → dgt c q' d (d + (m + 1)) → ¬ LD kd xs low goal n q' (m + 1) d Lv) → ∃ b ν', f_Maker_reaches_l29 N (f_Maker_reaches N D) 4 (iI d) (iI ((d + (m + 1) : Nat) : Int)) (bI (decide (m = 0))) fuel (iI a) ν = some (bI b, ν') ∧ fqR d μ ν' ∧ (b = true → ∃ q, dgt c q d (d + (m + 1)) ∧ LD kd xs low goal n q (m + 1) d Lv ∧ (∀ i, d ≤ i → i < d + (m + 1) → ν'.1 39 0 i = iI (q i)) ∧ ∀ q', dgt c q' d (d + (m + 1)) → lx q' q d (d + (m + 1)) → ¬ LD kd xs low goal n q' (m + 1) d Lv) ∧ (b = false → ∀ q', dgt c q' d (d + (m + 1)) → ¬ LD kd xs low goal n q' (m + 1) d Lv)
  | 0, a, fuel, ν, e1, e2, hF, hi => by
    obtain ⟨q, rfl⟩ : ∃ q, fuel = q + 1 := ⟨fuel - 1, by omega⟩
    have hKν := hK.fr hF
    have c6 := hKν.1.1
    refine ⟨false, ν, ?_, hF, fun q => (by cases q), fun _ q' hq' => hi q' (by have := hq' d (by omega) (by omega); omega) hq'⟩
    simp only [f_Maker_reaches_l29]
    rw [hKν.1.2.1, zif_t (by rw [iI_le (by omega) (by omega) (by omega) (by omega)]; omega)]; rfl
  | f + 1, a, fuel, ν, e1, e2, hF, hi => by
    obtain ⟨q, rfl⟩ : ∃ q, fuel = q + 1 := ⟨fuel - 1, by omega⟩
    have hKν := hK.fr hF
    have c6 := hKν.1.1
    have e : iI (a : Int) + (1 : Int32) = iI ((a + 1 : Nat) : Int) := by rw [ilit, iI_add]; congr 1
    have ed : iI (d : Int) + (1 : Int32) = iI ((d + 1 : Nat) : Int) := by rw [ilit, iI_add]; congr 1
    have hLν : ∀ j, j < n → ν.2 38 d j = lI (Lv j) ∧ 0 ≤ Lv j ∧ Lv j ≤ 1000000000000 := fun j hj => by rw [hF.2 38 d j (by omega) (by omega)]; exact hLv j hj
    obtain ⟨b, ν1, s1, s2, s3, s4⟩ := s_spread (a := a) (d := d) (last := decide (m = 0)) hN hKν (by omega) (by omega) hLν
    have hgo : ∀ ν2, fqR d μ ν2 → (∀ q', q' d = a → dgt c q' d (d + (m + 1)) → ¬ LD kd xs low goal n q' (m + 1) d Lv) → ∃ b ν', f_Maker_reaches_l29 N (f_Maker_reaches N D) 4 (iI d) (iI ((d + (m + 1) : Nat) : Int)) (bI (decide (m = 0))) q (iI ((a + 1 : Nat) : Int)) ν2 = some (bI b, ν') ∧ fqR d μ ν' ∧ (b = true → ∃ q, dgt c q d (d + (m + 1)) ∧ LD kd xs low goal n q (m + 1) d Lv ∧ (∀ i, d ≤ i → i < d + (m + 1) → ν'.1 39 0 i = iI (q i)) ∧ ∀ q', dgt c q' d (d + (m + 1)) → lx q' q d (d + (m + 1)) → ¬ LD kd xs low goal n q' (m + 1) d Lv) ∧ (b = false → ∀ q', dgt c q' d (d + (m + 1)) → ¬ LD kd xs low goal n q' (m + 1) d Lv) := fun ν2 hf2 hno =>
      reach_l hN hrec hd hK hLv f (a + 1) q ν2 (by omega) (by omega) hf2 (fun q' h1 h2 => by
        by_cases c : q' d < a
        · exact hi q' c h2
        · exact hno q' (by omega) h2)
    simp only [f_Maker_reaches_l29]
    rw [hKν.1.2.1, zif_f (by rw [iI_le (by omega) (by omega) (by omega) (by omega)]; omega), s1, zbnd_eq]
    simp only [zlt_eq, e, ed]
    have hF1 : fqR d μ ν1 := hF.tr (fqR.ofS s2)
    cases hb : b with
    | false =>
      rw [zif_t (show bI false = 0 from rfl)]
      refine hgo ν1 hF1 (fun q' h1 h2 h3 => ?_)
      obtain ⟨i, i1, i2⟩ := s4 hb
      have h4 := h3 i i1
      cases hs : sv (kd (q' d)) (xs (q' d)) low i (Lv i) with
      | none => rw [rl_none hs] at h4; cases h4
      | some w =>
        rw [rl_succ hs] at h4
        rw [h1] at hs
        obtain ⟨p1, p2⟩ := i2 w hs
        have : m = 0 := of_decide_eq_true p1
        subst this
        have h4' : some w = some goal := h4
        exact p2 (Option.some.inj h4')
    | true =>
      rw [zif_f (show ¬ bI true = 0 by decide), zchk_t (zin_k 5 rfl (by omega) (by omega) (by omega))]
      have hc := s3 hb
      obtain ⟨ν2, hν2⟩ : ∃ ν2, ν2 = zsetI ν1 39 0 d (iI (a : Int)) := ⟨_, rfl⟩
      have hF12 : fqR d ν1 ν2 := by rw [hν2]; exact ⟨fun k i x q1 q2 => by rw [rI, if_neg (fun e => q2 ⟨e.1, e.2.1, by omega⟩)], fun k i x q1 q2 => rfl⟩
      have hF2 : fqR d μ ν2 := hF1.tr hF12
      simp only [cl_nat (show d < 2147483648 by omega), ← hν2]
      by_cases hm : m = 0
      · subst hm
        simp only [decide_true]
        rw [zif_f (show ¬ bI true = 0 by decide)]
        refine ⟨true, ν2, rfl, hF2, fun _ => ⟨fun _ => a, fun _ _ _ => by show a < c; omega, fun j hj => ?_, fun i h1 h2 => ?_, fun q' h1 h2 => ?_⟩, fun q => (by cases q)⟩
        · obtain ⟨w, w1, w2, -⟩ := hc j hj
          rw [rl_succ (q := fun _ => a) w1]
          show some w = some goal
          rw [w2 (by simp)]
        · have : i = d := by omega
          subst this
          rw [hν2, rI, if_pos ⟨rfl, rfl, rfl⟩]
        · obtain ⟨i, i1, i2, i3, i4⟩ := h2
          have : i = d := by omega
          subst this
          exact hi q' i4 h1
      · obtain ⟨k, rfl⟩ : ∃ k, m = k + 1 := ⟨m - 1, by omega⟩
        have hdec : decide (k + 1 = 0) = false := by simp
        simp only [hdec]
        rw [zif_t (show bI false = 0 from rfl)]
        obtain ⟨Lw, hLw⟩ : ∃ Lw : Nat → Int, ∀ j, j < n → sv (kd a) (xs a) low j (Lv j) = some (Lw j) ∧ ν1.2 38 (d + 1) j = lI (Lw j) := by
          refine ⟨fun j => (sv (kd a) (xs a) low j (Lv j)).getD 0, fun j hj => ?_⟩
          obtain ⟨w, w1, -, w3⟩ := hc j hj
          simp only [w1, Option.getD_some]
          exact ⟨trivial, w3⟩
        have hR : RR N D (k + 1) := by
          rcases hrec with h | h
          · exact absurd h hm
          · exact h
        obtain ⟨⟨-, -, -, -, -, n100, l0, l1, -⟩, bk⟩ := id hKν
        obtain ⟨-, -, -, -, bx0, bx1⟩ := bk a (by omega)
        have hK2 := hK.fr hF2
        have hlv2 : ∀ j, j < n → ν2.2 38 (d + 1) j = lI (Lw j) ∧ 0 ≤ Lw j ∧ Lw j ≤ 1000000000000 := fun j hj => by
          obtain ⟨y1, y2⟩ := hLw j hj
          obtain ⟨z1, z2, z3⟩ := hLv j hj
          refine ⟨by rw [hν2]; exact y2, sv_rng ?_ z2 z3 y1⟩
          simp only [amt]
          split <;> omega
        obtain ⟨b', ν3, r1, r2, r3, r4⟩ := hR (d + 1) ν2 c n kd xs low goal Lw (by omega) (by omega) hK2 hlv2
        rw [show d + 1 + (k + 1) = d + (k + 1 + 1) by omega] at r1 r3 r4
        have hLD : ∀ q' : Nat → Nat, q' d = a → (LD kd xs low goal n q' (k + 1 + 1) d Lv ↔ LD kd xs low goal n q' (k + 1) (d + 1) Lw) := fun q' hq' => by
          refine ⟨fun h j hj => ?_, fun h j hj => ?_⟩
          · have := h j hj
            rw [rl_succ (w := Lw j) (by rw [hq']; exact (hLw j hj).1)] at this
            exact this
          · rw [rl_succ (w := Lw j) (by rw [hq']; exact (hLw j hj).1)]
            exact h j hj
        rw [r1, zbnd_eq]
        have hF3 : fqR d μ ν3 := hF2.tr r2.up
        cases hb' : b' with
        | false =>
          rw [zif_t (show bI false = 0 from rfl)]
          rw [hdec] at hgo
          refine hgo ν3 hF3 (fun q' h1 h2 h3 => ?_)
          exact r4 hb' q' (fun i j1 j2 => h2 i (by omega) j2) ((hLD q' h1).1 h3)
        | true =>
          rw [zif_f (show ¬ bI true = 0 by decide)]
          obtain ⟨q0, t1, t2, t3, t4⟩ := r3 hb'
          obtain ⟨Q, hQ⟩ : ∃ Q : Nat → Nat, Q = fun i => if i = d then a else q0 i := ⟨_, rfl⟩
          have Qd : Q d = a := by rw [hQ]; exact if_pos rfl
          have Qi : ∀ i, d + 1 ≤ i → Q i = q0 i := fun i h => by rw [hQ]; exact if_neg (by omega)
          refine ⟨true, ν3, rfl, hF3, fun _ => ⟨Q, fun i h1 h2 => ?_, ?_, fun i h1 h2 => ?_, fun q' h1 h2 h3 => ?_⟩, fun q => (by cases q)⟩
          · by_cases c : i = d
            · rw [c, Qd]; omega
            · rw [Qi i (by omega)]; exact t1 i (by omega) h2
          · rw [hLD Q Qd]
            intro j hj
            rw [rl_congr (q' := q0) _ _ _ (fun i' h1 _ => Qi i' h1)]
            exact t2 j hj
          · by_cases c : i = d
            · rw [c, Qd, r2.1 39 0 d (by omega) (by omega), hν2, rI, if_pos ⟨rfl, rfl, rfl⟩]
            · rw [Qi i (by omega)]; exact t3 i (by omega) h2
          · obtain ⟨i, i1, i2, i3, i4⟩ := h2
            by_cases c : i = d
            · rw [c, Qd] at i4
              exact hi q' i4 h1 h3
            · have hq'd : q' d = a := by rw [i3 d (by omega) (by omega)]; exact Qd
              exact t4 q' (fun i' j1 j2 => h1 i' (by omega) j2) ⟨i, by omega, i2, fun i' j1 j2 => by rw [i3 i' (by omega) j2]; exact Qi i' j1, by rw [← Qi i (by omega)]; exact i4⟩ ((hLD q' hq'd).1 h3)
theorem reach_ok {N : Nat} (hN : 130 ≤ N) : ∀ (m D : Nat), m < D → RR N D m
  | 0, D, _ => fun d ν c n kd xs low goal Lv h => by omega
  | m + 1, D, hD => by
    obtain ⟨D, rfl⟩ : ∃ q, D = q + 1 := ⟨D - 1, by omega⟩
    intro d ν c n kd xs low goal Lv h1 hd hK hLv
    have ed : iI (d : Int) + (1 : Int32) = iI ((d + 1 : Nat) : Int) := by rw [ilit, iI_add]; congr 1
    have c6 := hK.1.1
    obtain ⟨b, ν', s1, s2, s3, s4⟩ := reach_l (N := N) (D := D) (m := m) (d := d) hN (Or.inr (reach_ok hN m D (by omega))) hd hK hLv c 0 N ν (by omega) (by omega) fqR.rf (fun q' h => by omega)
    refine ⟨b, ν', ?_, s2, s3, s4⟩
    rw [show f_Maker_reaches N (D + 1) ν 4 (iI (d : Int)) (iI ((d + (m + 1) : Nat) : Int)) = f_Maker_reaches_b N (f_Maker_reaches N D) ν 4 (iI (d : Int)) (iI ((d + (m + 1) : Nat) : Int)) from rfl]
    unfold f_Maker_reaches_b
    rw [zif_f (by rw [iI_le (by omega) (by omega) (by omega) (by omega)]; omega), zif_t (by rw [ilit, iI_lt (by omega) (by omega) (by omega) (by omega)]; omega)]
    simp only [zlt_eq, ed]
    by_cases c0 : m = 0
    · subst c0
      rw [zif_t (by rw [iI_eq (by omega) (by omega) (by omega) (by omega)])]
      exact s1
    · rw [zif_f (by rw [iI_eq (by omega) (by omega) (by omega) (by omega)]; omega)]
      have : decide (m = 0) = false := by simp [c0]
      rw [this] at s1
      exact s1
