theorem s_fewest {N : Nat} {μ : ZMem} {a b g : Int} {p c : Nat} {kd xs : Nat → Int} (hN : 30000 ≤ N) (hok : okM a b g p) (hc6 : c ≤ 6) (hc : μ.1 4 4 2 = iI c) (hk : ∀ i, i < c → μ.1 22 4 i = iI (kd i) ∧ μ.1 23 4 i = iI (xs i) ∧ 0 ≤ kd i ∧ kd i ≤ 7 ∧ 0 ≤ xs i ∧ xs i ≤ 10000) :
    ∃ (r : Int) (ν' : ZMem), f_Maker_fewest N μ 4 (iI a) (iI b) (iI g) (iI p) = some (iI r, ν') ∧ Same μ ν' ∧ (a = b ∧ a = g → r = 0) ∧ (¬ (a = b ∧ a = g) → RES kd xs a g (b - a + 1).toNat c p r (ν'.1 39 0)) := by
  unfold okM at hok
  obtain ⟨n, hn⟩ : ∃ n : Nat, n = (b - a + 1).toNat := ⟨_, rfl⟩
  have en : zminI (iI b - iI a + (1 : Int32)) (100 : Int32) = iI (n : Int) := by
    rw [iI_sub, ilit, iI_add, ilit, iI_min (by omega) (by omega) (by omega) (by omega)]
    congr 1
    omega
  obtain ⟨ν, hν⟩ : ∃ ν, ν = zsetI (zsetI (zsetI μ 11 0 4 (iI a)) 11 0 6 (iI g)) 11 0 5 (iI (n : Int)) := ⟨_, rfl⟩
  have hS : Same μ ν := by rw [hν]; exact (((Same.rf.setI rfl).setI rfl).setI rfl)
  have r4 : ν.1 11 0 4 = iI a := by rw [hν]; simp [rI]
  have r6 : ν.1 11 0 6 = iI g := by rw [hν]; simp [rI]
  have r5 : ν.1 11 0 5 = iI (n : Int) := by rw [hν]; simp [rI]
  have r44 : (zsetI (zsetI μ 11 0 4 (iI a)) 11 0 6 (iI g)).1 11 0 4 = iI a := by simp [rI]
  unfold f_Maker_fewest
  simp only [zlt_eq, r44, en, ← hν, r4, r6]
  rw [← hn]
  by_cases h1 : a = b ∧ a = g
  · rw [zif_t (by rw [h1.1]), zif_t (by rw [h1.2])]
    exact ⟨0, ν, rfl, hS, fun _ => rfl, fun q => absurd h1 q⟩
  · have hgo : ∃ (r : Int) (ν' : ZMem), f_Maker_fewest_l52 N 4 (iI (p : Int)) (fun (μ12 : ZMem) => f_Maker_fewest_l87 N 4 (iI (p : Int)) N (1 : Int32) μ12) N (0 : Int32) ν = some (iI r, ν') ∧ Same μ ν' ∧ (a = b ∧ a = g → r = 0) ∧ (¬ (a = b ∧ a = g) → RES kd xs a g n c p r (ν'.1 39 0)) := by
      obtain ⟨ν1, f1, f2, f3, f4⟩ := fill_l (N := N) (p4 := iI (p : Int)) (kx := fun (μ12 : ZMem) => f_Maker_fewest_l87 N 4 (iI (p : Int)) N (1 : Int32) μ12) (n := n) (low := a) (by omega) (by omega) (by omega) n 0 N ν (by omega) (by omega) r4 r5 (fun i h => by omega)
      have hS1 : Same ν ν1 := ⟨fun k i x _ => by rw [f2], fun k i x q => f3 k i x (fun e => by rw [e] at q; cases q)⟩
      have hKM : KM ν1 c kd xs a g n := by
        refine ⟨⟨hc6, ?_, by rw [f2]; exact r4, by rw [f2]; exact r5, by rw [f2]; exact r6, by omega, by omega, by omega, by omega, by omega⟩, fun i hi => ?_⟩
        · rw [f2, hν]; simp only [rI]; exact hc
        · rw [f2, hν]; simp only [rI]; exact hk i hi
      obtain ⟨r, ν2, s1, s2, s3⟩ := few_l (N := N) (μ := ν1) (p := p) hN hKM (by omega) f4 p 1 N ν1 (by omega) (by omega) (by omega) fqR.rf (fun l' h1 h2 => by omega)
      refine ⟨r, ν2, ?_, (hS.tr hS1).tr s2.same, fun q => absurd q h1, fun _ => s3⟩
      exact f1.trans s1
    by_cases c8 : a = b
    · rw [zif_t (by rw [c8]), zif_f (by rw [iI_eq (by omega) (by omega) (by omega) (by omega)]; exact fun e => h1 ⟨c8, e⟩)]
      exact hgo
    · rw [zif_f (by rw [iI_eq (by omega) (by omega) (by omega) (by omega)]; exact c8)]
      exact hgo
theorem ag_made (N : Nat) (hN : 30000 ≤ N) (p0 p1 p2 p3 p4 : Int32) : Agree (fun μ => f_A_made N μ p0 p1 p2 p3 p4) (fun μ => f_M_made N μ p0 p1 p2 p3 p4) := by
  refine Agree.same (fun μ hI => ?_)
  obtain ⟨a, a1, a2, rfl⟩ := iI_ex p0
  obtain ⟨b, b1, b2, rfl⟩ := iI_ex p1
  obtain ⟨g, g1, g2, rfl⟩ := iI_ex p2
  obtain ⟨p, q1, q2, rfl⟩ := iI_ex p3
  obtain ⟨t, t1, t2, rfl⟩ := iI_ex p4
  by_cases hok : okM a b g p
  · obtain ⟨-, -, ⟨-, -, -, -, ⟨k1, k2, k3, k4⟩, -⟩, -⟩ := hI
    obtain ⟨c, c1, c2, c3⟩ := nat_ex k2 k3
    have hok' := hok
    unfold okM at hok'
    obtain ⟨P, rfl⟩ : ∃ P : Nat, p = (P : Int) := ⟨p.toNat, by omega⟩
    obtain ⟨kd, hkd⟩ : ∃ kd : Nat → Int, kd = fun i => (μ.1 22 4 i).toInt := ⟨_, rfl⟩
    obtain ⟨xs, hxs⟩ : ∃ xs : Nat → Int, xs = fun i => (μ.1 23 4 i).toInt := ⟨_, rfl⟩
    have hk : ∀ i, i < c → μ.1 22 4 i = iI (kd i) ∧ μ.1 23 4 i = iI (xs i) ∧ 0 ≤ kd i ∧ kd i ≤ 7 ∧ 0 ≤ xs i ∧ xs i ≤ 10000 := fun i hi => by
      obtain ⟨-, -, w3, w4, w5, w6⟩ := k4 i (by rw [c3]; omega)
      rw [hkd, hxs]
      exact ⟨iI_of _, iI_of _, w3, w4, w5, w6⟩
    obtain ⟨r, ν, s1, s2, s3, s4⟩ := s_fewest (N := N) (μ := μ) (a := a) (b := b) (g := g) (p := P) (c := c) (kd := kd) (xs := xs) hN hok (by omega) c2 hk
    have hKN : KN ν c kd xs := by
      refine ⟨⟨by omega, ?_⟩, fun i hi => ?_⟩
      · rw [s2.1 40 0 6 rfl, ← k1]; exact c2
      · obtain ⟨w1, w2, -⟩ := k4 i (by rw [c3]; omega)
        obtain ⟨v1, v2, v3⟩ := hk i hi
        rw [s2.1 40 0 _ rfl, s2.1 40 0 _ rfl, ← w1, ← w2]
        exact ⟨v1, v2, v3⟩
    have hA := (A_made_eq (N := N) (μ := μ) (a := a) (b := b) (g := g) (p := (P : Int)) (t := t) ⟨a1, a2⟩ ⟨b1, b2⟩ ⟨g1, g2⟩ ⟨q1, q2⟩).2 hok
    obtain ⟨hM1, hM2⟩ := M_made_eq (N := N) (μ := ν) (a := a) (b := b) (g := g) (p := (P : Int)) (t := t) ⟨a1, a2⟩ ⟨b1, b2⟩ ⟨g1, g2⟩ ⟨q1, q2⟩ ⟨t1, t2⟩
    simp only [s1, zbnd_eq, zlt_eq] at hA
    by_cases ct : -1 ≤ t
    · obtain ⟨m1', m2, m3⟩ := hM2 hok ct
      by_cases h1 : a = b ∧ a = g
      · by_cases c0 : t = -1
        · refine ⟨0, ν, ν, ?_, m1' h1 c0, s2, Same.rf⟩
          rw [hA, zif_t (by rw [c0]; decide), s3 h1]; rfl
        · refine ⟨-2, ν, ν, ?_, m2 h1 c0, s2, Same.rf⟩
          rw [hA, zif_f (by rw [m1, iI_eq (by omega) (by omega) (by omega) (by omega)]; exact c0), zif_f (by rw [zi0, iI_lt (by omega) (by omega) (by omega) (by omega)]; omega), s3 h1, zif_t (by rw [iI_le (by omega) (by omega) (by omega) (by omega)]; omega)]; rfl
      · have hR := s4 h1
        obtain ⟨n, hn⟩ : ∃ n : Nat, n = (b - a + 1).toNat := ⟨_, rfl⟩
        rw [← hn] at hR
        have eb : iI b = iI (a + (n : Int) - 1) := by congr 1; omega
        obtain ⟨r', ν', y1, y2, y3, y4⟩ := madeM_l (N := N) (μ := ν) (c := c) (n := n) (p := P) (kd := kd) (xs := xs) (low := a) (goal := g) (p4 := iI t) (kx := fun (x17 : Int32) (μ18 : ZMem) => zif (iI t = (-1 : Int32)) (zret x17 μ18) (zif (x17 ≤ iI t) (zret (-2 : Int32) μ18) (zchk (zin (iI t) (zlen 51 0)) (zret (μ18.1 51 0 (iI t).toNatClampNeg) μ18)))) hN hKN (by omega) (by omega) (by omega) (by omega) (by omega) (by omega) (by omega) P 1 N ν (by omega) (by omega) (by omega) fqI.rf (fun l' h1 h2 => by omega)
        obtain ⟨u1, u2⟩ := RES_uniq hR y4
        subst u1
        have m3' := m3 h1
        rw [eb] at m3'
        have rr : -2 ≤ r ∧ r ≤ 5 := by
          rcases hR with ⟨e, -⟩ | ⟨l, q, e1, e2, e3, -⟩ <;> omega
        rw [show iI ((1 : Nat) : Int) = (1 : Int32) from rfl] at y1 y2
        by_cases c0 : t = -1
        · refine ⟨iI r, ν, ν', ?_, ?_, s2, y3.same⟩
          · rw [hA, zif_t (by rw [c0]; decide)]; rfl
          · show f_M_made N ν (iI a) (iI b) (iI g) (iI (P : Int)) (iI t) = _
            rw [eb, m3']
            by_cases c9 : r = -2
            · rw [y1 c9, c9]; rfl
            · rw [y2 c9, zif_t (by rw [c0]; decide)]; rfl
        · have nt : ¬ iI t = (-1 : Int32) := by rw [m1, iI_eq (by omega) (by omega) (by omega) (by omega)]; exact c0
          have n0 : ¬ iI t < (0 : Int32) := by rw [zi0, iI_lt (by omega) (by omega) (by omega) (by omega)]; omega
          rw [zif_f nt, zif_f n0] at hA
          by_cases c8 : r ≤ t
          · refine ⟨-2, ν, ν', ?_, ?_, s2, y3.same⟩
            · rw [hA, zif_t (by rw [iI_le (by omega) (by omega) (by omega) (by omega)]; exact c8)]; rfl
            · show f_M_made N ν (iI a) (iI b) (iI g) (iI (P : Int)) (iI t) = _
              rw [eb, m3']
              by_cases c9 : r = -2
              · rw [y1 c9]
              · rw [y2 c9, zif_f nt, zif_t (by rw [iI_le (by omega) (by omega) (by omega) (by omega)]; exact c8)]; rfl
          · obtain ⟨T, rfl⟩ : ∃ T : Nat, t = (T : Int) := ⟨t.toNat, by omega⟩
            refine ⟨ν.1 39 0 T, ν, ν', ?_, ?_, s2, y3.same⟩
            · rw [hA, zif_f (by rw [iI_le (by omega) (by omega) (by omega) (by omega)]; exact c8), zchk_t (zin_k 5 rfl (by omega) (by omega) (by omega)), cl_nat (by omega)]; rfl
            · show f_M_made N ν (iI a) (iI b) (iI g) (iI (P : Int)) (iI (T : Int)) = _
              rw [eb, m3', y2 (by omega), zif_f nt, zif_f (by rw [iI_le (by omega) (by omega) (by omega) (by omega)]; exact c8), zchk_t (zin_k 5 rfl (by omega) (by omega) (by omega)), cl_nat (by omega), u2 T (by omega)]; rfl
    · refine ⟨-2, ν, ν, ?_, hM1 (fun q => ct q.2), s2, Same.rf⟩
      rw [hA, zif_f (by rw [m1, iI_eq (by omega) (by omega) (by omega) (by omega)]; omega), zif_t (by rw [zi0, iI_lt (by omega) (by omega) (by omega) (by omega)]; omega)]; rfl
  · refine ⟨-2, μ, μ, ?_, ?_, Same.rf, Same.rf⟩
    · exact (A_made_eq ⟨a1, a2⟩ ⟨b1, b2⟩ ⟨g1, g2⟩ ⟨q1, q2⟩).1 hok
    · exact (M_made_eq ⟨a1, a2⟩ ⟨b1, b2⟩ ⟨g1, g2⟩ ⟨q1, q2⟩ ⟨t1, t2⟩).1 (fun q => hok q.1)
