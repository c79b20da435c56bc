/-! table: the class goes on to the next token -/
def fr2 (ν ν' : ZMem) : Prop := (∀ k i x, ¬ (k = 2 ∧ i = 0 ∧ 3 ≤ x ∧ x ≤ 5) → ν'.1 k i x = ν.1 k i x) ∧ ν'.2 = ν.2
theorem fr2.rf {ν : ZMem} : fr2 ν ν := ⟨fun _ _ _ _ => rfl, rfl⟩
theorem fr2.tr {ν ν' ν'' : ZMem} (h : fr2 ν ν') (h' : fr2 ν' ν'') : fr2 ν ν'' := ⟨fun k i x q => (h'.1 k i x q).trans (h.1 k i x q), h'.2.trans h.2⟩
theorem fr2.set {ν ν' : ZMem} {x : Nat} {v : Int32} (h : fr2 ν ν') (h3 : 3 ≤ x) (h6 : x ≤ 5) : fr2 ν (zsetI ν' 2 0 x v) := ⟨fun k i y q => by rw [rI, if_neg (fun e => q ⟨e.1, e.2.1, by omega, by omega⟩)]; exact h.1 k i y q, h.2⟩
def tpA (μ : ZMem) (n : Nat) (z : Nat → Int) : Prop := n ≤ 300 ∧ μ.1 1 0 1 = iI n ∧ ∀ j, j < n → 0 ≤ z j ∧ z j < 256 ∧ μ.1 20 0 j = iI (sgn (z j))
theorem tpA.fr {ν ν' : ZMem} {n : Nat} {z : Nat → Int} (h : tpA ν n z) (f : fr2 ν ν') : tpA ν' n z := by
  obtain ⟨h1, h2, h3⟩ := h
  refine ⟨h1, by rw [f.1 1 0 1 (by omega)]; exact h2, fun j hj => ?_⟩
  rw [f.1 20 0 j (by omega)]; exact h3 j hj
theorem adv_skp {N n : Nat} {z : Nat → Int} {kx : ZMem → Option (Unit × ZMem)} : ∀ (f p fuel : Nat) (ν : ZMem), p + f = n → f < fuel → tpA ν n z → ν.1 2 0 4 = iI p → ∃ ν', f_Reader_advance_l8 N kx fuel ν = kx ν' ∧ ν'.1 2 0 4 = iI (skp z f p : Nat) ∧ fr2 ν ν'
  | 0, p, fuel, ν, e1, e2, hT, h4 => by
    obtain ⟨q, rfl⟩ : ∃ q, fuel = q + 1 := ⟨fuel - 1, by omega⟩
    obtain ⟨t1, t2, t3⟩ := hT
    refine ⟨ν, ?_, h4, fr2.rf⟩
    simp only [f_Reader_advance_l8, t2, h4]
    rw [zif_t (by rw [iI_le (by omega) (by omega) (by omega) (by omega)]; omega)]
  | f + 1, p, fuel, ν, e1, e2, hT, h4 => by
    obtain ⟨q, rfl⟩ : ∃ q, fuel = q + 1 := ⟨fuel - 1, by omega⟩
    obtain ⟨t1, t2, t3⟩ := id hT
    obtain ⟨z1, z2, z3⟩ := t3 p (by omega)
    have e : iI (p : Int) + (1 : Int32) = iI ((p + 1 : Nat) : Int) := by rw [ilit, iI_add]; congr 1
    have hs := srt_rng (z p)
    simp only [f_Reader_advance_l8, t2, h4, cl_nat (show p < 2147483648 by omega), z3]
    rw [zif_f (by rw [iI_le (by omega) (by omega) (by omega) (by omega)]; omega), zchk_t (zin_k 300 rfl (by omega) (by omega) (by omega)), s_sortOf z1 z2, zbnd_eq]
    unfold skp
    by_cases c : srt (z p) = 4
    · rw [zif_t (by rw [c]; rfl), if_pos c, h4, e, zlt_eq]
      have hf : fr2 ν (zsetI ν 2 0 4 (iI ((p + 1 : Nat) : Int))) := fr2.rf.set (by omega) (by omega)
      obtain ⟨ν', g1, g2, g3⟩ := adv_skp (N := N) (kx := kx) f (p + 1) q (zsetI ν 2 0 4 (iI ((p + 1 : Nat) : Int))) (by omega) (by omega) (hT.fr hf) (by rw [rI, if_pos ⟨rfl, rfl, rfl⟩])
      exact ⟨ν', g1, g2, hf.tr g3⟩
    · rw [zif_f (by rw [ilit, iI_eq (by omega) (by omega) (by omega) (by omega)]; omega), if_neg c]
      exact ⟨ν, rfl, h4, fr2.rf⟩
theorem adv_run {N n : Nat} {z : Nat → Int} {s : Int} (hs0 : 1 ≤ s) (hs5 : s ≤ 5) : ∀ (f p fuel : Nat) (ν : ZMem), p + f = n → f < fuel → tpA ν n z → ν.1 2 0 5 = iI p → ν.1 2 0 3 = iI s → ∃ ν', f_Reader_advance_l137 N 1 fuel ν = some ((), ν') ∧ ν'.1 2 0 5 = iI (rnn z s f p : Nat) ∧ ν'.1 2 0 3 = iI s ∧ ν'.1 2 0 4 = ν.1 2 0 4 ∧ fr2 ν ν'
  | 0, p, fuel, ν, e1, e2, hT, h5, h3 => by
    obtain ⟨q, rfl⟩ : ∃ q, fuel = q + 1 := ⟨fuel - 1, by omega⟩
    obtain ⟨t1, t2, t3⟩ := hT
    refine ⟨ν, ?_, h5, h3, rfl, fr2.rf⟩
    simp only [f_Reader_advance_l137, t2, h5]
    rw [zif_f (by decide), zif_t (by rw [iI_le (by omega) (by omega) (by omega) (by omega)]; omega)]; rfl
  | f + 1, p, fuel, ν, e1, e2, hT, h5, h3 => by
    obtain ⟨q, rfl⟩ : ∃ q, fuel = q + 1 := ⟨fuel - 1, by omega⟩
    obtain ⟨t1, t2, t3⟩ := id hT
    obtain ⟨z1, z2, z3⟩ := t3 p (by omega)
    have e : iI (p : Int) + (1 : Int32) = iI ((p + 1 : Nat) : Int) := by rw [ilit, iI_add]; congr 1
    have hs := srt_rng (z p)
    simp only [f_Reader_advance_l137, t2, h5, cl_nat (show p < 2147483648 by omega), z3]
    rw [zif_f (by decide), zif_f (by rw [iI_le (by omega) (by omega) (by omega) (by omega)]; omega), zchk_t (zin_k 300 rfl (by omega) (by omega) (by omega)), s_sortOf z1 z2, zbnd_eq, h3]
    unfold rnn
    by_cases c : srt (z p) = s
    · rw [zif_t (by rw [c]), if_pos c, h5, e, zlt_eq]
      have hf : fr2 ν (zsetI ν 2 0 5 (iI ((p + 1 : Nat) : Int))) := fr2.rf.set (by omega) (by omega)
      obtain ⟨ν', g1, g2, g3, g4, g5⟩ := adv_run (N := N) hs0 hs5 f (p + 1) q (zsetI ν 2 0 5 (iI ((p + 1 : Nat) : Int))) (by omega) (by omega) (hT.fr hf) (by rw [rI, if_pos ⟨rfl, rfl, rfl⟩]) (by rw [rI, if_neg (by omega)]; exact h3)
      exact ⟨ν', g1, g2, g3, by rw [g4, rI, if_neg (by omega)], hf.tr g5⟩
    · rw [zif_f (by rw [iI_eq (by omega) (by omega) (by omega) (by omega)]; omega), if_neg c]
      exact ⟨ν, rfl, h5, h3, rfl, fr2.rf⟩
/-- the token behind p lies in the reader -/
def tkA (μ : ZMem) (z : Nat → Int) (n p : Nat) : Prop := μ.1 2 0 4 = iI (tS z n p : Nat) ∧ μ.1 2 0 3 = iI (tG z n p) ∧ μ.1 2 0 5 = iI (tE z n p : Nat)
theorem s_advance {N n p : Nat} {z : Nat → Int} {μ : ZMem} (hN : 400 ≤ N) (hT : tpA μ n z) (hp : p ≤ n) (h5 : μ.1 2 0 5 = iI p) : ∃ μ', f_Reader_advance N μ = some ((), μ') ∧ tkA μ' z n p ∧ fr2 μ μ' := by
  have hn := hT.1
  obtain ⟨r1, r2, r3, r4, r5, r6, r7, r8, r9⟩ := tk_rng (z := z) hp
  unfold f_Reader_advance
  rw [zlt_eq, h5]
  have hf0 : fr2 μ (zsetI μ 2 0 4 (iI (p : Int))) := fr2.rf.set (by omega) (by omega)
  generalize hkx : (fun (μ6 : ZMem) => zlt (fun (y7 : Int32) (μ8 : ZMem) => zlt (zsetI μ8 2 0 3 y7) (fun (μ10 : ZMem) => zlt (fun (y11 : Int32) (μ12 : ZMem) => zlt (zsetI μ12 2 0 5 y11) (fun (μ14 : ZMem) => zlt (fun (y15 : Int32) (μ16 : ZMem) => zlt y15 (fun (x18 : Int32) => f_Reader_advance_l137 N x18 N μ16)) (fun k17 => zlt (fun (μ23 : ZMem) => k17 (1 : Int32) μ23) (fun k24 => zif ((μ14.1 2 0 3) = (1 : Int32)) (k24 μ14) (zif ((μ14.1 2 0 3) = (2 : Int32)) (k24 μ14) (k17 (0 : Int32) μ14)))))) (fun k13 => zif ((μ10.1 2 0 3) = 0) (k13 (μ10.1 2 0 4) μ10) (k13 ((μ10.1 2 0 4) + (1 : Int32)) μ10)))) (fun k9 => zif ((μ6.1 1 0 1) ≤ (μ6.1 2 0 4)) (k9 (0 : Int32) μ6) (zchk (zin (μ6.1 2 0 4) (zlen 20 0)) (zbnd (f_Reader_sortOf N μ6 (μ6.1 20 0 (μ6.1 2 0 4).toNatClampNeg)) (fun (r26 : Int32) (μ25 : ZMem) => k9 r26 μ25))))) = kx
  obtain ⟨ν, g1, g2, g3⟩ := adv_skp (N := N) (kx := kx) (n - p) p N (zsetI μ 2 0 4 (iI (p : Int))) (by omega) (by omega) (hT.fr hf0) (by rw [rI, if_pos ⟨rfl, rfl, rfl⟩])
  rw [g1, ← hkx]
  have hf1 : fr2 μ ν := hf0.tr g3
  obtain ⟨t1, t2, t3⟩ := hT.fr hf1
  have g2' : ν.1 2 0 4 = iI (tS z n p : Nat) := g2
  have eS : iI (tS z n p : Int) + (1 : Int32) = iI ((tS z n p + 1 : Nat) : Int) := by rw [ilit, iI_add]; congr 1
  have hgo : ∃ μ', zlt (zsetI ν 2 0 3 (iI (tG z n p))) (fun (μ10 : ZMem) => zlt (fun (y11 : Int32) (μ12 : ZMem) => zlt (zsetI μ12 2 0 5 y11) (fun (μ14 : ZMem) => zlt (fun (y15 : Int32) (μ16 : ZMem) => zlt y15 (fun (x18 : Int32) => f_Reader_advance_l137 N x18 N μ16)) (fun k17 => zlt (fun (μ23 : ZMem) => k17 (1 : Int32) μ23) (fun k24 => zif ((μ14.1 2 0 3) = (1 : Int32)) (k24 μ14) (zif ((μ14.1 2 0 3) = (2 : Int32)) (k24 μ14) (k17 (0 : Int32) μ14)))))) (fun k13 => zif ((μ10.1 2 0 3) = 0) (k13 (μ10.1 2 0 4) μ10) (k13 ((μ10.1 2 0 4) + (1 : Int32)) μ10))) = some ((), μ') ∧ tkA μ' z n p ∧ fr2 μ μ' := by
    simp only [zlt_eq]
    have q3 : (zsetI ν 2 0 3 (iI (tG z n p))).1 2 0 3 = iI (tG z n p) := by rw [rI, if_pos ⟨rfl, rfl, rfl⟩]
    have q4 : (zsetI ν 2 0 3 (iI (tG z n p))).1 2 0 4 = iI (tS z n p : Nat) := by rw [rI, if_neg (by omega)]; exact g2'
    have q3' : ∀ v, (zsetI (zsetI ν 2 0 3 (iI (tG z n p))) 2 0 5 v).1 2 0 3 = iI (tG z n p) := fun v => by rw [rI, if_neg (by omega)]; exact q3
    simp only [q3, q4, q3', eS]
    obtain ⟨N', hN'⟩ : ∃ q, N = q + 1 := ⟨N - 1, by omega⟩
    have l0 : ∀ ω, f_Reader_advance_l137 N 0 N ω = some ((), ω) := fun ω => by
      rw [hN']
      simp only [f_Reader_advance_l137]
      rw [zif_t trivial]; rfl
    by_cases c0 : tG z n p = 0
    · have hE : tE z n p = tS z n p := by unfold tE; rw [if_pos c0]
      rw [zif_t (by rw [c0]; rfl), zif_f (by rw [c0]; decide), zif_f (by rw [c0]; decide), l0]
      refine ⟨_, rfl, ⟨?_, ?_, ?_⟩, (hf1.set (by omega) (by omega)).set (by omega) (by omega)⟩
      · rw [rI, if_neg (by omega)]; exact q4
      · exact q3' _
      · rw [rI, if_pos ⟨rfl, rfl, rfl⟩, hE]
    · rw [zif_f (by rw [zi0, iI_eq (by omega) (by omega) (by omega) (by omega)]; exact c0)]
      obtain ⟨s1, s2, s3⟩ := r8 c0
      obtain ⟨ω, hω⟩ : ∃ ω, ω = zsetI (zsetI ν 2 0 3 (iI (tG z n p))) 2 0 5 (iI ((tS z n p + 1 : Nat) : Int)) := ⟨_, rfl⟩
      have hfω : fr2 μ ω := by rw [hω]; exact (hf1.set (by omega) (by omega)).set (by omega) (by omega)
      have w3 : ω.1 2 0 3 = iI (tG z n p) := by rw [hω]; exact q3' _
      have w4 : ω.1 2 0 4 = iI (tS z n p : Nat) := by rw [hω, rI, if_neg (by omega)]; exact q4
      have w5 : ω.1 2 0 5 = iI ((tS z n p + 1 : Nat) : Int) := by rw [hω, rI, if_pos ⟨rfl, rfl, rfl⟩]
      simp only [← hω]
      by_cases c12 : tG z n p = 1 ∨ tG z n p = 2
      · obtain ⟨ν', k1, k2, k3, k4, k5⟩ := adv_run (N := N) (z := z) (s := tG z n p) (by omega) (by omega) (n - (tS z n p + 1)) (tS z n p + 1) N ω (by omega) (by omega) (hT.fr hfω) w5 w3
        have hE : tE z n p = rnn z (tG z n p) (n - (tS z n p + 1)) (tS z n p + 1) := by unfold tE; rw [if_neg c0, if_pos c12]
        refine ⟨ν', ?_, ⟨by rw [k4]; exact w4, k3, by rw [k2, hE]⟩, hfω.tr k5⟩
        rcases c12 with c | c
        · rw [zif_t (by rw [c]; rfl)]; exact k1
        · rw [zif_f (by rw [c]; decide), zif_t (by rw [c]; rfl)]; exact k1
      · have hE : tE z n p = tS z n p + 1 := by unfold tE; rw [if_neg c0, if_neg c12]
        rw [zif_f (by rw [ilit, iI_eq (by omega) (by omega) (by omega) (by omega)]; omega), zif_f (by rw [ilit, iI_eq (by omega) (by omega) (by omega) (by omega)]; omega), l0]
        exact ⟨ω, rfl, ⟨w4, w3, by rw [hE]; exact w5⟩, hfω⟩
  simp only
  refine zlt_gen' (P := fun o => ∃ μ', o = some ((), μ') ∧ tkA μ' z n p ∧ fr2 μ μ') (fun J hJ => ?_)
  simp only [t2, g2', cl_nat (show tS z n p < 2147483648 by omega)]
  by_cases c : tS z n p < n
  · obtain ⟨z1, z2, z3⟩ := t3 (tS z n p) c
    have hG : tG z n p = srt (z (tS z n p)) := by unfold tG; rw [if_pos c]
    rw [zif_f (by rw [iI_le (by omega) (by omega) (by omega) (by omega)]; omega), zchk_t (zin_k 300 rfl (by omega) (by omega) (by omega)), z3, s_sortOf z1 z2, zbnd_eq, ← hG, hJ]
    exact hgo
  · have hG : tG z n p = 0 := by unfold tG; rw [if_neg c]
    rw [zif_t (by rw [iI_le (by omega) (by omega) (by omega) (by omega)]; omega), hJ]
    rw [hG] at hgo
    exact hgo
