def tC (g : Int) : Int := if g = 0 then 0 else if g = 1 then 2 else if g = 2 then 1 else if g = 3 then 59 else 3
/-- the token behind p lies in the reference -/
def tkM (μ : ZMem) (z : Nat → Int) (n p : Nat) : Prop := μ.1 12 0 10 = iI (tS z n p : Nat) ∧ μ.1 12 0 11 = iI (tC (tG z n p)) ∧ μ.1 12 0 9 = iI (tE z n p : Nat) ∧ (tG z n p = 2 → μ.1 12 0 12 = iI (dM z (tS z n p) (tE z n p - tS z n p))) ∧ (tG z n p = 1 → μ.2 12 0 14 = lI (WW z (tS z n p) (tE z n p - tS z n p)))
theorem s_nextToken {N n p : Nat} {z : Nat → Int} {μ : ZMem} (hN : 400 ≤ N) (hT : tpM μ n z) (hp : p ≤ n) (h9 : μ.1 12 0 9 = iI p) : ∃ μ', f_M_nextToken N μ = some ((), μ') ∧ tkM μ' z n p ∧ frN μ μ' := by
  have hn := hT.1
  obtain ⟨r1, r2, r3, r4, r5, r6, r7, r8, r9⟩ := tk_rng (z := z) hp
  unfold f_M_nextToken
  generalize hkx : (fun (μ9 : ZMem) => zlt (zsetI μ9 12 0 10 (μ9.1 12 0 9)) (fun (μ10 : ZMem) => zbnd (f_M_byteAt N μ10 (μ10.1 12 0 9)) (fun (r12 : Int32) (μ11 : ZMem) => zlt r12 (fun (x13 : Int32) => zlt (fun (y14 : Int32) (μ15 : ZMem) => zlt (zsetI μ15 12 0 11 y14) (fun (μ17 : ZMem) => zbnd (f_M_isFigure N μ17 x13) (fun (r19 : Int32) (μ18 : ZMem) => zif (r19 = 0) (zbnd (f_M_isLetterByte N μ18 x13) (fun (r21 : Int32) (μ20 : ZMem) => zif (r21 = 0) (zif (x13 < 0) (zret () μ20) (zlt (zsetI μ20 12 0 9 ((μ20.1 12 0 9) + (1 : Int32))) (fun (μ22 : ZMem) => zret () μ22))) (zlt (zsetI μ20 12 0 11 (2 : Int32)) (fun (μ23 : ZMem) => zlt (zsetJ μ23 12 0 14 (0 : Int64)) (fun (μ24 : ZMem) => f_M_nextToken_l180 N N μ24))))) (zlt (zsetI μ18 12 0 11 (1 : Int32)) (fun (μ37 : ZMem) => zlt (zsetI μ37 12 0 12 (0 : Int32)) (fun (μ38 : ZMem) => f_M_nextToken_l97 N N μ38)))))) (fun k16 => zif (0 ≤ x13) (zif (x13 = (59 : Int32)) (k16 (59 : Int32) μ11) (k16 (3 : Int32) μ11)) (k16 (0 : Int32) μ11)))))) = kx
  obtain ⟨ν, g1, g2, g3⟩ := nx_skp (N := N) (kx := kx) (n - p) p N μ (by omega) (by omega) hT h9
  rw [g1, ← hkx]
  have g2' : ν.1 12 0 9 = iI (tS z n p : Nat) := g2
  simp only [zlt_eq]
  rw [g2']
  obtain ⟨ω, hω⟩ : ∃ ω, ω = zsetI ν 12 0 10 (iI (tS z n p : Nat)) := ⟨_, rfl⟩
  have fω : frN μ ω := by rw [hω]; exact g3.set (by omega) (by omega)
  have w9 : ω.1 12 0 9 = iI (tS z n p : Nat) := by rw [hω, rI, if_neg (by omega)]; exact g2'
  have w10 : ω.1 12 0 10 = iI (tS z n p : Nat) := by rw [hω, rI, if_pos ⟨rfl, rfl, rfl⟩]
  rw [← hω, w9]
  have hTω := hT.fr fω
  have hbr := bz_rng (p := tS z n p) hTω
  have hbz : (tS z n p < n ∧ bz z n (tS z n p) = z (tS z n p) ∧ tG z n p = srt (z (tS z n p)) ∧ 0 ≤ z (tS z n p)) ∨ (tS z n p = n ∧ bz z n (tS z n p) = -1 ∧ tG z n p = 0) := by
    unfold bz tG
    by_cases q : tS z n p < n
    · exact Or.inl ⟨q, if_pos q, if_pos q, (hTω.2.2 _ q).1⟩
    · exact Or.inr ⟨by omega, if_neg q, if_neg q⟩
  rw [s_byteAt hTω r2, zbnd_eq]
  have e : iI (tS z n p : Int) + (1 : Int32) = iI ((tS z n p + 1 : Nat) : Int) := by rw [ilit, iI_add]; congr 1
  have hE : (tG z n p = 0 ∧ tE z n p = tS z n p) ∨ (tG z n p ≠ 0 ∧ (tG z n p = 1 ∨ tG z n p = 2) ∧ tE z n p = rnn z (tG z n p) (n - (tS z n p + 1)) (tS z n p + 1)) ∨ (tG z n p ≠ 0 ∧ ¬ (tG z n p = 1 ∨ tG z n p = 2) ∧ tE z n p = tS z n p + 1) := by
    unfold tE
    by_cases q : tG z n p = 0
    · exact Or.inl ⟨q, if_pos q⟩
    · rw [if_neg q]
      by_cases q2 : tG z n p = 1 ∨ tG z n p = 2
      · exact Or.inr (Or.inl ⟨q, q2, if_pos q2⟩)
      · exact Or.inr (Or.inr ⟨q, q2, if_neg q2⟩)
  have hrun : tG z n p = 1 ∨ tG z n p = 2 → tE z n p = rnn z (tG z n p) (n - tS z n p) (tS z n p) := fun q => by
    have e1 : tE z n p = rnn z (tG z n p) (n - (tS z n p + 1)) (tS z n p + 1) := by
      rcases hE with h | h | h
      · omega
      · exact h.2.2
      · exact absurd q h.2.1
    have hs : srt (z (tS z n p)) = tG z n p := by rcases hbz with h | h <;> omega
    rw [e1]
    have hlt : tS z n p < n := by rcases hbz with h | h <;> omega
    rw [show n - tS z n p = (n - (tS z n p + 1)) + 1 by omega]
    show _ = (if srt (z (tS z n p)) = tG z n p then rnn z (tG z n p) (n - (tS z n p + 1)) (tS z n p + 1) else tS z n p)
    rw [if_pos hs]
  -- what the token's number is set to first
  have key : ∀ c : Int32, (¬ (tG z n p = 1 ∨ tG z n p = 2) → c = iI (tC (tG z n p))) → ∃ μ', zbnd (f_M_isFigure N (zsetI ω 12 0 11 c) (iI (bz z n (tS z n p)))) (fun (r19 : Int32) (μ18 : ZMem) => zif (r19 = 0) (zbnd (f_M_isLetterByte N μ18 (iI (bz z n (tS z n p)))) (fun (r21 : Int32) (μ20 : ZMem) => zif (r21 = 0) (zif (iI (bz z n (tS z n p)) < 0) (zret () μ20) (zret () (zsetI μ20 12 0 9 ((μ20.1 12 0 9) + (1 : Int32))))) (f_M_nextToken_l180 N N (zsetJ (zsetI μ20 12 0 11 (2 : Int32)) 12 0 14 (0 : Int64))))) (f_M_nextToken_l97 N N (zsetI (zsetI μ18 12 0 11 (1 : Int32)) 12 0 12 (0 : Int32)))) = some ((), μ') ∧ tkM μ' z n p ∧ frN μ μ' := by
    intro c hc
    have fc : frN μ (zsetI ω 12 0 11 c) := fω.set (by omega) (by omega)
    have c9 : (zsetI ω 12 0 11 c).1 12 0 9 = iI (tS z n p : Nat) := by rw [rI, if_neg (by omega)]; exact w9
    have c10 : (zsetI ω 12 0 11 c).1 12 0 10 = iI (tS z n p : Nat) := by rw [rI, if_neg (by omega)]; exact w10
    have c11 : (zsetI ω 12 0 11 c).1 12 0 11 = c := by rw [rI, if_pos ⟨rfl, rfl, rfl⟩]
    rw [s_isFigure hbr.1 hbr.2, zbnd_eq]
    have hG5 : srt (-1) = 5 := by decide
    have hgb : (srt (bz z n (tS z n p)) = 2 ↔ tG z n p = 2) ∧ (srt (bz z n (tS z n p)) = 1 ↔ tG z n p = 1) ∧ (bz z n (tS z n p) < 0 ↔ tG z n p = 0) := by
      rcases hbz with ⟨q1, q2, q3, q4⟩ | ⟨q1, q2, q3⟩
      · rw [q2, q3]
        have := srt_rng (z (tS z n p))
        exact ⟨Iff.rfl, Iff.rfl, by omega⟩
      · rw [q2, q3, hG5]; exact ⟨by omega, by omega, by omega⟩
    by_cases c2 : tG z n p = 2
    · rw [decide_eq_true (hgb.1.2 c2), zif_f (show ¬ bI true = 0 by decide)]
      obtain ⟨σ, hσ⟩ : ∃ σ, σ = zsetI (zsetI (zsetI ω 12 0 11 c) 12 0 11 (1 : Int32)) 12 0 12 (0 : Int32) := ⟨_, rfl⟩
      have fσ : frN μ σ := by rw [hσ]; exact (fc.set (by omega) (by omega)).set (by omega) (by omega)
      have s9 : σ.1 12 0 9 = iI ((tS z n p + 0 : Nat) : Int) := by rw [hσ]; simp only [rI]; exact c9
      rw [← hσ]
      obtain ⟨ν', k1, k2, k3, k4, k5, k6⟩ := nx_dig (N := N) (s := tS z n p) (n - tS z n p) 0 N σ (by omega) (by omega) (hT.fr fσ) s9 (by rw [hσ, rI, if_pos ⟨rfl, rfl, rfl⟩]; rfl) (fun j hj => by omega)
      have hr := hrun (Or.inr c2)
      rw [c2] at hr
      rw [Nat.add_zero, ← hr] at k2 k3
      refine ⟨ν', k1, ⟨?_, ?_, k2, fun _ => k3, fun q => by omega⟩, fσ.tr k6⟩
      · rw [k4, hσ]; simp only [rI]; exact c10
      · rw [k5, hσ, c2, rI, if_neg (by omega), rI, if_pos ⟨rfl, rfl, rfl⟩]; rfl
    · rw [decide_eq_false (fun q => c2 (hgb.1.1 q)), zif_t (show bI false = 0 from rfl), s_isLetterByte hbr.1 hbr.2, zbnd_eq]
      by_cases c1 : tG z n p = 1
      · rw [decide_eq_true (hgb.2.1.2 c1), zif_f (show ¬ bI true = 0 by decide)]
        obtain ⟨σ, hσ⟩ : ∃ σ, σ = zsetJ (zsetI (zsetI ω 12 0 11 c) 12 0 11 (2 : Int32)) 12 0 14 (0 : Int64) := ⟨_, rfl⟩
        have fσ : frN μ σ := by rw [hσ]; exact (fc.set (by omega) (by omega)).setJ
        have s9 : σ.1 12 0 9 = iI ((tS z n p + 0 : Nat) : Int) := by rw [hσ, rJI]; simp only [rI]; exact c9
        rw [← hσ]
        obtain ⟨ν', k1, k2, k3, k4, k5, k6⟩ := nx_word (N := N) (s := tS z n p) (n - tS z n p) 0 N σ (by omega) (by omega) (hT.fr fσ) s9 (by rw [hσ, rJ, if_pos ⟨rfl, rfl, rfl⟩]; rfl) (fun j hj => by omega)
        have hr := hrun (Or.inl c1)
        rw [c1] at hr
        rw [Nat.add_zero, ← hr] at k2 k3
        refine ⟨ν', k1, ⟨?_, ?_, k2, fun q => absurd q c2, fun _ => k3⟩, fσ.tr k6⟩
        · rw [k4, hσ, rJI]; simp only [rI]; exact c10
        · rw [k5, hσ, rJI, c1, rI, if_pos ⟨rfl, rfl, rfl⟩]; rfl
      · rw [decide_eq_false (fun q => c1 (hgb.2.1.1 q)), zif_t (show bI false = 0 from rfl)]
        have hcc := hc (by omega)
        by_cases c0 : tG z n p = 0
        · rw [zif_t (by rw [zi0, iI_lt (by omega) (by omega) (by omega) (by omega)]; exact hgb.2.2.2 c0)]
          have hE0 : tE z n p = tS z n p := by unfold tE; rw [if_pos c0]
          exact ⟨_, rfl, ⟨c10, by rw [c11]; exact hcc, by rw [hE0]; exact c9, fun q => absurd q c2, fun q => absurd q c1⟩, fc⟩
        · rw [zif_f (by rw [zi0, iI_lt (by omega) (by omega) (by omega) (by omega)]; exact fun q => c0 (hgb.2.2.1 q)), c9, e]
          have hE0 : tE z n p = tS z n p + 1 := by unfold tE; rw [if_neg c0, if_neg (by omega)]
          refine ⟨_, rfl, ⟨?_, ?_, ?_, fun q => absurd q c2, fun q => absurd q c1⟩, fc.set (by omega) (by omega)⟩
          · rw [rI, if_neg (by omega)]; exact c10
          · rw [rI, if_neg (by omega), c11]; exact hcc
          · rw [rI, if_pos ⟨rfl, rfl, rfl⟩, hE0]
  have h59 : ∀ b : Int, srt b = 3 ↔ b = 59 := fun b => by unfold srt; repeat' split <;> omega
  rcases hbz with ⟨q1, q2, q3, q4⟩ | ⟨q1, q2, q3⟩
  · rw [zif_t (by rw [zi0, iI_le (by omega) (by omega) (by omega) (by omega)]; omega)]
    by_cases c59 : z (tS z n p) = 59
    · rw [zif_t (by rw [q2, c59]; rfl)]
      exact key 59 (fun _ => by rw [q3, (h59 _).2 c59]; rfl)
    · rw [zif_f (by rw [q2, ilit, iI_eq (by omega) (by omega) (by omega) (by omega)]; exact c59)]
      refine key 3 (fun q => ?_)
      have h3 : tG z n p ≠ 3 := fun w => c59 ((h59 _).1 (by omega))
      have h0 : tG z n p ≠ 0 := by have := srt_rng (z (tS z n p)); omega
      unfold tC
      rw [if_neg h0, if_neg (by omega), if_neg (by omega), if_neg h3]; rfl
  · rw [zif_f (by rw [zi0, iI_le (by omega) (by omega) (by omega) (by omega)]; omega)]
    exact key 0 (fun _ => by rw [q3]; rfl)
