/-! table: the reference goes on to the next token -/
def frN (ν ν' : ZMem) : Prop := (∀ k i x, ¬ (k = 12 ∧ i = 0 ∧ 9 ≤ x ∧ x ≤ 12) → ν'.1 k i x = ν.1 k i x) ∧ ∀ k i x, ¬ (k = 12 ∧ i = 0 ∧ x = 14) → ν'.2 k i x = ν.2 k i x
theorem frN.rf {ν : ZMem} : frN ν ν := ⟨fun _ _ _ _ => rfl, fun _ _ _ _ => rfl⟩
theorem frN.tr {ν ν' ν'' : ZMem} (h : frN ν ν') (h' : frN ν' ν'') : frN ν ν'' := ⟨fun k i x q => (h'.1 k i x q).trans (h.1 k i x q), fun k i x q => (h'.2 k i x q).trans (h.2 k i x q)⟩
theorem frN.set {ν ν' : ZMem} {x : Nat} {v : Int32} (h : frN ν ν') (h3 : 9 ≤ x) (h6 : x ≤ 12) : frN ν (zsetI ν' 12 0 x v) := ⟨fun k i y q => by rw [rI, if_neg (fun e => q ⟨e.1, e.2.1, by omega, by omega⟩)]; exact h.1 k i y q, h.2⟩
theorem frN.setJ {ν ν' : ZMem} {v : Int64} (h : frN ν ν') : frN ν (zsetJ ν' 12 0 14 v) := ⟨h.1, fun k i y q => by rw [rJ, if_neg q]; exact h.2 k i y q⟩
def tpM (μ : ZMem) (n : Nat) (z : Nat → Int) : Prop := n ≤ 300 ∧ μ.1 12 0 6 = iI n ∧ ∀ j, j < n → 0 ≤ z j ∧ z j < 256 ∧ μ.1 43 0 j = iI (z j)
theorem tpM.fr {ν ν' : ZMem} {n : Nat} {z : Nat → Int} (h : tpM ν n z) (f : frN ν ν') : tpM ν' n z := by
  obtain ⟨h1, h2, h3⟩ := h
  refine ⟨h1, by rw [f.1 12 0 6 (by omega)]; exact h2, fun j hj => ?_⟩
  rw [f.1 43 0 j (by omega)]; exact h3 j hj
def bz (z : Nat → Int) (n p : Nat) : Int := if p < n then z p else -1
theorem bz_rng {μ : ZMem} {z : Nat → Int} {n p : Nat} (hT : tpM μ n z) : -1 ≤ bz z n p ∧ bz z n p < 256 := by
  unfold bz
  split
  · rename_i c; have := hT.2.2 p c; omega
  · omega
theorem s_byteAt {N n p : Nat} {z : Nat → Int} {μ : ZMem} (hT : tpM μ n z) (hp : p ≤ n) : f_M_byteAt N μ (iI p) = some (iI (bz z n p), μ) := by
  obtain ⟨t1, t2, t3⟩ := hT
  unfold f_M_byteAt bz
  by_cases c : p < n
  · rw [t2, zif_f (by rw [iI_le (by omega) (by omega) (by omega) (by omega)]; omega), zchk_t (zin_k 300 rfl (by omega) (by omega) (by omega)), cl_nat (by omega), (t3 p c).2.2, if_pos c]; rfl
  · rw [t2, zif_t (by rw [iI_le (by omega) (by omega) (by omega) (by omega)]; omega), if_neg c, m1]; rfl
theorem s_isFigure {N : Nat} {μ : ZMem} {b : Int} (h0 : -1 ≤ b) (h1 : b < 256) : f_M_isFigure N μ (iI b) = some (bI (decide (srt b = 2)), μ) := by
  unfold f_M_isFigure
  have hd : srt b = 2 ↔ 48 ≤ b ∧ b ≤ 57 := by unfold srt; repeat' split <;> omega
  by_cases c1 : b < 48
  · rw [zif_t (by rw [ilit, iI_lt (by omega) (by omega) (by omega) (by omega)]; exact c1), decide_eq_false (by omega)]; rfl
  · rw [zif_f (by rw [ilit, iI_lt (by omega) (by omega) (by omega) (by omega)]; exact c1)]
    by_cases c2 : 57 < b
    · rw [zif_t (by rw [ilit, iI_lt (by omega) (by omega) (by omega) (by omega)]; exact c2), decide_eq_false (by omega)]; rfl
    · rw [zif_f (by rw [ilit, iI_lt (by omega) (by omega) (by omega) (by omega)]; exact c2), decide_eq_true (by omega)]; rfl
theorem s_isLetterByte {N : Nat} {μ : ZMem} {b : Int} (h0 : -1 ≤ b) (h1 : b < 256) : f_M_isLetterByte N μ (iI b) = some (bI (decide (srt b = 1)), μ) := by
  unfold f_M_isLetterByte
  simp only [zlt_eq]
  have hd : srt b = 1 ↔ (97 ≤ b ∧ b ≤ 122) ∨ (65 ≤ b ∧ b ≤ 90) := by unfold srt; repeat' split <;> omega
  have fin : ¬ (97 ≤ b ∧ b ≤ 122) → zif (iI b < (65 : Int32)) (zret (0 : Int32) μ) (zif ((90 : Int32) < iI b) (zret (0 : Int32) μ) (zret (1 : Int32) μ)) = some (bI (decide (srt b = 1)), μ) := fun hn => by
    by_cases c1 : b < 65
    · rw [zif_t (by rw [ilit, iI_lt (by omega) (by omega) (by omega) (by omega)]; exact c1), decide_eq_false (by omega)]; rfl
    · rw [zif_f (by rw [ilit, iI_lt (by omega) (by omega) (by omega) (by omega)]; exact c1)]
      by_cases c2 : 90 < b
      · rw [zif_t (by rw [ilit, iI_lt (by omega) (by omega) (by omega) (by omega)]; exact c2), decide_eq_false (by omega)]; rfl
      · rw [zif_f (by rw [ilit, iI_lt (by omega) (by omega) (by omega) (by omega)]; exact c2), decide_eq_true (by omega)]; rfl
  by_cases c1 : b < 97
  · rw [zif_t (by rw [ilit, iI_lt (by omega) (by omega) (by omega) (by omega)]; exact c1)]; exact fin (by omega)
  · rw [zif_f (by rw [ilit, iI_lt (by omega) (by omega) (by omega) (by omega)]; exact c1)]
    by_cases c2 : b ≤ 122
    · rw [zif_t (by rw [ilit, iI_le (by omega) (by omega) (by omega) (by omega)]; exact c2), decide_eq_true (by omega)]; rfl
    · rw [zif_f (by rw [ilit, iI_le (by omega) (by omega) (by omega) (by omega)]; exact c2)]; exact fin (by omega)
theorem nx_skp {N n : Nat} {z : Nat → Int} {kx : ZMem → Option (Unit × ZMem)} : ∀ (f p fuel : Nat) (ν : ZMem), p + f = n → f < fuel → tpM ν n z → ν.1 12 0 9 = iI p → ∃ ν', f_M_nextToken_l0 N kx fuel ν = kx ν' ∧ ν'.1 12 0 9 = iI (skp z f p : Nat) ∧ frN ν ν'
  | 0, p, fuel, ν, e1, e2, hT, h9 => by
    obtain ⟨q, rfl⟩ : ∃ q, fuel = q + 1 := ⟨fuel - 1, by omega⟩
    refine ⟨ν, ?_, h9, frN.rf⟩
    have hb : bz z n p = -1 := by unfold bz; rw [if_neg (by omega)]
    simp only [f_M_nextToken_l0, h9]
    rw [s_byteAt hT (by omega), zbnd_eq, hb]
    simp only [zlt_eq]
    rw [zif_f (by decide), h9, s_byteAt hT (by omega), zbnd_eq, hb, zif_f (by decide)]
  | f + 1, p, fuel, ν, e1, e2, hT, h9 => by
    obtain ⟨q, rfl⟩ : ∃ q, fuel = q + 1 := ⟨fuel - 1, by omega⟩
    obtain ⟨z1, z2, z3⟩ := hT.2.2 p (by omega)
    have hn := hT.1
    have hb : bz z n p = z p := by unfold bz; rw [if_pos (by omega)]
    have e : iI (p : Int) + (1 : Int32) = iI ((p + 1 : Nat) : Int) := by rw [ilit, iI_add]; congr 1
    have hd : srt (z p) = 4 ↔ z p = 32 ∨ z p = 10 := by unfold srt; repeat' split <;> omega
    have hf : frN ν (zsetI ν 12 0 9 (iI ((p + 1 : Nat) : Int))) := frN.rf.set (by omega) (by omega)
    have ih := nx_skp (N := N) (kx := kx) f (p + 1) q (zsetI ν 12 0 9 (iI ((p + 1 : Nat) : Int))) (by omega) (by omega) (hT.fr hf) (by rw [rI, if_pos ⟨rfl, rfl, rfl⟩])
    have ih' : srt (z p) = 4 → ∃ ν', f_M_nextToken_l0 N kx q (zsetI ν 12 0 9 (iI ((p + 1 : Nat) : Int))) = kx ν' ∧ ν'.1 12 0 9 = iI (skp z (f + 1) p : Nat) ∧ frN ν ν' := fun c => by
      obtain ⟨ν', g1, g2, g3⟩ := ih
      exact ⟨ν', g1, by unfold skp; rw [if_pos c]; exact g2, hf.tr g3⟩
    simp only [f_M_nextToken_l0, h9]
    rw [s_byteAt hT (by omega), zbnd_eq, hb]
    simp only [zlt_eq, h9, e]
    by_cases c1 : z p = 32
    · rw [zif_t (by rw [c1]; rfl)]
      exact ih' (hd.2 (Or.inl c1))
    · rw [zif_f (by rw [ilit, iI_eq (by omega) (by omega) (by omega) (by omega)]; omega), s_byteAt hT (by omega), zbnd_eq, hb]
      by_cases c2 : z p = 10
      · rw [zif_t (by rw [c2]; rfl), h9, e]
        exact ih' (hd.2 (Or.inr c2))
      · rw [zif_f (by rw [ilit, iI_eq (by omega) (by omega) (by omega) (by omega)]; omega)]
        refine ⟨ν, rfl, ?_, frN.rf⟩
        unfold skp
        rw [if_neg (by omega)]; exact h9
def dM (z : Nat → Int) (s : Nat) : Nat → Int
  | 0 => 0
  | k + 1 => if dM z s k ≤ 99999 then 10 * dM z s k + z (s + k) - 48 else dM z s k
def WW (z : Nat → Int) (s : Nat) : Nat → Int
  | 0 => 0
  | k + 1 => if WW z s k < 281474976710656 then WW z s k * 256 + z (s + k) else 1152921504606846976
theorem dM_rng {z : Nat → Int} {s : Nat} : ∀ k, (∀ j, j < k → 48 ≤ z (s + j) ∧ z (s + j) ≤ 57) → 0 ≤ dM z s k ∧ dM z s k ≤ 999999
  | 0, _ => by unfold dM; omega
  | k + 1, h => by
    have ih := dM_rng k (fun j hj => h j (by omega))
    have := h k (by omega)
    unfold dM
    split <;> omega
theorem WW_rng {z : Nat → Int} {s : Nat} : ∀ k, (∀ j, j < k → 0 ≤ z (s + j) ∧ z (s + j) < 256) → 0 ≤ WW z s k ∧ WW z s k ≤ 1152921504606846976
  | 0, _ => by unfold WW; omega
  | k + 1, h => by
    have ih := WW_rng k (fun j hj => h j (by omega))
    have := h k (by omega)
    unfold WW
    split <;> omega
theorem srt1 {b : Int} (h : srt b = 1) : 65 ≤ b ∧ b ≤ 122 := by unfold srt at h; repeat' split at h <;> omega
theorem srt2 {b : Int} : srt b = 2 ↔ 48 ≤ b ∧ b ≤ 57 := by unfold srt; repeat' split <;> omega
theorem shr48 {w : Int} (h0 : 0 ≤ w) (h1 : w ≤ 1152921504606846976) : (lg_cmp (zshrJ (lI w) 48) 0 = 0) = (w < 281474976710656) := by
  have e : (zshrJ (lI w) 48) = lI (w / 281474976710656) := by
    have e1 : (zshrJ (lI w) 48).toInt = (lI w).toInt >>> 48 := by
      show (BitVec.sshiftRight' (lI w).toBitVec _).toInt = _
      rw [BitVec.toInt_sshiftRight']
      rfl
    rw [← Int64.toInt_inj, e1, lI_toInt (by omega) (by omega), lI_toInt (by omega) (by omega), Int.shiftRight_eq_div_pow]
    rfl
  rw [e, llit, lcmp_eq (by omega) (by omega) (by omega) (by omega)]
  exact propext ⟨fun h => by omega, fun h => by omega⟩
theorem lnat {a : Nat} (h : a < 9223372036854775808) : (lI (a : Int)).toBitVec.toNat = a := by
  show (BitVec.ofInt 64 (a : Int)).toNat = a
  rw [BitVec.toNat_ofInt]
  omega
theorem shl8 {w b : Nat} (h1 : w < 281474976710656) (hb : b < 256) : zshlJ (lI (w : Int)) 8 ||| (iI (b : Int)).toInt64 = lI ((w * 256 + b : Nat) : Int) := by
  rw [iI_long (by omega) (by omega), ← Int64.toBitVec_inj, Int64.toBitVec_or]
  apply BitVec.eq_of_toNat_eq
  rw [BitVec.toNat_or, lnat (by omega), lnat (by omega)]
  have e : (zshlJ (lI (w : Int)) 8).toBitVec = (lI (w : Int)).toBitVec <<< 8 := rfl
  rw [e, BitVec.toNat_shiftLeft, lnat (by omega), Nat.mod_eq_of_lt (by rw [Nat.shiftLeft_eq]; omega), ← Nat.shiftLeft_add_eq_or_of_lt (show b < 2 ^ 8 by omega), Nat.shiftLeft_eq]
theorem nx_dig {N n s : Nat} {z : Nat → Int} : ∀ (f k fuel : Nat) (ν : ZMem), s + k + f = n → f < fuel → tpM ν n z → ν.1 12 0 9 = iI ((s + k : Nat) : Int) → ν.1 12 0 12 = iI (dM z s k) → (∀ j, j < k → 48 ≤ z (s + j) ∧ z (s + j) ≤ 57) → ∃ ν' : ZMem, f_M_nextToken_l97 N fuel ν = some ((), ν') ∧ ν'.1 12 0 9 = iI (rnn z 2 f (s + k) : Nat) ∧ ν'.1 12 0 12 = iI (dM z s (rnn z 2 f (s + k) - s)) ∧ ν'.1 12 0 10 = ν.1 12 0 10 ∧ ν'.1 12 0 11 = ν.1 12 0 11 ∧ frN ν ν'
  | 0, k, fuel, ν, e1, e2, hT, h9, h12, hd => by
    obtain ⟨q, rfl⟩ : ∃ q, fuel = q + 1 := ⟨fuel - 1, by omega⟩
    have hb : bz z n (s + k) = -1 := by unfold bz; rw [if_neg (by omega)]
    refine ⟨ν, ?_, h9, ?_, rfl, rfl, frN.rf⟩
    · simp only [f_M_nextToken_l97, h9]
      rw [s_byteAt hT (by omega), zbnd_eq, hb, s_isFigure (by omega) (by omega), zbnd_eq, zif_t (by decide)]; rfl
    · unfold rnn; rw [show s + k - s = k by omega]; exact h12
  | f + 1, k, fuel, ν, e1, e2, hT, h9, h12, hd => by
    obtain ⟨q, rfl⟩ : ∃ q, fuel = q + 1 := ⟨fuel - 1, by omega⟩
    obtain ⟨z1, z2, z3⟩ := hT.2.2 (s + k) (by omega)
    have hn := hT.1
    have hb : bz z n (s + k) = z (s + k) := by unfold bz; rw [if_pos (by omega)]
    have e : iI ((s + k : Nat) : Int) + (1 : Int32) = iI ((s + (k + 1) : Nat) : Int) := by rw [ilit, iI_add]; congr 1
    have hr := dM_rng (z := z) (s := s) k hd
    simp only [f_M_nextToken_l97, h9]
    rw [s_byteAt hT (by omega), zbnd_eq, hb, s_isFigure (by omega) (by omega), zbnd_eq]
    by_cases c : srt (z (s + k)) = 2
    · have c' := srt2.1 c
      rw [decide_eq_true c, zif_f (show ¬ bI true = 0 by decide)]
      have hR : rnn z 2 (f + 1) (s + k) = rnn z 2 f (s + (k + 1)) := by
        show (if srt (z (s + k)) = 2 then rnn z 2 f (s + k + 1) else s + k) = _
        rw [if_pos c]; rfl
      rw [hR]
      have fin : ∀ v : Int, v = dM z s (k + 1) → ∃ ν' : ZMem, zlt (zsetI ν 12 0 12 (iI v)) (fun (μ47 : ZMem) => zlt (zsetI μ47 12 0 9 ((μ47.1 12 0 9) + (1 : Int32))) (fun (μ48 : ZMem) => f_M_nextToken_l97 N q μ48)) = some ((), ν') ∧ ν'.1 12 0 9 = iI (rnn z 2 f (s + (k + 1)) : Nat) ∧ ν'.1 12 0 12 = iI (dM z s (rnn z 2 f (s + (k + 1)) - s)) ∧ ν'.1 12 0 10 = ν.1 12 0 10 ∧ ν'.1 12 0 11 = ν.1 12 0 11 ∧ frN ν ν' := fun v hv => by
        have r9 : (zsetI ν 12 0 12 (iI v)).1 12 0 9 = iI ((s + k : Nat) : Int) := by rw [rI, if_neg (by omega)]; exact h9
        simp only [zlt_eq, r9, e]
        have hf : frN ν (zsetI (zsetI ν 12 0 12 (iI v)) 12 0 9 (iI ((s + (k + 1) : Nat) : Int))) := (frN.rf.set (by omega) (by omega)).set (by omega) (by omega)
        obtain ⟨ν', g1, g2, g3, g4, g5, g6⟩ := nx_dig (N := N) (s := s) f (k + 1) q (zsetI (zsetI ν 12 0 12 (iI v)) 12 0 9 (iI ((s + (k + 1) : Nat) : Int))) (by omega) (by omega) (hT.fr hf) (by rw [rI, if_pos ⟨rfl, rfl, rfl⟩]) (by rw [rI, if_neg (by omega), rI, if_pos ⟨rfl, rfl, rfl⟩, hv]) (fun j hj => by
          by_cases ej : j = k
          · rw [ej]; exact c'
          · exact hd j (by omega))
        exact ⟨ν', g1, g2, g3, by rw [g4]; simp [rI], by rw [g5]; simp [rI], hf.tr g6⟩
      refine zlt_gen' (P := fun o => ∃ ν' : ZMem, o = some ((), ν') ∧ ν'.1 12 0 9 = iI (rnn z 2 f (s + (k + 1)) : Nat) ∧ ν'.1 12 0 12 = iI (dM z s (rnn z 2 f (s + (k + 1)) - s)) ∧ ν'.1 12 0 10 = ν.1 12 0 10 ∧ ν'.1 12 0 11 = ν.1 12 0 11 ∧ frN ν ν') (fun J hJ => ?_)
      rw [h12]
      by_cases cv : dM z s k ≤ 99999
      · rw [zif_t (by rw [ilit, iI_le (by omega) (by omega) (by omega) (by omega)]; exact cv), h9, s_byteAt hT (by omega), zbnd_eq, hb, ilit, iI_mul, iI_add, ilit, iI_sub, hJ]
        exact fin _ (by show _ = (if dM z s k ≤ 99999 then 10 * dM z s k + z (s + k) - 48 else dM z s k); rw [if_pos cv])
      · rw [zif_f (by rw [ilit, iI_le (by omega) (by omega) (by omega) (by omega)]; exact cv), hJ]
        exact fin _ (by show _ = (if dM z s k ≤ 99999 then 10 * dM z s k + z (s + k) - 48 else dM z s k); rw [if_neg cv])
    · rw [decide_eq_false c, zif_t (show bI false = 0 from rfl)]
      have hR : rnn z 2 (f + 1) (s + k) = s + k := by
        show (if srt (z (s + k)) = 2 then rnn z 2 f (s + k + 1) else s + k) = _
        rw [if_neg c]
      rw [hR]
      exact ⟨ν, rfl, h9, by rw [show s + k - s = k by omega]; exact h12, rfl, rfl, frN.rf⟩
theorem nx_word {N n s : Nat} {z : Nat → Int} : ∀ (f k fuel : Nat) (ν : ZMem), s + k + f = n → f < fuel → tpM ν n z → ν.1 12 0 9 = iI ((s + k : Nat) : Int) → ν.2 12 0 14 = lI (WW z s k) → (∀ j, j < k → 0 ≤ z (s + j) ∧ z (s + j) < 256) → ∃ ν' : ZMem, f_M_nextToken_l180 N fuel ν = some ((), ν') ∧ ν'.1 12 0 9 = iI (rnn z 1 f (s + k) : Nat) ∧ ν'.2 12 0 14 = lI (WW z s (rnn z 1 f (s + k) - s)) ∧ ν'.1 12 0 10 = ν.1 12 0 10 ∧ ν'.1 12 0 11 = ν.1 12 0 11 ∧ frN ν ν'
  | 0, k, fuel, ν, e1, e2, hT, h9, h12, hd => by
    obtain ⟨q, rfl⟩ : ∃ q, fuel = q + 1 := ⟨fuel - 1, by omega⟩
    have hb : bz z n (s + k) = -1 := by unfold bz; rw [if_neg (by omega)]
    refine ⟨ν, ?_, h9, ?_, rfl, rfl, frN.rf⟩
    · simp only [f_M_nextToken_l180, h9]
      rw [s_byteAt hT (by omega), zbnd_eq, hb, s_isLetterByte (by omega) (by omega), zbnd_eq, zif_t (by decide)]; rfl
    · unfold rnn; rw [show s + k - s = k by omega]; exact h12
  | f + 1, k, fuel, ν, e1, e2, hT, h9, h12, hd => by
    obtain ⟨q, rfl⟩ : ∃ q, fuel = q + 1 := ⟨fuel - 1, by omega⟩
    obtain ⟨z1, z2, z3⟩ := hT.2.2 (s + k) (by omega)
    have hn := hT.1
    have hb : bz z n (s + k) = z (s + k) := by unfold bz; rw [if_pos (by omega)]
    have e : iI ((s + k : Nat) : Int) + (1 : Int32) = iI ((s + (k + 1) : Nat) : Int) := by rw [ilit, iI_add]; congr 1
    have hr := WW_rng (z := z) (s := s) k hd
    simp only [f_M_nextToken_l180, h9]
    rw [s_byteAt hT (by omega), zbnd_eq, hb, s_isLetterByte (by omega) (by omega), zbnd_eq]
    by_cases c : srt (z (s + k)) = 1
    · rw [decide_eq_true c, zif_f (show ¬ bI true = 0 by decide)]
      have hR : rnn z 1 (f + 1) (s + k) = rnn z 1 f (s + (k + 1)) := by
        show (if srt (z (s + k)) = 1 then rnn z 1 f (s + k + 1) else s + k) = _
        rw [if_pos c]; rfl
      rw [hR]
      have fin : ∀ v : Int, v = WW z s (k + 1) → ∃ ν' : ZMem, zlt (zsetJ ν 12 0 14 (lI v)) (fun (μ33 : ZMem) => zlt (zsetI μ33 12 0 9 ((μ33.1 12 0 9) + (1 : Int32))) (fun (μ34 : ZMem) => f_M_nextToken_l180 N q μ34)) = some ((), ν') ∧ ν'.1 12 0 9 = iI (rnn z 1 f (s + (k + 1)) : Nat) ∧ ν'.2 12 0 14 = lI (WW z s (rnn z 1 f (s + (k + 1)) - s)) ∧ ν'.1 12 0 10 = ν.1 12 0 10 ∧ ν'.1 12 0 11 = ν.1 12 0 11 ∧ frN ν ν' := fun v hv => by
        have r9 : (zsetJ ν 12 0 14 (lI v)).1 12 0 9 = iI ((s + k : Nat) : Int) := h9
        simp only [zlt_eq, r9, e]
        have hf : frN ν (zsetI (zsetJ ν 12 0 14 (lI v)) 12 0 9 (iI ((s + (k + 1) : Nat) : Int))) := (frN.rf.setJ).set (by omega) (by omega)
        obtain ⟨ν', g1, g2, g3, g4, g5, g6⟩ := nx_word (N := N) (s := s) f (k + 1) q (zsetI (zsetJ ν 12 0 14 (lI v)) 12 0 9 (iI ((s + (k + 1) : Nat) : Int))) (by omega) (by omega) (hT.fr hf) (by rw [rI, if_pos ⟨rfl, rfl, rfl⟩]) (by rw [rIJ, rJ, if_pos ⟨rfl, rfl, rfl⟩, hv]) (fun j hj => by
          by_cases ej : j = k
          · rw [ej]; exact ⟨z1, z2⟩
          · exact hd j (by omega))
        exact ⟨ν', g1, g2, g3, by rw [g4]; simp [rI, rJI], by rw [g5]; simp [rI, rJI], hf.tr g6⟩
      refine zlt_gen' (P := fun o => ∃ ν' : ZMem, o = some ((), ν') ∧ ν'.1 12 0 9 = iI (rnn z 1 f (s + (k + 1)) : Nat) ∧ ν'.2 12 0 14 = lI (WW z s (rnn z 1 f (s + (k + 1)) - s)) ∧ ν'.1 12 0 10 = ν.1 12 0 10 ∧ ν'.1 12 0 11 = ν.1 12 0 11 ∧ frN ν ν') (fun J hJ => ?_)
      rw [h12]
      by_cases cv : WW z s k < 281474976710656
      · obtain ⟨w, hw⟩ : ∃ w : Nat, WW z s k = (w : Int) := ⟨(WW z s k).toNat, by omega⟩
        obtain ⟨b, hbb⟩ : ∃ b : Nat, z (s + k) = (b : Int) := ⟨(z (s + k)).toNat, by omega⟩
        rw [zif_t (by rw [shr48 hr.1 hr.2]; exact cv), h9, s_byteAt hT (by omega), zbnd_eq, hb, hw, hbb, shl8 (by omega) (by omega), hJ]
        exact fin _ (by show _ = (if WW z s k < 281474976710656 then WW z s k * 256 + z (s + k) else 1152921504606846976); rw [if_pos cv, hw, hbb]; omega)
      · rw [zif_f (by rw [shr48 hr.1 hr.2]; exact cv), llit, hJ]
        exact fin _ (by show _ = (if WW z s k < 281474976710656 then WW z s k * 256 + z (s + k) else 1152921504606846976); rw [if_neg cv])
    · rw [decide_eq_false c, zif_t (show bI false = 0 from rfl)]
      have hR : rnn z 1 (f + 1) (s + k) = s + k := by
        show (if srt (z (s + k)) = 1 then rnn z 1 f (s + k + 1) else s + k) = _
        rw [if_neg c]
      rw [hR]
      exact ⟨ν, rfl, h9, by rw [show s + k - s = k by omega]; exact h12, rfl, rfl, frN.rf⟩
