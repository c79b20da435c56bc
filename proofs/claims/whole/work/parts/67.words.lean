/-! table: words, letters, numbers -/
def wl (k : Nat) : Nat := zslen.getD k 0
def wb (k j : Nat) : Int := ((zsbyt.getD k []).getD j 0).toInt
def spB (z : Nat → Int) (s L k : Nat) : Bool := decide (L = wl k ∧ ∀ j, j < wl k → z (s + j) = wb k j)
theorem spB_iff {z : Nat → Int} {s L k : Nat} : spB z s L k = true ↔ L = wl k ∧ ∀ j, j < wl k → z (s + j) = wb k j := decide_eq_true_iff
def CC (K : Nat → Int) : Nat → Int
  | 0 => 0
  | j + 1 => CC K j * 256 + K j
theorem CC_rng {K : Nat → Int} : ∀ L, (∀ j, j < L → 1 ≤ K j ∧ K j < 256) → 0 ≤ CC K L ∧ (1 ≤ L → 1 ≤ CC K L) ∧ (L ≤ 6 → CC K L < 256 ^ L)
  | 0, _ => by simp [CC]
  | L + 1, h => by
    obtain ⟨a, b, c⟩ := CC_rng L (fun j hj => h j (by omega))
    have := h L (by omega)
    refine ⟨?_, fun _ => ?_, fun hL => ?_⟩
    · show 0 ≤ CC K L * 256 + K L; omega
    · show 1 ≤ CC K L * 256 + K L; omega
    · show CC K L * 256 + K L < 256 ^ (L + 1)
      have := c (by omega)
      rw [Int.pow_succ]; omega
theorem WW_CC {z : Nat → Int} {s : Nat} {K : Nat → Int} : ∀ (L k : Nat), L ≤ 6 → (∀ j, j < L → 1 ≤ K j ∧ K j < 256) → (∀ j, j < k → 1 ≤ z (s + j) ∧ z (s + j) < 256) → (WW z s k = CC K L ↔ k = L ∧ ∀ j, j < L → z (s + j) = K j)
  | 0, 0, _, _, _ => by simp [WW, CC]
  | 0, k + 1, _, hK, hz => by
    have h1 := WW_rng (z := z) (s := s) k (fun j hj => by have := hz j (by omega); omega)
    have := hz k (by omega)
    have e : WW z s (k + 1) = if WW z s k < 281474976710656 then WW z s k * 256 + z (s + k) else 1152921504606846976 := rfl
    rw [e]
    refine ⟨fun q => ?_, fun q => by omega⟩
    exfalso
    have q' : (if WW z s k < 281474976710656 then WW z s k * 256 + z (s + k) else 1152921504606846976) = 0 := q
    split at q' <;> omega
  | L + 1, 0, hL, hK, hz => by
    have := (CC_rng (K := K) (L + 1) hK).2.1 (by omega)
    refine ⟨fun q => ?_, fun q => by omega⟩
    have : WW z s 0 = 0 := rfl
    omega
  | L + 1, k + 1, hL, hK, hz => by
    have h1 := WW_rng (z := z) (s := s) k (fun j hj => by have := hz j (by omega); omega)
    have hk := hz k (by omega)
    have hKL := hK L (by omega)
    have e : WW z s (k + 1) = if WW z s k < 281474976710656 then WW z s k * 256 + z (s + k) else 1152921504606846976 := rfl
    have hc := CC_rng (K := K) (L + 1) hK
    have hlt : CC K (L + 1) < 281474976710656 := by
      have h6 := hc.2.2 hL
      have : (256 : Int) ^ (L + 1) ≤ 281474976710656 := by
        have : L = 0 ∨ L = 1 ∨ L = 2 ∨ L = 3 ∨ L = 4 ∨ L = 5 := by omega
        rcases this with rfl | rfl | rfl | rfl | rfl | rfl <;> decide
      omega
    have hcL := CC_rng (K := K) L (fun j hj => hK j (by omega))
    have eC : CC K (L + 1) = CC K L * 256 + K L := rfl
    have ih := WW_CC (z := z) (s := s) (K := K) L k (by omega) (fun j hj => hK j (by omega)) (fun j hj => hz j (by omega))
    rw [e]
    refine ⟨fun q => ?_, fun q => ?_⟩
    · have hs : WW z s k < 281474976710656 := by
        by_cases c : WW z s k < 281474976710656
        · exact c
        · rw [if_neg c] at q; omega
      rw [if_pos hs] at q
      have h2 : WW z s k = CC K L := by omega
      obtain ⟨i1, i2⟩ := ih.1 h2
      refine ⟨by omega, fun j hj => ?_⟩
      by_cases c : j = L
      · rw [c]
        rw [i1] at q hk h2
        omega
      · exact i2 j (by omega)
    · have h2 := ih.2 ⟨by omega, fun j hj => q.2 j (by omega)⟩
      rw [if_pos (by omega), h2, eC, ← q.2 L (by omega), show k = L by omega]
def cw (k : Nat) : Int := CC (wb k) (wl k)
theorem wl_le : ∀ k : Fin 13, 1 ≤ wl k.val ∧ wl k.val ≤ 6 := by decide +kernel
theorem wb_ok : ∀ k : Fin 13, ∀ j : Fin 6, j.val < wl k.val → 97 ≤ wb k.val j.val ∧ wb k.val j.val ≤ 122 := by decide +kernel
/-- the reference's word is the class's -/
theorem word_iff {z : Nat → Int} {s L k : Nat} (hk : k < 13) (hz : ∀ j, j < L → srt (z (s + j)) = 1) : WW z s L = cw k ↔ spB z s L k = true := by
  obtain ⟨h1, h6⟩ := wl_le ⟨k, hk⟩
  rw [spB_iff]
  exact WW_CC (K := wb k) (wl k) L h6 (fun j hj => by have := wb_ok ⟨k, hk⟩ ⟨j, by simp only at h6; omega⟩ hj; simp only at this; omega) (fun j hj => by have := srt1 (hz j hj); omega)
/-- strings of the class -/
theorem s_length {N : Nat} {μ : ZMem} {k : Nat} (hk : k < 13) : f_JStr_length N μ k = some (iI (wl k : Nat), μ) := by
  have h : ∀ k : Fin 13, zshrI (nI (zslen.getD k.val 0)) 0 = iI (wl k.val : Nat) := by decide +kernel
  unfold f_JStr_length f_JStr_coder
  rw [zif_f (by decide), zchk_t (by decide)]
  show some (zshrI (nI (zslen.getD k 0)) 0, μ) = _
  rw [h ⟨k, hk⟩]
theorem s_charAt {N : Nat} {μ : ZMem} {k j : Nat} (hk : k < 13) (hj : j < wl k) : f_JStr_charAt N μ k (iI j) = some (iI (wb k j), μ) := by
  have h6 := (wl_le ⟨k, hk⟩).2
  simp only at h6
  have hb : ∀ k : Fin 13, ∀ j : Fin 6, j.val < wl k.val → ((((zsbyt.getD k.val []).getD j.val 0) &&& (255 : Int32)).toUInt32 % 65536).toInt32 = iI (wb k.val j.val) ∧ narrow .char (.int (iI (wb k.val j.val))) = .int (iI (wb k.val j.val)) := by decide +kernel
  obtain ⟨b1, b2⟩ := hb ⟨k, hk⟩ ⟨j, by omega⟩ hj
  simp only at b1 b2
  unfold f_JStr_charAt f_JStr_isLatin1
  rw [zif_f (by decide), zif_t (by decide)]
  show zbnd (some (1, μ)) _ = _
  rw [zbnd_eq, zif_f (by decide)]
  unfold f_JLat_charAt f_JStr_checkIndex f_JPre_checkIndex
  have hlen : zslen.getD k 0 = wl k := rfl
  rw [hlen, nI_iI, zif_f (by rw [zi0, iI_lt (by omega) (by omega) (by omega) (by omega)]; omega), zif_t (by rw [iI_lt (by omega) (by omega) (by omega) (by omega)]; omega)]
  show zbnd (zbnd (zbnd (some (_, μ)) _) _) _ = _
  rw [zbnd_eq]
  show zbnd (zbnd (some (_, μ)) _) _ = _
  rw [zbnd_eq, zchk_t (zin_iI (by omega) (by omega) (by omega)), cl_nat (by omega), b1, zchk_t b2]
  show zbnd (some (_, μ)) _ = _
  rw [zbnd_eq, zchk_t b2]; rfl

theorem spell_l {N n s L k : Nat} {z : Nat → Int} {μ : ZMem} (hk : k < 13) (hT : tpA μ n z) (h4 : μ.1 2 0 4 = iI s) (hL : L = wl k) (hsL : s + L ≤ n) : ∀ (f j fuel : Nat), j + f = wl k → f < fuel → (∀ i, i < j → z (s + i) = wb k i) → f_Reader_spells_l20 N k fuel (iI j) μ = some (bI (spB z s L k), μ)
  | 0, j, fuel, e1, e2, h => by
    obtain ⟨q, rfl⟩ : ∃ q, fuel = q + 1 := ⟨fuel - 1, by omega⟩
    have h6 := (wl_le ⟨k, hk⟩).2
    simp only at h6
    simp only [f_Reader_spells_l20]
    rw [s_length hk, zbnd_eq, zif_t (by rw [iI_le (by omega) (by omega) (by omega) (by omega)]; omega), spB_iff.2 ⟨hL, fun i hi => h i (by omega)⟩]; rfl
  | f + 1, j, fuel, e1, e2, h => by
    obtain ⟨q, rfl⟩ : ∃ q, fuel = q + 1 := ⟨fuel - 1, by omega⟩
    have h6 := (wl_le ⟨k, hk⟩).2
    simp only at h6
    obtain ⟨t1, t2, t3⟩ := id hT
    obtain ⟨z1, z2, z3⟩ := t3 (s + j) (by omega)
    have hwb := wb_ok ⟨k, hk⟩ ⟨j, by omega⟩ (show j < wl k by omega)
    simp only at hwb
    have e : iI (j : Int) + (1 : Int32) = iI ((j + 1 : Nat) : Int) := by rw [ilit, iI_add]; congr 1
    have es : iI (s : Int) + iI (j : Int) = iI ((s + j : Nat) : Int) := by rw [iI_add]; rfl
    have hs : (sgn (z (s + j)) = z (s + j) ∧ z (s + j) < 128) ∨ (128 ≤ z (s + j) ∧ sgn (z (s + j)) = z (s + j) - 256) := by unfold sgn; split <;> omega
    simp only [f_Reader_spells_l20]
    rw [s_length hk, zbnd_eq, zif_f (by rw [iI_le (by omega) (by omega) (by omega) (by omega)]; omega)]
    simp only [h4, es, cl_nat (show s + j < 2147483648 by omega), z3, zlt_eq, e]
    rw [zchk_t (zin_k 300 rfl (by omega) (by omega) (by omega)), s_charAt hk (by omega), zbnd_eq]
    by_cases c : z (s + j) = wb k j
    · rw [zif_t (by rw [iI_eq (by omega) (by omega) (by omega) (by omega)]; omega)]
      exact spell_l hk hT h4 hL hsL f (j + 1) q (by omega) (by omega) (fun i hi => by
        by_cases ci : i = j
        · rw [ci]; exact c
        · exact h i (by omega))
    · rw [zif_f (by rw [iI_eq (by omega) (by omega) (by omega) (by omega)]; omega)]
      have : spB z s L k = false := by
        cases hb : spB z s L k with
        | false => rfl
        | true => exact absurd ((spB_iff.1 hb).2 j (by omega)) c
      rw [this]; rfl
theorem s_spells {N n s E k : Nat} {z : Nat → Int} {μ : ZMem} (hN : 30 ≤ N) (hk : k < 13) (hT : tpA μ n z) (h4 : μ.1 2 0 4 = iI s) (h5 : μ.1 2 0 5 = iI E) (hsE : s ≤ E) (hE : E ≤ n) : f_Reader_spells N μ k = some (bI (spB z s (E - s) k), μ) := by
  have h6 := (wl_le ⟨k, hk⟩).2
  simp only at h6
  have hn := hT.1
  have ed : iI (E : Int) - iI (s : Int) = iI ((E - s : Nat) : Int) := by rw [iI_sub]; congr 1; omega
  unfold f_Reader_spells
  rw [s_length hk, zbnd_eq, h5, h4, ed]
  by_cases c : E - s = wl k
  · rw [zif_t (by rw [c]), zlt_eq]
    exact spell_l hk hT h4 c (by omega) (wl k) 0 N (by omega) (by omega) (fun i h => by omega)
  · rw [zif_f (by rw [iI_eq (by omega) (by omega) (by omega) (by omega)]; omega)]
    have : spB z s (E - s) k = false := by
      cases hb : spB z s (E - s) k with
      | false => rfl
      | true => exact absurd (spB_iff.1 hb).1 c
    rw [this]; rfl
def fk (P : Nat → Bool) : Nat → Nat → Int
  | 0, _ => -1
  | f + 1, k => if P k = true then (k : Int) else fk P f (k + 1)
theorem fk_rng {P : Nat → Bool} : ∀ f k, -1 ≤ fk P f k ∧ fk P f k < ((k + f : Nat) : Int)
  | 0, k => by unfold fk; omega
  | f + 1, k => by
    unfold fk
    have := fk_rng (P := P) f (k + 1)
    split <;> omega
def kOf (z : Nat → Int) (n p : Nat) : Int := if tG z n p = 1 then fk (spB z (tS z n p) (tE z n p - tS z n p)) 11 0 else -1
theorem s_wordOf : ∀ (N : Nat) (μ : ZMem) (k : Nat), k < 11 → f_Reader_wordOf N μ (iI k) = some (k, μ) := by
  intro N μ k hk
  have : k = 0 ∨ k = 1 ∨ k = 2 ∨ k = 3 ∨ k = 4 ∨ k = 5 ∨ k = 6 ∨ k = 7 ∨ k = 8 ∨ k = 9 ∨ k = 10 := by omega
  rcases this with rfl | rfl | rfl | rfl | rfl | rfl | rfl | rfl | rfl | rfl | rfl <;> rfl
theorem kind_l {N n p : Nat} {z : Nat → Int} {μ : ZMem} (hN : 30 ≤ N) (hp : p ≤ n) (hT : tpA μ n z) (hk : tkA μ z n p) : ∀ (f k fuel : Nat), k + f = 11 → f < fuel → f_Reader_kindOfWord_l12 N fuel (iI k) μ = some (iI (fk (spB z (tS z n p) (tE z n p - tS z n p)) f k), μ)
  | 0, k, fuel, e1, e2 => by
    obtain ⟨q, rfl⟩ : ∃ q, fuel = q + 1 := ⟨fuel - 1, by omega⟩
    simp only [f_Reader_kindOfWord_l12]
    rw [zif_t (by rw [ilit, iI_lt (by omega) (by omega) (by omega) (by omega)]; omega)]; rfl
  | f + 1, k, fuel, e1, e2 => by
    obtain ⟨q, rfl⟩ : ∃ q, fuel = q + 1 := ⟨fuel - 1, by omega⟩
    have e : iI (k : Int) + (1 : Int32) = iI ((k + 1 : Nat) : Int) := by rw [ilit, iI_add]; congr 1
    obtain ⟨r1, r2, r3, r4, -⟩ := tk_rng (z := z) hp
    simp only [f_Reader_kindOfWord_l12]
    rw [zif_f (by rw [ilit, iI_lt (by omega) (by omega) (by omega) (by omega)]; omega), s_wordOf N μ k (by omega), zbnd_eq, zchk_t (by omega), s_spells hN (by omega) hT hk.1 hk.2.2 r3 r4, zbnd_eq]
    unfold fk
    cases c : spB z (tS z n p) (tE z n p - tS z n p) k with
    | true => rw [zif_f (show ¬ bI true = 0 by decide), if_pos rfl]; rfl
    | false =>
      rw [zif_t (show bI false = 0 from rfl), if_neg (by decide), zlt_eq, e]
      exact kind_l hN hp hT hk f (k + 1) q (by omega) (by omega)
theorem s_kindOfWord {N n p : Nat} {z : Nat → Int} {μ : ZMem} (hN : 30 ≤ N) (hp : p ≤ n) (hT : tpA μ n z) (hk : tkA μ z n p) : f_Reader_kindOfWord N μ = some (iI (kOf z n p), μ) := by
  obtain ⟨r1, r2, r3, r4, r5, r6, -⟩ := tk_rng (z := z) hp
  unfold f_Reader_kindOfWord kOf
  rw [hk.2.1]
  by_cases c : tG z n p = 1
  · rw [zif_t (by rw [c]; rfl), if_pos c, zlt_eq]
    exact kind_l hN hp hT hk 11 0 N (by omega) (by omega)
  · rw [zif_f (by rw [ilit, iI_eq (by omega) (by omega) (by omega) (by omega)]; exact c), if_neg c, m1]; rfl
def lOf (z : Nat → Int) (n p : Nat) : Int := if tG z n p = 1 ∧ tE z n p - tS z n p = 1 ∧ 97 ≤ z (tS z n p) ∧ z (tS z n p) ≤ 100 then z (tS z n p) - 97 else -1
theorem lOf_rng {z : Nat → Int} {n p : Nat} : -1 ≤ lOf z n p ∧ lOf z n p ≤ 3 := by unfold lOf; split <;> omega
theorem s_letterOfWord {N n p : Nat} {z : Nat → Int} {μ : ZMem} (hp : p ≤ n) (hT : tpA μ n z) (hk : tkA μ z n p) : f_Reader_letterOfWord N μ = some (iI (lOf z n p), μ) := by
  obtain ⟨r1, r2, r3, r4, r5, r6, r7, r8, r9⟩ := tk_rng (z := z) hp
  have hn := hT.1
  have ed : iI (tE z n p : Int) - iI (tS z n p : Int) = iI ((tE z n p - tS z n p : Nat) : Int) := by rw [iI_sub]; congr 1; omega
  unfold f_Reader_letterOfWord
  rw [hk.1, hk.2.1, hk.2.2, ed]
  by_cases c : tG z n p = 1
  · rw [zif_t (by rw [c]; rfl)]
    by_cases c1 : tE z n p - tS z n p = 1
    · obtain ⟨s1, s2, s3⟩ := r8 (by omega)
      obtain ⟨z1, z2, z3⟩ := hT.2.2 _ s1
      have hs := srt1 (s3.trans c)
      have hsg : sgn (z (tS z n p)) = z (tS z n p) := by unfold sgn; rw [if_pos (by omega)]
      rw [zif_t (by rw [c1]; rfl), zchk_t (zin_k 300 rfl (by omega) (by omega) (by omega)), cl_nat (by omega), z3, hsg, ilit, iI_sub, zlt_eq]
      unfold f_A_isLetter lOf
      by_cases c2 : z (tS z n p) < 97
      · rw [zif_t (by rw [zi0, iI_lt (by omega) (by omega) (by omega) (by omega)]; omega), if_neg (by omega)]
        show zbnd (some (0, μ)) _ = _
        rw [zbnd_eq, zif_t rfl, m1]; rfl
      · rw [zif_f (by rw [zi0, iI_lt (by omega) (by omega) (by omega) (by omega)]; omega)]
        by_cases c3 : z (tS z n p) ≤ 100
        · rw [zif_f (by rw [ilit, iI_le (by omega) (by omega) (by omega) (by omega)]; omega), if_pos ⟨c, c1, by omega, c3⟩]
          show zbnd (some (1, μ)) _ = _
          rw [zbnd_eq, zif_f (by decide)]; rfl
        · rw [zif_t (by rw [ilit, iI_le (by omega) (by omega) (by omega) (by omega)]; omega), if_neg (by omega)]
          show zbnd (some (0, μ)) _ = _
          rw [zbnd_eq, zif_t rfl, m1]; rfl
    · rw [zif_f (by rw [ilit, iI_eq (by omega) (by omega) (by omega) (by omega)]; omega)]
      unfold lOf
      rw [if_neg (by omega), m1]; rfl
  · rw [zif_f (by rw [ilit, iI_eq (by omega) (by omega) (by omega) (by omega)]; exact c)]
    unfold lOf
    rw [if_neg (by omega), m1]; rfl
def dA (z : Nat → Int) (s : Nat) : Nat → Int
  | 0 => 0
  | k + 1 => if 9999 < dA z s k then dA z s k else dA z s k * 10 + z (s + k) - 48
theorem dA_dM {z : Nat → Int} {s : Nat} : ∀ k, (∀ j, j < k → 48 ≤ z (s + j) ∧ z (s + j) ≤ 57) → 0 ≤ dA z s k ∧ dA z s k ≤ 99999 ∧ (dA z s k = dM z s k ∨ (9999 < dA z s k ∧ 9999 < dM z s k))
  | 0, _ => by unfold dA dM; omega
  | k + 1, h => by
    obtain ⟨a, b, c⟩ := dA_dM k (fun j hj => h j (by omega))
    have := h k (by omega)
    have e1 : dA z s (k + 1) = if 9999 < dA z s k then dA z s k else dA z s k * 10 + z (s + k) - 48 := rfl
    have e2 : dM z s (k + 1) = if dM z s k ≤ 99999 then 10 * dM z s k + z (s + k) - 48 else dM z s k := rfl
    rw [e1, e2]
    split <;> split <;> omega
theorem num_l {N n s E : Nat} {z : Nat → Int} {μ : ZMem} (hT : tpA μ n z) (h5 : μ.1 2 0 5 = iI E) (hE : E ≤ n) (hz : ∀ j, j < E - s → 48 ≤ z (s + j) ∧ z (s + j) ≤ 57) : ∀ (f k fuel : Nat), s + k + f = E → f < fuel → f_Reader_numberOfDigits_l7 N fuel (iI (dA z s k)) (iI ((s + k : Nat) : Int)) μ = some (iI (dA z s (E - s)), μ)
  | 0, k, fuel, e1, e2 => by
    obtain ⟨q, rfl⟩ : ∃ q, fuel = q + 1 := ⟨fuel - 1, by omega⟩
    have hn := hT.1
    simp only [f_Reader_numberOfDigits_l7]
    rw [h5, zif_t (by rw [iI_le (by omega) (by omega) (by omega) (by omega)]; omega), show k = E - s by omega]; rfl
  | f + 1, k, fuel, e1, e2 => by
    obtain ⟨q, rfl⟩ : ∃ q, fuel = q + 1 := ⟨fuel - 1, by omega⟩
    obtain ⟨t1, t2, t3⟩ := id hT
    obtain ⟨z1, z2, z3⟩ := t3 (s + k) (by omega)
    have hd := hz k (by omega)
    have hr := dA_dM (z := z) (s := s) k (fun j hj => hz j (by omega))
    have e : iI ((s + k : Nat) : Int) + (1 : Int32) = iI ((s + (k + 1) : Nat) : Int) := by rw [ilit, iI_add]; congr 1
    have hsg : sgn (z (s + k)) = z (s + k) := by unfold sgn; rw [if_pos (by omega)]
    simp only [f_Reader_numberOfDigits_l7]
    rw [h5, zif_f (by rw [iI_le (by omega) (by omega) (by omega) (by omega)]; omega)]
    by_cases c : 9999 < dA z s k
    · rw [zif_t (by rw [ilit, iI_lt (by omega) (by omega) (by omega) (by omega)]; exact c)]
      have : ∀ m, dA z s (k + m) = dA z s k := by
        intro m
        induction m with
        | zero => rfl
        | succ m ih =>
          show (if 9999 < dA z s (k + m) then dA z s (k + m) else _) = _
          rw [ih, if_pos c]
      rw [show E - s = k + (E - s - k) by omega, this]; rfl
    · rw [zif_f (by rw [ilit, iI_lt (by omega) (by omega) (by omega) (by omega)]; exact c), zchk_t (zin_k 300 rfl (by omega) (by omega) (by omega))]
      simp only [cl_nat (show s + k < 2147483648 by omega), z3, hsg, zlt_eq, e]
      have ev : iI (dA z s k) * (10 : Int32) + iI (z (s + k)) - (48 : Int32) = iI (dA z s (k + 1)) := by
        rw [ilit, iI_mul, iI_add, ilit, iI_sub]
        show _ = iI (if 9999 < dA z s k then dA z s k else dA z s k * 10 + z (s + k) - 48)
        rw [if_neg c]
      rw [ev]
      exact num_l hT h5 hE hz f (k + 1) q (by omega) (by omega)
theorem s_numberOfDigits {N n p : Nat} {z : Nat → Int} {μ : ZMem} (hN : 400 ≤ N) (hp : p ≤ n) (hT : tpA μ n z) (hk : tkA μ z n p) (hg : tG z n p = 2) : f_Reader_numberOfDigits N μ = some (iI (dA z (tS z n p) (tE z n p - tS z n p)), μ) := by
  obtain ⟨r1, r2, r3, r4, r5, r6, r7, r8, r9⟩ := tk_rng (z := z) hp
  have hn := hT.1
  unfold f_Reader_numberOfDigits
  rw [zlt_eq, zlt_eq, hk.1]
  exact num_l hT hk.2.2 r4 (fun j hj => srt2.1 ((r9 (Or.inr hg) (tS z n p + j) (by omega) (by omega)).trans hg)) (tE z n p - tS z n p) 0 N (by omega) (by omega)
