/-! table: tokens -/
def srt (b : Int) : Int := if (97 ≤ b ∧ b ≤ 122) ∨ (65 ≤ b ∧ b ≤ 90) then 1 else if 48 ≤ b ∧ b ≤ 57 then 2 else if b = 32 ∨ b = 10 then 4 else if b = 59 then 3 else 5
theorem srt_rng (b : Int) : 1 ≤ srt b ∧ srt b ≤ 5 := by unfold srt; repeat' split <;> omega
theorem s_sortOf {N : Nat} {μ : ZMem} {b : Int} (h0 : 0 ≤ b) (h1 : b < 256) : f_Reader_sortOf N μ (iI (sgn b)) = some (iI (srt b), μ) := by
  have hs : (sgn b = b ∧ b < 128) ∨ (128 ≤ b ∧ sgn b = b - 256) := by unfold sgn; split <;> omega
  unfold f_Reader_sortOf
  simp only [zlt_eq]
  generalize sgn b = s at *
  unfold srt
  have lt : ∀ c : Int, 0 ≤ c → c < 200 → (iI s < iI c) = (s < c) := fun c _ _ => iI_lt (by omega) (by omega) (by omega) (by omega)
  have gt : ∀ c : Int, 0 ≤ c → c < 200 → (iI c < iI s) = (c < s) := fun c _ _ => iI_lt (by omega) (by omega) (by omega) (by omega)
  have le : ∀ c : Int, 0 ≤ c → c < 200 → (iI s ≤ iI c) = (s ≤ c) := fun c _ _ => iI_le (by omega) (by omega) (by omega) (by omega)
  have eq : ∀ c : Int, 0 ≤ c → c < 200 → (iI s = iI c) = (s = c) := fun c _ _ => iI_eq (by omega) (by omega) (by omega) (by omega)
  have fin : zif (iI s = (32 : Int32)) (zret (4 : Int32) μ) (zif (iI s = (10 : Int32)) (zret (4 : Int32) μ) (zif (iI s = (59 : Int32)) (zret (3 : Int32) μ) (zret (5 : Int32) μ))) = some (iI (if b = 32 ∨ b = 10 then 4 else if b = 59 then 3 else 5), μ) := by
    by_cases c1 : s = 32
    · rw [zif_t (by rw [ilit, eq _ (by omega) (by omega)]; exact c1), if_pos (by omega)]; rfl
    · rw [zif_f (by rw [ilit, eq _ (by omega) (by omega)]; exact c1)]
      by_cases c2 : s = 10
      · rw [zif_t (by rw [ilit, eq _ (by omega) (by omega)]; exact c2), if_pos (by omega)]; rfl
      · rw [zif_f (by rw [ilit, eq _ (by omega) (by omega)]; exact c2), if_neg (by omega)]
        by_cases c3 : s = 59
        · rw [zif_t (by rw [ilit, eq _ (by omega) (by omega)]; exact c3), if_pos (by omega)]; rfl
        · rw [zif_f (by rw [ilit, eq _ (by omega) (by omega)]; exact c3), if_neg (by omega)]; rfl
  have fin2 : zif (iI s < (48 : Int32)) (zif (iI s = (32 : Int32)) (zret (4 : Int32) μ) (zif (iI s = (10 : Int32)) (zret (4 : Int32) μ) (zif (iI s = (59 : Int32)) (zret (3 : Int32) μ) (zret (5 : Int32) μ)))) (zif ((57 : Int32) < iI s) (zif (iI s = (32 : Int32)) (zret (4 : Int32) μ) (zif (iI s = (10 : Int32)) (zret (4 : Int32) μ) (zif (iI s = (59 : Int32)) (zret (3 : Int32) μ) (zret (5 : Int32) μ)))) (zret (2 : Int32) μ)) = some (iI (if 48 ≤ b ∧ b ≤ 57 then 2 else if b = 32 ∨ b = 10 then 4 else if b = 59 then 3 else 5), μ) := by
    by_cases c1 : s < 48
    · rw [zif_t (by rw [ilit, lt _ (by omega) (by omega)]; exact c1), fin, if_neg (c := 48 ≤ b ∧ b ≤ 57) (by omega)]
    · rw [zif_f (by rw [ilit, lt _ (by omega) (by omega)]; exact c1)]
      by_cases c2 : 57 < s
      · rw [zif_t (by rw [ilit, gt _ (by omega) (by omega)]; exact c2), fin, if_neg (c := 48 ≤ b ∧ b ≤ 57) (by omega)]
      · rw [zif_f (by rw [ilit, gt _ (by omega) (by omega)]; exact c2), if_pos (by omega)]; rfl
  have fin3 : zif (iI s < (65 : Int32)) (zif (iI s < (48 : Int32)) (zif (iI s = (32 : Int32)) (zret (4 : Int32) μ) (zif (iI s = (10 : Int32)) (zret (4 : Int32) μ) (zif (iI s = (59 : Int32)) (zret (3 : Int32) μ) (zret (5 : Int32) μ)))) (zif ((57 : Int32) < iI s) (zif (iI s = (32 : Int32)) (zret (4 : Int32) μ) (zif (iI s = (10 : Int32)) (zret (4 : Int32) μ) (zif (iI s = (59 : Int32)) (zret (3 : Int32) μ) (zret (5 : Int32) μ)))) (zret (2 : Int32) μ))) (zif ((90 : Int32) < iI s) (zif (iI s < (48 : Int32)) (zif (iI s = (32 : Int32)) (zret (4 : Int32) μ) (zif (iI s = (10 : Int32)) (zret (4 : Int32) μ) (zif (iI s = (59 : Int32)) (zret (3 : Int32) μ) (zret (5 : Int32) μ)))) (zif ((57 : Int32) < iI s) (zif (iI s = (32 : Int32)) (zret (4 : Int32) μ) (zif (iI s = (10 : Int32)) (zret (4 : Int32) μ) (zif (iI s = (59 : Int32)) (zret (3 : Int32) μ) (zret (5 : Int32) μ)))) (zret (2 : Int32) μ))) (zret (1 : Int32) μ)) = some (iI (if 65 ≤ b ∧ b ≤ 90 then 1 else if 48 ≤ b ∧ b ≤ 57 then 2 else if b = 32 ∨ b = 10 then 4 else if b = 59 then 3 else 5), μ) := by
    by_cases c1 : s < 65
    · rw [zif_t (by rw [ilit, lt _ (by omega) (by omega)]; exact c1), fin2, if_neg (c := 65 ≤ b ∧ b ≤ 90) (by omega)]
    · rw [zif_f (by rw [ilit, lt _ (by omega) (by omega)]; exact c1)]
      by_cases c2 : 90 < s
      · rw [zif_t (by rw [ilit, gt _ (by omega) (by omega)]; exact c2), fin2, if_neg (c := 65 ≤ b ∧ b ≤ 90) (by omega)]
      · rw [zif_f (by rw [ilit, gt _ (by omega) (by omega)]; exact c2), if_pos (by omega)]; rfl
  by_cases c1 : s < 97
  · rw [zif_t (by rw [ilit, lt _ (by omega) (by omega)]; exact c1), fin3]
    by_cases c9 : 65 ≤ b ∧ b ≤ 90
    · rw [if_pos c9, if_pos (Or.inr c9)]
    · rw [if_neg c9, if_neg (c := (97 ≤ b ∧ b ≤ 122) ∨ (65 ≤ b ∧ b ≤ 90)) (by omega)]
  · rw [zif_f (by rw [ilit, lt _ (by omega) (by omega)]; exact c1)]
    by_cases c2 : s ≤ 122
    · rw [zif_t (by rw [ilit, le _ (by omega) (by omega)]; exact c2), if_pos (by omega)]; rfl
    · rw [zif_f (by rw [ilit, le _ (by omega) (by omega)]; exact c2), fin3]
      by_cases c9 : 65 ≤ b ∧ b ≤ 90
      · rw [if_pos c9, if_pos (Or.inr c9)]
      · rw [if_neg c9, if_neg (c := (97 ≤ b ∧ b ≤ 122) ∨ (65 ≤ b ∧ b ≤ 90)) (by omega)]
def skp (z : Nat → Int) : Nat → Nat → Nat
  | 0, p => p
  | f + 1, p => if srt (z p) = 4 then skp z f (p + 1) else p
def rnn (z : Nat → Int) (s : Int) : Nat → Nat → Nat
  | 0, p => p
  | f + 1, p => if srt (z p) = s then rnn z s f (p + 1) else p
theorem skp_rng {z : Nat → Int} : ∀ f p, p ≤ skp z f p ∧ skp z f p ≤ p + f ∧ (skp z f p < p + f → srt (z (skp z f p)) ≠ 4)
  | 0, p => ⟨Nat.le_refl _, Nat.le_refl _, fun h => by unfold skp at h; omega⟩
  | f + 1, p => by
    unfold skp
    by_cases c : srt (z p) = 4
    · rw [if_pos c]
      obtain ⟨a, b, d⟩ := skp_rng (z := z) f (p + 1)
      exact ⟨by omega, by omega, fun h => d (by omega)⟩
    · rw [if_neg c]
      exact ⟨by omega, by omega, fun _ => c⟩
theorem rnn_rng {z : Nat → Int} {s : Int} : ∀ f p, p ≤ rnn z s f p ∧ rnn z s f p ≤ p + f ∧ ∀ j, p ≤ j → j < rnn z s f p → srt (z j) = s
  | 0, p => ⟨Nat.le_refl _, Nat.le_refl _, fun j h1 h2 => by unfold rnn at h2; omega⟩
  | f + 1, p => by
    unfold rnn
    by_cases c : srt (z p) = s
    · rw [if_pos c]
      obtain ⟨a, b, d⟩ := rnn_rng (z := z) (s := s) f (p + 1)
      refine ⟨by omega, by omega, fun j h1 h2 => ?_⟩
      by_cases e : j = p
      · rw [e]; exact c
      · exact d j (by omega) h2
    · rw [if_neg c]
      exact ⟨by omega, by omega, fun j h1 h2 => by omega⟩
def tS (z : Nat → Int) (n p : Nat) : Nat := skp z (n - p) p
def tG (z : Nat → Int) (n p : Nat) : Int := if tS z n p < n then srt (z (tS z n p)) else 0
def tE (z : Nat → Int) (n p : Nat) : Nat := if tG z n p = 0 then tS z n p else if tG z n p = 1 ∨ tG z n p = 2 then rnn z (tG z n p) (n - (tS z n p + 1)) (tS z n p + 1) else tS z n p + 1
theorem tk_rng {z : Nat → Int} {n p : Nat} (h : p ≤ n) : p ≤ tS z n p ∧ tS z n p ≤ n ∧ tS z n p ≤ tE z n p ∧ tE z n p ≤ n ∧ 0 ≤ tG z n p ∧ tG z n p ≤ 5 ∧ tG z n p ≠ 4 ∧ (tG z n p ≠ 0 → tS z n p < n ∧ tS z n p < tE z n p ∧ srt (z (tS z n p)) = tG z n p) ∧ (tG z n p = 1 ∨ tG z n p = 2 → ∀ j, tS z n p ≤ j → j < tE z n p → srt (z j) = tG z n p) := by
  obtain ⟨a, b, c⟩ := skp_rng (z := z) (n - p) p
  have a' : p ≤ tS z n p := a
  have b' : tS z n p ≤ n := by have : tS z n p ≤ p + (n - p) := b; omega
  have c' : tS z n p < n → srt (z (tS z n p)) ≠ 4 := fun h' => c (by show tS z n p < _; omega)
  have hG : (tS z n p < n ∧ tG z n p = srt (z (tS z n p))) ∨ (tS z n p = n ∧ tG z n p = 0) := by
    unfold tG
    by_cases q : tS z n p < n
    · exact Or.inl ⟨q, if_pos q⟩
    · exact Or.inr ⟨by omega, if_neg q⟩
  have hE : (tG z n p = 0 ∧ tE z n p = tS z n p) ∨ (tG z n p ≠ 0 ∧ (tG z n p = 1 ∨ tG z n p = 2) ∧ tE z n p = rnn z (tG z n p) (n - (tS z n p + 1)) (tS z n p + 1)) ∨ (tG z n p ≠ 0 ∧ ¬ (tG z n p = 1 ∨ tG z n p = 2) ∧ tE z n p = tS z n p + 1) := by
    unfold tE
    by_cases q : tG z n p = 0
    · exact Or.inl ⟨q, if_pos q⟩
    · rw [if_neg q]
      by_cases q2 : tG z n p = 1 ∨ tG z n p = 2
      · exact Or.inr (Or.inl ⟨q, q2, if_pos q2⟩)
      · exact Or.inr (Or.inr ⟨q, q2, if_neg q2⟩)
  have hr := rnn_rng (z := z) (s := tG z n p) (n - (tS z n p + 1)) (tS z n p + 1)
  have hsr := srt_rng (z (tS z n p))
  generalize tS z n p = S at *
  generalize tG z n p = G at *
  generalize tE z n p = E at *
  generalize rnn z G (n - (S + 1)) (S + 1) = R at *
  refine ⟨a', b', by omega, by omega, by omega, by omega, fun q => ?_, fun q => ⟨by omega, by omega, by omega⟩, fun q j h1 h2 => ?_⟩
  · rcases hG with ⟨g1, g2⟩ | ⟨g1, g2⟩
    · exact c' g1 (by omega)
    · omega
  · by_cases e : j = S
    · rw [e]; omega
    · exact hr.2.2 j (by omega) (by omega)
