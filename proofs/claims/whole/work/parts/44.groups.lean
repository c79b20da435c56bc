/-! groups: counted -/
theorem fillI_loop {N k o n : Nat} {v : Int32} {μ : ZMem} (hn : zlen k o = n) (hn2 : n < 2147483648) : ∀ (f i fuel : Nat) (ν : ZMem), i + f = n → f < fuel → ν.2 = μ.2 → (∀ k' i' x, ν.1 k' i' x = if k' = k ∧ i' = o ∧ x < i then v else μ.1 k' i' x) → ∃ ν', f_JArr_fillI_l5 N k o v (iI n) fuel (iI i) ν = some ((), ν') ∧ ν'.2 = μ.2 ∧ (∀ k' i' x, ν'.1 k' i' x = if k' = k ∧ i' = o ∧ x < n then v else μ.1 k' i' x)
  | 0, i, fuel, ν, h1, h2, h3, h4 => by
    obtain ⟨q, rfl⟩ : ∃ q, fuel = q + 1 := ⟨fuel - 1, by omega⟩
    have : i = n := by omega
    subst this
    refine ⟨ν, ?_, h3, h4⟩
    simp only [f_JArr_fillI_l5]
    rw [zif_t (by rw [iI_le (by omega) (by omega) (by omega) (by omega)]; omega)]; rfl
  | f + 1, i, fuel, ν, h1, h2, h3, h4 => by
    obtain ⟨q, rfl⟩ : ∃ q, fuel = q + 1 := ⟨fuel - 1, by omega⟩
    have e : iI (i : Int) + (1 : Int32) = iI ((i + 1 : Nat) : Int) := by rw [ilit, iI_add]; congr 1
    obtain ⟨ν', a1, a2, a3⟩ := fillI_loop (N := N) (v := v) (μ := μ) hn hn2 f (i + 1) q (zsetI ν k o i v) (by omega) (by omega) h3 (fun k' i' x => by
      rw [rI]
      by_cases c : k' = k ∧ i' = o ∧ x = i
      · rw [if_pos c, if_pos (by omega)]
      · rw [if_neg c, h4]
        by_cases c2 : k' = k ∧ i' = o ∧ x < i
        · rw [if_pos c2, if_pos (by omega)]
        · rw [if_neg c2, if_neg (by omega)])
    refine ⟨ν', ?_, a2, a3⟩
    simp only [f_JArr_fillI_l5]
    rw [zif_f (by rw [iI_le (by omega) (by omega) (by omega) (by omega)]; omega), zchk_t (zin_k n hn (by omega) (by omega) (by omega)), cl_nat (by omega), zlt_eq, zlt_eq, e]
    exact a1
theorem s_fillI {N k o n : Nat} {v : Int32} {μ : ZMem} (hN : n < N) (hn : zlen k o = n) (hn2 : n < 2147483648) : ∃ ν', f_JArr_fillI N μ k o v = some ((), ν') ∧ ν'.2 = μ.2 ∧ (∀ k' i' x, ν'.1 k' i' x = if k' = k ∧ i' = o ∧ x < n then v else μ.1 k' i' x) := by
  unfold f_JArr_fillI
  rw [hn, nI_iI]
  simp only [zlt_eq]
  exact fillI_loop hn hn2 n 0 N μ (by omega) (by omega) rfl (fun k' i' x => by rw [if_neg (by omega)])
/-- the first that counts and is alike to m (m itself, if none ahead is) -/
def fsF (ky : Nat → Ky) (A : Nat → Bool) (m : Nat) : Nat → Nat → Nat
  | 0, _ => m
  | f + 1, i => if A i = true ∧ ky i = ky m then i else fsF ky A m f (i + 1)
def fs (ky : Nat → Ky) (A : Nat → Bool) (m : Nat) : Nat := fsF ky A m m 0
theorem fsF_spec {ky : Nat → Ky} {A : Nat → Bool} {m : Nat} : ∀ (f i : Nat), i + f = m → (∀ w, w < i → A w = true → ky w ≠ ky m) → (fsF ky A m f i = m ∧ ∀ w, w < m → A w = true → ky w ≠ ky m) ∨ (fsF ky A m f i < m ∧ A (fsF ky A m f i) = true ∧ ky (fsF ky A m f i) = ky m ∧ ∀ w, w < fsF ky A m f i → A w = true → ky w ≠ ky m)
  | 0, i, h1, h2 => Or.inl ⟨rfl, fun w hw => h2 w (by omega)⟩
  | f + 1, i, h1, h2 => by
    unfold fsF
    by_cases c : A i = true ∧ ky i = ky m
    · rw [if_pos c]
      exact Or.inr ⟨by omega, c.1, c.2, h2⟩
    · rw [if_neg c]
      exact fsF_spec f (i + 1) (by omega) (fun w hw hA e => by
        by_cases d : w = i
        · rw [d] at hA e; exact c ⟨hA, e⟩
        · exact h2 w (by omega) hA e)
theorem fs_spec {ky : Nat → Ky} {A : Nat → Bool} {m : Nat} (hA : A m = true) : fs ky A m ≤ m ∧ A (fs ky A m) = true ∧ ky (fs ky A m) = ky m ∧ ∀ w, w < fs ky A m → A w = true → ky w ≠ ky m := by
  rcases fsF_spec (ky := ky) (A := A) (m := m) m 0 (by omega) (fun w hw => by omega) with ⟨h1, h2⟩ | ⟨h1, h2, h3, h4⟩
  · unfold fs; rw [h1]; exact ⟨Nat.le_refl _, hA, rfl, h2⟩
  · unfold fs; exact ⟨by omega, h2, h3, h4⟩
theorem fs_uniq {ky : Nat → Ky} {A : Nat → Bool} {m u : Nat} (hA : A m = true) (h2 : A u = true) (h3 : ky u = ky m) (h4 : ∀ w, w < u → A w = true → ky w ≠ ky m) : fs ky A m = u := by
  obtain ⟨a1, a2, a3, a4⟩ := fs_spec (ky := ky) hA
  by_cases c : fs ky A m < u
  · exact absurd a3 (h4 _ c a2)
  · by_cases d : u < fs ky A m
    · exact absurd h3 (a4 u d h2)
    · omega
theorem fs_eq {ky : Nat → Ky} {A : Nat → Bool} {m m' : Nat} (hA : A m = true) (hA' : A m' = true) : fs ky A m = fs ky A m' ↔ ky m = ky m' := by
  obtain ⟨a1, a2, a3, a4⟩ := fs_spec (ky := ky) hA
  obtain ⟨b1, b2, b3, b4⟩ := fs_spec (ky := ky) hA'
  constructor
  · intro h; rw [← a3, h, b3]
  · intro h; exact fs_uniq hA b2 (b3.trans h.symm) (fun w hw hAw e => b4 w hw hAw (e.trans h))
def gcS (ky : Nat → Ky) (A : Nat → Bool) : Nat → Nat
  | 0 => 0
  | m + 1 => gcS ky A m + (if A m = true ∧ fs ky A m = m then 1 else 0)
def alS (A : Nat → Bool) : Nat → Nat
  | 0 => 0
  | m + 1 => alS A m + (if A m = true then 1 else 0)
theorem gc_le {ky : Nat → Ky} {A : Nat → Bool} : ∀ n, gcS ky A n ≤ alS A n ∧ alS A n ≤ n ∧ (gcS ky A n = alS A n ↔ ∀ m, m < n → A m = true → fs ky A m = m)
  | 0 => ⟨Nat.le_refl _, Nat.le_refl _, fun _ m hm => by omega, fun _ => rfl⟩
  | n + 1 => by
    obtain ⟨h1, h2, h3⟩ := gc_le (ky := ky) (A := A) n
    unfold gcS alS
    by_cases c : A n = true
    · by_cases d : fs ky A n = n
      · rw [if_pos ⟨c, d⟩, if_pos c]
        refine ⟨by omega, by omega, ?_⟩
        constructor
        · intro e m hm hA
          by_cases q : m = n
          · rw [q]; exact d
          · exact (h3.1 (by omega)) m (by omega) hA
        · intro e
          have := h3.2 (fun m hm hA => e m (by omega) hA)
          omega
      · rw [if_neg (fun q => d q.2), if_pos c]
        refine ⟨by omega, by omega, ?_⟩
        constructor
        · intro e; omega
        · intro e; exact absurd (e n (by omega) c) d
    · rw [if_neg (fun q => c q.1), if_neg c]
      refine ⟨by omega, by omega, ?_⟩
      constructor
      · intro e m hm hA
        by_cases q : m = n
        · rw [q] at hA; exact absurd hA c
        · exact (h3.1 (by omega)) m (by omega) hA
      · intro e
        have := h3.2 (fun m hm hA => e m (by omega) hA)
        omega
theorem gc_all {ky : Nat → Ky} {A : Nat → Bool} {n : Nat} : gcS ky A n = alS A n ↔ ∀ m m', m < m' → m' < n → A m = true → A m' = true → ky m ≠ ky m' := by
  rw [(gc_le n).2.2]
  constructor
  · intro h m m' h1 h2 hA hA' e
    have a := h m (by omega) hA
    have b := h m' h2 hA'
    have := (fs_eq (ky := ky) hA hA').2 e
    omega
  · intro h m hm hA
    exact fs_uniq hA hA rfl (fun w hw hAw => h w m hw hm hAw hA)
def alA (μ : ZMem) (m : Nat) : Bool := decide (¬ μ.2 33 0 m = 0)
/-- only the finer groups and the seats may differ -/
def frP (μ μ' : ZMem) : Prop := μ'.2 = μ.2 ∧ ∀ k i x, k ≠ 35 → k ≠ 36 → μ'.1 k i x = μ.1 k i x
theorem frP.ky {μ μ' : ZMem} (h : frP μ μ') : kyOf μ' = kyOf μ ∧ alA μ' = alA μ := by
  refine ⟨funext fun u => ?_, funext fun u => ?_⟩
  · unfold kyOf; rw [h.1, h.2 34 0 u (by omega) (by omega)]
  · unfold alA; rw [h.1]
theorem count_l {N : Nat} {μ : ZMem} {n : Nat} (hN : 2000 ≤ N) (hn : n ≤ 500) (hc : μ.1 10 0 5 = iI n) : ∀ (f m fuel : Nat) (ν : ZMem) (σ : Nat → Int), m + f = n → f < fuel → frP μ ν → stR ν σ → TI (kyOf μ) (alA μ) σ m → (∀ u, u < m → alA μ u = true → ν.1 35 0 u = iI ((fs (kyOf μ) (alA μ) u : Nat) : Int)) →
    ∃ ν', f_Parting_countGroups_l12 N fuel (iI ((gcS (kyOf μ) (alA μ) m : Nat) : Int)) (iI m) ν = some (iI ((gcS (kyOf μ) (alA μ) n : Nat) : Int), ν') ∧ frP μ ν' ∧ ∀ u, u < n → alA μ u = true → ν'.1 35 0 u = iI ((fs (kyOf μ) (alA μ) u : Nat) : Int)
  | 0, m, fuel, ν, σ, h1, h2, hF, hR, hT, h35 => by
    obtain ⟨q, rfl⟩ : ∃ q, fuel = q + 1 := ⟨fuel - 1, by omega⟩
    have : m = n := by omega
    subst this
    refine ⟨ν, ?_, hF, h35⟩
    simp only [f_Parting_countGroups_l12]
    rw [hF.2 10 0 5 (by omega) (by omega), hc, zif_t (by rw [iI_le (by omega) (by omega) (by omega) (by omega)]; omega)]; rfl
  | f + 1, m, fuel, ν, σ, h1, h2, hF, hR, hT, h35 => by
    obtain ⟨q, rfl⟩ : ∃ q, fuel = q + 1 := ⟨fuel - 1, by omega⟩
    have e : iI (m : Int) + (1 : Int32) = iI ((m + 1 : Nat) : Int) := by rw [ilit, iI_add]; congr 1
    have hz3 : zin (iI (m : Int)) (zlen 33 0) := zin_k 500 rfl (by omega) (by omega) (by omega)
    have hz5 : zin (iI (m : Int)) (zlen 35 0) := zin_k 500 rfl (by omega) (by omega) (by omega)
    have hg := gc_le (ky := kyOf μ) (A := alA μ) m
    have hky := hF.ky
    have e1 : ∀ g : Nat, iI (g : Int) + (1 : Int32) = iI ((g + 1 : Nat) : Int) := fun g => by rw [ilit, iI_add]; congr 1
    have e0 : ∀ x : Int32, x + (0 : Int32) = x := Int32.add_zero
    simp only [f_Parting_countGroups_l12]
    rw [hF.2 10 0 5 (by omega) (by omega), hc, zif_f (by rw [iI_le (by omega) (by omega) (by omega) (by omega)]; omega), zchk_t hz3]
    simp only [zlt_eq, cl_nat (show m < 2147483648 by omega), hF.1, e]
    cases hA : alA μ m with
    | false =>
      have hA' : μ.2 33 0 m = 0 := by unfold alA at hA; rw [decide_eq_false_iff_not, Classical.not_not] at hA; exact hA
      rw [zif_t (by rw [lcmp_eqv]; exact hA')]
      have hgc : gcS (kyOf μ) (alA μ) (m + 1) = gcS (kyOf μ) (alA μ) m := by
        show gcS (kyOf μ) (alA μ) m + _ = _
        rw [if_neg (fun q => by rw [hA] at q; cases q.1)]; rfl
      have := count_l hN hn hc f (m + 1) q ν σ (by omega) (by omega) hF hR (TI_skip hT hA) (fun u hu hAu => by
        by_cases d : u = m
        · rw [d, hA] at hAu; cases hAu
        · exact h35 u (by omega) hAu)
      rw [hgc] at this
      exact this
    | true =>
      have hA' : ¬ μ.2 33 0 m = 0 := by unfold alA at hA; rw [decide_eq_true_eq] at hA; exact hA
      rw [zif_f (by rw [lcmp_eqv]; exact hA'), s_seat hN (by omega) hR, hky.1]
      -- what the seat says
      have key : ∀ (ν2 : ZMem) (σ2 : Nat → Int) (r : Nat), r ≤ m → r = fs (kyOf μ) (alA μ) m → frP μ ν2 → stR ν2 σ2 → TI (kyOf μ) (alA μ) σ2 (m + 1) → (∀ u, u < m → alA μ u = true → ν2.1 35 0 u = iI ((fs (kyOf μ) (alA μ) u : Nat) : Int)) → ∃ ν', (zbnd (some (iI (r : Int), ν2)) (fun (r12 : Int32) (μ11 : ZMem) => zchk (zin (iI (m : Int)) (zlen 35 0)) (zchk (zin (iI (m : Int)) (zlen 35 0)) (zif ((zsetI μ11 35 0 m r12).1 35 0 m = iI (m : Int)) (f_Parting_countGroups_l12 N q (iI ((gcS (kyOf μ) (alA μ) m : Nat) : Int) + 1) (iI ((m + 1 : Nat) : Int)) (zsetI μ11 35 0 m r12)) (f_Parting_countGroups_l12 N q (iI ((gcS (kyOf μ) (alA μ) m : Nat) : Int) + 0) (iI ((m + 1 : Nat) : Int)) (zsetI μ11 35 0 m r12)))))) = some (iI ((gcS (kyOf μ) (alA μ) n : Nat) : Int), ν') ∧ frP μ ν' ∧ ∀ u, u < n → alA μ u = true → ν'.1 35 0 u = iI ((fs (kyOf μ) (alA μ) u : Nat) : Int) := by
        intro ν2 σ2 r r1 r2 r3 r4 r5 r6
        have rd : (zsetI ν2 35 0 m (iI (r : Int))).1 35 0 m = iI (r : Int) := by rw [rI, if_pos ⟨rfl, rfl, rfl⟩]
        have hF3 : frP μ (zsetI ν2 35 0 m (iI (r : Int))) := ⟨r3.1, fun k i x q1 q2 => by rw [rI, if_neg (fun e => q1 e.1)]; exact r3.2 k i x q1 q2⟩
        have hR3 : stR (zsetI ν2 35 0 m (iI (r : Int))) σ2 := fun p hp => by rw [rI, if_neg (by omega)]; exact r4 p hp
        have h353 : ∀ u, u < m + 1 → alA μ u = true → (zsetI ν2 35 0 m (iI (r : Int))).1 35 0 u = iI ((fs (kyOf μ) (alA μ) u : Nat) : Int) := fun u hu hAu => by
          rw [rI]
          by_cases d : u = m
          · rw [if_pos ⟨rfl, rfl, d⟩, d, ← r2]
          · rw [if_neg (fun e => d e.2.2)]; exact r6 u (by omega) hAu
        have := count_l hN hn hc f (m + 1) q (zsetI ν2 35 0 m (iI (r : Int))) σ2 (by omega) (by omega) hF3 hR3 r5 h353
        rw [zbnd_eq, zchk_t hz5, zchk_t hz5, rd, e1, e0]
        by_cases d : r = m
        · have hgc : gcS (kyOf μ) (alA μ) (m + 1) = gcS (kyOf μ) (alA μ) m + 1 := by
            show gcS (kyOf μ) (alA μ) m + _ = _
            rw [if_pos ⟨hA, by omega⟩]
          rw [zif_t (by rw [d]), ← hgc]
          exact this
        · have hgc : gcS (kyOf μ) (alA μ) (m + 1) = gcS (kyOf μ) (alA μ) m := by
            show gcS (kyOf μ) (alA μ) m + _ = _
            rw [if_neg (fun q => d (by omega))]; rfl
          rw [hgc] at this
          rw [zif_f (by rw [iI_eq (by omega) (by omega) (by omega) (by omega)]; omega)]
          exact this
      rcases TI_step (show m < 500 by omega) hT hA with ⟨p, p1, p2, p3, p4⟩ | ⟨u, u1, u2, u3, u4, u5, u6⟩
      · rw [p2]
        have hfs : m = fs (kyOf μ) (alA μ) m := (fs_uniq hA hA rfl (fun w hw hAw => p3 w hw hAw)).symm
        exact key (zsetI ν 36 0 p (iI (m : Int))) (fun q => if q = p then (m : Int) else σ q) m (Nat.le_refl _) hfs ⟨hF.1, fun k i x q1 q2 => by rw [rI, if_neg (fun e => q2 e.1)]; exact hF.2 k i x q1 q2⟩ (fun q hq => by
          rw [rI]
          by_cases d : q = p
          · rw [if_pos ⟨rfl, rfl, d⟩]; simp only [if_pos d]; exact ⟨trivial, by omega, by omega⟩
          · rw [if_neg (fun e => d e.2.2)]; simp only [if_neg d]; exact hR q hq) p4 (fun w hw hAw => by rw [rI, if_neg (by omega)]; exact h35 w hw hAw)
      · rw [u1]
        exact key ν σ u (by omega) (fs_uniq hA u3 u4 u5).symm hF hR u6 h35
theorem s_countGroups {N : Nat} {μ : ZMem} {n : Nat} (hN : 2000 ≤ N) (hn : n ≤ 500) (hc : μ.1 10 0 5 = iI n) : ∃ ν', f_Parting_countGroups N μ = some (iI ((gcS (kyOf μ) (alA μ) n : Nat) : Int), ν') ∧ frP μ ν' ∧ ∀ u, u < n → alA μ u = true → ν'.1 35 0 u = iI ((fs (kyOf μ) (alA μ) u : Nat) : Int) := by
  obtain ⟨μ1, a1, a2, a3⟩ := s_fillI (N := N) (k := 36) (o := 0) (n := 1024) (v := -1) (μ := μ) (by omega) rfl (by omega)
  have hF : frP μ μ1 := ⟨a2, fun k i x q1 q2 => by rw [a3, if_neg (fun e => q2 e.1)]⟩
  unfold f_Parting_countGroups
  rw [a1, zbnd_eq, zlt_eq, zlt_eq]
  exact count_l hN hn hc n 0 N μ1 (fun _ => -1) (by omega) (by omega) hF (fun p hp => by rw [a3, if_pos ⟨rfl, rfl, hp⟩, m1]; exact ⟨rfl, (by show (-1 : Int) ≤ -1; omega), (by show (-1 : Int) < 500; omega)⟩) TI_0 (fun u hu => by omega)
