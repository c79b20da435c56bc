/-! figures: how many, turned round, together, one struck out -/
def dg : Nat → Nat → Nat
  | 0, _ => 0
  | f + 1, v => if v = 0 then 0 else 1 + dg f (v / 10)
def figs (v : Nat) : Nat := 1 + dg 13 (v / 10)
def rv : Nat → Nat → Nat → Nat
  | 0, t, _ => t
  | k + 1, t, l => rv k (t * 10 + l % 10) (l / 10)
def ac : Nat → Nat → Nat → Nat
  | 0, t, _ => t
  | k + 1, t, l => ac k (t + l % 10) (l / 10)
def wo (v x : Nat) : Nat := v / (10 * 10 ^ (figs v - x)) * 10 ^ (figs v - x) + v % 10 ^ (figs v - x)
theorem dg_le : ∀ (f v : Nat), dg f v ≤ f
  | 0, v => Nat.le_refl 0
  | f + 1, v => by
    unfold dg
    split
    · omega
    · have := dg_le f (v / 10)
      omega
theorem dg_small : ∀ (f j v : Nat), v < 10 ^ j → dg f v ≤ j
  | 0, j, v, h => Nat.zero_le _
  | f + 1, 0, v, h => by
    have : v = 0 := by simpa using h
    simp [dg, this]
  | f + 1, j + 1, v, h => by
    unfold dg
    split
    · omega
    · have := dg_small f j (v / 10) (by rw [Nat.pow_succ] at h; omega)
      omega
theorem figs_rng (v : Nat) : 1 ≤ figs v ∧ figs v ≤ 14 := by
  have := dg_le 13 (v / 10)
  unfold figs
  omega
theorem figs_small {v j : Nat} (h : v < 10 ^ (j + 1)) : figs v ≤ j + 1 := by
  have := dg_small 13 j (v / 10) (by rw [Nat.pow_succ] at h; omega)
  unfold figs
  omega
theorem rv_lt : ∀ (k j t l : Nat), t < 10 ^ j → rv k t l < 10 ^ (j + k)
  | 0, j, t, l, h => h
  | k + 1, j, t, l, h => by
    unfold rv
    have := rv_lt k (j + 1) (t * 10 + l % 10) (l / 10) (by rw [Nat.pow_succ]; omega)
    rw [show j + (k + 1) = j + 1 + k by omega]
    exact this
theorem ac_le : ∀ (k t l : Nat), ac k t l ≤ t + 9 * k
  | 0, t, l => Nat.le_refl t
  | k + 1, t, l => by
    unfold ac
    have := ac_le k (t + l % 10) (l / 10)
    omega
theorem rv_zero : ∀ (k t : Nat), t = 0 → rv k t 0 = 0
  | 0, t, h => h
  | k + 1, t, h => by
    unfold rv
    exact rv_zero k _ (by omega)
theorem ac_zero : ∀ (k t : Nat), t = 0 → ac k t 0 = 0
  | 0, t, h => h
  | k + 1, t, h => by
    unfold ac
    exact ac_zero k _ (by omega)
theorem ten_pos (j : Nat) : 0 < 10 ^ j := Nat.pow_pos (by omega)
theorem ztens_lI (j : Nat) : ztens j = lI ((10 ^ j : Nat) : Int) := Int64.ofInt_eq_ofNat.symm
theorem ten_le {j k : Nat} (h : j ≤ k) : 10 ^ j ≤ 10 ^ k := Nat.pow_le_pow_right (by omega) h
theorem ten14 : 10 ^ 14 = 100000000000000 := by decide
theorem fg_loop {N : Nat} {μ : ZMem} {v : Nat} (hv : v < 10000000000000000) : ∀ (f c n : Nat), c + f = 14 → 1 ≤ c → f < n → f_A_figuresOf_l2 N (lI v) n (iI c) μ = some (iI ((c + dg f (v / 10 ^ c) : Nat) : Int), μ)
  | 0, c, n, hc, h1, hn => by
    obtain ⟨m, rfl⟩ : ∃ m, n = m + 1 := ⟨n - 1, by omega⟩
    have : c = 14 := by omega
    subst this
    simp only [f_A_figuresOf_l2]
    rw [zif_t (by decide)]
    rfl
  | f + 1, c, n, hc, h1, hn => by
    obtain ⟨m, rfl⟩ : ∃ m, n = m + 1 := ⟨n - 1, by omega⟩
    simp only [f_A_figuresOf_l2]
    have hten := ten_le (show c ≤ 14 by omega)
    rw [ten14] at hten
    have hpos := ten_pos c
    rw [zif_f (by rw [ilit, iI_le (by omega) (by omega) (by omega) (by omega)]; omega), zchk_t (zin_iI (by omega) (by omega) (by omega)), iI_clamp (by omega) (by omega), Int.toNat_natCast, ztens_lI]
    by_cases h : v < 10 ^ c
    · have h' : (v : Int) < ((10 ^ c : Nat) : Int) := Int.ofNat_lt.mpr h
      rw [zif_f (by rw [lcmp_ge (by omega) (by omega) (by omega) (by omega)]; exact Int.not_le.mpr h')]
      have : v / 10 ^ c = 0 := Nat.div_eq_of_lt h
      rw [this]
      simp [dg, zret]
    · have h' : ((10 ^ c : Nat) : Int) ≤ (v : Int) := Int.ofNat_le.mpr (by omega)
      rw [zif_t (by rw [lcmp_ge (by omega) (by omega) (by omega) (by omega)]; exact h'), zlt_eq, ilit, iI_add]
      have e : ((c : Int) + 1) = ((c + 1 : Nat) : Int) := by omega
      rw [e, fg_loop hv f (c + 1) m (by omega) (by omega) (by omega)]
      have hne : ¬ v / 10 ^ c = 0 := by
        intro q
        have := (Nat.div_eq_zero_iff_lt (ten_pos c)).mp q
        omega
      simp only [dg, if_neg hne, Nat.pow_succ, Nat.div_div_eq_div_mul]
      congr 4
      omega
theorem s_A_figuresOf {N : Nat} {μ : ZMem} {v : Nat} (hN : 20 ≤ N) (hv : v < 10000000000000000) : f_A_figuresOf N μ (lI v) = some (iI (figs v : Int), μ) := by
  unfold f_A_figuresOf
  rw [zlt_eq]
  have := fg_loop (N := N) (μ := μ) hv 13 1 N (by omega) (by omega) (by omega)
  exact this
theorem mfg_loop {N : Nat} {μ : ZMem} : ∀ (f n c w : Nat), w < 10 ^ f → f ≤ 16 → c + f < 100 → f < n → f_M_figuresOf_l8 N n (iI c) (lI w) μ = some (iI ((c + dg f w : Nat) : Int), μ)
  | 0, n, c, w, hw, hf, hc, hn => by
    obtain ⟨m, rfl⟩ : ∃ m, n = m + 1 := ⟨n - 1, by omega⟩
    have : w = 0 := by simpa using hw
    subst this
    simp only [f_M_figuresOf_l8]
    rw [zif_t (by decide)]
    rfl
  | f + 1, n, c, w, hw, hf, hc, hn => by
    obtain ⟨m, rfl⟩ : ∃ m, n = m + 1 := ⟨n - 1, by omega⟩
    have hten := ten_le (show f + 1 ≤ 16 by omega)
    have h16 : 10 ^ 16 = 10000000000000000 := by decide
    simp only [f_M_figuresOf_l8]
    by_cases h : w = 0
    · subst h
      rw [zif_t (by decide)]
      simp [dg, zret]
    · rw [zif_f (by rw [llit, lcmp_le (by omega) (by omega) (by omega) (by omega)]; omega), zlt_eq, zchk_t (by decide), zlt_eq, ilit, iI_add, llit, lI_div (by omega) (by omega) (by omega) (by omega)]
      have e : ((c : Int) + 1) = ((c + 1 : Nat) : Int) := by omega
      have e2 : (w : Int).tdiv 10 = ((w / 10 : Nat) : Int) := by
        rw [Int.tdiv_eq_ediv_of_nonneg (by omega)]; rfl
      rw [e, e2, mfg_loop f m (c + 1) (w / 10) (by rw [Nat.pow_succ] at hw; omega) (by omega) (by omega) (by omega)]
      simp only [dg, if_neg h]
      congr 4
      omega
theorem s_M_figuresOf {N : Nat} {μ : ZMem} {v : Nat} (hN : 20 ≤ N) (hv : v < 100000000000000) : f_M_figuresOf N μ (lI v) = some (iI (figs v : Int), μ) := by
  unfold f_M_figuresOf
  rw [zlt_eq, zchk_t (by decide), zlt_eq, llit, lI_div (by omega) (by omega) (by omega) (by omega)]
  have e2 : (v : Int).tdiv 10 = ((v / 10 : Nat) : Int) := by
    rw [Int.tdiv_eq_ediv_of_nonneg (by omega)]; rfl
  have h13 : 10 ^ 13 = 10000000000000 := by decide
  rw [e2]
  exact mfg_loop 13 N 1 (v / 10) (by omega) (by omega) (by omega) (by omega)
theorem tt_loop {N : Nat} {μ : ZMem} {p : Nat} (hp : p ≤ 14) : ∀ (f n c : Nat), c + f = p → f < n → f_M_tenTo_l4 N (iI p) n (lI ((10 ^ c : Nat) : Int)) (iI c) μ = some (lI ((10 ^ p : Nat) : Int), μ)
  | 0, n, c, hc, hn => by
    obtain ⟨m, rfl⟩ : ∃ m, n = m + 1 := ⟨n - 1, by omega⟩
    have : c = p := by omega
    subst this
    simp only [f_M_tenTo_l4]
    rw [zif_t (by rw [iI_le (by omega) (by omega) (by omega) (by omega)]; omega)]
    rfl
  | f + 1, n, c, hc, hn => by
    obtain ⟨m, rfl⟩ : ∃ m, n = m + 1 := ⟨n - 1, by omega⟩
    simp only [f_M_tenTo_l4]
    rw [zif_f (by rw [iI_le (by omega) (by omega) (by omega) (by omega)]; omega), zlt_eq, zlt_eq, ilit, iI_add, llit, lI_mul]
    have := tt_loop (N := N) (μ := μ) hp f m (c + 1) (by omega) (by omega)
    rw [Nat.pow_succ] at this
    exact this
theorem s_M_tenTo {N : Nat} {μ : ZMem} {p : Nat} (hN : 20 ≤ N) (hp : p ≤ 14) : f_M_tenTo N μ (iI p) = some (lI ((10 ^ p : Nat) : Int), μ) := by
  unfold f_M_tenTo
  rw [zlt_eq, zlt_eq]
  exact tt_loop hp p N 0 (by omega) (by omega)
theorem ten_ne : ¬ (10 : Int64) = 0 := by decide
theorem nat_mod10 (l : Nat) : (l : Int).tmod 10 = ((l % 10 : Nat) : Int) := by rw [Int.tmod_eq_emod_of_nonneg (by omega)]; rfl
theorem nat_div10 (l : Nat) : (l : Int).tdiv 10 = ((l / 10 : Nat) : Int) := by rw [Int.tdiv_eq_ediv_of_nonneg (by omega)]; rfl
theorem tu_loop {N : Nat} {μ : ZMem} : ∀ (k n t l j : Nat), t < 10 ^ j → j + k ≤ 15 → l < 10000000000000000 → k < n → f_Value_turned_l16 N n (lI l) (lI t) (iI k) μ = some (lI ((rv k t l : Nat) : Int), μ)
  | 0, n, t, l, j, ht, hj, hl, hn => by
    obtain ⟨m, rfl⟩ : ∃ m, n = m + 1 := ⟨n - 1, by omega⟩
    simp only [f_Value_turned_l16]
    rw [zif_t (by decide)]
    rfl
  | k + 1, n, t, l, j, ht, hj, hl, hn => by
    obtain ⟨m, rfl⟩ : ∃ m, n = m + 1 := ⟨n - 1, by omega⟩
    have hten := ten_le (show j ≤ 15 by omega)
    have h15 : 10 ^ 15 = 1000000000000000 := by decide
    simp only [f_Value_turned_l16]
    rw [zif_f (by rw [zi0, iI_le (by omega) (by omega) (by omega) (by omega)]; omega)]
    simp only [zlt_eq, zchk_t ten_ne]
    rw [llit, lI_mul, lI_rem (by omega) (by omega) (by omega) (by omega), lI_add, lI_div (by omega) (by omega) (by omega) (by omega), ilit, iI_neg, iI_add, nat_mod10, nat_div10]
    have e1 : ((t : Int) * 10 + ((l % 10 : Nat) : Int)) = ((t * 10 + l % 10 : Nat) : Int) := by omega
    have e2 : (((k + 1 : Nat) : Int) + -1) = (k : Int) := by omega
    rw [e1, e2, tu_loop k m (t * 10 + l % 10) (l / 10) (j + 1) (by rw [Nat.pow_succ]; omega) (by omega) (by omega) (by omega)]
    rfl
theorem ac_loop {N : Nat} {μ : ZMem} : ∀ (k n t l : Nat), t + 9 * k < 1000 → k < 50 → l < 10000000000000000 → k < n → f_Value_across_l16 N n (lI l) (lI t) (iI k) μ = some (lI ((ac k t l : Nat) : Int), μ)
  | 0, n, t, l, ht, hj, hl, hn => by
    obtain ⟨m, rfl⟩ : ∃ m, n = m + 1 := ⟨n - 1, by omega⟩
    simp only [f_Value_across_l16]
    rw [zif_t (by decide)]
    rfl
  | k + 1, n, t, l, ht, hj, hl, hn => by
    obtain ⟨m, rfl⟩ : ∃ m, n = m + 1 := ⟨n - 1, by omega⟩
    simp only [f_Value_across_l16]
    rw [zif_f (by rw [zi0, iI_le (by omega) (by omega) (by omega) (by omega)]; omega)]
    simp only [zlt_eq, zchk_t ten_ne]
    rw [llit, lI_rem (by omega) (by omega) (by omega) (by omega), lI_add, lI_div (by omega) (by omega) (by omega) (by omega), ilit, iI_neg, iI_add, nat_mod10, nat_div10]
    have e1 : ((t : Int) + ((l % 10 : Nat) : Int)) = ((t + l % 10 : Nat) : Int) := by omega
    have e2 : (((k + 1 : Nat) : Int) + -1) = (k : Int) := by omega
    rw [e1, e2, ac_loop k m (t + l % 10) (l / 10) (by omega) (by omega) (by omega) (by omega)]
    rfl

theorem mtu_loop {N : Nat} {μ : ZMem} : ∀ (f n t l j : Nat), l < 10 ^ f → t < 10 ^ j → j + f ≤ 16 → f < n → f_M_turned_l5 N n (lI t) (lI l) μ = some (lI ((rv (dg f l) t l : Nat) : Int), μ)
  | 0, n, t, l, j, hl, ht, hj, hn => by
    obtain ⟨m, rfl⟩ : ∃ m, n = m + 1 := ⟨n - 1, by omega⟩
    have : l = 0 := by simpa using hl
    subst this
    simp only [f_M_turned_l5]
    rw [zif_t (by decide)]
    rfl
  | f + 1, n, t, l, j, hl, ht, hj, hn => by
    obtain ⟨m, rfl⟩ : ∃ m, n = m + 1 := ⟨n - 1, by omega⟩
    have hten := ten_le (show j ≤ 16 by omega)
    have hten2 := ten_le (show f + 1 ≤ 16 by omega)
    have h16 : 10 ^ 16 = 10000000000000000 := by decide
    simp only [f_M_turned_l5]
    by_cases h : l = 0
    · subst h
      rw [zif_t (by decide)]
      simp [dg, rv, zret]
    · rw [zif_f (by rw [llit, lcmp_le (by omega) (by omega) (by omega) (by omega)]; omega)]
      simp only [zlt_eq, zchk_t ten_ne]
      rw [llit, lI_mul, lI_rem (by omega) (by omega) (by omega) (by omega), lI_add, lI_div (by omega) (by omega) (by omega) (by omega), nat_mod10, nat_div10]
      have e1 : (10 * (t : Int) + ((l % 10 : Nat) : Int)) = ((t * 10 + l % 10 : Nat) : Int) := by omega
      rw [e1, mtu_loop f m (t * 10 + l % 10) (l / 10) (j + 1) (by rw [Nat.pow_succ] at hl; omega) (by rw [Nat.pow_succ]; omega) (by omega) (by omega)]
      simp only [dg, if_neg h, Nat.add_comm 1, rv]
theorem mac_loop {N : Nat} {μ : ZMem} : ∀ (f n t l : Nat), l < 10 ^ f → t + 9 * f < 1000 → f ≤ 16 → f < n → f_M_across_l5 N n (lI t) (lI l) μ = some (lI ((ac (dg f l) t l : Nat) : Int), μ)
  | 0, n, t, l, hl, ht, hj, hn => by
    obtain ⟨m, rfl⟩ : ∃ m, n = m + 1 := ⟨n - 1, by omega⟩
    have : l = 0 := by simpa using hl
    subst this
    simp only [f_M_across_l5]
    rw [zif_t (by decide)]
    rfl
  | f + 1, n, t, l, hl, ht, hj, hn => by
    obtain ⟨m, rfl⟩ : ∃ m, n = m + 1 := ⟨n - 1, by omega⟩
    have hten2 := ten_le (show f + 1 ≤ 16 by omega)
    have h16 : 10 ^ 16 = 10000000000000000 := by decide
    simp only [f_M_across_l5]
    by_cases h : l = 0
    · subst h
      rw [zif_t (by decide)]
      simp [dg, ac, zret]
    · rw [zif_f (by rw [llit, lcmp_le (by omega) (by omega) (by omega) (by omega)]; omega)]
      simp only [zlt_eq, zchk_t ten_ne]
      rw [llit, lI_rem (by omega) (by omega) (by omega) (by omega), lI_add, lI_div (by omega) (by omega) (by omega) (by omega), nat_mod10, nat_div10]
      have e1 : ((t : Int) + ((l % 10 : Nat) : Int)) = ((t + l % 10 : Nat) : Int) := by omega
      rw [e1, mac_loop f m (t + l % 10) (l / 10) (by rw [Nat.pow_succ] at hl; omega) (by omega) (by omega) (by omega)]
      simp only [dg, if_neg h, Nat.add_comm 1, ac]
theorem figs_pos {v : Nat} (h : v ≠ 0) : figs v = dg 14 v := by
  unfold figs
  rw [show dg 14 v = if v = 0 then 0 else 1 + dg 13 (v / 10) from rfl, if_neg h]
theorem s_Value_turned {N : Nat} {μ : ZMem} {o v : Nat} (hN : 20 ≤ N) (hv : v < 10000000000000) (hr : μ.2 7 o 0 = lI v) : f_Value_turned N μ o = some (lI ((rv (figs v) 0 v : Nat) : Int), μ) := by
  unfold f_Value_turned
  simp only [zlt_eq]
  rw [hr, s_A_figuresOf hN (by omega), zbnd_eq]
  have h1 := figs_rng v
  exact tu_loop (figs v) N 0 v 0 (by simp) (by omega) (by omega) (by omega)
theorem s_Value_across {N : Nat} {μ : ZMem} {o v : Nat} (hN : 20 ≤ N) (hv : v < 10000000000000) (hr : μ.2 7 o 0 = lI v) : f_Value_across N μ o = some (lI ((ac (figs v) 0 v : Nat) : Int), μ) := by
  unfold f_Value_across
  simp only [zlt_eq]
  rw [hr, s_A_figuresOf hN (by omega), zbnd_eq]
  have h1 := figs_rng v
  exact ac_loop (figs v) N 0 v (by omega) (by omega) (by omega) (by omega)
theorem s_M_turned {N : Nat} {μ : ZMem} {v : Nat} (hN : 20 ≤ N) (hv : v < 10000000000000) : f_M_turned N μ (lI v) = some (lI ((rv (figs v) 0 v : Nat) : Int), μ) := by
  unfold f_M_turned
  simp only [zlt_eq]
  have h14 : 10 ^ 14 = 100000000000000 := by decide
  have := mtu_loop (N := N) (μ := μ) 14 N 0 v 0 (by omega) (by simp) (by omega) (by omega)
  by_cases h : v = 0
  · subst h
    rw [rv_zero _ _ rfl] at this ⊢
    exact this
  · rw [← figs_pos h] at this
    exact this
theorem s_M_across {N : Nat} {μ : ZMem} {v : Nat} (hN : 20 ≤ N) (hv : v < 10000000000000) : f_M_across N μ (lI v) = some (lI ((ac (figs v) 0 v : Nat) : Int), μ) := by
  unfold f_M_across
  simp only [zlt_eq]
  have h14 : 10 ^ 14 = 100000000000000 := by decide
  have := mac_loop (N := N) (μ := μ) 14 N 0 v (by omega) (by omega) (by omega) (by omega)
  by_cases h : v = 0
  · subst h
    rw [ac_zero _ _ rfl] at this ⊢
    exact this
  · rw [← figs_pos h] at this
    exact this
theorem wo_le {v x : Nat} : wo v x ≤ v := by
  unfold wo
  generalize 10 ^ (figs v - x) = T
  rw [← Nat.div_div_eq_div_mul]
  have h1 : v / 10 / T * T ≤ v / T * T := Nat.mul_le_mul_right T (Nat.div_le_div_right (Nat.div_le_self v 10))
  have h2 := Nat.div_add_mod v T
  rw [Nat.mul_comm] at h2
  omega
theorem s_Value_without {N : Nat} {μ : ZMem} {o v x : Nat} (hN : 20 ≤ N) (hv : v < 10000000000000) (hr : μ.2 7 o 0 = lI v) (hx1 : 1 ≤ x) (hx : x ≤ figs v) : f_Value_without N μ o (iI x) = some (lI (wo v x : Int), μ) := by
  unfold f_Value_without
  have h1 := figs_rng v
  have hT := ten_pos (figs v - x)
  have hT2 := ten_le (show figs v - x ≤ 14 by omega)
  rw [ten14] at hT2
  rw [hr, s_A_figuresOf hN (by omega), zbnd_eq, zlt_eq, iI_sub, show (figs v : Int) - (x : Int) = ((figs v - x : Nat) : Int) by omega]
  rw [zif_f (by rw [zi0, iI_lt (by omega) (by omega) (by omega) (by omega)]; omega), zif_t (by rw [ilit, iI_lt (by omega) (by omega) (by omega) (by omega)]; omega), zchk_t (zin_iI (by omega) (by omega) (by omega)), iI_clamp (by omega) (by omega), Int.toNat_natCast, ztens_lI, zlt_eq, hr]
  unfold wo
  generalize 10 ^ (figs v - x) = T at hT hT2 ⊢
  rw [zif_f (by rw [llit, lcmp_le (by omega) (by omega) (by omega) (by omega)]; omega)]
  have hz : ¬ lI (T : Int) = 0 := by rw [zl0, lI_eq (by omega) (by omega) (by omega) (by omega)]; omega
  have e1 : (v : Int).tdiv (T : Int) = ((v / T : Nat) : Int) := by rw [Int.tdiv_eq_ediv_of_nonneg (by omega)]; rfl
  have e2 : (v : Int).tmod (T : Int) = ((v % T : Nat) : Int) := by rw [Int.tmod_eq_emod_of_nonneg (by omega)]; rfl
  have h2 : v / T ≤ v := Nat.div_le_self v T
  simp only [zchk_t hz, zchk_t ten_ne]
  rw [lI_div (by omega) (by omega) (by omega) (by omega), lI_rem (by omega) (by omega) (by omega) (by omega), e1, e2, Nat.mul_comm 10 T, ← Nat.div_div_eq_div_mul]
  generalize v / T = q at h2 ⊢
  rw [llit, lI_div (by omega) (by omega) (by omega) (by omega), nat_div10, lI_mul, lI_add]
  simp [zret]
