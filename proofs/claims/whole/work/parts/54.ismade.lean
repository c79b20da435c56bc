/-! made: the reference counts through all rows of a length -/
theorem KN.fr {ν ν' : ZMem} {c : Nat} {kd xs : Nat → Int} (h : KN ν c kd xs) (f : ∀ x, ν'.1 40 0 x = ν.1 40 0 x) : KN ν' c kd xs := by
  unfold KN at h ⊢
  simp only [f]
  exact h
theorem leadsAll_l {N : Nat} {μ : ZMem} {c l n : Nat} {kd xs : Nat → Int} {low goal : Int} {q : Nat → Nat} (hN : 130 ≤ N) (hK : KN μ c kd xs) (hn1 : 1 ≤ n) (hn : n ≤ 100) (hl0 : 0 ≤ low) (hl1 : low + n ≤ 10000) (hl : l ≤ 5) (hq : ∀ i, i < l → μ.1 51 0 i = iI (q i) ∧ q i < c) (hg0 : 0 ≤ goal) (hg : goal ≤ 9999) :
    ∀ (f j fuel : Nat) (ν : ZMem), j + f = n → f < fuel → fqL μ ν → (∀ j', j' < j → rl kd xs low j' q l 0 (low + (j' : Int)) = some goal) → ∃ b ν', f_M_leadsAll_l3 N (iI (low + (n : Int) - 1)) (iI goal) (iI l) fuel (iI (low + (j : Int))) ν = some (bI b, ν') ∧ fqL μ ν' ∧ (b = true ↔ LD kd xs low goal n q l 0 (fun j => low + (j : Int)))
  | 0, j, fuel, ν, e1, e2, hF, hi => by
    obtain ⟨f, rfl⟩ : ∃ q, fuel = q + 1 := ⟨fuel - 1, by omega⟩
    refine ⟨true, ν, ?_, hF, fun _ j' hj' => hi j' (by omega), fun _ => rfl⟩
    simp only [f_M_leadsAll_l3]
    rw [zif_t (by rw [iI_lt (by omega) (by omega) (by omega) (by omega)]; omega)]; rfl
  | f + 1, j, fuel, ν, e1, e2, hF, hi => by
    obtain ⟨fu, rfl⟩ : ∃ q, fuel = q + 1 := ⟨fuel - 1, by omega⟩
    have e : iI (low + (j : Int)) + (1 : Int32) = iI (low + ((j + 1 : Nat) : Int)) := by rw [ilit, iI_add]; congr 1; omega
    have hK' : KN ν c kd xs := hK.fr (fun x => hF.1 40 0 x (by omega))
    obtain ⟨ν', h1, h2⟩ := s_leads (N := N) (μ := ν) (c := c) (l := l) (j := j) (low := low) (goal := goal) (q := q) hN hK' (by omega) (by omega) hl (fun i hi => by rw [hF.1 51 0 i (by omega)]; exact hq i hi) hg0 hg
    simp only [f_M_leadsAll_l3]
    rw [zif_f (by rw [iI_lt (by omega) (by omega) (by omega) (by omega)]; omega), h1, zbnd_eq]
    by_cases c : rl kd xs low j q l 0 (low + (j : Int)) = some goal
    · rw [show decide (rl kd xs low j q l 0 (low + (j : Int)) = some goal) = true from decide_eq_true c, zif_f (by decide), zlt_eq, e]
      exact leadsAll_l hN hK hn1 hn hl0 hl1 hl hq hg0 hg f (j + 1) fu ν' (by omega) (by omega) (hF.tr h2) (fun j' hj' => by
        by_cases c' : j' = j
        · rw [c']; exact c
        · exact hi j' (by omega))
    · rw [show decide (rl kd xs low j q l 0 (low + (j : Int)) = some goal) = false from decide_eq_false c, zif_t (show bI false = 0 from rfl)]
      exact ⟨false, ν', rfl, hF.tr h2, fun q => (by cases q), fun q => absurd (q j (by omega)) c⟩
theorem s_leadsAll {N : Nat} {μ : ZMem} {c l n : Nat} {kd xs : Nat → Int} {low goal : Int} {q : Nat → Nat} (hN : 130 ≤ N) (hK : KN μ c kd xs) (hn1 : 1 ≤ n) (hn : n ≤ 100) (hl0 : 0 ≤ low) (hl1 : low + n ≤ 10000) (hl : l ≤ 5) (hq : ∀ i, i < l → μ.1 51 0 i = iI (q i) ∧ q i < c) (hg0 : 0 ≤ goal) (hg : goal ≤ 9999) : ∃ b ν', f_M_leadsAll N μ (iI low) (iI (low + (n : Int) - 1)) (iI goal) (iI l) = some (bI b, ν') ∧ fqL μ ν' ∧ (b = true ↔ LD kd xs low goal n q l 0 (fun j => low + (j : Int))) := by
  have := leadsAll_l (N := N) (μ := μ) hN hK hn1 hn hl0 hl1 hl hq hg0 hg n 0 N μ (by omega) (by omega) fqL.rf (fun j' h => by omega)
  rw [show low + ((0 : Nat) : Int) = low by omega] at this
  exact this
/-- the figures of a number to the base c, the first first -/
def Dg (c l z i : Nat) : Nat := (z / c ^ (l - 1 - i)) % c
def VV (c : Nat) (q : Nat → Nat) : Nat → Nat
  | 0 => 0
  | m + 1 => VV c q m * c + q m
theorem VV_lt {c : Nat} {q : Nat → Nat} : ∀ m, (∀ i, i < m → q i < c) → VV c q m < c ^ m
  | 0, _ => by simp [VV]
  | m + 1, h => by
    have h1 := VV_lt m (fun i hi => h i (by omega))
    have h2 := h m (by omega)
    have h3 : (VV c q m + 1) * c ≤ c ^ m * c := Nat.mul_le_mul_right c h1
    rw [Nat.add_mul, Nat.one_mul] at h3
    rw [Nat.pow_succ]
    show VV c q m * c + q m < _
    omega
theorem VV_div {c : Nat} {q : Nat → Nat} (m : Nat) : ∀ k, (∀ i, i < m + k → q i < c) → VV c q (m + k) / c ^ k = VV c q m
  | 0, _ => by simp
  | k + 1, h => by
    have h2 := h (m + k) (by omega)
    rw [Nat.pow_succ, Nat.mul_comm, ← Nat.div_div_eq_div_mul]
    have : VV c q (m + (k + 1)) / c = VV c q (m + k) := by
      show (VV c q (m + k) * c + q (m + k)) / c = _
      rw [Nat.mul_comm, Nat.mul_add_div (by omega), Nat.div_eq_of_lt h2, Nat.add_zero]
    rw [this]
    exact VV_div m k (fun i hi => h i (by omega))
theorem Dg_VV {c l : Nat} {q : Nat → Nat} (h : ∀ i, i < l → q i < c) {i : Nat} (hi : i < l) : Dg c l (VV c q l) i = q i := by
  unfold Dg
  have := VV_div (c := c) (q := q) (i + 1) (l - 1 - i) (fun k hk => h k (by omega))
  rw [show i + 1 + (l - 1 - i) = l by omega] at this
  rw [this]
  show (VV c q i * c + q i) % c = q i
  rw [Nat.mul_comm, Nat.mul_add_mod, Nat.mod_eq_of_lt (h i hi)]
theorem VV_Dg {c l z : Nat} (hz : z < c ^ l) : ∀ m, m ≤ l → VV c (Dg c l z) m = z / c ^ (l - m)
  | 0, _ => by
    rw [Nat.sub_zero, Nat.div_eq_of_lt hz]; rfl
  | m + 1, h => by
    show VV c (Dg c l z) m * c + Dg c l z m = _
    rw [VV_Dg hz m (by omega)]
    unfold Dg
    rw [show l - 1 - m = l - (m + 1) by omega, show l - m = (l - (m + 1)) + 1 by omega, Nat.pow_succ, ← Nat.div_div_eq_div_mul, Nat.mul_comm]
    exact Nat.div_add_mod _ _
theorem VV_lx {c : Nat} {q q' : Nat → Nat} {i : Nat} (hq' : ∀ k, q' k < c) (h1 : ∀ k, k < i → q' k = q k) (h2 : q' i < q i) : ∀ m, VV c q' (i + 1 + m) < VV c q (i + 1 + m)
  | 0 => by
    have e : ∀ m, m ≤ i → VV c q' m = VV c q m := by
      intro m
      induction m with
      | zero => intro _; rfl
      | succ m ih => intro hm; show VV c q' m * c + q' m = VV c q m * c + q m; rw [ih (by omega), h1 m (by omega)]
    show VV c q' i * c + q' i < VV c q i * c + q i
    rw [e i (by omega)]; omega
  | m + 1 => by
    have ih := VV_lx hq' h1 h2 m
    show VV c q' (i + 1 + m) * c + q' (i + 1 + m) < VV c q (i + 1 + m) * c + q (i + 1 + m)
    have h3 : (VV c q' (i + 1 + m) + 1) * c ≤ VV c q (i + 1 + m) * c := Nat.mul_le_mul_right c ih
    rw [Nat.add_mul, Nat.one_mul] at h3
    have := hq' (i + 1 + m)
    omega
theorem tmod_nat (v c : Nat) : (v : Int).tmod (c : Int) = ((v % c : Nat) : Int) := rfl
theorem tdiv_nat (v c : Nat) : (v : Int).tdiv (c : Int) = ((v / c : Nat) : Int) := rfl
theorem figs_l {N : Nat} {p0 p1 p2 p3 x8 z11 : Int32} {kx : ZMem → Option (Int32 × ZMem)} {c : Nat} (hc0 : 0 < c) (hc : c ≤ 6) : ∀ (i fuel v : Nat) (ν : ZMem), i ≤ 5 → i < fuel → v < 10000 → ν.1 40 0 6 = iI c → ∃ ν', f_M_isMade_l51 N p0 p1 p2 p3 x8 z11 kx fuel (iI v) (iI ((i : Int) - 1)) ν = kx ν' ∧ ν'.2 = ν.2 ∧ (∀ k j x, ¬ (k = 51 ∧ j = 0 ∧ x < i) → ν'.1 k j x = ν.1 k j x) ∧ ∀ x, x < i → ν'.1 51 0 x = iI (Dg c i v x)
  | 0, fuel, v, ν, h1, h2, h3, h4 => by
    obtain ⟨fu, rfl⟩ : ∃ q, fuel = q + 1 := ⟨fuel - 1, by omega⟩
    refine ⟨ν, ?_, rfl, fun _ _ _ _ => rfl, fun x h => by omega⟩
    simp only [f_M_isMade_l51]
    rw [zif_t (by rw [zi0, iI_lt (by omega) (by omega) (by omega) (by omega)]; omega)]
  | i + 1, fuel, v, ν, h1, h2, h3, h4 => by
    obtain ⟨fu, rfl⟩ : ∃ q, fuel = q + 1 := ⟨fuel - 1, by omega⟩
    have ei : iI (((i + 1 : Nat) : Int) - 1) = iI (i : Int) := by congr 1; omega
    have ei2 : iI (i : Int) + (-1 : Int32) = iI ((i : Int) - 1) := by rw [m1, iI_add]; rfl
    have hne : ¬ iI (c : Int) = (0 : Int32) := by rw [zi0, iI_eq (by omega) (by omega) (by omega) (by omega)]; omega
    have er : zremI (iI (v : Int)) (iI (c : Int)) = iI ((v % c : Nat) : Int) := by rw [iI_rem (by omega) (by omega) (by omega) (by omega), tmod_nat]
    have ev : iI (v : Int) / iI (c : Int) = iI ((v / c : Nat) : Int) := by rw [iI_div (by omega) (by omega) (by omega) (by omega), tdiv_nat]
    obtain ⟨ν1, hν1⟩ : ∃ ν1, ν1 = zsetI ν 51 0 i (iI ((v % c : Nat) : Int)) := ⟨_, rfl⟩
    have hc1 : ν1.1 40 0 6 = iI c := by rw [hν1, rI, if_neg (by omega)]; exact h4
    obtain ⟨ν', g1, g2, g3, g4⟩ := figs_l (N := N) (p0 := p0) (p1 := p1) (p2 := p2) (p3 := p3) (x8 := x8) (z11 := z11) (kx := kx) hc0 hc i fu (v / c) ν1 (by omega) (by omega) (by have := Nat.div_le_self v c; omega) hc1
    refine ⟨ν', ?_, by rw [g2, hν1]; rfl, fun k j x q => ?_, fun x hx => ?_⟩
    · simp only [f_M_isMade_l51, ei]
      have z6 : zin (6 : Int32) (zlen 40 0) := by decide
      rw [zif_f (by rw [zi0, iI_lt (by omega) (by omega) (by omega) (by omega)]; omega), zchk_t z6]
      simp only [show (6 : Int32).toNatClampNeg = 6 from rfl, h4, zlt_eq, er, cl_nat (show i < 2147483648 by omega), ← hν1, hc1, ev, ei2]
      rw [zchk_t hne, zchk_t (zin_k 5 rfl (by omega) (by omega) (by omega)), zchk_t z6, zchk_t hne]
      exact g1
    · rw [g3 k j x (fun e => q ⟨e.1, e.2.1, by omega⟩), hν1, rI, if_neg (fun e => q ⟨e.1, e.2.1, by omega⟩)]
    · by_cases c' : x = i
      · rw [g3 51 0 x (by omega), hν1, rI, if_pos ⟨rfl, rfl, c'⟩]
        unfold Dg
        rw [c', show i + 1 - 1 - i = 0 by omega, Nat.pow_zero, Nat.div_one]
      · rw [g4 x (by omega)]
        unfold Dg
        rw [Nat.div_div_eq_div_mul, show i + 1 - 1 - x = (i - 1 - x) + 1 by omega, Nat.pow_succ, Nat.mul_comm c]
