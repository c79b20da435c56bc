/-! known: both tables are one, and the calls -/
def Vm (μ : ZMem) (a b : Nat) : Nat := (μ.1 52 0 (24 * a + b)).toInt.toNat
theorem E0_congr {n : Nat} {m : Nat → Nat} {hi u x v : Nat} {V V' : Nat → Nat → Nat} (hn : n ≤ 6) (hu : u < 2 ^ n) (h : ∀ a b, u < a → a < 2 ^ n → b < hi → V a b = V' a b) (hE : E0 n m hi V u x v) : E0 n m hi V' u x v := by
  have h64 := pow64 hn
  have e : ∀ i, i < n → u.testBit i = false → mxS (lk n m u x) (V (u ||| 2 ^ i)) hi = mxS (lk n m u x) (V' (u ||| 2 ^ i)) hi := fun i hi' hb =>
    mxS_congr (fun y hy => ⟨rfl, h _ y (or_gt ⟨u, by omega⟩ ⟨i, by omega⟩ hb) (or_in hu hi') hy⟩)
  obtain ⟨h1, h2⟩ := hE
  refine ⟨h1, fun c => ?_⟩
  obtain ⟨a1, a2, a3⟩ := h2 c
  refine ⟨a1, fun i hi' hb => by rw [← e i hi' hb]; exact a2 i hi' hb, ?_⟩
  rcases a3 with q | ⟨i, i1, i2, i3⟩
  · exact Or.inl q
  · exact Or.inr ⟨i, i1, i2, by rw [← e i i1 i2]; exact i3⟩
def fr52 (ν ν' : ZMem) : Prop := (∀ k i x, ¬ (k = 52 ∧ i = 0) → ν'.1 k i x = ν.1 k i x) ∧ ν'.2 = ν.2
theorem fr52.same {ν ν' : ZMem} (h : fr52 ν ν') : Same ν ν' := ⟨fun k i x q => h.1 k i x (fun e => by rw [e.1] at q; revert q; simp [relI]), fun k i x _ => by rw [h.2]⟩
theorem askN.fr {ν ν' : ZMem} {n : Nat} {m : Nat → Nat} (h : askN ν n m) (f : fr52 ν ν') : askN ν' n m := by
  unfold askN at h ⊢
  simp only [f.1 40 0 _ (show ¬ (40 = 52 ∧ 0 = 0) by omega)]
  exact h
def dn (μ : ZMem) (n hi : Nat) (m : Nat → Nat) (u' y : Nat) : Prop := μ.1 52 0 (24 * u' + y) = iI (Vm μ u' y : Nat) ∧ Vm μ u' y ≤ 100 ∧ E0 n m hi (Vm μ) u' y (Vm μ u' y)
theorem known_li {N n hi u : Nat} {m : Nat → Nat} {μ : ZMem} {p1 : Int32} {kx : ZMem → Option (Int32 × ZMem)} (hN : 30 ≤ N) (hA : askN μ n m) (hu : u < 2 ^ n) (hhi : hi ≤ 24) : ∀ (f x fuel : Nat) (ν : ZMem), x + f = hi → f < fuel → fr52 μ ν → (∀ u' y, u' < 2 ^ n → y < hi → (u < u' ∨ (u' = u ∧ y < x)) → dn ν n hi m u' y) → ∃ ν', f_M_known_l31 N (iI hi) p1 (iI u) kx fuel (iI x) ν = kx ν' ∧ fr52 μ ν' ∧ ∀ u' y, u' < 2 ^ n → y < hi → u ≤ u' → dn ν' n hi m u' y
  | 0, x, fuel, ν, e1, e2, hF, h => by
    obtain ⟨q, rfl⟩ : ∃ q, fuel = q + 1 := ⟨fuel - 1, by omega⟩
    refine ⟨ν, ?_, hF, fun u' y h1 h2 h3 => h u' y h1 h2 (by omega)⟩
    simp only [f_M_known_l31]
    rw [zif_t (by rw [iI_le (by omega) (by omega) (by omega) (by omega)]; omega)]
  | f + 1, x, fuel, ν, e1, e2, hF, h => by
    obtain ⟨q, rfl⟩ : ∃ q, fuel = q + 1 := ⟨fuel - 1, by omega⟩
    have hA' := hA.fr hF
    have h64 := pow64 hA.1
    have hT : ∀ u', u < u' → u' < 2 ^ n → tbC ν hi u' (Vm ν) := fun u' h1 h2 y hy => ⟨(h u' y h2 hy (Or.inl h1)).1, (h u' y h2 hy (Or.inl h1)).2.1⟩
    obtain ⟨v, v1, v2, v3⟩ := s_reckon (N := N) (μ := ν) (V := Vm ν) hN hA' hu hhi (show x < hi by omega) hT
    have e : iI (x : Int) + (1 : Int32) = iI ((x + 1 : Nat) : Int) := by rw [ilit, iI_add]; congr 1
    have ei : (24 : Int32) * iI (u : Int) + iI (x : Int) = iI ((24 * u + x : Nat) : Int) := by rw [ilit, iI_mul, iI_add]; rfl
    have z52 : zin (iI ((24 * u + x : Nat) : Int)) (zlen 52 0) := zin_k 1536 rfl (by omega) (by omega) (by omega)
    obtain ⟨ω, hω⟩ : ∃ ω, ω = zsetI ν 52 0 (24 * u + x) (iI (v : Int)) := ⟨_, rfl⟩
    have hF' : fr52 μ ω := ⟨fun k i y q => by rw [hω, rI, if_neg (fun e => q ⟨e.1, e.2.1⟩)]; exact hF.1 k i y q, by rw [hω]; exact hF.2⟩
    have hr : ∀ a b, b < hi → ω.1 52 0 (24 * a + b) = if a = u ∧ b = x then iI (v : Int) else ν.1 52 0 (24 * a + b) := fun a b hb => by
      rw [hω, rI]
      by_cases c : a = u ∧ b = x
      · rw [if_pos ⟨rfl, rfl, by rw [c.1, c.2]⟩, if_pos c]
      · rw [if_neg (fun e => c (by omega)), if_neg c]
    have hVu : Vm ω u x = v := by
      unfold Vm
      rw [hr u x (by omega), if_pos ⟨rfl, rfl⟩, iI_toInt (by omega) (by omega)]; omega
    have hVo : ∀ a b, b < hi → ¬ (a = u ∧ b = x) → Vm ω a b = Vm ν a b := fun a b hb c => by
      unfold Vm
      rw [hr a b hb, if_neg c]
    simp only [f_M_known_l31]
    rw [zif_f (by rw [iI_le (by omega) (by omega) (by omega) (by omega)]; omega), v2, zbnd_eq]
    simp only [ei, zlt_eq, e, cl_nat (show 24 * u + x < 2147483648 by omega), ← hω, zchk_t z52]
    refine known_li hN hA hu hhi f (x + 1) q ω (by omega) (by omega) hF' (fun u' y h1 h2 h3 => ?_)
    by_cases c : u' = u ∧ y = x
    · obtain ⟨rfl, rfl⟩ := c
      unfold dn
      rw [hVu]
      refine ⟨by rw [hr _ _ h2, if_pos ⟨rfl, rfl⟩], v1, E0_congr hA.1 hu (fun a b h4 h5 h6 => (hVo a b h6 (by omega)).symm) v3⟩
    · obtain ⟨d1, d2, d3⟩ := h u' y h1 h2 (by omega)
      unfold dn
      rw [hVo u' y h2 c]
      exact ⟨by rw [hr _ _ h2, if_neg c]; exact d1, d2, E0_congr hA.1 h1 (fun a b h4 h5 h6 => (hVo a b h6 (by omega)).symm) d3⟩
theorem known_lo {N n hi : Nat} {m : Nat → Nat} {μ : ZMem} {p1 : Int32} {kx : ZMem → Option (Int32 × ZMem)} (hN : 30 ≤ N) (hA : askN μ n m) (hhi : hi ≤ 24) : ∀ (k fuel : Nat) (ν : ZMem), k ≤ 2 ^ n → k < fuel → fr52 μ ν → (∀ u' y, u' < 2 ^ n → y < hi → k ≤ u' → dn ν n hi m u' y) → ∃ ν', f_M_known_l24 N (iI hi) p1 kx fuel (iI ((k : Int) - 1)) ν = kx ν' ∧ fr52 μ ν' ∧ ∀ u' y, u' < 2 ^ n → y < hi → dn ν' n hi m u' y
  | 0, fuel, ν, e1, e2, hF, h => by
    obtain ⟨q, rfl⟩ : ∃ q, fuel = q + 1 := ⟨fuel - 1, by omega⟩
    refine ⟨ν, ?_, hF, fun u' y h1 h2 => h u' y h1 h2 (by omega)⟩
    simp only [f_M_known_l24]
    rw [zif_t (by rw [zi0, iI_lt (by omega) (by omega) (by omega) (by omega)]; omega)]
  | k + 1, fuel, ν, e1, e2, hF, h => by
    obtain ⟨q, rfl⟩ : ∃ q, fuel = q + 1 := ⟨fuel - 1, by omega⟩
    have h64 := pow64 hA.1
    have ek : iI (((k + 1 : Nat) : Int) - 1) = iI (k : Int) := by congr 1; omega
    have ek2 : iI (k : Int) + (-1 : Int32) = iI ((k : Int) - 1) := by rw [m1, iI_add]; rfl
    simp only [f_M_known_l24, ek]
    rw [zif_f (by rw [zi0, iI_lt (by omega) (by omega) (by omega) (by omega)]; omega)]
    simp only [zlt_eq, ek2]
    obtain ⟨ν', g1, g2, g3⟩ := known_li (N := N) (p1 := p1) (kx := fun (μ13 : ZMem) => f_M_known_l24 N (iI hi) p1 kx q (iI ((k : Int) - 1)) μ13) hN hA (show k < 2 ^ n by omega) hhi hi 0 N ν (by omega) (by omega) hF (fun u' y h1 h2 h3 => h u' y h1 h2 (by omega))
    obtain ⟨ν'', k1, k2, k3⟩ := known_lo (N := N) (p1 := p1) (kx := kx) hN hA hhi k q ν' (by omega) (by omega) g2 g3
    exact ⟨ν'', g1.trans k1, k2, k3⟩
/-- the lowest ask that is a best first one -/
def bf (n : Nat) (m : Nat → Nat) (hi : Nat) (V : Nat → Nat → Nat) (i : Nat) : Prop := V 0 0 = 1 + mxS (lk n m 0 0) (V (0 ||| 2 ^ i)) hi
def LO (n : Nat) (m : Nat → Nat) (hi : Nat) (V : Nat → Nat → Nat) (r : Int) : Prop := (r = -1 ∧ ∀ i, i < n → ¬ bf n m hi V i) ∨ ∃ i : Nat, r = (i : Int) ∧ i < n ∧ bf n m hi V i ∧ ∀ i', i' < i → ¬ bf n m hi V i'
theorem LO_uniq {n : Nat} {m : Nat → Nat} {hi : Nat} {V : Nat → Nat → Nat} {r r' : Int} (h : LO n m hi V r) (h' : LO n m hi V r') : r = r' := by
  rcases h with ⟨a, b⟩ | ⟨i, a, b, c, d⟩
  · rcases h' with ⟨a', b'⟩ | ⟨i', a', b', c', d'⟩
    · omega
    · exact absurd c' (b i' b')
  · rcases h' with ⟨a', b'⟩ | ⟨i', a', b', c', d'⟩
    · exact absurd c (b' i b)
    · have h1 : ¬ i < i' := fun q => d' i q c
      have h2 : ¬ i' < i := fun q => d i' q c'
      omega
theorem lowM_l {N n hi : Nat} {m : Nat → Nat} {μ : ZMem} (hN : 30 ≤ N) (hA : askN μ n m) (hhi : hi ≤ 24) (h1 : 1 ≤ hi) (hd : ∀ u' y, u' < 2 ^ n → y < hi → dn μ n hi m u' y) (hpos : 0 < Vm μ 0 0) : ∀ (f i fuel : Nat), i + f = n → f < fuel → (∀ i', i' < i → ¬ bf n m hi (Vm μ) i') → ∃ r : Int, f_M_known_l95 N (iI hi) fuel (iI i) μ = some (iI r, μ) ∧ LO n m hi (Vm μ) r
  | 0, i, fuel, e1, e2, h => by
    obtain ⟨q, rfl⟩ : ∃ q, fuel = q + 1 := ⟨fuel - 1, by omega⟩
    obtain ⟨hn, h7, -⟩ := id hA
    refine ⟨-1, ?_, Or.inl ⟨rfl, fun i' hi' => h i' (by omega)⟩⟩
    simp only [f_M_known_l95, show (7 : Int32).toNatClampNeg = 7 from rfl]
    rw [zchk_t (by decide), h7, zif_t (by rw [iI_le (by omega) (by omega) (by omega) (by omega)]; omega)]; rfl
  | f + 1, i, fuel, e1, e2, h => by
    obtain ⟨q, rfl⟩ : ∃ q, fuel = q + 1 := ⟨fuel - 1, by omega⟩
    obtain ⟨hn, h7, -⟩ := id hA
    have h64 := pow64 hn
    have hp0 : 0 < 2 ^ n := Nat.pow_pos (by omega)
    obtain ⟨d1, d2, -⟩ := hd 0 0 hp0 h1
    have d1' : μ.1 52 0 0 = iI (Vm μ 0 0 : Nat) := d1
    have e : iI (i : Int) + (1 : Int32) = iI ((i + 1 : Nat) : Int) := by rw [ilit, iI_add]; congr 1
    have z0 : zin (0 : Int32) (zlen 52 0) := by decide
    have hT : tbC μ hi (0 ||| 2 ^ i) (Vm μ) := fun y hy => by
      obtain ⟨x1, x2, -⟩ := hd (0 ||| 2 ^ i) y (or_in hp0 (by omega)) hy
      exact ⟨x1, x2⟩
    have hle : mxS (lk n m 0 0) (Vm μ (0 ||| 2 ^ i)) hi ≤ 100 := (mxS_le hi).2 (fun z hz _ => (hT z hz).2)
    have ht := s_takesBy (N := N) (u := 0) (x := 0) (i := i) (V := Vm μ) hN hA hp0 hhi h1 (by omega) hT
    simp only [f_M_known_l95, show (7 : Int32).toNatClampNeg = 7 from rfl, show (0 : Int32).toNatClampNeg = 0 from rfl, d1', e, zchk_t z0, zlt_eq]
    rw [zchk_t (by decide), h7, zif_f (by rw [iI_le (by omega) (by omega) (by omega) (by omega)]; omega), zif_f (by rw [zi0, iI_le (by omega) (by omega) (by omega) (by omega)]; omega), show (0 : Int32) = iI ((0 : Nat) : Int) from rfl, ht, zbnd_eq, d1']
    by_cases c : bf n m hi (Vm μ) i
    · rw [zif_t (by unfold bf at c; rw [← c])]
      exact ⟨(i : Int), rfl, Or.inr ⟨i, rfl, by omega, c, h⟩⟩
    · rw [zif_f (by rw [iI_eq (by omega) (by omega) (by omega) (by omega)]; exact fun q => c (by unfold bf; omega))]
      exact lowM_l hN hA hhi h1 hd hpos f (i + 1) q (by omega) (by omega) (fun i' hi' => by
        by_cases ci : i' = i
        · rw [ci]; exact c
        · exact h i' (by omega))
theorem lowA_l {N n hi : Nat} {m : Nat → Nat} {V : Nat → Nat → Nat} {μ : ZMem} {p : Int32} (hN : 30 ≤ N) (hA : askC μ n m) (hV : EQV n m hi V) (hhi : hi ≤ 24) (h1 : 1 ≤ hi) (hp : ST n m hi 0 0 p) (hlt : V 0 0 < 100) : ∀ (f i fuel : Nat), i + f = n → f < fuel → (∀ i', i' < i → ¬ bf n m hi V i') → ∃ r : Int, f_A_lowestFirstAsk_l8 N p (iI (V 0 0 : Nat)) fuel (iI i) μ = some (iI r, μ) ∧ LO n m hi V r
  | 0, i, fuel, e1, e2, h => by
    obtain ⟨q, rfl⟩ : ∃ q, fuel = q + 1 := ⟨fuel - 1, by omega⟩
    obtain ⟨hn, h56, -⟩ := id hA
    refine ⟨-1, ?_, Or.inl ⟨rfl, fun i' hi' => h i' (by omega)⟩⟩
    simp only [f_A_lowestFirstAsk_l8]
    rw [h56, zif_t (by rw [iI_le (by omega) (by omega) (by omega) (by omega)]; omega)]; rfl
  | f + 1, i, fuel, e1, e2, h => by
    obtain ⟨q, rfl⟩ : ∃ q, fuel = q + 1 := ⟨fuel - 1, by omega⟩
    obtain ⟨hn, h56, -⟩ := id hA
    have h64 := pow64 hn
    have hp0 : 0 < 2 ^ n := Nat.pow_pos (by omega)
    have e : iI (i : Int) + (1 : Int32) = iI ((i + 1 : Nat) : Int) := by rw [ilit, iI_add]; congr 1
    have hor : 0 ||| 2 ^ i < 2 ^ n := or_in hp0 (by omega)
    obtain ⟨R, r1, r2, r3, r4⟩ := s_behind (N := N) (u := 0) (x := 0) (i := i) (rec := f_A_fewestAsks N 8) hN hA hV hhi hp0 h1 (by omega) hp (fewest_ok hN hA hV hhi 8 (0 ||| 2 ^ i) hor (by omega))
    have hbf : bf n m hi V i ↔ 1 + R = V 0 0 := by
      unfold bf
      by_cases c : nt n m hi 0 0 i
      · have h9 := V_nt hn hV hp0 h1 (by omega) c
        have h8 := r3 c
        omega
      · have h8 := r4 c
        omega
    simp only [f_A_lowestFirstAsk_l8]
    rw [h56, zif_f (by rw [iI_le (by omega) (by omega) (by omega) (by omega)]; omega), show (0 : Int32) = iI ((0 : Nat) : Int) from rfl, r2, zbnd_eq, ilit, iI_add]
    by_cases c : bf n m hi V i
    · rw [zif_t (by rw [iI_eq (by omega) (by omega) (by omega) (by omega)]; have := hbf.1 c; omega)]
      exact ⟨(i : Int), rfl, Or.inr ⟨i, rfl, by omega, c, h⟩⟩
    · rw [zif_f (by rw [iI_eq (by omega) (by omega) (by omega) (by omega)]; exact fun q => c (hbf.2 (by omega))), zlt_eq, ← ilit, e]
      exact lowA_l hN hA hV hhi h1 hp hlt f (i + 1) q (by omega) (by omega) (fun i' hi' => by
        by_cases ci : i' = i
        · rw [ci]; exact c
        · exact h i' (by omega))
theorem full_bs : ∀ h : Fin 25, zshlI 1 (iI (h.val : Int)) - 1 = iI ((2 ^ h.val - 1 : Nat) : Int) := by decide +kernel
theorem lk0 {n : Nat} {m : Nat → Nat} {x y : Nat} : lk n m 0 x y = true := lk_iff.2 (fun i _ h => by rw [Nat.zero_testBit] at h; cases h)
theorem pow_sh : ∀ n : Fin 7, zshlI 1 (iI (n.val : Int)) - 1 = iI (((2 ^ n.val : Nat) : Int) - 1) := by decide +kernel
theorem ag_known (N : Nat) (hN : 130 ≤ N) (p0 p1 : Int32) : Agree (fun μ => f_A_known N μ p0 p1) (fun μ => f_M_known N μ p0 p1) := by
  refine Agree.same (fun μ hI => ?_)
  obtain ⟨h, g1, g2, rfl⟩ := iI_ex p0
  have eI : f_M_isIn N μ (iI h) 1 24 = _ := s_M_isIn (a := 1) (b := 24) g1 g2 (by omega) (by omega) (by omega) (by omega)
  by_cases hok : 1 ≤ h ∧ h ≤ 24
  · obtain ⟨hi, rfl⟩ : ∃ hi : Nat, h = (hi : Int) := ⟨h.toNat, by omega⟩
    obtain ⟨-, -, ⟨-, -, -, -, -, ⟨k1, k2, k3, k4⟩, -⟩, -⟩ := hI
    obtain ⟨n, c1, c2, c3⟩ := nat_ex k2 k3
    obtain ⟨m, hm⟩ : ∃ m : Nat → Nat, m = fun i => (μ.1 27 0 i).toInt.toNat := ⟨_, rfl⟩
    have hmm : ∀ i, i < n → μ.1 27 0 i = iI (m i : Nat) ∧ 2 ≤ m i ∧ m i ≤ 30 := fun i hi' => by
      obtain ⟨-, w2, w3⟩ := k4 i (by rw [c3]; omega)
      have : ((m i : Nat) : Int) = (μ.1 27 0 i).toInt := by rw [hm]; show (((μ.1 27 0 i).toInt.toNat : Nat) : Int) = _; omega
      exact ⟨by rw [this]; exact iI_of _, by omega, by omega⟩
    have hC : askC μ n m := ⟨by omega, c2, hmm⟩
    have hM : askN μ n m := ⟨by omega, by rw [← k1]; exact c2, fun i hi' => by
      obtain ⟨w1, -⟩ := k4 i (by rw [c3]; omega)
      rw [← w1]; exact hmm i hi'⟩
    have h64 := pow64 (show n ≤ 6 by omega)
    obtain ⟨kx, hkx⟩ : ∃ kx : ZMem → Option (Int32 × ZMem), kx = fun (μ15 : ZMem) => zchk (zin (0 : Int32) (zlen 52 0)) (zif ((μ15.1 52 0 (0 : Int32).toNatClampNeg) < (100 : Int32)) (zif (p1 = 0) (zchk (zin (0 : Int32) (zlen 52 0)) (zret (μ15.1 52 0 (0 : Int32).toNatClampNeg) μ15)) (zlt (0 : Int32) (fun (x16 : Int32) => f_M_known_l95 N (iI (hi : Int)) N x16 μ15))) (zret (-1 : Int32) μ15)) := ⟨_, rfl⟩
    obtain ⟨ν, n1, n2, n3⟩ := known_lo (N := N) (p1 := p1) (kx := kx) (μ := μ) (show 30 ≤ N by omega) hM (show hi ≤ 24 by omega) (2 ^ n) N μ (by omega) (by omega) ⟨fun _ _ _ _ => rfl, rfl⟩ (fun u' y h1 h2 h3 => by omega)
    have hEQ : EQV n m hi (Vm ν) := fun u x hu hx => (n3 u x hu hx).2.2
    have hp0 : 0 < 2 ^ n := Nat.pow_pos (by omega)
    obtain ⟨d1, d2, -⟩ := n3 0 0 hp0 (by omega)
    have d1' : ν.1 52 0 0 = iI (Vm ν 0 0 : Nat) := d1
    have hMeq : f_M_known N μ (iI (hi : Int)) p1 = kx ν := by
      unfold f_M_known
      have e7 : μ.1 40 0 7 = iI (n : Int) := hM.2.1
      rw [eI, zbnd_eq, if_pos hok, zif_f (by decide), zchk_t (by decide)]
      simp only [zlt_eq, show (7 : Int32).toNatClampNeg = 7 from rfl, e7]
      have := pow_sh ⟨n, by omega⟩
      simp only at this
      rw [this, ← n1, hkx]
      rfl
    obtain ⟨P, hP⟩ : ∃ P, P = zshlI 1 (iI (hi : Int)) - 1 := ⟨_, rfl⟩
    have hST : ST n m hi 0 0 P := fun j => by
      have := full_bs ⟨hi, by omega⟩
      simp only at this
      have hlt : 2 ^ hi ≤ 2 ^ 24 := Nat.pow_le_pow_right (by omega) (by omega)
      rw [hP, this, bs_nat (by omega), Nat.testBit_two_pow_sub_one, lk0, Bool.and_true]
    have hcl := (fewest_ok (N := N) (V := Vm ν) (show 30 ≤ N by omega) hC hEQ (show hi ≤ 24 by omega) 8 0 hp0 (by omega)).2 P 0 (by omega) hST
    have hAeq : f_A_known N μ (iI (hi : Int)) p1 = zif (iI (Vm ν 0 0 : Nat) < (100 : Int32)) (zif (p1 = 0) (zret (iI (Vm ν 0 0 : Nat)) μ) (zbnd (f_A_lowestFirstAsk N μ P (iI (Vm ν 0 0 : Nat))) (fun (r6 : Int32) (μ5 : ZMem) => zret r6 μ5))) (zret (-1 : Int32) μ) := by
      unfold f_A_known
      rw [zif_f (by rw [ilit, iI_lt (by omega) (by omega) (by omega) (by omega)]; omega), zif_t (by rw [ilit, iI_le (by omega) (by omega) (by omega) (by omega)]; omega)]
      simp only [zlt_eq, ← hP]
      have hcl' : f_A_fewestAsks N 8 μ P 0 = _ := hcl
      rw [hcl', zbnd_eq]
    have z0 : zin (0 : Int32) (zlen 52 0) := by decide
    simp only [hAeq]
    have hMk : ∀ ω : ZMem, ω = ν → kx ω = zif (iI (Vm ν 0 0 : Nat) < (100 : Int32)) (zif (p1 = 0) (zret (iI (Vm ν 0 0 : Nat)) ν) (f_M_known_l95 N (iI (hi : Int)) N (0 : Int32) ν)) (zret (-1 : Int32) ν) := fun ω hω => by
      rw [hω, hkx]
      simp only [zlt_eq, show (0 : Int32).toNatClampNeg = 0 from rfl, d1', zchk_t z0]
    have hMeq' := hMeq.trans (hMk ν rfl)
    by_cases c : Vm ν 0 0 < 100
    · rw [zif_t (by rw [ilit, iI_lt (by omega) (by omega) (by omega) (by omega)]; omega)] at hMeq'
      by_cases cp : p1 = 0
      · rw [zif_t cp] at hMeq'
        refine ⟨iI (Vm ν 0 0 : Nat), μ, ν, ?_, hMeq', Same.rf, n2.same⟩
        rw [zif_t (by rw [ilit, iI_lt (by omega) (by omega) (by omega) (by omega)]; omega), zif_t cp]; rfl
      · rw [zif_f cp] at hMeq'
        by_cases cz : Vm ν 0 0 = 0
        · refine ⟨-1, μ, ν, ?_, ?_, Same.rf, n2.same⟩
          · rw [zif_t (by rw [ilit, iI_lt (by omega) (by omega) (by omega) (by omega)]; omega), zif_f cp, cz]
            unfold f_A_lowestFirstAsk
            rw [zif_t (by decide)]; rfl
          · refine hMeq'.trans ?_
            obtain ⟨N', rfl⟩ : ∃ q, N = q + 1 := ⟨N - 1, by omega⟩
            have e7 : ν.1 40 0 7 = iI (n : Int) := (hM.fr n2).2.1
            simp only [f_M_known_l95, show (7 : Int32).toNatClampNeg = 7 from rfl, show (0 : Int32).toNatClampNeg = 0 from rfl, d1', e7, cz, zchk_t z0]
            rw [zchk_t (by decide)]
            by_cases cn : n = 0
            · rw [zif_t (by rw [cn]; decide)]; rfl
            · rw [zif_f (by rw [zi0, iI_le (by omega) (by omega) (by omega) (by omega)]; omega), zif_t (by decide)]; rfl
        · obtain ⟨r, r1, r2⟩ := lowM_l (N := N) (μ := ν) (show 30 ≤ N by omega) (hM.fr n2) (show hi ≤ 24 by omega) (by omega) n3 (by omega) n 0 N (by omega) (by omega) (fun i' h => by omega)
          obtain ⟨r', s1, s2⟩ := lowA_l (N := N) (μ := μ) (V := Vm ν) (p := P) (show 30 ≤ N by omega) hC hEQ (show hi ≤ 24 by omega) (by omega) hST c n 0 N (by omega) (by omega) (fun i' h => by omega)
          refine ⟨iI r, μ, ν, ?_, hMeq'.trans r1, Same.rf, n2.same⟩
          rw [zif_t (by rw [ilit, iI_lt (by omega) (by omega) (by omega) (by omega)]; omega), zif_f cp]
          unfold f_A_lowestFirstAsk
          rw [zif_f (by rw [zi0, iI_eq (by omega) (by omega) (by omega) (by omega)]; omega), zlt_eq]
          have s1' : f_A_lowestFirstAsk_l8 N P (iI (Vm ν 0 0 : Nat)) N 0 μ = _ := s1
          rw [s1', zbnd_eq, LO_uniq s2 r2]; rfl
    · rw [zif_f (by rw [ilit, iI_lt (by omega) (by omega) (by omega) (by omega)]; omega)] at hMeq'
      refine ⟨-1, μ, ν, ?_, hMeq', Same.rf, n2.same⟩
      rw [zif_f (by rw [ilit, iI_lt (by omega) (by omega) (by omega) (by omega)]; omega)]; rfl
  · refine ⟨-1, μ, μ, ?_, ?_, Same.rf, Same.rf⟩
    · show f_A_known N μ (iI h) p1 = _
      unfold f_A_known
      by_cases c : h < 1
      · rw [zif_t (by rw [ilit, iI_lt (by omega) (by omega) (by omega) (by omega)]; omega)]; rfl
      · rw [zif_f (by rw [ilit, iI_lt (by omega) (by omega) (by omega) (by omega)]; omega), zif_f (by rw [ilit, iI_le (by omega) (by omega) (by omega) (by omega)]; omega)]; rfl
    · show f_M_known N μ (iI h) p1 = _
      unfold f_M_known
      rw [eI, zbnd_eq, if_neg hok, zif_t rfl]; rfl
