/-! known: the reference -/
theorem has_tb : ∀ u : Fin 64, ∀ i : Fin 6, (zshrI (iI (u.val : Int)) (iI (i.val : Int)) &&& 1 = 1) ↔ u.val.testBit i.val = true := by decide +kernel
def askN (μ : ZMem) (n : Nat) (m : Nat → Nat) : Prop := n ≤ 6 ∧ μ.1 40 0 7 = iI n ∧ ∀ i, i < n → μ.1 40 0 (24 + i) = iI (m i) ∧ 2 ≤ m i ∧ m i ≤ 30
theorem s_has {N : Nat} {μ : ZMem} {u i : Nat} (hu : u < 64) (hi : i < 6) : f_M_has N μ (iI u) (iI i) = some (bI (u.testBit i), μ) := by
  unfold f_M_has
  have h := has_tb ⟨u, hu⟩ ⟨i, hi⟩
  simp only at h
  cases c : u.testBit i with
  | true => rw [zif_t (h.2 c)]; rfl
  | false => rw [zif_f (fun q => by rw [h.1 q] at c; cases c)]; rfl
theorem like_l {N n u x y : Nat} {m : Nat → Nat} {μ : ZMem} (hA : askN μ n m) (hu : u < 64) (hx : x < 24) (hy : y < 24) : ∀ (f i fuel : Nat), i + f = n → f < fuel → (∀ i', i' < i → u.testBit i' = true → x % m i' = y % m i') → f_M_isLike_l3 N (iI u) (iI x) (iI y) fuel (iI i) μ = some (bI (lk n m u x y), μ)
  | 0, i, fuel, e1, e2, h => by
    obtain ⟨q, rfl⟩ : ∃ q, fuel = q + 1 := ⟨fuel - 1, by omega⟩
    obtain ⟨hn, h7, hm⟩ := id hA
    simp only [f_M_isLike_l3, show (7 : Int32).toNatClampNeg = 7 from rfl]
    rw [zchk_t (by decide), h7, zif_t (by rw [iI_le (by omega) (by omega) (by omega) (by omega)]; omega), show lk n m u x y = true from lk_iff.2 (fun i' hi' => h i' (by omega))]; rfl
  | f + 1, i, fuel, e1, e2, h => by
    obtain ⟨q, rfl⟩ : ∃ q, fuel = q + 1 := ⟨fuel - 1, by omega⟩
    obtain ⟨hn, h7, hm⟩ := id hA
    obtain ⟨m1', m2, m3⟩ := hm i (by omega)
    have e : iI (i : Int) + (1 : Int32) = iI ((i + 1 : Nat) : Int) := by rw [ilit, iI_add]; congr 1
    have e24 : (24 : Int32) + iI (i : Int) = iI ((24 + i : Nat) : Int) := by rw [ilit, iI_add]; rfl
    have ex : zremI (iI (x : Int)) (iI (m i : Int)) = iI ((x % m i : Nat) : Int) := by rw [iI_rem (by omega) (by omega) (by omega) (by omega), tmod_nat]
    have ey : zremI (iI (y : Int)) (iI (m i : Int)) = iI ((y % m i : Nat) : Int) := by rw [iI_rem (by omega) (by omega) (by omega) (by omega), tmod_nat]
    have lx' := Nat.mod_le x (m i)
    have ly' := Nat.mod_le y (m i)
    have hne : ¬ iI (m i : Int) = (0 : Int32) := by rw [zi0, iI_eq (by omega) (by omega) (by omega) (by omega)]; omega
    have z24 : zin (iI ((24 + i : Nat) : Int)) (zlen 40 0) := zin_k 30 rfl (by omega) (by omega) (by omega)
    simp only [f_M_isLike_l3, show (7 : Int32).toNatClampNeg = 7 from rfl]
    rw [zchk_t (by decide), h7, zif_f (by rw [iI_le (by omega) (by omega) (by omega) (by omega)]; omega), s_has hu (by omega), zbnd_eq]
    simp only [zlt_eq, e, e24, cl_nat (show 24 + i < 2147483648 by omega), m1', ex, ey]
    cases c : u.testBit i with
    | false =>
      rw [zif_t (show bI false = 0 from rfl)]
      exact like_l hA hu hx hy f (i + 1) q (by omega) (by omega) (fun i' hi' hb => by
        by_cases ci : i' = i
        · subst ci; rw [c] at hb; cases hb
        · exact h i' (by omega) hb)
    | true =>
      rw [zif_f (show ¬ bI true = 0 by decide), zchk_t z24, zchk_t hne, zchk_t z24, zchk_t hne]
      by_cases ce : x % m i = y % m i
      · rw [zif_t (by rw [ce])]
        exact like_l hA hu hx hy f (i + 1) q (by omega) (by omega) (fun i' hi' hb => by
          by_cases ci : i' = i
          · subst ci; exact ce
          · exact h i' (by omega) hb)
      · rw [zif_f (by rw [iI_eq (by omega) (by omega) (by omega) (by omega)]; omega)]
        have : lk n m u x y = false := by
          cases hb : lk n m u x y with
          | false => rfl
          | true => exact absurd (lk_iff.1 hb i (by omega) c) ce
        rw [this]; rfl
theorem s_isLike {N n u x y : Nat} {m : Nat → Nat} {μ : ZMem} (hN : 30 ≤ N) (hA : askN μ n m) (hu : u < 64) (hx : x < 24) (hy : y < 24) : f_M_isLike N μ (iI u) (iI x) (iI y) = some (bI (lk n m u x y), μ) :=
  like_l hA hu hx hy n 0 N (by omega) (by have := hA.1; omega) (fun i' h => by omega)
def tbC (μ : ZMem) (hi u' : Nat) (V : Nat → Nat → Nat) : Prop := ∀ y, y < hi → μ.1 52 0 (24 * u' + y) = iI (V u' y : Nat) ∧ V u' y ≤ 100
theorem by_l {N n hi u x i : Nat} {m : Nat → Nat} {μ : ZMem} {V : Nat → Nat → Nat} (hN : 30 ≤ N) (hA : askN μ n m) (hu : u < 2 ^ n) (hhi : hi ≤ 24) (hx : x < hi) (hi' : i < n) (hV : tbC μ hi (u ||| 2 ^ i) V) : ∀ (f y fuel : Nat), y + f = hi → f < fuel → f_M_takesBy_l6 N (iI u) (iI x) (iI i) (iI hi) fuel (iI (mxS (lk n m u x) (V (u ||| 2 ^ i)) y : Nat)) (iI y) μ = some (iI ((1 + mxS (lk n m u x) (V (u ||| 2 ^ i)) hi : Nat) : Int), μ)
  | 0, y, fuel, e1, e2 => by
    obtain ⟨q, rfl⟩ : ∃ q, fuel = q + 1 := ⟨fuel - 1, by omega⟩
    simp only [f_M_takesBy_l6]
    rw [zif_t (by rw [iI_le (by omega) (by omega) (by omega) (by omega)]; omega), show y = hi by omega, ilit, iI_add]
    show some (_, μ) = _
    congr 3
    omega
  | f + 1, y, fuel, e1, e2 => by
    obtain ⟨q, rfl⟩ : ∃ q, fuel = q + 1 := ⟨fuel - 1, by omega⟩
    have hn := hA.1
    have h64 := pow64 hn
    have hle : mxS (lk n m u x) (V (u ||| 2 ^ i)) y ≤ 100 := (mxS_le y).2 (fun z hz _ => (hV z (by omega)).2)
    have hor : u ||| 2 ^ i < 64 := by have := or_in hu hi'; omega
    obtain ⟨v1, v2⟩ := hV y (by omega)
    have e : iI (y : Int) + (1 : Int32) = iI ((y + 1 : Nat) : Int) := by rw [ilit, iI_add]; congr 1
    have eo : iI (u : Int) ||| zshlI 1 (iI (i : Int)) = iI ((u ||| 2 ^ i : Nat) : Int) := um_or ⟨u, by omega⟩ ⟨i, by omega⟩
    have ei : (24 : Int32) * iI ((u ||| 2 ^ i : Nat) : Int) + iI (y : Int) = iI ((24 * (u ||| 2 ^ i) + y : Nat) : Int) := by rw [ilit, iI_mul, iI_add]; rfl
    have z52 : zin (iI ((24 * (u ||| 2 ^ i) + y : Nat) : Int)) (zlen 52 0) := zin_k 1536 rfl (by omega) (by omega) (by omega)
    simp only [f_M_takesBy_l6]
    rw [zif_f (by rw [iI_le (by omega) (by omega) (by omega) (by omega)]; omega), s_isLike hN hA (by omega) (by omega) (by omega), zbnd_eq]
    simp only [zlt_eq, e, eo, ei, cl_nat (show 24 * (u ||| 2 ^ i) + y < 2147483648 by omega), v1]
    have ih := by_l hN hA hu hhi hx hi' hV f (y + 1) q (by omega) (by omega)
    cases c : lk n m u x y with
    | false =>
      rw [zif_t (show bI false = 0 from rfl)]
      rw [show mxS (lk n m u x) (V (u ||| 2 ^ i)) (y + 1) = mxS (lk n m u x) (V (u ||| 2 ^ i)) y by
        show max _ (if lk n m u x y = true then _ else 0) = _
        rw [c]; simp] at ih
      exact ih
    | true =>
      rw [zif_f (show ¬ bI true = 0 by decide), zchk_t z52]
      have hs : mxS (lk n m u x) (V (u ||| 2 ^ i)) (y + 1) = max (mxS (lk n m u x) (V (u ||| 2 ^ i)) y) (V (u ||| 2 ^ i) y) := by
        show max _ (if lk n m u x y = true then _ else 0) = _
        rw [if_pos c]
      rw [hs] at ih
      by_cases cv : V (u ||| 2 ^ i) y ≤ mxS (lk n m u x) (V (u ||| 2 ^ i)) y
      · rw [zif_t (by rw [iI_le (by omega) (by omega) (by omega) (by omega)]; omega)]
        rw [Nat.max_eq_left cv] at ih
        exact ih
      · rw [zif_f (by rw [iI_le (by omega) (by omega) (by omega) (by omega)]; omega), zchk_t z52]
        rw [Nat.max_eq_right (by omega)] at ih
        exact ih
theorem s_takesBy {N n hi u x i : Nat} {m : Nat → Nat} {μ : ZMem} {V : Nat → Nat → Nat} (hN : 30 ≤ N) (hA : askN μ n m) (hu : u < 2 ^ n) (hhi : hi ≤ 24) (hx : x < hi) (hi' : i < n) (hV : tbC μ hi (u ||| 2 ^ i) V) : f_M_takesBy N μ (iI u) (iI x) (iI i) (iI hi) = some (iI ((1 + mxS (lk n m u x) (V (u ||| 2 ^ i)) hi : Nat) : Int), μ) :=
  by_l hN hA hu hhi hx hi' hV hi 0 N (by omega) (by omega)
def E0 (n : Nat) (m : Nat → Nat) (hi : Nat) (V : Nat → Nat → Nat) (u x v : Nat) : Prop := (al n m hi u x → v = 0) ∧ (¬ al n m hi u x → v ≤ 100 ∧ (∀ i, i < n → u.testBit i = false → v ≤ 1 + mxS (lk n m u x) (V (u ||| 2 ^ i)) hi) ∧ (v = 100 ∨ ∃ i, i < n ∧ u.testBit i = false ∧ v = 1 + mxS (lk n m u x) (V (u ||| 2 ^ i)) hi))
theorem alone_l {N n hi u x : Nat} {m : Nat → Nat} {μ : ZMem} {kx : Int32 → ZMem → Option (Int32 × ZMem)} (hN : 30 ≤ N) (hA : askN μ n m) (hu : u < 64) (hhi : hi ≤ 24) (hx : x < hi) : ∀ (f y fuel : Nat) (b : Bool), y + f = hi → f < fuel → (b = true ↔ ∀ z, z < y → lk n m u x z = true → z = x) → ∃ b' : Bool, f_M_reckon_l6 N (iI u) (iI x) (iI hi) kx fuel (bI b) (iI y) μ = kx (bI b') μ ∧ (b' = true ↔ al n m hi u x)
  | 0, y, fuel, b, e1, e2, h => by
    obtain ⟨q, rfl⟩ : ∃ q, fuel = q + 1 := ⟨fuel - 1, by omega⟩
    refine ⟨b, ?_, by rw [h, show y = hi by omega]; exact Iff.rfl⟩
    simp only [f_M_reckon_l6]
    rw [zif_t (by rw [iI_le (by omega) (by omega) (by omega) (by omega)]; omega)]
  | f + 1, y, fuel, b, e1, e2, h => by
    obtain ⟨q, rfl⟩ : ∃ q, fuel = q + 1 := ⟨fuel - 1, by omega⟩
    have e : iI (y : Int) + (1 : Int32) = iI ((y + 1 : Nat) : Int) := by rw [ilit, iI_add]; congr 1
    simp only [f_M_reckon_l6]
    rw [zif_f (by rw [iI_le (by omega) (by omega) (by omega) (by omega)]; omega)]
    simp only [zlt_eq, e]
    have i1 := alone_l (kx := kx) hN hA hu hhi hx f (y + 1) q true (by omega) (by omega)
    have i0 := alone_l (kx := kx) hN hA hu hhi hx f (y + 1) q false (by omega) (by omega)
    cases hb : b with
    | false =>
      rw [zif_t (show bI false = 0 from rfl)]
      refine i0 ⟨fun q => (by cases q), fun q => ?_⟩
      rw [← hb, h]
      exact fun z hz => q z (by omega)
    | true =>
      rw [zif_f (show ¬ bI true = 0 by decide)]
      have ht := h.1 hb
      by_cases cy : y = x
      · rw [zif_t (by rw [cy])]
        refine i1 ⟨fun _ z hz hl => ?_, fun _ => rfl⟩
        by_cases cz : z = y
        · rw [cz, cy]
        · exact ht z (by omega) hl
      · rw [zif_f (by rw [iI_eq (by omega) (by omega) (by omega) (by omega)]; omega), s_isLike hN hA hu (by omega) (by omega), zbnd_eq]
        cases c : lk n m u x y with
        | false =>
          rw [zif_t (show bI false = 0 from rfl)]
          refine i1 ⟨fun _ z hz hl => ?_, fun _ => rfl⟩
          by_cases cz : z = y
          · rw [cz, c] at hl; cases hl
          · exact ht z (by omega) hl
        | true =>
          rw [zif_f (show ¬ bI true = 0 by decide)]
          exact i0 ⟨fun q => (by cases q), fun q => absurd (q y (by omega) c) cy⟩
theorem reck_l {N n hi u x : Nat} {m : Nat → Nat} {μ : ZMem} {V : Nat → Nat → Nat} (hN : 30 ≤ N) (hA : askN μ n m) (hu : u < 2 ^ n) (hhi : hi ≤ 24) (hx : x < hi) (hal : ¬ al n m hi u x) (hV : ∀ u', u < u' → u' < 2 ^ n → tbC μ hi u' V) : ∀ (f i fuel W : Nat), i + f = n → f < fuel → W ≤ 100 → (∀ i', i' < i → u.testBit i' = false → W ≤ 1 + mxS (lk n m u x) (V (u ||| 2 ^ i')) hi) → (W = 100 ∨ ∃ i', i' < n ∧ u.testBit i' = false ∧ W = 1 + mxS (lk n m u x) (V (u ||| 2 ^ i')) hi) → ∃ v, v ≤ 100 ∧ f_M_reckon_l61 N (iI u) (iI x) (iI hi) fuel (iI W) (iI i) μ = some (iI (v : Nat), μ) ∧ E0 n m hi V u x v
  | 0, i, fuel, W, e1, e2, h1, h2, h3 => by
    obtain ⟨q, rfl⟩ : ∃ q, fuel = q + 1 := ⟨fuel - 1, by omega⟩
    obtain ⟨hn, h7, -⟩ := id hA
    refine ⟨W, h1, ?_, fun q => absurd q hal, fun _ => ⟨h1, fun i' hi' => h2 i' (by omega), h3⟩⟩
    simp only [f_M_reckon_l61, show (7 : Int32).toNatClampNeg = 7 from rfl]
    rw [zchk_t (by decide), h7, zif_t (by rw [iI_le (by omega) (by omega) (by omega) (by omega)]; omega)]; rfl
  | f + 1, i, fuel, W, e1, e2, h1, h2, h3 => by
    obtain ⟨q, rfl⟩ : ∃ q, fuel = q + 1 := ⟨fuel - 1, by omega⟩
    obtain ⟨hn, h7, -⟩ := id hA
    have h64 := pow64 hn
    have e : iI (i : Int) + (1 : Int32) = iI ((i + 1 : Nat) : Int) := by rw [ilit, iI_add]; congr 1
    simp only [f_M_reckon_l61, show (7 : Int32).toNatClampNeg = 7 from rfl]
    rw [zchk_t (by decide), h7, zif_f (by rw [iI_le (by omega) (by omega) (by omega) (by omega)]; omega), s_has (by omega) (by omega), zbnd_eq]
    simp only [zlt_eq, e]
    cases c : u.testBit i with
    | true =>
      rw [zif_f (show ¬ bI true = 0 by decide)]
      refine reck_l hN hA hu hhi hx hal hV f (i + 1) q W (by omega) (by omega) h1 (fun i' j1 j2 => ?_) h3
      by_cases ci : i' = i
      · subst ci; rw [c] at j2; cases j2
      · exact h2 i' (by omega) j2
    | false =>
      rw [zif_t (show bI false = 0 from rfl)]
      have hg := or_gt ⟨u, by omega⟩ ⟨i, by omega⟩ c
      simp only at hg
      have hT := hV _ hg (or_in hu (by omega))
      rw [s_takesBy hN hA hu hhi hx (by omega) hT, zbnd_eq]
      have hle : mxS (lk n m u x) (V (u ||| 2 ^ i)) hi ≤ 100 := (mxS_le hi).2 (fun z hz _ => (hT z hz).2)
      by_cases cw : W ≤ 1 + mxS (lk n m u x) (V (u ||| 2 ^ i)) hi
      · rw [zif_t (by rw [iI_le (by omega) (by omega) (by omega) (by omega)]; omega)]
        refine reck_l hN hA hu hhi hx hal hV f (i + 1) q W (by omega) (by omega) h1 (fun i' j1 j2 => ?_) h3
        by_cases ci : i' = i
        · subst ci; exact cw
        · exact h2 i' (by omega) j2
      · rw [zif_f (by rw [iI_le (by omega) (by omega) (by omega) (by omega)]; omega)]
        refine reck_l hN hA hu hhi hx hal hV f (i + 1) q _ (by omega) (by omega) (by omega) (fun i' j1 j2 => ?_) (Or.inr ⟨i, by omega, c, rfl⟩)
        by_cases ci : i' = i
        · subst ci; omega
        · have := h2 i' (by omega) j2; omega
theorem s_reckon {N n hi u x : Nat} {m : Nat → Nat} {μ : ZMem} {V : Nat → Nat → Nat} (hN : 30 ≤ N) (hA : askN μ n m) (hu : u < 2 ^ n) (hhi : hi ≤ 24) (hx : x < hi) (hV : ∀ u', u < u' → u' < 2 ^ n → tbC μ hi u' V) : ∃ v, v ≤ 100 ∧ f_M_reckon N μ (iI u) (iI x) (iI hi) = some (iI (v : Nat), μ) ∧ E0 n m hi V u x v := by
  have h64 := pow64 hA.1
  obtain ⟨b, b1, b2⟩ := alone_l (N := N) (kx := fun (x17 : Int32) (μ18 : ZMem) => zif (x17 = 0) (zlt (100 : Int32) (fun (x19 : Int32) => zlt (0 : Int32) (fun (x20 : Int32) => f_M_reckon_l61 N (iI u) (iI x) (iI hi) N x19 x20 μ18))) (zret (0 : Int32) μ18)) hN hA (show u < 64 by omega) hhi hx hi 0 N true (by omega) (by omega) ⟨fun _ z h => by omega, fun _ => rfl⟩
  have hf : f_M_reckon N μ (iI u) (iI x) (iI hi) = _ := b1
  rw [hf]
  cases hb : b with
  | true =>
    have ha := b2.1 hb
    rw [zif_f (show ¬ bI true = 0 by decide)]
    exact ⟨0, by omega, rfl, fun _ => rfl, fun q => absurd ha q⟩
  | false =>
    have ha : ¬ al n m hi u x := fun q => by have := b2.2 q; rw [hb] at this; cases this
    rw [zif_t (show bI false = 0 from rfl)]
    exact reck_l hN hA hu hhi hx ha hV n 0 N 100 (by omega) (by have := hA.1; omega) (by omega) (fun i' h => by omega) (Or.inl rfl)
