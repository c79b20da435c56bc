/-! known: the class -/
theorem mult_l {N m : Nat} {μ : ZMem} (hm : 2 ≤ m) (hm2 : m ≤ 30) : ∀ (f j fuel : Nat) (p : Int32), j + f = 24 → f < fuel → (∀ i, bs p i = (decide (i < j) && decide (i % m = 0))) → ∃ p', f_A_multiplesOf_l4 N (iI m) fuel p (iI j) μ = some (p', μ) ∧ ∀ i, bs p' i = (decide (i < 24) && decide (i % m = 0))
  | 0, j, fuel, p, e1, e2, h => by
    obtain ⟨q, rfl⟩ : ∃ q, fuel = q + 1 := ⟨fuel - 1, by omega⟩
    refine ⟨p, ?_, fun i => by rw [h i, show j = 24 by omega]⟩
    simp only [f_A_multiplesOf_l4]
    rw [zif_t (by rw [ilit, iI_le (by omega) (by omega) (by omega) (by omega)]; omega)]; rfl
  | f + 1, j, fuel, p, e1, e2, h => by
    obtain ⟨q, rfl⟩ : ∃ q, fuel = q + 1 := ⟨fuel - 1, by omega⟩
    have e : iI (j : Int) + (1 : Int32) = iI ((j + 1 : Nat) : Int) := by rw [ilit, iI_add]; congr 1
    have er : zremI (iI (j : Int)) (iI (m : Int)) = iI ((j % m : Nat) : Int) := by rw [iI_rem (by omega) (by omega) (by omega) (by omega), tmod_nat]
    have hlt : j % m < m := Nat.mod_lt _ (by omega)
    simp only [f_A_multiplesOf_l4]
    rw [zif_f (by rw [ilit, iI_le (by omega) (by omega) (by omega) (by omega)]; omega)]
    simp only [zlt_eq, e, er]
    rw [zif_f (by rw [zi0, iI_le (by omega) (by omega) (by omega) (by omega)]; omega), zchk_t (by rw [zi0, iI_eq (by omega) (by omega) (by omega) (by omega)]; omega)]
    by_cases c : j % m = 0
    · rw [zif_t (by rw [zi0, iI_eq (by omega) (by omega) (by omega) (by omega)]; omega)]
      refine mult_l hm hm2 f (j + 1) q _ (by omega) (by omega) (fun i => ?_)
      rw [bs_or, bs_one (by omega), h i]
      by_cases c1 : i = j
      · subst c1; simp [c]
      · by_cases c2 : i < j
        · have : i < j + 1 := by omega
          simp [c1, c2, this]
        · have : ¬ i < j + 1 := by omega
          simp [c1, c2, this]
    · rw [zif_f (by rw [zi0, iI_eq (by omega) (by omega) (by omega) (by omega)]; omega)]
      refine mult_l hm hm2 f (j + 1) q _ (by omega) (by omega) (fun i => ?_)
      rw [h i]
      by_cases c1 : i = j
      · subst c1; simp [c]
      · by_cases c2 : i < j
        · have : i < j + 1 := by omega
          simp [c2, this]
        · have : ¬ i < j + 1 := by omega
          simp [c2, this]
theorem s_mult {N m : Nat} {μ : ZMem} (hN : 30 ≤ N) (hm : 2 ≤ m) (hm2 : m ≤ 30) : ∃ p', f_A_multiplesOf N μ (iI m) = some (p', μ) ∧ ∀ i, bs p' i = (decide (i < 24) && decide (i % m = 0)) := by
  have h0 : ∀ i, bs 0 i = false := fun i => by rw [show (0 : Int32) = iI ((0 : Nat) : Int) from rfl, bs_nat (by omega), Nat.zero_testBit]
  exact mult_l (N := N) (μ := μ) hm hm2 24 0 N 0 (by omega) (by omega) (fun i => by rw [h0]; simp)
/-- the numbers with this rest -/
theorem part_bs {p x4 : Int32} {m r : Nat} (hp : ∀ j, 24 ≤ j → bs p j = false) (hx : ∀ i, bs x4 i = (decide (i < 24) && decide (i % m = 0))) (hrm : r < m) (hr : r < 24) (j : Nat) : bs (p &&& zshlI x4 (iI (r : Int))) j = (bs p j && decide (j % m = r)) := by
  rw [bs_and, bs_shl (by omega), hx]
  by_cases c : j < 24
  · have h1 : j < 32 := by omega
    have h2 : j - r < 24 := by omega
    by_cases c2 : j < r
    · have : ¬ j % m = r := by have := Nat.mod_le j m; omega
      simp [c2, this]
    · have : (j - r) % m = 0 ↔ j % m = r := by
        have e : j = (j - r) + r := by omega
        have e2 : j % m = ((j - r) % m + r) % m := by
          conv => lhs; rw [e]
          rw [Nat.add_mod, Nat.mod_eq_of_lt hrm]
        refine ⟨fun q => by rw [e2, q, Nat.zero_add, Nat.mod_eq_of_lt hrm], fun q => ?_⟩
        rw [e2] at q
        have hl : (j - r) % m < m := Nat.mod_lt _ (by omega)
        by_cases c3 : (j - r) % m + r < m
        · rw [Nat.mod_eq_of_lt c3] at q; omega
        · rw [Nat.mod_eq_sub_mod (by omega), Nat.mod_eq_of_lt (by omega)] at q; omega
      simp [h1, h2, c2, this]
  · rw [hp j (by omega)]; rfl
def ST (n : Nat) (m : Nat → Nat) (hi u x : Nat) (p : Int32) : Prop := ∀ j, bs p j = (decide (j < hi) && lk n m u x j)
theorem behind_l {N n hi u x i : Nat} {m : Nat → Nat} {V : Nat → Nat → Nat} {μ : ZMem} {p x4 : Int32} {rec : ZMem → Int32 → Int32 → Option (Int32 × ZMem)} {U : Int32} (hV : EQV n m hi V) (hn : n ≤ 6) (hhi : hi ≤ 24) (hu : u < 2 ^ n) (hx : x < hi) (hi' : i < n) (hm : 2 ≤ m i) (hm2 : m i ≤ 30) (hp : ST n m hi u x p) (hx4 : ∀ j, bs x4 j = (decide (j < 24) && decide (j % m i = 0)))
    (hrec0 : ∀ q, (∀ j, bs q j = false) → rec μ q U = some (iI 0, μ)) (hrec : ∀ q y, y < hi → ST n m hi (u ||| 2 ^ i) y q → rec μ q U = some (iI (V (u ||| 2 ^ i) y : Nat), μ)) {p1 p2 : Int32} (hU : p2 ||| zshlI 1 p1 = U) :
    ∀ (f r fuel A : Nat), r + f = 24 → f < fuel → r ≤ m i → A = mxS (fun y => lk n m u x y && decide (y % m i < r)) (V (u ||| 2 ^ i)) hi → (nt n m hi u x i → r ≤ x % m i) → ∃ R : Nat, R ≤ 100 ∧ f_A_mostAsksBehind_l24 N rec p p1 p2 (iI (m i)) x4 fuel (iI A) (iI r) μ = some (iI R, μ) ∧ (nt n m hi u x i → R = 100) ∧ (¬ nt n m hi u x i → R = mxS (lk n m u x) (V (u ||| 2 ^ i)) hi) := by
  intro f
  induction f with
  | zero =>
    intro r fuel A e1 e2 hr hA hnt
    obtain ⟨q, rfl⟩ : ∃ q, fuel = q + 1 := ⟨fuel - 1, by omega⟩
    have hle : A ≤ 100 := by rw [hA]; exact (mxS_le hi).2 (fun y hy _ => hV.le (or_in hu hi') hy)
    refine ⟨A, hle, ?_, fun q => ?_, fun _ => ?_⟩
    · simp only [f_A_mostAsksBehind_l24]
      by_cases c : m i ≤ r
      · rw [zif_t (by rw [iI_le (by omega) (by omega) (by omega) (by omega)]; omega)]; rfl
      · rw [zif_f (by rw [iI_le (by omega) (by omega) (by omega) (by omega)]; omega), zif_t (by rw [ilit, iI_le (by omega) (by omega) (by omega) (by omega)]; omega)]; rfl
    · have := hnt q; have := Nat.mod_le x (m i); omega
    · rw [hA]
      exact mxS_congr (fun y hy => ⟨by have := Nat.mod_le y (m i); have h1 : y % m i < r := by omega
                                       simp [h1], rfl⟩)
  | succ f ih =>
    intro r fuel A e1 e2 hr hA hnt
    obtain ⟨q, rfl⟩ : ∃ q, fuel = q + 1 := ⟨fuel - 1, by omega⟩
    have hle : A ≤ 100 := by rw [hA]; exact (mxS_le hi).2 (fun y hy _ => hV.le (or_in hu hi') hy)
    have e : iI (r : Int) + (1 : Int32) = iI ((r + 1 : Nat) : Int) := by rw [ilit, iI_add]; congr 1
    by_cases c : m i ≤ r
    · refine ⟨A, hle, ?_, fun q => ?_, fun _ => ?_⟩
      · simp only [f_A_mostAsksBehind_l24]
        rw [zif_t (by rw [iI_le (by omega) (by omega) (by omega) (by omega)]; omega)]; rfl
      · have := hnt q; have := Nat.mod_lt x (show 0 < m i by omega); omega
      · rw [hA]
        exact mxS_congr (fun y hy => ⟨by have := Nat.mod_lt y (show 0 < m i by omega); have h1 : y % m i < r := by omega
                                         simp [h1], rfl⟩)
    · have hp24 : ∀ j, 24 ≤ j → bs p j = false := fun j hj => by
        rw [hp j]
        have : ¬ j < hi := by omega
        simp [this]
      obtain ⟨P, hP⟩ : ∃ P, P = p &&& zshlI x4 (iI (r : Int)) := ⟨_, rfl⟩
      have hPb : ∀ j, bs P j = (bs p j && decide (j % m i = r)) := fun j => by rw [hP]; exact part_bs hp24 hx4 (by omega) (by omega) j
      simp only [f_A_mostAsksBehind_l24]
      rw [zif_f (by rw [iI_le (by omega) (by omega) (by omega) (by omega)]; omega), zif_f (by rw [ilit, iI_le (by omega) (by omega) (by omega) (by omega)]; omega)]
      simp only [zlt_eq, ← hP, e, hU]
      have hin : ∀ y, y < hi → lk n m u x y = true → bs p y = true := fun y hy hl => by rw [hp y, hl]; simp [hy]
      by_cases ce : P = p
      · rw [zif_t ce, zif_f (by decide)]
        have hall : nt n m hi u x i := by
          have : ∀ y, y < hi → lk n m u x y = true → y % m i = r := fun y hy hl => by
            have h1 := hPb y
            rw [ce, hin y hy hl] at h1
            simpa using h1
          intro y hy hl
          rw [this y hy hl, this x hx lk_rf]
        exact ⟨100, by omega, rfl, fun _ => rfl, fun q => absurd hall q⟩
      · rw [zif_f ce, zif_t trivial]
        have hmax : ∀ v : Nat, v ≤ 100 → zmaxI (iI (A : Int)) (iI (v : Int)) = iI ((max A v : Nat) : Int) := fun v hv => by
          rw [iI_max (by omega) (by omega) (by omega) (by omega)]; congr 1; omega
        by_cases cy : ∃ y, y < hi ∧ lk n m u x y = true ∧ y % m i = r
        · obtain ⟨y, y1, y2, y3⟩ := cy
          have hST : ST n m hi (u ||| 2 ^ i) y P := fun j => by
            rw [hPb j, hp j]
            have : lk n m (u ||| 2 ^ i) y j = (lk n m u x j && decide (j % m i = r)) := by
              refine Bool.eq_iff_iff.2 ?_
              rw [lk_or hi', lk_eq y2]
              rw [y3, Bool.and_eq_true, decide_eq_true_eq]
              exact ⟨fun q => ⟨q.1, q.2.symm⟩, fun q => ⟨q.1, q.2.symm⟩⟩
            rw [this, Bool.and_assoc]
          rw [hrec P y y1 hST, zbnd_eq]
          rw [hmax _ (hV.le (or_in hu hi') y1)]
          refine ih (r + 1) q (max A (V (u ||| 2 ^ i) y)) (by omega) (by omega) (by omega) ?_ (fun hh => ?_)
          · rw [hA]
            refine Nat.le_antisymm (Nat.max_le.2 ⟨mxS_mono (fun z hz hl => ⟨?_, Nat.le_refl _⟩), ?_⟩) ((mxS_le hi).2 (fun z hz hl => ?_))
            · simp only [Bool.and_eq_true, decide_eq_true_eq] at hl ⊢
              exact ⟨hl.1, by omega⟩
            · exact mxS_ge (P := fun y => lk n m u x y && decide (y % m i < r + 1)) (f := V (u ||| 2 ^ i)) y1 (by simp only [Bool.and_eq_true, decide_eq_true_eq]; exact ⟨y2, by omega⟩)
            · simp only [Bool.and_eq_true, decide_eq_true_eq] at hl
              by_cases cz : z % m i = r
              · have : V (u ||| 2 ^ i) z = V (u ||| 2 ^ i) y := V_class hV (or_in hu hi') y1 hz ((lk_or hi').2 ⟨by rw [lk_eq y2]; exact hl.1, by rw [y3, cz]⟩)
                rw [this]; exact Nat.le_max_right _ _
              · exact Nat.le_trans (mxS_ge (P := fun y => lk n m u x y && decide (y % m i < r)) (f := V (u ||| 2 ^ i)) hz (by simp only [Bool.and_eq_true, decide_eq_true_eq]; exact ⟨hl.1, by omega⟩)) (Nat.le_max_left _ _)
          · exfalso
            have hr' := hnt hh
            have e9 : x % m i = r := by rw [← hh y y1 y2]; exact y3
            refine ce (bs_ext (fun j _ => ?_))
            rw [hPb j]
            cases hb : bs p j with
            | false => rfl
            | true =>
              have h1 := hp j
              rw [hb] at h1
              have h2 : j < hi ∧ lk n m u x j = true := by simpa using h1.symm
              have := hh j h2.1 h2.2
              simp [this, e9]
        · have hempty : ∀ j, bs P j = false := fun j => by
            cases hb : bs P j with
            | false => rfl
            | true =>
              have h1 := hPb j
              rw [hb, hp j] at h1
              have h2 : (j < hi ∧ lk n m u x j = true) ∧ j % m i = r := by simpa using h1.symm
              exact absurd ⟨j, h2.1.1, h2.1.2, h2.2⟩ cy
          rw [hrec0 P hempty, zbnd_eq]
          rw [show iI 0 = iI ((0 : Nat) : Int) from rfl, hmax 0 (by omega), Nat.max_zero]
          refine ih (r + 1) q A (by omega) (by omega) (by omega) ?_ (fun hh => ?_)
          · rw [hA]
            refine mxS_congr (fun z hz => ⟨?_, rfl⟩)
            by_cases hl : lk n m u x z = true
            · have : z % m i ≠ r := fun q => cy ⟨z, hz, hl, q⟩
              have h2 : (z % m i < r) ↔ (z % m i < r + 1) := by omega
              simp only [h2]
            · simp [hl]
          · have := hnt hh
            have h9 : x % m i ≠ r := fun q => cy ⟨x, hx, lk_rf, q⟩
            omega

def pc6 (u : Nat) : Nat := (u.testBit 0).toNat + (u.testBit 1).toNat + (u.testBit 2).toNat + (u.testBit 3).toNat + (u.testBit 4).toNat + (u.testBit 5).toNat
theorem pc6_or : ∀ u : Fin 64, ∀ i : Fin 6, u.val.testBit i.val = false → pc6 (u.val ||| 2 ^ i.val) = pc6 u.val + 1 := by decide +kernel
theorem pc6_le : ∀ u : Fin 64, pc6 u.val ≤ 6 := by decide +kernel
theorem um_or : ∀ u : Fin 64, ∀ i : Fin 6, iI (u.val : Int) ||| zshlI 1 (iI (i.val : Int)) = iI ((u.val ||| 2 ^ i.val : Nat) : Int) := by decide +kernel
theorem um_and : ∀ u : Fin 64, ∀ i : Fin 6, (iI (u.val : Int) &&& zshlI 1 (iI (i.val : Int)) = 0) ↔ u.val.testBit i.val = false := by decide +kernel
def askC (μ : ZMem) (n : Nat) (m : Nat → Nat) : Prop := n ≤ 6 ∧ μ.1 5 0 6 = iI n ∧ ∀ i, i < n → μ.1 27 0 i = iI (m i) ∧ 2 ≤ m i ∧ m i ≤ 30
def CL (N n hi : Nat) (m : Nat → Nat) (V : Nat → Nat → Nat) (μ : ZMem) (rec : ZMem → Int32 → Int32 → Option (Int32 × ZMem)) (u : Nat) : Prop := (∀ q, (∀ j, bs q j = false) → rec μ q (iI u) = some (iI 0, μ)) ∧ ∀ q y, y < hi → ST n m hi u y q → rec μ q (iI u) = some (iI (V u y : Nat), μ)
theorem s_behind {N n hi u x i : Nat} {m : Nat → Nat} {V : Nat → Nat → Nat} {μ : ZMem} {p : Int32} {rec : ZMem → Int32 → Int32 → Option (Int32 × ZMem)} (hN : 30 ≤ N) (hA : askC μ n m) (hV : EQV n m hi V) (hhi : hi ≤ 24) (hu : u < 2 ^ n) (hx : x < hi) (hi' : i < n) (hp : ST n m hi u x p) (hrec : CL N n hi m V μ rec (u ||| 2 ^ i)) :
    ∃ R : Nat, R ≤ 100 ∧ f_A_mostAsksBehind N rec μ p (iI i) (iI u) = some (iI R, μ) ∧ (nt n m hi u x i → R = 100) ∧ (¬ nt n m hi u x i → R = mxS (lk n m u x) (V (u ||| 2 ^ i)) hi) := by
  obtain ⟨hn, h56, h27⟩ := hA
  obtain ⟨a1, a2, a3⟩ := h27 i hi'
  have h64 := pow64 hn
  obtain ⟨x4, x1, x2⟩ := s_mult (N := N) (m := m i) (μ := μ) hN a2 a3
  obtain ⟨R, r1, r2, r3⟩ := behind_l (N := N) (rec := rec) (p1 := iI (i : Int)) (p2 := iI (u : Int)) (U := iI ((u ||| 2 ^ i : Nat) : Int)) (μ := μ) hV hn hhi hu hx hi' a2 a3 hp x2 hrec.1 hrec.2 (um_or ⟨u, by omega⟩ ⟨i, by omega⟩) 24 0 N 0 (by omega) (by omega) (by omega) (Nat.le_antisymm (by omega) ((mxS_le hi).2 (fun y _ hl => by simp at hl))) (fun _ => by omega)
  refine ⟨R, r1, ?_, r3⟩
  unfold f_A_mostAsksBehind
  rw [zchk_t (zin_k 6 rfl (by omega) (by omega) (by omega))]
  simp only [zlt_eq, cl_nat (show i < 2147483648 by omega), a1]
  rw [x1, zbnd_eq]
  exact r2
theorem asks_l {N n hi u x : Nat} {m : Nat → Nat} {V : Nat → Nat → Nat} {μ : ZMem} {p : Int32} {rec : ZMem → Int32 → Int32 → Option (Int32 × ZMem)} (hN : 30 ≤ N) (hA : askC μ n m) (hV : EQV n m hi V) (hhi : hi ≤ 24) (hu : u < 2 ^ n) (hx : x < hi) (hp : ST n m hi u x p) (hal : ¬ al n m hi u x) (hrec : ∀ i, i < n → u.testBit i = false → CL N n hi m V μ rec (u ||| 2 ^ i)) :
    ∀ (f i fuel W : Nat), i + f = n → f < fuel → W ≤ 100 → (∀ i', i' < i → u.testBit i' = false → ¬ nt n m hi u x i' → W ≤ 1 + mxS (lk n m u x) (V (u ||| 2 ^ i')) hi) → (W = 100 ∨ ∃ i', i' < n ∧ u.testBit i' = false ∧ W = 1 + mxS (lk n m u x) (V (u ||| 2 ^ i')) hi) → f_A_fewestAsks_l16 N rec p (iI u) fuel (iI W) (iI i) μ = some (iI (V u x : Nat), μ)
  | 0, i, fuel, W, e1, e2, h1, h2, h3 => by
    obtain ⟨q, rfl⟩ : ∃ q, fuel = q + 1 := ⟨fuel - 1, by omega⟩
    obtain ⟨hn, h56, -⟩ := id hA
    have hW : W = V u x := by
      obtain ⟨a1, a2, a3⟩ := (hV u x hu hx).2 hal
      have l1 : V u x ≤ W := by
        rcases h3 with e | ⟨i', i1, i2, i3⟩
        · omega
        · rw [i3]; exact a2 i' i1 i2
      have l2 : W ≤ V u x := by
        rcases a3 with e | ⟨i', i1, i2, i3⟩
        · omega
        · have hnn : ¬ nt n m hi u x i' := fun q => by have := V_nt hn hV hu hx i1 q; omega
          rw [i3]; exact h2 i' (by omega) i2 hnn
      omega
    simp only [f_A_fewestAsks_l16]
    rw [h56, zif_t (by rw [iI_le (by omega) (by omega) (by omega) (by omega)]; omega), hW]; rfl
  | f + 1, i, fuel, W, e1, e2, h1, h2, h3 => by
    obtain ⟨q, rfl⟩ : ∃ q, fuel = q + 1 := ⟨fuel - 1, by omega⟩
    obtain ⟨hn, h56, -⟩ := id hA
    have h64 := pow64 hn
    have e : iI (i : Int) + (1 : Int32) = iI ((i + 1 : Nat) : Int) := by rw [ilit, iI_add]; congr 1
    simp only [f_A_fewestAsks_l16]
    rw [h56, zif_f (by rw [iI_le (by omega) (by omega) (by omega) (by omega)]; omega)]
    simp only [zlt_eq, e]
    have hb := um_and ⟨u, by omega⟩ ⟨i, by omega⟩
    simp only at hb
    cases c : u.testBit i with
    | false =>
      rw [zif_t (hb.2 c)]
      obtain ⟨R, r1, r2, r3, r4⟩ := s_behind (N := N) (i := i) (rec := rec) hN hA hV hhi hu hx (by omega) hp (hrec i (by omega) c)
      rw [r2, zbnd_eq, ilit, iI_add, iI_min (by omega) (by omega) (by omega) (by omega), show min (W : Int) (1 + (R : Int)) = ((min W (1 + R) : Nat) : Int) by omega]
      refine asks_l hN hA hV hhi hu hx hp hal hrec f (i + 1) q (min W (1 + R)) (by omega) (by omega) (by omega) (fun i' j1 j2 j3 => ?_) ?_
      · by_cases ci : i' = i
        · subst ci
          rw [← r4 j3]; omega
        · have := h2 i' (by omega) j2 j3; omega
      · by_cases cw : W ≤ 1 + R
        · rw [Nat.min_eq_left cw]; exact h3
        · right
          refine ⟨i, by omega, c, ?_⟩
          rw [Nat.min_eq_right (by omega)]
          by_cases cn : nt n m hi u x i
          · have := r3 cn; omega
          · rw [r4 cn]
    | true =>
      rw [zif_f (fun w => by rw [hb.1 w] at c; cases c)]
      refine asks_l hN hA hV hhi hu hx hp hal hrec f (i + 1) q W (by omega) (by omega) h1 (fun i' j1 j2 j3 => ?_) h3
      by_cases ci : i' = i
      · subst ci; rw [c] at j2; cases j2
      · exact h2 i' (by omega) j2 j3
theorem fewest_ok {N n hi : Nat} {m : Nat → Nat} {V : Nat → Nat → Nat} {μ : ZMem} (hN : 30 ≤ N) (hA : askC μ n m) (hV : EQV n m hi V) (hhi : hi ≤ 24) : ∀ (D u : Nat), u < 2 ^ n → 8 ≤ D + pc6 u → CL N n hi m V μ (f_A_fewestAsks N D) u
  | 0, u, hu, hD => by
    have := pow64 hA.1
    have := pc6_le ⟨u, by omega⟩
    simp only at this
    omega
  | D + 1, u, hu, hD => by
    have h64 := pow64 hA.1
    have hrec : ∀ i, i < n → u.testBit i = false → CL N n hi m V μ (f_A_fewestAsks N D) (u ||| 2 ^ i) := fun i hi' hb => by
      refine fewest_ok hN hA hV hhi D (u ||| 2 ^ i) (or_in hu hi') ?_
      have := pc6_or ⟨u, by omega⟩ ⟨i, by have := hA.1; omega⟩ hb
      simp only at this
      omega
    have hf : ∀ q, f_A_fewestAsks N (D + 1) μ q (iI (u : Int)) = f_A_fewestAsks_b N (f_A_fewestAsks N D) μ q (iI (u : Int)) := fun q => rfl
    refine ⟨fun q hq => ?_, fun q y hy hq => ?_⟩
    · obtain ⟨r, r1, r2, r3⟩ := s_bitCount (N := N) (μ := μ) (p := q) (fun j _ => hq j)
      rw [hf]
      unfold f_A_fewestAsks_b
      have : ¬ 1 < r := fun w => by
        obtain ⟨x, y, -, -, c, -⟩ := r3.1 w
        rw [hq x] at c; cases c
      rw [r2, zbnd_eq, zif_f (by rw [ilit, iI_lt (by omega) (by omega) (by omega) (by omega)]; omega)]; rfl
    · have hin : ∀ z, bs q z = true ↔ z < hi ∧ lk n m u y z = true := fun z => by rw [hq z]; simp
      obtain ⟨r, r1, r2, r3⟩ := s_bitCount (N := N) (μ := μ) (p := q) (fun j hj => by
        rw [hq j]
        have : ¬ j < hi := by omega
        simp [this])
      rw [hf]
      unfold f_A_fewestAsks_b
      rw [r2, zbnd_eq]
      by_cases c : al n m hi u y
      · have : ¬ 1 < r := fun w => by
          obtain ⟨a, b, h1, h2, h3, h4⟩ := r3.1 w
          have ha := (hin a).1 h3
          have hb := (hin b).1 h4
          have := c a ha.1 ha.2
          have := c b hb.1 hb.2
          omega
        rw [zif_f (by rw [ilit, iI_lt (by omega) (by omega) (by omega) (by omega)]; omega), (hV u y hu hy).1 c]; rfl
      · have : 1 < r := r3.2 (by
          have hex : ∃ z, z < hi ∧ lk n m u y z = true ∧ z ≠ y := by
            by_cases h : ∃ z, z < hi ∧ lk n m u y z = true ∧ z ≠ y
            · exact h
            · exact absurd (fun z hz hl => by
                by_cases hzy : z = y
                · exact hzy
                · exact absurd ⟨z, hz, hl, hzy⟩ h) c
          obtain ⟨z, z1, z2, z3⟩ := hex
          by_cases hlt : z < y
          · exact ⟨z, y, hlt, by omega, (hin z).2 ⟨z1, z2⟩, (hin y).2 ⟨hy, lk_rf⟩⟩
          · exact ⟨y, z, by omega, by omega, (hin y).2 ⟨hy, lk_rf⟩, (hin z).2 ⟨z1, z2⟩⟩)
        rw [zif_t (by rw [ilit, iI_lt (by omega) (by omega) (by omega) (by omega)]; omega)]
        exact asks_l hN hA hV hhi hu hy hq c hrec n 0 N 100 (by omega) (by have := hA.1; omega) (by omega) (fun i' h => by omega) (Or.inl rfl)
