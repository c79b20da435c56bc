/-! known: what must be asked, as an equation -/
def lk (n : Nat) (m : Nat → Nat) (u x y : Nat) : Bool := decide (∀ i, i < n → u.testBit i = true → x % m i = y % m i)
theorem lk_iff {n : Nat} {m : Nat → Nat} {u x y : Nat} : lk n m u x y = true ↔ ∀ i, i < n → u.testBit i = true → x % m i = y % m i := decide_eq_true_iff
theorem lk_rf {n : Nat} {m : Nat → Nat} {u x : Nat} : lk n m u x x = true := lk_iff.2 (fun _ _ _ => rfl)
theorem lk_eq {n : Nat} {m : Nat → Nat} {u x y : Nat} (h : lk n m u x y = true) (z : Nat) : lk n m u y z = lk n m u x z := by
  have h' := lk_iff.1 h
  refine Bool.eq_iff_iff.2 ⟨fun q => lk_iff.2 (fun i hi hu => (h' i hi hu).trans (lk_iff.1 q i hi hu)), fun q => lk_iff.2 (fun i hi hu => (h' i hi hu).symm.trans (lk_iff.1 q i hi hu))⟩
theorem lk_sym {n : Nat} {m : Nat → Nat} {u x y : Nat} (h : lk n m u x y = true) : lk n m u y x = true := by rw [lk_eq h]; exact lk_rf
theorem tb_or {u i j : Nat} : (u ||| 2 ^ i).testBit j = (u.testBit j || decide (i = j)) := by rw [Nat.testBit_or, Nat.testBit_two_pow]
theorem lk_or {n : Nat} {m : Nat → Nat} {u i x y : Nat} (hi : i < n) : lk n m (u ||| 2 ^ i) x y = true ↔ lk n m u x y = true ∧ x % m i = y % m i := by
  rw [lk_iff, lk_iff]
  refine ⟨fun h => ⟨fun j hj hu => h j hj (by rw [tb_or, hu]; rfl), h i hi (by rw [tb_or]; simp)⟩, fun h j hj hu => ?_⟩
  rw [tb_or] at hu
  cases hb : u.testBit j with
  | true => exact h.1 j hj hb
  | false =>
    rw [hb] at hu
    have : i = j := by simpa using hu
    rw [← this]; exact h.2
def mxS (P : Nat → Bool) (f : Nat → Nat) : Nat → Nat
  | 0 => 0
  | k + 1 => max (mxS P f k) (if P k = true then f k else 0)
theorem mxS_le {P : Nat → Bool} {f : Nat → Nat} {B : Nat} : ∀ k, mxS P f k ≤ B ↔ ∀ y, y < k → P y = true → f y ≤ B
  | 0 => ⟨fun _ y h => by omega, fun _ => Nat.zero_le _⟩
  | k + 1 => by
    show max (mxS P f k) (if P k = true then f k else 0) ≤ B ↔ _
    rw [Nat.max_le, mxS_le k]
    refine ⟨fun ⟨a, b⟩ y hy hp => ?_, fun h => ⟨fun y hy hp => h y (by omega) hp, ?_⟩⟩
    · by_cases c : y = k
      · rw [c] at hp ⊢; rw [if_pos hp] at b; exact b
      · exact a y (by omega) hp
    · split
      · rename_i c; exact h k (by omega) c
      · omega
theorem mxS_ge {P : Nat → Bool} {f : Nat → Nat} {k y : Nat} (h : y < k) (hp : P y = true) : f y ≤ mxS P f k := (mxS_le (B := mxS P f k) k).1 (Nat.le_refl _) y h hp
theorem mxS_mono {P Q : Nat → Bool} {f g : Nat → Nat} {k : Nat} (h : ∀ y, y < k → P y = true → Q y = true ∧ f y ≤ g y) : mxS P f k ≤ mxS Q g k := (mxS_le k).2 (fun y hy hp => Nat.le_trans (h y hy hp).2 (mxS_ge hy (h y hy hp).1))
def al (n : Nat) (m : Nat → Nat) (hi u x : Nat) : Prop := ∀ y, y < hi → lk n m u x y = true → y = x
def E1 (n : Nat) (m : Nat → Nat) (hi : Nat) (V : Nat → Nat → Nat) (u x : Nat) : Prop := (al n m hi u x → V u x = 0) ∧ (¬ al n m hi u x → V u x ≤ 100 ∧ (∀ i, i < n → u.testBit i = false → V u x ≤ 1 + mxS (lk n m u x) (V (u ||| 2 ^ i)) hi) ∧ (V u x = 100 ∨ ∃ i, i < n ∧ u.testBit i = false ∧ V u x = 1 + mxS (lk n m u x) (V (u ||| 2 ^ i)) hi))
def EQV (n : Nat) (m : Nat → Nat) (hi : Nat) (V : Nat → Nat → Nat) : Prop := ∀ u x, u < 2 ^ n → x < hi → E1 n m hi V u x
theorem or_in {n u i : Nat} (hu : u < 2 ^ n) (hi : i < n) : u ||| 2 ^ i < 2 ^ n := Nat.or_lt_two_pow hu (Nat.pow_lt_pow_right (by omega) hi)
theorem or_gt : ∀ u : Fin 64, ∀ i : Fin 6, u.val.testBit i.val = false → u.val < u.val ||| 2 ^ i.val := by decide +kernel
theorem pow64 {n : Nat} (h : n ≤ 6) : 2 ^ n ≤ 64 := Nat.pow_le_pow_right (by omega) h
theorem EQV.le {n : Nat} {m : Nat → Nat} {hi : Nat} {V : Nat → Nat → Nat} (h : EQV n m hi V) {u x : Nat} (hu : u < 2 ^ n) (hx : x < hi) : V u x ≤ 100 := by
  obtain ⟨h1, h2⟩ := h u x hu hx
  by_cases c : al n m hi u x
  · rw [h1 c]; omega
  · exact (h2 c).1
theorem al_congr {n : Nat} {m : Nat → Nat} {hi u u' x : Nat} (h : ∀ y, y < hi → lk n m u x y = lk n m u' x y) : al n m hi u x ↔ al n m hi u' x := by
  unfold al
  exact ⟨fun q y hy hl => q y hy (by rw [h y hy]; exact hl), fun q y hy hl => q y hy (by rw [← h y hy]; exact hl)⟩
/-- what was asked besides, and told nothing, does not help -/
theorem V_mono {n : Nat} {m : Nat → Nat} {hi : Nat} {V : Nat → Nat → Nat} (hn : n ≤ 6) (h : EQV n m hi V) : ∀ (k u u' x : Nat), 64 ≤ u' + k → u < 2 ^ n → u' < 2 ^ n → x < hi → (∀ i, u'.testBit i = false → u.testBit i = false) → (∀ y, y < hi → lk n m u x y = lk n m u' x y) → V u x ≤ V u' x
  | 0, u, u', x, h1, h2, h3, h4, h5, h6 => by have := pow64 hn; omega
  | k + 1, u, u', x, h1, h2, h3, h4, h5, h6 => by
    have h64 := pow64 hn
    obtain ⟨a1, a2⟩ := h u x h2 h4
    obtain ⟨b1, b2⟩ := h u' x h3 h4
    by_cases c : al n m hi u' x
    · rw [a1 ((al_congr h6).2 c)]; omega
    · have ca : ¬ al n m hi u x := fun q => c ((al_congr h6).1 q)
      obtain ⟨b3, b4, b5⟩ := b2 c
      obtain ⟨a3, a4, -⟩ := a2 ca
      rcases b5 with e | ⟨i, i1, i2, i3⟩
      · omega
      · have := a4 i i1 (h5 i i2)
        have hm : mxS (lk n m u x) (V (u ||| 2 ^ i)) hi ≤ mxS (lk n m u' x) (V (u' ||| 2 ^ i)) hi := mxS_mono (fun y hy hp => by
          have hp' : lk n m u' x y = true := by rw [← h6 y hy]; exact hp
          refine ⟨hp', ?_⟩
          have hg := or_gt ⟨u', by omega⟩ ⟨i, by omega⟩ i2
          refine V_mono hn h k (u ||| 2 ^ i) (u' ||| 2 ^ i) y (by simp only at hg; omega) (or_in h2 i1) (or_in h3 i1) hy (fun j hj => ?_) (fun z hz => ?_)
          · rw [tb_or] at hj ⊢
            cases hb : u'.testBit j with
            | true => rw [hb] at hj; simp at hj
            | false =>
              rw [hb] at hj
              rw [h5 j hb]
              exact hj
          · refine Bool.eq_iff_iff.2 ?_
            rw [lk_or i1, lk_or i1, lk_eq hp, lk_eq hp', h6 z hz])
        omega
/-- an ask that tells nothing is never the best -/
def nt (n : Nat) (m : Nat → Nat) (hi u x i : Nat) : Prop := ∀ y, y < hi → lk n m u x y = true → y % m i = x % m i
theorem V_nt {n : Nat} {m : Nat → Nat} {hi : Nat} {V : Nat → Nat → Nat} (hn : n ≤ 6) (h : EQV n m hi V) {u x i : Nat} (hu : u < 2 ^ n) (hx : x < hi) (hi' : i < n) (hnt : nt n m hi u x i) : V u x < 1 + mxS (lk n m u x) (V (u ||| 2 ^ i)) hi := by
  have h1 : V u x ≤ V (u ||| 2 ^ i) x := V_mono hn h 64 u (u ||| 2 ^ i) x (by omega) hu (or_in hu hi') hx (fun j hj => by
    rw [tb_or] at hj
    cases hb : u.testBit j with
    | true => rw [hb] at hj; simp at hj
    | false => rfl) (fun y hy => by
    refine Bool.eq_iff_iff.2 ?_
    rw [lk_or hi']
    exact ⟨fun q => ⟨q, (hnt y hy q).symm⟩, fun q => q.1⟩)
  have h2 := mxS_ge (P := lk n m u x) (f := V (u ||| 2 ^ i)) hx lk_rf
  omega
theorem mxS_congr {P Q : Nat → Bool} {f g : Nat → Nat} {k : Nat} (h : ∀ y, y < k → P y = Q y ∧ f y = g y) : mxS P f k = mxS Q g k :=
  Nat.le_antisymm (mxS_mono (fun y hy hp => ⟨by rw [← (h y hy).1]; exact hp, by rw [(h y hy).2]; exact Nat.le_refl _⟩)) (mxS_mono (fun y hy hp => ⟨by rw [(h y hy).1]; exact hp, by rw [(h y hy).2]; exact Nat.le_refl _⟩))
theorem V_class {n : Nat} {m : Nat → Nat} {hi : Nat} {V : Nat → Nat → Nat} (h : EQV n m hi V) {u x y : Nat} (hu : u < 2 ^ n) (hx : x < hi) (hy : y < hi) (hl : lk n m u x y = true) : V u y = V u x := by
  have hP : ∀ z, lk n m u y z = lk n m u x z := lk_eq hl
  obtain ⟨a1, a2⟩ := h u x hu hx
  obtain ⟨b1, b2⟩ := h u y hu hy
  have hal : al n m hi u x ↔ al n m hi u y := by
    refine ⟨fun q z hz hlz => ?_, fun q z hz hlz => ?_⟩
    · rw [hP] at hlz; rw [q z hz hlz, q y hy hl]
    · rw [← hP] at hlz; rw [q z hz hlz, ← q x hx (lk_sym hl)]
  by_cases c : al n m hi u x
  · rw [a1 c, b1 (hal.1 c)]
  · have cb : ¬ al n m hi u y := fun q => c (hal.2 q)
    obtain ⟨a3, a4, a5⟩ := a2 c
    obtain ⟨b3, b4, b5⟩ := b2 cb
    have he : ∀ i, mxS (lk n m u y) (V (u ||| 2 ^ i)) hi = mxS (lk n m u x) (V (u ||| 2 ^ i)) hi := fun i => mxS_congr (fun z _ => ⟨hP z, rfl⟩)
    have l1 : V u y ≤ V u x := by
      rcases a5 with e | ⟨i, i1, i2, i3⟩
      · omega
      · rw [i3, ← he]; exact b4 i i1 i2
    have l2 : V u x ≤ V u y := by
      rcases b5 with e | ⟨i, i1, i2, i3⟩
      · omega
      · rw [i3, he]; exact a4 i i1 i2
    omega
