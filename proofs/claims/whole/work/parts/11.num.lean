/-! numbers: 32 and 64 bits by whole numbers -/
def iI (z : Int) : Int32 := Int32.ofInt z
def lI (z : Int) : Int64 := Int64.ofInt z
theorem iI_toInt {z : Int} (h1 : -2147483648 ≤ z) (h2 : z < 2147483648) : (iI z).toInt = z := Int32.toInt_ofInt_of_le (by simpa using h1) (by simpa using h2)
theorem lI_toInt {z : Int} (h1 : -9223372036854775808 ≤ z) (h2 : z < 9223372036854775808) : (lI z).toInt = z := Int64.toInt_ofInt_of_le (by simpa using h1) (by simpa using h2)
theorem iI_of (x : Int32) : x = iI x.toInt := (Int32.ofInt_toInt x).symm
theorem lI_of (x : Int64) : x = lI x.toInt := (Int64.ofInt_toInt x).symm
theorem iI_rng (x : Int32) : -2147483648 ≤ x.toInt ∧ x.toInt < 2147483648 := ⟨Int32.le_toInt x, Int32.toInt_lt x⟩
theorem lI_rng (x : Int64) : -9223372036854775808 ≤ x.toInt ∧ x.toInt < 9223372036854775808 := ⟨Int64.le_toInt x, Int64.toInt_lt x⟩
theorem nI_iI (n : Nat) : nI n = iI n := Int32.ofInt_eq_ofNat.symm
theorem ilit (n : Nat) : (OfNat.ofNat n : Int32) = iI (OfNat.ofNat n) := (Int32.ofInt_eq_ofNat (n := n)).symm
theorem llit (n : Nat) : (OfNat.ofNat n : Int64) = lI (OfNat.ofNat n) := (Int64.ofInt_eq_ofNat (n := n)).symm
theorem iI_add (a b : Int) : iI a + iI b = iI (a + b) := (Int32.ofInt_add a b).symm
theorem iI_sub (a b : Int) : iI a - iI b = iI (a - b) := (Int32.ofInt_sub a b).symm
theorem iI_mul (a b : Int) : iI a * iI b = iI (a * b) := (Int32.ofInt_mul a b).symm
theorem iI_neg (a : Int) : -iI a = iI (-a) := Int32.neg_ofInt
theorem lI_add (a b : Int) : lI a + lI b = lI (a + b) := (Int64.ofInt_add a b).symm
theorem lI_sub (a b : Int) : lI a - lI b = lI (a - b) := (Int64.ofInt_sub a b).symm
theorem lI_mul (a b : Int) : lI a * lI b = lI (a * b) := (Int64.ofInt_mul a b).symm
theorem lI_neg (a : Int) : -lI a = lI (-a) := Int64.neg_ofInt
theorem iI_lt {a b : Int} (h1 : -2147483648 ≤ a) (h2 : a < 2147483648) (h3 : -2147483648 ≤ b) (h4 : b < 2147483648) : (iI a < iI b) = (a < b) := by rw [Int32.lt_iff_toInt_lt, iI_toInt h1 h2, iI_toInt h3 h4]
theorem iI_le {a b : Int} (h1 : -2147483648 ≤ a) (h2 : a < 2147483648) (h3 : -2147483648 ≤ b) (h4 : b < 2147483648) : (iI a ≤ iI b) = (a ≤ b) := by rw [Int32.le_iff_toInt_le, iI_toInt h1 h2, iI_toInt h3 h4]
theorem iI_eq {a b : Int} (h1 : -2147483648 ≤ a) (h2 : a < 2147483648) (h3 : -2147483648 ≤ b) (h4 : b < 2147483648) : (iI a = iI b) = (a = b) := by rw [← Int32.toInt_inj, iI_toInt h1 h2, iI_toInt h3 h4]
theorem lI_lt {a b : Int} (h1 : -9223372036854775808 ≤ a) (h2 : a < 9223372036854775808) (h3 : -9223372036854775808 ≤ b) (h4 : b < 9223372036854775808) : (lI a < lI b) = (a < b) := by rw [Int64.lt_iff_toInt_lt, lI_toInt h1 h2, lI_toInt h3 h4]
theorem lI_le {a b : Int} (h1 : -9223372036854775808 ≤ a) (h2 : a < 9223372036854775808) (h3 : -9223372036854775808 ≤ b) (h4 : b < 9223372036854775808) : (lI a ≤ lI b) = (a ≤ b) := by rw [Int64.le_iff_toInt_le, lI_toInt h1 h2, lI_toInt h3 h4]
theorem lI_eq {a b : Int} (h1 : -9223372036854775808 ≤ a) (h2 : a < 9223372036854775808) (h3 : -9223372036854775808 ≤ b) (h4 : b < 9223372036854775808) : (lI a = lI b) = (a = b) := by rw [← Int64.toInt_inj, lI_toInt h1 h2, lI_toInt h3 h4]
theorem iI_clamp {z : Int} (h1 : -2147483648 ≤ z) (h2 : z < 2147483648) : (iI z).toNatClampNeg = z.toNat := by rw [← Int32.toNat_toInt, iI_toInt h1 h2]
theorem iI_long {z : Int} (h1 : -2147483648 ≤ z) (h2 : z < 2147483648) : (iI z).toInt64 = lI z := by
  rw [← Int64.ofInt_int32ToInt, iI_toInt h1 h2]; rfl
theorem lI_int (z : Int) : (lI z).toInt32 = iI z := Int64.toInt32_ofInt
theorem iI_div {a b : Int} (h1 : -2147483647 ≤ a) (h2 : a < 2147483648) (h3 : -2147483648 ≤ b) (h4 : b < 2147483648) : iI a / iI b = iI (a.tdiv b) := by
  apply Int32.toInt.inj
  rw [Int32.toInt_div, iI_toInt (by omega) h2, iI_toInt h3 h4]
  have hb : (a.tdiv b).natAbs ≤ a.natAbs := Int.natAbs_tdiv_le_natAbs a b
  rw [iI_toInt (by omega) (by omega)]
  exact Int.bmod_eq_of_le (by omega) (by omega)
theorem lI_div {a b : Int} (h1 : -9223372036854775807 ≤ a) (h2 : a < 9223372036854775808) (h3 : -9223372036854775808 ≤ b) (h4 : b < 9223372036854775808) : lI a / lI b = lI (a.tdiv b) := by
  apply Int64.toInt.inj
  rw [Int64.toInt_div, lI_toInt (by omega) h2, lI_toInt h3 h4]
  have hb : (a.tdiv b).natAbs ≤ a.natAbs := Int.natAbs_tdiv_le_natAbs a b
  rw [lI_toInt (by omega) (by omega)]
  exact Int.bmod_eq_of_le (by omega) (by omega)
theorem iI_rem {a b : Int} (h1 : -2147483647 ≤ a) (h2 : a < 2147483648) (h3 : -2147483648 ≤ b) (h4 : b < 2147483648) : zremI (iI a) (iI b) = iI (a.tmod b) := by
  unfold zremI
  rw [iI_div h1 h2 h3 h4, iI_mul, iI_sub]
  congr 1
  have := Int.tmod_add_tdiv_mul a b
  omega
theorem lI_rem {a b : Int} (h1 : -9223372036854775807 ≤ a) (h2 : a < 9223372036854775808) (h3 : -9223372036854775808 ≤ b) (h4 : b < 9223372036854775808) : zremJ (lI a) (lI b) = lI (a.tmod b) := by
  unfold zremJ
  rw [lI_div h1 h2 h3 h4, lI_mul, lI_sub]
  congr 1
  have := Int.tmod_add_tdiv_mul a b
  omega
theorem iI_max {a b : Int} (h1 : -2147483648 ≤ a) (h2 : a < 2147483648) (h3 : -2147483648 ≤ b) (h4 : b < 2147483648) : zmaxI (iI a) (iI b) = iI (max a b) := by
  unfold zmaxI
  simp only [iI_lt h1 h2 h3 h4]
  split <;> congr 1 <;> omega
theorem iI_min {a b : Int} (h1 : -2147483648 ≤ a) (h2 : a < 2147483648) (h3 : -2147483648 ≤ b) (h4 : b < 2147483648) : zminI (iI a) (iI b) = iI (min a b) := by
  unfold zminI
  simp only [iI_lt h3 h4 h1 h2]
  split <;> congr 1 <;> omega
theorem lI_abs {a : Int} (h1 : -9223372036854775808 ≤ a) (h2 : a < 9223372036854775808) : zabsJ (lI a) = lI (a.natAbs : Int) := by
  unfold zabsJ
  have e : ((0 : Int64) < lI a) = (0 < a) := lI_lt (a := 0) (by omega) (by omega) h1 h2
  simp only [e, lI_neg]
  split <;> congr 1 <;> omega
/-- comparing longs by lcmp -/
theorem lcmp_lt {a b : Int} (h1 : -9223372036854775808 ≤ a) (h2 : a < 9223372036854775808) (h3 : -9223372036854775808 ≤ b) (h4 : b < 9223372036854775808) : (lg_cmp (lI a) (lI b) < 0) = (a < b) := by
  unfold lg_cmp
  simp only [show (lI a > lI b) = (lI b < lI a) from rfl, lI_lt h3 h4 h1 h2, lI_eq h1 h2 h3 h4]
  by_cases c1 : b < a
  · rw [if_pos c1]; exact propext ⟨fun h => absurd h (by decide), fun h => by omega⟩
  · rw [if_neg c1]
    by_cases c2 : a = b
    · rw [if_pos c2]; exact propext ⟨fun h => absurd h (by decide), fun h => by omega⟩
    · rw [if_neg c2]; exact propext ⟨fun _ => by omega, fun _ => by decide⟩
theorem lcmp_le {a b : Int} (h1 : -9223372036854775808 ≤ a) (h2 : a < 9223372036854775808) (h3 : -9223372036854775808 ≤ b) (h4 : b < 9223372036854775808) : (lg_cmp (lI a) (lI b) ≤ 0) = (a ≤ b) := by
  unfold lg_cmp
  simp only [show (lI a > lI b) = (lI b < lI a) from rfl, lI_lt h3 h4 h1 h2, lI_eq h1 h2 h3 h4]
  by_cases c1 : b < a
  · rw [if_pos c1]; exact propext ⟨fun h => absurd h (by decide), fun h => by omega⟩
  · rw [if_neg c1]
    by_cases c2 : a = b
    · rw [if_pos c2]; exact propext ⟨fun h => by omega, fun _ => by decide⟩
    · rw [if_neg c2]; exact propext ⟨fun _ => by omega, fun _ => by decide⟩
theorem lcmp_eq {a b : Int} (h1 : -9223372036854775808 ≤ a) (h2 : a < 9223372036854775808) (h3 : -9223372036854775808 ≤ b) (h4 : b < 9223372036854775808) : (lg_cmp (lI a) (lI b) = 0) = (a = b) := by
  unfold lg_cmp
  simp only [show (lI a > lI b) = (lI b < lI a) from rfl, lI_lt h3 h4 h1 h2, lI_eq h1 h2 h3 h4]
  by_cases c1 : b < a
  · rw [if_pos c1]; exact propext ⟨fun h => absurd h (by decide), fun h => by omega⟩
  · rw [if_neg c1]
    by_cases c2 : a = b
    · rw [if_pos c2]; exact propext ⟨fun h => c2, fun _ => rfl⟩
    · rw [if_neg c2]; exact propext ⟨fun h => absurd h (by decide), fun h => absurd h c2⟩
theorem lcmp_ge {a b : Int} (h1 : -9223372036854775808 ≤ a) (h2 : a < 9223372036854775808) (h3 : -9223372036854775808 ≤ b) (h4 : b < 9223372036854775808) : (0 ≤ lg_cmp (lI a) (lI b)) = (b ≤ a) := by
  unfold lg_cmp
  simp only [show (lI a > lI b) = (lI b < lI a) from rfl, lI_lt h3 h4 h1 h2, lI_eq h1 h2 h3 h4]
  by_cases c1 : b < a
  · rw [if_pos c1]; exact propext ⟨fun h => by omega, fun h => by decide⟩
  · rw [if_neg c1]
    by_cases c2 : a = b
    · rw [if_pos c2]; exact propext ⟨fun h => by omega, fun _ => by decide⟩
    · rw [if_neg c2]; exact propext ⟨fun h => absurd h (by decide), fun h => by omega⟩
theorem lcmp_gt {a b : Int} (h1 : -9223372036854775808 ≤ a) (h2 : a < 9223372036854775808) (h3 : -9223372036854775808 ≤ b) (h4 : b < 9223372036854775808) : (0 < lg_cmp (lI a) (lI b)) = (b < a) := by
  unfold lg_cmp
  simp only [show (lI a > lI b) = (lI b < lI a) from rfl, lI_lt h3 h4 h1 h2, lI_eq h1 h2 h3 h4]
  by_cases c1 : b < a
  · rw [if_pos c1]; exact propext ⟨fun h => by omega, fun h => by decide⟩
  · rw [if_neg c1]
    by_cases c2 : a = b
    · rw [if_pos c2]; exact propext ⟨fun h => absurd h (by decide), fun h => by omega⟩
    · rw [if_neg c2]; exact propext ⟨fun h => absurd h (by decide), fun h => by omega⟩
/-- running a function -/
theorem zlt_eq {α β : Type} (v : α) (k : α → Option β) : zlt v k = k v := rfl
theorem zbnd_eq {α β : Type} (a : α) (μ : ZMem) (k : α → ZMem → Option β) : zbnd (some (a, μ)) k = k a μ := rfl
theorem zbrf_n {β : Type} (μ : ZMem) (ka : ZMem → Option β) (kb : Nat → ZMem → Option β) : zbrf (some (none, μ)) ka kb = ka μ := rfl
theorem zbrf_s {β : Type} (i : Nat) (μ : ZMem) (ka : ZMem → Option β) (kb : Nat → ZMem → Option β) : zbrf (some (some i, μ)) ka kb = kb i μ := rfl
theorem zchk_t {β : Type} {p : Prop} [Decidable p] {k : Option β} (h : p) : zchk p k = k := if_pos h
theorem zif_t {β : Type} {p : Prop} [Decidable p] {a b : Option β} (h : p) : zif p a b = a := if_pos h
theorem zif_f {β : Type} {p : Prop} [Decidable p] {a b : Option β} (h : ¬ p) : zif p a b = b := if_neg h
theorem zin_iI {z : Int} {n : Nat} (h1 : 0 ≤ z) (h2 : z < n) (h3 : n < 2147483648) : zin (iI z) n := by
  intro h
  rw [iI_clamp (by omega) (by omega), show (0 : Int32) = iI 0 from rfl, iI_lt (by omega) (by omega) (by omega) (by omega)] at h
  omega
/-- reading behind writing -/
theorem rI {μ : ZMem} {k i x k' i' x' : Nat} {v : Int32} : (zsetI μ k i x v).1 k' i' x' = if k' = k ∧ i' = i ∧ x' = x then v else μ.1 k' i' x' := by
  unfold zsetI upd
  by_cases h : k' = k ∧ i' = i
  · simp only [h, and_self, ite_true, true_and]
  · simp only [h, ite_false]
    rw [if_neg (fun q => h ⟨q.1, q.2.1⟩)]
theorem rIJ {μ : ZMem} {k i x : Nat} {v : Int32} : (zsetI μ k i x v).2 = μ.2 := rfl
theorem rJ {μ : ZMem} {k i x k' i' x' : Nat} {v : Int64} : (zsetJ μ k i x v).2 k' i' x' = if k' = k ∧ i' = i ∧ x' = x then v else μ.2 k' i' x' := by
  unfold zsetJ vp_updL
  by_cases h : k' = k ∧ i' = i
  · simp only [h, and_self, ite_true, true_and]
  · simp only [h, ite_false]
    rw [if_neg (fun q => h ⟨q.1, q.2.1⟩)]
theorem rJI {μ : ZMem} {k i x : Nat} {v : Int64} : (zsetJ μ k i x v).1 = μ.1 := rfl
theorem rPI {μ : ZMem} {k i k' i' : Nat} {f : Nat → Int32} : (zputI μ k i f).1 k' i' = if k' = k ∧ i' = i then f else μ.1 k' i' := rfl
theorem rPIJ {μ : ZMem} {k i : Nat} {f : Nat → Int32} : (zputI μ k i f).2 = μ.2 := rfl
theorem rPJ {μ : ZMem} {k i k' i' : Nat} {f : Nat → Int64} : (zputJ μ k i f).2 k' i' = if k' = k ∧ i' = i then f else μ.2 k' i' := rfl
theorem rPJI {μ : ZMem} {k i : Nat} {f : Nat → Int64} : (zputJ μ k i f).1 = μ.1 := rfl
