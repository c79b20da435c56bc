/-! known: bits of an int, and how many -/
def bs (p : Int32) (j : Nat) : Bool := p.toBitVec.getLsbD j
theorem bs_and {p q : Int32} {j : Nat} : bs (p &&& q) j = (bs p j && bs q j) := by
  unfold bs; rw [Int32.toBitVec_and, BitVec.getLsbD_and]
theorem bs_or {p q : Int32} {j : Nat} : bs (p ||| q) j = (bs p j || bs q j) := by
  unfold bs; rw [Int32.toBitVec_or, BitVec.getLsbD_or]
theorem bs_ge {p : Int32} {j : Nat} (h : 32 ≤ j) : bs p j = false := by
  unfold bs; exact BitVec.getLsbD_of_ge _ _ h
theorem bs_ext {p q : Int32} (h : ∀ j, j < 32 → bs p j = bs q j) : p = q := by
  rw [← Int32.toBitVec_inj]
  exact BitVec.eq_of_getLsbD_eq (fun j hj => h j hj)
theorem bs_nat {a j : Nat} (h : a < 4294967296) : bs (iI (a : Int)) j = a.testBit j := by
  unfold bs
  rw [← BitVec.testBit_toNat]
  congr 1
  show (BitVec.ofInt 32 (a : Int)).toNat = a
  rw [BitVec.toNat_ofInt]
  omega
theorem shamt : ∀ r : Fin 32, ((iI (r.val : Int) &&& 31).toBitVec.smod 32#32).toNat = r.val := by decide +kernel
theorem bs_shl {p : Int32} {r j : Nat} (hr : r < 32) : bs (zshlI p (iI (r : Int))) j = (decide (j < 32) && (!decide (j < r) && bs p (j - r))) := by
  unfold bs zshlI
  have e : (p <<< (iI (r : Int) &&& 31)).toBitVec = p.toBitVec <<< ((iI (r : Int) &&& 31).toBitVec.smod 32#32).toNat := rfl
  rw [e, shamt ⟨r, hr⟩, BitVec.getLsbD_shiftLeft]
  simp [Bool.and_assoc]
theorem bs_one {k j : Nat} (hk : k < 32) : bs (zshlI 1 (iI (k : Int))) j = decide (j = k) := by
  rw [bs_shl hk]
  have h1 : ∀ i, bs 1 i = decide (i = 0) := fun i => by
    rw [show (1 : Int32) = iI ((1 : Nat) : Int) from rfl, bs_nat (by omega)]
    cases i with
    | zero => rfl
    | succ i => rw [Nat.testBit_succ]; simp
  rw [h1]
  by_cases c : j = k
  · simp [c, hk]
  · by_cases c2 : j < k
    · simp [c2, c]
    · have : ¬ j - k = 0 := by omega
      simp [c, this]
def sumB (f : Nat → Bool) : Nat → Nat
  | 0 => 0
  | k + 1 => sumB f k + (f k).toNat
theorem sumB_pos {f : Nat → Bool} : ∀ k, 1 ≤ sumB f k ↔ ∃ x, x < k ∧ f x = true
  | 0 => ⟨fun h => by simp [sumB] at h, fun ⟨x, h, _⟩ => by omega⟩
  | k + 1 => by
    have ih := sumB_pos (f := f) k
    show 1 ≤ sumB f k + (f k).toNat ↔ _
    cases h : f k with
    | true => exact ⟨fun _ => ⟨k, by omega, h⟩, fun _ => by show 1 ≤ _ + 1; omega⟩
    | false =>
      show 1 ≤ sumB f k + 0 ↔ _
      rw [Nat.add_zero, ih]
      refine ⟨fun ⟨x, a, b⟩ => ⟨x, by omega, b⟩, fun ⟨x, a, b⟩ => ⟨x, ?_, b⟩⟩
      by_cases c : x = k
      · rw [c, h] at b; cases b
      · omega
theorem sumB_two {f : Nat → Bool} : ∀ k, 2 ≤ sumB f k ↔ ∃ x y, x < y ∧ y < k ∧ f x = true ∧ f y = true
  | 0 => ⟨fun h => by simp [sumB] at h, fun ⟨x, y, _, h, _⟩ => by omega⟩
  | k + 1 => by
    have ih := sumB_two (f := f) k
    have ip := sumB_pos (f := f) k
    show 2 ≤ sumB f k + (f k).toNat ↔ _
    cases h : f k with
    | true =>
      show 2 ≤ sumB f k + 1 ↔ _
      refine ⟨fun q => ?_, fun ⟨x, y, a, b, c, d⟩ => ?_⟩
      · obtain ⟨x, a, b⟩ := ip.1 (by omega)
        exact ⟨x, k, a, by omega, b, h⟩
      · have := ip.2 ⟨x, by omega, c⟩
        omega
    | false =>
      show 2 ≤ sumB f k + 0 ↔ _
      rw [Nat.add_zero, ih]
      refine ⟨fun ⟨x, y, a, b, c, d⟩ => ⟨x, y, a, by omega, c, d⟩, fun ⟨x, y, a, b, c, d⟩ => ⟨x, y, a, ?_, c, d⟩⟩
      by_cases e : y = k
      · rw [e, h] at d; cases d
      · omega
theorem sumB_add {f : Nat → Bool} (a : Nat) : ∀ b, sumB f (a + b) = sumB f a + sumB (fun j => f (a + j)) b
  | 0 => rfl
  | b + 1 => by
    show sumB f (a + b) + (f (a + b)).toNat = sumB f a + (sumB (fun j => f (a + j)) b + (f (a + b)).toNat)
    rw [sumB_add a b, Nat.add_assoc]
theorem sumB_congr {f g : Nat → Bool} : ∀ k, (∀ j, j < k → f j = g j) → sumB f k = sumB g k
  | 0, _ => rfl
  | k + 1, h => by
    show sumB f k + (f k).toNat = sumB g k + (g k).toNat
    rw [sumB_congr k (fun j hj => h j (by omega)), h k (by omega)]
theorem iand {a b : Nat} (ha : a < 2147483648) (hb : b < 2147483648) : iI (a : Int) &&& iI (b : Int) = iI ((a &&& b : Nat) : Int) := by
  have hc : a &&& b < 2147483648 := Nat.lt_of_le_of_lt Nat.and_le_left ha
  refine bs_ext (fun j _ => ?_)
  rw [bs_and, bs_nat (by omega), bs_nat (by omega), bs_nat (by omega), Nat.testBit_and]
theorem iushr {a k : Nat} {s : Int32} (ha : a < 2147483648) (hs : (((s.toUInt32 &&& Int32.toUInt32 31).toBitVec % 32#32)).toNat = k) : zushrI (iI (a : Int)) s = iI ((a / 2 ^ k : Nat) : Int) := by
  have hc : a / 2 ^ k < 2147483648 := Nat.lt_of_le_of_lt (Nat.div_le_self _ _) ha
  refine bs_ext (fun j _ => ?_)
  rw [bs_nat (by omega), Nat.testBit_div_two_pow]
  have e : (zushrI (iI (a : Int)) s).toBitVec = (iI (a : Int)).toBitVec >>> (((s.toUInt32 &&& Int32.toUInt32 31).toBitVec % 32#32)).toNat := rfl
  show (zushrI (iI (a : Int)) s).toBitVec.getLsbD j = _
  rw [e, hs, BitVec.getLsbD_ushiftRight]
  have := bs_nat (a := a) (j := k + j) (by omega)
  unfold bs at this
  rw [this, Nat.add_comm]
/-- byte by byte -/
theorem and256 {a q m M : Nat} (ha : a < 256) (hm : m < 256) : (a + 256 * q) &&& (m + 256 * M) = (a &&& m) + 256 * (q &&& M) := by
  have h1 : ((a + 256 * q) &&& (m + 256 * M)) % 2 ^ 8 = a &&& m := by
    rw [Nat.and_mod_two_pow, show (a + 256 * q) % 2 ^ 8 = a by omega, show (m + 256 * M) % 2 ^ 8 = m by omega]
  have h2 : ((a + 256 * q) &&& (m + 256 * M)) / 2 ^ 8 = q &&& M := by
    rw [Nat.and_div_two_pow, show (a + 256 * q) / 2 ^ 8 = q by omega, show (m + 256 * M) / 2 ^ 8 = M by omega]
  omega
def e1 (a : Nat) : Nat := a - (a / 2 &&& 85)
def e2 (a : Nat) : Nat := (a &&& 51) + (a / 4 &&& 51)
def e3 (a : Nat) : Nat := (a + a / 16) &&& 15
theorem by1 : ∀ a : Fin 256, ∀ b : Fin 2, (a.val / 2 + 128 * b.val) &&& 85 = a.val / 2 &&& 85 := by decide +kernel
theorem by2 : ∀ a : Fin 256, ∀ b : Fin 4, (a.val / 4 + 64 * b.val) &&& 51 = a.val / 4 &&& 51 := by decide +kernel
theorem by3 : ∀ a : Fin 256, (a.val / 2 &&& 85) ≤ a.val ∧ e2 (e1 a.val) % 16 ≤ 4 ∧ e2 (e1 a.val) / 16 ≤ 4 ∧ e2 (e1 a.val) < 256 ∧ e3 (e2 (e1 a.val)) = sumB a.val.testBit 8 := by decide +kernel
theorem by4 : ∀ a : Fin 80, ∀ b : Fin 5, ((a.val + 16 * b.val) &&& 15) = a.val &&& 15 := by decide +kernel
theorem sumB8 {f : Nat → Bool} : sumB f 8 ≤ 8 := by
  simp only [sumB]
  have : ∀ b : Bool, b.toNat ≤ 1 := Bool.toNat_le
  have h0 := this (f 0); have h1 := this (f 1); have h2 := this (f 2); have h3 := this (f 3); have h4 := this (f 4); have h5 := this (f 5); have h6 := this (f 6); have h7 := this (f 7)
  omega
theorem e1_lt {a : Nat} (h : a < 256) : e1 a < 256 := by unfold e1; omega
theorem and256' {c m M : Nat} (hc : c < 256) (hm : m < 256) : c &&& (m + 256 * M) = c &&& m := by
  have := and256 (a := c) (q := 0) (m := m) (M := M) hc hm
  simpa using this
theorem swar {a b c : Nat} (ha : a < 256) (hb : b < 256) (hc : c < 256) {N : Nat} {μ : ZMem} : f_JInt_bitCount N μ (iI ((a + 256 * (b + 256 * c) : Nat) : Int)) = some (iI ((sumB a.testBit 8 + sumB b.testBit 8 + sumB c.testBit 8 : Nat) : Int), μ) := by
  obtain ⟨a1, a2, a3, a4, a5⟩ := by3 ⟨a, ha⟩
  obtain ⟨b1, b2, b3, b4, b5⟩ := by3 ⟨b, hb⟩
  obtain ⟨c1, c2, c3, c4, c5⟩ := by3 ⟨c, hc⟩
  simp only at a1 a2 a3 a4 a5 b1 b2 b3 b4 b5 c1 c2 c3 c4 c5
  unfold f_JInt_bitCount
  simp only [zlt_eq]
  have s1 : zushrI (iI ((a + 256 * (b + 256 * c) : Nat) : Int)) 1 = iI (((a / 2 + 128 * (b % 2)) + 256 * ((b / 2 + 128 * (c % 2)) + 256 * (c / 2)) : Nat) : Int) := by
    rw [iushr (k := 1) (by omega) (by decide)]; congr 2; omega
  have m85 : (1431655765 : Int32) = iI ((85 + 256 * (85 + 256 * (85 + 256 * 85)) : Nat) : Int) := by decide
  have m51 : (858993459 : Int32) = iI ((51 + 256 * (51 + 256 * (51 + 256 * 51)) : Nat) : Int) := by decide
  have m15 : (252645135 : Int32) = iI ((15 + 256 * (15 + 256 * (15 + 256 * 15)) : Nat) : Int) := by decide
  have x1 : iI ((a + 256 * (b + 256 * c) : Nat) : Int) - (zushrI (iI ((a + 256 * (b + 256 * c) : Nat) : Int)) 1 &&& 1431655765) = iI ((e1 a + 256 * (e1 b + 256 * e1 c) : Nat) : Int) := by
    have p1 := by1 ⟨a, ha⟩ ⟨b % 2, by omega⟩
    have p2 := by1 ⟨b, hb⟩ ⟨c % 2, by omega⟩
    simp only at p1 p2
    rw [s1, m85, iand (by omega) (by omega), and256 (by omega) (by omega), and256 (by omega) (by omega), and256' (by omega) (by omega), p1, p2, iI_sub]
    congr 1
    unfold e1
    omega
  rw [x1]
  have q1 : e1 a < 256 := e1_lt ha
  have q2 : e1 b < 256 := e1_lt hb
  have q3 : e1 c < 256 := e1_lt hc
  have s2 : zushrI (iI ((e1 a + 256 * (e1 b + 256 * e1 c) : Nat) : Int)) 2 = iI (((e1 a / 4 + 64 * (e1 b % 4)) + 256 * ((e1 b / 4 + 64 * (e1 c % 4)) + 256 * (e1 c / 4)) : Nat) : Int) := by
    rw [iushr (k := 2) (by omega) (by decide)]; congr 2; omega
  have x2 : (iI ((e1 a + 256 * (e1 b + 256 * e1 c) : Nat) : Int) &&& 858993459) + (zushrI (iI ((e1 a + 256 * (e1 b + 256 * e1 c) : Nat) : Int)) 2 &&& 858993459) = iI ((e2 (e1 a) + 256 * (e2 (e1 b) + 256 * e2 (e1 c)) : Nat) : Int) := by
    have p1 := by2 ⟨e1 a, q1⟩ ⟨e1 b % 4, by omega⟩
    have p2 := by2 ⟨e1 b, q2⟩ ⟨e1 c % 4, by omega⟩
    simp only at p1 p2
    rw [s2, m51, iand (by omega) (by omega), iand (by omega) (by omega), and256 (by omega) (by omega), and256 (by omega) (by omega), and256' (by omega) (by omega), and256 (by omega) (by omega), and256 (by omega) (by omega), and256' (by omega) (by omega), p1, p2, iI_add]
    congr 1
    unfold e2
    omega
  rw [x2]
  generalize e2 (e1 a) = A at *
  generalize e2 (e1 b) = B at *
  generalize e2 (e1 c) = C at *
  have s3 : zushrI (iI ((A + 256 * (B + 256 * C) : Nat) : Int)) 4 = iI (((A / 16 + 16 * (B % 16)) + 256 * ((B / 16 + 16 * (C % 16)) + 256 * (C / 16)) : Nat) : Int) := by
    rw [iushr (k := 4) (by omega) (by decide)]; congr 2; omega
  have x3 : (iI ((A + 256 * (B + 256 * C) : Nat) : Int) + zushrI (iI ((A + 256 * (B + 256 * C) : Nat) : Int)) 4) &&& 252645135 = iI ((e3 A + 256 * (e3 B + 256 * e3 C) : Nat) : Int) := by
    have p1 := by4 ⟨A + A / 16, by omega⟩ ⟨B % 16, by omega⟩
    have p2 := by4 ⟨B + B / 16, by omega⟩ ⟨C % 16, by omega⟩
    simp only at p1 p2
    rw [s3, m15, iI_add, show ((A + 256 * (B + 256 * C) : Nat) : Int) + ((A / 16 + 16 * (B % 16) + 256 * (B / 16 + 16 * (C % 16) + 256 * (C / 16)) : Nat) : Int) = (((A + A / 16 + 16 * (B % 16)) + 256 * ((B + B / 16 + 16 * (C % 16)) + 256 * (C + C / 16)) : Nat) : Int) by omega, iand (by omega) (by omega), and256 (by omega) (by omega), and256 (by omega) (by omega), and256' (by omega) (by omega), p1, p2]
    rfl
  rw [x3, a5, b5, c5]
  have h1 := sumB8 (f := a.testBit)
  have h2 := sumB8 (f := b.testBit)
  have h3 := sumB8 (f := c.testBit)
  generalize sumB a.testBit 8 = A' at *
  generalize sumB b.testBit 8 = B' at *
  generalize sumB c.testBit 8 = C' at *
  have s4 : zushrI (iI ((A' + 256 * (B' + 256 * C') : Nat) : Int)) 8 = iI ((B' + 256 * C' : Nat) : Int) := by
    rw [iushr (k := 8) (by omega) (by decide)]; congr 2; omega
  rw [s4, iI_add, show ((A' + 256 * (B' + 256 * C') : Nat) : Int) + ((B' + 256 * C' : Nat) : Int) = ((A' + B' + 256 * (B' + C') + 65536 * C' : Nat) : Int) by omega]
  have s5 : zushrI (iI ((A' + B' + 256 * (B' + C') + 65536 * C' : Nat) : Int)) 16 = iI ((C' : Nat) : Int) := by
    rw [iushr (k := 16) (by omega) (by decide)]; congr 2; omega
  rw [s5, iI_add, show ((A' + B' + 256 * (B' + C') + 65536 * C' : Nat) : Int) + ((C' : Nat) : Int) = ((A' + B' + C' + 256 * (B' + C') + 65536 * C' : Nat) : Int) by omega, show (63 : Int32) = iI ((63 : Nat) : Int) from rfl, iand (by omega) (by omega), show 63 = 2 ^ 6 - 1 from rfl, Nat.and_two_pow_sub_one_eq_mod]
  show some (_, μ) = _
  congr 3
  omega
theorem s_bitCount {N : Nat} {μ : ZMem} {p : Int32} (h : ∀ j, 24 ≤ j → bs p j = false) : ∃ r : Nat, r ≤ 24 ∧ f_JInt_bitCount N μ p = some (iI r, μ) ∧ (1 < r ↔ ∃ x y, x < y ∧ y < 24 ∧ bs p x = true ∧ bs p y = true) := by
  obtain ⟨s, hs⟩ : ∃ s, s = p.toBitVec.toNat := ⟨_, rfl⟩
  have hb : ∀ j, bs p j = s.testBit j := fun j => by rw [hs]; exact (BitVec.testBit_toNat _).symm
  have hlt : s < 2 ^ 24 := Nat.lt_pow_two_of_testBit s (fun j hj => by rw [← hb]; exact h j hj)
  have hp : p = iI (s : Int) := bs_ext (fun j _ => by rw [hb, bs_nat (by omega)])
  have e : s = s % 256 + 256 * (s / 256 % 256 + 256 * (s / 65536)) := by omega
  have hsw := swar (a := s % 256) (b := s / 256 % 256) (c := s / 65536) (by omega) (by omega) (by omega) (N := N) (μ := μ)
  rw [← e, ← hp] at hsw
  have t1 : sumB (s % 256).testBit 8 = sumB s.testBit 8 := sumB_congr 8 (fun j hj => by rw [show 256 = 2 ^ 8 from rfl, Nat.testBit_mod_two_pow]; simp [hj])
  have t2 : sumB (s / 256 % 256).testBit 8 = sumB (fun j => s.testBit (8 + j)) 8 := sumB_congr 8 (fun j hj => by rw [show 256 = 2 ^ 8 from rfl, Nat.testBit_mod_two_pow, Nat.testBit_div_two_pow, Nat.add_comm]; simp [hj])
  have t3 : sumB (s / 65536).testBit 8 = sumB (fun j => s.testBit (16 + j)) 8 := sumB_congr 8 (fun j hj => by rw [show 65536 = 2 ^ 16 from rfl, Nat.testBit_div_two_pow, Nat.add_comm])
  have t4 : sumB s.testBit 24 = sumB s.testBit 8 + sumB (fun j => s.testBit (8 + j)) 8 + sumB (fun j => s.testBit (16 + j)) 8 := by
    rw [show 24 = 16 + 8 from rfl, sumB_add, show 16 = 8 + 8 from rfl, sumB_add]
  refine ⟨_, ?_, hsw, ?_⟩
  · have h1 := sumB8 (f := (s % 256).testBit)
    have h2 := sumB8 (f := (s / 256 % 256).testBit)
    have h3 := sumB8 (f := (s / 65536).testBit)
    omega
  · rw [t1, t2, t3, ← t4]
    have := sumB_two (f := s.testBit) 24
    rw [show (1 < sumB s.testBit 24 ↔ 2 ≤ sumB s.testBit 24) from Iff.rfl, this]
    simp only [hb]
