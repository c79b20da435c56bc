/-! the invariant: class and reference side by side; what does not count -/
def relI (k i x : Nat) : Bool := (k == 1 || k == 4 || k == 5 || k == 6 || k == 20 || k == 22 || k == 23 || k == 24 || k == 25 || k == 27 || k == 40 || k == 42 || k == 43) || (k == 26 && decide (i < 2)) || (k == 2 && (x == 1 || x == 2)) || (k == 12 && (x == 6 || x == 7 || x == 8))
def relJ (k : Nat) : Bool := k == 28 || k == 29 || k == 41
def Same (μ μ' : ZMem) : Prop := (∀ k i x, relI k i x = true → μ'.1 k i x = μ.1 k i x) ∧ (∀ k i x, relJ k = true → μ'.2 k i x = μ.2 k i x)
theorem Same.rf {μ : ZMem} : Same μ μ := ⟨fun _ _ _ _ => rfl, fun _ _ _ _ => rfl⟩
theorem Same.tr {μ μ' μ'' : ZMem} (h : Same μ μ') (h' : Same μ' μ'') : Same μ μ'' := ⟨fun k i x q => (h'.1 k i x q).trans (h.1 k i x q), fun k i x q => (h'.2 k i x q).trans (h.2 k i x q)⟩
theorem Same.setI {μ μ' : ZMem} {k i x : Nat} {v : Int32} (h : Same μ μ') (hr : relI k i x = false) : Same μ (zsetI μ' k i x v) := by
  refine ⟨fun k' i' x' q => ?_, h.2⟩
  rw [rI, if_neg (fun e => ?_)]
  · exact h.1 k' i' x' q
  · obtain ⟨rfl, rfl, rfl⟩ := e
    rw [hr] at q; cases q
theorem Same.setJ {μ μ' : ZMem} {k i x : Nat} {v : Int64} (h : Same μ μ') (hr : relJ k = false) : Same μ (zsetJ μ' k i x v) := by
  refine ⟨h.1, fun k' i' x' q => ?_⟩
  rw [rJ, if_neg (fun e => ?_)]
  · exact h.2 k' i' x' q
  · obtain ⟨rfl, rfl, rfl⟩ := e
    rw [hr] at q; cases q
theorem Same.putI {μ μ' : ZMem} {k i : Nat} {f : Nat → Int32} (h : Same μ μ') (hr : ∀ x, relI k i x = false) : Same μ (zputI μ' k i f) := by
  refine ⟨fun k' i' x' q => ?_, h.2⟩
  rw [rPI, if_neg (fun e => ?_)]
  · exact h.1 k' i' x' q
  · obtain ⟨rfl, rfl⟩ := e
    rw [hr] at q; cases q
theorem Same.putJ {μ μ' : ZMem} {k i : Nat} {f : Nat → Int64} (h : Same μ μ') (hr : relJ k = false) : Same μ (zputJ μ' k i f) := by
  refine ⟨h.1, fun k' i' x' q => ?_⟩
  rw [rPJ, if_neg (fun e => ?_)]
  · exact h.2 k' i' x' q
  · obtain ⟨rfl, rfl⟩ := e
    rw [hr] at q; cases q
theorem Same.setV {μ μ' : ZMem} {o : Nat} {v : Int × Int} (h : Same μ μ') : Same μ (setV μ' o v) := (h.setJ rfl).setJ rfl
theorem Same.setM {μ μ' : ZMem} {v : Int × Int} (h : Same μ μ') : Same μ (setM μ' v) := (h.setJ rfl).setJ rfl
/-- a table: how many orders, their kinds, their x; of each letter from, to (-1: not hidden) -/
abbrev Tb : Type := Nat × (Nat → Int) × (Nat → Int) × (Nat → Int) × (Nat → Int)
def tabOf (μ : ZMem) (t : Nat) : Tb := ((μ.1 4 t 2).toInt.toNat, fun j => (μ.1 22 t j).toInt, fun j => (μ.1 23 t j).toInt, fun l => (μ.1 24 t l).toInt, fun l => (μ.1 25 t l).toInt)
def OrdC (μ : ZMem) (o n : Nat) (kd xs : Nat → Int) : Prop := μ.1 4 o 2 = iI n ∧ ∀ j, j < n → μ.1 22 o j = iI (kd j) ∧ μ.1 23 o j = iI (xs j)
def TabC (μ : ZMem) (t : Nat) (T : Tb) : Prop := OrdC μ t T.1 T.2.1 T.2.2.1 ∧ ∀ l, l < 4 → μ.1 24 t l = iI (T.2.2.2.1 l) ∧ μ.1 25 t l = iI (T.2.2.2.2 l)
def TabM (μ : ZMem) (t : Nat) (T : Tb) : Prop := μ.1 42 0 (61 * t) = iI T.1 ∧ (∀ j, j < T.1 → μ.1 42 0 (61 * t + 1 + 2 * j) = iI (T.2.1 j) ∧ μ.1 42 0 (61 * t + 2 + 2 * j) = iI (T.2.2.1 j)) ∧
  ∀ l, l < 4 → (T.2.2.2.1 l = -1 → μ.1 42 0 (61 * t + 49 + 3 * l) = iI 0) ∧ (T.2.2.2.1 l ≠ -1 → μ.1 42 0 (61 * t + 49 + 3 * l) = iI 1 ∧ μ.1 42 0 (61 * t + 49 + 3 * l + 1) = iI (T.2.2.2.1 l) ∧ μ.1 42 0 (61 * t + 49 + 3 * l + 2) = iI (T.2.2.2.2 l))
def OrdOk (n : Nat) (kd xs : Nat → Int) : Prop := ∀ j, j < n → 0 ≤ kd j ∧ kd j ≤ 9 ∧ okX (xs j) ∧ (kd j = 8 → 1 ≤ xs j ∧ xs j ≤ 9)
def TabOk (T : Tb) : Prop := T.1 ≤ 24 ∧ OrdOk T.1 T.2.1 T.2.2.1 ∧ ∀ l, l < 4 → (T.2.2.2.1 l = -1 ∧ T.2.2.2.2 l = -1) ∨ (0 ≤ T.2.2.2.1 l ∧ T.2.2.2.1 l ≤ T.2.2.2.2 l ∧ T.2.2.2.2 l ≤ 9999)
theorem tabC_of {μ : ZMem} {t : Nat} (h : 0 ≤ (μ.1 4 t 2).toInt) : TabC μ t (tabOf μ t) := by
  refine ⟨⟨?_, fun j _ => ⟨iI_of _, iI_of _⟩⟩, fun l _ => ⟨iI_of _, iI_of _⟩⟩
  have : ((tabOf μ t).1 : Int) = (μ.1 4 t 2).toInt := by
    show (((μ.1 4 t 2).toInt.toNat : Nat) : Int) = _
    omega
  rw [this]
  exact iI_of _
/-- one value list: how many, and that both sides hold the same -/
def lstR (μ : ZMem) (w e c f : Nat) (most : Int) : Prop := μ.1 6 w 2 = μ.1 40 e c ∧ 0 ≤ (μ.1 6 w 2).toInt ∧ (μ.1 6 w 2).toInt ≤ most ∧ ∀ j : Nat, (j : Int) < (μ.1 6 w 2).toInt → μ.2 28 w j = μ.2 41 e (f + 2 * j) ∧ μ.2 29 w j = μ.2 41 e (f + 2 * j + 1)
def thR (μ : ZMem) (e : Nat) : Prop := ∀ j : Nat, j < 4 → μ.1 26 e j = μ.1 40 e (8 + j) ∧ 0 ≤ (μ.1 26 e j).toInt ∧ (μ.1 26 e j).toInt ≤ 9999
def ntR (μ : ZMem) (e : Nat) : Prop := μ.1 5 e 0 = μ.1 40 e 0 ∧ 0 ≤ (μ.1 5 e 0).toInt ∧ (μ.1 5 e 0).toInt ≤ 4
def kitR (μ : ZMem) (e : Nat) : Prop := μ.1 4 (e + 4) 2 = μ.1 40 e 6 ∧ 0 ≤ (μ.1 4 (e + 4) 2).toInt ∧ (μ.1 4 (e + 4) 2).toInt ≤ 6 ∧ ∀ j : Nat, (j : Int) < (μ.1 4 (e + 4) 2).toInt → μ.1 22 (e + 4) j = μ.1 40 e (12 + 2 * j) ∧ μ.1 23 (e + 4) j = μ.1 40 e (12 + 2 * j + 1) ∧ 0 ≤ (μ.1 22 (e + 4) j).toInt ∧ (μ.1 22 (e + 4) j).toInt ≤ 7 ∧ 0 ≤ (μ.1 23 (e + 4) j).toInt ∧ (μ.1 23 (e + 4) j).toInt ≤ 10000
def askR (μ : ZMem) (e : Nat) : Prop := μ.1 5 e 6 = μ.1 40 e 7 ∧ 0 ≤ (μ.1 5 e 6).toInt ∧ (μ.1 5 e 6).toInt ≤ 6 ∧ ∀ j : Nat, (j : Int) < (μ.1 5 e 6).toInt → μ.1 27 e j = μ.1 40 e (24 + j) ∧ 2 ≤ (μ.1 27 e j).toInt ∧ (μ.1 27 e j).toInt ≤ 30
/-- played: the trail of values here, the value and the steps there -/
def trlR (μ : ZMem) (e : Nat) : Prop := μ.1 5 e 7 = μ.1 40 e 1 ∧ 0 ≤ (μ.1 6 (3 * e + 2) 2).toInt ∧ (μ.1 6 (3 * e + 2) 2).toInt ≤ 25 ∧
  (((μ.1 6 (3 * e + 2) 2).toInt = 0 ∧ μ.1 5 e 7 = iI (-1) ∧ μ.1 40 e 2 = iI 0 ∧ μ.1 40 e 3 = iI 0 ∧ μ.2 41 e 60 = lI 0 ∧ μ.2 41 e 61 = lI 1) ∨
   (1 ≤ (μ.1 6 (3 * e + 2) 2).toInt ∧ 0 ≤ (μ.1 5 e 7).toInt ∧ (μ.1 5 e 7).toInt < (μ.1 5 e 0).toInt ∧ (μ.1 6 (3 * e + 2) 2).toInt - 1 ≤ (μ.1 4 (μ.1 5 e 7).toInt.toNat 2).toInt ∧
    μ.1 40 e 2 = iI ((μ.1 6 (3 * e + 2) 2).toInt - 1) ∧ μ.1 40 e 3 = iI ((μ.1 6 (3 * e + 2) 2).toInt - 1) ∧
    (∀ j : Nat, (j : Int) < (μ.1 6 (3 * e + 2) 2).toInt → isV ((μ.2 28 (3 * e + 2) j).toInt, (μ.2 29 (3 * e + 2) j).toInt)) ∧
    (∀ j : Nat, (j : Int) + 1 < (μ.1 6 (3 * e + 2) 2).toInt → μ.2 41 e (62 + 2 * j) = μ.2 28 (3 * e + 2) j ∧ μ.2 41 e (62 + 2 * j + 1) = μ.2 29 (3 * e + 2) j) ∧
    (∀ j : Nat, (j : Int) + 1 = (μ.1 6 (3 * e + 2) 2).toInt → μ.2 41 e 60 = μ.2 28 (3 * e + 2) j ∧ μ.2 41 e 61 = μ.2 29 (3 * e + 2) j)))
def SRel (μ : ZMem) (e : Nat) : Prop := ntR μ e ∧ thR μ e ∧ lstR μ (3 * e) e 4 0 24 ∧ lstR μ (3 * e + 1) e 5 48 6 ∧ kitR μ e ∧ askR μ e ∧ trlR μ e
def byteR (b c : Int32) : Prop := ∃ z : Int, 0 ≤ z ∧ z < 256 ∧ c = iI z ∧ b = iI (if z < 128 then z else z - 256)
def tapeR (μ : ZMem) : Prop := μ.1 1 0 1 = μ.1 12 0 6 ∧ 0 ≤ (μ.1 1 0 1).toInt ∧ (μ.1 1 0 1).toInt ≤ 300 ∧ ∀ j : Nat, (j : Int) < (μ.1 1 0 1).toInt → byteR (μ.1 20 0 j) (μ.1 43 0 j)
def tabsR (μ : ZMem) : Prop := ∀ t : Nat, (t : Int) < (μ.1 5 0 0).toInt → 0 ≤ (μ.1 4 t 2).toInt ∧ TabM μ t (tabOf μ t) ∧ TabOk (tabOf μ t)
def Inv (μ : ZMem) : Prop := tapeR μ ∧ (μ.1 2 0 1 = μ.1 12 0 7 ∧ μ.1 2 0 2 = μ.1 12 0 8) ∧ SRel μ 0 ∧ SRel μ 1 ∧ (μ.1 5 1 0).toInt ≤ (μ.1 5 0 0).toInt ∧ tabsR μ
theorem Inv.same {μ μ' : ZMem} (h : Inv μ) (s : Same μ μ') : Inv μ' := by
  have e : ∀ k i x, relI k i x = true → μ'.1 k i x = μ.1 k i x := s.1
  have e2 : ∀ k i x, relJ k = true → μ'.2 k i x = μ.2 k i x := s.2
  have n1 : ∀ i x, μ'.1 1 i x = μ.1 1 i x := fun i x => e 1 i x rfl
  have n4 : ∀ i x, μ'.1 4 i x = μ.1 4 i x := fun i x => e 4 i x rfl
  have n5 : ∀ i x, μ'.1 5 i x = μ.1 5 i x := fun i x => e 5 i x rfl
  have n6 : ∀ i x, μ'.1 6 i x = μ.1 6 i x := fun i x => e 6 i x rfl
  have n20 : ∀ i x, μ'.1 20 i x = μ.1 20 i x := fun i x => e 20 i x rfl
  have n22 : ∀ i x, μ'.1 22 i x = μ.1 22 i x := fun i x => e 22 i x rfl
  have n23 : ∀ i x, μ'.1 23 i x = μ.1 23 i x := fun i x => e 23 i x rfl
  have n24 : ∀ i x, μ'.1 24 i x = μ.1 24 i x := fun i x => e 24 i x rfl
  have n25 : ∀ i x, μ'.1 25 i x = μ.1 25 i x := fun i x => e 25 i x rfl
  have n27 : ∀ i x, μ'.1 27 i x = μ.1 27 i x := fun i x => e 27 i x rfl
  have n40 : ∀ i x, μ'.1 40 i x = μ.1 40 i x := fun i x => e 40 i x rfl
  have n42 : ∀ i x, μ'.1 42 i x = μ.1 42 i x := fun i x => e 42 i x rfl
  have n43 : ∀ i x, μ'.1 43 i x = μ.1 43 i x := fun i x => e 43 i x rfl
  have n260 : ∀ x, μ'.1 26 0 x = μ.1 26 0 x := fun x => e 26 0 x rfl
  have n261 : ∀ x, μ'.1 26 1 x = μ.1 26 1 x := fun x => e 26 1 x rfl
  have n21 : μ'.1 2 0 1 = μ.1 2 0 1 := e 2 0 1 rfl
  have n22' : μ'.1 2 0 2 = μ.1 2 0 2 := e 2 0 2 rfl
  have n126 : μ'.1 12 0 6 = μ.1 12 0 6 := e 12 0 6 rfl
  have n127 : μ'.1 12 0 7 = μ.1 12 0 7 := e 12 0 7 rfl
  have n128 : μ'.1 12 0 8 = μ.1 12 0 8 := e 12 0 8 rfl
  have n28 : ∀ i x, μ'.2 28 i x = μ.2 28 i x := fun i x => e2 28 i x rfl
  have n29 : ∀ i x, μ'.2 29 i x = μ.2 29 i x := fun i x => e2 29 i x rfl
  have n41 : ∀ i x, μ'.2 41 i x = μ.2 41 i x := fun i x => e2 41 i x rfl
  simp only [Inv, tapeR, SRel, ntR, thR, lstR, kitR, askR, trlR, tabsR, tabOf, TabM, TabOk, n1, n4, n5, n6, n20, n22, n23, n24, n25, n27, n40, n42, n43, n260, n261, n21, n22', n126, n127, n128, n28, n29, n41] at h ⊢
  exact h
