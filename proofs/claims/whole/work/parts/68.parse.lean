/-! table: the grammar, and the class's way through it -/
def vN (z : Nat → Int) (n p : Nat) : Int := dM z (tS z n p) (tE z n p - tS z n p)
def pX (z : Nat → Int) (n : Nat) (T : Tb) (p : Nat) : Sum (Int × Nat) (Int × Nat) :=
  if tG z n p = 2 then (if vN z n p ≤ 9999 then .inr (vN z n p, tE z n p) else .inl (2, tS z n p))
  else if lOf z n p = -1 then .inl (1, tS z n p)
  else if T.2.2.2.1 (lOf z n p).toNat = -1 then .inl (4, tS z n p) else .inr (10000 + lOf z n p, tE z n p)
def pN (z : Nat → Int) (n : Nat) (lo hi : Int) (p : Nat) : Sum (Int × Nat) (Int × Nat) :=
  if tG z n p = 2 then (if lo ≤ vN z n p ∧ vN z n p ≤ hi then .inr (vN z n p, tE z n p) else .inl (2, tS z n p)) else .inl (1, tS z n p)
def pW (z : Nat → Int) (n k p : Nat) : Sum (Int × Nat) Nat := if tG z n p = 1 ∧ spB z (tS z n p) (tE z n p - tS z n p) k = true then .inr (tE z n p) else .inl (1, tS z n p)
def pS (z : Nat → Int) (n p : Nat) : Sum (Int × Nat) Nat := if tG z n p = 3 then .inr (tE z n p) else .inl (1, tS z n p)
def setH (T : Tb) (l : Nat) (a b : Int) : Tb := (T.1, T.2.1, T.2.2.1, fun j => if j = l then a else T.2.2.2.1 j, fun j => if j = l then b else T.2.2.2.2 j)
def addO (T : Tb) (k x : Int) : Tb := (T.1 + 1, fun j => if j = T.1 then k else T.2.1 j, fun j => if j = T.1 then x else T.2.2.1 j, T.2.2.2.1, T.2.2.2.2)
def pH (z : Nat → Int) (n : Nat) (T : Tb) (p : Nat) : Sum (Int × Nat) (Tb × Nat) :=
  if lOf z n p = -1 then .inl (1, tS z n p)
  else if T.2.2.2.1 (lOf z n p).toNat ≠ -1 then .inl (3, tS z n p)
  else match pW z n 11 (tE z n p) with
    | .inl f => .inl f
    | .inr p1 => match pN z n 0 9999 p1 with
      | .inl f => .inl f
      | .inr (a, p2) => match pW z n 12 p2 with
        | .inl f => .inl f
        | .inr p3 => match pN z n 0 9999 p3 with
          | .inl f => .inl f
          | .inr (b, p4) => if b < a then .inl (5, tS z n p3) else match pS z n p4 with
            | .inl f => .inl f
            | .inr p5 => .inr (setH T (lOf z n p).toNat a b, p5)
def pA (z : Nat → Int) (n : Nat) (T : Tb) (k : Int) (p : Nat) : Sum (Int × Nat) (Int × Nat) := if k < 6 then pX z n T p else if k = 8 then pN z n 1 9 p else .inr (0, p)
def pO (z : Nat → Int) (n : Nat) (T : Tb) (k : Int) (p : Nat) : Sum (Int × Nat) (Tb × Nat) := match pA z n T k p with
  | .inl f => .inl f
  | .inr (x, p1) => match pS z n p1 with
    | .inl f => .inl f
    | .inr p2 => .inr (addO T k x, p2)
def pCl (z : Nat → Int) (n a : Nat) (T : Tb) (p : Nat) : Sum (Int × Nat) (Tb × Nat) := if kOf z n p = -1 then .inl (1, tS z n p) else if 24 ≤ a then .inl (6, tS z n p) else if kOf z n p = 10 then pH z n T (tE z n p) else pO z n T (kOf z n p) (tE z n p)
def pR (z : Nat → Int) (n : Nat) : Nat → Nat → Tb → Nat → Sum (Int × Nat) Tb
  | 0, _, _, _ => .inl (1, 0)
  | f + 1, a, T, p => if tG z n p = 0 then .inr T else match pCl z n a T p with
    | .inl g => .inl g
    | .inr (T', p') => pR z n f (a + 1) T' p'
/-- frames of the class: all went well (2: the reader's fault stays), or not -/
def frG (t : Nat) (ν ν' : ZMem) : Prop := (∀ k i x, ¬ (k = 2 ∧ i = 0 ∧ 3 ≤ x ∧ x ≤ 6) → ¬ ((k = 4 ∨ k = 22 ∨ k = 23 ∨ k = 24 ∨ k = 25) ∧ i = t) → ν'.1 k i x = ν.1 k i x) ∧ ν'.2 = ν.2
def frF (t : Nat) (ν ν' : ZMem) : Prop := (∀ k i x, ¬ (k = 2 ∧ i = 0 ∧ 1 ≤ x ∧ x ≤ 6) → ¬ ((k = 4 ∨ k = 22 ∨ k = 23 ∨ k = 24 ∨ k = 25) ∧ i = t) → ν'.1 k i x = ν.1 k i x) ∧ ν'.2 = ν.2
theorem frG.rf {t : Nat} {ν : ZMem} : frG t ν ν := ⟨fun _ _ _ _ _ => rfl, rfl⟩
theorem frG.tr {t : Nat} {ν ν' ν'' : ZMem} (h : frG t ν ν') (h' : frG t ν' ν'') : frG t ν ν'' := ⟨fun k i x q1 q2 => (h'.1 k i x q1 q2).trans (h.1 k i x q1 q2), h'.2.trans h.2⟩
theorem frF.tr {t : Nat} {ν ν' ν'' : ZMem} (h : frF t ν ν') (h' : frF t ν' ν'') : frF t ν ν'' := ⟨fun k i x q1 q2 => (h'.1 k i x q1 q2).trans (h.1 k i x q1 q2), h'.2.trans h.2⟩
theorem frG.f {t : Nat} {ν ν' : ZMem} (h : frG t ν ν') : frF t ν ν' := ⟨fun k i x q1 q2 => h.1 k i x (fun e => q1 ⟨e.1, e.2.1, by omega, e.2.2.2⟩) q2, h.2⟩
def fr6 (ν ν' : ZMem) : Prop := (∀ k i x, ¬ (k = 2 ∧ i = 0 ∧ 3 ≤ x ∧ x ≤ 6) → ν'.1 k i x = ν.1 k i x) ∧ ν'.2 = ν.2
theorem fr6.rf {ν : ZMem} : fr6 ν ν := ⟨fun _ _ _ _ => rfl, rfl⟩
theorem fr6.tr {ν ν' ν'' : ZMem} (h : fr6 ν ν') (h' : fr6 ν' ν'') : fr6 ν ν'' := ⟨fun k i x q => (h'.1 k i x q).trans (h.1 k i x q), h'.2.trans h.2⟩
theorem fr2.six {ν ν' : ZMem} (h : fr2 ν ν') : fr6 ν ν' := ⟨fun k i x q => h.1 k i x (fun e => q ⟨e.1, e.2.1, e.2.2.1, by omega⟩), h.2⟩
theorem fr6.set {ν ν' : ZMem} {x : Nat} {v : Int32} (h : fr6 ν ν') (h3 : 3 ≤ x) (h6 : x ≤ 6) : fr6 ν (zsetI ν' 2 0 x v) := ⟨fun k i y q => by rw [rI, if_neg (fun e => q ⟨e.1, e.2.1, by omega, by omega⟩)]; exact h.1 k i y q, h.2⟩
theorem fr6.g {t : Nat} {ν ν' : ZMem} (h : fr6 ν ν') : frG t ν ν' := ⟨fun k i x q1 _ => h.1 k i x q1, h.2⟩
theorem fr2.g {t : Nat} {ν ν' : ZMem} (h : fr2 ν ν') : frG t ν ν' := h.six.g
theorem tpA.fr6 {ν ν' : ZMem} {n : Nat} {z : Nat → Int} (h : tpA ν n z) (f : fr6 ν ν') : tpA ν' n z := by
  obtain ⟨h1, h2, h3⟩ := h
  refine ⟨h1, by rw [f.1 1 0 1 (by omega)]; exact h2, fun j hj => ?_⟩
  rw [f.1 20 0 j (by omega)]; exact h3 j hj
theorem tpA.frg {t : Nat} {ν ν' : ZMem} {n : Nat} {z : Nat → Int} (h : tpA ν n z) (f : frG t ν ν') : tpA ν' n z := by
  obtain ⟨h1, h2, h3⟩ := h
  refine ⟨h1, by rw [f.1 1 0 1 (by omega) (by omega)]; exact h2, fun j hj => ?_⟩
  rw [f.1 20 0 j (by omega) (by omega)]; exact h3 j hj
theorem TabC.fr6 {t : Nat} {ν ν' : ZMem} {T : Tb} (h : TabC ν t T) (f : fr6 ν ν') : TabC ν' t T := by
  have n4 : ∀ x, ν'.1 4 t x = ν.1 4 t x := fun x => f.1 4 t x (by omega)
  have n22 : ∀ x, ν'.1 22 t x = ν.1 22 t x := fun x => f.1 22 t x (by omega)
  have n23 : ∀ x, ν'.1 23 t x = ν.1 23 t x := fun x => f.1 23 t x (by omega)
  have n24 : ∀ x, ν'.1 24 t x = ν.1 24 t x := fun x => f.1 24 t x (by omega)
  have n25 : ∀ x, ν'.1 25 t x = ν.1 25 t x := fun x => f.1 25 t x (by omega)
  simp only [TabC, OrdC, n4, n22, n23, n24, n25] at h ⊢; exact h
def FAr (t : Nat) (μ : ZMem) (r : Option (Int32 × ZMem)) (g : Int × Nat) : Prop := ∃ μ', r = some (0, μ') ∧ frF t μ μ' ∧ μ'.1 2 0 1 = iI g.1 ∧ μ'.1 2 0 2 = iI (g.2 : Nat)
theorem s_refuse {N t : Nat} {μ : ZMem} {c : Int} {s : Nat} (h4 : μ.1 2 0 4 = iI s) : ∃ μ', f_Reader_refuse N μ (iI c) = some (0, μ') ∧ frF t μ μ' ∧ μ'.1 2 0 1 = iI c ∧ μ'.1 2 0 2 = iI (s : Nat) := by
  refine ⟨zsetI (zsetI μ 2 0 1 (iI c)) 2 0 2 (iI (s : Nat)), ?_, ⟨fun k i x q1 q2 => ?_, rfl⟩, ?_, ?_⟩
  · unfold f_Reader_refuse
    rw [zlt_eq, zlt_eq, rI, if_neg (by omega), h4]; rfl
  · rw [rI, if_neg (fun e => q1 ⟨e.1, e.2.1, by omega, by omega⟩), rI, if_neg (fun e => q1 ⟨e.1, e.2.1, by omega, by omega⟩)]
  · rw [rI, if_neg (by omega), rI, if_pos ⟨rfl, rfl, rfl⟩]
  · rw [rI, if_pos ⟨rfl, rfl, rfl⟩]
/-- a refusal behind an advance, in the two forms that it has -/
theorem refuse_chk {N t : Nat} {μ ν : ZMem} {c : Int} {s : Nat} {g : Int × Nat} (h4 : ν.1 2 0 4 = iI s) (hf : frG t μ ν) (hg : g = (c, s)) : FAr t μ (zbnd (f_Reader_refuse N ν (iI c)) (fun (r12 : Int32) (μ11 : ZMem) => zchk (narrow .boolean (.int r12) = .int r12) (zret r12 μ11))) g := by
  obtain ⟨μ', a, b, d, e⟩ := s_refuse (N := N) (t := t) (c := c) h4
  refine ⟨μ', ?_, hf.f.tr b, by rw [hg]; exact d, by rw [hg]; exact e⟩
  rw [a, zbnd_eq, zchk_t (by decide)]; rfl
theorem refuse_if {N t : Nat} {μ ν : ZMem} {c : Int} {s : Nat} {g : Int × Nat} {k : ZMem → Option (Int32 × ZMem)} (h4 : ν.1 2 0 4 = iI s) (hf : frG t μ ν) (hg : g = (c, s)) : FAr t μ (zbnd (f_Reader_refuse N ν (iI c)) (fun (r10 : Int32) (μ9 : ZMem) => zif (r10 = 0) (zret (0 : Int32) μ9) (k μ9))) g := by
  obtain ⟨μ', a, b, d, e⟩ := s_refuse (N := N) (t := t) (c := c) h4
  refine ⟨μ', ?_, hf.f.tr b, by rw [hg]; exact d, by rw [hg]; exact e⟩
  rw [a, zbnd_eq, zif_t rfl]; rfl
def AX (t : Nat) (μ : ZMem) (r : Option (Int32 × ZMem)) (o : Sum (Int × Nat) (Int × Nat)) : Prop := match o with
  | .inl g => FAr t μ r g
  | .inr w => ∃ μ', r = some (1, μ') ∧ fr6 μ μ' ∧ μ'.1 2 0 5 = iI (w.2 : Nat) ∧ μ'.1 2 0 6 = iI w.1 ∧ 0 ≤ w.1 ∧ w.1 < 10004
def AP (t : Nat) (μ : ZMem) (r : Option (Int32 × ZMem)) (o : Sum (Int × Nat) Nat) : Prop := match o with
  | .inl g => FAr t μ r g
  | .inr w => ∃ μ', r = some (1, μ') ∧ fr2 μ μ' ∧ μ'.1 2 0 5 = iI (w : Nat)
