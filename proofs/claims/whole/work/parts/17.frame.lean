/-! what of the invariant stays, and readings of it -/
theorem iI_ex (p : Int32) : ∃ x : Int, -2147483648 ≤ x ∧ x < 2147483648 ∧ p = iI x := ⟨p.toInt, (iI_rng p).1, (iI_rng p).2, iI_of p⟩
theorem nat_ex {p : Int32} {m : Int} (h0 : 0 ≤ p.toInt) (h : p.toInt ≤ m) : ∃ n : Nat, (n : Int) ≤ m ∧ p = iI n ∧ p.toInt = n := ⟨p.toInt.toNat, by omega, by rw [show ((p.toInt.toNat : Nat) : Int) = p.toInt by omega]; exact iI_of p, by omega⟩
theorem zin_k {z : Int} {k i : Nat} (n : Nat) (hk : zlen k i = n) (h1 : 0 ≤ z) (h2 : z < n) (h3 : n < 2147483648) : zin (iI z) (zlen k i) := zin_iI h1 (by rw [hk]; exact h2) (by rw [hk]; exact h3)
theorem tapeR.congr {μ μ' : ZMem} (h : tapeR μ) (h1 : μ'.1 1 0 1 = μ.1 1 0 1) (h2 : μ'.1 12 0 6 = μ.1 12 0 6) (h3 : ∀ j, μ'.1 20 0 j = μ.1 20 0 j) (h4 : ∀ j, μ'.1 43 0 j = μ.1 43 0 j) : tapeR μ' := by
  simp only [tapeR, h1, h2, h3, h4] at h ⊢; exact h
theorem ntR.congr {μ μ' : ZMem} {e : Nat} (h : ntR μ e) (h1 : μ'.1 5 e 0 = μ.1 5 e 0) (h2 : μ'.1 40 e 0 = μ.1 40 e 0) : ntR μ' e := by
  simp only [ntR, h1, h2] at h ⊢; exact h
theorem thR.congr {μ μ' : ZMem} {e : Nat} (h : thR μ e) (h1 : ∀ j, μ'.1 26 e j = μ.1 26 e j) (h2 : ∀ j, j < 4 → μ'.1 40 e (8 + j) = μ.1 40 e (8 + j)) : thR μ' e := by
  intro j hj
  rw [h1, h2 j hj]
  exact h j hj
theorem lstR.congr {μ μ' : ZMem} {w e c f : Nat} {m : Int} (h : lstR μ w e c f m) (h1 : μ'.1 6 w 2 = μ.1 6 w 2) (h2 : μ'.1 40 e c = μ.1 40 e c) (h3 : ∀ j, μ'.2 28 w j = μ.2 28 w j) (h4 : ∀ j, μ'.2 29 w j = μ.2 29 w j) (h5 : ∀ j : Nat, (j : Int) < m → μ'.2 41 e (f + 2 * j) = μ.2 41 e (f + 2 * j) ∧ μ'.2 41 e (f + 2 * j + 1) = μ.2 41 e (f + 2 * j + 1)) : lstR μ' w e c f m := by
  obtain ⟨a1, a2, a3, a4⟩ := h
  refine ⟨by rw [h1, h2]; exact a1, by rw [h1]; exact a2, by rw [h1]; exact a3, fun j hj => ?_⟩
  rw [h1] at hj
  rw [h3, h4, (h5 j (by omega)).1, (h5 j (by omega)).2]
  exact a4 j hj
theorem kitR.congr {μ μ' : ZMem} {e : Nat} (h : kitR μ e) (h1 : ∀ x, μ'.1 4 (e + 4) x = μ.1 4 (e + 4) x) (h2 : ∀ x, μ'.1 22 (e + 4) x = μ.1 22 (e + 4) x) (h3 : ∀ x, μ'.1 23 (e + 4) x = μ.1 23 (e + 4) x) (h4 : μ'.1 40 e 6 = μ.1 40 e 6) (h5 : ∀ j, j < 12 → μ'.1 40 e (12 + j) = μ.1 40 e (12 + j)) : kitR μ' e := by
  obtain ⟨a1, a2, a3, a4⟩ := h
  refine ⟨by rw [h1, h4]; exact a1, by rw [h1]; exact a2, by rw [h1]; exact a3, fun j hj => ?_⟩
  rw [h1] at hj
  rw [h2, h3, h5 (2 * j) (by omega), show 12 + 2 * j + 1 = 12 + (2 * j + 1) by omega, h5 (2 * j + 1) (by omega)]
  exact a4 j hj
theorem askR.congr {μ μ' : ZMem} {e : Nat} (h : askR μ e) (h1 : μ'.1 5 e 6 = μ.1 5 e 6) (h2 : μ'.1 40 e 7 = μ.1 40 e 7) (h3 : ∀ x, μ'.1 27 e x = μ.1 27 e x) (h4 : ∀ j, j < 6 → μ'.1 40 e (24 + j) = μ.1 40 e (24 + j)) : askR μ' e := by
  obtain ⟨a1, a2, a3, a4⟩ := h
  refine ⟨by rw [h1, h2]; exact a1, by rw [h1]; exact a2, by rw [h1]; exact a3, fun j hj => ?_⟩
  rw [h1] at hj
  rw [h3, h4 j (by omega)]
  exact a4 j hj
theorem trlR.congr {μ μ' : ZMem} {e : Nat} (h : trlR μ e) (h0 : μ'.1 5 e 0 = μ.1 5 e 0) (h1 : μ'.1 5 e 7 = μ.1 5 e 7) (h2 : μ'.1 40 e 1 = μ.1 40 e 1) (h3 : μ'.1 6 (3 * e + 2) 2 = μ.1 6 (3 * e + 2) 2) (h4 : μ'.1 40 e 2 = μ.1 40 e 2) (h5 : μ'.1 40 e 3 = μ.1 40 e 3) (h6 : ∀ x, μ'.2 28 (3 * e + 2) x = μ.2 28 (3 * e + 2) x) (h7 : ∀ x, μ'.2 29 (3 * e + 2) x = μ.2 29 (3 * e + 2) x) (h8 : ∀ x, 60 ≤ x → μ'.2 41 e x = μ.2 41 e x) (h9 : ∀ t : Nat, (t : Int) < (μ.1 5 e 0).toInt → μ'.1 4 t 2 = μ.1 4 t 2) : trlR μ' e := by
  obtain ⟨a1, a2, a3, a4⟩ := h
  refine ⟨by rw [h1, h2]; exact a1, by rw [h3]; exact a2, by rw [h3]; exact a3, ?_⟩
  rw [h0, h1, h3, h4, h5, h8 60 (by omega), h8 61 (by omega)]
  rcases a4 with b | ⟨b1, b2, b3, b4, b5, b6, b7, b8, b9⟩
  · exact Or.inl b
  · refine Or.inr ⟨b1, b2, b3, by rw [h9 _ (by omega)]; exact b4, b5, b6, fun j hj => by rw [h6, h7]; exact b7 j hj, fun j hj => by rw [h6, h7, h8 _ (by omega), h8 _ (by omega)]; exact b8 j hj, fun j hj => by rw [h6, h7]; exact b9 j hj⟩
theorem tabsR.congr {μ μ' : ZMem} (h : tabsR μ) (h0 : μ'.1 5 0 0 = μ.1 5 0 0) (h1 : ∀ t x, t < 4 → μ'.1 4 t x = μ.1 4 t x) (h2 : ∀ t x, t < 4 → μ'.1 22 t x = μ.1 22 t x) (h3 : ∀ t x, t < 4 → μ'.1 23 t x = μ.1 23 t x) (h4 : ∀ t x, μ'.1 24 t x = μ.1 24 t x) (h5 : ∀ t x, μ'.1 25 t x = μ.1 25 t x) (h6 : ∀ x, μ'.1 42 0 x = μ.1 42 0 x) (hn : (μ.1 5 0 0).toInt ≤ 4) : tabsR μ' := by
  intro t ht
  rw [h0] at ht
  have ht4 : t < 4 := by omega
  have e : tabOf μ' t = tabOf μ t := by
    simp only [tabOf, h1 t _ ht4, h2 t _ ht4, h3 t _ ht4, h4, h5]
  rw [h1 t 2 ht4, e]
  obtain ⟨b1, b2, b3⟩ := h t ht
  refine ⟨b1, ?_, b3⟩
  simp only [TabM, h6] at b2 ⊢
  exact b2
/-- a whole state that nothing touched -/
theorem SRel.congr {μ μ' : ZMem} {e : Nat} (h : SRel μ e) (h5 : ∀ x, μ'.1 5 e x = μ.1 5 e x) (h26 : ∀ x, μ'.1 26 e x = μ.1 26 e x) (h6 : ∀ w x, w = 3 * e ∨ w = 3 * e + 1 ∨ w = 3 * e + 2 → μ'.1 6 w x = μ.1 6 w x) (h4 : ∀ x, μ'.1 4 (e + 4) x = μ.1 4 (e + 4) x) (h22 : ∀ x, μ'.1 22 (e + 4) x = μ.1 22 (e + 4) x) (h23 : ∀ x, μ'.1 23 (e + 4) x = μ.1 23 (e + 4) x) (h27 : ∀ x, μ'.1 27 e x = μ.1 27 e x) (h40 : ∀ x, μ'.1 40 e x = μ.1 40 e x) (h28 : ∀ w x, w = 3 * e ∨ w = 3 * e + 1 ∨ w = 3 * e + 2 → μ'.2 28 w x = μ.2 28 w x) (h29 : ∀ w x, w = 3 * e ∨ w = 3 * e + 1 ∨ w = 3 * e + 2 → μ'.2 29 w x = μ.2 29 w x) (h41 : ∀ x, μ'.2 41 e x = μ.2 41 e x) (h9 : ∀ t : Nat, (t : Int) < (μ.1 5 e 0).toInt → μ'.1 4 t 2 = μ.1 4 t 2) : SRel μ' e := by
  obtain ⟨a1, a2, a3, a4, a5, a6, a7⟩ := h
  exact ⟨a1.congr (h5 0) (h40 0), a2.congr h26 (fun j _ => h40 _), a3.congr (h6 _ _ (Or.inl rfl)) (h40 _) (fun j => h28 _ _ (Or.inl rfl)) (fun j => h29 _ _ (Or.inl rfl)) (fun j _ => ⟨h41 _, h41 _⟩),
    a4.congr (h6 _ _ (Or.inr (Or.inl rfl))) (h40 _) (fun j => h28 _ _ (Or.inr (Or.inl rfl))) (fun j => h29 _ _ (Or.inr (Or.inl rfl))) (fun j _ => ⟨h41 _, h41 _⟩),
    a5.congr h4 h22 h23 (h40 _) (fun j _ => h40 _), a6.congr (h5 _) (h40 _) h27 (fun j _ => h40 _),
    a7.congr (h5 _) (h5 _) (h40 _) (h6 _ _ (Or.inr (Or.inr rfl))) (h40 _) (h40 _) (fun x => h28 _ _ (Or.inr (Or.inr rfl))) (fun x => h29 _ _ (Or.inr (Or.inr rfl))) (fun x _ => h41 x) h9⟩
/-- class and reference agree on a call -/
def Agree {α : Type} (fa fm : ZMem → Option (α × ZMem)) : Prop := ∀ μ, Inv μ → ∃ r μ1 μ2, fa μ = some (r, μ1) ∧ fm μ1 = some (r, μ2) ∧ Inv μ2
theorem Agree.same {α : Type} {fa fm : ZMem → Option (α × ZMem)} (h : ∀ μ, Inv μ → ∃ r μ1 μ2, fa μ = some (r, μ1) ∧ fm μ1 = some (r, μ2) ∧ Same μ μ1 ∧ Same μ1 μ2) : Agree fa fm := by
  intro μ hI
  obtain ⟨r, μ1, μ2, h1, h2, h3, h4⟩ := h μ hI
  exact ⟨r, μ1, μ2, h1, h2, hI.same (h3.tr h4)⟩
def thOf (μ : ZMem) (e : Nat) : Nat → Int := fun j => (μ.1 26 e j).toInt
theorem Inv.nt {μ : ZMem} (h : Inv μ) : ∃ nt : Nat, nt ≤ 4 ∧ μ.1 5 0 0 = iI nt ∧ μ.1 40 0 0 = iI nt ∧ (μ.1 5 0 0).toInt = nt := by
  obtain ⟨-, -, ⟨⟨a1, a2, a3⟩, -⟩, -⟩ := h
  obtain ⟨n, h1, h2, h3⟩ := nat_ex a2 a3
  exact ⟨n, by omega, h2, by rw [← a1]; exact h2, h3⟩
theorem Inv.tab {μ : ZMem} (h : Inv μ) {t : Nat} (ht : (t : Int) < (μ.1 5 0 0).toInt) : TabC μ t (tabOf μ t) ∧ TabM μ t (tabOf μ t) ∧ TabOk (tabOf μ t) := by
  obtain ⟨h1, h2, h3⟩ := h.2.2.2.2.2 t ht
  exact ⟨tabC_of h1, h2, h3⟩
theorem Inv.th {μ : ZMem} (h : Inv μ) : thC μ 0 (thOf μ 0) ∧ okT (thOf μ 0) ∧ ∀ j, j < 4 → μ.1 40 0 (8 + j) = iI (thOf μ 0 j) := by
  obtain ⟨-, -, ⟨-, a, -⟩, -⟩ := h
  exact ⟨fun j _ => iI_of _, fun j hj => (a j hj).2, fun j hj => by rw [← (a j hj).1]; exact iI_of _⟩
theorem TabM.same {μ μ' : ZMem} {t : Nat} {T : Tb} (h : TabM μ t T) (s : Same μ μ') : TabM μ' t T := by
  have n42 : ∀ x, μ'.1 42 0 x = μ.1 42 0 x := fun x => s.1 42 0 x rfl
  simp only [TabM, n42] at h ⊢; exact h
theorem TabC.same {μ μ' : ZMem} {t : Nat} {T : Tb} (h : TabC μ t T) (s : Same μ μ') : TabC μ' t T := by
  have n4 : ∀ i x, μ'.1 4 i x = μ.1 4 i x := fun i x => s.1 4 i x rfl
  have n22 : ∀ i x, μ'.1 22 i x = μ.1 22 i x := fun i x => s.1 22 i x rfl
  have n23 : ∀ i x, μ'.1 23 i x = μ.1 23 i x := fun i x => s.1 23 i x rfl
  have n24 : ∀ i x, μ'.1 24 i x = μ.1 24 i x := fun i x => s.1 24 i x rfl
  have n25 : ∀ i x, μ'.1 25 i x = μ.1 25 i x := fun i x => s.1 25 i x rfl
  simp only [TabC, OrdC, n4, n22, n23, n24, n25] at h ⊢; exact h
theorem thC.same {μ μ' : ZMem} {p : Nat} {th : Nat → Int} (h : thC μ p th) (hp : p < 2) (s : Same μ μ') : thC μ' p th := fun j hj => by
  rw [s.1 26 p j (by simp [relI, hp])]; exact h j hj
/-- thinkNow -/
theorem s_M_thinkNow {N : Nat} {μ : ZMem} {th : Nat → Int} (hN : 10 ≤ N) (h : ∀ j, j < 4 → μ.1 40 0 (8 + j) = iI (th j)) : ∃ μ', f_M_thinkNow N μ = some ((), μ') ∧ thM μ' th ∧ Same μ μ' ∧ μ'.2 = μ.2 ∧ (∀ k i x, k ≠ 44 → μ'.1 k i x = μ.1 k i x) := by
  obtain ⟨n, rfl⟩ : ∃ n, N = n + 5 := ⟨N - 5, by omega⟩
  refine ⟨zsetI (zsetI (zsetI (zsetI μ 44 0 0 (iI (th 0))) 44 0 1 (iI (th 1))) 44 0 2 (iI (th 2))) 44 0 3 (iI (th 3)), ?_, ?_, (((Same.rf.setI rfl).setI rfl).setI rfl).setI rfl, rfl, ?_⟩
  · unfold f_M_thinkNow
    rw [zlt_eq]
    have st : ∀ (q j : Nat) (ν : ZMem), j < 4 → ν.1 40 0 (8 + j) = iI (th j) → f_M_thinkNow_l2 (n + 5) (q + 1) (iI j) ν = f_M_thinkNow_l2 (n + 5) q (iI ((j + 1 : Nat) : Int)) (zsetI ν 44 0 j (iI (th j))) := by
      intro q j ν hj hν
      simp only [f_M_thinkNow_l2]
      have e1 : (8 : Int32) + iI (j : Int) = iI ((8 + j : Nat) : Int) := iI_add 8 j
      have e2 : iI (j : Int) + (1 : Int32) = iI ((j + 1 : Nat) : Int) := iI_add j 1
      simp only [e1, e2, zlt_eq, cl_nat (show j < 2147483648 by omega), cl_nat (show 8 + j < 2147483648 by omega), hν]
      rw [zif_f (by rw [ilit, iI_le (by omega) (by omega) (by omega) (by omega)]; omega), zchk_t (zin_k 30 rfl (by omega) (by omega) (by omega)), zchk_t (zin_k 4 rfl (by omega) (by omega) (by omega))]
    have e0 : (0 : Int32) = iI ((0 : Nat) : Int) := rfl
    have q1 := st (n + 4) 0 μ (by omega) (h 0 (by omega))
    have q2 := st (n + 3) 1 (zsetI μ 44 0 0 (iI (th 0))) (by omega) (by rw [rI, if_neg (by omega)]; exact h 1 (by omega))
    have q3 := st (n + 2) 2 (zsetI (zsetI μ 44 0 0 (iI (th 0))) 44 0 1 (iI (th 1))) (by omega) (by rw [rI, if_neg (by omega), rI, if_neg (by omega)]; exact h 2 (by omega))
    have q4 := st (n + 1) 3 (zsetI (zsetI (zsetI μ 44 0 0 (iI (th 0))) 44 0 1 (iI (th 1))) 44 0 2 (iI (th 2))) (by omega) (by rw [rI, if_neg (by omega), rI, if_neg (by omega), rI, if_neg (by omega)]; exact h 3 (by omega))
    refine q1.trans (q2.trans (q3.trans (q4.trans ?_)))
    simp only [f_M_thinkNow_l2]
    rw [zif_t (by decide)]; rfl
  · intro j hj
    have : j = 0 ∨ j = 1 ∨ j = 2 ∨ j = 3 := by omega
    rcases this with rfl | rfl | rfl | rfl <;> simp [rI]
  · intro k i x hk
    simp [rI, hk]
