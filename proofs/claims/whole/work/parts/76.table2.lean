def frY (t : Nat) (ν ν' : ZMem) : Prop := (∀ k i x, ¬ (k = 2 ∧ i = 0 ∧ 1 ≤ x ∧ x ≤ 6) → ¬ ((k = 4 ∨ k = 22 ∨ k = 23 ∨ k = 24 ∨ k = 25) ∧ i = t) → ν'.1 k i x = ν.1 k i x) ∧ ν'.2 = ν.2
theorem s_A_read {N n t : Nat} {z : Nat → Int} {μ : ZMem} (hN : 400 ≤ N) (ht : t < 4) (hT : tpA μ n z) : ∃ r μ', f_Reader_read N μ t = some (r, μ') ∧ frY t μ μ' ∧ match pR z n 25 0 T0 0 with
    | .inl g => r = 0 ∧ μ'.1 2 0 1 = iI g.1 ∧ μ'.1 2 0 2 = iI (g.2 : Nat)
    | .inr T => r = 1 ∧ μ'.1 2 0 1 = 0 ∧ μ'.1 2 0 2 = -1 ∧ TabC μ' t T := by
  unfold f_Reader_read f_Table_clear
  simp only [zlt_eq]
  obtain ⟨ω, hω⟩ : ∃ ω, ω = zsetI (zsetI (zsetI (zsetI μ 2 0 1 0) 2 0 2 (-1)) 2 0 5 0) 4 t 2 0 := ⟨_, rfl⟩
  obtain ⟨ν1, a1, a2, a3⟩ := s_fillI (N := N) (k := 24) (o := t) (n := 4) (v := -1) (μ := ω) (by omega) rfl (by omega)
  obtain ⟨ν2, b1, b2, b3⟩ := s_fillI (N := N) (k := 25) (o := t) (n := 4) (v := -1) (μ := ν1) (by omega) rfl (by omega)
  rw [← hω, a1, zbnd_eq, b1, zbnd_eq]
  show ∃ r μ', zbnd (some ((), ν2)) _ = _ ∧ _
  rw [zbnd_eq]
  have hY : frY t μ ν2 := by
    refine ⟨fun k i x q1 q2 => ?_, by rw [b2, a2, hω]; rfl⟩
    rw [b3, if_neg (fun e => q2 ⟨by omega, e.2.1⟩), a3, if_neg (fun e => q2 ⟨by omega, e.2.1⟩), hω, rI, if_neg (fun e => q2 ⟨by omega, e.2.1⟩), rI, if_neg (fun e => q1 ⟨e.1, e.2.1, by omega, by omega⟩), rI, if_neg (fun e => q1 ⟨e.1, e.2.1, by omega, by omega⟩), rI, if_neg (fun e => q1 ⟨e.1, e.2.1, by omega, by omega⟩)]
  have o2 : ∀ x, ν2.1 2 0 x = ω.1 2 0 x := fun x => by rw [b3, if_neg (by omega), a3, if_neg (by omega)]
  have h21 : ν2.1 2 0 1 = 0 := by rw [o2, hω]; simp [rI]
  have h22 : ν2.1 2 0 2 = -1 := by rw [o2, hω]; simp [rI]
  have h25 : ν2.1 2 0 5 = iI ((0 : Nat) : Int) := by rw [o2, hω]; simp [rI]; rfl
  have hC : TabC ν2 t T0 := by
    refine ⟨⟨?_, fun j hj => (by cases hj)⟩, fun l hl => ⟨?_, ?_⟩⟩
    · rw [b3, if_neg (by omega), a3, if_neg (by omega), hω, rI, if_pos ⟨rfl, rfl, rfl⟩]; rfl
    · rw [b3, if_neg (by omega), a3, if_pos ⟨rfl, rfl, hl⟩]; exact m1
    · rw [b3, if_pos ⟨rfl, rfl, hl⟩]; exact m1
  have hT2 : tpA ν2 n z := by
    obtain ⟨t1, t2, t3⟩ := hT
    exact ⟨t1, by rw [hY.1 1 0 1 (by omega) (by omega)]; exact t2, fun j hj => by rw [hY.1 20 0 j (by omega) (by omega)]; exact t3 j hj⟩
  have hR : AR t ν2 (f_Reader_read_l21 N t N (0 : Int32) ν2) (pR z n 25 0 T0 0) := read_l (N := N) hN ht hT2 24 0 N ν2 T0 0 (by omega) (by omega) (Nat.zero_le _) frG.rf h25 hC T0_ok
  cases e : pR z n 25 0 T0 0 with
  | inl g =>
    rw [e] at hR
    obtain ⟨μ', c1, c2, c3, c4⟩ := hR
    exact ⟨0, μ', c1, ⟨fun k i x q1 q2 => (c2.1 k i x q1 q2).trans (hY.1 k i x q1 q2), c2.2.trans hY.2⟩, rfl, c3, c4⟩
  | inr T =>
    rw [e] at hR
    obtain ⟨μ', c1, c2, c3⟩ := hR
    refine ⟨1, μ', c1, ⟨fun k i x q1 q2 => (c2.1 k i x (fun e => q1 ⟨e.1, e.2.1, by omega, e.2.2.2⟩) q2).trans (hY.1 k i x q1 q2), c2.2.trans hY.2⟩, rfl, ?_, ?_, c3⟩
    · rw [c2.1 2 0 1 (by omega) (by omega)]; exact h21
    · rw [c2.1 2 0 2 (by omega) (by omega)]; exact h22
/-- what the memory holds of a table is the table -/
theorem tab_tr {μ : ZMem} {t : Nat} {T : Tb} (hC : TabC μ t T) (hM : TabM μ t T) (hO : TabOk T) : 0 ≤ (μ.1 4 t 2).toInt ∧ TabM μ t (tabOf μ t) ∧ TabOk (tabOf μ t) := by
  obtain ⟨⟨c1, c2⟩, c3⟩ := hC
  obtain ⟨o1, o2, o3⟩ := hO
  have e1 : (μ.1 4 t 2).toInt = (T.1 : Int) := by rw [c1, iI_toInt (by omega) (by omega)]
  have n1 : (tabOf μ t).1 = T.1 := by show (μ.1 4 t 2).toInt.toNat = _; rw [e1]; omega
  have k1 : ∀ j, j < T.1 → (tabOf μ t).2.1 j = T.2.1 j ∧ (tabOf μ t).2.2.1 j = T.2.2.1 j := fun j hj => by
    obtain ⟨x1, x2, x3, -⟩ := o2 j hj
    unfold okX at x3
    exact ⟨by show (μ.1 22 t j).toInt = _; rw [(c2 j hj).1, iI_toInt (by omega) (by omega)], by show (μ.1 23 t j).toInt = _; rw [(c2 j hj).2, iI_toInt (by omega) (by omega)]⟩
  have l1 : ∀ l, l < 4 → (tabOf μ t).2.2.2.1 l = T.2.2.2.1 l ∧ (tabOf μ t).2.2.2.2 l = T.2.2.2.2 l := fun l hl => by
    have hb : -1 ≤ T.2.2.2.1 l ∧ T.2.2.2.1 l ≤ 9999 ∧ -1 ≤ T.2.2.2.2 l ∧ T.2.2.2.2 l ≤ 9999 := by rcases o3 l hl with q | q <;> omega
    exact ⟨by show (μ.1 24 t l).toInt = _; rw [(c3 l hl).1, iI_toInt (by omega) (by omega)], by show (μ.1 25 t l).toInt = _; rw [(c3 l hl).2, iI_toInt (by omega) (by omega)]⟩
  refine ⟨by omega, ⟨by rw [n1]; exact hM.1, fun j hj => ?_, fun l hl => ?_⟩, by rw [n1]; exact o1, fun j hj => ?_, fun l hl => ?_⟩
  · rw [n1] at hj; rw [(k1 j hj).1, (k1 j hj).2]; exact hM.2.1 j hj
  · rw [(l1 l hl).1, (l1 l hl).2]; exact hM.2.2 l hl
  · rw [n1] at hj; rw [(k1 j hj).1, (k1 j hj).2]; exact o2 j hj
  · rw [(l1 l hl).1, (l1 l hl).2]; exact o3 l hl
theorem trlR.grow {μ μ' : ZMem} {e : Nat} (h : trlR μ e) (h0 : (μ.1 5 e 0).toInt ≤ (μ'.1 5 e 0).toInt) (h1 : μ'.1 5 e 7 = μ.1 5 e 7) (h2 : μ'.1 40 e 1 = μ.1 40 e 1) (h3 : μ'.1 6 (3 * e + 2) 2 = μ.1 6 (3 * e + 2) 2) (h4 : μ'.1 40 e 2 = μ.1 40 e 2) (h5 : μ'.1 40 e 3 = μ.1 40 e 3) (h6 : ∀ x, μ'.2 28 (3 * e + 2) x = μ.2 28 (3 * e + 2) x) (h7 : ∀ x, μ'.2 29 (3 * e + 2) x = μ.2 29 (3 * e + 2) x) (h8 : ∀ x, μ'.2 41 e x = μ.2 41 e x) (h9 : ∀ t : Nat, (t : Int) < (μ.1 5 e 0).toInt → μ'.1 4 t 2 = μ.1 4 t 2) : trlR μ' e := by
  obtain ⟨a1, a2, a3, a4⟩ := h
  refine ⟨by rw [h1, h2]; exact a1, by rw [h3]; exact a2, by rw [h3]; exact a3, ?_⟩
  rw [h1, h3, h4, h5, h8, h8]
  rcases a4 with b | ⟨b1, b2, b3, b4, b5, b6, b7, b8, b9⟩
  · exact Or.inl b
  · refine Or.inr ⟨b1, b2, by omega, by rw [h9 _ (by omega)]; exact b4, b5, b6, fun j hj => by rw [h6, h7]; exact b7 j hj, fun j hj => by rw [h6, h7, h8, h8]; exact b8 j hj, fun j hj => by rw [h6, h7]; exact b9 j hj⟩
theorem ag_table (N : Nat) (hN : 400 ≤ N) : Agree (fun μ => f_A_table N μ) (fun μ => f_M_table N μ) := by
  intro μ hI
  obtain ⟨t, ht4, h5, h40, h5i⟩ := hI.nt
  obtain ⟨n, z, hz⟩ := tape_ex hI.1
  obtain ⟨q1, q2, q3, q4⟩ := hz
  have tA : tpA μ n z := ⟨q1, q2, fun j hj => ⟨(q4 j hj).1, (q4 j hj).2.1, (q4 j hj).2.2.2⟩⟩
  have z0 : zin (0 : Int32) (zlen 40 0) := by decide
  by_cases c4 : t = 4
  · refine ⟨-1, μ, μ, ?_, ?_, hI⟩
    · show f_A_table N μ = _
      unfold f_A_table
      rw [zlt_eq, h5, zif_f (by rw [ilit, iI_lt (by omega) (by omega) (by omega) (by omega)]; omega)]; rfl
    · show f_M_table N μ = _
      unfold f_M_table
      rw [zchk_t z0]
      simp only [show (0 : Int32).toNatClampNeg = 0 from rfl, h40]
      rw [zif_t (by rw [c4]; rfl)]; rfl
  · have ht : t < 4 := by omega
    obtain ⟨r, μ', a1, a2, a3⟩ := s_A_read (N := N) hN ht tA
    have et : iI (t : Int) + (1 : Int32) = iI ((t + 1 : Nat) : Int) := by rw [ilit, iI_add]; congr 1
    have et1 : iI ((t + 1 : Nat) : Int) - (1 : Int32) = iI (t : Int) := by rw [ilit, iI_sub]; congr 1; omega
    have hAt : f_A_table N μ = zif (r = 0) (zret (-1) (zsetI μ' 1 0 1 0)) (zret (iI (t : Int)) (zsetI (zsetI μ' 1 0 1 0) 5 0 0 (iI ((t + 1 : Nat) : Int)))) := by
      unfold f_A_table
      simp only [zlt_eq, h5, cl_nat (show t < 2147483648 by omega), et]
      rw [zif_t (by rw [ilit, iI_lt (by omega) (by omega) (by omega) (by omega)]; omega), zchk_t (zin_iI (by omega) (by omega) (by omega)), a1, zbnd_eq]
    -- what is not touched
    have dis : ∀ k i x, ¬ (k = 2 ∧ i = 0 ∧ 1 ≤ x ∧ x ≤ 6) → ¬ ((k = 4 ∨ k = 22 ∨ k = 23 ∨ k = 24 ∨ k = 25) ∧ i = t) → μ'.1 k i x = μ.1 k i x := a2.1
    obtain ⟨hTp, hFl, hS0, hS1, h51, hTb⟩ := hI
    -- the reference from any memory that the class leaves
    have hMt : ∀ μ1 : ZMem, (∀ k i x, ¬ (k = 2 ∧ i = 0 ∧ 1 ≤ x ∧ x ≤ 6) → ¬ ((k = 4 ∨ k = 22 ∨ k = 23 ∨ k = 24 ∨ k = 25) ∧ i = t) → ¬ (k = 1 ∧ i = 0) → ¬ (k = 5 ∧ i = 0) → μ1.1 k i x = μ.1 k i x) → ∃ r2 μ2, f_M_readTable N μ1 = some (r2, μ2) ∧ frZ t μ1 μ2 ∧ (match pR z n 25 0 T0 0 with
        | .inl g => r2 = iI g.1 ∧ μ2.1 12 0 10 = iI (g.2 : Nat) ∧ 1 ≤ g.1 ∧ g.1 ≤ 6
        | .inr T => r2 = 0 ∧ TabM μ2 t T) ∧ f_M_table N μ1 = zif (r2 = 0) (zret (iI (t : Int)) (zsetI (zsetI (zsetI (zsetI μ2 12 0 7 r2) 12 0 8 (-1)) 12 0 6 0) 40 0 0 (iI ((t + 1 : Nat) : Int)))) (zret (-1) (zsetI (zsetI (zsetI μ2 12 0 7 r2) 12 0 8 (μ2.1 12 0 10)) 12 0 6 0)) := fun μ1 hd => by
      have tM : tpM μ1 n z := ⟨q1, by rw [hd 12 0 6 (by omega) (by omega) (by omega) (by omega)]; exact q3, fun j hj => by rw [hd 43 0 j (by omega) (by omega) (by omega) (by omega)]; exact ⟨(q4 j hj).1, (q4 j hj).2.1, (q4 j hj).2.2.1⟩⟩
      have h40' : μ1.1 40 0 0 = iI t := by rw [hd 40 0 0 (by omega) (by omega) (by omega) (by omega)]; exact h40
      obtain ⟨r2, μ2, b1, b2, b3⟩ := s_readTable (N := N) hN ht tM h40'
      refine ⟨r2, μ2, b1, b2, b3, ?_⟩
      unfold f_M_table
      have m40 : μ2.1 40 0 0 = iI t := by rw [b2.1 40 0 0 (by omega) (by omega)]; exact h40'
      rw [zchk_t z0]
      simp only [show (0 : Int32).toNatClampNeg = 0 from rfl, h40']
      rw [zif_f (by rw [ilit, iI_eq (by omega) (by omega) (by omega) (by omega)]; omega), b1, zbnd_eq]
      simp only [zlt_eq, rI, zchk_t z0]
      by_cases c : r2 = 0
      · simp [c, zif, zret, m40, et]
        exact et1
      · simp [zif, c, zret]
    cases e : pR z n 25 0 T0 0 with
    | inl g =>
      rw [e] at a3
      obtain ⟨rfl, f1, f2⟩ := a3
      rw [zif_t rfl] at hAt
      obtain ⟨ω, hω⟩ : ∃ ω, ω = zsetI μ' 1 0 1 0 := ⟨_, rfl⟩
      have dω : ∀ k i x, ¬ (k = 2 ∧ i = 0 ∧ 1 ≤ x ∧ x ≤ 6) → ¬ ((k = 4 ∨ k = 22 ∨ k = 23 ∨ k = 24 ∨ k = 25) ∧ i = t) → ¬ (k = 1 ∧ i = 0) → ω.1 k i x = μ.1 k i x := fun k i x y1 y2 y3 => by rw [hω, rI, if_neg (fun e => y3 ⟨e.1, e.2.1⟩)]; exact dis k i x y1 y2
      obtain ⟨r2, μ2, b1, b2, b3, b4⟩ := hMt ω (fun k i x y1 y2 y3 _ => dω k i x y1 y2 y3)
      rw [e] at b3
      obtain ⟨rfl, g1, g2, g3⟩ := b3
      rw [zif_f (by rw [zi0, iI_eq (by omega) (by omega) (by omega) (by omega)]; omega)] at b4
      obtain ⟨ρ, hρ⟩ : ∃ ρ, ρ = zsetI (zsetI (zsetI μ2 12 0 7 (iI g.1)) 12 0 8 (μ2.1 12 0 10)) 12 0 6 0 := ⟨_, rfl⟩
      rw [← hω] at hAt
      rw [← hρ] at b4
      refine ⟨-1, ω, ρ, hAt, b4, ?_⟩
      have dρ : ∀ k i x, ¬ (k = 2 ∧ i = 0 ∧ 1 ≤ x ∧ x ≤ 6) → ¬ ((k = 4 ∨ k = 22 ∨ k = 23 ∨ k = 24 ∨ k = 25) ∧ i = t) → ¬ (k = 1 ∧ i = 0) → ¬ (k = 12 ∧ i = 0 ∧ 6 ≤ x ∧ x ≤ 13) → ¬ (k = 42 ∧ i = 0 ∧ 61 * t ≤ x ∧ x < 61 * t + 61) → ρ.1 k i x = μ.1 k i x := fun k i x y1 y2 y3 y4 y5 => by
        rw [hρ, rI, if_neg (fun e => y4 ⟨e.1, e.2.1, by omega, by omega⟩), rI, if_neg (fun e => y4 ⟨e.1, e.2.1, by omega, by omega⟩), rI, if_neg (fun e => y4 ⟨e.1, e.2.1, by omega, by omega⟩), b2.1 k i x (fun e => y4 ⟨e.1, e.2.1, by omega, by omega⟩) y5]
        exact dω k i x y1 y2 y3
      have dJ : ∀ k i x, ¬ (k = 12 ∧ i = 0 ∧ x = 14) → ρ.2 k i x = μ.2 k i x := fun k i x y => by
        rw [hρ]
        show μ2.2 k i x = _
        rw [b2.2 k i x y, hω]
        show μ'.2 k i x = _
        rw [a2.2]
      have p1 : ρ.1 1 0 1 = 0 := by rw [hρ, rI, if_neg (by omega), rI, if_neg (by omega), rI, if_neg (by omega), b2.1 1 0 1 (by omega) (by omega), hω, rI, if_pos ⟨rfl, rfl, rfl⟩]
      have p6 : ρ.1 12 0 6 = 0 := by rw [hρ, rI, if_pos ⟨rfl, rfl, rfl⟩]
      have p7 : ρ.1 12 0 7 = iI g.1 := by rw [hρ]; simp [rI]
      have p8 : ρ.1 12 0 8 = iI (g.2 : Nat) := by rw [hρ]; simp [rI, g1]
      have p21 : ρ.1 2 0 1 = iI g.1 := by rw [hρ, rI, if_neg (by omega), rI, if_neg (by omega), rI, if_neg (by omega), b2.1 2 0 1 (by omega) (by omega), hω, rI, if_neg (by omega)]; exact f1
      have p22 : ρ.1 2 0 2 = iI (g.2 : Nat) := by rw [hρ, rI, if_neg (by omega), rI, if_neg (by omega), rI, if_neg (by omega), b2.1 2 0 2 (by omega) (by omega), hω, rI, if_neg (by omega)]; exact f2
      refine ⟨⟨by rw [p1, p6], by rw [p1]; decide, by rw [p1]; decide, fun j hj => by rw [p1] at hj; exact absurd hj (by show ¬ (j : Int) < 0; omega)⟩, ⟨by rw [p21, p7], by rw [p22, p8]⟩, ?_, ?_, ?_, ?_⟩
      · exact hS0.congr (fun x => dρ _ _ _ (by omega) (by omega) (by omega) (by omega) (by omega)) (fun x => dρ _ _ _ (by omega) (by omega) (by omega) (by omega) (by omega)) (fun w x _ => dρ _ _ _ (by omega) (by omega) (by omega) (by omega) (by omega)) (fun x => dρ _ _ _ (by omega) (by omega) (by omega) (by omega) (by omega)) (fun x => dρ _ _ _ (by omega) (by omega) (by omega) (by omega) (by omega)) (fun x => dρ _ _ _ (by omega) (by omega) (by omega) (by omega) (by omega)) (fun x => dρ _ _ _ (by omega) (by omega) (by omega) (by omega) (by omega)) (fun x => dρ _ _ _ (by omega) (by omega) (by omega) (by omega) (by omega)) (fun w x _ => dJ _ _ _ (by omega)) (fun w x _ => dJ _ _ _ (by omega)) (fun x => dJ _ _ _ (by omega)) (fun t' ht' => dρ _ _ _ (by omega) (by omega) (by omega) (by omega) (by omega))
      · exact hS1.congr (fun x => dρ _ _ _ (by omega) (by omega) (by omega) (by omega) (by omega)) (fun x => dρ _ _ _ (by omega) (by omega) (by omega) (by omega) (by omega)) (fun w x _ => dρ _ _ _ (by omega) (by omega) (by omega) (by omega) (by omega)) (fun x => dρ _ _ _ (by omega) (by omega) (by omega) (by omega) (by omega)) (fun x => dρ _ _ _ (by omega) (by omega) (by omega) (by omega) (by omega)) (fun x => dρ _ _ _ (by omega) (by omega) (by omega) (by omega) (by omega)) (fun x => dρ _ _ _ (by omega) (by omega) (by omega) (by omega) (by omega)) (fun x => dρ _ _ _ (by omega) (by omega) (by omega) (by omega) (by omega)) (fun w x _ => dJ _ _ _ (by omega)) (fun w x _ => dJ _ _ _ (by omega)) (fun x => dJ _ _ _ (by omega)) (fun t' ht' => dρ _ _ _ (by omega) (by omega) (by omega) (by omega) (by omega))
      · rw [dρ 5 1 0 (by omega) (by omega) (by omega) (by omega) (by omega), dρ 5 0 0 (by omega) (by omega) (by omega) (by omega) (by omega)]; exact h51
      · intro t' ht'
        rw [dρ 5 0 0 (by omega) (by omega) (by omega) (by omega) (by omega)] at ht'
        have htt : t' < t := by omega
        have e' : tabOf ρ t' = tabOf μ t' := by
          unfold tabOf
          simp only [fun x => dρ 4 t' x (by omega) (by omega) (by omega) (by omega) (by omega), fun x => dρ 22 t' x (by omega) (by omega) (by omega) (by omega) (by omega), fun x => dρ 23 t' x (by omega) (by omega) (by omega) (by omega) (by omega), fun x => dρ 24 t' x (by omega) (by omega) (by omega) (by omega) (by omega), fun x => dρ 25 t' x (by omega) (by omega) (by omega) (by omega) (by omega)]
        obtain ⟨x1, x2, x3⟩ := hTb t' ht'
        rw [e', dρ 4 t' 2 (by omega) (by omega) (by omega) (by omega) (by omega)]
        refine ⟨x1, x2.keep (dρ _ _ _ (by omega) (by omega) (by omega) (by omega) (by omega)) (fun j hj => ?_) (fun l hl => ⟨dρ _ _ _ (by omega) (by omega) (by omega) (by omega) (by omega), fun _ => ⟨dρ _ _ _ (by omega) (by omega) (by omega) (by omega) (by omega), dρ _ _ _ (by omega) (by omega) (by omega) (by omega) (by omega)⟩⟩), x3⟩
        have := x3.1
        exact ⟨dρ _ _ _ (by omega) (by omega) (by omega) (by omega) (by omega), dρ _ _ _ (by omega) (by omega) (by omega) (by omega) (by omega)⟩
    | inr T =>
      rw [e] at a3
      obtain ⟨rfl, f1, f2, f3⟩ := a3
      rw [zif_f (by decide)] at hAt
      obtain ⟨ω, hω⟩ : ∃ ω, ω = zsetI (zsetI μ' 1 0 1 0) 5 0 0 (iI ((t + 1 : Nat) : Int)) := ⟨_, rfl⟩
      have dω : ∀ k i x, ¬ (k = 2 ∧ i = 0 ∧ 1 ≤ x ∧ x ≤ 6) → ¬ ((k = 4 ∨ k = 22 ∨ k = 23 ∨ k = 24 ∨ k = 25) ∧ i = t) → ¬ (k = 1 ∧ i = 0) → ¬ (k = 5 ∧ i = 0 ∧ x = 0) → ω.1 k i x = μ.1 k i x := fun k i x y1 y2 y3 y4 => by rw [hω, rI, if_neg y4, rI, if_neg (fun e => y3 ⟨e.1, e.2.1⟩)]; exact dis k i x y1 y2
      obtain ⟨r2, μ2, b1, b2, b3, b4⟩ := hMt ω (fun k i x y1 y2 y3 y4 => dω k i x y1 y2 y3 (fun e => y4 ⟨e.1, e.2.1⟩))
      rw [e] at b3
      obtain ⟨rfl, g1⟩ := b3
      rw [zif_t rfl] at b4
      obtain ⟨ρ, hρ⟩ : ∃ ρ, ρ = zsetI (zsetI (zsetI (zsetI μ2 12 0 7 0) 12 0 8 (-1)) 12 0 6 0) 40 0 0 (iI ((t + 1 : Nat) : Int)) := ⟨_, rfl⟩
      rw [← hω] at hAt
      rw [← hρ] at b4
      refine ⟨iI (t : Int), ω, ρ, hAt, b4, ?_⟩
      have dρ2 : ∀ k i x, ¬ (k = 12 ∧ i = 0 ∧ 6 ≤ x ∧ x ≤ 8) → ¬ (k = 40 ∧ i = 0 ∧ x = 0) → ρ.1 k i x = μ2.1 k i x := fun k i x y4 y7 => by
        rw [hρ, rI, if_neg y7, rI, if_neg (fun e => y4 ⟨e.1, e.2.1, by omega, by omega⟩), rI, if_neg (fun e => y4 ⟨e.1, e.2.1, by omega, by omega⟩), rI, if_neg (fun e => y4 ⟨e.1, e.2.1, by omega, by omega⟩)]
      have dρω : ∀ k i x, ¬ (k = 12 ∧ i = 0 ∧ 6 ≤ x ∧ x ≤ 13) → ¬ (k = 42 ∧ i = 0 ∧ 61 * t ≤ x ∧ x < 61 * t + 61) → ¬ (k = 40 ∧ i = 0 ∧ x = 0) → ρ.1 k i x = ω.1 k i x := fun k i x y4 y5 y7 => by
        rw [dρ2 k i x (fun e => y4 ⟨e.1, e.2.1, by omega, by omega⟩) y7, b2.1 k i x (fun e => y4 ⟨e.1, e.2.1, by omega, by omega⟩) y5]
      have dρ : ∀ k i x, ¬ (k = 2 ∧ i = 0 ∧ 1 ≤ x ∧ x ≤ 6) → ¬ ((k = 4 ∨ k = 22 ∨ k = 23 ∨ k = 24 ∨ k = 25) ∧ i = t) → ¬ (k = 1 ∧ i = 0) → ¬ (k = 12 ∧ i = 0 ∧ 6 ≤ x ∧ x ≤ 13) → ¬ (k = 42 ∧ i = 0 ∧ 61 * t ≤ x ∧ x < 61 * t + 61) → ¬ (k = 5 ∧ i = 0 ∧ x = 0) → ¬ (k = 40 ∧ i = 0 ∧ x = 0) → ρ.1 k i x = μ.1 k i x := fun k i x y1 y2 y3 y4 y5 y6 y7 => by
        rw [dρω k i x y4 y5 y7]
        exact dω k i x y1 y2 y3 y6
      have dJ : ∀ k i x, ¬ (k = 12 ∧ i = 0 ∧ x = 14) → ρ.2 k i x = μ.2 k i x := fun k i x y => by
        rw [hρ]
        show μ2.2 k i x = _
        rw [b2.2 k i x y, hω]
        show μ'.2 k i x = _
        rw [a2.2]
      have p1 : ρ.1 1 0 1 = 0 := by rw [dρω 1 0 1 (by omega) (by omega) (by omega), hω, rI, if_neg (by omega), rI, if_pos ⟨rfl, rfl, rfl⟩]
      have p6 : ρ.1 12 0 6 = 0 := by rw [hρ]; simp [rI]
      have p7 : ρ.1 12 0 7 = 0 := by rw [hρ]; simp [rI]
      have p8 : ρ.1 12 0 8 = -1 := by rw [hρ]; simp [rI]
      have p40 : ρ.1 40 0 0 = iI ((t + 1 : Nat) : Int) := by rw [hρ, rI, if_pos ⟨rfl, rfl, rfl⟩]
      have p5 : ρ.1 5 0 0 = iI ((t + 1 : Nat) : Int) := by rw [dρω 5 0 0 (by omega) (by omega) (by omega), hω, rI, if_pos ⟨rfl, rfl, rfl⟩]
      have p21 : ρ.1 2 0 1 = 0 := by rw [dρω 2 0 1 (by omega) (by omega) (by omega), hω, rI, if_neg (by omega), rI, if_neg (by omega)]; exact f1
      have p22 : ρ.1 2 0 2 = -1 := by rw [dρω 2 0 2 (by omega) (by omega) (by omega), hω, rI, if_neg (by omega), rI, if_neg (by omega)]; exact f2
      have e5 : (ρ.1 5 0 0).toInt = (t : Int) + 1 := by rw [p5, iI_toInt (by omega) (by omega)]; omega
      have hC : TabC ρ t T := by
        have o : ∀ k x, k = 4 ∨ k = 22 ∨ k = 23 ∨ k = 24 ∨ k = 25 → ρ.1 k t x = μ'.1 k t x := fun k x hk => by
          rw [dρω k t x (by omega) (by omega) (by omega), hω, rI, if_neg (by omega), rI, if_neg (by omega)]
        have n4 : ∀ x, ρ.1 4 t x = μ'.1 4 t x := fun x => o 4 x (by omega)
        have n22 : ∀ x, ρ.1 22 t x = μ'.1 22 t x := fun x => o 22 x (by omega)
        have n23 : ∀ x, ρ.1 23 t x = μ'.1 23 t x := fun x => o 23 x (by omega)
        have n24 : ∀ x, ρ.1 24 t x = μ'.1 24 t x := fun x => o 24 x (by omega)
        have n25 : ∀ x, ρ.1 25 t x = μ'.1 25 t x := fun x => o 25 x (by omega)
        simp only [TabC, OrdC, n4, n22, n23, n24, n25] at f3 ⊢; exact f3
      have hTO : TabOk T := pR_ok 25 0 T0 0 (Nat.zero_le _) T0_ok e
      have hMρ : TabM ρ t T := g1.keep (dρ2 _ _ _ (by omega) (by omega)) (fun j _ => ⟨dρ2 _ _ _ (by omega) (by omega), dρ2 _ _ _ (by omega) (by omega)⟩) (fun l _ => ⟨dρ2 _ _ _ (by omega) (by omega), fun _ => ⟨dρ2 _ _ _ (by omega) (by omega), dρ2 _ _ _ (by omega) (by omega)⟩⟩)
      refine ⟨⟨by rw [p1, p6], by rw [p1]; decide, by rw [p1]; decide, fun j hj => by rw [p1] at hj; exact absurd hj (by show ¬ (j : Int) < 0; omega)⟩, ⟨by rw [p21, p7], by rw [p22, p8]⟩, ?_, ?_, ?_, ?_⟩
      · obtain ⟨k1, k2, k3, k4, k5, k6, k7⟩ := hS0
        refine ⟨⟨by rw [p5, p40], by rw [e5]; omega, by rw [e5]; omega⟩, k2.congr (fun j => dρ _ _ _ (by omega) (by omega) (by omega) (by omega) (by omega) (by omega) (by omega)) (fun j _ => dρ _ _ _ (by omega) (by omega) (by omega) (by omega) (by omega) (by omega) (by omega)), k3.congr (dρ _ _ _ (by omega) (by omega) (by omega) (by omega) (by omega) (by omega) (by omega)) (dρ _ _ _ (by omega) (by omega) (by omega) (by omega) (by omega) (by omega) (by omega)) (fun j => dJ _ _ _ (by omega)) (fun j => dJ _ _ _ (by omega)) (fun j _ => ⟨dJ _ _ _ (by omega), dJ _ _ _ (by omega)⟩), k4.congr (dρ _ _ _ (by omega) (by omega) (by omega) (by omega) (by omega) (by omega) (by omega)) (dρ _ _ _ (by omega) (by omega) (by omega) (by omega) (by omega) (by omega) (by omega)) (fun j => dJ _ _ _ (by omega)) (fun j => dJ _ _ _ (by omega)) (fun j _ => ⟨dJ _ _ _ (by omega), dJ _ _ _ (by omega)⟩), k5.congr (fun x => dρ _ _ _ (by omega) (by omega) (by omega) (by omega) (by omega) (by omega) (by omega)) (fun x => dρ _ _ _ (by omega) (by omega) (by omega) (by omega) (by omega) (by omega) (by omega)) (fun x => dρ _ _ _ (by omega) (by omega) (by omega) (by omega) (by omega) (by omega) (by omega)) (dρ _ _ _ (by omega) (by omega) (by omega) (by omega) (by omega) (by omega) (by omega)) (fun j _ => dρ _ _ _ (by omega) (by omega) (by omega) (by omega) (by omega) (by omega) (by omega)), k6.congr (dρ _ _ _ (by omega) (by omega) (by omega) (by omega) (by omega) (by omega) (by omega)) (dρ _ _ _ (by omega) (by omega) (by omega) (by omega) (by omega) (by omega) (by omega)) (fun x => dρ _ _ _ (by omega) (by omega) (by omega) (by omega) (by omega) (by omega) (by omega)) (fun j _ => dρ _ _ _ (by omega) (by omega) (by omega) (by omega) (by omega) (by omega) (by omega)), k7.grow (by rw [e5]; omega) (dρ _ _ _ (by omega) (by omega) (by omega) (by omega) (by omega) (by omega) (by omega)) (dρ _ _ _ (by omega) (by omega) (by omega) (by omega) (by omega) (by omega) (by omega)) (dρ _ _ _ (by omega) (by omega) (by omega) (by omega) (by omega) (by omega) (by omega)) (dρ _ _ _ (by omega) (by omega) (by omega) (by omega) (by omega) (by omega) (by omega)) (dρ _ _ _ (by omega) (by omega) (by omega) (by omega) (by omega) (by omega) (by omega)) (fun x => dJ _ _ _ (by omega)) (fun x => dJ _ _ _ (by omega)) (fun x => dJ _ _ _ (by omega)) (fun t' ht' => dρ _ _ _ (by omega) (by omega) (by omega) (by omega) (by omega) (by omega) (by omega))⟩
      · exact hS1.congr (fun x => dρ _ _ _ (by omega) (by omega) (by omega) (by omega) (by omega) (by omega) (by omega)) (fun x => dρ _ _ _ (by omega) (by omega) (by omega) (by omega) (by omega) (by omega) (by omega)) (fun w x _ => dρ _ _ _ (by omega) (by omega) (by omega) (by omega) (by omega) (by omega) (by omega)) (fun x => dρ _ _ _ (by omega) (by omega) (by omega) (by omega) (by omega) (by omega) (by omega)) (fun x => dρ _ _ _ (by omega) (by omega) (by omega) (by omega) (by omega) (by omega) (by omega)) (fun x => dρ _ _ _ (by omega) (by omega) (by omega) (by omega) (by omega) (by omega) (by omega)) (fun x => dρ _ _ _ (by omega) (by omega) (by omega) (by omega) (by omega) (by omega) (by omega)) (fun x => dρ _ _ _ (by omega) (by omega) (by omega) (by omega) (by omega) (by omega) (by omega)) (fun w x _ => dJ _ _ _ (by omega)) (fun w x _ => dJ _ _ _ (by omega)) (fun x => dJ _ _ _ (by omega)) (fun t' ht' => dρ _ _ _ (by omega) (by omega) (by omega) (by omega) (by omega) (by omega) (by omega))
      · rw [dρ 5 1 0 (by omega) (by omega) (by omega) (by omega) (by omega) (by omega) (by omega), e5]; omega
      · intro t' ht'
        rw [e5] at ht'
        by_cases ctt : t' = t
        · subst ctt
          exact tab_tr hC hMρ hTO
        · have htt : t' < t := by omega
          have e' : tabOf ρ t' = tabOf μ t' := by
            unfold tabOf
            simp only [fun x => dρ 4 t' x (by omega) (by omega) (by omega) (by omega) (by omega) (by omega) (by omega), fun x => dρ 22 t' x (by omega) (by omega) (by omega) (by omega) (by omega) (by omega) (by omega), fun x => dρ 23 t' x (by omega) (by omega) (by omega) (by omega) (by omega) (by omega) (by omega), fun x => dρ 24 t' x (by omega) (by omega) (by omega) (by omega) (by omega) (by omega) (by omega), fun x => dρ 25 t' x (by omega) (by omega) (by omega) (by omega) (by omega) (by omega) (by omega)]
          obtain ⟨x1, x2, x3⟩ := hTb t' (by omega)
          rw [e', dρ 4 t' 2 (by omega) (by omega) (by omega) (by omega) (by omega) (by omega) (by omega)]
          refine ⟨x1, x2.keep (dρ _ _ _ (by omega) (by omega) (by omega) (by omega) (by omega) (by omega) (by omega)) (fun j hj => ?_) (fun l hl => ⟨dρ _ _ _ (by omega) (by omega) (by omega) (by omega) (by omega) (by omega) (by omega), fun _ => ⟨dρ _ _ _ (by omega) (by omega) (by omega) (by omega) (by omega) (by omega) (by omega), dρ _ _ _ (by omega) (by omega) (by omega) (by omega) (by omega) (by omega) (by omega)⟩⟩), x3⟩
          have := x3.1
          exact ⟨dρ _ _ _ (by omega) (by omega) (by omega) (by omega) (by omega) (by omega) (by omega), dρ _ _ _ (by omega) (by omega) (by omega) (by omega) (by omega) (by omega) (by omega)⟩
