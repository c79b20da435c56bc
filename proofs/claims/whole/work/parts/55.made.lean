/-! made: both give the shortest row, and of these the first -/
def fqI (ν ν' : ZMem) : Prop := (∀ k i x, ¬ (k = 44 ∧ i = 0 ∧ x = 0) → ¬ (k = 51 ∧ i = 0) → ν'.1 k i x = ν.1 k i x) ∧ ∀ k i x, ¬ (k = 12 ∧ i = 0) → ν'.2 k i x = ν.2 k i x
theorem fqI.rf {ν : ZMem} : fqI ν ν := ⟨fun _ _ _ _ _ => rfl, fun _ _ _ _ => rfl⟩
theorem fqI.tr {ν ν' ν'' : ZMem} (h : fqI ν ν') (h' : fqI ν' ν'') : fqI ν ν'' := ⟨fun k i x q1 q2 => (h'.1 k i x q1 q2).trans (h.1 k i x q1 q2), fun k i x q1 => (h'.2 k i x q1).trans (h.2 k i x q1)⟩
theorem fqI.ofL {ν ν' : ZMem} (h : fqL ν ν') : fqI ν ν' := ⟨fun k i x q1 _ => h.1 k i x q1, h.2⟩
theorem fqI.same {ν ν' : ZMem} (h : fqI ν ν') : Same ν ν' := ⟨fun k i x q => h.1 k i x (fun e => by rw [e.1] at q; revert q; simp [relI]) (fun e => by rw [e.1] at q; revert q; simp [relI]), fun k i x q => h.2 k i x (fun e => by rw [e.1] at q; cases q)⟩
theorem pow_le6 {c l : Nat} (hc : c ≤ 6) (hl : l ≤ 5) : c ^ l ≤ 7776 := by
  have h1 : c ^ l ≤ 6 ^ l := Nat.pow_le_pow_left hc l
  have h2 : 6 ^ l ≤ 6 ^ 5 := Nat.pow_le_pow_right (by omega) hl
  have h3 : (6 : Nat) ^ 5 = 7776 := by decide
  omega
def LL (kd xs : Nat → Int) (low goal : Int) (n l : Nat) (q : Nat → Nat) : Prop := LD kd xs low goal n q l 0 (fun j => low + (j : Int))
theorem LL_congr {kd xs : Nat → Int} {low goal : Int} {n l : Nat} {q q' : Nat → Nat} (h : ∀ i, i < l → q i = q' i) (hL : LL kd xs low goal n l q) : LL kd xs low goal n l q' := fun j hj => by
  rw [← rl_congr (q := q) l 0 _ (fun i' _ h2 => h i' (by omega))]
  exact hL j hj
theorem Dg_lt {c l z i : Nat} (h : 0 < c) : Dg c l z i < c := Nat.mod_lt _ h
theorem cnt_l {N : Nat} {μ : ZMem} {c l n : Nat} {kd xs : Nat → Int} {low goal : Int} (hN : 30000 ≤ N) (hK : KN μ c kd xs) (hn1 : 1 ≤ n) (hn : n ≤ 100) (hl0 : 0 ≤ low) (hl1 : low + n ≤ 10000) (hll : 1 ≤ l) (hl : l ≤ 5) (hg0 : 0 ≤ goal) (hg : goal ≤ 9999) :
    ∀ (f z fuel : Nat) (ν : ZMem), z + f = c ^ l → f < fuel → fqI μ ν → (∀ z', z' < z → ¬ LL kd xs low goal n l (Dg c l z')) → ∃ b ν', f_M_isMade_l34 N (iI low) (iI (low + (n : Int) - 1)) (iI goal) (iI l) (iI ((c ^ l : Nat) : Int)) fuel (iI z) ν = some (bI b, ν') ∧ fqI μ ν' ∧ (b = true → ∃ z, z < c ^ l ∧ LL kd xs low goal n l (Dg c l z) ∧ (∀ i, i < l → ν'.1 51 0 i = iI (Dg c l z i)) ∧ ∀ z', z' < z → ¬ LL kd xs low goal n l (Dg c l z')) ∧ (b = false → ∀ z', z' < c ^ l → ¬ LL kd xs low goal n l (Dg c l z'))
  | 0, z, fuel, ν, e1, e2, hF, hi => by
    obtain ⟨fu, rfl⟩ : ∃ q, fuel = q + 1 := ⟨fuel - 1, by omega⟩
    have hp := pow_le6 hK.1.1 hl
    refine ⟨false, ν, ?_, hF, fun q => (by cases q), fun _ z' hz' => hi z' (by omega)⟩
    simp only [f_M_isMade_l34]
    rw [zif_t (by rw [iI_le (by omega) (by omega) (by omega) (by omega)]; omega)]; rfl
  | f + 1, z, fuel, ν, e1, e2, hF, hi => by
    obtain ⟨fu, rfl⟩ : ∃ q, fuel = q + 1 := ⟨fuel - 1, by omega⟩
    have hp := pow_le6 hK.1.1 hl
    have c6 := hK.1.1
    have hc0 : 0 < c := by
      by_cases h : c = 0
      · rw [h, Nat.zero_pow (by omega)] at e1; omega
      · omega
    have e : iI (z : Int) + (1 : Int32) = iI ((z + 1 : Nat) : Int) := by rw [ilit, iI_add]; congr 1
    have el : iI (l : Int) - (1 : Int32) = iI ((l : Int) - 1) := by rw [ilit, iI_sub]
    have h40 : ν.1 40 0 6 = iI c := by rw [hF.1 40 0 6 (by omega) (by omega)]; exact hK.1.2
    simp only [f_M_isMade_l34]
    rw [zif_f (by rw [iI_le (by omega) (by omega) (by omega) (by omega)]; omega)]
    simp only [zlt_eq, el, e]
    generalize hkx : (fun (μ21 : ZMem) => zbnd (f_M_leadsAll N μ21 (iI low) (iI (low + (n : Int) - 1)) (iI goal) (iI (l : Int))) (fun (r23 : Int32) (μ22 : ZMem) => zif (r23 = 0) (f_M_isMade_l34 N (iI low) (iI (low + (n : Int) - 1)) (iI goal) (iI (l : Int)) (iI ((c ^ l : Nat) : Int)) fu (iI ((z + 1 : Nat) : Int)) μ22) (zret (1 : Int32) μ22))) = kx
    obtain ⟨ν1, g1, g2, g3, g4⟩ := figs_l (N := N) (p0 := iI low) (p1 := iI (low + (n : Int) - 1)) (p2 := iI goal) (p3 := iI (l : Int)) (x8 := iI ((c ^ l : Nat) : Int)) (z11 := iI (z : Int)) (kx := kx) hc0 c6 l N z ν hl (by omega) (by omega) h40
    rw [g1, ← hkx]
    have hF1 : fqI μ ν1 := hF.tr ⟨fun k i x q1 q2 => g3 k i x (fun e => q2 ⟨e.1, e.2.1⟩), fun k i x _ => by rw [g2]⟩
    have hK1 : KN ν1 c kd xs := hK.fr (fun x => hF1.1 40 0 x (by omega) (by omega))
    obtain ⟨b, ν2, k1, k2, k3⟩ := s_leadsAll (N := N) (μ := ν1) (c := c) (l := l) (n := n) (low := low) (goal := goal) (q := Dg c l z) (by omega) hK1 hn1 hn hl0 hl1 hl (fun i hi => ⟨g4 i hi, Dg_lt hc0⟩) hg0 hg
    simp only
    rw [k1, zbnd_eq]
    have hF2 : fqI μ ν2 := hF1.tr (fqI.ofL k2)
    cases hb : b with
    | false =>
      rw [zif_t (show bI false = 0 from rfl)]
      refine cnt_l hN hK hn1 hn hl0 hl1 hll hl hg0 hg f (z + 1) fu ν2 (by omega) (by omega) hF2 (fun z' hz' => ?_)
      by_cases c' : z' = z
      · rw [c']; intro h; have := k3.2 h; rw [hb] at this; cases this
      · exact hi z' (by omega)
    | true =>
      rw [zif_f (by decide)]
      exact ⟨true, ν2, rfl, hF2, fun _ => ⟨z, by omega, k3.1 hb, fun i hi => by rw [k2.1 51 0 i (by omega)]; exact g4 i hi, hi⟩, fun q => (by cases q)⟩
theorem pow_l {N : Nat} {p0 p1 p2 : Int32} {kx : Int32 → ZMem → Option (Int32 × ZMem)} {c l : Nat} {μ : ZMem} (h : μ.1 40 0 6 = iI c) (hc : c ≤ 6) (hl : l ≤ 5) : ∀ (f i fuel : Nat), i + f = l → f < fuel → f_M_isMade_l6 N p0 p1 p2 (iI l) kx fuel (iI ((c ^ i : Nat) : Int)) (iI i) μ = kx (iI ((c ^ l : Nat) : Int)) μ
  | 0, i, fuel, e1, e2 => by
    obtain ⟨fu, rfl⟩ : ∃ q, fuel = q + 1 := ⟨fuel - 1, by omega⟩
    simp only [f_M_isMade_l6]
    rw [zif_t (by rw [iI_le (by omega) (by omega) (by omega) (by omega)]; omega), show i = l by omega]
  | f + 1, i, fuel, e1, e2 => by
    obtain ⟨fu, rfl⟩ : ∃ q, fuel = q + 1 := ⟨fuel - 1, by omega⟩
    have e : iI (i : Int) + (1 : Int32) = iI ((i + 1 : Nat) : Int) := by rw [ilit, iI_add]; congr 1
    have em : iI ((c ^ i : Nat) : Int) * iI (c : Int) = iI ((c ^ (i + 1) : Nat) : Int) := by rw [iI_mul, Nat.pow_succ]; congr 1
    simp only [f_M_isMade_l6]
    rw [zif_f (by rw [iI_le (by omega) (by omega) (by omega) (by omega)]; omega), zchk_t (by decide)]
    simp only [show (6 : Int32).toNatClampNeg = 6 from rfl, h, zlt_eq, e, em]
    exact pow_l h hc hl f (i + 1) fu (by omega) (by omega)
/-- the first row of a length that leads there -/
def MN (kd xs : Nat → Int) (low goal : Int) (n c l : Nat) (q : Nat → Nat) : Prop := dgt c q 0 l ∧ LL kd xs low goal n l q ∧ ∀ q', dgt c q' 0 l → lx q' q 0 l → ¬ LL kd xs low goal n l q'
def NO (kd xs : Nat → Int) (low goal : Int) (n c l : Nat) : Prop := ∀ q', dgt c q' 0 l → ¬ LL kd xs low goal n l q'
theorem MN_uniq {kd xs : Nat → Int} {low goal : Int} {n c l : Nat} {q q' : Nat → Nat} (h : MN kd xs low goal n c l q) (h' : MN kd xs low goal n c l q') : ∀ i, i < l → q i = q' i := by
  intro i
  induction i using Nat.strongRecOn with
  | ind i ih =>
    intro hi
    by_cases c1 : q i < q' i
    · exact absurd h.2.1 (h'.2.2 q h.1 ⟨i, by omega, hi, fun i' _ h2 => ih i' h2 (by omega), c1⟩)
    · by_cases c2 : q' i < q i
      · exact absurd h'.2.1 (h.2.2 q' h'.1 ⟨i, by omega, hi, fun i' _ h2 => (ih i' h2 (by omega)).symm, c2⟩)
      · omega
theorem s_isMade {N : Nat} {μ : ZMem} {c l n : Nat} {kd xs : Nat → Int} {low goal : Int} (hN : 30000 ≤ N) (hK : KN μ c kd xs) (hn1 : 1 ≤ n) (hn : n ≤ 100) (hl0 : 0 ≤ low) (hl1 : low + n ≤ 10000) (hll : 1 ≤ l) (hl : l ≤ 5) (hg0 : 0 ≤ goal) (hg : goal ≤ 9999) :
    ∃ b ν', f_M_isMade N μ (iI low) (iI (low + (n : Int) - 1)) (iI goal) (iI l) = some (bI b, ν') ∧ fqI μ ν' ∧ (b = true → ∃ q, MN kd xs low goal n c l q ∧ ∀ i, i < l → ν'.1 51 0 i = iI (q i)) ∧ (b = false → NO kd xs low goal n c l) := by
  have hp := pow_le6 hK.1.1 hl
  obtain ⟨b, ν', h1, h2, h3, h4⟩ := cnt_l (N := N) (μ := μ) (c := c) (l := l) (n := n) (low := low) (goal := goal) hN hK hn1 hn hl0 hl1 hll hl hg0 hg (c ^ l) 0 N μ (by omega) (by omega) fqI.rf (fun z' h => by omega)
  have hall : ∀ q', dgt c q' 0 l → LL kd xs low goal n l q' → VV c q' l < c ^ l ∧ LL kd xs low goal n l (Dg c l (VV c q' l)) := fun q' hd hL =>
    ⟨VV_lt l (fun i hi => hd i (by omega) hi), LL_congr (fun i hi => (Dg_VV (fun k hk => hd k (by omega) hk) hi).symm) hL⟩
  refine ⟨b, ν', ?_, h2, fun hb => ?_, fun hb q' hd hL => ?_⟩
  · unfold f_M_isMade
    simp only [zlt_eq]
    have := pow_l (N := N) (p0 := iI low) (p1 := iI (low + (n : Int) - 1)) (p2 := iI goal) (kx := fun (x8 : Int32) (μ9 : ZMem) => f_M_isMade_l34 N (iI low) (iI (low + (n : Int) - 1)) (iI goal) (iI (l : Int)) x8 N (0 : Int32) μ9) (c := c) (l := l) (μ := μ) hK.1.2 hK.1.1 hl l 0 N (by omega) (by omega)
    refine Eq.trans ?_ (this.trans h1)
    rw [Nat.pow_zero]; rfl
  · obtain ⟨z, z1, z2, z3, z4⟩ := h3 hb
    have hc0 : 0 < c := by
      by_cases h : c = 0
      · rw [h, Nat.zero_pow (by omega)] at z1; omega
      · omega
    refine ⟨Dg c l z, ⟨fun i _ _ => Dg_lt hc0, z2, fun q' hd hx hL => ?_⟩, z3⟩
    obtain ⟨i, i1, i2, i3, i4⟩ := hx
    obtain ⟨w1, w2⟩ := hall q' hd hL
    obtain ⟨Q, hQ⟩ : ∃ Q : Nat → Nat, Q = fun k => if k < l then q' k else 0 := ⟨_, rfl⟩
    have Qe : ∀ k, k < l → Q k = q' k := fun k hk => by rw [hQ]; exact if_pos hk
    have Qc : ∀ k, Q k < c := fun k => by
      by_cases h : k < l
      · rw [Qe k h]; exact hd k (by omega) h
      · rw [hQ]; show (if k < l then q' k else 0) < c; rw [if_neg h]; exact hc0
    have hv := VV_lx (c := c) (q := Dg c l z) (q' := Q) (i := i) Qc (fun k hk => by rw [Qe k (by omega)]; exact i3 k (by omega) hk) (by rw [Qe i i2]; exact i4) (l - (i + 1))
    rw [show i + 1 + (l - (i + 1)) = l by omega, VV_Dg z1 l (by omega), Nat.sub_self, Nat.pow_zero, Nat.div_one] at hv
    have hQV : ∀ m, m ≤ l → VV c Q m = VV c q' m := by
      intro m
      induction m with
      | zero => intro _; rfl
      | succ m ih => intro hm; show VV c Q m * c + Q m = VV c q' m * c + q' m; rw [ih (by omega), Qe m (by omega)]
    rw [hQV l (by omega)] at hv
    exact z4 _ hv w2
  · obtain ⟨w1, w2⟩ := hall q' hd hL
    exact h4 hb _ w1 w2
