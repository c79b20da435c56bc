/-! seats: the first that is alike -/
theorem pigeon : ∀ (m n : Nat) (f : Nat → Nat), (∀ i, i < n → f i < m) → (∀ i j, i < n → j < n → f i = f j → i = j) → n ≤ m
  | 0, n, f, h1, h2 => by
    by_cases c : n = 0
    · omega
    · exact absurd (h1 0 (by omega)) (by omega)
  | m + 1, 0, f, h1, h2 => by omega
  | m + 1, n + 1, f, h1, h2 => by
    -- let the last one's place be taken out: those at m go to f n
    have := pigeon m n (fun i => if f i = m then f n else f i) (fun i hi => by
      have a := h1 i (by omega)
      have b := h1 n (by omega)
      by_cases c : f i = m
      · simp only [if_pos c]
        by_cases d : f n = m
        · have := h2 i n (by omega) (by omega) (by rw [c, d]); omega
        · omega
      · simp only [if_neg c]; omega) (fun i j hi hj e => by
      by_cases c : f i = m
      · by_cases d : f j = m
        · exact h2 i j (by omega) (by omega) (by rw [c, d])
        · simp only [if_pos c, if_neg d] at e
          have := h2 n j (by omega) (by omega) e; omega
      · by_cases d : f j = m
        · simp only [if_neg c, if_pos d] at e
          have := h2 i n (by omega) (by omega) e; omega
        · simp only [if_neg c, if_neg d] at e
          exact h2 i j (by omega) (by omega) e)
    omega
theorem and1023 (y : Int64) : (y &&& (1023 : Int64)).toInt32 = iI ((y.toBitVec.toNat % 1024 : Nat) : Int) := by
  have h1 : (y &&& 1023).toBitVec.toNat = y.toBitVec.toNat % 1024 := by
    show (y.toBitVec &&& 1023#64).toNat = _
    rw [BitVec.toNat_and]
    exact Nat.and_two_pow_sub_one_eq_mod _ 10
  have h2 : (y &&& 1023).toInt = ((y.toBitVec.toNat % 1024 : Nat) : Int) := by
    show (y &&& 1023).toBitVec.toInt = _
    rw [BitVec.toInt_eq_toNat_cond, h1, if_pos (by omega)]
  rw [lI_of (y &&& 1023), h2, lI_int]
def plc (x : Int64) (j : Nat) : Nat := (x.toBitVec.toNat + j) % 1024
theorem place_eq {x : Int64} {j : Nat} (hj : j < 1024) : ((x + (iI (j : Int)).toInt64) &&& (1023 : Int64)).toInt32 = iI ((plc x j : Nat) : Int) := by
  rw [and1023, iI_long (by omega) (by omega)]
  congr 2
  have e : (lI (j : Int)).toBitVec.toNat = j := by
    show (BitVec.ofInt 64 (j : Int)).toNat = j
    rw [BitVec.toNat_ofInt]
    omega
  have : (x + lI (j : Int)).toBitVec.toNat = (x.toBitVec.toNat + j) % 18446744073709551616 := by
    show (x.toBitVec + (lI (j : Int)).toBitVec).toNat = _
    rw [BitVec.toNat_add, e]
  rw [this]
  unfold plc
  omega
abbrev Ky : Type := Int32 × Int64 × Int64
def mxd (k : Ky) : Int64 := (((k.2.1 * (31 : Int64)) + k.2.2) * (1000003 : Int64)) + k.1.toInt64
def hsh (k : Ky) : Int64 := mxd k ^^^ zushrJ (mxd k) (20 : Int32)
def kyOf (μ : ZMem) (u : Nat) : Ky := (μ.1 34 0 u, μ.2 32 0 u, μ.2 33 0 u)
/-- the search: none: no seat; some (inl p): p is free; some (inr u): u sits there, alike -/
def scS (ky : Nat → Ky) (σ : Nat → Int) (m : Nat) : Nat → Nat → Option (Nat ⊕ Nat)
  | 0, _ => none
  | f + 1, j => if σ (plc (hsh (ky m)) j) = -1 then some (Sum.inl (plc (hsh (ky m)) j)) else if ky (σ (plc (hsh (ky m)) j)).toNat = ky m then some (Sum.inr (σ (plc (hsh (ky m)) j)).toNat) else scS ky σ m f (j + 1)
def stR (μ : ZMem) (σ : Nat → Int) : Prop := ∀ p, p < 1024 → μ.1 36 0 p = iI (σ p) ∧ -1 ≤ σ p ∧ σ p < 500
theorem seat_loop {N : Nat} {μ : ZMem} {σ : Nat → Int} {m : Nat} (hm : m < 500) (hR : stR μ σ) : ∀ (f j fuel : Nat), j + f = 1024 → f < fuel → f_Parting_seat_l40 N (iI m) (hsh (kyOf μ m)) (fun (x11 : Int32) (μ12 : ZMem) => zchk (zin x11 (zlen 36 0)) (zlt (zsetI μ12 36 0 x11.toNatClampNeg (iI (m : Int))) (fun (μ13 : ZMem) => zret (iI (m : Int)) μ13))) fuel (iI j) μ = (match scS (kyOf μ) σ m f j with | none => some (iI (m : Int), μ) | some (Sum.inl p) => some (iI (m : Int), zsetI μ 36 0 p (iI (m : Int))) | some (Sum.inr u) => some (iI (u : Int), μ))
  | 0, j, fuel, h1, h2 => by
    obtain ⟨q, rfl⟩ : ∃ q, fuel = q + 1 := ⟨fuel - 1, by omega⟩
    simp only [f_Parting_seat_l40]
    rw [zif_t (by rw [ilit, iI_le (by omega) (by omega) (by omega) (by omega)]; omega)]
    rfl
  | f + 1, j, fuel, h1, h2 => by
    obtain ⟨q, rfl⟩ : ∃ q, fuel = q + 1 := ⟨fuel - 1, by omega⟩
    have e : iI (j : Int) + (1 : Int32) = iI ((j + 1 : Nat) : Int) := by rw [ilit, iI_add]; congr 1
    have hp : plc (hsh (kyOf μ m)) j < 1024 := Nat.mod_lt _ (by omega)
    obtain ⟨p, hpp⟩ : ∃ p, p = plc (hsh (kyOf μ m)) j := ⟨_, rfl⟩
    obtain ⟨s1, s2, s3⟩ := hR p (by rw [hpp]; exact hp)
    have hz : zin (iI (p : Int)) (zlen 36 0) := zin_k 1024 rfl (by omega) (by omega) (by omega)
    have hm2 : zin (iI (m : Int)) (zlen 32 0) := zin_k 500 rfl (by omega) (by omega) (by omega)
    have hm3 : zin (iI (m : Int)) (zlen 33 0) := zin_k 500 rfl (by omega) (by omega) (by omega)
    have hm4 : zin (iI (m : Int)) (zlen 34 0) := zin_k 500 rfl (by omega) (by omega) (by omega)
    simp only [f_Parting_seat_l40]
    rw [zif_f (by rw [ilit, iI_le (by omega) (by omega) (by omega) (by omega)]; omega), place_eq (by omega), ← hpp]
    simp only [zlt_eq, zchk_t hz, cl_nat (show p < 2147483648 by omega), s1, e]
    unfold scS
    rw [← hpp]
    by_cases c : σ p = -1
    · rw [zif_t (by rw [c, m1]), if_pos c]; rfl
    · obtain ⟨u, hu⟩ : ∃ u : Nat, σ p = u := ⟨(σ p).toNat, by omega⟩
      have hu2 : zin (iI (u : Int)) (zlen 32 0) := zin_k 500 rfl (by omega) (by omega) (by omega)
      have hu3 : zin (iI (u : Int)) (zlen 33 0) := zin_k 500 rfl (by omega) (by omega) (by omega)
      have hu4 : zin (iI (u : Int)) (zlen 34 0) := zin_k 500 rfl (by omega) (by omega) (by omega)
      rw [zif_f (by rw [m1, iI_eq (by omega) (by omega) (by omega) (by omega)]; exact c), if_neg c, hu, Int.toNat_natCast]
      simp only [zchk_t hu2, zchk_t hu3, zchk_t hu4, zchk_t hm2, zchk_t hm3, zchk_t hm4, cl_nat (show u < 2147483648 by omega), cl_nat (show m < 2147483648 by omega)]
      have hrec := seat_loop (N := N) (μ := μ) (σ := σ) hm hR f (j + 1) q (by omega) (by omega)
      by_cases d : kyOf μ u = kyOf μ m
      · have d1 : μ.1 34 0 u = μ.1 34 0 m := congrArg (fun z => z.1) d
        have d2 : μ.2 32 0 u = μ.2 32 0 m := congrArg (fun z => z.2.1) d
        have d3 : μ.2 33 0 u = μ.2 33 0 m := congrArg (fun z => z.2.2) d
        rw [zif_t d1, zif_t (by rw [lcmp_eqv]; exact d2), zif_t (by rw [lcmp_eqv]; exact d3), if_pos d]; rfl
      · rw [if_neg d]
        by_cases d1 : μ.1 34 0 u = μ.1 34 0 m
        · rw [zif_t d1]
          by_cases d2 : μ.2 32 0 u = μ.2 32 0 m
          · have d3 : ¬ μ.2 33 0 u = μ.2 33 0 m := fun q => d (Prod.ext d1 (Prod.ext d2 q))
            rw [zif_t (by rw [lcmp_eqv]; exact d2), zif_f (by rw [lcmp_eqv]; exact d3)]
            exact hrec
          · rw [zif_f (by rw [lcmp_eqv]; exact d2)]
            exact hrec
        · rw [zif_f d1]
          exact hrec
theorem s_seat {N : Nat} {μ : ZMem} {σ : Nat → Int} {m : Nat} (hN : 2000 ≤ N) (hm : m < 500) (hR : stR μ σ) : f_Parting_seat N μ (iI m) = (match scS (kyOf μ) σ m 1024 0 with | none => some (iI (m : Int), μ) | some (Sum.inl p) => some (iI (m : Int), zsetI μ 36 0 p (iI (m : Int))) | some (Sum.inr u) => some (iI (u : Int), μ)) := by
  have hm2 : zin (iI (m : Int)) (zlen 32 0) := zin_k 500 rfl (by omega) (by omega) (by omega)
  have hm3 : zin (iI (m : Int)) (zlen 33 0) := zin_k 500 rfl (by omega) (by omega) (by omega)
  have hm4 : zin (iI (m : Int)) (zlen 34 0) := zin_k 500 rfl (by omega) (by omega) (by omega)
  unfold f_Parting_seat
  simp only [zchk_t hm2, zchk_t hm3, zchk_t hm4, cl_nat (show m < 2147483648 by omega), zlt_eq]
  exact seat_loop hm hR 1024 0 N (by omega) (by omega)
/-- the seats hold, of those ahead of m that count, the first of each kind -/
def TI (ky : Nat → Ky) (A : Nat → Bool) (σ : Nat → Int) (m : Nat) : Prop :=
  (∀ p, p < 1024 → σ p ≠ -1 → ∃ u : Nat, σ p = u ∧ u < m ∧ A u = true ∧ (∀ w, w < u → A w = true → ky w ≠ ky u) ∧ ∃ k, k < 1024 ∧ p = plc (hsh (ky u)) k ∧ ∀ j, j < k → σ (plc (hsh (ky u)) j) ≠ -1) ∧
  (∀ u, u < m → A u = true → ∃ p, p < 1024 ∧ σ p ≠ -1 ∧ ky (σ p).toNat = ky u) ∧
  (∀ p p', p < 1024 → p' < 1024 → σ p ≠ -1 → σ p = σ p' → p = p') ∧ ∀ p, p < 1024 → -1 ≤ σ p ∧ σ p < 500
theorem TI_0 {ky : Nat → Ky} {A : Nat → Bool} : TI ky A (fun _ => -1) 0 := ⟨fun _ _ q => absurd rfl q, fun u hu => by omega, fun _ _ _ _ q => absurd rfl q, fun _ _ => ⟨(by show (-1 : Int) ≤ -1; omega), (by show (-1 : Int) < 500; omega)⟩⟩
theorem TI_skip {ky : Nat → Ky} {A : Nat → Bool} {σ : Nat → Int} {m : Nat} (h : TI ky A σ m) (hA : A m = false) : TI ky A σ (m + 1) := by
  obtain ⟨a, b, c, d⟩ := h
  refine ⟨fun p hp q => ?_, fun u hu q => ?_, c, d⟩
  · obtain ⟨u, u1, u2, u3⟩ := a p hp q
    exact ⟨u, u1, by omega, u3⟩
  · by_cases e : u = m
    · rw [e, hA] at q; cases q
    · exact b u (by omega) q
theorem scS_spec {ky : Nat → Ky} {σ : Nat → Int} {m : Nat} : ∀ (f j : Nat),
    (∀ p, scS ky σ m f j = some (Sum.inl p) → ∃ k, j ≤ k ∧ k < j + f ∧ p = plc (hsh (ky m)) k ∧ σ p = -1 ∧ ∀ i, j ≤ i → i < k → σ (plc (hsh (ky m)) i) ≠ -1 ∧ ky (σ (plc (hsh (ky m)) i)).toNat ≠ ky m) ∧
    (∀ u, scS ky σ m f j = some (Sum.inr u) → ∃ k, j ≤ k ∧ k < j + f ∧ σ (plc (hsh (ky m)) k) ≠ -1 ∧ u = (σ (plc (hsh (ky m)) k)).toNat ∧ ky u = ky m) ∧
    (scS ky σ m f j = none → ∀ i, j ≤ i → i < j + f → σ (plc (hsh (ky m)) i) ≠ -1 ∧ ky (σ (plc (hsh (ky m)) i)).toNat ≠ ky m)
  | 0, j => ⟨fun p q => (by cases q), fun u q => (by cases q), fun _ i h1 h2 => by omega⟩
  | f + 1, j => by
    obtain ⟨r1, r2, r3⟩ := scS_spec (ky := ky) (σ := σ) (m := m) f (j + 1)
    unfold scS
    by_cases c : σ (plc (hsh (ky m)) j) = -1
    · rw [if_pos c]
      exact ⟨fun p q => (by cases q; exact ⟨j, by omega, by omega, rfl, c, fun i h1 h2 => by omega⟩), fun u q => (by cases q), fun q => (by cases q)⟩
    · rw [if_neg c]
      by_cases d : ky (σ (plc (hsh (ky m)) j)).toNat = ky m
      · rw [if_pos d]
        exact ⟨fun p q => (by cases q), fun u q => (by cases q; exact ⟨j, by omega, by omega, c, rfl, d⟩), fun q => (by cases q)⟩
      · rw [if_neg d]
        refine ⟨fun p q => ?_, fun u q => ?_, fun q i h1 h2 => ?_⟩
        · obtain ⟨k, k1, k2, k3, k4, k5⟩ := r1 p q
          refine ⟨k, by omega, by omega, k3, k4, fun i h1 h2 => ?_⟩
          by_cases e : i = j
          · rw [e]; exact ⟨c, d⟩
          · exact k5 i (by omega) h2
        · obtain ⟨k, k1, k2, k3⟩ := r2 u q
          exact ⟨k, by omega, by omega, k3⟩
        · by_cases e : i = j
          · rw [e]; exact ⟨c, d⟩
          · exact r3 q i (by omega) (by omega)
theorem plc_all {x : Int64} {p : Nat} (hp : p < 1024) : ∃ j, j < 1024 ∧ plc x j = p := by
  refine ⟨(p + 1024 - x.toBitVec.toNat % 1024) % 1024, Nat.mod_lt _ (by omega), ?_⟩
  unfold plc
  omega
/-- the search ends well: a free seat if none ahead is alike, the first alike if there is one -/
theorem TI_step {ky : Nat → Ky} {A : Nat → Bool} {σ : Nat → Int} {m : Nat} (hm : m < 500) (h : TI ky A σ m) (hA : A m = true) :
    (∃ p, p < 1024 ∧ scS ky σ m 1024 0 = some (Sum.inl p) ∧ (∀ u, u < m → A u = true → ky u ≠ ky m) ∧ TI ky A (fun q => if q = p then (m : Int) else σ q) (m + 1)) ∨
    (∃ u, scS ky σ m 1024 0 = some (Sum.inr u) ∧ u < m ∧ A u = true ∧ ky u = ky m ∧ (∀ w, w < u → A w = true → ky w ≠ ky m) ∧ TI ky A σ (m + 1)) := by
  obtain ⟨a, b, c, d⟩ := h
  obtain ⟨r1, r2, r3⟩ := scS_spec (ky := ky) (σ := σ) (m := m) 1024 0
  have hlt : ∀ j, plc (hsh (ky m)) j < 1024 := fun j => Nat.mod_lt _ (by omega)
  cases hs : scS ky σ m 1024 0 with
  | none =>
    exfalso
    have hall : ∀ p, p < 1024 → σ p ≠ -1 := fun p hp => by
      obtain ⟨j, j1, j2⟩ := plc_all (x := hsh (ky m)) hp
      rw [← j2]
      exact (r3 hs j (by omega) (by omega)).1
    have := pigeon 500 1024 (fun p => (σ p).toNat) (fun p hp => by have := d p hp; have := hall p hp; show (σ p).toNat < 500; omega) (fun p p' h1 h2 e => c p p' h1 h2 (hall p h1) (by
      have := d p h1; have := hall p h1; have := d p' h2; have := hall p' h2
      have e' : (σ p).toNat = (σ p').toNat := e
      omega))
    omega
  | some r =>
    cases r with
    | inl p =>
      obtain ⟨k, k1, k2, k3, k4, k5⟩ := r1 p hs
      have hp : p < 1024 := by rw [k3]; exact hlt k
      have hno : ∀ u, u < m → A u = true → ky u ≠ ky m := fun u hu hAu e => by
        obtain ⟨q, q1, q2, q3⟩ := b u hu hAu
        obtain ⟨w, w1, w2, w3, w4, i, i1, i2, i3⟩ := a q q1 q2
        rw [w1, Int.toNat_natCast] at q3
        have ew : ky w = ky m := q3.trans e
        rw [ew] at i2 i3
        -- q lies at try i, p at try k: p free, so k is not ahead of i; q alike, so i is not ahead of k
        by_cases o : i < k
        · have := (k5 i (by omega) o).2
          rw [← i2, w1, Int.toNat_natCast] at this
          exact this ew
        · by_cases o2 : i = k
          · rw [o2, ← k3] at i2
            rw [i2] at q2
            exact q2 k4
          · have := i3 k (by omega)
            rw [← k3] at this
            exact this k4
      refine Or.inl ⟨p, hp, rfl, hno, ?_, ?_, ?_, ?_⟩
      · intro q hq hne
        by_cases e : q = p
        · refine ⟨m, by simp only [if_pos e], by omega, hA, fun w hw hAw => hno w hw hAw, k, by omega, by rw [e]; exact k3, fun j hj => ?_⟩
          by_cases e2 : plc (hsh (ky m)) j = p
          · simp only [if_pos e2]; omega
          · simp only [if_neg e2]; exact (k5 j (by omega) hj).1
        · simp only [if_neg e] at hne ⊢
          obtain ⟨u, u1, u2, u3, u4, i, i1, i2, i3⟩ := a q hq hne
          refine ⟨u, u1, by omega, u3, u4, i, i1, i2, fun j hj => ?_⟩
          by_cases e2 : plc (hsh (ky u)) j = p
          · simp only [if_pos e2]; omega
          · simp only [if_neg e2]; exact i3 j hj
      · intro u hu hAu
        by_cases e : u = m
        · exact ⟨p, hp, by simp only [if_pos trivial]; omega, by simp only [if_pos trivial]; rw [Int.toNat_natCast, e]⟩
        · obtain ⟨q, q1, q2, q3⟩ := b u (by omega) hAu
          have : ¬ q = p := fun e2 => q2 (by rw [e2]; exact k4)
          exact ⟨q, q1, by simp only [if_neg this]; exact q2, by simp only [if_neg this]; exact q3⟩
      · intro q q' h1 h2 hne e
        by_cases e1 : q = p
        · by_cases e2 : q' = p
          · rw [e1, e2]
          · simp only [if_pos e1, if_neg e2] at e
            obtain ⟨u, u1, u2, -⟩ := a q' h2 (by omega)
            omega
        · by_cases e2 : q' = p
          · simp only [if_neg e1, if_pos e2] at e hne
            obtain ⟨u, u1, u2, -⟩ := a q h1 hne
            omega
          · simp only [if_neg e1, if_neg e2] at e hne
            exact c q q' h1 h2 hne e
      · intro q hq
        by_cases e1 : q = p
        · simp only [if_pos e1]; omega
        · simp only [if_neg e1]; exact d q hq
    | inr u =>
      obtain ⟨k, k1, k2, k3, k4, k5⟩ := r2 u hs
      obtain ⟨w, w1, w2, w3, w4, -⟩ := a _ (hlt k) k3
      rw [w1, Int.toNat_natCast] at k4
      subst k4
      refine Or.inr ⟨u, rfl, w2, w3, k5, fun v hv hAv e => w4 v hv hAv (e.trans k5.symm), ?_, ?_, c, d⟩
      · intro q hq hne
        obtain ⟨v, v1, v2, v3⟩ := a q hq hne
        exact ⟨v, v1, by omega, v3⟩
      · intro v hv hAv
        by_cases e : v = m
        · exact ⟨_, hlt k, k3, by rw [w1, Int.toNat_natCast, e]; exact k5⟩
        · exact b v (by omega) hAv
