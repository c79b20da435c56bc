/-! rows of calls by what comes back, weakening, copying (by hand) -/
section ZR4
variable {g : ZG} {K K2 : ZK} {d d2 : Nat} {E : ZE} {ρ ρ2 : ZR} {μ μ2 : ZMem} {pc : Nat} {lv lv2 : List (Option Value)} {st st2 : List Value} {β : Type} {rr : β}
theorem zx_callSI {idx n : Nat} {as : List Value} {r : Int32} (G : zGa g K d E) (dg : decode K.2.1 pc = .ok (.invokestatic idx, 3)) (hM : zMS K.1.cls idx K2 n) (hT : ∀ l, zT g l d2 K2 as μ (some (.int r), μ2)) (hs : as.reverse ++ st = st2) (hn : as.length = n) (hd : d2 + 1 ≤ d) (hc : (st.map fun v => v.category).sum ≤ 8) (kk : zX g K d E ρ μ2 (pc + 3) lv (.int r :: st)) : zX g K d E ρ μ pc lv st2 := hs ▸ zx_callS G dg hM hn hT hd hc kk
theorem zx_callVI {idx n b : Nat} {as : List Value} {r : Int32} (G : zGa g K d E) (dg : decode K.2.1 pc = .ok (.invokevirtual idx, 3)) (hM : zMV K.1.cls idx K2 n) (hT : ∀ l, zT g l d2 K2 (.ref b :: as) μ (some (.int r), μ2)) (hs : as.reverse ++ .ref b :: st = st2) (hn : as.length = n) (hd : d2 + 1 ≤ d) (hc : (st.map fun v => v.category).sum ≤ 8) (hrc : ∀ (s : State) (H : Heap) (locs : List Loc), zFX g s → va_P g.1 zcls (zws g μ) H → va_S (zA g) s.heap H locs → ∃ cell : Cell, H[b]? = some cell ∧ cell.vm.isStatics = false ∧ s.vm.findClass K2.1.cls = some cell.cls) (kk : zX g K d E ρ μ2 (pc + 3) lv (.int r :: st)) : zX g K d E ρ μ pc lv st2 := hs ▸ zx_callV0 G dg hM hn hT hd hc hrc kk
theorem zx_callSJ {idx n : Nat} {as : List Value} {r : Int64} (G : zGa g K d E) (dg : decode K.2.1 pc = .ok (.invokestatic idx, 3)) (hM : zMS K.1.cls idx K2 n) (hT : ∀ l, zT g l d2 K2 as μ (some (.long r), μ2)) (hs : as.reverse ++ st = st2) (hn : as.length = n) (hd : d2 + 1 ≤ d) (hc : (st.map fun v => v.category).sum ≤ 8) (kk : zX g K d E ρ μ2 (pc + 3) lv (.long r :: st)) : zX g K d E ρ μ pc lv st2 := hs ▸ zx_callS G dg hM hn hT hd hc kk
theorem zx_callVJ {idx n b : Nat} {as : List Value} {r : Int64} (G : zGa g K d E) (dg : decode K.2.1 pc = .ok (.invokevirtual idx, 3)) (hM : zMV K.1.cls idx K2 n) (hT : ∀ l, zT g l d2 K2 (.ref b :: as) μ (some (.long r), μ2)) (hs : as.reverse ++ .ref b :: st = st2) (hn : as.length = n) (hd : d2 + 1 ≤ d) (hc : (st.map fun v => v.category).sum ≤ 8) (hrc : ∀ (s : State) (H : Heap) (locs : List Loc), zFX g s → va_P g.1 zcls (zws g μ) H → va_S (zA g) s.heap H locs → ∃ cell : Cell, H[b]? = some cell ∧ cell.vm.isStatics = false ∧ s.vm.findClass K2.1.cls = some cell.cls) (kk : zX g K d E ρ μ2 (pc + 3) lv (.long r :: st)) : zX g K d E ρ μ pc lv st2 := hs ▸ zx_callV0 G dg hM hn hT hd hc hrc kk
theorem zx_callSV {idx n : Nat} {as : List Value}  (G : zGa g K d E) (dg : decode K.2.1 pc = .ok (.invokestatic idx, 3)) (hM : zMS K.1.cls idx K2 n) (hT : ∀ l, zT g l d2 K2 as μ (none, μ2)) (hs : as.reverse ++ st = st2) (hn : as.length = n) (hd : d2 + 1 ≤ d) (hc : (st.map fun v => v.category).sum ≤ 8) (kk : zX g K d E ρ μ2 (pc + 3) lv (st)) : zX g K d E ρ μ pc lv st2 := hs ▸ zx_callS G dg hM hn hT hd hc kk
theorem zx_callVV {idx n b : Nat} {as : List Value}  (G : zGa g K d E) (dg : decode K.2.1 pc = .ok (.invokevirtual idx, 3)) (hM : zMV K.1.cls idx K2 n) (hT : ∀ l, zT g l d2 K2 (.ref b :: as) μ (none, μ2)) (hs : as.reverse ++ .ref b :: st = st2) (hn : as.length = n) (hd : d2 + 1 ≤ d) (hc : (st.map fun v => v.category).sum ≤ 8) (hrc : ∀ (s : State) (H : Heap) (locs : List Loc), zFX g s → va_P g.1 zcls (zws g μ) H → va_S (zA g) s.heap H locs → ∃ cell : Cell, H[b]? = some cell ∧ cell.vm.isStatics = false ∧ s.vm.findClass K2.1.cls = some cell.cls) (kk : zX g K d E ρ μ2 (pc + 3) lv (st)) : zX g K d E ρ μ pc lv st2 := hs ▸ zx_callV0 G dg hM hn hT hd hc hrc kk
theorem zx_callSN {idx n : Nat} {as : List Value} {k : Nat} (G : zGa g K d E) (dg : decode K.2.1 pc = .ok (.invokestatic idx, 3)) (hM : zMS K.1.cls idx K2 n) (hT : ∀ l, zT g l d2 K2 as μ (some (zrv g k none), μ2)) (hs : as.reverse ++ st = st2) (hn : as.length = n) (hd : d2 + 1 ≤ d) (hc : (st.map fun v => v.category).sum ≤ 8) (kk : zX g K d E ρ μ2 (pc + 3) lv (.null :: st)) : zX g K d E ρ μ pc lv st2 := hs ▸ zx_callS G dg hM hn hT hd hc kk
theorem zx_callVN {idx n b : Nat} {as : List Value} {k : Nat} (G : zGa g K d E) (dg : decode K.2.1 pc = .ok (.invokevirtual idx, 3)) (hM : zMV K.1.cls idx K2 n) (hT : ∀ l, zT g l d2 K2 (.ref b :: as) μ (some (zrv g k none), μ2)) (hs : as.reverse ++ .ref b :: st = st2) (hn : as.length = n) (hd : d2 + 1 ≤ d) (hc : (st.map fun v => v.category).sum ≤ 8) (hrc : ∀ (s : State) (H : Heap) (locs : List Loc), zFX g s → va_P g.1 zcls (zws g μ) H → va_S (zA g) s.heap H locs → ∃ cell : Cell, H[b]? = some cell ∧ cell.vm.isStatics = false ∧ s.vm.findClass K2.1.cls = some cell.cls) (kk : zX g K d E ρ μ2 (pc + 3) lv (.null :: st)) : zX g K d E ρ μ pc lv st2 := hs ▸ zx_callV0 G dg hM hn hT hd hc hrc kk
theorem zx_callSP {idx n : Nat} {as : List Value} {k r : Nat} (G : zGa g K d E) (dg : decode K.2.1 pc = .ok (.invokestatic idx, 3)) (hM : zMS K.1.cls idx K2 n) (hT : ∀ l, zT g l d2 K2 as μ (some (zrv g k (some r)), μ2)) (hs : as.reverse ++ st = st2) (hn : as.length = n) (hd : d2 + 1 ≤ d) (hc : (st.map fun v => v.category).sum ≤ 8) (kk : zX g K d E ρ μ2 (pc + 3) lv (.ref (g.2.1 k r) :: st)) : zX g K d E ρ μ pc lv st2 := hs ▸ zx_callS G dg hM hn hT hd hc kk
theorem zx_callVP {idx n b : Nat} {as : List Value} {k r : Nat} (G : zGa g K d E) (dg : decode K.2.1 pc = .ok (.invokevirtual idx, 3)) (hM : zMV K.1.cls idx K2 n) (hT : ∀ l, zT g l d2 K2 (.ref b :: as) μ (some (zrv g k (some r)), μ2)) (hs : as.reverse ++ .ref b :: st = st2) (hn : as.length = n) (hd : d2 + 1 ≤ d) (hc : (st.map fun v => v.category).sum ≤ 8) (hrc : ∀ (s : State) (H : Heap) (locs : List Loc), zFX g s → va_P g.1 zcls (zws g μ) H → va_S (zA g) s.heap H locs → ∃ cell : Cell, H[b]? = some cell ∧ cell.vm.isStatics = false ∧ s.vm.findClass K2.1.cls = some cell.cls) (kk : zX g K d E ρ μ2 (pc + 3) lv (.ref (g.2.1 k r) :: st)) : zX g K d E ρ μ pc lv st2 := hs ▸ zx_callV0 G dg hM hn hT hd hc hrc kk
theorem zx_callSR {idx n : Nat} {as : List Value} {k r : Nat} (G : zGa g K d E) (dg : decode K.2.1 pc = .ok (.invokestatic idx, 3)) (hM : zMS K.1.cls idx K2 n) (hT : ∀ l, zT g l d2 K2 as μ (some (.ref (g.2.1 k r)), μ2)) (hs : as.reverse ++ st = st2) (hn : as.length = n) (hd : d2 + 1 ≤ d) (hc : (st.map fun v => v.category).sum ≤ 8) (kk : zX g K d E ρ μ2 (pc + 3) lv (.ref (g.2.1 k r) :: st)) : zX g K d E ρ μ pc lv st2 := hs ▸ zx_callS G dg hM hn hT hd hc kk
theorem zx_callVR {idx n b : Nat} {as : List Value} {k r : Nat} (G : zGa g K d E) (dg : decode K.2.1 pc = .ok (.invokevirtual idx, 3)) (hM : zMV K.1.cls idx K2 n) (hT : ∀ l, zT g l d2 K2 (.ref b :: as) μ (some (.ref (g.2.1 k r)), μ2)) (hs : as.reverse ++ .ref b :: st = st2) (hn : as.length = n) (hd : d2 + 1 ≤ d) (hc : (st.map fun v => v.category).sum ≤ 8) (hrc : ∀ (s : State) (H : Heap) (locs : List Loc), zFX g s → va_P g.1 zcls (zws g μ) H → va_S (zA g) s.heap H locs → ∃ cell : Cell, H[b]? = some cell ∧ cell.vm.isStatics = false ∧ s.vm.findClass K2.1.cls = some cell.cls) (kk : zX g K d E ρ μ2 (pc + 3) lv (.ref (g.2.1 k r) :: st)) : zX g K d E ρ μ pc lv st2 := hs ▸ zx_callV0 G dg hM hn hT hd hc hrc kk
def zbrf {β : Type} (x : Option (Option Nat × ZMem)) (ka : ZMem → Option β) (kb : Nat → ZMem → Option β) : Option β := match x with
  | none => none
  | some (none, μ) => ka μ
  | some (some i, μ) => kb i μ
theorem zbrf_of {x : Option (Option Nat × ZMem)} {ka : ZMem → Option β} {kb : Nat → ZMem → Option β} (h : zbrf x ka kb = some rr) : (∃ μ, x = some (none, μ) ∧ ka μ = some rr) ∨ ∃ i μ, x = some (some i, μ) ∧ kb i μ = some rr := by
  match x, h with
  | some (none, μ), h => exact Or.inl ⟨μ, rfl, h⟩
  | some (some i, μ), h => exact Or.inr ⟨i, μ, rfl, h⟩
def zmask : List Bool → List (Option Value) → List (Option Value)
  | true :: bs, v :: vs => v :: zmask bs vs
  | false :: bs, _ :: vs => none :: zmask bs vs
  | _, _ => []
theorem zmask_at : ∀ (bs : List Bool) (lv : List (Option Value)) (i : Nat) (v : Value), (zmask bs lv)[i]? = some (some v) → lv[i]? = some (some v)
  | true :: bs, w :: vs, i, v, h => by
    match i with
    | 0 => exact h
    | i + 1 => exact zmask_at bs vs i v h
  | false :: bs, w :: vs, i, v, h => by
    match i with
    | 0 => simp [zmask] at h
    | i + 1 => exact zmask_at bs vs i v h
  | [], lv, i, v, h => by simp [zmask] at h
  | true :: bs, [], i, v, h => by simp [zmask] at h
  | false :: bs, [], i, v, h => by simp [zmask] at h
theorem zx_weak (bs : List Bool) (hm : zmask bs lv = lv2) (kk : zX g K d E ρ μ pc lv2 st) : zX g K d E ρ μ pc lv st := by
  obtain ⟨p, l, e, R, s, m, args, below, meth, c⟩ := E
  intro H locs ls hP hS hl
  exact kk H locs ls hP hS ⟨hl.1, hl.2.1, fun i v h => hl.2.2 i v (zmask_at bs lv i v (hm ▸ h))⟩
theorem zlt_of {α : Type} {v : α} {k : α → Option β} (h : zlt v k = some rr) : k v = some rr := h
theorem zx_sw {dflt lo hi off : Int} {offs : Array Int} {len tgt : Nat} {x c : Int32} (G : zGa g K d E) (dg : decode K.2.1 pc = .ok (.tableswitch dflt lo hi offs, len)) (hxc : x = c) (h1 : ¬ c.toInt < lo) (h2 : ¬ hi < c.toInt) (ho : offs[(c.toInt - lo).toNat]? = some off) (ht : (pc : Int) + off = (tgt : Int)) (kk : zX g K d E ρ μ tgt lv st) : zX g K d E ρ μ pc lv (.int x :: st) := by
  subst hxc
  exact zx_swIn G dg h1 h2 ho ht kk
abbrev zcp (sp dp n : Int32) (n0 n1 : Nat) : Prop := ¬ sp < 0 ∧ ¬ dp < 0 ∧ ¬ n < 0 ∧ sp.toNatClampNeg + n.toNatClampNeg ≤ n0 ∧ dp.toNatClampNeg + n.toNatClampNeg ≤ n1
theorem zx_copyI {idx k0 i0 k1 i1 : Nat} {sp dp n : Int32} {kap : ZMem → Option β} (G : zGa g K d E) (dg : decode K.2.1 pc = .ok (.invokestatic idx, 3)) (hw : Cond.methodLink K.1.cls idx arraycopyName ∈ tb) (hw2 : Cond.native arraycopyName ∈ tb) (hw3 : Cond.static arraycopyName ∈ tb) (hw4 : Cond.initialized "java/lang/System" ∈ tb) (ha0 : zaI k0) (ha1 : zaI k1) (h0 : (k0, i0) ∈ zids) (h1 : (k1, i1) ∈ zids) (hd : 1 ≤ d) (hc : (st.map fun v => v.category).sum ≤ 8) (h : zchk (zcp sp dp n (zlen k0 i0) (zlen k1 i1)) (zlt (zputI μ k1 i1 (va_cpy (μ.1 k0 i0) (μ.1 k1 i1) sp.toNatClampNeg dp.toNatClampNeg n.toNatClampNeg)) kap) = some rr) (kk : ∀ μ2, kap μ2 = some rr → zX g K d E ρ μ2 (pc + 3) lv st) : zX g K d E ρ μ pc lv (.int n :: .int dp :: .ref (g.2.1 k1 i1) :: .int sp :: .ref (g.2.1 k0 i0) :: st) := by
  obtain ⟨p, l, e, R, s, m, args, below, meth, c⟩ := E
  obtain ⟨hx, hb, hml, hown, hts, hr, hlk, hR, hF⟩ := G
  intro H locs ls hP hS hl
  obtain ⟨⟨c1, c2, c3, c4, c5⟩, h2⟩ := zchk_of h
  obtain ⟨q0, -, hq0⟩ := zws_at g μ h0
  obtain ⟨q1, e1, hq1⟩ := zws_at g μ h1
  rw [ha0 g (μ.1 k0 i0) (μ.2 k0 i0) i0] at hq0
  rw [ha1 g (μ.1 k1 i1) (μ.2 k1 i1) i1] at hq1
  subst hR
  refine va_copyi hx hb (by rw [hml, hl.1]) hown (hts _ hw) (hts _ hw2) (hts _ hw3) (hts _ hw4) hF.2.1 hP (zws_D hF.1 μ) hS q0 q1 0 0 hq0 hq1 rfl rfl rfl c1 c2 c3 c4 c5 (fun _ _ => rfl) hd (by show _ + (7 + 11) ≤ 40 * d; omega) dg (fun H1 locs1 hP1 _ hS1 => ?_)
  rw [← ha1 g (va_cpy (μ.1 k0 i0) (μ.1 k1 i1) sp.toNatClampNeg dp.toNatClampNeg n.toNatClampNeg) (μ.2 k1 i1) i1, zput_setI e1] at hP1
  exact kk _ h2 H1 locs1 ls hP1 hS1 hl
theorem zx_copyJ {idx k0 i0 k1 i1 : Nat} {sp dp n : Int32} {kap : ZMem → Option β} (G : zGa g K d E) (dg : decode K.2.1 pc = .ok (.invokestatic idx, 3)) (hw : Cond.methodLink K.1.cls idx arraycopyName ∈ tb) (hw2 : Cond.native arraycopyName ∈ tb) (hw3 : Cond.static arraycopyName ∈ tb) (hw4 : Cond.initialized "java/lang/System" ∈ tb) (ha0 : zaJ k0) (ha1 : zaJ k1) (h0 : (k0, i0) ∈ zids) (h1 : (k1, i1) ∈ zids) (hd : 1 ≤ d) (hc : (st.map fun v => v.category).sum ≤ 8) (h : zchk (zcp sp dp n (zlen k0 i0) (zlen k1 i1)) (zlt (zputJ μ k1 i1 (va_cpy (μ.2 k0 i0) (μ.2 k1 i1) sp.toNatClampNeg dp.toNatClampNeg n.toNatClampNeg)) kap) = some rr) (kk : ∀ μ2, kap μ2 = some rr → zX g K d E ρ μ2 (pc + 3) lv st) : zX g K d E ρ μ pc lv (.int n :: .int dp :: .ref (g.2.1 k1 i1) :: .int sp :: .ref (g.2.1 k0 i0) :: st) := by
  obtain ⟨p, l, e, R, s, m, args, below, meth, c⟩ := E
  obtain ⟨hx, hb, hml, hown, hts, hr, hlk, hR, hF⟩ := G
  intro H locs ls hP hS hl
  obtain ⟨⟨c1, c2, c3, c4, c5⟩, h2⟩ := zchk_of h
  obtain ⟨q0, -, hq0⟩ := zws_at g μ h0
  obtain ⟨q1, e1, hq1⟩ := zws_at g μ h1
  rw [ha0 g (μ.1 k0 i0) (μ.2 k0 i0) i0] at hq0
  rw [ha1 g (μ.1 k1 i1) (μ.2 k1 i1) i1] at hq1
  subst hR
  refine va_copyl hx hb (by rw [hml, hl.1]) hown (hts _ hw) (hts _ hw2) (hts _ hw3) (hts _ hw4) hF.2.1 hP (zws_D hF.1 μ) hS q0 q1 1 1 hq0 hq1 rfl rfl rfl c1 c2 c3 c4 c5 (fun _ _ => rfl) hd (by show _ + (7 + 11) ≤ 40 * d; omega) dg (fun H1 locs1 hP1 _ hS1 => ?_)
  rw [← ha1 g (μ.1 k1 i1) (va_cpy (μ.2 k0 i0) (μ.2 k1 i1) sp.toNatClampNeg dp.toNatClampNeg n.toNatClampNeg) i1, zput_setJ e1] at hP1
  exact kk _ h2 H1 locs1 ls hP1 hS1 hl
def zmaxI (x y : Int32) : Int32 := if x < y then y else x
def zminI (x y : Int32) : Int32 := if y < x then y else x
def zabsJ (x : Int64) : Int64 := if 0 < x then x else -x
theorem zx_mmax {idx : Nat} {x y : Int32} (G : zGa g K d E) (dg : decode K.2.1 pc = .ok (.invokestatic idx, 3)) (hw : Cond.methodLink K.1.cls idx Lib.Math.max.name ∈ tb) (hw2 : Cond.static Lib.Math.max.name ∈ tb) (hw3 : Cond.initialized "java/lang/Math" ∈ tb) (hw4 : Cond.code Lib.Math.max.name Lib.Math.max.code 2 (some .int) ∈ tb) (hd : 1 ≤ d) (hc : (st.map fun v => v.category).sum ≤ 8) (k : zX g K d E ρ μ (pc + 3) lv (.int (zmaxI x y) :: st)) : zX g K d E ρ μ pc lv (.int y :: .int x :: st) := by
  obtain ⟨p, l, e, R, s, m, args, below, meth, c⟩ := E
  obtain ⟨hx, hb, hml, hown, hts, hr, hlk, hR, hF⟩ := G
  intro H locs ls hP hS hl
  subst hR
  exact va_mmax hx hb (by rw [hml, hl.1]) hown (hts _ hw) (hts _ hw2) (hts _ hw3) (hts _ hw4) hd (by show _ + 13 ≤ 40 * d; omega) (Nat.le_refl _) (Nat.le_refl _) dg (k H locs ls hP hS hl)
theorem zx_mmin {idx : Nat} {x y : Int32} (G : zGa g K d E) (dg : decode K.2.1 pc = .ok (.invokestatic idx, 3)) (hw : Cond.methodLink K.1.cls idx Lib.Math.min.name ∈ tb) (hw2 : Cond.static Lib.Math.min.name ∈ tb) (hw3 : Cond.initialized "java/lang/Math" ∈ tb) (hw4 : Cond.code Lib.Math.min.name Lib.Math.min.code 2 (some .int) ∈ tb) (hd : 1 ≤ d) (hc : (st.map fun v => v.category).sum ≤ 8) (k : zX g K d E ρ μ (pc + 3) lv (.int (zminI x y) :: st)) : zX g K d E ρ μ pc lv (.int y :: .int x :: st) := by
  obtain ⟨p, l, e, R, s, m, args, below, meth, c⟩ := E
  obtain ⟨hx, hb, hml, hown, hts, hr, hlk, hR, hF⟩ := G
  intro H locs ls hP hS hl
  subst hR
  exact va_mmin hx hb (by rw [hml, hl.1]) hown (hts _ hw) (hts _ hw2) (hts _ hw3) (hts _ hw4) hd (by show _ + 13 ≤ 40 * d; omega) (Nat.le_refl _) (Nat.le_refl _) dg (k H locs ls hP hS hl)
theorem zx_mabs {idx : Nat} {x : Int64} (G : zGa g K d E) (dg : decode K.2.1 pc = .ok (.invokestatic idx, 3)) (hw : Cond.methodLink K.1.cls idx Lib.MathLoose.abs_long.x ∈ tb) (hw2 : Cond.static Lib.MathLoose.abs_long.x ∈ tb) (hw3 : Cond.initialized "java/lang/Math" ∈ tb) (hw4 : Cond.code Lib.MathLoose.abs_long.x Lib.MathLoose.abs_long.code 2 (some .long) ∈ tb) (hd : 1 ≤ d) (hc : (st.map fun v => v.category).sum ≤ 8) (k : zX g K d E ρ μ (pc + 3) lv (.long (zabsJ x) :: st)) : zX g K d E ρ μ pc lv (.long x :: st) := by
  obtain ⟨p, l, e, R, s, m, args, below, meth, c⟩ := E
  obtain ⟨hx, hb, hml, hown, hts, hr, hlk, hR, hF⟩ := G
  intro H locs ls hP hS hl
  subst hR
  exact va_mabs_long hx hb (by rw [hml, hl.1]) hown (hts _ hw) (hts _ hw2) (hts _ hw3) (hts _ hw4) hd (by show _ + 13 ≤ 40 * d; omega) (Nat.le_refl _) (Nat.le_refl _) dg (k H locs ls hP hS hl)
end ZR4
theorem zids_lt : ∀ q ∈ zids, q.1 < 60 ∧ q.2 < zni q.1 := by decide +kernel
theorem zmv {k k2 : Nat} {f : Nat → Nat} (h : ∀ i, i < zni k → (k2, f i) ∈ zids) {i : Nat} (hi : (k, i) ∈ zids) : (k2, f i) ∈ zids := h i (zids_lt _ hi).2
theorem zidt {i : Nat} (h : i < 4) : (3, i) ∈ zids := zids_of 3 (by decide) i h
theorem zidl {i : Nat} (h : i < 6) : (38, i) ∈ zids := zids_of 38 (by decide) i h
theorem zin_lt {j : Int32} {n : Nat} (h : zin j n) : j.toNatClampNeg < n := Nat.not_le.mp fun q => h (Or.inr q)
