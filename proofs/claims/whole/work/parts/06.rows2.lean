/-! rows of fields, arrays, calls, ends (by hand) -/
theorem zlay {k : Nat} {C : String} {T : u_T} {N : Nat} (h : zcls[k]? = some (C, T, N)) : (∀ w ∈ u_ws C T N, w ∈ tb) ∧ ∃ ty : Nat → FieldType, (∀ j, j < N → parseFieldDescriptor (T j).2.2.1 = some (ty j)) ∧ (∀ a, a < N → ∀ b, b < N → a ≠ b → (T a).2.1 ≠ (T b).2.1) := by
  match k, h with
  | 0, h => cases h; exact ⟨zL0, zY0, zO0, zN0⟩
  | 1, h => cases h; exact ⟨zL1, zY1, zO1, zN1⟩
  | 2, h => cases h; exact ⟨zL2, zY2, zO2, zN2⟩
  | 3, h => cases h; exact ⟨zL3, zY3, zO3, zN3⟩
  | 4, h => cases h; exact ⟨zL4, zY4, zO4, zN4⟩
  | 5, h => cases h; exact ⟨zL5, zY5, zO5, zN5⟩
  | 6, h => cases h; exact ⟨zL6, zY6, zO6, zN6⟩
  | 7, h => cases h; exact ⟨zL7, zY7, zO7, zN7⟩
  | 8, h => cases h; exact ⟨zL8, zY8, zO8, zN8⟩
  | 9, h => cases h; exact ⟨zL9, zY9, zO9, zN9⟩
  | 10, h => cases h; exact ⟨zL10, zY10, zO10, zN10⟩
  | 11, h => cases h; exact ⟨zL11, zY11, zO11, zN11⟩
  | 12, h => cases h; exact ⟨zL12, zY12, zO12, zN12⟩
  | k + 13, h => simp at h
def zlk (own : String) (idx k x : Nat) : Prop := ∃ (C : String) (T : u_T) (N : Nat), zcls[k]? = some (C, T, N) ∧ x < N ∧ Cond.fieldLink own idx (T x).1 (T x).2.1 (T x).2.2.1 ∈ tb
def zlkP (own : String) (idx k x : Nat) (ty : FieldType) : Prop := ∃ (C : String) (T : u_T) (N : Nat), zcls[k]? = some (C, T, N) ∧ x < N ∧ Cond.fieldLink own idx (T x).1 (T x).2.1 (T x).2.2.1 ∈ tb ∧ (T x).2.2.2 = false ∧ parseFieldDescriptor (T x).2.2.1 = some ty
def zcI (k x : Nat) : Prop := ∀ (g : ZG) (a : Nat → Int32) (b : Nat → Int64) (i : Nat), ∃ fs, zcel g a b k i = .inr (k, fs) ∧ fs[x]? = some (.int (a x))
def zcJ (k x : Nat) : Prop := ∀ (g : ZG) (a : Nat → Int32) (b : Nat → Int64) (i : Nat), ∃ fs, zcel g a b k i = .inr (k, fs) ∧ fs[x]? = some (.long (b x))
def zcR (k x k2 : Nat) (f : Nat → Nat) : Prop := ∀ (g : ZG) (a : Nat → Int32) (b : Nat → Int64) (i : Nat), ∃ fs, zcel g a b k i = .inr (k, fs) ∧ fs[x]? = some (.ref (g.2.1 k2 (f i)))
def zpI (k x : Nat) : Prop := ∀ (g : ZG) (a : Nat → Int32) (b : Nat → Int64) (i : Nat) (v : Int32), ∃ fs, zcel g a b k i = .inr (k, fs) ∧ x < fs.length ∧ zcel g (upd a x v) b k i = .inr (k, fs.set x (.int v))
def zpJ (k x : Nat) : Prop := ∀ (g : ZG) (a : Nat → Int32) (b : Nat → Int64) (i : Nat) (v : Int64), ∃ fs, zcel g a b k i = .inr (k, fs) ∧ x < fs.length ∧ zcel g a (vp_updL b x v) k i = .inr (k, fs.set x (.long v))
def zaI (k : Nat) : Prop := ∀ (g : ZG) (a : Nat → Int32) (b : Nat → Int64) (i : Nat), zcel g a b k i = .inl (g.2.2 0, zlen k i, .inl a)
def zaJ (k : Nat) : Prop := ∀ (g : ZG) (a : Nat → Int32) (b : Nat → Int64) (i : Nat), zcel g a b k i = .inl (g.2.2 1, zlen k i, .inr (.inl b))
def zaB (k : Nat) : Prop := ∀ (g : ZG) (a : Nat → Int32) (b : Nat → Int64) (i : Nat), zcel g a b k i = .inl (g.2.2 2, zlen k i, .inl a)
def zaZ (k : Nat) : Prop := ∀ (g : ZG) (a : Nat → Int32) (b : Nat → Int64) (i : Nat), zcel g a b k i = .inl (g.2.2 3, zlen k i, .inl a)
abbrev zin (j : Int32) (n : Nat) : Prop := ¬ (j < 0 ∨ n ≤ j.toNatClampNeg)
def zMV (own : String) (idx : Nat) (K2 : ZK) (n : Nat) : Prop := (Cond.methodLink own idx K2.1 ∈ tb ∨ ∃ host, Cond.methodLinkNest own idx K2.1 host ∈ znest) ∧ Cond.instanceMethod K2.1 ∈ tb ∧ Cond.selects K2.1.cls K2.1 K2.1 ∈ tb ∧ Cond.initialized K2.1.cls ∈ tb ∧ Cond.code K2.1 K2.2.1 K2.2.2.1 K2.2.2.2 ∈ tb ∧ K2.2.2.1 ≤ 21 ∧ K2.1.cls ≠ "java/lang/invoke/MethodHandle" ∧ K2.1.cls ≠ "java/lang/invoke/VarHandle" ∧ (parseMethodDescriptor K2.1.desc).map (fun d => d.parameters.length) = some n
def zMS (own : String) (idx : Nat) (K2 : ZK) (n : Nat) : Prop := (Cond.methodLink own idx K2.1 ∈ tb ∨ ∃ host, Cond.methodLinkNest own idx K2.1 host ∈ znest) ∧ Cond.static K2.1 ∈ tb ∧ Cond.initialized K2.1.cls ∈ tb ∧ Cond.code K2.1 K2.2.1 K2.2.2.1 K2.2.2.2 ∈ tb ∧ K2.2.2.1 ≤ 21 ∧ K2.1.cls ≠ "java/lang/invoke/MethodHandle" ∧ K2.1.cls ≠ "java/lang/invoke/VarHandle" ∧ (parseMethodDescriptor K2.1.desc).map (fun d => d.parameters.length) = some n
theorem zFX_warm {g : ZG} {s U : State} {H : Heap} {locs : List Loc} (hW : s.WarmedH U.vm) (hU : U.heap = H) (hS : va_S (zA g) s.heap H locs) (h : zFX g s) : zFX g U := by
  obtain ⟨h1, h2, h3, h4, h5⟩ := h
  refine ⟨h1, va_K.moved hW.alike h2, h3.warm hW, fun i hi => (h4 i hi).warm hW, ?_⟩
  rw [hU]
  exact (h5.kept (fun a ha hn => hS.2.1 a ha hn)).moved hW.alike
theorem zWO_blind (g : ZG) (μ : ZMem) (as : List Value) : FrameBlind (va_Pc as (zWO g μ)) := by
  intro a U gg mk h
  obtain ⟨h0, hP, h1, h2, h3, h4, h5⟩ := h
  exact ⟨h0, hP, h1, va_K.moved (u := U) (U := U.calling gg mk a) (Vm.Alike.refl U.vm) h2, zNW.same (s := U) (U := U.calling gg mk a) rfl h3, fun i hi => vk_R.same (u := U) (U := U.calling gg mk a) rfl (h4 i hi), zST.moved (u := U) (U := U.calling gg mk a) (Vm.Alike.refl U.vm) h5⟩
section ZR2
variable {g : ZG} {K : ZK} {d : Nat} {E : ZE} {ρ : ZR} {μ : ZMem} {pc : Nat} {lv lv2 : List (Option Value)} {st : List Value} {β : Type} {rr : β}
theorem zx_getI {k i x idx : Nat} (G : zGa g K d E) (dg : decode K.2.1 pc = .ok (.getfield idx, 3)) (hk : zlk K.1.cls idx k x) (hc : zcI k x) (hi : (k, i) ∈ zids) (kk : zX g K d E ρ μ (pc + 3) lv (.int (μ.1 k i x) :: st)) : zX g K d E ρ μ pc lv (.ref (g.2.1 k i) :: st) := by
  obtain ⟨p, l, e, R, s, m, args, below, meth, c⟩ := E
  obtain ⟨hx, hb, hml, hown, hts, hr, hlk, hR, hF⟩ := G
  intro H locs ls hP hS hl
  obtain ⟨C, T, N, h1, h2, h3⟩ := hk
  obtain ⟨q0, -, hq⟩ := zws_at g μ hi
  obtain ⟨fs, e1, e2⟩ := hc g (μ.1 k i) (μ.2 k i) i
  rw [e1] at hq
  exact va_get hx hb hts (zlay h1).1 hown hF.2.1 hP q0 hq h1 x h2 (hts _ h3) (fun _ h9 => h9) e2 dg (kk H locs ls hP hS hl)
theorem zx_getJ {k i x idx : Nat} (G : zGa g K d E) (dg : decode K.2.1 pc = .ok (.getfield idx, 3)) (hk : zlk K.1.cls idx k x) (hc : zcJ k x) (hi : (k, i) ∈ zids) (kk : zX g K d E ρ μ (pc + 3) lv (.long (μ.2 k i x) :: st)) : zX g K d E ρ μ pc lv (.ref (g.2.1 k i) :: st) := by
  obtain ⟨p, l, e, R, s, m, args, below, meth, c⟩ := E
  obtain ⟨hx, hb, hml, hown, hts, hr, hlk, hR, hF⟩ := G
  intro H locs ls hP hS hl
  obtain ⟨C, T, N, h1, h2, h3⟩ := hk
  obtain ⟨q0, -, hq⟩ := zws_at g μ hi
  obtain ⟨fs, e1, e2⟩ := hc g (μ.1 k i) (μ.2 k i) i
  rw [e1] at hq
  exact va_get hx hb hts (zlay h1).1 hown hF.2.1 hP q0 hq h1 x h2 (hts _ h3) (fun _ h9 => h9) e2 dg (kk H locs ls hP hS hl)
theorem zx_getR {k i x idx k2 : Nat} {f : Nat → Nat} (G : zGa g K d E) (dg : decode K.2.1 pc = .ok (.getfield idx, 3)) (hk : zlk K.1.cls idx k x) (hc : zcR k x k2 f) (hi : (k, i) ∈ zids) (kk : zX g K d E ρ μ (pc + 3) lv (.ref (g.2.1 k2 (f i)) :: st)) : zX g K d E ρ μ pc lv (.ref (g.2.1 k i) :: st) := by
  obtain ⟨p, l, e, R, s, m, args, below, meth, c⟩ := E
  obtain ⟨hx, hb, hml, hown, hts, hr, hlk, hR, hF⟩ := G
  intro H locs ls hP hS hl
  obtain ⟨C, T, N, h1, h2, h3⟩ := hk
  obtain ⟨q0, -, hq⟩ := zws_at g μ hi
  obtain ⟨fs, e1, e2⟩ := hc g (μ.1 k i) (μ.2 k i) i
  rw [e1] at hq
  exact va_get hx hb hts (zlay h1).1 hown hF.2.1 hP q0 hq h1 x h2 (hts _ h3) (fun _ h9 => h9) e2 dg (kk H locs ls hP hS hl)
theorem zx_putI {k i x idx : Nat} {v : Int32} {kap : ZMem → Option β} (G : zGa g K d E) (dg : decode K.2.1 pc = .ok (.putfield idx, 3)) (hk : zlkP K.1.cls idx k x .int) (hc : zpI k x) (hi : (k, i) ∈ zids) (h : zlt (zsetI μ k i x v) kap = some rr) (kk : ∀ μ2, kap μ2 = some rr → zX g K d E ρ μ2 (pc + 3) lv st) : zX g K d E ρ μ pc lv (.int v :: .ref (g.2.1 k i) :: st) := by
  obtain ⟨p, l, e, R, s, m, args, below, meth, c⟩ := E
  obtain ⟨hx, hb, hml, hown, hts, hr, hlk, hR, hF⟩ := G
  intro H locs ls hP hS hl
  obtain ⟨C, T, N, h1, h2, h3, h4, h5⟩ := hk
  obtain ⟨hL, ty, hO, hN⟩ := zlay h1
  obtain ⟨q0, h0, hq⟩ := zws_at g μ hi
  obtain ⟨fs, e1, e2, e3⟩ := hc g (μ.1 k i) (μ.2 k i) i v
  rw [e1] at hq
  refine va_put hx hb hts hL ty hO hN hown hF.2.1 hP (zws_D hF.1 μ) hS q0 hq h1 x h2 (hts _ h3) (fun _ h9 => h9) h4 h5 rfl rfl e2 dg (fun H1 locs1 hP1 _ hS1 => ?_)
  rw [← e3, zput_setI h0, ← zsetI_put] at hP1
  exact kk _ h H1 locs1 ls hP1 hS1 hl
theorem zx_putJ {k i x idx : Nat} {v : Int64} {kap : ZMem → Option β} (G : zGa g K d E) (dg : decode K.2.1 pc = .ok (.putfield idx, 3)) (hk : zlkP K.1.cls idx k x .long) (hc : zpJ k x) (hi : (k, i) ∈ zids) (h : zlt (zsetJ μ k i x v) kap = some rr) (kk : ∀ μ2, kap μ2 = some rr → zX g K d E ρ μ2 (pc + 3) lv st) : zX g K d E ρ μ pc lv (.long v :: .ref (g.2.1 k i) :: st) := by
  obtain ⟨p, l, e, R, s, m, args, below, meth, c⟩ := E
  obtain ⟨hx, hb, hml, hown, hts, hr, hlk, hR, hF⟩ := G
  intro H locs ls hP hS hl
  obtain ⟨C, T, N, h1, h2, h3, h4, h5⟩ := hk
  obtain ⟨hL, ty, hO, hN⟩ := zlay h1
  obtain ⟨q0, h0, hq⟩ := zws_at g μ hi
  obtain ⟨fs, e1, e2, e3⟩ := hc g (μ.1 k i) (μ.2 k i) i v
  rw [e1] at hq
  refine va_put hx hb hts hL ty hO hN hown hF.2.1 hP (zws_D hF.1 μ) hS q0 hq h1 x h2 (hts _ h3) (fun _ h9 => h9) h4 h5 rfl rfl e2 dg (fun H1 locs1 hP1 _ hS1 => ?_)
  rw [← e3, zput_setJ h0, ← zsetJ_put] at hP1
  exact kk _ h H1 locs1 ls hP1 hS1 hl
theorem zx_iald {k i : Nat} {j : Int32} {kap : Option β} (G : zGa g K d E) (dg : decode K.2.1 pc = .ok (.iaload, 1)) (ha : zaI k) (hi : (k, i) ∈ zids) (h : zchk (zin j (zlen k i)) kap = some rr) (kk : kap = some rr → zX g K d E ρ μ (pc + 1) lv (.int (μ.1 k i j.toNatClampNeg) :: st)) : zX g K d E ρ μ pc lv (.int j :: .ref (g.2.1 k i) :: st) := by
  obtain ⟨p, l, e, R, s, m, args, below, meth, c⟩ := E
  obtain ⟨hx, hb, hml, hown, hts, hr, hlk, hR, hF⟩ := G
  intro H locs ls hP hS hl
  obtain ⟨hin, h2⟩ := zchk_of h
  obtain ⟨q0, -, hq⟩ := zws_at g μ hi
  rw [ha g (μ.1 k i) (μ.2 k i) i] at hq
  exact va_iald hx hb hF.2.1 hP q0 0 hq rfl hin dg (kk h2 H locs ls hP hS hl)
theorem zx_bald {k i : Nat} {j : Int32} {kap : Option β} (G : zGa g K d E) (dg : decode K.2.1 pc = .ok (.baload, 1)) (ha : zaB k) (hi : (k, i) ∈ zids) (h : zchk (zin j (zlen k i)) kap = some rr) (kk : kap = some rr → zX g K d E ρ μ (pc + 1) lv (.int (μ.1 k i j.toNatClampNeg) :: st)) : zX g K d E ρ μ pc lv (.int j :: .ref (g.2.1 k i) :: st) := by
  obtain ⟨p, l, e, R, s, m, args, below, meth, c⟩ := E
  obtain ⟨hx, hb, hml, hown, hts, hr, hlk, hR, hF⟩ := G
  intro H locs ls hP hS hl
  obtain ⟨hin, h2⟩ := zchk_of h
  obtain ⟨q0, -, hq⟩ := zws_at g μ hi
  rw [ha g (μ.1 k i) (μ.2 k i) i] at hq
  exact va_bald hx hb hF.2.1 hP q0 2 hq rfl hin dg (kk h2 H locs ls hP hS hl)
theorem zx_zald {k i : Nat} {j : Int32} {kap : Option β} (G : zGa g K d E) (dg : decode K.2.1 pc = .ok (.baload, 1)) (ha : zaZ k) (hi : (k, i) ∈ zids) (h : zchk (zin j (zlen k i)) kap = some rr) (kk : kap = some rr → zX g K d E ρ μ (pc + 1) lv (.int (μ.1 k i j.toNatClampNeg) :: st)) : zX g K d E ρ μ pc lv (.int j :: .ref (g.2.1 k i) :: st) := by
  obtain ⟨p, l, e, R, s, m, args, below, meth, c⟩ := E
  obtain ⟨hx, hb, hml, hown, hts, hr, hlk, hR, hF⟩ := G
  intro H locs ls hP hS hl
  obtain ⟨hin, h2⟩ := zchk_of h
  obtain ⟨q0, -, hq⟩ := zws_at g μ hi
  rw [ha g (μ.1 k i) (μ.2 k i) i] at hq
  exact va_zald hx hb hF.2.1 hP q0 3 hq rfl hin dg (kk h2 H locs ls hP hS hl)
theorem zx_lald {k i : Nat} {j : Int32} {kap : Option β} (G : zGa g K d E) (dg : decode K.2.1 pc = .ok (.laload, 1)) (ha : zaJ k) (hi : (k, i) ∈ zids) (h : zchk (zin j (zlen k i)) kap = some rr) (kk : kap = some rr → zX g K d E ρ μ (pc + 1) lv (.long (μ.2 k i j.toNatClampNeg) :: st)) : zX g K d E ρ μ pc lv (.int j :: .ref (g.2.1 k i) :: st) := by
  obtain ⟨p, l, e, R, s, m, args, below, meth, c⟩ := E
  obtain ⟨hx, hb, hml, hown, hts, hr, hlk, hR, hF⟩ := G
  intro H locs ls hP hS hl
  obtain ⟨hin, h2⟩ := zchk_of h
  obtain ⟨q0, -, hq⟩ := zws_at g μ hi
  rw [ha g (μ.1 k i) (μ.2 k i) i] at hq
  exact va_lald hx hb hF.2.1 hP q0 1 hq rfl hin dg (kk h2 H locs ls hP hS hl)
theorem zx_iast {k i : Nat} {j x : Int32} {kap : ZMem → Option β} (G : zGa g K d E) (dg : decode K.2.1 pc = .ok (.iastore, 1)) (ha : zaI k) (hi : (k, i) ∈ zids) (h : zchk (zin j (zlen k i)) (zlt (zsetI μ k i j.toNatClampNeg x) kap) = some rr) (kk : ∀ μ2, kap μ2 = some rr → zX g K d E ρ μ2 (pc + 1) lv st) : zX g K d E ρ μ pc lv (.int x :: .int j :: .ref (g.2.1 k i) :: st) := by
  obtain ⟨p, l, e, R, s, m, args, below, meth, c⟩ := E
  obtain ⟨hx, hb, hml, hown, hts, hr, hlk, hR, hF⟩ := G
  intro H locs ls hP hS hl
  obtain ⟨hin, h2⟩ := zchk_of h
  obtain ⟨q0, h0, hq⟩ := zws_at g μ hi
  rw [ha g (μ.1 k i) (μ.2 k i) i] at hq
  refine va_iast hx hb hF.2.1 hP (zws_D hF.1 μ) hS q0 0 hq rfl hin dg (fun H1 locs1 hP1 _ hS1 => ?_)
  rw [← ha g (upd (μ.1 k i) j.toNatClampNeg x) (μ.2 k i) i, zput_setI h0, ← zsetI_put] at hP1
  exact kk _ h2 H1 locs1 ls hP1 hS1 hl
theorem zx_bast {k i : Nat} {j x : Int32} {kap : ZMem → Option β} (G : zGa g K d E) (dg : decode K.2.1 pc = .ok (.bastore, 1)) (ha : zaB k) (hi : (k, i) ∈ zids) (h : zchk (zin j (zlen k i)) (zlt (zsetI μ k i j.toNatClampNeg (vp_nar .byte x)) kap) = some rr) (kk : ∀ μ2, kap μ2 = some rr → zX g K d E ρ μ2 (pc + 1) lv st) : zX g K d E ρ μ pc lv (.int x :: .int j :: .ref (g.2.1 k i) :: st) := by
  obtain ⟨p, l, e, R, s, m, args, below, meth, c⟩ := E
  obtain ⟨hx, hb, hml, hown, hts, hr, hlk, hR, hF⟩ := G
  intro H locs ls hP hS hl
  obtain ⟨hin, h2⟩ := zchk_of h
  obtain ⟨q0, h0, hq⟩ := zws_at g μ hi
  rw [ha g (μ.1 k i) (μ.2 k i) i] at hq
  refine va_bast hx hb hF.2.1 hP (zws_D hF.1 μ) hS q0 2 hq rfl hin dg (fun H1 locs1 hP1 _ hS1 => ?_)
  rw [← ha g (upd (μ.1 k i) j.toNatClampNeg (vp_nar .byte x)) (μ.2 k i) i, zput_setI h0, ← zsetI_put] at hP1
  exact kk _ h2 H1 locs1 ls hP1 hS1 hl
theorem zx_zast {k i : Nat} {j x : Int32} {kap : ZMem → Option β} (G : zGa g K d E) (dg : decode K.2.1 pc = .ok (.bastore, 1)) (ha : zaZ k) (hi : (k, i) ∈ zids) (h : zchk (zin j (zlen k i)) (zlt (zsetI μ k i j.toNatClampNeg (vp_nar .boolean x)) kap) = some rr) (kk : ∀ μ2, kap μ2 = some rr → zX g K d E ρ μ2 (pc + 1) lv st) : zX g K d E ρ μ pc lv (.int x :: .int j :: .ref (g.2.1 k i) :: st) := by
  obtain ⟨p, l, e, R, s, m, args, below, meth, c⟩ := E
  obtain ⟨hx, hb, hml, hown, hts, hr, hlk, hR, hF⟩ := G
  intro H locs ls hP hS hl
  obtain ⟨hin, h2⟩ := zchk_of h
  obtain ⟨q0, h0, hq⟩ := zws_at g μ hi
  rw [ha g (μ.1 k i) (μ.2 k i) i] at hq
  refine va_zast hx hb hF.2.1 hP (zws_D hF.1 μ) hS q0 3 hq rfl hin dg (fun H1 locs1 hP1 _ hS1 => ?_)
  rw [← ha g (upd (μ.1 k i) j.toNatClampNeg (vp_nar .boolean x)) (μ.2 k i) i, zput_setI h0, ← zsetI_put] at hP1
  exact kk _ h2 H1 locs1 ls hP1 hS1 hl
theorem zx_last {k i : Nat} {j : Int32} {x : Int64} {kap : ZMem → Option β} (G : zGa g K d E) (dg : decode K.2.1 pc = .ok (.lastore, 1)) (ha : zaJ k) (hi : (k, i) ∈ zids) (h : zchk (zin j (zlen k i)) (zlt (zsetJ μ k i j.toNatClampNeg x) kap) = some rr) (kk : ∀ μ2, kap μ2 = some rr → zX g K d E ρ μ2 (pc + 1) lv st) : zX g K d E ρ μ pc lv (.long x :: .int j :: .ref (g.2.1 k i) :: st) := by
  obtain ⟨p, l, e, R, s, m, args, below, meth, c⟩ := E
  obtain ⟨hx, hb, hml, hown, hts, hr, hlk, hR, hF⟩ := G
  intro H locs ls hP hS hl
  obtain ⟨hin, h2⟩ := zchk_of h
  obtain ⟨q0, h0, hq⟩ := zws_at g μ hi
  rw [ha g (μ.1 k i) (μ.2 k i) i] at hq
  refine va_last hx hb hF.2.1 hP (zws_D hF.1 μ) hS q0 1 hq rfl hin dg (fun H1 locs1 hP1 _ hS1 => ?_)
  rw [← ha g (μ.1 k i) (vp_updL (μ.2 k i) j.toNatClampNeg x) i, zput_setJ h0, ← zsetJ_put] at hP1
  exact kk _ h2 H1 locs1 ls hP1 hS1 hl
theorem zx_alenI {k i : Nat} (G : zGa g K d E) (dg : decode K.2.1 pc = .ok (.arraylength, 1)) (ha : zaI k) (hi : (k, i) ∈ zids) (kk : zX g K d E ρ μ (pc + 1) lv (.int (nI (zlen k i)) :: st)) : zX g K d E ρ μ pc lv (.ref (g.2.1 k i) :: st) := by
  obtain ⟨p, l, e, R, s, m, args, below, meth, c⟩ := E
  obtain ⟨hx, hb, hml, hown, hts, hr, hlk, hR, hF⟩ := G
  intro H locs ls hP hS hl
  obtain ⟨q0, h0, hq⟩ := zws_at g μ hi
  rw [ha g (μ.1 k i) (μ.2 k i) i] at hq
  exact va_alen hx hb hF.2.1 hP q0 0 hq rfl rfl dg (kk H locs ls hP hS hl)
theorem zx_alenJ {k i : Nat} (G : zGa g K d E) (dg : decode K.2.1 pc = .ok (.arraylength, 1)) (ha : zaJ k) (hi : (k, i) ∈ zids) (kk : zX g K d E ρ μ (pc + 1) lv (.int (nI (zlen k i)) :: st)) : zX g K d E ρ μ pc lv (.ref (g.2.1 k i) :: st) := by
  obtain ⟨p, l, e, R, s, m, args, below, meth, c⟩ := E
  obtain ⟨hx, hb, hml, hown, hts, hr, hlk, hR, hF⟩ := G
  intro H locs ls hP hS hl
  obtain ⟨q0, h0, hq⟩ := zws_at g μ hi
  rw [ha g (μ.1 k i) (μ.2 k i) i] at hq
  exact va_alen hx hb hF.2.1 hP q0 1 hq rfl rfl dg (kk H locs ls hP hS hl)
theorem zx_aald21 {j : Int32} {kap : Option β} (G : zGa g K d E) (dg : decode K.2.1 pc = .ok (.aaload, 1)) (h : zchk (zin j 4) kap = some rr) (kk : zin j 4 → kap = some rr → zX g K d E ρ μ (pc + 1) lv (.ref (g.2.1 3 j.toNatClampNeg) :: st)) : zX g K d E ρ μ pc lv (.int j :: .ref (g.2.1 21 0) :: st) := by
  obtain ⟨p, l, e, R, s, m, args, below, meth, c⟩ := E
  obtain ⟨hx, hb, hml, hown, hts, hr, hlk, hR, hF⟩ := G
  intro H locs ls hP hS hl
  obtain ⟨hin, h2⟩ := zchk_of h
  obtain ⟨q0, -, hq⟩ := zws_at g μ (zids_of 21 (by decide) 0 (by decide))
  have hq : (zws g μ)[q0]? = some (g.2.1 21 0, .inl (g.2.2 4, 4, .inr (.inr (.inr (.inr (fun j => some (g.2.1 3 j))))))) := hq
  exact va_aldq hx hb hF.2.1 hP q0 4 hq rfl hin dg (kk hin h2 H locs ls hP hS hl)
theorem zx_aald37 {j : Int32} {kap : Option β} (G : zGa g K d E) (dg : decode K.2.1 pc = .ok (.aaload, 1)) (h : zchk (zin j 6) kap = some rr) (kk : zin j 6 → kap = some rr → zX g K d E ρ μ (pc + 1) lv (.ref (g.2.1 38 j.toNatClampNeg) :: st)) : zX g K d E ρ μ pc lv (.int j :: .ref (g.2.1 37 0) :: st) := by
  obtain ⟨p, l, e, R, s, m, args, below, meth, c⟩ := E
  obtain ⟨hx, hb, hml, hown, hts, hr, hlk, hR, hF⟩ := G
  intro H locs ls hP hS hl
  obtain ⟨hin, h2⟩ := zchk_of h
  obtain ⟨q0, -, hq⟩ := zws_at g μ (zids_of 37 (by decide) 0 (by decide))
  have hq : (zws g μ)[q0]? = some (g.2.1 37 0, .inl (g.2.2 5, 6, .inr (.inr (.inr (.inr (fun j => some (g.2.1 38 j))))))) := hq
  have hlt : j.toNatClampNeg < 6 := Nat.not_le.mp fun q => hin (Or.inr q)
  exact W.aald (v := va_rf (some (g.2.1 38 j.toNatClampNeg))) (ty := .array .long) hx hb (hP q0 _ hq) ((hF.2.1.2 5 _ rfl).1 6 (fun j => va_rf (some (g.2.1 38 j)))) rfl (fun q => by cases q) (by show ¬ (j < 0 ∨ (arrV _ _ _).slots.size ≤ _); rw [arrV_size]; exact hin) (by show (arrV _ _ _).slots[_]? = _; rw [arrV_read _ _ hlt]) rfl rfl dg (kk hin h2 H locs ls hP hS hl)
theorem zx_tens {idx : Nat} (G : zGa g K d E) (dg : decode K.2.1 pc = .ok (.getstatic idx, 3)) (hw : Cond.fieldLink K.1.cls idx "ThinkNumber" "TENS" "[J" ∈ tb ∨ ∃ host, Cond.fieldLinkNest K.1.cls idx "ThinkNumber" "TENS" "[J" host ∈ znest) (kk : zX g K d E ρ μ (pc + 3) lv (.ref (g.2.1 62 0) :: st)) : zX g K d E ρ μ pc lv st := by
  obtain ⟨p, l, e, R, s, m, args, below, meth, c⟩ := E
  obtain ⟨hx, hb, hml, hown, hts, hr, hlk, hR, hF⟩ := G
  intro H locs ls hP hS hl
  rcases hw with hw | ⟨host, hw⟩
  · exact va_gets hx hb hF.2.2.2.2.1 hS hown (hts _ hw) (fun _ h9 => h9) dg (kk H locs ls hP hS hl)
  · exact va_getsN hx hb hF.2.2.2.2.1 hS hown (va_Nw.use rfl (hF.2.2.1 _ hw)) (fun _ h9 => h9) dg (kk H locs ls hP hS hl)
theorem zx_tald {j : Int32} {kap : Option β} (G : zGa g K d E) (dg : decode K.2.1 pc = .ok (.laload, 1)) (h : zchk (zin j 14) kap = some rr) (kk : kap = some rr → zX g K d E ρ μ (pc + 1) lv (.long (ztens j.toNatClampNeg) :: st)) : zX g K d E ρ μ pc lv (.int j :: .ref (g.2.1 62 0) :: st) := by
  obtain ⟨p, l, e, R, s, m, args, below, meth, c⟩ := E
  obtain ⟨hx, hb, hml, hown, hts, hr, hlk, hR, hF⟩ := G
  intro H locs ls hP hS hl
  obtain ⟨hin, h2⟩ := zchk_of h
  exact va_tl hx hb hF.2.2.2.2.2.1 hS hin rfl dg (kk h2 H locs ls hP hS hl)
theorem zx_tlen (G : zGa g K d E) (dg : decode K.2.1 pc = .ok (.arraylength, 1)) (kk : zX g K d E ρ μ (pc + 1) lv (.int 14 :: st)) : zX g K d E ρ μ pc lv (.ref (g.2.1 62 0) :: st) := by
  obtain ⟨p, l, e, R, s, m, args, below, meth, c⟩ := E
  obtain ⟨hx, hb, hml, hown, hts, hr, hlk, hR, hF⟩ := G
  intro H locs ls hP hS hl
  exact va_tlen hx hb hF.2.2.2.2.2.1 hS rfl dg (kk H locs ls hP hS hl)
theorem zx_compact {idx : Nat} (G : zGa g K d E) (dg : decode K.2.1 pc = .ok (.getstatic idx, 3)) (hw : Cond.fieldLink K.1.cls idx "java/lang/String" "COMPACT_STRINGS" "Z" ∈ tb) (kk : zX g K d E ρ μ (pc + 3) lv (.int 1 :: st)) : zX g K d E ρ μ pc lv st := by
  obtain ⟨p, l, e, R, s, m, args, below, meth, c⟩ := E
  obtain ⟨hx, hb, hml, hown, hts, hr, hlk, hR, hF⟩ := G
  intro H locs ls hP hS hl
  exact va_gets hx hb hF.2.2.2.2.2.2.1 hS hown (hts _ hw) (fun _ h9 => h9) dg (kk H locs ls hP hS hl)
theorem zx_sioobe {idx : Nat} (G : zGa g K d E) (dg : decode K.2.1 pc = .ok (.getstatic idx, 3)) (hw : Cond.fieldLink K.1.cls idx "jdk/internal/util/Preconditions" "SIOOBE_FORMATTER" "Ljava/util/function/BiFunction;" ∈ tb) (k1 : zX g K d E ρ μ (pc + 3) lv (.null :: st)) (k2 : ∀ t : Nat, zX g K d E ρ μ (pc + 3) lv (.ref t :: st)) : zX g K d E ρ μ pc lv st := by
  obtain ⟨p, l, e, R, s, m, args, below, meth, c⟩ := E
  obtain ⟨hx, hb, hml, hown, hts, hr, hlk, hR, hF⟩ := G
  intro H locs ls hP hS hl
  rcases hF.2.2.2.2.2.2.2.2 with h | ⟨t, h⟩
  · exact va_gets hx hb h hS hown (hts _ hw) (fun _ h9 => h9) dg (k1 H locs ls hP hS hl)
  · exact va_gets hx hb h hS hown (hts _ hw) (fun _ h9 => h9) dg (k2 t H locs ls hP hS hl)
theorem zx_ldcS {idx i : Nat} (G : zGa g K d E) (dg : decode K.2.1 pc = .ok (.ldc idx, 2)) (ho : K.1.cls = "ThinkNumber$Reader") (hi : i < 13) (he : (zstr.getD i (0, "")).1 = idx) (kk : zX g K d E ρ μ (pc + 2) lv (.ref (g.2.1 60 i) :: st)) : zX g K d E ρ μ pc lv st := by
  obtain ⟨p, l, e, R, s, m, args, below, meth, c⟩ := E
  obtain ⟨hx, hb, hml, hown, hts, hr, hlk, hR, hF⟩ := G
  intro H locs ls hP hS hl
  have h4 := hF.2.2.2.1 i hi
  rw [he, ← ho] at h4
  exact va_ldcS hx hb hown h4 dg (kk H locs ls hP hS hl)
theorem zx_coder {idx i : Nat} (G : zGa g K d E) (dg : decode K.2.1 pc = .ok (.getfield idx, 3)) (hw : Cond.fieldLink K.1.cls idx "java/lang/String" "coder" "B" ∈ tb) (hi : i < 13) (kk : zX g K d E ρ μ (pc + 3) lv (.int 0 :: st)) : zX g K d E ρ μ pc lv (.ref (g.2.1 60 i) :: st) := by
  obtain ⟨p, l, e, R, s, m, args, below, meth, c⟩ := E
  obtain ⟨hx, hb, hml, hown, hts, hr, hlk, hR, hF⟩ := G
  intro H locs ls hP hS hl
  exact vk_getf hx hb (hF.2.2.2.2.2.2.2.1.1 i hi).2.1 hS hown (hts _ hw) (fun _ h9 => h9) dg (kk H locs ls hP hS hl)
theorem zx_svalue {idx i : Nat} (G : zGa g K d E) (dg : decode K.2.1 pc = .ok (.getfield idx, 3)) (hw : Cond.fieldLink K.1.cls idx "java/lang/String" "value" "[B" ∈ tb) (hi : i < 13) (kk : zX g K d E ρ μ (pc + 3) lv (.ref (g.2.1 61 i) :: st)) : zX g K d E ρ μ pc lv (.ref (g.2.1 60 i) :: st) := by
  obtain ⟨p, l, e, R, s, m, args, below, meth, c⟩ := E
  obtain ⟨hx, hb, hml, hown, hts, hr, hlk, hR, hF⟩ := G
  intro H locs ls hP hS hl
  exact vk_getf hx hb (hF.2.2.2.2.2.2.2.1.1 i hi).2.2.1 hS hown (hts _ hw) (fun _ h9 => h9) dg (kk H locs ls hP hS hl)
theorem zx_slen {i : Nat} (G : zGa g K d E) (dg : decode K.2.1 pc = .ok (.arraylength, 1)) (hi : i < 13) (kk : zX g K d E ρ μ (pc + 1) lv (.int (nI (zslen.getD i 0)) :: st)) : zX g K d E ρ μ pc lv (.ref (g.2.1 61 i) :: st) := by
  obtain ⟨p, l, e, R, s, m, args, below, meth, c⟩ := E
  obtain ⟨hx, hb, hml, hown, hts, hr, hlk, hR, hF⟩ := G
  intro H locs ls hP hS hl
  exact va_tlen hx hb (hF.2.2.2.2.2.2.2.1.1 i hi).2.2.2 hS rfl dg (kk H locs ls hP hS hl)
theorem zx_sald {i : Nat} {j : Int32} {kap : Option β} (G : zGa g K d E) (dg : decode K.2.1 pc = .ok (.baload, 1)) (hi : i < 13) (h : zchk (zin j (zslen.getD i 0)) kap = some rr) (kk : kap = some rr → zX g K d E ρ μ (pc + 1) lv (.int ((zsbyt.getD i []).getD j.toNatClampNeg 0) :: st)) : zX g K d E ρ μ pc lv (.int j :: .ref (g.2.1 61 i) :: st) := by
  obtain ⟨p, l, e, R, s, m, args, below, meth, c⟩ := E
  obtain ⟨hx, hb, hml, hown, hts, hr, hlk, hR, hF⟩ := G
  intro H locs ls hP hS hl
  obtain ⟨hin, h2⟩ := zchk_of h
  exact va_tb hx hb (hF.2.2.2.2.2.2.2.1.1 i hi).2.2.2 hS hin rfl dg (kk h2 H locs ls hP hS hl)
theorem zx_swOut {dflt lo hi : Int} {offs : Array Int} {len tgt : Nat} {x : Int32} (G : zGa g K d E) (dg : decode K.2.1 pc = .ok (.tableswitch dflt lo hi offs, len)) (hx0 : x.toInt < lo ∨ hi < x.toInt) (ht : (pc : Int) + dflt = (tgt : Int)) (kk : zX g K d E ρ μ tgt lv st) : zX g K d E ρ μ pc lv (.int x :: st) := by
  obtain ⟨p, l, e, R, s, m, args, below, meth, c⟩ := E
  obtain ⟨hx, hb, hml, hown, hts, hr, hlk, hR, hF⟩ := G
  intro H locs ls hP hS hl
  exact lv_tableOut hx hb dg hx0 ht (kk H locs ls hP hS hl)
theorem zx_swIn {dflt lo hi off : Int} {offs : Array Int} {len tgt : Nat} {x : Int32} (G : zGa g K d E) (dg : decode K.2.1 pc = .ok (.tableswitch dflt lo hi offs, len)) (h1 : ¬ x.toInt < lo) (h2 : ¬ hi < x.toInt) (ho : offs[(x.toInt - lo).toNat]? = some off) (ht : (pc : Int) + off = (tgt : Int)) (kk : zX g K d E ρ μ tgt lv st) : zX g K d E ρ μ pc lv (.int x :: st) := by
  obtain ⟨p, l, e, R, s, m, args, below, meth, c⟩ := E
  obtain ⟨hx, hb, hml, hown, hts, hr, hlk, hR, hF⟩ := G
  intro H locs ls hP hS hl
  exact lv_tableIn hx hb dg h1 h2 ho ht (kk H locs ls hP hS hl)
theorem zx_if {c : Prop} [Decidable c] {ka kb : Option β} (h : zif c ka kb = some rr) (k1 : c → ka = some rr → zX g K d E ρ μ pc lv st) (k2 : ¬ c → kb = some rr → zX g K d E ρ μ pc lv st) : zX g K d E ρ μ pc lv st := by
  by_cases hc : c
  · exact k1 hc ((if_pos hc).symm.trans h)
  · exact k2 hc ((if_neg hc).symm.trans h)
/-- ends -/
theorem zx_iret {v : Int32} {r2 : Int32 × ZMem} (G : zGa g K d E) (dg : decode K.2.1 pc = .ok (.ireturn, 1)) (hK : K.2.2.2 = some .int) (h : zret v μ = some r2) : zX g K d E (some (.int r2.1), r2.2) μ pc lv [.int v] := by
  obtain ⟨p, l, e, R, s, m, args, below, meth, c⟩ := E
  obtain ⟨hx, hb, hml, hown, hts, hr, hlk, hR, hF⟩ := G
  intro H locs ls hP hS hl
  cases h
  exact W.iret hx hb (hr.trans hK) (fun t ht hW => ⟨rfl, by rw [ht]; exact hP, hS.F ht⟩) hS.2.2 dg
theorem zx_zretK {v : Int32} {ty : FieldType} {r2 : Int32 × ZMem} (G : zGa g K d E) (dg : decode K.2.1 pc = .ok (.ireturn, 1)) (hK : K.2.2.2 = some ty) (hn : narrow ty (.int v) = .int v) (h : zret v μ = some r2) : zX g K d E (some (.int r2.1), r2.2) μ pc lv [.int v] := by
  obtain ⟨p, l, e, R, s, m, args, below, meth, c⟩ := E
  obtain ⟨hx, hb, hml, hown, hts, hr, hlk, hR, hF⟩ := G
  intro H locs ls hP hS hl
  cases h
  exact W.zret hx hb (hr.trans hK) hn (fun t ht hW => ⟨rfl, by rw [ht]; exact hP, hS.F ht⟩) hS.2.2 dg
theorem zx_zret {v : Int32} {ty : FieldType} {r2 : Int32 × ZMem} (G : zGa g K d E) (dg : decode K.2.1 pc = .ok (.ireturn, 1)) (hK : K.2.2.2 = some ty) (h : zchk (narrow ty (.int v) = .int v) (zret v μ) = some r2) : zX g K d E (some (.int r2.1), r2.2) μ pc lv [.int v] :=
  zx_zretK G dg hK (zchk_of h).1 (zchk_of h).2
theorem zx_lret {v : Int64} {r2 : Int64 × ZMem} (G : zGa g K d E) (dg : decode K.2.1 pc = .ok (.lreturn, 1)) (hK : K.2.2.2 = some .long) (h : zret v μ = some r2) : zX g K d E (some (.long r2.1), r2.2) μ pc lv [.long v] := by
  obtain ⟨p, l, e, R, s, m, args, below, meth, c⟩ := E
  obtain ⟨hx, hb, hml, hown, hts, hr, hlk, hR, hF⟩ := G
  intro H locs ls hP hS hl
  cases h
  exact W.lret hx hb (hr.trans hK) (fun t ht hW => ⟨rfl, by rw [ht]; exact hP, hS.F ht⟩) hS.2.2 dg
theorem zx_vret {r2 : Unit × ZMem} (G : zGa g K d E) (dg : decode K.2.1 pc = .ok (.return_, 1)) (hK : K.2.2.2 = none) (h : zret () μ = some r2) : zX g K d E (none, r2.2) μ pc lv [] := by
  obtain ⟨p, l, e, R, s, m, args, below, meth, c⟩ := E
  obtain ⟨hx, hb, hml, hown, hts, hr, hlk, hR, hF⟩ := G
  intro H locs ls hP hS hl
  cases h
  exact W.vret hx hb (hr.trans hK) (fun t ht hW => ⟨rfl, by rw [ht]; exact hP, hS.F ht⟩) hS.2.2 dg
def zrv (g : ZG) (k : Nat) (r : Option Nat) : Value := match r with
  | none => .null
  | some i => .ref (g.2.1 k i)
theorem zx_aret {k : Nat} {v : Option Nat} {n : String} {r2 : Option Nat × ZMem} (G : zGa g K d E) (dg : decode K.2.1 pc = .ok (.areturn, 1)) (hK : K.2.2.2 = some (.object n)) (h : zret v μ = some r2) : zX g K d E (some (zrv g k r2.1), r2.2) μ pc lv [zrv g k v] := by
  obtain ⟨p, l, e, R, s, m, args, below, meth, c⟩ := E
  obtain ⟨hx, hb, hml, hown, hts, hr, hlk, hR, hF⟩ := G
  intro H locs ls hP hS hl
  cases h
  exact W.aret hx hb (hr.trans hK) (Or.inl ⟨n, rfl⟩) (by cases v with
    | none => exact Or.inl rfl
    | some i => exact Or.inr ⟨_, rfl⟩) (fun t ht hW => ⟨rfl, by rw [ht]; exact hP, hS.F ht⟩) hS.2.2 dg
theorem zx_aretR {k v : Nat} {n : String} {r2 : Nat × ZMem} (G : zGa g K d E) (dg : decode K.2.1 pc = .ok (.areturn, 1)) (hK : K.2.2.2 = some (.object n)) (h : zret v μ = some r2) : zX g K d E (some (.ref (g.2.1 k r2.1)), r2.2) μ pc lv [.ref (g.2.1 k v)] := by
  obtain ⟨p, l, e, R, s, m, args, below, meth, c⟩ := E
  obtain ⟨hx, hb, hml, hown, hts, hr, hlk, hR, hF⟩ := G
  intro H locs ls hP hS hl
  cases h
  exact W.aret hx hb (hr.trans hK) (Or.inl ⟨n, rfl⟩) (Or.inr ⟨_, rfl⟩) (fun t ht hW => ⟨rfl, by rw [ht]; exact hP, hS.F ht⟩) hS.2.2 dg
theorem zx_join {A : Type} {J : A} {B : A → Option β} (P : A → Prop) (h : zlt J B = some rr) (hJ : P J) (kk : ∀ k, P k → B k = some rr → zX g K d E ρ μ pc lv st) : zX g K d E ρ μ pc lv st := kk J hJ h
end ZR2
/-- behind a call -/
theorem zgo {p : Program} {l : Launch} {e : Env} {R : Room} {s : State} {m : MethodId} {args : Array Value} {below : List Frame} {meth : Method} {c : Code} {H : Heap} {locs : List Loc} {Q : State → Prop} {g : ZG} {ρ2 : ZR} {a : Array Value} {pc : Nat} {ls : Array Slot} {st0 rest : List Value} (hr : va_Run p l e R s m args below meth c H locs 0 0 0 0 (F0 m pc ls st0) rest (zQ g ρ2 a) (zA g)) (hS : va_S (zA g) s.heap H locs) (kk : ∀ (H1 : Heap) (locs1 : List Loc), va_P g.1 zcls (zws g ρ2.2) H1 → va_S (zA g) s.heap H1 locs1 → W p l e R s m args below meth c H1 locs1 0 0 Q (F0 m (pc + 3) ls (ρ2.1.toList ++ rest))) : W p l e R s m args below meth c H locs 0 0 Q (F0 m pc ls st0) := by
  intro T hT X
  obtain ⟨v, st₀, t, T', L, h0, X', hL, e1, e2, ⟨hv, hP, hz, hk⟩, st⟩ := hr T hT X
  cases hv
  rw [h0] at hz hk
  obtain ⟨t2, a1, b1⟩ := kk T'.heap (locs ++ L) (by rw [e1]; exact hP)
    ⟨Nat.le_trans hS.1 (by rw [e1]; exact hz), fun q h1 h2 => by rw [e1, hk q (Nat.lt_of_lt_of_le h1 hS.1) h2]; exact hS.2.1 q h1 h2, fun q hq => by
      rcases List.mem_append.mp hq with h | h
      · exact hS.2.2 q h
      · exact hL q h⟩ T' rfl X'
  exact ⟨t2, st t2 a1, b1⟩
theorem zroom {d d2 maxL : Nat} (hd : d2 + 1 ≤ d) (hm : maxL ≤ 21) : (zrm d2).frames + 1 ≤ (zrm d).frames ∧ 8 + (maxL + 11) + (zrm d2).locals ≤ (zrm d).locals := ⟨hd, by show 8 + (maxL + 11) + 40 * d2 ≤ 40 * d; omega⟩
section ZR3
variable {g : ZG} {K K2 : ZK} {d d2 : Nat} {E : ZE} {ρ ρ2 : ZR} {μ : ZMem} {pc : Nat} {lv : List (Option Value)} {st : List Value}
theorem zx_callS {idx n : Nat} {as : List Value} (G : zGa g K d E) (dg : decode K.2.1 pc = .ok (.invokestatic idx, 3)) (hM : zMS K.1.cls idx K2 n) (hn : as.length = n) (hT : ∀ l, zT g l d2 K2 as μ ρ2) (hd : d2 + 1 ≤ d) (hc : (st.map fun v => v.category).sum ≤ 8) (kk : zX g K d E ρ ρ2.2 (pc + 3) lv (ρ2.1.toList ++ st)) : zX g K d E ρ μ pc lv (as.reverse ++ st) := by
  obtain ⟨p, l, e, R, s, m, args, below, meth, c⟩ := E
  obtain ⟨hx, hb, hml, hown, hts, hr, hlk, hR, hF⟩ := G
  intro H locs ls hP hS hl
  obtain ⟨y, cc2, maxL, ret⟩ := K2
  obtain ⟨hlink, hst, hini, hcode, hm, hy1, hy2, hy3⟩ := hM
  have hp : PreS s H (va_Pc as (zWO g μ)) as := ⟨zWO_blind g μ as, fun U hU hW => ⟨rfl, by rw [hU]; exact hP, zFX_warm hW hU hS hF⟩⟩
  have hrm := zroom hd hm
  subst hR
  rcases hlink with h1 | ⟨host, h1⟩
  · exact zgo (va_runS (rest := st) ⟨hx, hb, hml, hown, hts⟩ (hT l) ⟨callB_of n hts (tb_good hcode) rfl rfl rfl (hts _ hini) (hts _ h1) ⟨hy1, hy2, hy3⟩ hrm, hts _ hst⟩ hp rfl hn (hl.1) rfl (lv_room hc) dg ⟨Nat.le_refl _, Nat.le_refl _⟩) hS (fun H1 locs1 hP1 hS1 => kk H1 locs1 ls hP1 hS1 hl)
  · exact zgo (va_runSN (rest := st) ⟨hx, hb, hml, hown, hts⟩ (hT l) ⟨va_cnB n hts (tb_good hcode) rfl rfl rfl (hF.2.2.1 _ h1) (hts _ hini) ⟨hy1, hy2, hy3⟩ hrm, hts _ hst, trivial⟩ hp rfl hn (hl.1) rfl (lv_room hc) dg ⟨Nat.le_refl _, Nat.le_refl _⟩) hS (fun H1 locs1 hP1 hS1 => kk H1 locs1 ls hP1 hS1 hl)
theorem zx_callV0 {idx n b : Nat} {as : List Value} (G : zGa g K d E) (dg : decode K.2.1 pc = .ok (.invokevirtual idx, 3)) (hM : zMV K.1.cls idx K2 n) (hn : as.length = n) (hT : ∀ l, zT g l d2 K2 (.ref b :: as) μ ρ2) (hd : d2 + 1 ≤ d) (hc : (st.map fun v => v.category).sum ≤ 8) (hrc : ∀ (s : State) (H : Heap) (locs : List Loc), zFX g s → va_P g.1 zcls (zws g μ) H → va_S (zA g) s.heap H locs → ∃ cell : Cell, H[b]? = some cell ∧ cell.vm.isStatics = false ∧ s.vm.findClass K2.1.cls = some cell.cls) (kk : zX g K d E ρ ρ2.2 (pc + 3) lv (ρ2.1.toList ++ st)) : zX g K d E ρ μ pc lv (as.reverse ++ .ref b :: st) := by
  obtain ⟨p, l, e, R, s, m, args, below, meth, c⟩ := E
  obtain ⟨hx, hb, hml, hown, hts, hr, hlk, hR, hF⟩ := G
  intro H locs ls hP hS hl
  obtain ⟨y, cc2, maxL, ret⟩ := K2
  obtain ⟨hlink, hin, hse, hini, hcode, hm, hy1, hy2, hy3⟩ := hM
  have hp : PreV s H y.cls b (va_Pc (.ref b :: as) (zWO g μ)) as := ⟨zWO_blind g μ _, hrc s H locs hF hP hS, fun U hU hW => ⟨rfl, by rw [hU]; exact hP, zFX_warm hW hU hS hF⟩⟩
  have hrm := zroom hd hm
  subst hR
  rcases hlink with h1 | ⟨host, h1⟩
  · exact zgo (va_runV (rest := st) ⟨hx, hb, hml, hown, hts⟩ (hT l) ⟨callB_of n hts (tb_good hcode) rfl rfl rfl (hts _ hini) (hts _ h1) ⟨hy1, hy2, hy3⟩ hrm, hts _ hin, hts _ hse⟩ hp rfl hn (hl.1) rfl (lv_room hc) dg ⟨Nat.le_refl _, Nat.le_refl _⟩) hS (fun H1 locs1 hP1 hS1 => kk H1 locs1 ls hP1 hS1 hl)
  · exact zgo (va_runVN (rest := st) ⟨hx, hb, hml, hown, hts⟩ (hT l) ⟨va_cnB n hts (tb_good hcode) rfl rfl rfl (hF.2.2.1 _ h1) (hts _ hini) ⟨hy1, hy2, hy3⟩ hrm, hts _ hin, hts _ hse⟩ hp rfl hn (hl.1) rfl (lv_room hc) dg ⟨Nat.le_refl _, Nat.le_refl _⟩) hS (fun H1 locs1 hP1 hS1 => kk H1 locs1 ls hP1 hS1 hl)
def zob (k : Nat) (C : String) : Prop := (∃ (T : u_T) (N : Nat), zcls[k]? = some (C, T, N)) ∧ ∀ (g : ZG) (a : Nat → Int32) (b : Nat → Int64) (i : Nat), ∃ fs, zcel g a b k i = .inr (k, fs)
theorem zrecv {k i : Nat} {C : String} (ho : zob k C) (hi : (k, i) ∈ zids) : ∀ (s : State) (H : Heap) (locs : List Loc), zFX g s → va_P g.1 zcls (zws g μ) H → va_S (zA g) s.heap H locs → ∃ cell : Cell, H[g.2.1 k i]? = some cell ∧ cell.vm.isStatics = false ∧ s.vm.findClass C = some cell.cls := by
  intro s H locs hF hP hS
  obtain ⟨⟨T, N, h1⟩, h2⟩ := ho
  obtain ⟨q0, -, hq⟩ := zws_at g μ hi
  obtain ⟨fs, e1⟩ := h2 g (μ.1 k i) (μ.2 k i) i
  rw [e1] at hq
  exact va_recv hF.2.1 hP h1 hq
theorem zrecvS {i : Nat} (hi : i < 13) : ∀ (s : State) (H : Heap) (locs : List Loc), zFX g s → va_P g.1 zcls (zws g μ) H → va_S (zA g) s.heap H locs → ∃ cell : Cell, H[g.2.1 60 i]? = some cell ∧ cell.vm.isStatics = false ∧ s.vm.findClass "java/lang/String" = some cell.cls := by
  intro s H locs hF hP hS
  exact vk_recv hF.2.2.2.2.2.2.2.1 hi hS
end ZR3
