/-! one row an instruction, over zX (by program: wip/whole/rows.py) -/
def zlt {α β : Type} (v : α) (k : α → Option β) : Option β := k v
def zif {β : Type} (p : Prop) [Decidable p] (a b : Option β) : Option β := if p then a else b
def zchk {β : Type} (p : Prop) [Decidable p] (k : Option β) : Option β := if p then k else none
def zbnd {α β : Type} (x : Option (α × ZMem)) (k : α → ZMem → Option β) : Option β := match x with
  | none => none
  | some (a, μ) => k a μ
def zret {α : Type} (a : α) (μ : ZMem) : Option (α × ZMem) := some (a, μ)
theorem zchk_of {β : Type} {p : Prop} [Decidable p] {k : Option β} {r : β} (h : zchk p k = some r) : p ∧ k = some r := by
  unfold zchk at h
  by_cases hp : p
  · rw [if_pos hp] at h; exact ⟨hp, h⟩
  · rw [if_neg hp] at h; cases h
theorem zbnd_of {α β : Type} {x : Option (α × ZMem)} {k : α → ZMem → Option β} {r : β} (h : zbnd x k = some r) : ∃ a μ, x = some (a, μ) ∧ k a μ = some r := by
  cases x with
  | none => cases h
  | some q => exact ⟨q.1, q.2, rfl, h⟩
section ZR1
variable {g : ZG} {K : ZK} {d : Nat} {E : ZE} {ρ : ZR} {μ : ZMem} {pc : Nat} {lv lv2 : List (Option Value)} {st : List Value} {β : Type} {rr : β}
theorem zx_iconst {n : Int} {v : Int32} (G : zGa g K d E) (dg : decode K.2.1 pc = .ok (.iconst n, 1)) (hv : Int32.ofInt n = v) (k : zX g K d E ρ μ (pc + 1) lv (.int v :: st)) : zX g K d E ρ μ (pc) lv (st) := by
  obtain ⟨p, l, e, R, s, m, args, below, meth, c⟩ := E
  obtain ⟨hx, hb, hml, hown, hts, hr, hlk, hR, hF⟩ := G
  intro H locs ls hP hS hl
  exact lv_iconst hx hb dg hv (k H locs ls hP hS hl)
theorem zx_bipush {n : Int} {v : Int32} (G : zGa g K d E) (dg : decode K.2.1 pc = .ok (.bipush n, 2)) (hv : (Int8.ofInt n).toInt32 = v) (k : zX g K d E ρ μ (pc + 2) lv (.int v :: st)) : zX g K d E ρ μ (pc) lv (st) := by
  obtain ⟨p, l, e, R, s, m, args, below, meth, c⟩ := E
  obtain ⟨hx, hb, hml, hown, hts, hr, hlk, hR, hF⟩ := G
  intro H locs ls hP hS hl
  exact lv_bipush hx hb dg hv (k H locs ls hP hS hl)
theorem zx_sipush {n : Int} {v : Int32} (G : zGa g K d E) (dg : decode K.2.1 pc = .ok (.sipush n, 3)) (hv : (Int16.ofInt n).toInt32 = v) (k : zX g K d E ρ μ (pc + 3) lv (.int v :: st)) : zX g K d E ρ μ (pc) lv (st) := by
  obtain ⟨p, l, e, R, s, m, args, below, meth, c⟩ := E
  obtain ⟨hx, hb, hml, hown, hts, hr, hlk, hR, hF⟩ := G
  intro H locs ls hP hS hl
  exact lv_sipush hx hb dg hv (k H locs ls hP hS hl)
theorem zx_lconst {n : Fin 2} {v : Int64} (G : zGa g K d E) (dg : decode K.2.1 pc = .ok (.lconst n, 1)) (hv : Int64.ofNat (n : Nat) = v) (k : zX g K d E ρ μ (pc + 1) lv (.long v :: st)) : zX g K d E ρ μ (pc) lv (st) := by
  obtain ⟨p, l, e, R, s, m, args, below, meth, c⟩ := E
  obtain ⟨hx, hb, hml, hown, hts, hr, hlk, hR, hF⟩ := G
  intro H locs ls hP hS hl
  exact lv_lconst hx hb dg hv (k H locs ls hP hS hl)
theorem zx_null  (G : zGa g K d E) (dg : decode K.2.1 pc = .ok (.aconst_null, 1)) (k : zX g K d E ρ μ (pc + 1) lv (.null :: st)) : zX g K d E ρ μ (pc) lv (st) := by
  obtain ⟨p, l, e, R, s, m, args, below, meth, c⟩ := E
  obtain ⟨hx, hb, hml, hown, hts, hr, hlk, hR, hF⟩ := G
  intro H locs ls hP hS hl
  exact lv_null hx hb dg (k H locs ls hP hS hl)
theorem zx_ldc {index : Nat} {v : Int32} (G : zGa g K d E) (dg : decode K.2.1 pc = .ok (.ldc index, 2)) (hw : Cond.constant K.1.cls index v ∈ tb) (k : zX g K d E ρ μ (pc + 2) lv (.int v :: st)) : zX g K d E ρ μ (pc) lv (st) := by
  obtain ⟨p, l, e, R, s, m, args, below, meth, c⟩ := E
  obtain ⟨hx, hb, hml, hown, hts, hr, hlk, hR, hF⟩ := G
  intro H locs ls hP hS hl
  exact lv_ldc hx hb hown (hts _ hw) dg (k H locs ls hP hS hl)
theorem zx_ldcw {index : Nat} {v : Int32} (G : zGa g K d E) (dg : decode K.2.1 pc = .ok (.ldc_w index, 3)) (hw : Cond.constant K.1.cls index v ∈ tb) (k : zX g K d E ρ μ (pc + 3) lv (.int v :: st)) : zX g K d E ρ μ (pc) lv (st) := by
  obtain ⟨p, l, e, R, s, m, args, below, meth, c⟩ := E
  obtain ⟨hx, hb, hml, hown, hts, hr, hlk, hR, hF⟩ := G
  intro H locs ls hP hS hl
  exact lv_ldcw hx hb hown (hts _ hw) dg (k H locs ls hP hS hl)
theorem zx_ldc2 {index : Nat} {v : Int64} (G : zGa g K d E) (dg : decode K.2.1 pc = .ok (.ldc2_w index, 3)) (hw : Cond.constantLong K.1.cls index v ∈ tb) (k : zX g K d E ρ μ (pc + 3) lv (.long v :: st)) : zX g K d E ρ μ (pc) lv (st) := by
  obtain ⟨p, l, e, R, s, m, args, below, meth, c⟩ := E
  obtain ⟨hx, hb, hml, hown, hts, hr, hlk, hR, hF⟩ := G
  intro H locs ls hP hS hl
  exact lv_ldc2 hx hb hown (hts _ hw) dg (k H locs ls hP hS hl)
theorem zx_iload_n {q : Fin 4} {x : Int32} (G : zGa g K d E) (dg : decode K.2.1 pc = .ok (.iload_n q, 1)) (hv : lv[(q : Nat)]? = some (some (.int x))) (k : zX g K d E ρ μ (pc + 1) lv (.int x :: st)) : zX g K d E ρ μ (pc) lv (st) := by
  obtain ⟨p, l, e, R, s, m, args, below, meth, c⟩ := E
  obtain ⟨hx, hb, hml, hown, hts, hr, hlk, hR, hF⟩ := G
  intro H locs ls hP hS hl
  exact lv_iload_n hx hb dg rfl (hl.2.2 _ _ hv) (k H locs ls hP hS hl)
theorem zx_iload {q : Nat} {x : Int32} (G : zGa g K d E) (dg : decode K.2.1 pc = .ok (.iload q, 2)) (hv : lv[q]? = some (some (.int x))) (k : zX g K d E ρ μ (pc + 2) lv (.int x :: st)) : zX g K d E ρ μ (pc) lv (st) := by
  obtain ⟨p, l, e, R, s, m, args, below, meth, c⟩ := E
  obtain ⟨hx, hb, hml, hown, hts, hr, hlk, hR, hF⟩ := G
  intro H locs ls hP hS hl
  exact lv_iload hx hb dg (hl.2.2 _ _ hv) (k H locs ls hP hS hl)
theorem zx_lload_n {q : Fin 4} {x : Int64} (G : zGa g K d E) (dg : decode K.2.1 pc = .ok (.lload_n q, 1)) (hv : lv[(q : Nat)]? = some (some (.long x))) (k : zX g K d E ρ μ (pc + 1) lv (.long x :: st)) : zX g K d E ρ μ (pc) lv (st) := by
  obtain ⟨p, l, e, R, s, m, args, below, meth, c⟩ := E
  obtain ⟨hx, hb, hml, hown, hts, hr, hlk, hR, hF⟩ := G
  intro H locs ls hP hS hl
  exact lv_lload_n hx hb dg rfl (hl.2.2 _ _ hv) (k H locs ls hP hS hl)
theorem zx_lload {q : Nat} {x : Int64} (G : zGa g K d E) (dg : decode K.2.1 pc = .ok (.lload q, 2)) (hv : lv[q]? = some (some (.long x))) (k : zX g K d E ρ μ (pc + 2) lv (.long x :: st)) : zX g K d E ρ μ (pc) lv (st) := by
  obtain ⟨p, l, e, R, s, m, args, below, meth, c⟩ := E
  obtain ⟨hx, hb, hml, hown, hts, hr, hlk, hR, hF⟩ := G
  intro H locs ls hP hS hl
  exact lv_lload hx hb dg (hl.2.2 _ _ hv) (k H locs ls hP hS hl)
theorem zx_aload_n {q : Fin 4} {x : Nat} (G : zGa g K d E) (dg : decode K.2.1 pc = .ok (.aload_n q, 1)) (hv : lv[(q : Nat)]? = some (some (.ref x))) (k : zX g K d E ρ μ (pc + 1) lv (.ref x :: st)) : zX g K d E ρ μ (pc) lv (st) := by
  obtain ⟨p, l, e, R, s, m, args, below, meth, c⟩ := E
  obtain ⟨hx, hb, hml, hown, hts, hr, hlk, hR, hF⟩ := G
  intro H locs ls hP hS hl
  exact lv_aload_n hx hb dg rfl (hl.2.2 _ _ hv) (k H locs ls hP hS hl)
theorem zx_aload {q : Nat} {x : Nat} (G : zGa g K d E) (dg : decode K.2.1 pc = .ok (.aload q, 2)) (hv : lv[q]? = some (some (.ref x))) (k : zX g K d E ρ μ (pc + 2) lv (.ref x :: st)) : zX g K d E ρ μ (pc) lv (st) := by
  obtain ⟨p, l, e, R, s, m, args, below, meth, c⟩ := E
  obtain ⟨hx, hb, hml, hown, hts, hr, hlk, hR, hF⟩ := G
  intro H locs ls hP hS hl
  exact lv_aload hx hb dg (hl.2.2 _ _ hv) (k H locs ls hP hS hl)
theorem zx_aload_nN {q : Fin 4} (G : zGa g K d E) (dg : decode K.2.1 pc = .ok (.aload_n q, 1)) (hv : lv[(q : Nat)]? = some (some .null)) (k : zX g K d E ρ μ (pc + 1) lv (.null :: st)) : zX g K d E ρ μ (pc) lv (st) := by
  obtain ⟨p, l, e, R, s, m, args, below, meth, c⟩ := E
  obtain ⟨hx, hb, hml, hown, hts, hr, hlk, hR, hF⟩ := G
  intro H locs ls hP hS hl
  exact lv_aload_nN hx hb dg rfl (hl.2.2 _ _ hv) (k H locs ls hP hS hl)
theorem zx_aloadN {q : Nat} (G : zGa g K d E) (dg : decode K.2.1 pc = .ok (.aload q, 2)) (hv : lv[q]? = some (some .null)) (k : zX g K d E ρ μ (pc + 2) lv (.null :: st)) : zX g K d E ρ μ (pc) lv (st) := by
  obtain ⟨p, l, e, R, s, m, args, below, meth, c⟩ := E
  obtain ⟨hx, hb, hml, hown, hts, hr, hlk, hR, hF⟩ := G
  intro H locs ls hP hS hl
  exact lv_aloadN hx hb dg (hl.2.2 _ _ hv) (k H locs ls hP hS hl)
theorem zx_istore_n {q : Fin 4} {x : Int32} {lf : Int32 → List (Option Value)} {kap : Int32 → Option β} (G : zGa g K d E) (dg : decode K.2.1 pc = .ok (.istore_n q, 1)) (hn : (q : Nat) < K.2.2.1) (hq : ∀ y, zst1 lv (q : Nat) (.int y) = lf y) (h : zlt x kap = some rr) (k : ∀ y, kap y = some rr → zX g K d E ρ μ (pc + 1) (lf y) (st)) : zX g K d E ρ μ (pc) lv (.int x :: st) := by
  obtain ⟨p, l, e, R, s, m, args, below, meth, c⟩ := E
  obtain ⟨hx, hb, hml, hown, hts, hr, hlk, hR, hF⟩ := G
  intro H locs ls hP hS hl
  exact lv_istore_n hx hb dg rfl (zl_to hl) hn rfl (fun ls2 h2 => k x h H locs ls2 hP hS (hq x ▸ zl_st1 h2))
theorem zx_istore {q : Nat} {x : Int32} {lf : Int32 → List (Option Value)} {kap : Int32 → Option β} (G : zGa g K d E) (dg : decode K.2.1 pc = .ok (.istore q, 2)) (hn : (q : Nat) < K.2.2.1) (hq : ∀ y, zst1 lv (q : Nat) (.int y) = lf y) (h : zlt x kap = some rr) (k : ∀ y, kap y = some rr → zX g K d E ρ μ (pc + 2) (lf y) (st)) : zX g K d E ρ μ (pc) lv (.int x :: st) := by
  obtain ⟨p, l, e, R, s, m, args, below, meth, c⟩ := E
  obtain ⟨hx, hb, hml, hown, hts, hr, hlk, hR, hF⟩ := G
  intro H locs ls hP hS hl
  exact lv_istore hx hb dg (zl_to hl) hn rfl (fun ls2 h2 => k x h H locs ls2 hP hS (hq x ▸ zl_st1 h2))
theorem zx_lstore_n {q : Fin 4} {x : Int64} {lf : Int64 → List (Option Value)} {kap : Int64 → Option β} (G : zGa g K d E) (dg : decode K.2.1 pc = .ok (.lstore_n q, 1)) (hn : (q : Nat) + 1 < K.2.2.1) (hq : ∀ y, zst2 lv (q : Nat) (.long y) = lf y) (h : zlt x kap = some rr) (k : ∀ y, kap y = some rr → zX g K d E ρ μ (pc + 1) (lf y) (st)) : zX g K d E ρ μ (pc) lv (.long x :: st) := by
  obtain ⟨p, l, e, R, s, m, args, below, meth, c⟩ := E
  obtain ⟨hx, hb, hml, hown, hts, hr, hlk, hR, hF⟩ := G
  intro H locs ls hP hS hl
  exact lv_lstore_n hx hb dg rfl (zl_to hl) hn rfl (fun ls2 h2 => k x h H locs ls2 hP hS (hq x ▸ zl_st2 h2))
theorem zx_lstore {q : Nat} {x : Int64} {lf : Int64 → List (Option Value)} {kap : Int64 → Option β} (G : zGa g K d E) (dg : decode K.2.1 pc = .ok (.lstore q, 2)) (hn : (q : Nat) + 1 < K.2.2.1) (hq : ∀ y, zst2 lv (q : Nat) (.long y) = lf y) (h : zlt x kap = some rr) (k : ∀ y, kap y = some rr → zX g K d E ρ μ (pc + 2) (lf y) (st)) : zX g K d E ρ μ (pc) lv (.long x :: st) := by
  obtain ⟨p, l, e, R, s, m, args, below, meth, c⟩ := E
  obtain ⟨hx, hb, hml, hown, hts, hr, hlk, hR, hF⟩ := G
  intro H locs ls hP hS hl
  exact lv_lstore hx hb dg (zl_to hl) hn rfl (fun ls2 h2 => k x h H locs ls2 hP hS (hq x ▸ zl_st2 h2))
theorem zx_astore_n {q : Fin 4} {x : Nat} (G : zGa g K d E) (dg : decode K.2.1 pc = .ok (.astore_n q, 1)) (hn : (q : Nat) < K.2.2.1) (hq : zst1 lv (q : Nat) (.ref x) = lv2) (k : zX g K d E ρ μ (pc + 1) lv2 (st)) : zX g K d E ρ μ (pc) lv (.ref x :: st) := by
  obtain ⟨p, l, e, R, s, m, args, below, meth, c⟩ := E
  obtain ⟨hx, hb, hml, hown, hts, hr, hlk, hR, hF⟩ := G
  intro H locs ls hP hS hl
  exact lv_astore_n hx hb dg rfl (zl_to hl) hn rfl (fun ls2 h2 => k H locs ls2 hP hS (hq ▸ zl_st1 h2))
theorem zx_astore_nN {q : Fin 4} (G : zGa g K d E) (dg : decode K.2.1 pc = .ok (.astore_n q, 1)) (hn : (q : Nat) < K.2.2.1) (hq : zst1 lv (q : Nat) .null = lv2) (k : zX g K d E ρ μ (pc + 1) lv2 (st)) : zX g K d E ρ μ (pc) lv (.null :: st) := by
  obtain ⟨p, l, e, R, s, m, args, below, meth, c⟩ := E
  obtain ⟨hx, hb, hml, hown, hts, hr, hlk, hR, hF⟩ := G
  intro H locs ls hP hS hl
  exact lv_astore_nN hx hb dg rfl (zl_to hl) hn rfl (fun ls2 h2 => k H locs ls2 hP hS (hq ▸ zl_st1 h2))
theorem zx_astore {q : Nat} {x : Nat} (G : zGa g K d E) (dg : decode K.2.1 pc = .ok (.astore q, 2)) (hn : (q : Nat) < K.2.2.1) (hq : zst1 lv (q : Nat) (.ref x) = lv2) (k : zX g K d E ρ μ (pc + 2) lv2 (st)) : zX g K d E ρ μ (pc) lv (.ref x :: st) := by
  obtain ⟨p, l, e, R, s, m, args, below, meth, c⟩ := E
  obtain ⟨hx, hb, hml, hown, hts, hr, hlk, hR, hF⟩ := G
  intro H locs ls hP hS hl
  exact lv_astore hx hb dg (zl_to hl) hn rfl (fun ls2 h2 => k H locs ls2 hP hS (hq ▸ zl_st1 h2))
theorem zx_astoreN {q : Nat} (G : zGa g K d E) (dg : decode K.2.1 pc = .ok (.astore q, 2)) (hn : (q : Nat) < K.2.2.1) (hq : zst1 lv (q : Nat) .null = lv2) (k : zX g K d E ρ μ (pc + 2) lv2 (st)) : zX g K d E ρ μ (pc) lv (.null :: st) := by
  obtain ⟨p, l, e, R, s, m, args, below, meth, c⟩ := E
  obtain ⟨hx, hb, hml, hown, hts, hr, hlk, hR, hF⟩ := G
  intro H locs ls hP hS hl
  exact lv_astoreN hx hb dg (zl_to hl) hn rfl (fun ls2 h2 => k H locs ls2 hP hS (hq ▸ zl_st1 h2))
theorem zasl_at {lv : List (Option Value)} {i : Nat} {v : Value} (h : lv[i]? = some (some v)) : ∃ k : Nat, (zasl lv)[k]? = some (i, v) := List.getElem?_of_mem (zasl_mem h)
theorem zx_iinc {q : Nat} {n : Int} {x v : Int32} {lf : Int32 → List (Option Value)} {kap : Int32 → Option β} (G : zGa g K d E) (dg : decode K.2.1 pc = .ok (.iinc q n, 3)) (hn : q < K.2.2.1) (hv : lv[q]? = some (some (.int x))) (hc : Int32.ofInt n = v) (hq : ∀ y, zst1 lv q (.int y) = lf y) (h : zlt (x + v) kap = some rr) (k : ∀ y, kap y = some rr → zX g K d E ρ μ (pc + 3) (lf y) (st)) : zX g K d E ρ μ (pc) lv (st) := by
  obtain ⟨p, l, e, R, s, m, args, below, meth, c⟩ := E
  obtain ⟨hx, hb, hml, hown, hts, hr, hlk, hR, hF⟩ := G
  intro H locs ls hP hS hl
  obtain ⟨k9, hk9⟩ := zasl_at hv
  exact lv_iinc hx hb dg (zl_to hl) hk9 (by rw [hc]) hn rfl (fun ls2 h2 => k (x + v) h H locs ls2 hP hS (hq _ ▸ zl_st1 h2))
def zshlI (x y : Int32) : Int32 := x <<< (y &&& 31)
def zshrI (x y : Int32) : Int32 := x >>> (y &&& 31)
theorem zx_iadd {x y : Int32} (G : zGa g K d E) (dg : decode K.2.1 pc = .ok (.iadd, 1)) (k : zX g K d E ρ μ (pc + 1) lv (.int (x + y) :: st)) : zX g K d E ρ μ (pc) lv (.int y :: .int x :: st) := by
  obtain ⟨p, l, e, R, s, m, args, below, meth, c⟩ := E
  obtain ⟨hx, hb, hml, hown, hts, hr, hlk, hR, hF⟩ := G
  intro H locs ls hP hS hl
  exact lv_iadd hx hb dg (k H locs ls hP hS hl)
theorem zx_isub {x y : Int32} (G : zGa g K d E) (dg : decode K.2.1 pc = .ok (.isub, 1)) (k : zX g K d E ρ μ (pc + 1) lv (.int (x - y) :: st)) : zX g K d E ρ μ (pc) lv (.int y :: .int x :: st) := by
  obtain ⟨p, l, e, R, s, m, args, below, meth, c⟩ := E
  obtain ⟨hx, hb, hml, hown, hts, hr, hlk, hR, hF⟩ := G
  intro H locs ls hP hS hl
  exact lv_isub hx hb dg (k H locs ls hP hS hl)
theorem zx_imul {x y : Int32} (G : zGa g K d E) (dg : decode K.2.1 pc = .ok (.imul, 1)) (k : zX g K d E ρ μ (pc + 1) lv (.int (x * y) :: st)) : zX g K d E ρ μ (pc) lv (.int y :: .int x :: st) := by
  obtain ⟨p, l, e, R, s, m, args, below, meth, c⟩ := E
  obtain ⟨hx, hb, hml, hown, hts, hr, hlk, hR, hF⟩ := G
  intro H locs ls hP hS hl
  exact lv_imul hx hb dg (k H locs ls hP hS hl)
theorem zx_iand {x y : Int32} (G : zGa g K d E) (dg : decode K.2.1 pc = .ok (.iand, 1)) (k : zX g K d E ρ μ (pc + 1) lv (.int (x &&& y) :: st)) : zX g K d E ρ μ (pc) lv (.int y :: .int x :: st) := by
  obtain ⟨p, l, e, R, s, m, args, below, meth, c⟩ := E
  obtain ⟨hx, hb, hml, hown, hts, hr, hlk, hR, hF⟩ := G
  intro H locs ls hP hS hl
  exact lv_iand hx hb dg (k H locs ls hP hS hl)
theorem zx_ior {x y : Int32} (G : zGa g K d E) (dg : decode K.2.1 pc = .ok (.ior, 1)) (k : zX g K d E ρ μ (pc + 1) lv (.int (x ||| y) :: st)) : zX g K d E ρ μ (pc) lv (.int y :: .int x :: st) := by
  obtain ⟨p, l, e, R, s, m, args, below, meth, c⟩ := E
  obtain ⟨hx, hb, hml, hown, hts, hr, hlk, hR, hF⟩ := G
  intro H locs ls hP hS hl
  exact lv_ior hx hb dg (k H locs ls hP hS hl)
theorem zx_ixor {x y : Int32} (G : zGa g K d E) (dg : decode K.2.1 pc = .ok (.ixor, 1)) (k : zX g K d E ρ μ (pc + 1) lv (.int (x ^^^ y) :: st)) : zX g K d E ρ μ (pc) lv (.int y :: .int x :: st) := by
  obtain ⟨p, l, e, R, s, m, args, below, meth, c⟩ := E
  obtain ⟨hx, hb, hml, hown, hts, hr, hlk, hR, hF⟩ := G
  intro H locs ls hP hS hl
  exact lv_ixor hx hb dg (k H locs ls hP hS hl)
theorem zx_ishl {x y : Int32} (G : zGa g K d E) (dg : decode K.2.1 pc = .ok (.ishl, 1)) (k : zX g K d E ρ μ (pc + 1) lv (.int (zshlI x y) :: st)) : zX g K d E ρ μ (pc) lv (.int y :: .int x :: st) := by
  obtain ⟨p, l, e, R, s, m, args, below, meth, c⟩ := E
  obtain ⟨hx, hb, hml, hown, hts, hr, hlk, hR, hF⟩ := G
  intro H locs ls hP hS hl
  exact lv_ishl hx hb dg (k H locs ls hP hS hl)
theorem zx_ishr {x y : Int32} (G : zGa g K d E) (dg : decode K.2.1 pc = .ok (.ishr, 1)) (k : zX g K d E ρ μ (pc + 1) lv (.int (zshrI x y) :: st)) : zX g K d E ρ μ (pc) lv (.int y :: .int x :: st) := by
  obtain ⟨p, l, e, R, s, m, args, below, meth, c⟩ := E
  obtain ⟨hx, hb, hml, hown, hts, hr, hlk, hR, hF⟩ := G
  intro H locs ls hP hS hl
  exact lv_ishr hx hb dg (k H locs ls hP hS hl)
theorem zx_ladd {x y : Int64} (G : zGa g K d E) (dg : decode K.2.1 pc = .ok (.ladd, 1)) (k : zX g K d E ρ μ (pc + 1) lv (.long (x + y) :: st)) : zX g K d E ρ μ (pc) lv (.long y :: .long x :: st) := by
  obtain ⟨p, l, e, R, s, m, args, below, meth, c⟩ := E
  obtain ⟨hx, hb, hml, hown, hts, hr, hlk, hR, hF⟩ := G
  intro H locs ls hP hS hl
  exact lv_ladd hx hb dg (k H locs ls hP hS hl)
theorem zx_lsub {x y : Int64} (G : zGa g K d E) (dg : decode K.2.1 pc = .ok (.lsub, 1)) (k : zX g K d E ρ μ (pc + 1) lv (.long (x - y) :: st)) : zX g K d E ρ μ (pc) lv (.long y :: .long x :: st) := by
  obtain ⟨p, l, e, R, s, m, args, below, meth, c⟩ := E
  obtain ⟨hx, hb, hml, hown, hts, hr, hlk, hR, hF⟩ := G
  intro H locs ls hP hS hl
  exact lv_lsub hx hb dg (k H locs ls hP hS hl)
theorem zx_lmul {x y : Int64} (G : zGa g K d E) (dg : decode K.2.1 pc = .ok (.lmul, 1)) (k : zX g K d E ρ μ (pc + 1) lv (.long (x * y) :: st)) : zX g K d E ρ μ (pc) lv (.long y :: .long x :: st) := by
  obtain ⟨p, l, e, R, s, m, args, below, meth, c⟩ := E
  obtain ⟨hx, hb, hml, hown, hts, hr, hlk, hR, hF⟩ := G
  intro H locs ls hP hS hl
  exact lv_lmul hx hb dg (k H locs ls hP hS hl)
theorem zx_land {x y : Int64} (G : zGa g K d E) (dg : decode K.2.1 pc = .ok (.land, 1)) (k : zX g K d E ρ μ (pc + 1) lv (.long (x &&& y) :: st)) : zX g K d E ρ μ (pc) lv (.long y :: .long x :: st) := by
  obtain ⟨p, l, e, R, s, m, args, below, meth, c⟩ := E
  obtain ⟨hx, hb, hml, hown, hts, hr, hlk, hR, hF⟩ := G
  intro H locs ls hP hS hl
  exact lv_land hx hb dg (k H locs ls hP hS hl)
theorem zx_lor {x y : Int64} (G : zGa g K d E) (dg : decode K.2.1 pc = .ok (.lor, 1)) (k : zX g K d E ρ μ (pc + 1) lv (.long (x ||| y) :: st)) : zX g K d E ρ μ (pc) lv (.long y :: .long x :: st) := by
  obtain ⟨p, l, e, R, s, m, args, below, meth, c⟩ := E
  obtain ⟨hx, hb, hml, hown, hts, hr, hlk, hR, hF⟩ := G
  intro H locs ls hP hS hl
  exact lv_lor hx hb dg (k H locs ls hP hS hl)
theorem zx_lxor {x y : Int64} (G : zGa g K d E) (dg : decode K.2.1 pc = .ok (.lxor, 1)) (k : zX g K d E ρ μ (pc + 1) lv (.long (x ^^^ y) :: st)) : zX g K d E ρ μ (pc) lv (.long y :: .long x :: st) := by
  obtain ⟨p, l, e, R, s, m, args, below, meth, c⟩ := E
  obtain ⟨hx, hb, hml, hown, hts, hr, hlk, hR, hF⟩ := G
  intro H locs ls hP hS hl
  exact lv_lxor hx hb dg (k H locs ls hP hS hl)
theorem zx_ineg {x : Int32} (G : zGa g K d E) (dg : decode K.2.1 pc = .ok (.ineg, 1)) (k : zX g K d E ρ μ (pc + 1) lv (.int (-x) :: st)) : zX g K d E ρ μ (pc) lv (.int x :: st) := by
  obtain ⟨p, l, e, R, s, m, args, below, meth, c⟩ := E
  obtain ⟨hx, hb, hml, hown, hts, hr, hlk, hR, hF⟩ := G
  intro H locs ls hP hS hl
  exact lv_ineg hx hb dg (k H locs ls hP hS hl)
theorem zx_lneg {x : Int64} (G : zGa g K d E) (dg : decode K.2.1 pc = .ok (.lneg, 1)) (k : zX g K d E ρ μ (pc + 1) lv (.long (-x) :: st)) : zX g K d E ρ μ (pc) lv (.long x :: st) := by
  obtain ⟨p, l, e, R, s, m, args, below, meth, c⟩ := E
  obtain ⟨hx, hb, hml, hown, hts, hr, hlk, hR, hF⟩ := G
  intro H locs ls hP hS hl
  exact lv_lneg hx hb dg (k H locs ls hP hS hl)
def zushrI (x y : Int32) : Int32 := (x.toUInt32 >>> (y.toUInt32 &&& Int32.toUInt32 31)).toInt32
def zushrJ (x : Int64) (y : Int32) : Int64 := (x.toUInt64 >>> (y.toInt64.toUInt64 &&& Int64.toUInt64 63)).toInt64
def zshlJ (x : Int64) (y : Int32) : Int64 := x <<< (y.toInt64 &&& 63)
def zshrJ (x : Int64) (y : Int32) : Int64 := x >>> (y.toInt64 &&& 63)
theorem zx_iushr {x y : Int32} (G : zGa g K d E) (dg : decode K.2.1 pc = .ok (.iushr, 1)) (k : zX g K d E ρ μ (pc + 1) lv (.int (zushrI x y) :: st)) : zX g K d E ρ μ (pc) lv (.int y :: .int x :: st) := by
  obtain ⟨p, l, e, R, s, m, args, below, meth, c⟩ := E
  obtain ⟨hx, hb, hml, hown, hts, hr, hlk, hR, hF⟩ := G
  intro H locs ls hP hS hl
  exact lv_iushr hx hb dg rfl (k H locs ls hP hS hl)
theorem zx_lushr {x : Int64} {y : Int32} (G : zGa g K d E) (dg : decode K.2.1 pc = .ok (.lushr, 1)) (k : zX g K d E ρ μ (pc + 1) lv (.long (zushrJ x y) :: st)) : zX g K d E ρ μ (pc) lv (.int y :: .long x :: st) := by
  obtain ⟨p, l, e, R, s, m, args, below, meth, c⟩ := E
  obtain ⟨hx, hb, hml, hown, hts, hr, hlk, hR, hF⟩ := G
  intro H locs ls hP hS hl
  exact lv_lushr hx hb dg rfl (k H locs ls hP hS hl)
theorem zx_lshl {x : Int64} {y : Int32} (G : zGa g K d E) (dg : decode K.2.1 pc = .ok (.lshl, 1)) (k : zX g K d E ρ μ (pc + 1) lv (.long (zshlJ x y) :: st)) : zX g K d E ρ μ (pc) lv (.int y :: .long x :: st) := by
  obtain ⟨p, l, e, R, s, m, args, below, meth, c⟩ := E
  obtain ⟨hx, hb, hml, hown, hts, hr, hlk, hR, hF⟩ := G
  intro H locs ls hP hS hl
  exact lv_lshl hx hb dg rfl (k H locs ls hP hS hl)
theorem zx_lshr {x : Int64} {y : Int32} (G : zGa g K d E) (dg : decode K.2.1 pc = .ok (.lshr, 1)) (k : zX g K d E ρ μ (pc + 1) lv (.long (zshrJ x y) :: st)) : zX g K d E ρ μ (pc) lv (.int y :: .long x :: st) := by
  obtain ⟨p, l, e, R, s, m, args, below, meth, c⟩ := E
  obtain ⟨hx, hb, hml, hown, hts, hr, hlk, hR, hF⟩ := G
  intro H locs ls hP hS hl
  exact lv_lshr hx hb dg rfl (k H locs ls hP hS hl)
theorem zx_i2l {x : Int32} (G : zGa g K d E) (dg : decode K.2.1 pc = .ok (.i2l, 1)) (k : zX g K d E ρ μ (pc + 1) lv (.long x.toInt64 :: st)) : zX g K d E ρ μ (pc) lv (.int x :: st) := by
  obtain ⟨p, l, e, R, s, m, args, below, meth, c⟩ := E
  obtain ⟨hx, hb, hml, hown, hts, hr, hlk, hR, hF⟩ := G
  intro H locs ls hP hS hl
  exact lv_i2l hx hb dg rfl (k H locs ls hP hS hl)
theorem zx_l2i {x : Int64} (G : zGa g K d E) (dg : decode K.2.1 pc = .ok (.l2i, 1)) (k : zX g K d E ρ μ (pc + 1) lv (.int x.toInt32 :: st)) : zX g K d E ρ μ (pc) lv (.long x :: st) := by
  obtain ⟨p, l, e, R, s, m, args, below, meth, c⟩ := E
  obtain ⟨hx, hb, hml, hown, hts, hr, hlk, hR, hF⟩ := G
  intro H locs ls hP hS hl
  exact lv_l2i hx hb dg rfl (k H locs ls hP hS hl)
theorem zx_i2b {x : Int32} (G : zGa g K d E) (dg : decode K.2.1 pc = .ok (.i2b, 1)) (k : zX g K d E ρ μ (pc + 1) lv (.int x.toInt8.toInt32 :: st)) : zX g K d E ρ μ (pc) lv (.int x :: st) := by
  obtain ⟨p, l, e, R, s, m, args, below, meth, c⟩ := E
  obtain ⟨hx, hb, hml, hown, hts, hr, hlk, hR, hF⟩ := G
  intro H locs ls hP hS hl
  exact lv_i2b hx hb dg rfl (k H locs ls hP hS hl)
theorem zx_i2c {x : Int32} (G : zGa g K d E) (dg : decode K.2.1 pc = .ok (.i2c, 1)) (k : zX g K d E ρ μ (pc + 1) lv (.int (x.toUInt32 % 65536).toInt32 :: st)) : zX g K d E ρ μ (pc) lv (.int x :: st) := by
  obtain ⟨p, l, e, R, s, m, args, below, meth, c⟩ := E
  obtain ⟨hx, hb, hml, hown, hts, hr, hlk, hR, hF⟩ := G
  intro H locs ls hP hS hl
  exact lv_i2c hx hb dg rfl (k H locs ls hP hS hl)
theorem zx_lcmp {x y : Int64} (G : zGa g K d E) (dg : decode K.2.1 pc = .ok (.lcmp, 1)) (k : zX g K d E ρ μ (pc + 1) lv (.int (lg_cmp x y) :: st)) : zX g K d E ρ μ (pc) lv (.long y :: .long x :: st) := by
  obtain ⟨p, l, e, R, s, m, args, below, meth, c⟩ := E
  obtain ⟨hx, hb, hml, hown, hts, hr, hlk, hR, hF⟩ := G
  intro H locs ls hP hS hl
  exact W.lcmp hx hb dg (k H locs ls hP hS hl)
def zremI (x y : Int32) : Int32 := x - x / y * y
def zremJ (x y : Int64) : Int64 := x - x / y * y
theorem zx_idiv {x y : Int32} {kap : Option β} (G : zGa g K d E) (dg : decode K.2.1 pc = .ok (.idiv, 1)) (h : zchk (¬ y = 0) kap = some rr) (k : kap = some rr → zX g K d E ρ μ (pc + 1) lv (.int (x / y) :: st)) : zX g K d E ρ μ (pc) lv (.int y :: .int x :: st) := by
  obtain ⟨p, l, e, R, s, m, args, below, meth, c⟩ := E
  obtain ⟨hx, hb, hml, hown, hts, hr, hlk, hR, hF⟩ := G
  intro H locs ls hP hS hl
  obtain ⟨h1, h2⟩ := zchk_of h
  exact lv_idiv hx hb dg h1 (k h2 H locs ls hP hS hl)
theorem zx_irem {x y : Int32} {kap : Option β} (G : zGa g K d E) (dg : decode K.2.1 pc = .ok (.irem, 1)) (h : zchk (¬ y = 0) kap = some rr) (k : kap = some rr → zX g K d E ρ μ (pc + 1) lv (.int (zremI x y) :: st)) : zX g K d E ρ μ (pc) lv (.int y :: .int x :: st) := by
  obtain ⟨p, l, e, R, s, m, args, below, meth, c⟩ := E
  obtain ⟨hx, hb, hml, hown, hts, hr, hlk, hR, hF⟩ := G
  intro H locs ls hP hS hl
  obtain ⟨h1, h2⟩ := zchk_of h
  exact lv_irem hx hb dg h1 (k h2 H locs ls hP hS hl)
theorem zx_ldiv {x y : Int64} {kap : Option β} (G : zGa g K d E) (dg : decode K.2.1 pc = .ok (.ldiv, 1)) (h : zchk (¬ y = 0) kap = some rr) (k : kap = some rr → zX g K d E ρ μ (pc + 1) lv (.long (x / y) :: st)) : zX g K d E ρ μ (pc) lv (.long y :: .long x :: st) := by
  obtain ⟨p, l, e, R, s, m, args, below, meth, c⟩ := E
  obtain ⟨hx, hb, hml, hown, hts, hr, hlk, hR, hF⟩ := G
  intro H locs ls hP hS hl
  obtain ⟨h1, h2⟩ := zchk_of h
  exact lv_ldiv hx hb dg h1 (k h2 H locs ls hP hS hl)
theorem zx_lrem {x y : Int64} {kap : Option β} (G : zGa g K d E) (dg : decode K.2.1 pc = .ok (.lrem, 1)) (h : zchk (¬ y = 0) kap = some rr) (k : kap = some rr → zX g K d E ρ μ (pc + 1) lv (.long (zremJ x y) :: st)) : zX g K d E ρ μ (pc) lv (.long y :: .long x :: st) := by
  obtain ⟨p, l, e, R, s, m, args, below, meth, c⟩ := E
  obtain ⟨hx, hb, hml, hown, hts, hr, hlk, hR, hF⟩ := G
  intro H locs ls hP hS hl
  obtain ⟨h1, h2⟩ := zchk_of h
  exact lv_lrem hx hb dg h1 (k h2 H locs ls hP hS hl)
theorem zx_dup {va : Value} (G : zGa g K d E) (dg : decode K.2.1 pc = .ok (.dup, 1)) (h1 : va.category = 1) (k : zX g K d E ρ μ (pc + 1) lv (va :: va :: st)) : zX g K d E ρ μ (pc) lv (va :: st) := by
  obtain ⟨p, l, e, R, s, m, args, below, meth, c⟩ := E
  obtain ⟨hx, hb, hml, hown, hts, hr, hlk, hR, hF⟩ := G
  intro H locs ls hP hS hl
  exact lv_dup hx hb dg h1 (k H locs ls hP hS hl)
theorem zx_pop {va : Value} (G : zGa g K d E) (dg : decode K.2.1 pc = .ok (.pop, 1)) (h1 : va.category = 1) (k : zX g K d E ρ μ (pc + 1) lv (st)) : zX g K d E ρ μ (pc) lv (va :: st) := by
  obtain ⟨p, l, e, R, s, m, args, below, meth, c⟩ := E
  obtain ⟨hx, hb, hml, hown, hts, hr, hlk, hR, hF⟩ := G
  intro H locs ls hP hS hl
  exact lv_pop hx hb dg h1 (k H locs ls hP hS hl)
theorem zx_dup_x1 {va vb : Value} (G : zGa g K d E) (dg : decode K.2.1 pc = .ok (.dup_x1, 1)) (h1 : va.category = 1) (h2 : vb.category = 1) (k : zX g K d E ρ μ (pc + 1) lv (va :: vb :: va :: st)) : zX g K d E ρ μ (pc) lv (va :: vb :: st) := by
  obtain ⟨p, l, e, R, s, m, args, below, meth, c⟩ := E
  obtain ⟨hx, hb, hml, hown, hts, hr, hlk, hR, hF⟩ := G
  intro H locs ls hP hS hl
  exact lv_dup_x1 hx hb dg h1 h2 (k H locs ls hP hS hl)
theorem zx_dup_x2 {va vb vd : Value} (G : zGa g K d E) (dg : decode K.2.1 pc = .ok (.dup_x2, 1)) (h1 : va.category = 1) (h2 : vb.category = 1) (h3 : vd.category = 1) (k : zX g K d E ρ μ (pc + 1) lv (va :: vb :: vd :: va :: st)) : zX g K d E ρ μ (pc) lv (va :: vb :: vd :: st) := by
  obtain ⟨p, l, e, R, s, m, args, below, meth, c⟩ := E
  obtain ⟨hx, hb, hml, hown, hts, hr, hlk, hR, hF⟩ := G
  intro H locs ls hP hS hl
  exact lv_dup_x2 hx hb dg h1 h2 h3 (k H locs ls hP hS hl)
theorem zx_dup2_11 {va vb : Value} (G : zGa g K d E) (dg : decode K.2.1 pc = .ok (.dup2, 1)) (h1 : va.category = 1) (h2 : vb.category = 1) (k : zX g K d E ρ μ (pc + 1) lv (va :: vb :: va :: vb :: st)) : zX g K d E ρ μ (pc) lv (va :: vb :: st) := by
  obtain ⟨p, l, e, R, s, m, args, below, meth, c⟩ := E
  obtain ⟨hx, hb, hml, hown, hts, hr, hlk, hR, hF⟩ := G
  intro H locs ls hP hS hl
  exact lv_dup2_11 hx hb dg h1 h2 (k H locs ls hP hS hl)
theorem zx_dup2_2 {va : Value} (G : zGa g K d E) (dg : decode K.2.1 pc = .ok (.dup2, 1)) (h1 : va.category = 2) (k : zX g K d E ρ μ (pc + 1) lv (va :: va :: st)) : zX g K d E ρ μ (pc) lv (va :: st) := by
  obtain ⟨p, l, e, R, s, m, args, below, meth, c⟩ := E
  obtain ⟨hx, hb, hml, hown, hts, hr, hlk, hR, hF⟩ := G
  intro H locs ls hP hS hl
  exact lv_dup2_2 hx hb dg h1 (k H locs ls hP hS hl)
theorem zx_dup2_x1_2 {va vb : Value} (G : zGa g K d E) (dg : decode K.2.1 pc = .ok (.dup2_x1, 1)) (h1 : va.category = 2) (h2 : vb.category = 1) (k : zX g K d E ρ μ (pc + 1) lv (va :: vb :: va :: st)) : zX g K d E ρ μ (pc) lv (va :: vb :: st) := by
  obtain ⟨p, l, e, R, s, m, args, below, meth, c⟩ := E
  obtain ⟨hx, hb, hml, hown, hts, hr, hlk, hR, hF⟩ := G
  intro H locs ls hP hS hl
  exact lv_dup2_x1_2 hx hb dg h1 h2 (k H locs ls hP hS hl)
theorem zx_dup2_x2_2 {va vb vd : Value} (G : zGa g K d E) (dg : decode K.2.1 pc = .ok (.dup2_x2, 1)) (h1 : va.category = 2) (h2 : vb.category = 1) (h3 : vd.category = 1) (k : zX g K d E ρ μ (pc + 1) lv (va :: vb :: vd :: va :: st)) : zX g K d E ρ μ (pc) lv (va :: vb :: vd :: st) := by
  obtain ⟨p, l, e, R, s, m, args, below, meth, c⟩ := E
  obtain ⟨hx, hb, hml, hown, hts, hr, hlk, hR, hF⟩ := G
  intro H locs ls hP hS hl
  exact lv_dup2_x2_2 hx hb dg h1 h2 h3 (k H locs ls hP hS hl)
theorem zx_goto {off : Int} {tgt : Nat} (G : zGa g K d E) (dg : decode K.2.1 pc = .ok (.goto off, 3)) (ht : (pc : Int) + off = (tgt : Int)) (k : zX g K d E ρ μ (tgt) lv (st)) : zX g K d E ρ μ (pc) lv (st) := by
  obtain ⟨p, l, e, R, s, m, args, below, meth, c⟩ := E
  obtain ⟨hx, hb, hml, hown, hts, hr, hlk, hR, hF⟩ := G
  intro H locs ls hP hS hl
  exact lv_goto hx hb dg ht (k H locs ls hP hS hl)
theorem zx_ifnullN {off : Int} {tgt : Nat} (G : zGa g K d E) (dg : decode K.2.1 pc = .ok (.ifnull off, 3)) (ht : (pc : Int) + off = (tgt : Int)) (k : zX g K d E ρ μ (tgt) lv (st)) : zX g K d E ρ μ (pc) lv (.null :: st) := by
  obtain ⟨p, l, e, R, s, m, args, below, meth, c⟩ := E
  obtain ⟨hx, hb, hml, hown, hts, hr, hlk, hR, hF⟩ := G
  intro H locs ls hP hS hl
  exact lv_ifnullN hx hb dg ht (k H locs ls hP hS hl)
theorem zx_ifnull {off : Int} {x : Nat} (G : zGa g K d E) (dg : decode K.2.1 pc = .ok (.ifnull off, 3)) (k : zX g K d E ρ μ (pc + 3) lv (st)) : zX g K d E ρ μ (pc) lv (.ref x :: st) := by
  obtain ⟨p, l, e, R, s, m, args, below, meth, c⟩ := E
  obtain ⟨hx, hb, hml, hown, hts, hr, hlk, hR, hF⟩ := G
  intro H locs ls hP hS hl
  exact lv_ifnull hx hb dg (k H locs ls hP hS hl)
theorem zx_ifnonnullN {off : Int} (G : zGa g K d E) (dg : decode K.2.1 pc = .ok (.ifnonnull off, 3)) (k : zX g K d E ρ μ (pc + 3) lv (st)) : zX g K d E ρ μ (pc) lv (.null :: st) := by
  obtain ⟨p, l, e, R, s, m, args, below, meth, c⟩ := E
  obtain ⟨hx, hb, hml, hown, hts, hr, hlk, hR, hF⟩ := G
  intro H locs ls hP hS hl
  exact lv_ifnonnullN hx hb dg (k H locs ls hP hS hl)
theorem zx_ifnonnull {off : Int} {tgt x : Nat} (G : zGa g K d E) (dg : decode K.2.1 pc = .ok (.ifnonnull off, 3)) (ht : (pc : Int) + off = (tgt : Int)) (k : zX g K d E ρ μ (tgt) lv (st)) : zX g K d E ρ μ (pc) lv (.ref x :: st) := by
  obtain ⟨p, l, e, R, s, m, args, below, meth, c⟩ := E
  obtain ⟨hx, hb, hml, hown, hts, hr, hlk, hR, hF⟩ := G
  intro H locs ls hP hS hl
  exact lv_ifnonnull hx hb dg ht (k H locs ls hP hS hl)
theorem zx_if_eq {x : Int32} {off : Int} {tgt : Nat} {ka kb : Option β} (G : zGa g K d E) (dg : decode K.2.1 pc = .ok (.ifCond .eq off, 3)) (ht : (pc : Int) + off = (tgt : Int)) (h : zif (x = 0) ka kb = some rr) (k1 : ka = some rr → zX g K d E ρ μ (tgt) lv (st)) (k2 : kb = some rr → zX g K d E ρ μ (pc + 3) lv (st)) : zX g K d E ρ μ (pc) lv (.int x :: st) := by
  obtain ⟨p, l, e, R, s, m, args, below, meth, c⟩ := E
  obtain ⟨hx, hb, hml, hown, hts, hr, hlk, hR, hF⟩ := G
  intro H locs ls hP hS hl
  exact lv_if_eq hx hb dg ht (fun q => k1 ((if_pos q).symm.trans h) H locs ls hP hS hl) (fun q => k2 ((if_neg q).symm.trans h) H locs ls hP hS hl)
theorem zx_icmp_eq {x y : Int32} {off : Int} {tgt : Nat} {ka kb : Option β} (G : zGa g K d E) (dg : decode K.2.1 pc = .ok (.if_icmp .eq off, 3)) (ht : (pc : Int) + off = (tgt : Int)) (h : zif (x = y) ka kb = some rr) (k1 : ka = some rr → zX g K d E ρ μ (tgt) lv (st)) (k2 : kb = some rr → zX g K d E ρ μ (pc + 3) lv (st)) : zX g K d E ρ μ (pc) lv (.int y :: .int x :: st) := by
  obtain ⟨p, l, e, R, s, m, args, below, meth, c⟩ := E
  obtain ⟨hx, hb, hml, hown, hts, hr, hlk, hR, hF⟩ := G
  intro H locs ls hP hS hl
  exact lv_icmp_eq hx hb dg ht (fun q => k1 ((if_pos q).symm.trans h) H locs ls hP hS hl) (fun q => k2 ((if_neg q).symm.trans h) H locs ls hP hS hl)
theorem zx_if_ne {x : Int32} {off : Int} {tgt : Nat} {ka kb : Option β} (G : zGa g K d E) (dg : decode K.2.1 pc = .ok (.ifCond .ne off, 3)) (ht : (pc : Int) + off = (tgt : Int)) (h : zif (x = 0) kb ka = some rr) (k1 : ka = some rr → zX g K d E ρ μ (tgt) lv (st)) (k2 : kb = some rr → zX g K d E ρ μ (pc + 3) lv (st)) : zX g K d E ρ μ (pc) lv (.int x :: st) := by
  obtain ⟨p, l, e, R, s, m, args, below, meth, c⟩ := E
  obtain ⟨hx, hb, hml, hown, hts, hr, hlk, hR, hF⟩ := G
  intro H locs ls hP hS hl
  exact lv_if_ne hx hb dg ht (fun q => k1 ((if_neg q).symm.trans h) H locs ls hP hS hl) (fun q => k2 ((if_pos q).symm.trans h) H locs ls hP hS hl)
theorem zx_icmp_ne {x y : Int32} {off : Int} {tgt : Nat} {ka kb : Option β} (G : zGa g K d E) (dg : decode K.2.1 pc = .ok (.if_icmp .ne off, 3)) (ht : (pc : Int) + off = (tgt : Int)) (h : zif (x = y) kb ka = some rr) (k1 : ka = some rr → zX g K d E ρ μ (tgt) lv (st)) (k2 : kb = some rr → zX g K d E ρ μ (pc + 3) lv (st)) : zX g K d E ρ μ (pc) lv (.int y :: .int x :: st) := by
  obtain ⟨p, l, e, R, s, m, args, below, meth, c⟩ := E
  obtain ⟨hx, hb, hml, hown, hts, hr, hlk, hR, hF⟩ := G
  intro H locs ls hP hS hl
  exact lv_icmp_ne hx hb dg ht (fun q => k1 ((if_neg q).symm.trans h) H locs ls hP hS hl) (fun q => k2 ((if_pos q).symm.trans h) H locs ls hP hS hl)
theorem zx_if_lt {x : Int32} {off : Int} {tgt : Nat} {ka kb : Option β} (G : zGa g K d E) (dg : decode K.2.1 pc = .ok (.ifCond .lt off, 3)) (ht : (pc : Int) + off = (tgt : Int)) (h : zif (x < 0) ka kb = some rr) (k1 : ka = some rr → zX g K d E ρ μ (tgt) lv (st)) (k2 : kb = some rr → zX g K d E ρ μ (pc + 3) lv (st)) : zX g K d E ρ μ (pc) lv (.int x :: st) := by
  obtain ⟨p, l, e, R, s, m, args, below, meth, c⟩ := E
  obtain ⟨hx, hb, hml, hown, hts, hr, hlk, hR, hF⟩ := G
  intro H locs ls hP hS hl
  exact lv_if_lt hx hb dg ht (fun q => k1 ((if_pos q).symm.trans h) H locs ls hP hS hl) (fun q => k2 ((if_neg q).symm.trans h) H locs ls hP hS hl)
theorem zx_icmp_lt {x y : Int32} {off : Int} {tgt : Nat} {ka kb : Option β} (G : zGa g K d E) (dg : decode K.2.1 pc = .ok (.if_icmp .lt off, 3)) (ht : (pc : Int) + off = (tgt : Int)) (h : zif (x < y) ka kb = some rr) (k1 : ka = some rr → zX g K d E ρ μ (tgt) lv (st)) (k2 : kb = some rr → zX g K d E ρ μ (pc + 3) lv (st)) : zX g K d E ρ μ (pc) lv (.int y :: .int x :: st) := by
  obtain ⟨p, l, e, R, s, m, args, below, meth, c⟩ := E
  obtain ⟨hx, hb, hml, hown, hts, hr, hlk, hR, hF⟩ := G
  intro H locs ls hP hS hl
  exact lv_icmp_lt hx hb dg ht (fun q => k1 ((if_pos q).symm.trans h) H locs ls hP hS hl) (fun q => k2 ((if_neg q).symm.trans h) H locs ls hP hS hl)
theorem zx_if_ge {x : Int32} {off : Int} {tgt : Nat} {ka kb : Option β} (G : zGa g K d E) (dg : decode K.2.1 pc = .ok (.ifCond .ge off, 3)) (ht : (pc : Int) + off = (tgt : Int)) (h : zif (0 ≤ x) ka kb = some rr) (k1 : ka = some rr → zX g K d E ρ μ (tgt) lv (st)) (k2 : kb = some rr → zX g K d E ρ μ (pc + 3) lv (st)) : zX g K d E ρ μ (pc) lv (.int x :: st) := by
  obtain ⟨p, l, e, R, s, m, args, below, meth, c⟩ := E
  obtain ⟨hx, hb, hml, hown, hts, hr, hlk, hR, hF⟩ := G
  intro H locs ls hP hS hl
  exact lv_if_ge hx hb dg ht (fun q => k1 ((if_pos q).symm.trans h) H locs ls hP hS hl) (fun q => k2 ((if_neg q).symm.trans h) H locs ls hP hS hl)
theorem zx_icmp_ge {x y : Int32} {off : Int} {tgt : Nat} {ka kb : Option β} (G : zGa g K d E) (dg : decode K.2.1 pc = .ok (.if_icmp .ge off, 3)) (ht : (pc : Int) + off = (tgt : Int)) (h : zif (y ≤ x) ka kb = some rr) (k1 : ka = some rr → zX g K d E ρ μ (tgt) lv (st)) (k2 : kb = some rr → zX g K d E ρ μ (pc + 3) lv (st)) : zX g K d E ρ μ (pc) lv (.int y :: .int x :: st) := by
  obtain ⟨p, l, e, R, s, m, args, below, meth, c⟩ := E
  obtain ⟨hx, hb, hml, hown, hts, hr, hlk, hR, hF⟩ := G
  intro H locs ls hP hS hl
  exact lv_icmp_ge hx hb dg ht (fun q => k1 ((if_pos q).symm.trans h) H locs ls hP hS hl) (fun q => k2 ((if_neg q).symm.trans h) H locs ls hP hS hl)
theorem zx_if_gt {x : Int32} {off : Int} {tgt : Nat} {ka kb : Option β} (G : zGa g K d E) (dg : decode K.2.1 pc = .ok (.ifCond .gt off, 3)) (ht : (pc : Int) + off = (tgt : Int)) (h : zif (0 < x) ka kb = some rr) (k1 : ka = some rr → zX g K d E ρ μ (tgt) lv (st)) (k2 : kb = some rr → zX g K d E ρ μ (pc + 3) lv (st)) : zX g K d E ρ μ (pc) lv (.int x :: st) := by
  obtain ⟨p, l, e, R, s, m, args, below, meth, c⟩ := E
  obtain ⟨hx, hb, hml, hown, hts, hr, hlk, hR, hF⟩ := G
  intro H locs ls hP hS hl
  exact lv_if_gt hx hb dg ht (fun q => k1 ((if_pos q).symm.trans h) H locs ls hP hS hl) (fun q => k2 ((if_neg q).symm.trans h) H locs ls hP hS hl)
theorem zx_icmp_gt {x y : Int32} {off : Int} {tgt : Nat} {ka kb : Option β} (G : zGa g K d E) (dg : decode K.2.1 pc = .ok (.if_icmp .gt off, 3)) (ht : (pc : Int) + off = (tgt : Int)) (h : zif (y < x) ka kb = some rr) (k1 : ka = some rr → zX g K d E ρ μ (tgt) lv (st)) (k2 : kb = some rr → zX g K d E ρ μ (pc + 3) lv (st)) : zX g K d E ρ μ (pc) lv (.int y :: .int x :: st) := by
  obtain ⟨p, l, e, R, s, m, args, below, meth, c⟩ := E
  obtain ⟨hx, hb, hml, hown, hts, hr, hlk, hR, hF⟩ := G
  intro H locs ls hP hS hl
  exact lv_icmp_gt hx hb dg ht (fun q => k1 ((if_pos q).symm.trans h) H locs ls hP hS hl) (fun q => k2 ((if_neg q).symm.trans h) H locs ls hP hS hl)
theorem zx_if_le {x : Int32} {off : Int} {tgt : Nat} {ka kb : Option β} (G : zGa g K d E) (dg : decode K.2.1 pc = .ok (.ifCond .le off, 3)) (ht : (pc : Int) + off = (tgt : Int)) (h : zif (x ≤ 0) ka kb = some rr) (k1 : ka = some rr → zX g K d E ρ μ (tgt) lv (st)) (k2 : kb = some rr → zX g K d E ρ μ (pc + 3) lv (st)) : zX g K d E ρ μ (pc) lv (.int x :: st) := by
  obtain ⟨p, l, e, R, s, m, args, below, meth, c⟩ := E
  obtain ⟨hx, hb, hml, hown, hts, hr, hlk, hR, hF⟩ := G
  intro H locs ls hP hS hl
  exact lv_if_le hx hb dg ht (fun q => k1 ((if_pos q).symm.trans h) H locs ls hP hS hl) (fun q => k2 ((if_neg q).symm.trans h) H locs ls hP hS hl)
theorem zx_icmp_le {x y : Int32} {off : Int} {tgt : Nat} {ka kb : Option β} (G : zGa g K d E) (dg : decode K.2.1 pc = .ok (.if_icmp .le off, 3)) (ht : (pc : Int) + off = (tgt : Int)) (h : zif (x ≤ y) ka kb = some rr) (k1 : ka = some rr → zX g K d E ρ μ (tgt) lv (st)) (k2 : kb = some rr → zX g K d E ρ μ (pc + 3) lv (st)) : zX g K d E ρ μ (pc) lv (.int y :: .int x :: st) := by
  obtain ⟨p, l, e, R, s, m, args, below, meth, c⟩ := E
  obtain ⟨hx, hb, hml, hown, hts, hr, hlk, hR, hF⟩ := G
  intro H locs ls hP hS hl
  exact lv_icmp_le hx hb dg ht (fun q => k1 ((if_pos q).symm.trans h) H locs ls hP hS hl) (fun q => k2 ((if_neg q).symm.trans h) H locs ls hP hS hl)
end ZR1
