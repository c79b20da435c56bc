/-! making: worlds as lists of cells, one row an instruction -/
def zAOA (U : State) : Prop := (Cond.arrayOver (.array .long)).before #[] U = true
theorem zAOA.moved {u U : State} (hvm : u.vm.Alike U.vm) (h : zAOA u) : zAOA U := by
  obtain ⟨comp, c, k, h1, h2, h3, h4, h5⟩ := arrayOverA_spec h
  obtain ⟨k', hk', he⟩ := hvm.2.2 _ _ h3
  have hi : (U.vm.classes.findIdx? fun (x : Class) => match x.kind with | .array component _ => component == comp | _ => false) = some c := by
    refine Eq.trans (va_idx_bare U.vm comp).symm ?_
    first | rw [hvm.bare_eq] | rw [← hvm.bare_eq]
    exact (va_idx_bare u.vm comp).trans h2
  have hkind : k'.kind = .array comp (.array .long) := by rw [he]; exact h4
  have f1 : U.vm.findClass (FieldType.array .long).toString = some comp := by rw [hvm.findClass]; exact h1
  have f2 : U.vm.findClass ("[" ++ (FieldType.array .long).toString) = some c := by rw [hvm.findClass]; exact h5
  unfold zAOA Cond.before Cond.holds
  simp only [Cond.value]
  rw [f1, Option.bind_some]
  refine (congrArg (fun o : Option Nat => (o.bind (fun c => (U.vm.classes[c]?).map fun (k : Class) => match k.kind with | .array _ ty => decide (ty = FieldType.array .long) && decide (U.vm.findClass ("[" ++ (FieldType.array .long).toString) = some c) | _ => false) == some true)) hi).trans ?_
  simp [hk', hkind, f2]
def zAC (g : ZG) (U : State) : Prop := U.vm.findClass "[I" = some (g.2.2 0) ∧ U.vm.findClass "[J" = some (g.2.2 1) ∧ U.vm.findClass "[B" = some (g.2.2 2) ∧ U.vm.findClass "[Z" = some (g.2.2 3) ∧ U.vm.findClass "[LThinkNumber$Table;" = some (g.2.2 4) ∧ U.vm.findClass "[[J" = some (g.2.2 5) ∧ va_AO "ThinkNumber$Table" U ∧ zAOA U
theorem zAC.moved {g : ZG} {u U : State} (hvm : u.vm.Alike U.vm) (h : zAC g u) : zAC g U := by
  obtain ⟨h0, h1, h2, h3, h4, h5, h6, h7⟩ := h
  exact ⟨by rw [hvm.findClass]; exact h0, by rw [hvm.findClass]; exact h1, by rw [hvm.findClass]; exact h2, by rw [hvm.findClass]; exact h3, by rw [hvm.findClass]; exact h4, by rw [hvm.findClass]; exact h5, h6.moved hvm, h7.moved hvm⟩
def zKX (g : ZG) (U : State) : Prop := va_K g.1 zcls (ztys g) U ∧ zNW U ∧ zAC g U
theorem zKX.warm {g : ZG} {s U : State} (hW : s.WarmedH U.vm) (h : zKX g s) : zKX g U := ⟨va_K.moved hW.alike h.1, h.2.1.warm hW, h.2.2.moved hW.alike⟩
def zrc (d mc ms : Nat) : Room := { frames := d, cells := mc, slots := ms, locals := 40 * d }
def zGv (g : ZG) (K : ZK) (A : Nat → Prop) (rm : Room) (E : ZE) : Prop := match E with
  | (p, _, _, R, s, m, args, _, meth, c) => p.tables.exec = Jvm.exec ∧ c.code = K.2.1 ∧ c.maxLocals = K.2.2.1 ∧ s.vm.findClass K.1.cls = some m.cls ∧ (∀ w ∈ tb, w.before args s = true) ∧ meth.sig.returnType = K.2.2.2 ∧ meth.locks = false ∧ R = rm ∧ meth.name = K.1.name ∧ zKX g s ∧ ∀ q : Nat, s.heap.size ≤ q → A q
def zV (g : ZG) (K : ZK) (A : Nat → Prop) (Q : ZE → State → Prop) (E : ZE) (ws : va_W) (cells slots pc : Nat) (lv : List (Option Value)) (st : List Value) : Prop := match E with
  | (p, l, e, R, s, m, args, below, meth, c) => ∀ (H : Heap) (locs : List Loc) (ls : Array Slot), va_P g.1 zcls ws H → va_D A ws → va_S A s.heap H locs → zl_has ls K.2.2.1 lv →
    W p l e R s m args below meth c H locs cells slots (Q (p, l, e, R, s, m, args, below, meth, c)) (F0 m pc ls st)
/-- a constructor's contract: from the cells w0 to cells that are as P says -/
def zQc (g : ZG) (P : va_W → Prop) (mc ms : Nat) (A : Nat → Prop) (E : ZE) : State → Prop := match E with
  | (_, _, _, _, s, _, args, below, _, _) => MQ below (va_Qv P (fun w1 t => va_P g.1 zcls w1 t.heap ∧ va_D A w1) A) args s mc ms A
def zC (g : ZG) (l : Launch) (d mc ms : Nat) (K : ZK) (as : List Value) (w0 : va_W) (P : va_W → Prop) : Prop := ∀ sz : Nat, Met l K.1 (.code K.1 K.2.1 K.2.2.1 K.2.2.2 :: tb) (zrc d mc ms) (va_Pc as (fun U => U.heap.size = sz ∧ va_P g.1 zcls w0 U.heap ∧ va_D (fun _ => True) w0 ∧ zKX g U)) (va_Qv P (fun w1 t => va_P g.1 zcls w1 t.heap ∧ va_D (va_A w0 sz) w1) (va_A w0 sz)) mc ms (va_A w0 sz)
theorem zC_of {g : ZG} {l : Launch} {d mc ms : Nat} {K : ZK} {as : List Value} {w0 : va_W} {P : va_W → Prop} (hy : plainName K.1.cls = true) (hlen : (lg_sl as).length ≤ K.2.2.1) (body : ∀ (E : ZE) (A : Nat → Prop), zGv g K A (zrc d mc ms) E → zV g K A (zQc g P mc ms A) E w0 0 0 0 (zent as K.2.2.1) []) : zC g l d mc ms K as w0 P := by
  intro sz
  obtain ⟨y, cc, maxL, ret⟩ := K
  refine Met.ofW (cc := cc) (maxL := maxL) (ret := ret) hy rfl ?_
  intro p e s m args below meth c s₁ B hml hv
  obtain ⟨rfl, hsz, hP, hD0, hKX⟩ := hv
  have hts : ∀ w ∈ tb, w.before as.toArray s = true := fun w hw => atoms_spec (ws := .code y cc maxL ret :: tb) B.pre w (List.mem_cons_of_mem _ hw)
  have hown : s.vm.findClass y.cls = some m.cls := findClass_of_methodNamed B.named
  have hin : meth.name = y.name := (name_of_methodNamed B.named B.method).1
  subst hsz
  have hD := hD0.self (sz := s.heap.size)
  have hl := lv_entry as (n := maxL) hlen
  rw [lg_entry_eq]
  exact body (p, l, e, zrc d mc ms, s, m, as.toArray, below, meth, c) (va_A w0 s.heap.size) ⟨B.exec, B.bytes, hml, hown, hts, B.returns, B.notSynchronized, rfl, hin, hKX, fun q h => Or.inr h⟩ s.heap [] _ hP hD va_S.rf (zent_has hl)
def zMI (own : String) (idx : Nat) (K2 : ZK) (n : Nat) : Prop := (Cond.methodLink own idx K2.1 ∈ tb ∨ ∃ host, Cond.methodLinkNest own idx K2.1 host ∈ znest) ∧ Cond.instanceMethod K2.1 ∈ tb ∧ Cond.initialized K2.1.cls ∈ tb ∧ Cond.code K2.1 K2.2.1 K2.2.2.1 K2.2.2.2 ∈ tb ∧ K2.2.2.1 ≤ 21 ∧ K2.1.name = "<init>" ∧ K2.2.2.2 = none ∧ K2.1.cls ≠ "java/lang/invoke/MethodHandle" ∧ K2.1.cls ≠ "java/lang/invoke/VarHandle" ∧ (parseMethodDescriptor K2.1.desc).map (fun d => d.parameters.length) = some n
section ZV1
variable {g : ZG} {K K2 : ZK} {A : Nat → Prop} {Q : ZE → State → Prop} {rm : Room} {E : ZE} {ws : va_W} {cells slots pc : Nat} {lv lv2 : List (Option Value)} {st : List Value}
theorem zv_iconst {n : Int} {v : Int32} (G : zGv g K A rm E) (dg : decode K.2.1 pc = .ok (.iconst n, 1)) (hv : Int32.ofInt n = v) (k : zV g K A Q E ws cells slots (pc + 1) lv (.int v :: st)) : zV g K A Q E ws cells slots pc lv st := by
  obtain ⟨p, l, e, R, s, m, args, below, meth, c⟩ := E
  obtain ⟨hx, hb, -⟩ := G
  intro H locs ls hP hD hS hl
  exact lv_iconst hx hb dg hv (k H locs ls hP hD hS hl)
theorem zv_bipush {n : Int} {v : Int32} (G : zGv g K A rm E) (dg : decode K.2.1 pc = .ok (.bipush n, 2)) (hv : (Int8.ofInt n).toInt32 = v) (k : zV g K A Q E ws cells slots (pc + 2) lv (.int v :: st)) : zV g K A Q E ws cells slots pc lv st := by
  obtain ⟨p, l, e, R, s, m, args, below, meth, c⟩ := E
  obtain ⟨hx, hb, -⟩ := G
  intro H locs ls hP hD hS hl
  exact lv_bipush hx hb dg hv (k H locs ls hP hD hS hl)
theorem zv_sipush {n : Int} {v : Int32} (G : zGv g K A rm E) (dg : decode K.2.1 pc = .ok (.sipush n, 3)) (hv : (Int16.ofInt n).toInt32 = v) (k : zV g K A Q E ws cells slots (pc + 3) lv (.int v :: st)) : zV g K A Q E ws cells slots pc lv st := by
  obtain ⟨p, l, e, R, s, m, args, below, meth, c⟩ := E
  obtain ⟨hx, hb, -⟩ := G
  intro H locs ls hP hD hS hl
  exact lv_sipush hx hb dg hv (k H locs ls hP hD hS hl)
theorem zv_lconst {n : Fin 2} {v : Int64} (G : zGv g K A rm E) (dg : decode K.2.1 pc = .ok (.lconst n, 1)) (hv : Int64.ofNat (n : Nat) = v) (k : zV g K A Q E ws cells slots (pc + 1) lv (.long v :: st)) : zV g K A Q E ws cells slots pc lv st := by
  obtain ⟨p, l, e, R, s, m, args, below, meth, c⟩ := E
  obtain ⟨hx, hb, -⟩ := G
  intro H locs ls hP hD hS hl
  exact lv_lconst hx hb dg hv (k H locs ls hP hD hS hl)
theorem zv_aload {q : Fin 4} {x : Nat} (G : zGv g K A rm E) (dg : decode K.2.1 pc = .ok (.aload_n q, 1)) (hv : lv[(q : Nat)]? = some (some (.ref x))) (k : zV g K A Q E ws cells slots (pc + 1) lv (.ref x :: st)) : zV g K A Q E ws cells slots pc lv st := by
  obtain ⟨p, l, e, R, s, m, args, below, meth, c⟩ := E
  obtain ⟨hx, hb, -⟩ := G
  intro H locs ls hP hD hS hl
  exact lv_aload_n hx hb dg rfl (hl.2.2 _ _ hv) (k H locs ls hP hD hS hl)
theorem zv_iload {q : Fin 4} {x : Int32} (G : zGv g K A rm E) (dg : decode K.2.1 pc = .ok (.iload_n q, 1)) (hv : lv[(q : Nat)]? = some (some (.int x))) (k : zV g K A Q E ws cells slots (pc + 1) lv (.int x :: st)) : zV g K A Q E ws cells slots pc lv st := by
  obtain ⟨p, l, e, R, s, m, args, below, meth, c⟩ := E
  obtain ⟨hx, hb, -⟩ := G
  intro H locs ls hP hD hS hl
  exact lv_iload_n hx hb dg rfl (hl.2.2 _ _ hv) (k H locs ls hP hD hS hl)
theorem zv_istore {q : Fin 4} {x : Int32} (G : zGv g K A rm E) (dg : decode K.2.1 pc = .ok (.istore_n q, 1)) (hn : (q : Nat) < K.2.2.1) (hq : zst1 lv (q : Nat) (.int x) = lv2) (k : zV g K A Q E ws cells slots (pc + 1) lv2 st) : zV g K A Q E ws cells slots pc lv (.int x :: st) := by
  obtain ⟨p, l, e, R, s, m, args, below, meth, c⟩ := E
  obtain ⟨hx, hb, -⟩ := G
  intro H locs ls hP hD hS hl
  exact lv_istore_n hx hb dg rfl (zl_to hl) hn rfl (fun ls2 h2 => k H locs ls2 hP hD hS (hq ▸ zl_st1 h2))
theorem zv_astore {q : Fin 4} {x : Nat} (G : zGv g K A rm E) (dg : decode K.2.1 pc = .ok (.astore_n q, 1)) (hn : (q : Nat) < K.2.2.1) (hq : zst1 lv (q : Nat) (.ref x) = lv2) (k : zV g K A Q E ws cells slots (pc + 1) lv2 st) : zV g K A Q E ws cells slots pc lv (.ref x :: st) := by
  obtain ⟨p, l, e, R, s, m, args, below, meth, c⟩ := E
  obtain ⟨hx, hb, -⟩ := G
  intro H locs ls hP hD hS hl
  exact lv_astore_n hx hb dg rfl (zl_to hl) hn rfl (fun ls2 h2 => k H locs ls2 hP hD hS (hq ▸ zl_st1 h2))
theorem zv_iinc {q : Nat} {n : Int} {x v : Int32} (G : zGv g K A rm E) (dg : decode K.2.1 pc = .ok (.iinc q n, 3)) (hn : q < K.2.2.1) (hv : lv[q]? = some (some (.int x))) (hc : Int32.ofInt n = v) (hq : zst1 lv q (.int (x + v)) = lv2) (k : zV g K A Q E ws cells slots (pc + 3) lv2 st) : zV g K A Q E ws cells slots pc lv st := by
  obtain ⟨p, l, e, R, s, m, args, below, meth, c⟩ := E
  obtain ⟨hx, hb, -⟩ := G
  intro H locs ls hP hD hS hl
  obtain ⟨k9, hk9⟩ := zasl_at hv
  exact lv_iinc hx hb dg (zl_to hl) hk9 (by rw [hc]) hn rfl (fun ls2 h2 => k H locs ls2 hP hD hS (hq ▸ zl_st1 h2))
theorem zv_goto {off : Int} {tgt : Nat} (G : zGv g K A rm E) (dg : decode K.2.1 pc = .ok (.goto off, 3)) (ht : (pc : Int) + off = (tgt : Int)) (k : zV g K A Q E ws cells slots tgt lv st) : zV g K A Q E ws cells slots pc lv st := by
  obtain ⟨p, l, e, R, s, m, args, below, meth, c⟩ := E
  obtain ⟨hx, hb, -⟩ := G
  intro H locs ls hP hD hS hl
  exact lv_goto hx hb dg ht (k H locs ls hP hD hS hl)
theorem zv_icmpge {x y : Int32} {off : Int} {tgt : Nat} (G : zGv g K A rm E) (dg : decode K.2.1 pc = .ok (.if_icmp .ge off, 3)) (ht : (pc : Int) + off = (tgt : Int)) (k1 : y ≤ x → zV g K A Q E ws cells slots tgt lv st) (k2 : ¬ y ≤ x → zV g K A Q E ws cells slots (pc + 3) lv st) : zV g K A Q E ws cells slots pc lv (.int y :: .int x :: st) := by
  obtain ⟨p, l, e, R, s, m, args, below, meth, c⟩ := E
  obtain ⟨hx, hb, -⟩ := G
  intro H locs ls hP hD hS hl
  exact lv_icmp_ge hx hb dg ht (fun q => k1 q H locs ls hP hD hS hl) (fun q => k2 q H locs ls hP hD hS hl)
theorem zv_dup {va : Value} (G : zGv g K A rm E) (dg : decode K.2.1 pc = .ok (.dup, 1)) (h1 : va.category = 1) (k : zV g K A Q E ws cells slots (pc + 1) lv (va :: va :: st)) : zV g K A Q E ws cells slots pc lv (va :: st) := by
  obtain ⟨p, l, e, R, s, m, args, below, meth, c⟩ := E
  obtain ⟨hx, hb, -⟩ := G
  intro H locs ls hP hD hS hl
  exact lv_dup hx hb dg h1 (k H locs ls hP hD hS hl)
theorem zv_oi {idx a : Nat} (G : zGv g K A rm E) (dg : decode K.2.1 pc = .ok (.invokespecial idx, 3)) (w1 : Cond.methodLink K.1.cls idx objectInit ∈ tb) (w2 : Cond.instanceMethod objectInit ∈ tb) (w3 : Cond.code objectInit ⟨#[0xb1]⟩ 1 none ∈ tb) (hf : 1 ≤ rm.frames) (hlc : 12 ≤ rm.locals) (k : zV g K A Q E ws cells slots (pc + 3) lv []) : zV g K A Q E ws cells slots pc lv [.ref a] := by
  obtain ⟨p, l, e, R, s, m, args, below, meth, c⟩ := E
  obtain ⟨hx, hb, hml, hown, hts, hr, hlk, hR, hin, hKX, hA⟩ := G
  subst hR
  intro H locs ls hP hD hS hl
  refine W.objInit hx hb hown (hts _ w1) (hts _ w2) (hts _ w3) rfl (by rw [hml]; exact hl.1) rfl dg hf (by simpa using hlc) ?_
  exact W.eq (g2 := F0 m (pc + 3) ls []) rfl (k H locs ls hP hD hS hl)
theorem zv_new {idx ci N : Nat} {C : String} {T : u_T} {fs : List Value} (G : zGv g K A rm E) (dg : decode K.2.1 pc = .ok (.new idx, 3)) (hc : zcls[ci]? = some (C, T, N)) (hL : ∀ w ∈ u_ws C T N, w ∈ tb) (Y : Nat → FieldType) (hY : ∀ k, k < N → parseFieldDescriptor (T k).2.2.1 = some (Y k)) (w1 : Cond.classLink K.1.cls idx C ∈ tb) (w2 : Cond.instantiable C N ∈ tb) (w3 : Cond.initialized C ∈ tb) (hfs : ∀ j, j < N → defaultValue (Y j) = vp_V fs j) (h1 : cells + 1 ≤ rm.cells) (h2 : slots + N ≤ rm.slots) (k : ∀ q, zV g K A Q E (ws ++ [(q, .inr (ci, fs))]) (cells + 1) (slots + N) (pc + 3) lv (.ref q :: st)) : zV g K A Q E ws cells slots pc lv st := by
  obtain ⟨p, l, e, R, s, m, args, below, meth, c⟩ := E
  obtain ⟨hx, hb, hml, hown, hts, hr, hlk, hR, hin, hKX, hA⟩ := G
  subst hR
  intro H locs ls hP hD hS hl
  exact va_new hx hb hts hL Y hY hown (hts _ w1) (hts _ w2) (hts _ w3) hKX.1 hP hD hS hA hc hfs h1 h2 dg (fun q H1 hP1 hD1 hS1 => k q H1 locs ls hP1 hD1 hS1 hl)
/-- one cell more, at the end of the heap -/
theorem zpush {H H1 : Heap} {s : State} {locs : List Loc} {cA : ClassId} {a0 : vp_A} (hP : va_P g.1 zcls ws H) (hD : va_D A ws) (hS : va_S A s.heap H locs) (hA : ∀ q : Nat, s.heap.size ≤ q → A q) (h1 : H1[H.size]? = some (vp_cell cA a0)) (hz : H1.size = H.size + 1) (ho : ∀ q : Nat, q < H.size → H1[q]? = H[q]?) : va_P g.1 zcls (ws ++ [(H.size, .inl (cA, a0))]) H1 ∧ va_D A (ws ++ [(H.size, .inl (cA, a0))]) ∧ va_S A s.heap H1 locs := by
  have hk : ∀ (k : Nat) (x : Nat × va_E), ws[k]? = some x → H1[x.1]? = H[x.1]? := fun k x hx => ho x.1 ((hP k x hx).lt)
  refine ⟨(hP.kept hk).app (fun k x hx => ?_), hD.push hP rfl (hA _ hS.1), ⟨Nat.le_trans hS.1 (by omega), fun x q1 q2 => (ho x (Nat.lt_of_lt_of_le q1 hS.1)).trans (hS.2.1 x q1 q2), hS.2.2⟩⟩
  have hz : k < 1 := (List.getElem?_eq_some_iff.mp hx).1
  rw [show k = 0 by omega] at hx
  cases hx
  exact h1
theorem zv_newa {atype : ArrayType} {n : Int32} {N' t : Nat} {a0 : vp_A} (G : zGv g K A rm E) (dg : decode K.2.1 pc = .ok (.newarray atype, 2)) (w1 : Cond.arrayClass (newarray.typeOf atype) ∈ tb) (hfc : ∀ s, zAC g s → s.vm.findClass ("[" ++ (newarray.typeOf atype).toString) = some (g.2.2 t)) (ha : ∀ cA : ClassId, vp_cell cA a0 = arrV cA N' (fun _ => defaultValue (newarray.typeOf atype))) (hn : ¬ n < 0) (hN : n.toNatClampNeg = N') (hby : N' * componentBytes (newarray.typeOf atype) ≤ 536870912) (h1 : cells + 1 ≤ rm.cells) (h2 : slots + N' ≤ rm.slots) (k : ∀ q, zV g K A Q E (ws ++ [(q, .inl (g.2.2 t, a0))]) (cells + 1) (slots + N') (pc + 2) lv (.ref q :: st)) : zV g K A Q E ws cells slots pc lv (.int n :: st) := by
  obtain ⟨p, l, e, R, s, m, args, below, meth, c⟩ := E
  obtain ⟨hx, hb, hml, hown, hts, hr, hlk, hR, hin, hKX, hA⟩ := G
  subst hR
  intro H locs ls hP hD hS hl
  refine va_newaK (g := F0 m pc ls (.int n :: st)) hx hb (hts _ w1) rfl dg rfl hn hN hby h1 h2 rfl (fun H' cA e1 e2 e3 e4 e5 => ?_)
  have ec : cA = g.2.2 t := Option.some.inj (e5.symm.trans (hfc s hKX.2.2))
  subst ec
  obtain ⟨q1, q2, q3⟩ := zpush (cA := g.2.2 t) (a0 := a0) hP hD hS hA (by rw [ha]; exact e1) e2 e3
  exact k H.size H' locs ls q1 q2 q3 hl
theorem zv_anew {idx : Nat} {n : Int32} {N' : Nat} (G : zGv g K A rm E) (dg : decode K.2.1 pc = .ok (.anewarray idx, 3)) (w1 : Cond.classLink K.1.cls idx "ThinkNumber$Table" ∈ tb) (hn : ¬ n < 0) (hN : n.toNatClampNeg = N') (hby : N' * 4 ≤ 536870912) (h1 : cells + 1 ≤ rm.cells) (h2 : slots + N' ≤ rm.slots) (k : ∀ q, zV g K A Q E (ws ++ [(q, .inl (g.2.2 4, N', .inr (.inr (.inr (.inr (fun _ => none))))))]) (cells + 1) (slots + N') (pc + 3) lv (.ref q :: st)) : zV g K A Q E ws cells slots pc lv (.int n :: st) := by
  obtain ⟨p, l, e, R, s, m, args, below, meth, c⟩ := E
  obtain ⟨hx, hb, hml, hown, hts, hr, hlk, hR, hin, hKX, hA⟩ := G
  subst hR
  intro H locs ls hP hD hS hl
  subst hN
  refine W.anew (g := F0 m pc ls (.int n :: st)) hx hb hown (hts _ w1) (va_AO.use hKX.2.2.2.2.2.2.2.2.1) rfl dg rfl hn hby h1 h2 (fun cA kA comp f1 f2 f3 f4 => ?_)
  have ec : cA = g.2.2 4 := Option.some.inj (f1.symm.trans hKX.2.2.2.2.2.2.1)
  subst ec
  obtain ⟨q1, q2, q3⟩ := zpush (H1 := H.push ({ cls := g.2.2 4, slots := Array.replicate n.toNatClampNeg .null, vm := .none } : Cell)) (cA := g.2.2 4) (a0 := (n.toNatClampNeg, .inr (.inr (.inr (.inr (fun _ => none)))))) hP hD hS hA (by rw [Array.getElem?_push_size, vp_cell_q, arrV_new]; rfl) (by rw [Array.size_push]) (fun q hq => by rw [Array.getElem?_push, if_neg (Nat.ne_of_lt hq)])
  exact k H.size _ locs ls q1 q2 q3 hl
end ZV1
