/-! rows of rows: long[6][100] -/
def zgF (h i j : Nat) : Value := if j < i then .ref (h + 1 + j) else .null
def zgO (cA : ClassId) (h i : Nat) : Cell := { cls := cA, slots := #[zgF h i 0, zgF h i 1, zgF h i 2, zgF h i 3, zgF h i 4, zgF h i 5], vm := .none }
def zgI (cI : ClassId) : Cell := { cls := cI, slots := Array.replicate 100 (.long 0), vm := .none }
def zgS (T : State) (cA cI : ClassId) : Nat → State
  | 0 => T.pushCell (zgO cA T.heap.size 0)
  | i + 1 => ((zgS T cA cI i).pushCell (zgI cI)).setCell T.heap.size (zgO cA T.heap.size (i + 1))
theorem zgO_0 {cA : ClassId} {h : Nat} : ({ cls := cA, slots := Array.replicate 6 Value.null, vm := .none } : Cell) = zgO cA h 0 := by
  unfold zgO zgF
  simp [Array.replicate, List.replicate]
theorem zgO_next {cA : ClassId} {h i : Nat} (hi : i < 6) : (zgO cA h i).setSlot i (.ref (h + 1 + i)) = zgO cA h (i + 1) := by
  have : i = 0 ∨ i = 1 ∨ i = 2 ∨ i = 3 ∨ i = 4 ∨ i = 5 := by omega
  rcases this with rfl | rfl | rfl | rfl | rfl | rfl <;> rfl
theorem zgS_facts {T : State} {cA cI : ClassId} : ∀ i, (zgS T cA cI i).heap.size = T.heap.size + 1 + i ∧ (zgS T cA cI i).heap[T.heap.size]? = some (zgO cA T.heap.size i) ∧ (zgS T cA cI i).vm = T.vm ∧ (zgS T cA cI i).slotsUsed = T.slotsUsed + 6 + i * 100
  | 0 => ⟨by simp [zgS], by simp [zgS], rfl, by simp [zgS, zgO]⟩
  | i + 1 => by
    obtain ⟨a, b, d, u⟩ := zgS_facts (T := T) (cA := cA) (cI := cI) i
    have hlt : T.heap.size < (zgS T cA cI i).heap.size := by omega
    have hb' : ((zgS T cA cI i).pushCell (zgI cI)).heap[T.heap.size]? = some (zgO cA T.heap.size i) := by rw [State.heap_pushCell_of_lt (h := hlt)]; exact b
    refine ⟨?_, State.heap_setCell_self hb', by simp [zgS, d], ?_⟩
    · simp [zgS, State.setCell, a]; omega
    · simp [zgS, u, zgI, Nat.succ_mul]; omega
theorem zgS_old {T : State} {cA cI : ClassId} {a : Addr} (ha : a < T.heap.size) : ∀ i, (zgS T cA cI i).heap[a]? = T.heap[a]?
  | 0 => State.heap_pushCell_of_lt _ _ ha
  | i + 1 => by
    have f1 := (zgS_facts (T := T) (cA := cA) (cI := cI) i).1
    have hlt : a < (zgS T cA cI i).heap.size := Nat.lt_of_lt_of_le ha (by rw [f1]; omega)
    show (((zgS T cA cI i).pushCell (zgI cI)).setCell T.heap.size _).heap[a]? = _
    rw [State.heap_setCell_other (Nat.ne_of_gt ha), State.heap_pushCell_of_lt (h := hlt)]
    exact zgS_old ha i
theorem zgS_row {T : State} {cA cI : ClassId} : ∀ i j, j < i → (zgS T cA cI i).heap[T.heap.size + 1 + j]? = some (zgI cI)
  | 0, j, h => by omega
  | i + 1, j, h => by
    have f1 := (zgS_facts (T := T) (cA := cA) (cI := cI) i).1
    show (((zgS T cA cI i).pushCell (zgI cI)).setCell T.heap.size _).heap[T.heap.size + 1 + j]? = _
    rw [State.heap_setCell_other (Nat.ne_of_lt (show T.heap.size < T.heap.size + 1 + j by omega))]
    by_cases e : j = i
    · subst e
      rw [← f1]
      simp
    · rw [State.heap_pushCell_of_lt (h := show T.heap.size + 1 + j < (zgS T cA cI i).heap.size by rw [f1]; omega)]
      exact zgS_row i j (by omega)
section ZGrid
variable {p : Program} {l : Launch} {e : Env} {R : Room} {s : State} {m : MethodId} {args : Array Value} {below : List Frame} {meth : Method} {c : Code} {T : State} {locs : List Loc} {cells slots : Nat}
theorem zgS_stand (X : Stand p l e R s m args below meth c T locs cells slots) (cA cI : ClassId) : ∀ i, i ≤ 6 → Stand p l e R s m args below meth c (zgS T cA cI i) (locs ++ (List.range i).map fun j => ⟨T.heap.size, j⟩) (cells + 1 + i) (slots + 6 + i * 100)
  | 0, _ => by
    have h := X.pushed (zgO cA T.heap.size 0)
    simpa [zgS, zgO] using h
  | i + 1, hi => by
    have Xi := zgS_stand X cA cI i (by omega)
    obtain ⟨f1, f2, f3, f4⟩ := zgS_facts (T := T) (cA := cA) (cI := cI) i
    have hlt0 : T.heap.size < (zgS T cA cI i).heap.size := by omega
    have hcell : ((zgS T cA cI i).pushCell (zgI cI)).heap[T.heap.size]? = some (zgO cA T.heap.size i) := by rw [State.heap_pushCell_of_lt (h := hlt0)]; exact f2
    have h := (Xi.pushed (zgI cI)).stored hcell i (.ref (T.heap.size + 1 + i))
    rw [zgO_next (by omega), show (zgI cI).slots.size = 100 by simp [zgI]] at h
    rw [List.range_succ, List.map_append, ← List.append_assoc, show slots + 6 + (i + 1) * 100 = slots + 6 + i * 100 + 100 by omega]
    exact h
end ZGrid
section ZGridW
variable {E : CtlPost} {e : Env} {d : Bool} {acts : List Action} {s : State}
theorem zg_inner {cI cc : ClassId} {kI : Class} {T : State} {d : Bool} {acts : List Action} (hkc : T.vm.classes[cI]? = some kI) (hkind : kI.kind = .array cc .long) (hl : ¬ 100 > e.platform.arrayLengthLimit) (hh : ¬ 100 * componentBytes .long > e.platform.maxHeapBytes) (h1 : T.heap.size < e.platform.maxCells) (h2 : T.slotsUsed + 100 ≤ e.platform.maxSlots) {Q : Addr → Pre} (hq : ∀ acts', Q T.heap.size d acts' (T.pushCell (zgI cI))) : wp (multianewarray.make cI [100]) Q E e d acts T := by
  rw [multianewarray.make]
  simp only [wp_bind', W.ite, show ¬ (100 : Int32) < 0 by decide, if_false, wp_pure', W.theClass, hkc, hkind, Option.some.injEq, exists_eq_left']
  exact W.newArray_of hkc hkind hl hh h1 h2 rfl (fun a' => hq a')
theorem zg_loop {cA cI cc : ClassId} {kA kI : Class} {T : State} (hkA : T.vm.classes[cA]? = some kA) (hkindA : kA.kind = .array cI (.array .long)) (hkc : T.vm.classes[cI]? = some kI) (hkind : kI.kind = .array cc .long) (hl : ¬ 100 > e.platform.arrayLengthLimit) (hh : ¬ 100 * componentBytes .long > e.platform.maxHeapBytes) (h1 : T.heap.size + 7 ≤ e.platform.maxCells) (h2 : T.slotsUsed + 606 ≤ e.platform.maxSlots) {Q : PUnit → Pre} (hq : ∀ d' acts', Q PUnit.unit d' acts' (zgS T cA cI 6)) :
    ∀ (r i : Nat) (d : Bool) (acts : List Action), i + r = 6 → wp (forIn (List.range' i r 1) PUnit.unit (fun j (_ : PUnit) => (do
      Jvm.writeLoc T.heap.size j (.ref (← multianewarray.make cI [100]))
      Pure.pure (ForInStep.yield PUnit.unit) : Sem (ForInStep PUnit)))) Q E e d acts (zgS T cA cI i)
  | 0, i, d, acts, h => by
    simp only [List.range'_zero, List.forIn_nil, wp_pure', show i = 6 by omega]
    exact hq _ _
  | r + 1, i, d, acts, h => by
    obtain ⟨f1, f2, f3, f4⟩ := zgS_facts (T := T) (cA := cA) (cI := cI) i
    rw [List.range'_succ, List.forIn_cons]
    simp only [wp_bind']
    refine zg_inner (by rw [f3]; exact hkc) hkind hl hh (by rw [f1]; omega) (by rw [f4]; omega) (fun acts' => ?_)
    have hlt0 : T.heap.size < (zgS T cA cI i).heap.size := by rw [f1]; omega
    simp only [wp_bind', W.writeLoc, wp_pure']
    refine ⟨zgO cA T.heap.size i, by rw [State.heap_pushCell_of_lt (h := hlt0)]; exact f2, by simp [zgO], by simp [zgO]; omega, ?_, ?_⟩
    · simp [State.fitsSlot, State.slotType?, zgO, f3, hkA, hkindA, fits]
    · have := zg_loop hkA hkindA hkc hkind hl hh h1 h2 hq r (i + 1) true (writeActs ⟨T.heap.size, i⟩ .plain (.ref (zgS T cA cI i).heap.size) acts') (by omega)
      rw [f1, zgO_next (by omega)]
      rw [f1] at this
      exact this
end ZGridW
section ZGridR
variable {p : Program} {l : Launch} {e : Env} {R : Room} {s : State} {m : MethodId} {args : Array Value} {below : List Frame} {meth : Method} {c : Code} {H : Heap} {locs : List Loc} {cells slots : Nat} {Q : State → Prop}
theorem z_mna {cc : ByteArray} (hexec : p.tables.exec = Jvm.exec) (hb : c.code = cc) {own : String} {index : Nat} (hown : s.vm.findClass own = some m.cls) (hclink : (Cond.classLink own index "[[J").before args s = true) (hover : (Cond.arrayOver (.array .long)).before args s = true) (harr : (Cond.arrayClass .long).before args s = true)
    {pc : Nat} {ls : Array Slot} (hdg : decode cc pc = .ok (.multianewarray index 2, 4)) {rest : List Value} (hcells : cells + 7 ≤ R.cells) (hslots : slots + 606 ≤ R.slots)
    (kk : ∀ (cA cI : ClassId) (kA kI : Class) (comp : ClassId) (H' : Heap) (locs' : List Loc), s.vm.findClass "[[J" = some cA → s.vm.findClass "[J" = some cI → s.vm.classes[cA]? = some kA → kA.kind = .array cI (.array .long) → s.vm.classes[cI]? = some kI → kI.kind = .array comp .long → H'.size = H.size + 7 → H'[H.size]? = some (zgO cA H.size 6) → (∀ j : Nat, j < 6 → H'[H.size + 1 + j]? = some (zgI cI)) → (∀ q : Nat, q < H.size → H'[q]? = H[q]?) → (∀ x ∈ locs', x ∈ locs ∨ x.base = H.size) →
      W p l e R s m args below meth c H' locs' (cells + 7) (slots + 606) Q (F0 m (pc + 4) ls (.ref H.size :: rest))) : W p l e R s m args below meth c H locs cells slots Q (F0 m pc ls (.int 100 :: .int 6 :: rest)) := by
  intro T hT X
  subst hT; subst hb
  have hpl : e.platform.magicAccessors = ({} : Platform).magicAccessors := by rw [X.admits.platform]
  obtain ⟨cI, cA, kA, hcomp, hidx, hkA, hkindA, hnameA⟩ := arrayOverA_spec hover
  obtain ⟨cI', kI, comp, hcomp', hkI, hkindI⟩ := Cond.arrayClass_spec harr
  have ecomp : cI' = cI := Option.some.inj (hcomp'.symm.trans hcomp)
  subst ecomp
  obtain ⟨c0, hfc0, hcl⟩ := Cond.classLink_spec hown hclink e.platform hpl
  have e0 : cA = c0 := Option.some.inj (hnameA.symm.trans hfc0)
  subst e0
  obtain ⟨hg₁, hwarm₁, hready₁⟩ := State.classEntry (e := e) X.warmed hcl
  generalize T.vm.noted m.cls index (.cls cA) = vm₁ at hg₁ hwarm₁ hready₁
  have hal : s.vm.Alike vm₁ := hwarm₁.alike
  obtain ⟨kA₁, hkA₁, heA⟩ := hal.2.2 _ _ hkA
  obtain ⟨kI₁, hkI₁, heI⟩ := hal.2.2 _ _ hkI
  have hkindA₁ : kA₁.kind = .array cI' (.array .long) := by rw [heA]; exact hkindA
  have hkindI₁ : kI₁.kind = .array comp .long := by rw [heI]; exact hkindI
  have X₁ := X.noted hwarm₁
  obtain ⟨hr1, hr2⟩ := X.roomAbove hcells hslots
  have XF := zgS_stand X₁ cA cI' 6 (by omega)
  obtain ⟨f1, f2, f3, f4⟩ := zgS_facts (T := T.setVm vm₁) (cA := cA) (cI := cI') 6
  obtain ⟨t, a1, b1⟩ := kk cA cI' kA kI comp (zgS (T.setVm vm₁) cA cI' 6).heap _ hnameA hcomp hkA hkindA hkI hkindI (by rw [f1]; rfl) f2 (fun j hj => zgS_row 6 j hj) (fun q hq => zgS_old (T := T.setVm vm₁) hq 6) (fun x hx => by
    rcases List.mem_append.mp hx with h | h
    · exact Or.inl h
    · obtain ⟨j, -, rfl⟩ := List.mem_map.mp h
      exact Or.inr rfl) _ rfl XF
  refine ⟨t, ?_, b1⟩
  have hl1 : ¬ 6 > e.platform.arrayLengthLimit := by rw [Launch.admits_arrayLengthLimit X.admits]; omega
  have hh1 : ¬ 6 * componentBytes (.array .long) > e.platform.maxHeapBytes := by
    rw [Launch.admits_maxHeapBytes X.admits]; show ¬ 6 * 4 > 536870912; omega
  have hl2 : ¬ 100 > e.platform.arrayLengthLimit := by rw [Launch.admits_arrayLengthLimit X.admits]; omega
  have hh2 : ¬ 100 * componentBytes .long > e.platform.maxHeapBytes := by
    rw [Launch.admits_maxHeapBytes X.admits]; show ¬ 100 * 8 > 536870912; omega
  jvm_step X.here [hexec, hdg]
  simp only [multianewarray.sem, wp_bind', W.resolveClassAt_links (State.method?_setTop (F0 m pc ls (.int 100 :: .int 6 :: rest)) X.here.top) hg₁]
  rw [W.popN, if_neg (by decide)]
  refine ⟨F0 m pc ls (.int 100 :: .int 6 :: rest), State.topJava?_setTop' (s := T.setVm vm₁) _ X.here.top, [.int 6, .int 100], rest, rfl, rfl, ?_⟩
  simp only [List.mapM_cons, List.mapM_nil, wp_bind', wp_pure']
  rw [multianewarray.make]
  have eS : ((T.setTop (F0 m pc ls (.int 100 :: .int 6 :: rest))).setVm vm₁).setTop { F0 m pc ls (.int 100 :: .int 6 :: rest) with stack := rest } = (T.setVm vm₁).setTop (F0 m pc ls rest) := by
    show ((T.setVm vm₁).setTop _).setTop _ = _
    rw [State.setTop_setTop]
  rw [eS]
  obtain ⟨Z, hZ⟩ : ∃ Z, Z = (T.setVm vm₁).setTop (F0 m pc ls rest) := ⟨_, rfl⟩
  have zv : Z.vm = vm₁ := by rw [hZ]; rfl
  have zh : Z.heap = T.heap := by rw [hZ]; simp
  have zu : Z.slotsUsed = T.slotsUsed := by rw [hZ]; rfl
  rw [← hZ]
  simp only [wp_bind', W.ite, show ¬ (6 : Int32) < 0 by decide, if_false, wp_pure', W.theClass, zv, hkA₁, hkindA₁, Option.some.injEq, exists_eq_left']
  refine W.newArray_of (by rw [zv]; exact hkA₁) hkindA₁ hl1 hh1 (by rw [zh]; omega) (by rw [zu]; show T.slotsUsed + 6 ≤ _; omega) rfl (fun acts' => ?_)
  simp only [show ((6 : Int32) == 0) = false from rfl, Bool.false_eq_true, if_false]
  rw [wp_bind', Std.Legacy.Range.forIn_eq_forIn_range']
  have h6 : (6 : Int32).toNatClampNeg = 6 := rfl
  rw [h6, zgO_0 (h := Z.heap.size)]
  refine zg_loop (T := Z) (cA := cA) (cI := cI') (by rw [zv]; exact hkA₁) hkindA₁ (by rw [zv]; exact hkI₁) hkindI₁ hl2 hh2 (by rw [zh]; exact hr1) (by rw [zu]; exact hr2) (fun d' acts2 => ?_) 6 0 true acts' rfl
  have eF : ∀ i, zgS Z cA cI' i = (zgS (T.setVm vm₁) cA cI' i).setTop (F0 m pc ls rest) := by
    intro i
    induction i with
    | zero => rw [hZ]; simp only [zgS, State.heap_setTop, State.pushCell_setTop]
    | succ i ih => simp only [zgS, ih, zh, State.pushCell_setTop, State.setCell_setTop]; rfl
  rw [eF]
  simp only [wp_pure', wp_bind', W.mark, W.pushRef, State.topJava?_setTop' _ XF.here.top, Option.some.injEq, exists_eq_left', State.setTop_setTop, State.heap_setTop]
  intro acts
  simp [jvm, XF.here.top]
  rw [zh]
  exact a1
end ZGridR
