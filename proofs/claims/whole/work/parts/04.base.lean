/-! the base: worlds by registers, the judgement zX, one row an instruction (by hand) -/
abbrev ZK : Type := MethodName × ByteArray × Nat × Option FieldType
abbrev ZE : Type := Program × Launch × Env × Room × State × MethodId × Array Value × List Frame × Method × Code
abbrev ZR : Type := Option Value × ZMem
def zsetI (μ : ZMem) (k i x : Nat) (v : Int32) : ZMem := (fun k' i' => if k' = k ∧ i' = i then upd (μ.1 k' i') x v else μ.1 k' i', μ.2)
def zsetJ (μ : ZMem) (k i x : Nat) (v : Int64) : ZMem := (μ.1, fun k' i' => if k' = k ∧ i' = i then vp_updL (μ.2 k' i') x v else μ.2 k' i')
def zputI (μ : ZMem) (k i : Nat) (f : Nat → Int32) : ZMem := (fun k' i' => if k' = k ∧ i' = i then f else μ.1 k' i', μ.2)
def zputJ (μ : ZMem) (k i : Nat) (f : Nat → Int64) : ZMem := (μ.1, fun k' i' => if k' = k ∧ i' = i then f else μ.2 k' i')
theorem zsetI_put (μ : ZMem) (k i x : Nat) (v : Int32) : zsetI μ k i x v = zputI μ k i (upd (μ.1 k i) x v) := by
  unfold zsetI zputI
  congr 1
  funext k' i'
  by_cases h : k' = k ∧ i' = i
  · obtain ⟨rfl, rfl⟩ := h
    simp
  · simp [h]
theorem zsetJ_put (μ : ZMem) (k i x : Nat) (v : Int64) : zsetJ μ k i x v = zputJ μ k i (vp_updL (μ.2 k i) x v) := by
  unfold zsetJ zputJ
  congr 1
  funext k' i'
  by_cases h : k' = k ∧ i' = i
  · obtain ⟨rfl, rfl⟩ := h
    simp
  · simp [h]
def zws (g : ZG) (μ : ZMem) : va_W := zids.map (fun q => (g.2.1 q.1 q.2, zcel g (μ.1 q.1 q.2) (μ.2 q.1 q.2) q.1 q.2))
def zA (g : ZG) : Nat → Prop := fun q => ∃ p ∈ zids, q = g.2.1 p.1 p.2
def zInj (g : ZG) : Prop := ∀ p ∈ zids, ∀ q ∈ zids, g.2.1 p.1 p.2 = g.2.1 q.1 q.2 → p = q
theorem zws_at (g : ZG) (μ : ZMem) {k i : Nat} (h : (k, i) ∈ zids) : ∃ q0 : Nat, zids[q0]? = some (k, i) ∧ (zws g μ)[q0]? = some (g.2.1 k i, zcel g (μ.1 k i) (μ.2 k i) k i) := by
  obtain ⟨q0, h0⟩ := List.getElem?_of_mem h
  exact ⟨q0, h0, by unfold zws; rw [List.getElem?_map, h0]; rfl⟩
theorem zws_D {g : ZG} (hg : zInj g) (μ : ZMem) : va_D (zA g) (zws g μ) := by
  refine ⟨fun i j p q hi hj hpq => ?_, fun k q hk => ?_⟩
  · unfold zws at hi hj
    rw [List.getElem?_map] at hi hj
    cases hi' : zids[i]? with
    | none => rw [hi'] at hi; cases hi
    | some a =>
      cases hj' : zids[j]? with
      | none => rw [hj'] at hj; cases hj
      | some b =>
        rw [hi'] at hi
        rw [hj'] at hj
        cases hi
        cases hj
        have e := hg a (List.mem_of_getElem? hi') b (List.mem_of_getElem? hj') hpq
        subst e
        have h1 : i < zids.length := (List.getElem?_eq_some_iff.mp hi').1
        have h2 := (List.getElem?_inj h1 zids_nd).mp (hi'.trans hj'.symm)
        exact h2
  · unfold zws at hk
    rw [List.getElem?_map] at hk
    cases hk' : zids[k]? with
    | none => rw [hk'] at hk; cases hk
    | some a =>
      rw [hk'] at hk
      cases hk
      exact ⟨a, List.mem_of_getElem? hk', rfl⟩
theorem zws_set {g : ZG} {μ μ' : ZMem} {k i q0 : Nat} (h0 : zids[q0]? = some (k, i)) (hI : ∀ k' i', ¬ (k' = k ∧ i' = i) → μ'.1 k' i' = μ.1 k' i') (hJ : ∀ k' i', ¬ (k' = k ∧ i' = i) → μ'.2 k' i' = μ.2 k' i') : (zws g μ).set q0 (g.2.1 k i, zcel g (μ'.1 k i) (μ'.2 k i) k i) = zws g μ' := by
  apply List.ext_getElem?
  intro n
  have hl : q0 < zids.length := (List.getElem?_eq_some_iff.mp h0).1
  unfold zws
  by_cases hn : n = q0
  · subst hn
    rw [List.getElem?_set_self (by rw [List.length_map]; exact hl), List.getElem?_map, h0]
    rfl
  · rw [List.getElem?_set_ne (fun e => hn e.symm), List.getElem?_map, List.getElem?_map]
    cases hk' : zids[n]? with
    | none => rfl
    | some a =>
      obtain ⟨a1, a2⟩ := a
      have hne : ¬ (a1 = k ∧ a2 = i) := fun e => by
        obtain ⟨rfl, rfl⟩ := e
        have h1 : n < zids.length := (List.getElem?_eq_some_iff.mp hk').1
        exact hn ((List.getElem?_inj h1 zids_nd).mp (hk'.trans h0.symm))
      simp only [Option.map_some, hI a1 a2 hne, hJ a1 a2 hne]
theorem zput_setI {g : ZG} {μ : ZMem} {k i q0 : Nat} {f : Nat → Int32} (h0 : zids[q0]? = some (k, i)) : (zws g μ).set q0 (g.2.1 k i, zcel g f (μ.2 k i) k i) = zws g (zputI μ k i f) := by
  have h := zws_set (g := g) (μ := μ) (μ' := zputI μ k i f) h0 (fun k' i' hn => by simp [zputI, hn]) (fun _ _ _ => rfl)
  rw [← h]
  simp [zputI]
theorem zput_setJ {g : ZG} {μ : ZMem} {k i q0 : Nat} {f : Nat → Int64} (h0 : zids[q0]? = some (k, i)) : (zws g μ).set q0 (g.2.1 k i, zcel g (μ.1 k i) f k i) = zws g (zputJ μ k i f) := by
  have h := zws_set (g := g) (μ := μ) (μ' := zputJ μ k i f) h0 (fun _ _ _ => rfl) (fun k' i' hn => by simp [zputJ, hn])
  rw [← h]
  simp [zputJ]
abbrev ztys (g : ZG) : List (ClassId × FieldType) := [(g.2.2 0, .int), (g.2.2 1, .long), (g.2.2 2, .byte), (g.2.2 3, .boolean), (g.2.2 4, .object "ThinkNumber$Table"), (g.2.2 5, .array .long)]
def znest : List Cond := tables_1.filter (fun w => match w with
  | .fieldLinkNest .. => true
  | .methodLinkNest .. => true
  | _ => false)
def zNW (U : State) : Prop := ∀ w ∈ znest, va_Nw w U
theorem zNW.warm {s U : State} (hW : s.WarmedH U.vm) (h : zNW s) : zNW U := by
  intro w hw
  have h1 := h w hw
  have h2 := (List.mem_filter.mp hw).2
  cases w with
  | fieldLinkNest a b c d e f => exact va_Nw.warmF hW h1
  | methodLinkNest a b c d => exact va_Nw.warmM hW h1
  | _ => cases h2
theorem zNW.same {s U : State} (hv : s.vm = U.vm) (h : zNW s) : zNW U := by
  intro w hw
  have h1 := h w hw
  have h2 := (List.mem_filter.mp hw).2
  cases w with
  | fieldLinkNest a b c d e f => exact va_Nw.same rfl hv h1
  | methodLinkNest a b c d => exact va_Nw.same rfl hv h1
  | _ => cases h2
def ztens (j : Nat) : Int64 := Int64.ofNat (10 ^ j)
def zstr : List (Nat × String) := [(136, "add"), (137, "take"), (139, "times"), (141, "by"), (143, "rest"), (145, "join"), (147, "turn"), (149, "across"), (151, "strike"), (153, "say"), (155, "hide"), (78, "from"), (87, "to")]
def zslen : List Nat := [3, 4, 5, 2, 4, 4, 4, 6, 6, 3, 4, 4, 2]
def zsbyt : List (List Int32) := [[97, 100, 100], [116, 97, 107, 101], [116, 105, 109, 101, 115], [98, 121], [114, 101, 115, 116], [106, 111, 105, 110], [116, 117, 114, 110], [97, 99, 114, 111, 115, 115], [115, 116, 114, 105, 107, 101], [115, 97, 121], [104, 105, 100, 101], [102, 114, 111, 109], [116, 111]]
def zSR (g : ZG) (U : State) : Prop := ∀ i : Nat, i < 13 → vk_R "ThinkNumber$Reader" (zstr.getD i (0, "")).1 (zstr.getD i (0, "")).2 (g.2.1 60 i) U
def zST (g : ZG) (U : State) (H : Heap) : Prop := va_Z "ThinkNumber" "TENS" "[J" (.ref (g.2.1 62 0)) (zA g) U H ∧ va_T .long (g.2.1 62 0) 14 (fun j => .long (ztens j)) (zA g) U H ∧ va_Z "java/lang/String" "COMPACT_STRINGS" "Z" (.int 1) (zA g) U H ∧ vk_S 13 zslen zsbyt (g.2.1 60) (g.2.1 61) (zA g) U H ∧ va_Zq "jdk/internal/util/Preconditions" "SIOOBE_FORMATTER" "Ljava/util/function/BiFunction;" (zA g) U H
theorem zST.moved {g : ZG} {u U : State} {H : Heap} (hvm : u.vm.Alike U.vm) (h : zST g u H) : zST g U H := ⟨h.1.moved hvm, h.2.1.moved hvm, h.2.2.1.moved hvm, h.2.2.2.1.moved hvm, h.2.2.2.2.moved hvm⟩
theorem zST.kept {g : ZG} {U : State} {H H1 : Heap} (h : zST g U H) (hq : ∀ a : Nat, a < H.size → ¬ zA g a → H1[a]? = H[a]?) : zST g U H1 := ⟨h.1.kept hq, h.2.1.kept hq, h.2.2.1.kept hq, h.2.2.2.1.kept hq, h.2.2.2.2.kept hq⟩
/-- what holds of the start of every method, its registers apart -/
def zFX (g : ZG) (U : State) : Prop := zInj g ∧ va_K g.1 zcls (ztys g) U ∧ zNW U ∧ zSR g U ∧ zST g U U.heap
def zWO (g : ZG) (μ : ZMem) (U : State) : Prop := va_P g.1 zcls (zws g μ) U.heap ∧ zFX g U
def zrm (d : Nat) : Room := { frames := d, cells := 0, slots := 0, locals := 40 * d }
def zQ (g : ZG) (ρ : ZR) : Array Value → State → Outcome → State → Prop := fun _ st oc t => oc = .returned ρ.1 ∧ va_P g.1 zcls (zws g ρ.2) t.heap ∧ va_F (zA g) st t
/-- THE CONTRACT: method K, with these arguments and registers, at depth d, returns ρ.1 and leaves the registers ρ.2 -/
def zT (g : ZG) (l : Launch) (d : Nat) (K : ZK) (as : List Value) (μ : ZMem) (ρ : ZR) : Prop :=
  Met l K.1 (.code K.1 K.2.1 K.2.2.1 K.2.2.2 :: tb) (zrm d) (va_Pc as (zWO g μ)) (zQ g ρ) 0 0 (zA g)
def zGa (g : ZG) (K : ZK) (d : Nat) (E : ZE) : Prop := match E with
  | (p, _, _, R, s, m, args, _, meth, c) => p.tables.exec = Jvm.exec ∧ c.code = K.2.1 ∧ c.maxLocals = K.2.2.1 ∧ s.vm.findClass K.1.cls = some m.cls ∧ (∀ w ∈ tb, w.before args s = true) ∧ meth.sig.returnType = K.2.2.2 ∧ meth.locks = false ∧ R = zrm d ∧ zFX g s
def zl_has (ls : Array Slot) (n : Nat) (lv : List (Option Value)) : Prop := ls.size = n ∧ lv_wf ls ∧ ∀ (i : Nat) (v : Value), lv[i]? = some (some v) → ls[i]? = some (.val v)
def zX (g : ZG) (K : ZK) (d : Nat) (E : ZE) (ρ : ZR) (μ : ZMem) (pc : Nat) (lv : List (Option Value)) (st : List Value) : Prop := match E with
  | (p, l, e, R, s, m, args, below, meth, c) => ∀ (H : Heap) (locs : List Loc) (ls : Array Slot), va_P g.1 zcls (zws g μ) H → va_S (zA g) s.heap H locs → zl_has ls K.2.2.1 lv →
    W p l e R s m args below meth c H locs 0 0 (MQ below (zQ g ρ) args s 0 0 (zA g)) (F0 m pc ls st)
/-- locals as a list by place: storing -/
def zclr (lv : List (Option Value)) (i : Nat) : List (Option Value) := match i with
  | 0 => lv
  | j + 1 => match lv[j]? with
    | some (some w) => if w.category = 2 then lv.set j none else lv
    | _ => lv
def zst1 (lv : List (Option Value)) (i : Nat) (v : Value) : List (Option Value) := (zclr lv i).set i (some v)
def zst2 (lv : List (Option Value)) (i : Nat) (v : Value) : List (Option Value) := ((zclr lv i).set i (some v)).set (i + 1) none
def zasl (lv : List (Option Value)) : List (Nat × Value) := (List.range lv.length).filterMap (fun i => match lv[i]? with
  | some (some v) => some (i, v)
  | _ => none)
theorem zasl_mem {lv : List (Option Value)} {i : Nat} {v : Value} (h : lv[i]? = some (some v)) : (i, v) ∈ zasl lv := by
  refine List.mem_filterMap.mpr ⟨i, List.mem_range.mpr ((List.getElem?_eq_some_iff.mp h).1), ?_⟩
  simp [h]
theorem zasl_of {lv : List (Option Value)} {i : Nat} {v : Value} (h : (i, v) ∈ zasl lv) : lv[i]? = some (some v) := by
  obtain ⟨j, -, hj⟩ := List.mem_filterMap.mp h
  cases hl : lv[j]? with
  | none => rw [hl] at hj; cases hj
  | some o =>
    cases o with
    | none => rw [hl] at hj; cases hj
    | some w => rw [hl] at hj; cases hj; exact hl
theorem zl_to {ls : Array Slot} {n : Nat} {lv : List (Option Value)} (h : zl_has ls n lv) : lv_has ls n (zasl lv) := ⟨h.1, h.2.1, fun q hq => h.2.2 q.1 q.2 (zasl_of hq)⟩
theorem zclr_at {lv : List (Option Value)} {i j : Nat} {w : Value} (h : (zclr lv i)[j]? = some (some w)) : lv[j]? = some (some w) ∧ ¬ (j + 1 = i ∧ w.category = 2) := by
  cases i with
  | zero => exact ⟨h, fun e => by omega⟩
  | succ k =>
    unfold zclr at h
    simp only at h
    cases hk : lv[k]? with
    | none =>
      rw [hk] at h
      exact ⟨h, fun e => by have : j = k := by omega
                            subst this; rw [hk] at h; cases h⟩
    | some o =>
      rw [hk] at h
      cases o with
      | none => exact ⟨h, fun e => by have : j = k := by omega
                                      subst this; rw [hk] at h; cases h⟩
      | some w' =>
        simp only at h
        split at h
        · by_cases hj : j = k
          · subst hj
            rw [List.getElem?_set_self ((List.getElem?_eq_some_iff.mp hk).1)] at h
            cases h
          · rw [List.getElem?_set_ne (fun e => hj e.symm)] at h
            exact ⟨h, fun e => hj (by omega)⟩
        · rename_i hc
          refine ⟨h, fun e => ?_⟩
          have : j = k := by omega
          subst this
          rw [hk] at h
          cases h
          exact hc e.2
theorem zl_st1 {ls : Array Slot} {n i : Nat} {v : Value} {lv : List (Option Value)} (h : lv_has ls n ((i, v) :: (zasl lv).filter (fun q => !(q.1 == i) && !(q.1 + 1 == i && q.2.category == 2)))) : zl_has ls n (zst1 lv i v) := by
  refine ⟨h.1, h.2.1, fun j w hj => ?_⟩
  unfold zst1 at hj
  by_cases e : j = i
  · subst e
    have hlt : j < (zclr lv j).length := by
      have := (List.getElem?_eq_some_iff.mp hj).1
      rwa [List.length_set] at this
    rw [List.getElem?_set_self hlt] at hj
    cases hj
    exact h.2.2 (j, v) List.mem_cons_self
  · rw [List.getElem?_set_ne (fun q => e q.symm)] at hj
    obtain ⟨h1, h2⟩ := zclr_at hj
    refine h.2.2 (j, w) (List.mem_cons_of_mem _ (List.mem_filter.mpr ⟨zasl_mem h1, ?_⟩))
    by_cases c : j + 1 = i
    · have hc : ¬ w.category = 2 := fun q => h2 ⟨c, q⟩
      simp [e, hc]
    · simp [e, c]
theorem zl_st2 {ls : Array Slot} {n i : Nat} {v : Value} {lv : List (Option Value)} (h : lv_has ls n ((i, v) :: (zasl lv).filter (fun q => !(q.1 == i) && (!(q.1 == i + 1) && !(q.1 + 1 == i && q.2.category == 2))))) : zl_has ls n (zst2 lv i v) := by
  refine ⟨h.1, h.2.1, fun j w hj => ?_⟩
  unfold zst2 at hj
  by_cases e2 : j = i + 1
  · subst e2
    have hlt : i + 1 < ((zclr lv i).set i (some v)).length := by
      have := (List.getElem?_eq_some_iff.mp hj).1
      rwa [List.length_set] at this
    rw [List.getElem?_set_self hlt] at hj
    cases hj
  · rw [List.getElem?_set_ne (fun q => e2 q.symm)] at hj
    by_cases e : j = i
    · subst e
      have hlt : j < (zclr lv j).length := by
        have := (List.getElem?_eq_some_iff.mp hj).1
        rwa [List.length_set] at this
      rw [List.getElem?_set_self hlt] at hj
      cases hj
      exact h.2.2 (j, v) List.mem_cons_self
    · rw [List.getElem?_set_ne (fun q => e q.symm)] at hj
      obtain ⟨h1, h2⟩ := zclr_at hj
      refine h.2.2 (j, w) (List.mem_cons_of_mem _ (List.mem_filter.mpr ⟨zasl_mem h1, ?_⟩))
      by_cases c : j + 1 = i
      · have hc : ¬ w.category = 2 := fun q => h2 ⟨c, q⟩
        simp [e, hc, e2]
      · simp [e, c, e2]
def zargs : List Value → List (Option Value)
  | [] => []
  | v :: vs => if v.category = 2 then some v :: none :: zargs vs else some v :: zargs vs
theorem zargs_in : ∀ (vs : List Value) (o i : Nat) (v : Value), (zargs vs)[i]? = some (some v) → (o + i, v) ∈ lv_args o vs
  | [], o, i, v, h => by simp [zargs] at h
  | w :: vs, o, i, v, h => by
    unfold zargs at h
    unfold lv_args
    by_cases hc : w.category = 2
    · rw [if_pos hc] at h
      rw [if_pos hc]
      match i with
      | 0 => simp at h; subst h; exact List.mem_cons_self
      | 1 => simp at h
      | i + 2 =>
        simp at h
        have := zargs_in vs (o + 2) i v h
        exact List.mem_cons_of_mem _ (by rw [show o + (i + 2) = o + 2 + i by omega]; exact this)
    · rw [if_neg hc] at h
      rw [if_neg hc]
      match i with
      | 0 => simp at h; subst h; exact List.mem_cons_self
      | i + 1 =>
        simp at h
        have := zargs_in vs (o + 1) i v h
        exact List.mem_cons_of_mem _ (by rw [show o + (i + 1) = o + 1 + i by omega]; exact this)
def zent (vs : List Value) (n : Nat) : List (Option Value) := zargs vs ++ List.replicate (n - (zargs vs).length) none
theorem zent_has {ls : Array Slot} {n : Nat} {vs : List Value} (h : lv_has ls n (lv_args 0 vs)) : zl_has ls n (zent vs n) := by
  refine ⟨h.1, h.2.1, fun i v hi => ?_⟩
  unfold zent at hi
  by_cases hl : i < (zargs vs).length
  · rw [List.getElem?_append_left hl] at hi
    have := zargs_in vs 0 i v hi
    rw [Nat.zero_add] at this
    exact h.2.2 (i, v) this
  · rw [List.getElem?_append_right (by omega)] at hi
    have := List.mem_of_getElem? hi
    have := (List.mem_replicate.mp this).2
    cases this
theorem zT_of {g : ZG} {l : Launch} {d : Nat} {K : ZK} {as : List Value} {μ : ZMem} {ρ : ZR} (hy : plainName K.1.cls = true) (hlen : (lg_sl as).length ≤ K.2.2.1) (body : ∀ E : ZE, zGa g K d E → zX g K d E ρ μ 0 (zent as K.2.2.1) []) : zT g l d K as μ ρ := by
  obtain ⟨y, cc, maxL, ret⟩ := K
  refine Met.ofW (cc := cc) (maxL := maxL) (ret := ret) hy rfl ?_
  intro p e s m args below meth c s₁ B hml hv
  obtain ⟨rfl, hP, hF⟩ := hv
  have hts : ∀ w ∈ tb, w.before as.toArray s = true := fun w hw => atoms_spec (ws := .code y cc maxL ret :: tb) B.pre w (List.mem_cons_of_mem _ hw)
  have hown : s.vm.findClass y.cls = some m.cls := findClass_of_methodNamed B.named
  have hl := lv_entry as (n := maxL) hlen
  rw [lg_entry_eq]
  exact body (p, l, e, zrm d, s, m, as.toArray, below, meth, c) ⟨B.exec, B.bytes, hml, hown, hts, B.returns, B.notSynchronized, rfl, hF⟩ s.heap [] _ hP va_S.rf (zent_has hl)
