/-! rows of the law's loop: the world of registers, at the claim's own room -/
def zLG (g : ZG) (A : Nat → Prop) (E : ZE) : Prop := match E with
  | (p, _, _, R, s, m, args, _, meth, c) => p.tables.exec = Jvm.exec ∧ c.code = code ∧ c.maxLocals = 4 ∧ s.vm.findClass "ThinkNumberLaw" = some m.cls ∧ (∀ w ∈ tb, w.before args s = true) ∧ R = room_1 ∧ zFX g s ∧ (∀ q, zA g q → A q) ∧ ∀ q : Nat, q < s.heap.size → ¬ A q
def zL (g : ZG) (A : Nat → Prop) (Q : ZE → State → Prop) (E : ZE) (μ : ZMem) (pc : Nat) (lv : List (Option Value)) (st : List Value) : Prop := match E with
  | (p, l, e, R, s, m, args, below, meth, c) => ∀ (H : Heap) (locs : List Loc) (ls : Array Slot), va_P g.1 zcls (zws g μ) H → va_S A s.heap H locs → zl_has ls 4 lv →
    W p l e R s m args below meth c H locs 99 42659 (Q (p, l, e, R, s, m, args, below, meth, c)) (F0 m pc ls st)
theorem zgoL {p : Program} {l : Launch} {e : Env} {R : Room} {s : State} {m : MethodId} {args : Array Value} {below : List Frame} {meth : Method} {c : Code} {H : Heap} {locs : List Loc} {Q : State → Prop} {g : ZG} {A : Nat → Prop} {ρ2 : ZR} {a : Array Value} {pc cells slots : Nat} {ls : Array Slot} {st0 rest : List Value} (hr : va_Run p l e R s m args below meth c H locs cells slots 0 0 (F0 m pc ls st0) rest (zQ g ρ2 a) (zA g)) (hS : va_S A s.heap H locs) (hAA : ∀ q, zA g q → A q) (kk : ∀ (H1 : Heap) (locs1 : List Loc), va_P g.1 zcls (zws g ρ2.2) H1 → va_S A s.heap H1 locs1 → W p l e R s m args below meth c H1 locs1 cells slots Q (F0 m (pc + 3) ls (ρ2.1.toList ++ rest))) : W p l e R s m args below meth c H locs cells slots Q (F0 m pc ls st0) := by
  intro T hT X
  obtain ⟨v, st₀, t, T', L, h0, X', hL, e1, e2, ⟨hv, hP, hz, hk⟩, st⟩ := hr T hT X
  cases hv
  rw [h0] at hz hk
  obtain ⟨t2, a1, b1⟩ := kk T'.heap (locs ++ L) (by rw [e1]; exact hP)
    ⟨Nat.le_trans hS.1 (by rw [e1]; exact hz), fun q h1 h2 => by rw [e1, hk q (Nat.lt_of_lt_of_le h1 hS.1) (fun h => h2 (hAA q h))]; exact hS.2.1 q h1 h2, fun q hq => by
      rcases List.mem_append.mp hq with h | h
      · exact hS.2.2 q h
      · exact hAA _ (hL q h)⟩ T' rfl X'
  exact ⟨t2, st t2 a1, b1⟩
theorem zFX_warmL {g : ZG} {A : Nat → Prop} {s U : State} {H : Heap} {locs : List Loc} (hW : s.WarmedH U.vm) (hU : U.heap = H) (hS : va_S A s.heap H locs) (hlow : ∀ q : Nat, q < s.heap.size → ¬ A q) (h : zFX g s) : zFX g U := by
  obtain ⟨h1, h2, h3, h4, h5⟩ := h
  refine ⟨h1, va_K.moved hW.alike h2, h3.warm hW, fun i hi => (h4 i hi).warm hW, ?_⟩
  rw [hU]
  exact (h5.kept (fun a ha _ => hS.2.1 a ha (hlow a ha))).moved hW.alike
section ZLR
variable {g : ZG} {K2 : ZK} {A : Nat → Prop} {Q : ZE → State → Prop} {E : ZE} {μ : ZMem} {ρ2 : ZR} {pc : Nat} {lv : List (Option Value)} {st st2 : List Value}
theorem zl_callV {idx n k i d2 : Nat} {as : List Value} (G : zLG g A E) (dg : decode code pc = .ok (.invokevirtual idx, 3)) (hM : zMV "ThinkNumberLaw" idx K2 n) (ho : zob k K2.1.cls) (hi : (k, i) ∈ zids) (hT : ∀ l, zT g l d2 K2 (.ref (g.2.1 k i) :: as) μ ρ2) (hs : as.reverse ++ .ref (g.2.1 k i) :: st = st2) (hn : as.length = n) (hd : d2 ≤ 40) (hc : (st.map fun v => v.category).sum ≤ 8) (kk : zL g A Q E ρ2.2 (pc + 3) lv (ρ2.1.toList ++ st)) : zL g A Q E μ pc lv st2 := by
  obtain ⟨p, l, e, R, s, m, args, below, meth, c⟩ := E
  obtain ⟨hx, hb, hml, hown, hts, hR, hF, hAA, hlow⟩ := G
  subst hR
  subst hs
  intro H locs ls hP hS hl
  obtain ⟨y, cc2, maxL, ret2⟩ := K2
  obtain ⟨hlink, hin, hse, hini, hcode, hm, hy1, hy2, hy3⟩ := hM
  have hrc : ∃ cell : Cell, H[g.2.1 k i]? = some cell ∧ cell.vm.isStatics = false ∧ s.vm.findClass y.cls = some cell.cls := zrecv (μ := μ) ho hi s H [] hF hP ⟨hS.1, fun q h1 h2 => hS.2.1 q h1 (hlow q h1), fun _ h => (by cases h)⟩
  have hp : PreV s H y.cls (g.2.1 k i) (va_Pc (.ref (g.2.1 k i) :: as) (zWO g μ)) as := ⟨zWO_blind g μ _, hrc, fun U hU hW => ⟨rfl, by rw [hU]; exact hP, zFX_warmL hW hU hS hlow hF⟩⟩
  have hrm : (zrm d2).frames + 1 ≤ room_1.frames ∧ 8 + (maxL + 11) + (zrm d2).locals ≤ room_1.locals := ⟨by show d2 + 1 ≤ 2048; omega, by show 8 + (maxL + 11) + 40 * d2 ≤ 84000; simp only at hm; omega⟩
  rcases hlink with h1 | ⟨host, h1⟩
  · exact zgoL (va_runV (rest := st) ⟨hx, hb, hml, hown, hts⟩ (hT l) ⟨callB_of n hts (tb_good hcode) rfl rfl rfl (hts _ hini) (hts _ h1) ⟨hy1, hy2, hy3⟩ hrm, hts _ hin, hts _ hse⟩ hp rfl hn (hl.1) rfl (lv_room hc) dg ⟨Nat.le_of_ble_eq_true rfl, Nat.le_of_ble_eq_true rfl⟩) hS hAA (fun H1 locs1 hP1 hS1 => kk H1 locs1 ls hP1 hS1 hl)
  · exact zgoL (va_runVN (rest := st) ⟨hx, hb, hml, hown, hts⟩ (hT l) ⟨va_cnB n hts (tb_good hcode) rfl rfl rfl (hF.2.2.1 _ h1) (hts _ hini) ⟨hy1, hy2, hy3⟩ hrm, hts _ hin, hts _ hse⟩ hp rfl hn (hl.1) rfl (lv_room hc) dg ⟨Nat.le_of_ble_eq_true rfl, Nat.le_of_ble_eq_true rfl⟩) hS hAA (fun H1 locs1 hP1 hS1 => kk H1 locs1 ls hP1 hS1 hl)
end ZLR
