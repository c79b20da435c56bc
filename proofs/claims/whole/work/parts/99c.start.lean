/-! the law from its entry to its end (by program: wip/whole/gen_law2.py; the head of whole_start is the skeleton's) -/
def zQl (b : Nat) (E : ZE) : State → Prop := match E with
  | (_, _, _, _, s, _, _, below, _, _) => lw_Z below #[Value.ref b] s
def zRT (b : Nat) (E : ZE) : Prop := match E with
  | (_, _, _, _, _, _, args, _, meth, _) => args = #[Value.ref b] ∧ meth.sig.returnType = ret ∧ meth.locks = false
theorem zl_end {g : ZG} {A : Nat → Prop} {E : ZE} {b : Nat} (G : zLG g A E) (hE : zRT b E) (μ : ZMem) (lv : List (Option Value)) : zL g A (zQl b) E μ 1268 lv [] := by
  refine zl_iconst (v := 1) G dl_1268 rfl ?_
  obtain ⟨p, l, e, R, s, m, args, below, meth, c⟩ := E
  obtain ⟨hx, hb, hml, hown, hts, hR, hF, hAA, hlow⟩ := G
  obtain ⟨ha, hr, hlk⟩ := hE
  subst hR
  subst ha
  intro H locs ls hP hS hl
  refine va_forget (fun q hq => ?_) (W.widen (Nat.le_of_ble_eq_true rfl) (Nat.le_of_ble_eq_true rfl) (lw_ret hx hb hr hlk dl_1269))
  have := hS.2.2 q hq
  exact Nat.le_of_not_lt (fun h => hlow _ h this)
set_option maxRecDepth 20000 in
set_option maxHeartbeats 4000000 in
theorem whole_start {p : Program} {e : Env} {s : State} {m : MethodId} {below : List Frame} {meth : Method} {c : Code} (l : Launch) (hflags : l.flags = flags0) {b L : Nat} {xs : Nat → Int32} (hL : L ≤ 3072) (C0 : lw_At p s m meth c b L xs) : W p l e room_1 s m #[Value.ref b] below meth c s.heap [] 0 0 (lw_Z below #[Value.ref b] s) (entryFrame m ([Value.ref b] : List Value).toArray 4) := by
  obtain ⟨hx, hb, hr, hml, hown, hts, hXs, hbl, hlk, hgv⟩ := C0
  obtain ⟨D, cA, hK⟩ := z_ground hts
  have hl := lv_entry [Value.ref b] (n := 4) (Nat.le_of_ble_eq_true rfl)
  rw [lg_entry_eq]
  have Gv : zGv (D, (fun _ _ => 0), cA) (K_law meth.name) (fun q => s.heap.size ≤ q) room_1 (p, l, e, room_1, s, m, #[Value.ref b], below, meth, c) := ⟨hx, hb, hml, hown, fun w hw => hts w (List.mem_filter.mp hw).1, hr, hlk, rfl, rfl, hK _, fun q h => h⟩
  have B : zV (D, (fun _ _ => 0), cA) (K_law meth.name) (fun q => s.heap.size ≤ q) (zQl b) (p, l, e, room_1, s, m, #[Value.ref b], below, meth, c) [] 0 0 0 [some (.ref b), none, none, none] [] := by
    refine z_begin Gv (fun h q1 q3 q5 q6 q8 q10 q12 q14 q16 q18 q20 q22 q23 q25 q27 q29 v2 v4 v7 v9 v11 v13 v15 v17 v19 v21 v24 v26 v28 v30 k0 k1 k2 k3 k4 k5 k6 k7 k8 k9 k10 k11 k12 k13 k14 k15 fb fc hfb hfc => ?_)
    intro H locs ls hP hD hS hls
    rw [zwd_l] at hP hD
    obtain ⟨t, adK, adV, hFX, hA⟩ := z_fx hK hts hgv hD
    have hW := z_world (t := t) (adK := adK) (adV := adV) hP
    have G : zLG (D, zadr h q1 q3 q5 q6 q8 q10 q12 q14 q16 q18 q20 q22 q23 q25 q27 q29 v2 v4 v7 v9 v11 v13 v15 v17 v19 v21 v24 v26 v28 v30 k0 k1 k2 k3 k4 k5 k6 k7 k8 k9 k10 k11 k12 k13 k14 k15 t adK adV, cA) (fun q => s.heap.size ≤ q) (p, l, e, room_1, s, m, #[Value.ref b], below, meth, c) := ⟨hx, hb, hml, hown, fun w hw => hts w (List.mem_filter.mp hw).1, rfl, hFX, hA, fun q h1 h2 => absurd h2 (Nat.not_le_of_lt h1)⟩
    exact zl_loop G (show zSX b L xs (p, l, e, room_1, s, m, #[Value.ref b], below, meth, c) from ⟨hXs, hbl⟩) hL (fun μ lv => zl_end G ⟨rfl, hr, hlk⟩ μ lv) 512 0 (zm0 fb fc) (inv0 hfb hfc) (by omega) (by omega) H locs ls hW hS hls
  exact B s.heap [] _ (fun k q h => by simp at h) ⟨fun i j p q h => by simp at h, fun k q h => by simp at h⟩ va_S.rf (zent_has hl)
