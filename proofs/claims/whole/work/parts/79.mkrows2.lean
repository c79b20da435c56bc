theorem zjoin {A0 : Nat → Prop} {D : va_G} {wc wr w1 : va_W} {H H1 : Heap} (hP : va_P D zcls (wr ++ wc) H) (hD : va_D A0 (wr ++ wc)) (hk : ∀ q : Nat, q < H.size → ¬ va_A wc H.size q → H1[q]? = H[q]?) (hF : ∀ q, va_A wc H.size q → A0 q) (hP1 : va_P D zcls w1 H1) (hD1 : va_D (va_A wc H.size) w1) : va_P D zcls (wr ++ w1) H1 ∧ va_D A0 (wr ++ w1) := by
  have hl : ∀ (k : Nat) (q : Nat × va_E), wr[k]? = some q → (wr ++ wc)[k]? = some q := fun k q h => by rw [List.getElem?_append_left (List.getElem?_eq_some_iff.mp h).1]; exact h
  have hr : ∀ (k : Nat) (q : Nat × va_E), wc[k]? = some q → (wr ++ wc)[wr.length + k]? = some q := fun k q h => by rw [List.getElem?_append_right (by omega)]; rw [show wr.length + k - wr.length = k by omega]; exact h
  have hout : ∀ (k : Nat) (q : Nat × va_E), wr[k]? = some q → ¬ va_A wc H.size q.1 := fun k q h h2 => by
    rcases h2 with ⟨k2, e2, h3⟩ | h3
    · have := hD.1 k (wr.length + k2) q (q.1, e2) (hl k q h) (hr k2 _ h3) rfl
      have := (List.getElem?_eq_some_iff.mp h).1
      omega
    · have := (hP k q (hl k q h)).lt
      omega
  refine ⟨va_P.app (fun k q h => ((hP k q (hl k q h)).kept (hk q.1 ((hP k q (hl k q h)).lt) (hout k q h)))) hP1, ?_⟩
  refine va_D.app ⟨fun i j p q hi hj e => ?_, fun k q h => hD.2 k q (hl k q h)⟩ (hD1.weaken (fun _ _ _ h => hF _ h)) (fun i j p q hi hj e => ?_)
  · exact hD.1 i j p q (hl i p hi) (hl j q hj) e
  · exact hout i p hi (by rw [e]; exact hD1.2 j q hj)
theorem zfree {A0 : Nat → Prop} {wc wr : va_W} {H0 H : Heap} {locs : List Loc} (hD : va_D A0 (wr ++ wc)) (hS : va_S A0 H0 H locs) (hA : ∀ q : Nat, H0.size ≤ q → A0 q) : ∀ q, va_A wc H.size q → A0 q := fun q h => by
  rcases h with ⟨k, e, h⟩ | h
  · exact hD.2 (wr.length + k) (q, e) (by rw [List.getElem?_append_right (by omega), show wr.length + k - wr.length = k by omega]; exact h)
  · exact hA q (Nat.le_trans hS.1 h)
theorem zC_blind {g : ZG} {sz : Nat} {as : List Value} {w0 : va_W} : FrameBlind (va_Pc as (fun U => U.heap.size = sz ∧ va_P g.1 zcls w0 U.heap ∧ va_D (fun _ => True) w0 ∧ zKX g U)) := by
  intro a U gg mk h
  obtain ⟨h0, h1, hP, hD, h2, h3, h4⟩ := h
  exact ⟨h0, h1, hP, hD, va_K.moved (u := U) (U := U.calling gg mk a) (Vm.Alike.refl U.vm) h2, zNW.same (s := U) (U := U.calling gg mk a) rfl h3, zAC.moved (u := U) (U := U.calling gg mk a) (Vm.Alike.refl U.vm) h4⟩
section ZV2
variable {g : ZG} {K K2 : ZK} {A : Nat → Prop} {Q : ZE → State → Prop} {rm : Room} {E : ZE} {ws ws2 wr wc : va_W} {cells slots pc : Nat} {lv lv2 : List (Option Value)} {st st2 : List Value}
theorem zv_init {idx n b d2 mc ms : Nat} {as : List Value} {P : va_W → Prop} (G : zGv g K A rm E) (dg : decode K.2.1 pc = .ok (.invokespecial idx, 3)) (hM : zMI K.1.cls idx K2 n) (hC : ∀ l, zC g l d2 mc ms K2 (.ref b :: as) wc P) (hs : as.reverse ++ .ref b :: st = st2) (hn : as.length = n) (hd : d2 + 1 ≤ rm.frames) (hlc : 40 * (d2 + 1) ≤ rm.locals) (hcat : (st.map fun v => v.category).sum ≤ 8) (hf : cells + mc ≤ rm.cells ∧ slots + ms ≤ rm.slots) (k : ∀ w1, P w1 → zV g K A Q E (wr ++ w1) (cells + mc) (slots + ms) (pc + 3) lv st) : zV g K A Q E (wr ++ wc) cells slots pc lv st2 := by
  obtain ⟨p, l, e, R, s, m, args, below, meth, c⟩ := E
  obtain ⟨hx, hb, hml, hown, hts, hr, hlk, hR, hin, hKX, hA⟩ := G
  subst hR
  subst hs
  intro H locs ls hP hD hS hl
  obtain ⟨y, cc2, maxL, ret⟩ := K2
  obtain ⟨hlink, hinst, hini, hcode, hm, hnm, hret, hy1, hy2, hy3⟩ := hM
  simp only at hlink hinst hini hcode hm hnm hret hy1 hy2 hy3
  subst hret
  have hPc : va_P g.1 zcls wc H := fun k q h => hP (wr.length + k) q (by rw [List.getElem?_append_right (by omega), show wr.length + k - wr.length = k by omega]; exact h)
  have hDc : va_D (fun _ => True) wc := ⟨fun i j p q hi hj e => by
    have := hD.1 (wr.length + i) (wr.length + j) p q (by rw [List.getElem?_append_right (by omega), show wr.length + i - wr.length = i by omega]; exact hi) (by rw [List.getElem?_append_right (by omega), show wr.length + j - wr.length = j by omega]; exact hj) e
    omega, fun _ _ _ => trivial⟩
  have hp : PreS s H (va_Pc (.ref b :: as) (fun U => U.heap.size = H.size ∧ va_P g.1 zcls wc U.heap ∧ va_D (fun _ => True) wc ∧ zKX g U)) (.ref b :: as) := ⟨zC_blind, fun U hU hW => ⟨rfl, by rw [hU], by rw [hU]; exact hPc, hDc, hKX.warm hW⟩⟩
  have hrm : (zrc d2 mc ms).frames + 1 ≤ R.frames ∧ 8 + (maxL + 11) + (zrc d2 mc ms).locals ≤ R.locals := ⟨hd, by show 8 + (maxL + 11) + 40 * d2 ≤ R.locals; omega⟩
  have hFc := zfree hD hS hA
  have fin : va_Run p l e R s m args below meth c H locs cells slots mc ms (F0 m pc ls (as.reverse ++ .ref b :: st)) st (va_Qv P (fun w1 t => va_P g.1 zcls w1 t.heap ∧ va_D (va_A wc H.size) w1) (va_A wc H.size) (Value.ref b :: as).toArray) (va_A wc H.size) → W p l e R s m args below meth c H locs cells slots (Q (p, l, e, R, s, m, args, below, meth, c)) (F0 m pc ls (as.reverse ++ .ref b :: st)) := fun hr => by
    refine va_callv hr hS (fun q _ h => hFc q h) hFc (fun w1 t H1 locs1 ht hvm hpo hB hz1 hk1 hS1 => ?_)
    obtain ⟨hP1, hD1⟩ := hB
    rw [ht] at hP1
    obtain ⟨j1, j2⟩ := zjoin hP hD hk1 hFc hP1 hD1
    exact k w1 hpo H1 locs1 ls j1 j2 hS1 hl
  rcases hlink with h1 | ⟨host, h1⟩
  · exact fin (va_runI (As := as) (rest := st) ⟨hx, hb, hml, hown, hts⟩ (hC l H.size) ⟨callB_of n hts (tb_good hcode) rfl rfl rfl (hts _ hini) (hts _ h1) ⟨hy1, hy2, hy3⟩ hrm, hnm, hts _ hinst⟩ hp rfl hn hl.1 rfl (lv_room hcat) dg hf)
  · exact fin (va_runIN (As := as) (rest := st) ⟨hx, hb, hml, hown, hts⟩ (hC l H.size) ⟨va_cnB n hts (tb_good hcode) rfl rfl rfl (hKX.2.1 _ h1) (hts _ hini) ⟨hy1, hy2, hy3⟩ hrm, hnm, hts _ hinst⟩ hp rfl hn hl.1 rfl (lv_room hcat) dg hf)
def zlkF (own : String) (idx k x : Nat) (ty : FieldType) : Prop := ∃ (C : String) (T : u_T) (N : Nat), zcls[k]? = some (C, T, N) ∧ x < N ∧ Cond.fieldLink own idx (T x).1 (T x).2.1 (T x).2.2.1 ∈ tb ∧ (T x).2.2.2 = true ∧ (T x).1 = own ∧ parseFieldDescriptor (T x).2.2.1 = some ty
theorem zv_putF {idx q0 ci x a : Nat} {fs : List Value} {v : Value} {ty : FieldType} (G : zGv g K A rm E) (dg : decode K.2.1 pc = .ok (.putfield idx, 3)) (hnm : K.1.name = "<init>") (hk : zlkF K.1.cls idx ci x ty) (he : ws[q0]? = some (a, .inr (ci, fs))) (hn : narrow ty v = v) (hfit : fits ty v = true) (hl : x < fs.length) (hw : ws.set q0 (a, .inr (ci, fs.set x v)) = ws2) (k : zV g K A Q E ws2 cells slots (pc + 3) lv st) : zV g K A Q E ws cells slots pc lv (v :: .ref a :: st) := by
  obtain ⟨p, l, e, R, s, m, args, below, meth, c⟩ := E
  obtain ⟨hx, hb, hml, hown, hts, hr, hlk, hR, hin, hKX, hA⟩ := G
  intro H locs ls hP hD hS hls
  obtain ⟨C, T, N, h1, h2, h3, h4, h5, h6⟩ := hk
  obtain ⟨hL, ty0, hO, hN⟩ := zlay h1
  subst hw
  exact va_putF hx hb hts hL ty0 hO hN hown hKX.1 hP hD hS q0 he h1 x h2 (hts _ h3) (fun _ h9 => h9) h4 (hin.trans hnm) h5 h6 hn hfit hl dg (fun H1 locs1 hP1 hD1 hS1 => k H1 locs1 ls hP1 hD1 hS1 hls)
theorem zv_put {idx q0 ci x a : Nat} {fs : List Value} {v : Value} {ty : FieldType} (G : zGv g K A rm E) (dg : decode K.2.1 pc = .ok (.putfield idx, 3)) (hk : zlkP K.1.cls idx ci x ty) (he : ws[q0]? = some (a, .inr (ci, fs))) (hn : narrow ty v = v) (hfit : fits ty v = true) (hl : x < fs.length) (hw : ws.set q0 (a, .inr (ci, fs.set x v)) = ws2) (k : zV g K A Q E ws2 cells slots (pc + 3) lv st) : zV g K A Q E ws cells slots pc lv (v :: .ref a :: st) := by
  obtain ⟨p, l, e, R, s, m, args, below, meth, c⟩ := E
  obtain ⟨hx, hb, hml, hown, hts, hr, hlk, hR, hin, hKX, hA⟩ := G
  intro H locs ls hP hD hS hls
  obtain ⟨C, T, N, h1, h2, h3, h4, h5⟩ := hk
  obtain ⟨hL, ty0, hO, hN⟩ := zlay h1
  subst hw
  exact va_put hx hb hts hL ty0 hO hN hown hKX.1 hP hD hS q0 he h1 x h2 (hts _ h3) (fun _ h9 => h9) h4 h5 hn hfit hl dg (fun H1 locs1 hP1 hD1 hS1 => k H1 locs1 ls hP1 hD1 hS1 hls)
theorem zv_get {idx q0 ci x a : Nat} {fs : List Value} {v : Value} (G : zGv g K A rm E) (dg : decode K.2.1 pc = .ok (.getfield idx, 3)) (hk : zlk K.1.cls idx ci x) (he : ws[q0]? = some (a, .inr (ci, fs))) (hv : fs[x]? = some v) (k : zV g K A Q E ws cells slots (pc + 3) lv (v :: st)) : zV g K A Q E ws cells slots pc lv (.ref a :: st) := by
  obtain ⟨p, l, e, R, s, m, args, below, meth, c⟩ := E
  obtain ⟨hx, hb, hml, hown, hts, hr, hlk, hR, hin, hKX, hA⟩ := G
  intro H locs ls hP hD hS hls
  obtain ⟨C, T, N, h1, h2, h3⟩ := hk
  exact va_get hx hb hts (zlay h1).1 hown hKX.1 hP q0 he h1 x h2 (hts _ h3) (fun _ h9 => h9) hv dg (k H locs ls hP hD hS hls)
theorem zv_aast {q0 qk a b n : Nat} {i : Int32} {vs : List Value} {f : Nat → Option Nat} (G : zGv g K A rm E) (dg : decode K.2.1 pc = .ok (.aastore, 1)) (he : ws[q0]? = some (a, .inl (g.2.2 4, n, .inr (.inr (.inr (.inr f)))))) (hb : ws[qk]? = some (b, .inr (3, vs))) (hin : vp_in i n) (hw : ws.set q0 (a, .inl (g.2.2 4, n, .inr (.inr (.inr (.inr (va_up f i.toNatClampNeg (some b))))))) = ws2) (k : zV g K A Q E ws2 cells slots (pc + 1) lv st) : zV g K A Q E ws cells slots pc lv (.ref b :: .int i :: .ref a :: st) := by
  obtain ⟨p, l, e, R, s, m, args, below, meth, c⟩ := E
  obtain ⟨hx, hbc, hml, hown, hts, hr, hlk, hR, hi2, hKX, hA⟩ := G
  intro H locs ls hP hD hS hls
  subst hw
  exact va_astq (r := ("ThinkNumber$Table", zT3, 3)) hx hbc hKX.1 hP hD hS q0 4 qk 3 he rfl hb rfl hin dg (fun H1 locs1 hP1 hD1 hS1 => k H1 locs1 ls hP1 hD1 hS1 hls)
theorem zv_iast {q0 a n : Nat} {i x : Int32} {f : Nat → Int32} (G : zGv g K A rm E) (dg : decode K.2.1 pc = .ok (.iastore, 1)) (he : ws[q0]? = some (a, .inl (g.2.2 0, n, .inl f))) (hin : vp_in i n) (hw : ws.set q0 (a, .inl (g.2.2 0, n, .inl (upd f i.toNatClampNeg x))) = ws2) (k : zV g K A Q E ws2 cells slots (pc + 1) lv st) : zV g K A Q E ws cells slots pc lv (.int x :: .int i :: .ref a :: st) := by
  obtain ⟨p, l, e, R, s, m, args, below, meth, c⟩ := E
  obtain ⟨hx, hbc, hml, hown, hts, hr, hlk, hR, hi2, hKX, hA⟩ := G
  intro H locs ls hP hD hS hls
  subst hw
  exact va_iast hx hbc hKX.1 hP hD hS q0 0 he rfl hin dg (fun H1 locs1 hP1 hD1 hS1 => k H1 locs1 ls hP1 hD1 hS1 hls)
theorem zv_last {q0 a n : Nat} {i : Int32} {x : Int64} {f : Nat → Int64} (G : zGv g K A rm E) (dg : decode K.2.1 pc = .ok (.lastore, 1)) (he : ws[q0]? = some (a, .inl (g.2.2 1, n, .inr (.inl f)))) (hin : vp_in i n) (hw : ws.set q0 (a, .inl (g.2.2 1, n, .inr (.inl (vp_updL f i.toNatClampNeg x)))) = ws2) (k : zV g K A Q E ws2 cells slots (pc + 1) lv st) : zV g K A Q E ws cells slots pc lv (.long x :: .int i :: .ref a :: st) := by
  obtain ⟨p, l, e, R, s, m, args, below, meth, c⟩ := E
  obtain ⟨hx, hbc, hml, hown, hts, hr, hlk, hR, hi2, hKX, hA⟩ := G
  intro H locs ls hP hD hS hls
  subst hw
  exact va_last hx hbc hKX.1 hP hD hS q0 1 he rfl hin dg (fun H1 locs1 hP1 hD1 hS1 => k H1 locs1 ls hP1 hD1 hS1 hls)
theorem zv_end {P : va_W → Prop} (G : zGv g K A rm E) (dg : decode K.2.1 pc = .ok (.return_, 1)) (hK : K.2.2.2 = none) (hP : P ws) : zV g K A (zQc g P cells slots A) E ws cells slots pc lv [] := by
  obtain ⟨p, l, e, R, s, m, args, below, meth, c⟩ := E
  obtain ⟨hx, hbc, hml, hown, hts, hr, hlk, hR, hi2, hKX, hA⟩ := G
  intro H locs ls hPw hD hS hls
  exact W.vret hx hbc (hr.trans hK) (fun t ht hW => ⟨⟨ws, rfl, hP, by rw [ht]; exact hPw, hD⟩, hS.F ht⟩) hS.2.2 dg
theorem zgO_arr {cA : ClassId} {h : Nat} : zgO cA h 6 = vp_cell cA (6, .inr (.inr (.inr (.inr (fun j => some (h + 1 + j)))))) := by
  rw [vp_cell_q]
  unfold zgO arrV
  congr 1
theorem zgI_arr {cI : ClassId} : zgI cI = vp_cell cI (100, .inr (.inl (fun _ => 0))) := by
  rw [vp_cell_l, ← arrV_new]; rfl
end ZV2
