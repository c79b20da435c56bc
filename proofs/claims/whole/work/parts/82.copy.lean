/-! the reference's copyAll over its four rows alone -/
section ZV5
variable {g : ZG} {K K2 : ZK} {A : Nat → Prop} {Q : ZE → State → Prop} {rm : Room} {E : ZE} {ws ws2 wr wc : va_W} {cells slots pc : Nat} {lv lv2 : List (Option Value)} {st st2 : List Value}
theorem zv_iloadw {q : Nat} {x : Int32} (G : zGv g K A rm E) (dg : decode K.2.1 pc = .ok (.iload q, 2)) (hv : lv[q]? = some (some (.int x))) (k : zV g K A Q E ws cells slots (pc + 2) lv (.int x :: st)) : zV g K A Q E ws cells slots pc lv st := by
  obtain ⟨p, l, e, R, s, m, args, below, meth, c⟩ := E
  obtain ⟨hx, hb, -⟩ := G
  intro H locs ls hP hD hS hl
  exact lv_iload hx hb dg (hl.2.2 _ _ hv) (k H locs ls hP hD hS hl)
theorem zv_istorew {q : Nat} {x : Int32} (G : zGv g K A rm E) (dg : decode K.2.1 pc = .ok (.istore q, 2)) (hn : q < K.2.2.1) (hq : zst1 lv q (.int x) = lv2) (k : zV g K A Q E ws cells slots (pc + 2) lv2 st) : zV g K A Q E ws cells slots pc lv (.int x :: st) := by
  obtain ⟨p, l, e, R, s, m, args, below, meth, c⟩ := E
  obtain ⟨hx, hb, -⟩ := G
  intro H locs ls hP hD hS hl
  exact lv_istore hx hb dg (zl_to hl) hn rfl (fun ls2 h2 => k H locs ls2 hP hD hS (hq ▸ zl_st1 h2))
theorem zv_iald {q0 a n : Nat} {i : Int32} {f : Nat → Int32} (G : zGv g K A rm E) (dg : decode K.2.1 pc = .ok (.iaload, 1)) (he : ws[q0]? = some (a, .inl (g.2.2 0, n, .inl f))) (hin : vp_in i n) (k : zV g K A Q E ws cells slots (pc + 1) lv (.int (f i.toNatClampNeg) :: st)) : zV g K A Q E ws cells slots pc lv (.int i :: .ref a :: st) := by
  obtain ⟨p, l, e, R, s, m, args, below, meth, c⟩ := E
  obtain ⟨hx, hbc, hml, hown, hts, hr, hlk, hR, hi2, hKX, hA⟩ := G
  intro H locs ls hP hD hS hls
  exact va_iald hx hbc hKX.1 hP q0 0 he rfl hin dg (k H locs ls hP hD hS hls)
theorem zv_lald {q0 a n : Nat} {i : Int32} {f : Nat → Int64} (G : zGv g K A rm E) (dg : decode K.2.1 pc = .ok (.laload, 1)) (he : ws[q0]? = some (a, .inl (g.2.2 1, n, .inr (.inl f)))) (hin : vp_in i n) (k : zV g K A Q E ws cells slots (pc + 1) lv (.long (f i.toNatClampNeg) :: st)) : zV g K A Q E ws cells slots pc lv (.int i :: .ref a :: st) := by
  obtain ⟨p, l, e, R, s, m, args, below, meth, c⟩ := E
  obtain ⟨hx, hbc, hml, hown, hts, hr, hlk, hR, hi2, hKX, hA⟩ := G
  intro H locs ls hP hD hS hls
  exact va_lald hx hbc hKX.1 hP q0 1 he rfl hin dg (k H locs ls hP hD hS hls)
theorem zv_callSt {idx n d2 mc ms : Nat} {as : List Value} {P : va_W → Prop} (G : zGv g K A rm E) (dg : decode K.2.1 pc = .ok (.invokestatic idx, 3)) (hM : zMS K.1.cls idx K2 n) (hret : K2.2.2.2 = none) (hC : ∀ l, zC g l d2 mc ms K2 as wc P) (hs : as.reverse ++ st = st2) (hn : as.length = n) (hd : d2 + 1 ≤ rm.frames) (hlc : 40 * (d2 + 1) ≤ rm.locals) (hcat : (st.map fun v => v.category).sum ≤ 8) (hf : cells + mc ≤ rm.cells ∧ slots + ms ≤ rm.slots) (k : ∀ w1, P w1 → zV g K A Q E (wr ++ w1) (cells + mc) (slots + ms) (pc + 3) lv st) : zV g K A Q E (wr ++ wc) cells slots pc lv st2 := by
  obtain ⟨p, l, e, R, s, m, args, below, meth, c⟩ := E
  obtain ⟨hx, hb, hml, hown, hts, hr, hlk, hR, hin, hKX, hA⟩ := G
  subst hR
  subst hs
  intro H locs ls hP hD hS hl
  obtain ⟨y, cc2, maxL, ret⟩ := K2
  obtain ⟨hlink, hst, hini, hcode, hm, hy1, hy2, hy3⟩ := hM
  simp only at hlink hst hini hcode hm hret hy1 hy2 hy3
  subst hret
  have hPc : va_P g.1 zcls wc H := fun k q h => hP (wr.length + k) q (by rw [List.getElem?_append_right (by omega), show wr.length + k - wr.length = k by omega]; exact h)
  have hDc : va_D (fun _ => True) wc := ⟨fun i j p q hi hj e => by
    have := hD.1 (wr.length + i) (wr.length + j) p q (by rw [List.getElem?_append_right (by omega), show wr.length + i - wr.length = i by omega]; exact hi) (by rw [List.getElem?_append_right (by omega), show wr.length + j - wr.length = j by omega]; exact hj) e
    omega, fun _ _ _ => trivial⟩
  have hp : PreS s H (va_Pc as (fun U => U.heap.size = H.size ∧ va_P g.1 zcls wc U.heap ∧ va_D (fun _ => True) wc ∧ zKX g U)) as := ⟨zC_blind, fun U hU hW => ⟨rfl, by rw [hU], by rw [hU]; exact hPc, hDc, hKX.warm hW⟩⟩
  have hrm : (zrc d2 mc ms).frames + 1 ≤ R.frames ∧ 8 + (maxL + 11) + (zrc d2 mc ms).locals ≤ R.locals := ⟨hd, by show 8 + (maxL + 11) + 40 * d2 ≤ R.locals; omega⟩
  have hFc := zfree hD hS hA
  have fin : va_Run p l e R s m args below meth c H locs cells slots mc ms (F0 m pc ls (as.reverse ++ st)) st (va_Qv P (fun w1 t => va_P g.1 zcls w1 t.heap ∧ va_D (va_A wc H.size) w1) (va_A wc H.size) as.toArray) (va_A wc H.size) → W p l e R s m args below meth c H locs cells slots (Q (p, l, e, R, s, m, args, below, meth, c)) (F0 m pc ls (as.reverse ++ st)) := fun hr => by
    refine va_callv hr hS (fun q _ h => hFc q h) hFc (fun w1 t H1 locs1 ht hvm hpo hB hz1 hk1 hS1 => ?_)
    obtain ⟨hP1, hD1⟩ := hB
    rw [ht] at hP1
    obtain ⟨j1, j2⟩ := zjoin hP hD hk1 hFc hP1 hD1
    exact k w1 hpo H1 locs1 ls j1 j2 hS1 hl
  rcases hlink with h1 | ⟨host, h1⟩
  · exact fin (va_runS (rest := st) ⟨hx, hb, hml, hown, hts⟩ (hC l H.size) ⟨callB_of n hts (tb_good hcode) rfl rfl rfl (hts _ hini) (hts _ h1) ⟨hy1, hy2, hy3⟩ hrm, hts _ hst⟩ hp rfl hn hl.1 rfl (lv_room hcat) dg hf)
  · exact fin (va_runSN (rest := st) ⟨hx, hb, hml, hown, hts⟩ (hC l H.size) ⟨va_cnB n hts (tb_good hcode) rfl rfl rfl (hKX.2.1 _ h1) (hts _ hini) ⟨hy1, hy2, hy3⟩ hrm, hts _ hst, trivial⟩ hp rfl hn hl.1 rfl (lv_room hcat) dg hf)
end ZV5
def wC (g : ZG) (a f b c : Nat) (fa : Nat → Int32) (ff : Nat → Int64) (fb : Nat → Int32) (fc : Nat → Int64) : va_W := [(a, .inl (g.2.2 0, 30, .inl fa)), (f, .inl (g.2.2 1, 122, .inr (.inl ff))), (b, .inl (g.2.2 0, 30, .inl fb)), (c, .inl (g.2.2 1, 122, .inr (.inl fc)))]
def PC (g : ZG) (a f b c : Nat) (fa : Nat → Int32) (ff : Nat → Int64) (w : va_W) : Prop := ∃ (fb' : Nat → Int32) (fc' : Nat → Int64), w = wC g a f b c fa ff fb' fc' ∧ (∀ j, j < 30 → fb' j = fa j) ∧ ∀ j, j < 122 → fc' j = ff j
theorem vin {i n : Nat} (h : i < n) (hn : n < 2147483648) : vp_in (iI (i : Int)) n := vp_in_iff.2 (by rw [iI_toInt (by omega) (by omega)]; omega)
theorem copy2_l {g : ZG} {A : Nat → Prop} {rm : Room} {E : ZE} {a f b c : Nat} {fa : Nat → Int32} {ff : Nat → Int64} {fb : Nat → Int32} (G : zGv g K_M_copyAll A rm E) (hfb : ∀ j, j < 30 → fb j = fa j) : ∀ (r i : Nat) (fc : Nat → Int64), i + r = 122 → (∀ j, j < i → fc j = ff j) → zV g K_M_copyAll A (zQc g (PC g a f b c fa ff) 0 0 A) E (wC g a f b c fa ff fb fc) 0 0 27 [some (.ref a), some (.ref f), some (.ref b), some (.ref c), some (.int (iI i))] []
  | 0, i, fc, e1, h => by
    refine zv_iloadw G (show decode prog_14_method_2_code 27 = .ok (.iload 4, 2) by decide +kernel) rfl ?_
    refine zv_bipush (v := 122) G (show decode prog_14_method_2_code 29 = .ok (.bipush 122, 2) by decide +kernel) rfl ?_
    refine zv_icmpge (tgt := 48) G (show decode prog_14_method_2_code 31 = .ok (.if_icmp .ge 17, 3) by decide +kernel) rfl (fun _ => ?_) (fun hh => absurd (by rw [ilit, iI_le (by omega) (by omega) (by omega) (by omega)]; omega) hh)
    exact zv_end G (show decode prog_14_method_2_code 48 = .ok (.return_, 1) by decide +kernel) rfl ⟨fb, fc, rfl, hfb, fun j hj => h j (by omega)⟩
  | r + 1, i, fc, e1, h => by
    have e : iI (i : Int) + (1 : Int32) = iI ((i + 1 : Nat) : Int) := by rw [ilit, iI_add]; congr 1
    refine zv_iloadw G (show decode prog_14_method_2_code 27 = .ok (.iload 4, 2) by decide +kernel) rfl ?_
    refine zv_bipush (v := 122) G (show decode prog_14_method_2_code 29 = .ok (.bipush 122, 2) by decide +kernel) rfl ?_
    refine zv_icmpge (tgt := 48) G (show decode prog_14_method_2_code 31 = .ok (.if_icmp .ge 17, 3) by decide +kernel) rfl (fun hh => absurd hh (by rw [ilit, iI_le (by omega) (by omega) (by omega) (by omega)]; omega)) (fun _ => ?_)
    refine zv_aload G (show decode prog_14_method_2_code 34 = .ok (.aload_n 3, 1) by decide +kernel) rfl ?_
    refine zv_iloadw G (show decode prog_14_method_2_code 35 = .ok (.iload 4, 2) by decide +kernel) rfl ?_
    refine zv_aload G (show decode prog_14_method_2_code 37 = .ok (.aload_n 1, 1) by decide +kernel) rfl ?_
    refine zv_iloadw G (show decode prog_14_method_2_code 38 = .ok (.iload 4, 2) by decide +kernel) rfl ?_
    refine zv_lald (q0 := 1) (f := ff) (n := 122) G (show decode prog_14_method_2_code 40 = .ok (.laload, 1) by decide +kernel) rfl (vin (by omega) (by omega)) ?_
    refine zv_last (q0 := 3) (f := fc) (n := 122) (ws2 := wC g a f b c fa ff fb (vp_updL fc i (ff i))) G (show decode prog_14_method_2_code 41 = .ok (.lastore, 1) by decide +kernel) rfl (vin (by omega) (by omega)) (by rw [cl_nat (by omega)]; rfl) ?_
    refine zv_iinc (v := 1) (lv2 := [some (.ref a), some (.ref f), some (.ref b), some (.ref c), some (.int (iI ((i + 1 : Nat) : Int)))]) G (show decode prog_14_method_2_code 42 = .ok (.iinc 4 1, 3) by decide +kernel) (Nat.le_of_ble_eq_true rfl) rfl rfl (by rw [e]; rfl) ?_
    refine zv_goto (tgt := 27) G (show decode prog_14_method_2_code 45 = .ok (.goto (-18), 3) by decide +kernel) rfl ?_
    refine copy2_l G hfb r (i + 1) _ (by omega) (fun j hj => ?_)
    by_cases cj : j = i
    · rw [cj, pk_uLs]
    · rw [pk_uLn cj]; exact h j (by omega)
theorem copy1_l {g : ZG} {A : Nat → Prop} {rm : Room} {E : ZE} {a f b c : Nat} {fa : Nat → Int32} {ff : Nat → Int64} {fc : Nat → Int64} (G : zGv g K_M_copyAll A rm E) : ∀ (r i : Nat) (fb : Nat → Int32), i + r = 30 → (∀ j, j < i → fb j = fa j) → zV g K_M_copyAll A (zQc g (PC g a f b c fa ff) 0 0 A) E (wC g a f b c fa ff fb fc) 0 0 3 [some (.ref a), some (.ref f), some (.ref b), some (.ref c), some (.int (iI i))] []
  | 0, i, fb, e1, h => by
    refine zv_iloadw G (show decode prog_14_method_2_code 3 = .ok (.iload 4, 2) by decide +kernel) rfl ?_
    refine zv_bipush (v := 30) G (show decode prog_14_method_2_code 5 = .ok (.bipush 30, 2) by decide +kernel) rfl ?_
    refine zv_icmpge (tgt := 24) G (show decode prog_14_method_2_code 7 = .ok (.if_icmp .ge 17, 3) by decide +kernel) rfl (fun _ => ?_) (fun hh => absurd (by rw [ilit, iI_le (by omega) (by omega) (by omega) (by omega)]; omega) hh)
    refine zv_iconst (v := 0) G (show decode prog_14_method_2_code 24 = .ok (.iconst 0, 1) by decide +kernel) rfl ?_
    refine zv_istorew (lv2 := [some (.ref a), some (.ref f), some (.ref b), some (.ref c), some (.int (iI ((0 : Nat) : Int)))]) G (show decode prog_14_method_2_code 25 = .ok (.istore 4, 2) by decide +kernel) (Nat.le_of_ble_eq_true rfl) rfl ?_
    exact copy2_l G (fun j hj => h j (by omega)) 122 0 fc (by omega) (fun j hj => by omega)
  | r + 1, i, fb, e1, h => by
    have e : iI (i : Int) + (1 : Int32) = iI ((i + 1 : Nat) : Int) := by rw [ilit, iI_add]; congr 1
    refine zv_iloadw G (show decode prog_14_method_2_code 3 = .ok (.iload 4, 2) by decide +kernel) rfl ?_
    refine zv_bipush (v := 30) G (show decode prog_14_method_2_code 5 = .ok (.bipush 30, 2) by decide +kernel) rfl ?_
    refine zv_icmpge (tgt := 24) G (show decode prog_14_method_2_code 7 = .ok (.if_icmp .ge 17, 3) by decide +kernel) rfl (fun hh => absurd hh (by rw [ilit, iI_le (by omega) (by omega) (by omega) (by omega)]; omega)) (fun _ => ?_)
    refine zv_aload G (show decode prog_14_method_2_code 10 = .ok (.aload_n 2, 1) by decide +kernel) rfl ?_
    refine zv_iloadw G (show decode prog_14_method_2_code 11 = .ok (.iload 4, 2) by decide +kernel) rfl ?_
    refine zv_aload G (show decode prog_14_method_2_code 13 = .ok (.aload_n 0, 1) by decide +kernel) rfl ?_
    refine zv_iloadw G (show decode prog_14_method_2_code 14 = .ok (.iload 4, 2) by decide +kernel) rfl ?_
    refine zv_iald (q0 := 0) (f := fa) (n := 30) G (show decode prog_14_method_2_code 16 = .ok (.iaload, 1) by decide +kernel) rfl (vin (by omega) (by omega)) ?_
    refine zv_iast (q0 := 2) (f := fb) (n := 30) (ws2 := wC g a f b c fa ff (upd fb i (fa i)) fc) G (show decode prog_14_method_2_code 17 = .ok (.iastore, 1) by decide +kernel) rfl (vin (by omega) (by omega)) (by rw [cl_nat (by omega)]; rfl) ?_
    refine zv_iinc (v := 1) (lv2 := [some (.ref a), some (.ref f), some (.ref b), some (.ref c), some (.int (iI ((i + 1 : Nat) : Int)))]) G (show decode prog_14_method_2_code 18 = .ok (.iinc 4 1, 3) by decide +kernel) (Nat.le_of_ble_eq_true rfl) rfl rfl (by rw [e]; rfl) ?_
    refine zv_goto (tgt := 3) G (show decode prog_14_method_2_code 21 = .ok (.goto (-18), 3) by decide +kernel) rfl ?_
    refine copy1_l G r (i + 1) _ (by omega) (fun j hj => ?_)
    by_cases cj : j = i
    · rw [cj, pk_us]
    · rw [pk_un cj]; exact h j (by omega)
theorem c_copyAll {g : ZG} {l : Launch} {a f b c : Nat} {fa : Nat → Int32} {ff : Nat → Int64} {fb : Nat → Int32} {fc : Nat → Int64} : zC g l 1 0 0 K_M_copyAll [.ref a, .ref f, .ref b, .ref c] (wC g a f b c fa ff fb fc) (PC g a f b c fa ff) := by
  refine zC_of (by decide +kernel) (Nat.le_of_ble_eq_true rfl) (fun E A G => ?_)
  show zV g K_M_copyAll A _ E _ 0 0 0 [some (.ref a), some (.ref f), some (.ref b), some (.ref c), none] []
  refine zv_iconst (v := 0) G (show decode prog_14_method_2_code 0 = .ok (.iconst 0, 1) by decide +kernel) rfl ?_
  refine zv_istorew (lv2 := [some (.ref a), some (.ref f), some (.ref b), some (.ref c), some (.int (iI ((0 : Nat) : Int)))]) G (show decode prog_14_method_2_code 1 = .ok (.istore 4, 2) by decide +kernel) (Nat.le_of_ble_eq_true rfl) rfl ?_
  exact copy1_l G 30 0 fb (by omega) (fun j hj => by omega)
