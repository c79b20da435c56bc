/-! what the start gives: classes, array classes, links (by program: wip/whole/gen_ground.py) -/
theorem zinst_0 : Cond.instantiable "ThinkNumber" 12 ∈ tb := tb_in (List.mem_append_left _ (List.mem_of_getElem? (i := 23) rfl)) rfl
theorem zinst_1 : Cond.instantiable "ThinkNumber$Tape" 2 ∈ tb := tb_in (List.mem_append_left _ (List.mem_of_getElem? (i := 31) rfl)) rfl
theorem zinst_2 : Cond.instantiable "ThinkNumber$Reader" 7 ∈ tb := tb_in (List.mem_append_left _ (List.mem_of_getElem? (i := 48) rfl)) rfl
theorem zinst_3 : Cond.instantiable "ThinkNumber$Table" 3 ∈ tb := tb_in (List.mem_append_left _ (List.mem_of_getElem? (i := 79) rfl)) rfl
theorem zinst_4 : Cond.instantiable "ThinkNumber$Orders" 3 ∈ tb := tb_in (List.mem_append_left _ (List.mem_of_getElem? (i := 85) rfl)) rfl
theorem zinst_5 : Cond.instantiable "ThinkNumber$State" 9 ∈ tb := tb_in (List.mem_append_left _ (List.mem_of_getElem? (i := 132) rfl)) rfl
theorem zinst_6 : Cond.instantiable "ThinkNumber$Values" 3 ∈ tb := tb_in (List.mem_append_left _ (List.mem_of_getElem? (i := 138) rfl)) rfl
theorem zinst_7 : Cond.instantiable "ThinkNumber$Value" 2 ∈ tb := tb_in (List.mem_append_left _ (List.mem_of_getElem? (i := 197) rfl)) rfl
theorem zinst_8 : Cond.instantiable "ThinkNumber$Tally" 5 ∈ tb := tb_in (List.mem_append_left _ (List.mem_of_getElem? (i := 218) rfl)) rfl
theorem zinst_9 : Cond.instantiable "ThinkNumber$Sum" 2 ∈ tb := tb_in (List.mem_append_right _ (List.mem_append_left _ (List.mem_of_getElem? (i := 1) rfl))) rfl
theorem zinst_10 : Cond.instantiable "ThinkNumber$Parting" 6 ∈ tb := tb_in (List.mem_append_right _ (List.mem_append_left _ (List.mem_of_getElem? (i := 16) rfl))) rfl
theorem zinst_11 : Cond.instantiable "ThinkNumber$Maker" 7 ∈ tb := tb_in (List.mem_append_right _ (List.mem_append_left _ (List.mem_of_getElem? (i := 41) rfl))) rfl
theorem zinst_12 : Cond.instantiable "ThinkNumberModel" 26 ∈ tb := tb_in (List.mem_append_right _ (List.mem_append_right _ (List.mem_append_right _ (List.mem_append_left _ (List.mem_of_getElem? (i := 217) rfl))))) rfl
theorem zinst {k : Nat} {q : vw_C} (h : zcls[k]? = some q) : Cond.instantiable q.1 q.2.2 ∈ tb := by
  have hk : k < 13 := (List.getElem?_eq_some_iff.mp h).1
  have : k = 0 ∨ k = 1 ∨ k = 2 ∨ k = 3 ∨ k = 4 ∨ k = 5 ∨ k = 6 ∨ k = 7 ∨ k = 8 ∨ k = 9 ∨ k = 10 ∨ k = 11 ∨ k = 12 := by omega
  rcases this with rfl | rfl | rfl | rfl | rfl | rfl | rfl | rfl | rfl | rfl | rfl | rfl | rfl
  · cases h; exact zinst_0
  · cases h; exact zinst_1
  · cases h; exact zinst_2
  · cases h; exact zinst_3
  · cases h; exact zinst_4
  · cases h; exact zinst_5
  · cases h; exact zinst_6
  · cases h; exact zinst_7
  · cases h; exact zinst_8
  · cases h; exact zinst_9
  · cases h; exact zinst_10
  · cases h; exact zinst_11
  · cases h; exact zinst_12
theorem zac_int : Cond.arrayClass .int ∈ lw_tbl := List.mem_append_right _ (List.mem_append_left _ (List.mem_of_getElem? (i := 112) rfl))
theorem zac_long : Cond.arrayClass .long ∈ lw_tbl := List.mem_append_right _ (List.mem_append_left _ (List.mem_of_getElem? (i := 156) rfl))
theorem zac_byte : Cond.arrayClass .byte ∈ lw_tbl := List.mem_append_right _ (List.mem_append_left _ (List.mem_of_getElem? (i := 46) rfl))
theorem zac_boolean : Cond.arrayClass .boolean ∈ lw_tbl := List.mem_append_right _ (List.mem_append_right _ (List.mem_append_right _ (List.mem_append_right _ (List.mem_append_right _ (List.mem_append_left _ (List.mem_of_getElem? (i := 64) rfl))))))
theorem zao_T : Cond.arrayOver (.object "ThinkNumber$Table") ∈ lw_tbl := List.mem_append_right _ (List.mem_append_left _ (List.mem_of_getElem? (i := 78) rfl))
theorem zao_J : Cond.arrayOver (.array .long) ∈ lw_tbl := List.mem_append_right _ (List.mem_append_right _ (List.mem_append_left _ (List.mem_of_getElem? (i := 47) rfl)))
theorem z_arr {s : State} {args : Array Value} {ty : FieldType} (h : (Cond.arrayClass ty).before args s = true) : ∃ cA, s.vm.findClass (FieldType.array ty).toString = some cA ∧ ArrOfT s cA ty := by
  obtain ⟨cA, kA, comp, h1, h2, h3⟩ := Cond.arrayClass_spec h
  exact ⟨cA, h1, fun n z => ⟨fun k h => (by cases h), kA, h2, comp, h3⟩⟩
theorem z_ground {s : State} {args : Array Value} (hts : ∀ w ∈ lw_tbl, w.before args s = true) : ∃ (D : va_G) (cA : Nat → ClassId), ∀ f : Nat → Nat → Nat, zKX (D, f, cA) s := by
  have htb : ∀ w ∈ tb, w.before args s = true := fun w hw => hts w (List.mem_filter.mp hw).1
  have hc : ∀ k : Nat, ∃ y : ClassId × (Nat → Nat), ∀ q : vw_C, zcls[k]? = some q → u_Kn s q.1 q.2.1 q.2.2 y.1 y.2 := fun k => by
    cases h : zcls[k]? with
    | none => exact ⟨(0, fun _ => 0), fun q hq => by cases hq⟩
    | some q =>
      obtain ⟨C, T, N⟩ := q
      obtain ⟨cC, iS, h1⟩ := u_known (n := N) htb (zlay h).1 (htb _ (zinst h))
      exact ⟨(cC, iS), fun q hq => by cases hq; exact h1⟩
  obtain ⟨F, hF⟩ := Classical.skolem.mp hc
  obtain ⟨c0, a0, b0⟩ := z_arr (hts _ zac_int)
  obtain ⟨c1, a1, b1⟩ := z_arr (hts _ zac_long)
  obtain ⟨c2, a2, b2⟩ := z_arr (hts _ zac_byte)
  obtain ⟨c3, a3, b3⟩ := z_arr (hts _ zac_boolean)
  obtain ⟨p4, c4, k4, x1, x2, x3, x4, x5⟩ := Cond.arrayOver_spec (hts _ zao_T)
  obtain ⟨p5, c5, k5, y1, y2, y3, y4, y5⟩ := arrayOverA_spec (hts _ zao_J)
  refine ⟨(fun k => (F k).1, fun k => (F k).2), fun t => match t with | 0 => c0 | 1 => c1 | 2 => c2 | 3 => c3 | 4 => c4 | _ => c5, fun f => ⟨⟨fun c q hq => hF c q hq, fun k q hk => ?_⟩, fun w hw => ?_, a0, a1, a2, a3, x5, y5, va_AO.of (hts _ zao_T), hts _ zao_J⟩⟩
  · have hk6 : k < 6 := (List.getElem?_eq_some_iff.mp hk).1
    have : k = 0 ∨ k = 1 ∨ k = 2 ∨ k = 3 ∨ k = 4 ∨ k = 5 := by omega
    rcases this with rfl | rfl | rfl | rfl | rfl | rfl
    · cases hk; exact ⟨b0, a0⟩
    · cases hk; exact ⟨b1, a1⟩
    · cases hk; exact ⟨b2, a2⟩
    · cases hk; exact ⟨b3, a3⟩
    · cases hk; exact ⟨fun N z => ⟨(fun k h => by cases h), k4, x3, p4, x4⟩, k4, p4, x3, x4, x1, x5⟩
    · cases hk; exact ⟨fun N z => ⟨(fun k h => by cases h), k5, y3, p5, y4⟩, y5⟩
  · have h1 := hts w (List.mem_append_right _ (List.mem_filter.mp hw).1)
    have h2 := (List.mem_filter.mp hw).2
    cases w with
    | fieldLinkNest a b c d e f => exact va_Nw.of rfl h1
    | methodLinkNest a b c d => exact va_Nw.of rfl h1
    | _ => cases h2
