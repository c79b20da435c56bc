/-! the law reads its script -/
def zSX (b L : Nat) (xs : Nat → Int32) (E : ZE) : Prop := match E with
  | (_, _, _, _, s, _, _, _, _, _) => va_X b L xs s s.heap ∧ b < s.heap.size
section ZLT
variable {g : ZG} {A : Nat → Prop} {Q : ZE → State → Prop} {E : ZE} {μ : ZMem} {pc b L : Nat} {xs : Nat → Int32} {lv lv2 : List (Option Value)} {st : List Value}
theorem zl_slen (G : zLG g A E) (hX : zSX b L xs E) (dg : decode code pc = .ok (.arraylength, 1)) (k : zL g A Q E μ (pc + 1) lv (.int (Int32.ofNat L) :: st)) : zL g A Q E μ pc lv (.ref b :: st) := by
  obtain ⟨p, l, e, R, s, m, args, below, meth, c⟩ := E
  obtain ⟨hx, hb, hml, hown, hts, hR, hF, hAA, hlow⟩ := G
  intro H locs ls hP hS hl
  exact va_slen hx hb hX.1 hX.2 (hlow b hX.2) hS dg (k H locs ls hP hS hl)
theorem zl_sld {i : Int32} (G : zLG g A E) (hX : zSX b L xs E) (hin : vp_in i L) (dg : decode code pc = .ok (.iaload, 1)) (k : zL g A Q E μ (pc + 1) lv (.int (xs i.toNatClampNeg) :: st)) : zL g A Q E μ pc lv (.int i :: .ref b :: st) := by
  obtain ⟨p, l, e, R, s, m, args, below, meth, c⟩ := E
  obtain ⟨hx, hb, hml, hown, hts, hR, hF, hAA, hlow⟩ := G
  intro H locs ls hP hS hl
  exact va_sld hx hb hX.1 hX.2 (hlow b hX.2) hS hin dg (k H locs ls hP hS hl)
end ZLT
