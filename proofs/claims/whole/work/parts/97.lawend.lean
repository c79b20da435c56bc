/-! rows of the law: its switch, lcmp -/
section ZLV
variable {g : ZG} {A : Nat → Prop} {Q : ZE → State → Prop} {E : ZE} {μ : ZMem} {pc : Nat} {lv lv2 : List (Option Value)} {st : List Value}
theorem zl_lcmp {x y : Int64} (G : zLG g A E) (dg : decode code pc = .ok (.lcmp, 1)) (k : zL g A Q E μ (pc + 1) lv (.int (lg_cmp x y) :: st)) : zL g A Q E μ pc lv (.long y :: .long x :: st) := by
  obtain ⟨p, l, e, R, s, m, args, below, meth, c⟩ := E
  obtain ⟨hx, hb, hml, hown, hts, hR, hF, hAA, hlow⟩ := G
  intro H locs ls hP hS hl
  exact W.lcmp hx hb dg (k H locs ls hP hS hl)
theorem zl_sw {dflt lo hi off : Int} {offs : Array Int} {len tgt : Nat} {x c : Int32} (G : zLG g A E) (dg : decode code pc = .ok (.tableswitch dflt lo hi offs, len)) (hxc : x = c) (h1 : ¬ c.toInt < lo) (h2 : ¬ hi < c.toInt) (ho : offs[(c.toInt - lo).toNat]? = some off) (ht : (pc : Int) + off = (tgt : Int)) (kk : zL g A Q E μ tgt lv st) : zL g A Q E μ pc lv (.int x :: st) := by
  subst hxc
  obtain ⟨p, l, e, R, s, m, args, below, meth, c⟩ := E
  obtain ⟨hx, hb, hml, hown, hts, hR, hF, hAA, hlow⟩ := G
  intro H locs ls hP hS hl
  exact lv_tableIn hx hb dg h1 h2 ho ht (kk H locs ls hP hS hl)
end ZLV
