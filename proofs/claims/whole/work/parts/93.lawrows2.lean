/-! plain rows of the law -/
section ZLS
variable {g : ZG} {A : Nat → Prop} {Q : ZE → State → Prop} {E : ZE} {μ : ZMem} {pc : Nat} {lv lv2 : List (Option Value)} {st : List Value}
theorem zl_iconst {n : Int} {v : Int32} (G : zLG g A E) (dg : decode code pc = .ok (.iconst n, 1)) (hv : Int32.ofInt n = v) (k : zL g A Q E μ (pc + 1) lv (.int v :: st)) : zL g A Q E μ pc lv st := by
  obtain ⟨p, l, e, R, s, m, args, below, meth, c⟩ := E
  obtain ⟨hx, hb, hml, hown, hts, hR, hF, hAA, hlow⟩ := G
  intro H locs ls hP hS hl
  exact lv_iconst hx hb dg hv (k H locs ls hP hS hl)
theorem zl_bipush {n : Int} {v : Int32} (G : zLG g A E) (dg : decode code pc = .ok (.bipush n, 2)) (hv : (Int8.ofInt n).toInt32 = v) (k : zL g A Q E μ (pc + 2) lv (.int v :: st)) : zL g A Q E μ pc lv st := by
  obtain ⟨p, l, e, R, s, m, args, below, meth, c⟩ := E
  obtain ⟨hx, hb, hml, hown, hts, hR, hF, hAA, hlow⟩ := G
  intro H locs ls hP hS hl
  exact lv_bipush hx hb dg hv (k H locs ls hP hS hl)
theorem zl_aload {q : Fin 4} {x : Nat} (G : zLG g A E) (dg : decode code pc = .ok (.aload_n q, 1)) (hv : lv[(q : Nat)]? = some (some (.ref x))) (k : zL g A Q E μ (pc + 1) lv (.ref x :: st)) : zL g A Q E μ pc lv st := by
  obtain ⟨p, l, e, R, s, m, args, below, meth, c⟩ := E
  obtain ⟨hx, hb, hml, hown, hts, hR, hF, hAA, hlow⟩ := G
  intro H locs ls hP hS hl
  exact lv_aload_n hx hb dg rfl (hl.2.2 _ _ hv) (k H locs ls hP hS hl)
theorem zl_iload {q : Fin 4} {x : Int32} (G : zLG g A E) (dg : decode code pc = .ok (.iload_n q, 1)) (hv : lv[(q : Nat)]? = some (some (.int x))) (k : zL g A Q E μ (pc + 1) lv (.int x :: st)) : zL g A Q E μ pc lv st := by
  obtain ⟨p, l, e, R, s, m, args, below, meth, c⟩ := E
  obtain ⟨hx, hb, hml, hown, hts, hR, hF, hAA, hlow⟩ := G
  intro H locs ls hP hS hl
  exact lv_iload_n hx hb dg rfl (hl.2.2 _ _ hv) (k H locs ls hP hS hl)
theorem zl_iadd {x y : Int32} (G : zLG g A E) (dg : decode code pc = .ok (.iadd, 1)) (k : zL g A Q E μ (pc + 1) lv (.int (x + y) :: st)) : zL g A Q E μ pc lv (.int y :: .int x :: st) := by
  obtain ⟨p, l, e, R, s, m, args, below, meth, c⟩ := E
  obtain ⟨hx, hb, hml, hown, hts, hR, hF, hAA, hlow⟩ := G
  intro H locs ls hP hS hl
  exact lv_iadd hx hb dg (k H locs ls hP hS hl)
theorem zl_isub {x y : Int32} (G : zLG g A E) (dg : decode code pc = .ok (.isub, 1)) (k : zL g A Q E μ (pc + 1) lv (.int (x - y) :: st)) : zL g A Q E μ pc lv (.int y :: .int x :: st) := by
  obtain ⟨p, l, e, R, s, m, args, below, meth, c⟩ := E
  obtain ⟨hx, hb, hml, hown, hts, hR, hF, hAA, hlow⟩ := G
  intro H locs ls hP hS hl
  exact lv_isub hx hb dg (k H locs ls hP hS hl)
theorem zl_iand {x y : Int32} (G : zLG g A E) (dg : decode code pc = .ok (.iand, 1)) (k : zL g A Q E μ (pc + 1) lv (.int (x &&& y) :: st)) : zL g A Q E μ pc lv (.int y :: .int x :: st) := by
  obtain ⟨p, l, e, R, s, m, args, below, meth, c⟩ := E
  obtain ⟨hx, hb, hml, hown, hts, hR, hF, hAA, hlow⟩ := G
  intro H locs ls hP hS hl
  exact lv_iand hx hb dg (k H locs ls hP hS hl)
theorem zl_goto {off : Int} {tgt : Nat} (G : zLG g A E) (dg : decode code pc = .ok (.goto off, 3)) (ht : (pc : Int) + off = (tgt : Int)) (k : zL g A Q E μ tgt lv st) : zL g A Q E μ pc lv st := by
  obtain ⟨p, l, e, R, s, m, args, below, meth, c⟩ := E
  obtain ⟨hx, hb, hml, hown, hts, hR, hF, hAA, hlow⟩ := G
  intro H locs ls hP hS hl
  exact lv_goto hx hb dg ht (k H locs ls hP hS hl)
theorem zl_icmp_gt {x y : Int32} {off : Int} {tgt : Nat} (G : zLG g A E) (dg : decode code pc = .ok (.if_icmp .gt off, 3)) (ht : (pc : Int) + off = (tgt : Int)) (k1 : y < x → zL g A Q E μ tgt lv st) (k2 : ¬ y < x → zL g A Q E μ (pc + 3) lv st) : zL g A Q E μ pc lv (.int y :: .int x :: st) := by
  obtain ⟨p, l, e, R, s, m, args, below, meth, c⟩ := E
  obtain ⟨hx, hb, hml, hown, hts, hR, hF, hAA, hlow⟩ := G
  intro H locs ls hP hS hl
  exact lv_icmp_gt hx hb dg ht (fun q => k1 q H locs ls hP hS hl) (fun q => k2 q H locs ls hP hS hl)
theorem zl_icmp_eq {x y : Int32} {off : Int} {tgt : Nat} (G : zLG g A E) (dg : decode code pc = .ok (.if_icmp .eq off, 3)) (ht : (pc : Int) + off = (tgt : Int)) (k1 : x = y → zL g A Q E μ tgt lv st) (k2 : ¬ x = y → zL g A Q E μ (pc + 3) lv st) : zL g A Q E μ pc lv (.int y :: .int x :: st) := by
  obtain ⟨p, l, e, R, s, m, args, below, meth, c⟩ := E
  obtain ⟨hx, hb, hml, hown, hts, hR, hF, hAA, hlow⟩ := G
  intro H locs ls hP hS hl
  exact lv_icmp_eq hx hb dg ht (fun q => k1 q H locs ls hP hS hl) (fun q => k2 q H locs ls hP hS hl)
theorem zl_if_eq {x : Int32} {off : Int} {tgt : Nat} (G : zLG g A E) (dg : decode code pc = .ok (.ifCond .eq off, 3)) (ht : (pc : Int) + off = (tgt : Int)) (k1 : x = 0 → zL g A Q E μ tgt lv st) (k2 : ¬ x = 0 → zL g A Q E μ (pc + 3) lv st) : zL g A Q E μ pc lv (.int x :: st) := by
  obtain ⟨p, l, e, R, s, m, args, below, meth, c⟩ := E
  obtain ⟨hx, hb, hml, hown, hts, hR, hF, hAA, hlow⟩ := G
  intro H locs ls hP hS hl
  exact lv_if_eq hx hb dg ht (fun q => k1 q H locs ls hP hS hl) (fun q => k2 q H locs ls hP hS hl)
theorem zl_iinc {q : Nat} {n : Int} {x v : Int32} (G : zLG g A E) (dg : decode code pc = .ok (.iinc q n, 3)) (hn : q < 4) (hv : lv[q]? = some (some (.int x))) (hc : Int32.ofInt n = v) (hq : zst1 lv q (.int (x + v)) = lv2) (k : zL g A Q E μ (pc + 3) lv2 st) : zL g A Q E μ pc lv st := by
  obtain ⟨p, l, e, R, s, m, args, below, meth, c⟩ := E
  obtain ⟨hx, hb, hml, hown, hts, hR, hF, hAA, hlow⟩ := G
  intro H locs ls hP hS hl
  obtain ⟨k9, hk9⟩ := zasl_at hv
  exact lv_iinc hx hb dg (zl_to hl) hk9 (by rw [hc]) hn rfl (fun ls2 h2 => k H locs ls2 hP hS (hq ▸ zl_st1 h2))
end ZLS
