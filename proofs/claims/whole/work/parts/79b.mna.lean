abbrev sI (g : ZG) (t n q : Nat) : Nat × va_E := (q, .inl (g.2.2 t, n, .inl (fun _ => 0)))
abbrev sJ (g : ZG) (n q : Nat) : Nat × va_E := (q, .inl (g.2.2 1, n, .inr (.inl (fun _ => 0))))
abbrev sR (g : ZG) (q : Nat) (f : Nat → Option Nat) : Nat × va_E := (q, .inl (g.2.2 4, 4, .inr (.inr (.inr (.inr f)))))
def sG (g : ZG) (q : Nat) : va_W := [(q, .inl (g.2.2 5, 6, .inr (.inr (.inr (.inr (fun j => some (q + 1 + j))))))), sJ g 100 (q + 1 + 0), sJ g 100 (q + 1 + 1), sJ g 100 (q + 1 + 2), sJ g 100 (q + 1 + 3), sJ g 100 (q + 1 + 4), sJ g 100 (q + 1 + 5)]
theorem sG_at {g : ZG} {q k : Nat} {x : Nat × va_E} (h : (sG g q)[k]? = some x) : x.1 = q + k ∧ ((k = 0 ∧ x = (q, .inl (g.2.2 5, 6, .inr (.inr (.inr (.inr (fun j => some (q + 1 + j)))))))) ∨ (∃ j, j < 6 ∧ x = sJ g 100 (q + 1 + j))) := by
  have hk : k < 7 := (List.getElem?_eq_some_iff.mp h).1
  have : k = 0 ∨ k = 1 ∨ k = 2 ∨ k = 3 ∨ k = 4 ∨ k = 5 ∨ k = 6 := by omega
  rcases this with rfl | rfl | rfl | rfl | rfl | rfl | rfl
  · cases h; exact ⟨rfl, Or.inl ⟨rfl, rfl⟩⟩
  · cases h; exact ⟨rfl, Or.inr ⟨0, by omega, rfl⟩⟩
  · cases h; exact ⟨rfl, Or.inr ⟨1, by omega, rfl⟩⟩
  · cases h; exact ⟨rfl, Or.inr ⟨2, by omega, rfl⟩⟩
  · cases h; exact ⟨rfl, Or.inr ⟨3, by omega, rfl⟩⟩
  · cases h; exact ⟨rfl, Or.inr ⟨4, by omega, rfl⟩⟩
  · cases h; exact ⟨rfl, Or.inr ⟨5, by omega, rfl⟩⟩
section ZV3
variable {g : ZG} {K K2 : ZK} {A : Nat → Prop} {Q : ZE → State → Prop} {rm : Room} {E : ZE} {ws ws2 wr wc : va_W} {cells slots pc : Nat} {lv lv2 : List (Option Value)} {st st2 : List Value}
theorem zv_mna {idx : Nat} (G : zGv g K A rm E) (dg : decode K.2.1 pc = .ok (.multianewarray idx 2, 4)) (w1 : Cond.classLink K.1.cls idx "[[J" ∈ tb) (w2 : Cond.arrayClass .long ∈ tb) (h1 : cells + 7 ≤ rm.cells) (h2 : slots + 606 ≤ rm.slots) (k : ∀ q, zV g K A Q E (ws ++ sG g q) (cells + 7) (slots + 606) (pc + 4) lv (.ref q :: st)) : zV g K A Q E ws cells slots pc lv (.int 100 :: .int 6 :: st) := by
  obtain ⟨p, l, e, R, s, m, args, below, meth, c⟩ := E
  obtain ⟨hx, hb, hml, hown, hts, hr, hlk, hR, hin, hKX, hA⟩ := G
  subst hR
  intro H locs ls hP hD hS hl
  refine z_mna hx hb hown (hts _ w1) hKX.2.2.2.2.2.2.2.2.2 (hts _ w2) dg h1 h2 (fun cA cI kA kI comp H' locs' f1 f2 f3 f4 f5 f6 z1 z2 z3 z4 z5 => ?_)
  have eA : cA = g.2.2 5 := Option.some.inj (f1.symm.trans hKX.2.2.2.2.2.2.2.1)
  have eI : cI = g.2.2 1 := Option.some.inj (f2.symm.trans hKX.2.2.2.1)
  subst eA
  subst eI
  have hk : ∀ (k : Nat) (x : Nat × va_E), ws[k]? = some x → H'[x.1]? = H[x.1]? := fun k x hx => z4 x.1 ((hP k x hx).lt)
  refine k H.size H' locs' ls ((hP.kept hk).app (fun k x hx => ?_)) (va_D.app hD ⟨fun i j p q hi hj e => ?_, fun k q hk => ?_⟩ (fun i j p q hi hj e => ?_)) ⟨by rw [z1]; exact Nat.le_trans hS.1 (by omega), fun x q1 q2 => (z4 x (Nat.lt_of_lt_of_le q1 hS.1)).trans (hS.2.1 x q1 q2), fun x hx => ?_⟩ hl
  · obtain ⟨-, h⟩ := sG_at hx
    rcases h with ⟨-, rfl⟩ | ⟨j, hj, rfl⟩
    · show H'[H.size]? = some (vp_cell _ _)
      rw [z2, zgO_arr]
    · show H'[H.size + 1 + j]? = some (vp_cell _ _)
      rw [z3 j hj, zgI_arr]
  · have a1 := (sG_at hi).1
    have a2 := (sG_at hj).1
    omega
  · have a1 := (sG_at hk).1
    exact hA _ (by rw [a1]; exact Nat.le_trans hS.1 (by omega))
  · have a1 := (hP i p hi).lt
    have a2 := (sG_at hj).1
    omega
  · rcases z5 x hx with h | h
    · exact hS.2.2 x h
    · rw [h]; exact hA _ hS.1
theorem zv_perm {is : List Nat} (hn : va_nd is = true) (hs : is.map (fun i => ws[i]?) = ws2.map some) (k : zV g K A Q E ws2 cells slots pc lv st) : zV g K A Q E ws cells slots pc lv st := by
  obtain ⟨p, l, e, R, s, m, args, below, meth, c⟩ := E
  intro H locs ls hP hD hS hl
  have key : ∀ (k : Nat) (q : Nat × va_E), ws2[k]? = some q → ∃ i, ws[i]? = some q := fun k q hk => by
    have h1 : (is.map (fun i => ws[i]?))[k]? = some (some q) := by rw [hs, List.getElem?_map, hk]; rfl
    rw [List.getElem?_map] at h1
    cases hi : is[k]? with
    | none => rw [hi] at h1; cases h1
    | some i => rw [hi] at h1; exact ⟨i, Option.some.inj h1⟩
  exact k H locs ls (fun k q hk => by obtain ⟨i, hi⟩ := key k q hk; exact hP i q hi) (hD.sub is hn hs) hS hl
end ZV3
