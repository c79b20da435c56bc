/-! an argument out of the script; as it is, and as a boolean -/
section ZLU
variable {g : ZG} {A : Nat → Prop} {Q : ZE → State → Prop} {E : ZE} {μ : ZMem} {pc b L : Nat} {xs : Nat → Int32} {lv lv2 : List (Option Value)} {st : List Value}
theorem zl_arg {n : Int} {v i : Int32} (G : zLG g A E) (hX : zSX b L xs E) (h0 : lv[0]? = some (some (.ref b))) (h3 : lv[3]? = some (some (.int i))) (d1 : decode code pc = .ok (.aload_n 0, 1)) (d2 : decode code (pc + 1) = .ok (.iload_n 3, 1)) (d3 : decode code (pc + 1 + 1) = .ok (.iconst n, 1)) (d4 : decode code (pc + 1 + 1 + 1) = .ok (.iadd, 1)) (d5 : decode code (pc + 1 + 1 + 1 + 1) = .ok (.iaload, 1)) (hv : Int32.ofInt n = v) (hin : vp_in (i + v) L) (k : zL g A Q E μ (pc + 1 + 1 + 1 + 1 + 1) lv (.int (xs (i + v).toNatClampNeg) :: st)) : zL g A Q E μ pc lv st :=
  zl_aload G d1 h0 (zl_iload G d2 h3 (zl_iconst G d3 hv (zl_iadd G d4 (zl_sld G hX hin d5 k))))
theorem zl_bool {x : Int32} {o1 o2 : Int} {t1 t2 : Nat} (G : zLG g A E) (d1 : decode code pc = .ok (.ifCond .eq o1, 3)) (e1 : (pc : Int) + o1 = (t1 : Int)) (d2 : decode code (pc + 3) = .ok (.iconst 1, 1)) (d3 : decode code (pc + 3 + 1) = .ok (.goto o2, 3)) (e2 : ((pc + 3 + 1 : Nat) : Int) + o2 = (t2 : Int)) (d4 : decode code t1 = .ok (.iconst 0, 1)) (e3 : t1 + 1 = t2) (k : zL g A Q E μ t2 lv (.int (if x = 0 then 0 else 1) :: st)) : zL g A Q E μ pc lv (.int x :: st) := by
  refine zl_if_eq G d1 e1 (fun hx => ?_) (fun hx => ?_)
  · rw [if_pos hx] at k
    subst e3
    exact zl_iconst (v := 0) G d4 rfl k
  · rw [if_neg hx] at k
    exact zl_iconst (v := 1) G d2 rfl (zl_goto G d3 e2 k)
end ZLU
