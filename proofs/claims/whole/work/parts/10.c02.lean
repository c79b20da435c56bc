/-! contracts: each method does what its function says (by program: wip/whole/gen.py) -/
set_option maxHeartbeats 4000000 in
set_option maxRecDepth 20000 in
theorem tf_Table_firstOfAll_l2_0 {g : ZG} {E : ZE} {N : Nat} {rr : Unit × ZMem} {o : Nat} {p0 : Nat} (G : zGa g K_Table_firstOfAll 1 E) (hl0 : (3, o) ∈ zids) (hl1 : (26, p0) ∈ zids) : ∀ (n2 : Nat) (z2 : Int32) (μ3 : ZMem), f_Table_firstOfAll_l2 N o p0 n2 z2 μ3 = some rr → zX g K_Table_firstOfAll 1 E (none, rr.2) μ3 2 [some (.ref (g.2.1 3 o)), some (.ref (g.2.1 26 p0)), some (.int z2)] [] := by
  intro n2
  induction n2 with
  | zero => intro z2 μ3 h; cases h
  | succ n2 ih2 =>
    intro z2 μ3 h
    simp only [f_Table_firstOfAll_l2] at h
    refine zx_iload_n G d_Table_firstOfAll_2 rfl ?_
    refine zx_iconst (v := 4) G d_Table_firstOfAll_3 rfl ?_
    refine zx_icmp_ge (tgt := 26) G d_Table_firstOfAll_4 rfl h (fun h => ?_) (fun h => ?_)
    · exact zx_vret G d_Table_firstOfAll_26 rfl h
    · refine zx_aload_n G d_Table_firstOfAll_7 rfl ?_
      refine zx_iload_n G d_Table_firstOfAll_8 rfl ?_
      refine zx_aload_n G d_Table_firstOfAll_9 rfl ?_
      refine zx_getR G d_Table_firstOfAll_10 zf_Table_20 zc_3_1 hl0 ?_
      refine zx_iload_n G d_Table_firstOfAll_13 rfl ?_
      refine zx_iald G d_Table_firstOfAll_14 za_24 (zi_3_1 hl0) h (fun h => ?_)
      refine zx_iconst (v := 0) G d_Table_firstOfAll_15 rfl ?_
      refine zx_mmax G d_Table_firstOfAll_16 zm_Table_86 zMs_max zMi zMy_max (Nat.le_of_ble_eq_true rfl) (Nat.le_of_ble_eq_true rfl) ?_
      refine zx_iast G d_Table_firstOfAll_19 za_26 hl1 h (fun μ4 h => ?_)
      refine zx_iinc (v := 1) (lf := fun y => [_, _, some (.int y)]) G d_Table_firstOfAll_20 (Nat.le_of_ble_eq_true rfl) rfl rfl (fun _ => rfl) h (fun x5 h => ?_)
      refine zx_goto (tgt := 2) G d_Table_firstOfAll_23 rfl ?_
      exact ih2 x5 μ4 h
set_option maxHeartbeats 4000000 in
set_option maxRecDepth 20000 in
theorem tf_Table_firstOfAll_l2 {g : ZG} {E : ZE} {N n2 : Nat} {rr : Unit × ZMem} {o : Nat} {p0 : Nat} {z2 : Int32} {μ3 : ZMem} (G : zGa g K_Table_firstOfAll 1 E) (hl0 : (3, o) ∈ zids) (hl1 : (26, p0) ∈ zids) (h : f_Table_firstOfAll_l2 N o p0 n2 z2 μ3 = some rr) : zX g K_Table_firstOfAll 1 E (none, rr.2) μ3 2 [some (.ref (g.2.1 3 o)), some (.ref (g.2.1 26 p0)), some (.int z2)] [] := tf_Table_firstOfAll_l2_0 G hl0 hl1 n2 z2 μ3 h
set_option maxHeartbeats 4000000 in
set_option maxRecDepth 20000 in
theorem t_Table_firstOfAll {g : ZG} {l : Launch} {N : Nat} {μ : ZMem} {o : Nat} {p0 : Nat} (ho : (3, o) ∈ zids) (hp0 : (26, p0) ∈ zids) {rr : Unit × ZMem} (h : f_Table_firstOfAll N μ o p0 = some rr) : zT g l 1 K_Table_firstOfAll [.ref (g.2.1 3 o), .ref (g.2.1 26 p0)] μ (none, rr.2) := by
  refine zT_of (by decide +kernel) (Nat.le_of_ble_eq_true rfl) (fun E G => ?_)
  show zX g K_Table_firstOfAll 1 E (none, rr.2) μ 0 [some (.ref (g.2.1 3 o)), some (.ref (g.2.1 26 p0)), none] []
  unfold f_Table_firstOfAll at h
  refine zx_iconst (v := 0) G d_Table_firstOfAll_0 rfl ?_
  refine zx_istore_n (lf := fun y => [_, _, some (.int y)]) G d_Table_firstOfAll_1 (Nat.le_of_ble_eq_true rfl) (fun _ => rfl) h (fun x1 h => ?_)
  refine tf_Table_firstOfAll_l2 G ho hp0 h
set_option maxHeartbeats 4000000 in
set_option maxRecDepth 20000 in
theorem t_Table_comesToEnd {g : ZG} {l : Launch} {N : Nat} {μ : ZMem} {o : Nat} {p0 : Nat} {p1 : Nat} (ho : (3, o) ∈ zids) (hp0 : (26, p0) ∈ zids) (hp1 : (7, p1) ∈ zids) {rr : Int32 × ZMem} (h : f_Table_comesToEnd N μ o p0 p1 = some rr) : zT g l 5 K_Table_comesToEnd [.ref (g.2.1 3 o), .ref (g.2.1 26 p0), .ref (g.2.1 7 p1)] μ (some (.int rr.1), rr.2) := by
  refine zT_of (by decide +kernel) (Nat.le_of_ble_eq_true rfl) (fun E G => ?_)
  show zX g K_Table_comesToEnd 5 E (some (.int rr.1), rr.2) μ 0 [some (.ref (g.2.1 3 o)), some (.ref (g.2.1 26 p0)), some (.ref (g.2.1 7 p1))] []
  unfold f_Table_comesToEnd at h
  refine zx_aload_n G d_Table_comesToEnd_0 rfl ?_
  refine zx_aload_n G d_Table_comesToEnd_1 rfl ?_
  refine zx_getR G d_Table_comesToEnd_2 zf_Table_14 zc_3_0 ho ?_
  refine zx_getI G d_Table_comesToEnd_5 zf_Table_27 zc_4_2 (zi_3_0 ho) ?_
  refine zx_aload_n G d_Table_comesToEnd_8 rfl ?_
  refine zx_aload_n G d_Table_comesToEnd_9 rfl ?_
  obtain ⟨r2, μ1, hc, h⟩ := zbnd_of h
  refine zx_callVI (r := r2) (μ2 := μ1) G d_Table_comesToEnd_10 zm_Table_71 (fun l => t_Table_run ho hp0 hp1 hc) rfl rfl (Nat.le_of_ble_eq_true rfl) (Nat.le_of_ble_eq_true rfl) (zrecv zo_3 ho) ?_
  refine zx_aload_n G d_Table_comesToEnd_13 rfl ?_
  refine zx_getR G d_Table_comesToEnd_14 zf_Table_14 zc_3_0 ho ?_
  refine zx_getI G d_Table_comesToEnd_17 zf_Table_27 zc_4_2 (zi_3_0 ho) ?_
  refine zx_icmp_ne (tgt := 27) G d_Table_comesToEnd_20 rfl h (fun h => ?_) (fun h => ?_)
  · refine zx_iconst (v := 0) G d_Table_comesToEnd_27 rfl ?_
    exact zx_zretK G d_Table_comesToEnd_28 rfl (by decide) h
  · refine zx_iconst (v := 1) G d_Table_comesToEnd_23 rfl ?_
    refine zx_goto (tgt := 28) G d_Table_comesToEnd_24 rfl ?_
    exact zx_zretK G d_Table_comesToEnd_28 rfl (by decide) h
set_option maxHeartbeats 4000000 in
set_option maxRecDepth 20000 in
theorem tf_Table_nextOfAll_l2_0 {g : ZG} {E : ZE} {N : Nat} {rr : Unit × ZMem} {o : Nat} {p0 : Nat} {kx26 : Int32 → ZMem → Option (Unit × ZMem)} (G : zGa g K_Table_nextOfAll 2 E) (hl0 : (3, o) ∈ zids) (hl1 : (26, p0) ∈ zids) (hkx26 : ∀ (w2 : Int32) (μ : ZMem), kx26 w2 μ = some rr → zX g K_Table_nextOfAll 2 E (none, rr.2) μ 26 [none, some (.ref (g.2.1 26 p0)), some (.int w2)] []) : ∀ (n2 : Nat) (z2 : Int32) (μ3 : ZMem), f_Table_nextOfAll_l2 N o p0 kx26 n2 z2 μ3 = some rr → zX g K_Table_nextOfAll 2 E (none, rr.2) μ3 2 [some (.ref (g.2.1 3 o)), some (.ref (g.2.1 26 p0)), some (.int z2)] [] := by
  intro n2
  induction n2 with
  | zero => intro z2 μ3 h; cases h
  | succ n2 ih2 =>
    intro z2 μ3 h
    simp only [f_Table_nextOfAll_l2] at h
    refine zx_iload_n G d_Table_nextOfAll_2 rfl ?_
    refine zx_if_lt (tgt := 49) G d_Table_nextOfAll_3 rfl h (fun h => ?_) (fun h => ?_)
    · exact zx_vret G d_Table_nextOfAll_49 rfl h
    · refine zx_aload_n G d_Table_nextOfAll_6 rfl ?_
      refine zx_iload_n G d_Table_nextOfAll_7 rfl ?_
      obtain ⟨r5, μ4, hc, h⟩ := zbnd_of h
      refine zx_callVI (r := r5) (μ2 := μ4) G d_Table_nextOfAll_8 zm_Table_41 (fun l => t_Table_isHidden hl0 hc) rfl rfl (Nat.le_of_ble_eq_true rfl) (Nat.le_of_ble_eq_true rfl) (zrecv zo_3 hl0) ?_
      refine zx_join (P := fun k => ∀ (μ6 : ZMem), k μ6 = some rr → zX g K_Table_nextOfAll 2 E (none, rr.2) μ6 43 [some (.ref (g.2.1 3 o)), some (.ref (g.2.1 26 p0)), some (.int z2)] []) h (fun μ6 h => ?_) (fun k7 hk7 h => ?_)
      · try dsimp only at h
        refine zx_iinc (v := -1) (lf := fun y => [_, _, some (.int y)]) G d_Table_nextOfAll_43 (Nat.le_of_ble_eq_true rfl) rfl rfl (fun _ => rfl) h (fun x8 h => ?_)
        refine zx_goto (tgt := 2) G d_Table_nextOfAll_46 rfl ?_
        exact ih2 x8 μ6 h
      try dsimp only at h
      refine zx_if_eq (tgt := 43) G d_Table_nextOfAll_11 rfl h (fun h => ?_) (fun h => ?_)
      · exact hk7 μ4 h
      · refine zx_aload_n G d_Table_nextOfAll_14 rfl ?_
        refine zx_iload_n G d_Table_nextOfAll_15 rfl ?_
        refine zx_iald G d_Table_nextOfAll_16 za_26 hl1 h (fun h => ?_)
        refine zx_aload_n G d_Table_nextOfAll_17 rfl ?_
        refine zx_getR G d_Table_nextOfAll_18 zf_Table_24 zc_3_2 hl0 ?_
        refine zx_iload_n G d_Table_nextOfAll_21 rfl ?_
        refine zx_iald G d_Table_nextOfAll_22 za_25 (zi_3_2 hl0) h (fun h => ?_)
        refine zx_icmp_ge (tgt := 34) G d_Table_nextOfAll_23 rfl h (fun h => ?_) (fun h => ?_)
        · refine zx_aload_n G d_Table_nextOfAll_34 rfl ?_
          refine zx_iload_n G d_Table_nextOfAll_35 rfl ?_
          refine zx_aload_n G d_Table_nextOfAll_36 rfl ?_
          refine zx_getR G d_Table_nextOfAll_37 zf_Table_20 zc_3_1 hl0 ?_
          refine zx_iload_n G d_Table_nextOfAll_40 rfl ?_
          refine zx_iald G d_Table_nextOfAll_41 za_24 (zi_3_1 hl0) h (fun h => ?_)
          refine zx_iast G d_Table_nextOfAll_42 za_26 hl1 h (fun μ9 h => ?_)
          exact hk7 μ9 h
        · refine zx_weak [false, true, true] (lv2 := [none, _, _]) rfl ?_
          exact hkx26 z2 μ4 h
set_option maxHeartbeats 4000000 in
set_option maxRecDepth 20000 in
theorem tf_Table_nextOfAll_l2 {g : ZG} {E : ZE} {N n2 : Nat} {rr : Unit × ZMem} {o : Nat} {p0 : Nat} {kx26 : Int32 → ZMem → Option (Unit × ZMem)} {z2 : Int32} {μ3 : ZMem} (G : zGa g K_Table_nextOfAll 2 E) (hl0 : (3, o) ∈ zids) (hl1 : (26, p0) ∈ zids) (h : f_Table_nextOfAll_l2 N o p0 kx26 n2 z2 μ3 = some rr) (hkx26 : ∀ (w2 : Int32) (μ : ZMem), kx26 w2 μ = some rr → zX g K_Table_nextOfAll 2 E (none, rr.2) μ 26 [none, some (.ref (g.2.1 26 p0)), some (.int w2)] []) : zX g K_Table_nextOfAll 2 E (none, rr.2) μ3 2 [some (.ref (g.2.1 3 o)), some (.ref (g.2.1 26 p0)), some (.int z2)] [] := tf_Table_nextOfAll_l2_0 G hl0 hl1 hkx26 n2 z2 μ3 h
set_option maxHeartbeats 4000000 in
set_option maxRecDepth 20000 in
theorem t_Table_nextOfAll {g : ZG} {l : Launch} {N : Nat} {μ : ZMem} {o : Nat} {p0 : Nat} (ho : (3, o) ∈ zids) (hp0 : (26, p0) ∈ zids) {rr : Unit × ZMem} (h : f_Table_nextOfAll N μ o p0 = some rr) : zT g l 2 K_Table_nextOfAll [.ref (g.2.1 3 o), .ref (g.2.1 26 p0)] μ (none, rr.2) := by
  refine zT_of (by decide +kernel) (Nat.le_of_ble_eq_true rfl) (fun E G => ?_)
  show zX g K_Table_nextOfAll 2 E (none, rr.2) μ 0 [some (.ref (g.2.1 3 o)), some (.ref (g.2.1 26 p0)), none] []
  unfold f_Table_nextOfAll at h
  refine zx_iconst (v := 3) G d_Table_nextOfAll_0 rfl ?_
  refine zx_istore_n (lf := fun y => [_, _, some (.int y)]) G d_Table_nextOfAll_1 (Nat.le_of_ble_eq_true rfl) (fun _ => rfl) h (fun x1 h => ?_)
  refine tf_Table_nextOfAll_l2 G ho hp0 h (fun x10 μ11 h => ?_)
  · try dsimp only at h
    refine zx_aload_n G d_Table_nextOfAll_26 rfl ?_
    refine zx_iload_n G d_Table_nextOfAll_27 rfl ?_
    refine zx_dup2_11 G d_Table_nextOfAll_28 rfl rfl ?_
    refine zx_iald G d_Table_nextOfAll_29 za_26 hp0 h (fun h => ?_)
    refine zx_iconst (v := 1) G d_Table_nextOfAll_30 rfl ?_
    refine zx_iadd G d_Table_nextOfAll_31 ?_
    refine zx_iast G d_Table_nextOfAll_32 za_26 hp0 h (fun μ12 h => ?_)
    exact zx_vret G d_Table_nextOfAll_33 rfl h
set_option maxHeartbeats 4000000 in
set_option maxRecDepth 20000 in
theorem t_Value_copyFrom {g : ZG} {l : Launch} {N : Nat} {μ : ZMem} {o : Nat} {p0 : Nat} (ho : (7, o) ∈ zids) (hp0 : (7, p0) ∈ zids) {rr : Unit × ZMem} (h : f_Value_copyFrom N μ o p0 = some rr) : zT g l 0 K_Value_copyFrom [.ref (g.2.1 7 o), .ref (g.2.1 7 p0)] μ (none, rr.2) := by
  refine zT_of (by decide +kernel) (Nat.le_of_ble_eq_true rfl) (fun E G => ?_)
  show zX g K_Value_copyFrom 0 E (none, rr.2) μ 0 [some (.ref (g.2.1 7 o)), some (.ref (g.2.1 7 p0))] []
  unfold f_Value_copyFrom at h
  refine zx_aload_n G d_Value_copyFrom_0 rfl ?_
  refine zx_aload_n G d_Value_copyFrom_1 rfl ?_
  refine zx_getJ G d_Value_copyFrom_2 zf_Value_15 zc_7_0 hp0 ?_
  refine zx_putJ G d_Value_copyFrom_5 zq_Value_15 zp_7_0 ho h (fun μ1 h => ?_)
  refine zx_aload_n G d_Value_copyFrom_8 rfl ?_
  refine zx_aload_n G d_Value_copyFrom_9 rfl ?_
  refine zx_getJ G d_Value_copyFrom_10 zf_Value_9 zc_7_1 hp0 ?_
  refine zx_putJ G d_Value_copyFrom_13 zq_Value_9 zp_7_1 ho h (fun μ2 h => ?_)
  exact zx_vret G d_Value_copyFrom_16 rfl h
set_option maxHeartbeats 4000000 in
set_option maxRecDepth 20000 in
theorem tf_A_findUnlike_l16_0 {g : ZG} {E : ZE} {N : Nat} {rr : Int32 × ZMem} {p0 : Nat} {x3 : Int64} (G : zGa g K_A_findUnlike 6 E) (hl0 : (0, 0) ∈ zids) (hl1 : (3, p0) ∈ zids) : ∀ (n16 : Nat) (z6 : Int32) (μ7 : ZMem), f_A_findUnlike_l16 N p0 x3 n16 z6 μ7 = some rr → zX g K_A_findUnlike 6 E (some (.int rr.1), rr.2) μ7 16 [some (.ref (g.2.1 0 0)), some (.ref (g.2.1 3 p0)), some (.long x3), none, some (.int z6)] [] := by
  intro n16
  induction n16 with
  | zero => intro z6 μ7 h; cases h
  | succ n16 ih16 =>
    intro z6 μ7 h
    simp only [f_A_findUnlike_l16] at h
    refine zx_iload G d_A_findUnlike_16 rfl ?_
    refine zx_i2l G d_A_findUnlike_18 ?_
    refine zx_lload_n G d_A_findUnlike_19 rfl ?_
    refine zx_lcmp G d_A_findUnlike_20 ?_
    refine zx_if_ge (tgt := 105) G d_A_findUnlike_21 rfl h (fun h => ?_) (fun h => ?_)
    · refine zx_iconst (v := 0) G d_A_findUnlike_105 rfl ?_
      exact zx_zretK G d_A_findUnlike_106 rfl (by decide) h
    · refine zx_iload G d_A_findUnlike_24 rfl ?_
      refine zx_sipush (v := 20000) G d_A_findUnlike_26 rfl ?_
      refine zx_icmp_ge (tgt := 105) G d_A_findUnlike_29 rfl h (fun h => ?_) (fun h => ?_)
      · refine zx_iconst (v := 0) G d_A_findUnlike_105 rfl ?_
        exact zx_zretK G d_A_findUnlike_106 rfl (by decide) h
      · refine zx_aload_n G d_A_findUnlike_32 rfl ?_
        refine zx_aload_n G d_A_findUnlike_33 rfl ?_
        refine zx_getR G d_A_findUnlike_34 zf_A_52 zc_0_7 hl0 ?_
        refine zx_aload_n G d_A_findUnlike_37 rfl ?_
        refine zx_getR G d_A_findUnlike_38 zf_A_45 zc_0_5 hl0 ?_
        obtain ⟨r9, μ8, hc, h⟩ := zbnd_of h
        refine zx_callVI (r := r9) (μ2 := μ8) G d_A_findUnlike_41 zm_A_310 (fun l => t_Table_comesToEnd hl1 (zi_0_7 hl0) (zi_0_5 hl0) hc) rfl rfl (Nat.le_of_ble_eq_true rfl) (Nat.le_of_ble_eq_true rfl) (zrecv zo_3 hl1) ?_
        refine zx_if_ne (tgt := 49) G d_A_findUnlike_44 rfl h (fun h => ?_) (fun h => ?_)
        · refine zx_iload G d_A_findUnlike_49 rfl ?_
          refine zx_join (P := fun k => ∀ (μ10 : ZMem), k μ10 = some rr → zX g K_A_findUnlike 6 E (some (.int rr.1), rr.2) μ10 65 [some (.ref (g.2.1 0 0)), some (.ref (g.2.1 3 p0)), some (.long x3), none, some (.int z6)] []) h (fun μ10 h => ?_) (fun k11 hk11 h => ?_)
          · try dsimp only at h
            refine zx_aload_n G d_A_findUnlike_65 rfl ?_
            refine zx_getR G d_A_findUnlike_66 zf_A_45 zc_0_5 hl0 ?_
            refine zx_aload_n G d_A_findUnlike_69 rfl ?_
            refine zx_getR G d_A_findUnlike_70 zf_A_49 zc_0_6 hl0 ?_
            refine zx_getJ G d_A_findUnlike_73 zf_A_264 zc_7_0 (zi_0_6 hl0) ?_
            refine zx_aload_n G d_A_findUnlike_76 rfl ?_
            refine zx_getR G d_A_findUnlike_77 zf_A_49 zc_0_6 hl0 ?_
            refine zx_getJ G d_A_findUnlike_80 zf_A_267 zc_7_1 (zi_0_6 hl0) ?_
            obtain ⟨r13, μ12, hc, h⟩ := zbnd_of h
            refine zx_callVI (r := r13) (μ2 := μ12) G d_A_findUnlike_83 zm_A_268 (fun l => t_Value_is (zi_0_5 hl0) hc) rfl rfl (Nat.le_of_ble_eq_true rfl) (Nat.le_of_ble_eq_true rfl) (zrecv zo_7 (zi_0_5 hl0)) ?_
            refine zx_if_ne (tgt := 91) G d_A_findUnlike_86 rfl h (fun h => ?_) (fun h => ?_)
            · refine zx_aload_n G d_A_findUnlike_91 rfl ?_
              refine zx_aload_n G d_A_findUnlike_92 rfl ?_
              refine zx_getR G d_A_findUnlike_93 zf_A_52 zc_0_7 hl0 ?_
              obtain ⟨u9, μ14, hc, h⟩ := zbnd_of h
              refine zx_callVV  (μ2 := μ14) G d_A_findUnlike_96 zm_A_226 (fun l => t_Table_nextOfAll hl1 (zi_0_7 hl0) hc) rfl rfl (Nat.le_of_ble_eq_true rfl) (Nat.le_of_ble_eq_true rfl) (zrecv zo_3 hl1) ?_
              refine zx_iinc (v := 1) (lf := fun y => [_, _, _, none, some (.int y)]) G d_A_findUnlike_99 (Nat.le_of_ble_eq_true rfl) rfl rfl (fun _ => rfl) h (fun x15 h => ?_)
              refine zx_goto (tgt := 16) G d_A_findUnlike_102 rfl ?_
              exact ih16 x15 μ14 h
            · refine zx_iconst (v := 1) G d_A_findUnlike_89 rfl ?_
              exact zx_zretK G d_A_findUnlike_90 rfl (by decide) h
          try dsimp only at h
          refine zx_if_ne (tgt := 65) G d_A_findUnlike_51 rfl h (fun h => ?_) (fun h => ?_)
          · exact hk11 μ8 h
          · refine zx_aload_n G d_A_findUnlike_54 rfl ?_
            refine zx_getR G d_A_findUnlike_55 zf_A_49 zc_0_6 hl0 ?_
            refine zx_aload_n G d_A_findUnlike_58 rfl ?_
            refine zx_getR G d_A_findUnlike_59 zf_A_45 zc_0_5 hl0 ?_
            obtain ⟨u9, μ16, hc, h⟩ := zbnd_of h
            refine zx_callVV  (μ2 := μ16) G d_A_findUnlike_62 zm_A_314 (fun l => t_Value_copyFrom (zi_0_6 hl0) (zi_0_5 hl0) hc) rfl rfl (Nat.le_of_ble_eq_true rfl) (Nat.le_of_ble_eq_true rfl) (zrecv zo_7 (zi_0_6 hl0)) ?_
            exact hk11 μ16 h
        · refine zx_iconst (v := 1) G d_A_findUnlike_47 rfl ?_
          exact zx_zretK G d_A_findUnlike_48 rfl (by decide) h
set_option maxHeartbeats 4000000 in
set_option maxRecDepth 20000 in
theorem tf_A_findUnlike_l16 {g : ZG} {E : ZE} {N n16 : Nat} {rr : Int32 × ZMem} {p0 : Nat} {x3 : Int64} {z6 : Int32} {μ7 : ZMem} (G : zGa g K_A_findUnlike 6 E) (hl0 : (0, 0) ∈ zids) (hl1 : (3, p0) ∈ zids) (h : f_A_findUnlike_l16 N p0 x3 n16 z6 μ7 = some rr) : zX g K_A_findUnlike 6 E (some (.int rr.1), rr.2) μ7 16 [some (.ref (g.2.1 0 0)), some (.ref (g.2.1 3 p0)), some (.long x3), none, some (.int z6)] [] := tf_A_findUnlike_l16_0 G hl0 hl1 n16 z6 μ7 h
set_option maxHeartbeats 4000000 in
set_option maxRecDepth 20000 in
theorem t_A_findUnlike {g : ZG} {l : Launch} {N : Nat} {μ : ZMem} {p0 : Nat} (hp0 : (3, p0) ∈ zids) {rr : Int32 × ZMem} (h : f_A_findUnlike N μ p0 = some rr) : zT g l 6 K_A_findUnlike [.ref (g.2.1 0 0), .ref (g.2.1 3 p0)] μ (some (.int rr.1), rr.2) := by
  refine zT_of (by decide +kernel) (Nat.le_of_ble_eq_true rfl) (fun E G => ?_)
  show zX g K_A_findUnlike 6 E (some (.int rr.1), rr.2) μ 0 [some (.ref (g.2.1 0 0)), some (.ref (g.2.1 3 p0)), none, none, none] []
  unfold f_A_findUnlike at h
  refine zx_aload_n G d_A_findUnlike_0 rfl ?_
  obtain ⟨r2, μ1, hc, h⟩ := zbnd_of h
  refine zx_callVJ (r := r2) (μ2 := μ1) G d_A_findUnlike_1 zm_A_189 (fun l => t_Table_countAll hp0 hc) rfl rfl (Nat.le_of_ble_eq_true rfl) (Nat.le_of_ble_eq_true rfl) (zrecv zo_3 hp0) ?_
  refine zx_lstore_n (lf := fun y => [_, _, some (.long y), none, none]) G d_A_findUnlike_4 (Nat.le_of_ble_eq_true rfl) (fun _ => rfl) h (fun x3 h => ?_)
  refine zx_aload_n G d_A_findUnlike_5 rfl ?_
  refine zx_aload_n G d_A_findUnlike_6 rfl ?_
  refine zx_getR G d_A_findUnlike_7 zf_A_52 zc_0_7 (zids_of 0 (Nat.le_of_ble_eq_true rfl) 0 (Nat.le_of_ble_eq_true rfl)) ?_
  obtain ⟨u9, μ4, hc, h⟩ := zbnd_of h
  refine zx_callVV  (μ2 := μ4) G d_A_findUnlike_10 zm_A_215 (fun l => t_Table_firstOfAll hp0 (zi_0_7 (zids_of 0 (Nat.le_of_ble_eq_true rfl) 0 (Nat.le_of_ble_eq_true rfl))) hc) rfl rfl (Nat.le_of_ble_eq_true rfl) (Nat.le_of_ble_eq_true rfl) (zrecv zo_3 hp0) ?_
  refine zx_iconst (v := 0) G d_A_findUnlike_13 rfl ?_
  refine zx_istore (lf := fun y => [_, _, _, none, some (.int y)]) G d_A_findUnlike_14 (Nat.le_of_ble_eq_true rfl) (fun _ => rfl) h (fun x5 h => ?_)
  refine tf_A_findUnlike_l16 G (zids_of 0 (Nat.le_of_ble_eq_true rfl) 0 (Nat.le_of_ble_eq_true rfl)) hp0 h
set_option maxHeartbeats 4000000 in
set_option maxRecDepth 20000 in
theorem t_A_same {g : ZG} {l : Launch} {N : Nat} {μ : ZMem} {p0 : Int32} {rr : Int32 × ZMem} (h : f_A_same N μ p0 = some rr) : zT g l 7 K_A_same [.ref (g.2.1 0 0), .int p0] μ (some (.int rr.1), rr.2) := by
  refine zT_of (by decide +kernel) (Nat.le_of_ble_eq_true rfl) (fun E G => ?_)
  show zX g K_A_same 7 E (some (.int rr.1), rr.2) μ 0 [some (.ref (g.2.1 0 0)), some (.int p0), none] []
  unfold f_A_same at h
  refine zx_aload_n G d_A_same_0 rfl ?_
  refine zx_iload_n G d_A_same_1 rfl ?_
  rcases zbrf_of h with ⟨μ1, hc, h⟩ | ⟨t2, μ1, hc, h⟩
  · refine zx_callVN (k := 3) (μ2 := μ1) G d_A_same_2 zm_A_115 (fun l => t_A_find  hc) rfl rfl (Nat.le_of_ble_eq_true rfl) (Nat.le_of_ble_eq_true rfl) (zrecv zo_0 (zids_of 0 (Nat.le_of_ble_eq_true rfl) 0 (Nat.le_of_ble_eq_true rfl))) ?_
    refine zx_astore_nN (lv2 := [_, _, _]) G d_A_same_5 (Nat.le_of_ble_eq_true rfl) rfl ?_
    refine zx_aload_nN G d_A_same_6 rfl ?_
    refine zx_ifnonnullN G d_A_same_7 ?_
    refine zx_iconst (v := -1) G d_A_same_10 rfl ?_
    exact zx_iret G d_A_same_11 rfl h
  · obtain ⟨hz3, h⟩ := zchk_of h
    refine zx_callVP (k := 3) (r := t2) (μ2 := μ1) G d_A_same_2 zm_A_115 (fun l => t_A_find  hc) rfl rfl (Nat.le_of_ble_eq_true rfl) (Nat.le_of_ble_eq_true rfl) (zrecv zo_0 (zids_of 0 (Nat.le_of_ble_eq_true rfl) 0 (Nat.le_of_ble_eq_true rfl))) ?_
    refine zx_astore_n (lv2 := [_, _, _]) G d_A_same_5 (Nat.le_of_ble_eq_true rfl) rfl ?_
    refine zx_aload_n G d_A_same_6 rfl ?_
    refine zx_ifnonnull (tgt := 12) G d_A_same_7 rfl ?_
    refine zx_aload_n G d_A_same_12 rfl ?_
    obtain ⟨r5, μ4, hc, h⟩ := zbnd_of h
    refine zx_callVJ (r := r5) (μ2 := μ4) G d_A_same_13 zm_A_189 (fun l => t_Table_countAll (zidt hz3) hc) rfl rfl (Nat.le_of_ble_eq_true rfl) (Nat.le_of_ble_eq_true rfl) (zrecv zo_3 (zidt hz3)) ?_
    refine zx_ldc2 (v := 20000) G d_A_same_16 zk_A_193 ?_
    refine zx_lcmp G d_A_same_19 ?_
    refine zx_if_le (tgt := 26) G d_A_same_20 rfl h (fun h => ?_) (fun h => ?_)
    · refine zx_aload_n G d_A_same_26 rfl ?_
      refine zx_aload_n G d_A_same_27 rfl ?_
      obtain ⟨r7, μ6, hc, h⟩ := zbnd_of h
      refine zx_callVI (r := r7) (μ2 := μ6) G d_A_same_28 zm_A_195 (fun l => t_A_findUnlike (zidt hz3) hc) rfl rfl (Nat.le_of_ble_eq_true rfl) (Nat.le_of_ble_eq_true rfl) (zrecv zo_0 (zids_of 0 (Nat.le_of_ble_eq_true rfl) 0 (Nat.le_of_ble_eq_true rfl))) ?_
      refine zx_if_eq (tgt := 38) G d_A_same_31 rfl h (fun h => ?_) (fun h => ?_)
      · refine zx_iconst (v := 1) G d_A_same_38 rfl ?_
        exact zx_iret G d_A_same_39 rfl h
      · refine zx_iconst (v := 0) G d_A_same_34 rfl ?_
        refine zx_goto (tgt := 39) G d_A_same_35 rfl ?_
        exact zx_iret G d_A_same_39 rfl h
    · refine zx_bipush (v := -2) G d_A_same_23 rfl ?_
      exact zx_iret G d_A_same_25 rfl h
set_option maxHeartbeats 4000000 in
set_option maxRecDepth 20000 in
theorem t_A_unlike {g : ZG} {l : Launch} {N : Nat} {μ : ZMem} {p0 : Int32} {p1 : Int32} {rr : Int32 × ZMem} (h : f_A_unlike N μ p0 p1 = some rr) : zT g l 7 K_A_unlike [.ref (g.2.1 0 0), .int p0, .int p1] μ (some (.int rr.1), rr.2) := by
  refine zT_of (by decide +kernel) (Nat.le_of_ble_eq_true rfl) (fun E G => ?_)
  show zX g K_A_unlike 7 E (some (.int rr.1), rr.2) μ 0 [some (.ref (g.2.1 0 0)), some (.int p0), some (.int p1), none] []
  unfold f_A_unlike at h
  refine zx_aload_n G d_A_unlike_0 rfl ?_
  refine zx_iload_n G d_A_unlike_1 rfl ?_
  rcases zbrf_of h with ⟨μ1, hc, h⟩ | ⟨t2, μ1, hc, h⟩
  · refine zx_callVN (k := 3) (μ2 := μ1) G d_A_unlike_2 zm_A_115 (fun l => t_A_find  hc) rfl rfl (Nat.le_of_ble_eq_true rfl) (Nat.le_of_ble_eq_true rfl) (zrecv zo_0 (zids_of 0 (Nat.le_of_ble_eq_true rfl) 0 (Nat.le_of_ble_eq_true rfl))) ?_
    refine zx_astore_nN (lv2 := [_, _, _, _]) G d_A_unlike_5 (Nat.le_of_ble_eq_true rfl) rfl ?_
    refine zx_aload_nN G d_A_unlike_6 rfl ?_
    refine zx_ifnullN (tgt := 17) G d_A_unlike_7 rfl ?_
    refine zx_iconst (v := -1) G d_A_unlike_17 rfl ?_
    exact zx_iret G d_A_unlike_18 rfl h
  · obtain ⟨hz3, h⟩ := zchk_of h
    refine zx_callVP (k := 3) (r := t2) (μ2 := μ1) G d_A_unlike_2 zm_A_115 (fun l => t_A_find  hc) rfl rfl (Nat.le_of_ble_eq_true rfl) (Nat.le_of_ble_eq_true rfl) (zrecv zo_0 (zids_of 0 (Nat.le_of_ble_eq_true rfl) 0 (Nat.le_of_ble_eq_true rfl))) ?_
    refine zx_astore_n (lv2 := [_, _, _, _]) G d_A_unlike_5 (Nat.le_of_ble_eq_true rfl) rfl ?_
    refine zx_aload_n G d_A_unlike_6 rfl ?_
    refine zx_ifnull G d_A_unlike_7 ?_
    refine zx_iload_n G d_A_unlike_10 rfl ?_
    obtain ⟨r5, μ4, hc, h⟩ := zbnd_of h
    refine zx_callSI (r := r5) (μ2 := μ4) G d_A_unlike_11 zm_A_137 (fun l => t_A_isLetter  hc) rfl rfl (Nat.le_of_ble_eq_true rfl) (Nat.le_of_ble_eq_true rfl) ?_
    refine zx_if_ne (tgt := 19) G d_A_unlike_14 rfl h (fun h => ?_) (fun h => ?_)
    · refine zx_aload_n G d_A_unlike_19 rfl ?_
      obtain ⟨r7, μ6, hc, h⟩ := zbnd_of h
      refine zx_callVJ (r := r7) (μ2 := μ6) G d_A_unlike_20 zm_A_189 (fun l => t_Table_countAll (zidt hz3) hc) rfl rfl (Nat.le_of_ble_eq_true rfl) (Nat.le_of_ble_eq_true rfl) (zrecv zo_3 (zidt hz3)) ?_
      refine zx_ldc2 (v := 20000) G d_A_unlike_23 zk_A_193 ?_
      refine zx_lcmp G d_A_unlike_26 ?_
      refine zx_if_le (tgt := 33) G d_A_unlike_27 rfl h (fun h => ?_) (fun h => ?_)
      · refine zx_aload_n G d_A_unlike_33 rfl ?_
        refine zx_aload_n G d_A_unlike_34 rfl ?_
        obtain ⟨r9, μ8, hc, h⟩ := zbnd_of h
        refine zx_callVI (r := r9) (μ2 := μ8) G d_A_unlike_35 zm_A_195 (fun l => t_A_findUnlike (zidt hz3) hc) rfl rfl (Nat.le_of_ble_eq_true rfl) (Nat.le_of_ble_eq_true rfl) (zrecv zo_0 (zids_of 0 (Nat.le_of_ble_eq_true rfl) 0 (Nat.le_of_ble_eq_true rfl))) ?_
        refine zx_if_eq (tgt := 50) G d_A_unlike_38 rfl h (fun h => ?_) (fun h => ?_)
        · refine zx_iconst (v := -1) G d_A_unlike_50 rfl ?_
          exact zx_iret G d_A_unlike_51 rfl h
        · refine zx_aload_n G d_A_unlike_41 rfl ?_
          refine zx_getR G d_A_unlike_42 zf_A_52 zc_0_7 (zids_of 0 (Nat.le_of_ble_eq_true rfl) 0 (Nat.le_of_ble_eq_true rfl)) ?_
          refine zx_iload_n G d_A_unlike_45 rfl ?_
          refine zx_iald G d_A_unlike_46 za_26 (zi_0_7 (zids_of 0 (Nat.le_of_ble_eq_true rfl) 0 (Nat.le_of_ble_eq_true rfl))) h (fun h => ?_)
          refine zx_goto (tgt := 51) G d_A_unlike_47 rfl ?_
          exact zx_iret G d_A_unlike_51 rfl h
      · refine zx_bipush (v := -2) G d_A_unlike_30 rfl ?_
        exact zx_iret G d_A_unlike_32 rfl h
    · refine zx_iconst (v := -1) G d_A_unlike_17 rfl ?_
      exact zx_iret G d_A_unlike_18 rfl h
set_option maxHeartbeats 4000000 in
set_option maxRecDepth 20000 in
theorem tf_JArr_fillJ_l6_0 {g : ZG} {E : ZE} {N : Nat} {rr : Unit × ZMem} {k : Nat} {p0 : Nat} {p1 : Int64} {x2 : Int32} (G : zGa g K_JArr_fillJ 0 E) (hk : zaJ k) (hl0 : (k, p0) ∈ zids) : ∀ (n6 : Nat) (z3 : Int32) (μ4 : ZMem), f_JArr_fillJ_l6 N k p0 p1 x2 n6 z3 μ4 = some rr → zX g K_JArr_fillJ 0 E (none, rr.2) μ4 6 [some (.ref (g.2.1 k p0)), some (.long p1), none, some (.int z3), some (.int x2)] [] := by
  intro n6
  induction n6 with
  | zero => intro z3 μ4 h; cases h
  | succ n6 ih6 =>
    intro z3 μ4 h
    simp only [f_JArr_fillJ_l6] at h
    refine zx_iload_n G d_JArr_fillJ_6 rfl ?_
    refine zx_iload G d_JArr_fillJ_7 rfl ?_
    refine zx_icmp_ge (tgt := 22) G d_JArr_fillJ_9 rfl h (fun h => ?_) (fun h => ?_)
    · exact zx_vret G d_JArr_fillJ_22 rfl h
    · refine zx_aload_n G d_JArr_fillJ_12 rfl ?_
      refine zx_iload_n G d_JArr_fillJ_13 rfl ?_
      refine zx_lload_n G d_JArr_fillJ_14 rfl ?_
      refine zx_last G d_JArr_fillJ_15 hk hl0 h (fun μ5 h => ?_)
      refine zx_iinc (v := 1) (lf := fun y => [_, _, none, some (.int y), _]) G d_JArr_fillJ_16 (Nat.le_of_ble_eq_true rfl) rfl rfl (fun _ => rfl) h (fun x6 h => ?_)
      refine zx_goto (tgt := 6) G d_JArr_fillJ_19 rfl ?_
      exact ih6 x6 μ5 h
set_option maxHeartbeats 4000000 in
set_option maxRecDepth 20000 in
theorem tf_JArr_fillJ_l6 {g : ZG} {E : ZE} {N n6 : Nat} {rr : Unit × ZMem} {k : Nat} {p0 : Nat} {p1 : Int64} {x2 : Int32} {z3 : Int32} {μ4 : ZMem} (G : zGa g K_JArr_fillJ 0 E) (hk : zaJ k) (hl0 : (k, p0) ∈ zids) (h : f_JArr_fillJ_l6 N k p0 p1 x2 n6 z3 μ4 = some rr) : zX g K_JArr_fillJ 0 E (none, rr.2) μ4 6 [some (.ref (g.2.1 k p0)), some (.long p1), none, some (.int z3), some (.int x2)] [] := tf_JArr_fillJ_l6_0 G hk hl0 n6 z3 μ4 h
set_option maxHeartbeats 4000000 in
set_option maxRecDepth 20000 in
theorem t_JArr_fillJ {g : ZG} {l : Launch} {N : Nat} {μ : ZMem} {k : Nat} {p0 : Nat} {p1 : Int64} (hk : zaJ k) (hp0 : (k, p0) ∈ zids) {rr : Unit × ZMem} (h : f_JArr_fillJ N μ k p0 p1 = some rr) : zT g l 0 K_JArr_fillJ [.ref (g.2.1 k p0), .long p1] μ (none, rr.2) := by
  refine zT_of (by decide +kernel) (Nat.le_of_ble_eq_true rfl) (fun E G => ?_)
  show zX g K_JArr_fillJ 0 E (none, rr.2) μ 0 [some (.ref (g.2.1 k p0)), some (.long p1), none, none, none] []
  unfold f_JArr_fillJ at h
  refine zx_iconst (v := 0) G d_JArr_fillJ_0 rfl ?_
  refine zx_istore_n (lf := fun y => [_, _, none, some (.int y), none]) G d_JArr_fillJ_1 (Nat.le_of_ble_eq_true rfl) (fun _ => rfl) h (fun x1 h => ?_)
  refine zx_aload_n G d_JArr_fillJ_2 rfl ?_
  refine zx_alenJ G d_JArr_fillJ_3 hk hp0 ?_
  refine zx_istore (lf := fun y => [_, _, none, _, some (.int y)]) G d_JArr_fillJ_4 (Nat.le_of_ble_eq_true rfl) (fun _ => rfl) h (fun x2 h => ?_)
  refine tf_JArr_fillJ_l6 G hk hp0 h
set_option maxHeartbeats 4000000 in
set_option maxRecDepth 20000 in
theorem t_Sum_addPart {g : ZG} {l : Launch} {N : Nat} {μ : ZMem} {p0 : Int32} {p1 : Int32} {rr : Int32 × ZMem} (h : f_Sum_addPart N μ p0 p1 = some rr) : zT g l 1 K_Sum_addPart [.ref (g.2.1 9 0), .int p0, .int p1] μ (some (.int rr.1), rr.2) := by
  refine zT_of (by decide +kernel) (Nat.le_of_ble_eq_true rfl) (fun E G => ?_)
  show zX g K_Sum_addPart 1 E (some (.int rr.1), rr.2) μ 0 [some (.ref (g.2.1 9 0)), some (.int p0), some (.int p1), none] []
  unfold f_Sum_addPart at h
  refine zx_iload_n G d_Sum_addPart_0 rfl ?_
  refine zx_sipush (v := 10000) G d_Sum_addPart_1 rfl ?_
  refine zx_isub G d_Sum_addPart_4 ?_
  refine zx_istore_n (lf := fun y => [_, _, _, some (.int y)]) G d_Sum_addPart_5 (Nat.le_of_ble_eq_true rfl) (fun _ => rfl) h (fun x1 h => ?_)
  refine zx_iload_n G d_Sum_addPart_6 rfl ?_
  obtain ⟨r3, μ2, hc, h⟩ := zbnd_of h
  refine zx_callSI (r := r3) (μ2 := μ2) G d_Sum_addPart_7 zm_Sum_65 (fun l => t_A_isLetter  hc) rfl rfl (Nat.le_of_ble_eq_true rfl) (Nat.le_of_ble_eq_true rfl) ?_
  refine zx_if_eq (tgt := 32) G d_Sum_addPart_10 rfl h (fun h => ?_) (fun h => ?_)
  · refine zx_aload_n G d_Sum_addPart_32 rfl ?_
    refine zx_getR G d_Sum_addPart_33 zf_Sum_9 zc_9_0 (zids_of 9 (Nat.le_of_ble_eq_true rfl) 0 (Nat.le_of_ble_eq_true rfl)) ?_
    refine zx_iconst (v := 4) G d_Sum_addPart_36 rfl ?_
    refine zx_dup2_11 G d_Sum_addPart_37 rfl rfl ?_
    refine zx_lald G d_Sum_addPart_38 za_31 (zi_9_0 (zids_of 9 (Nat.le_of_ble_eq_true rfl) 0 (Nat.le_of_ble_eq_true rfl))) h (fun h => ?_)
    refine zx_iload_n G d_Sum_addPart_39 rfl ?_
    refine zx_iload_n G d_Sum_addPart_40 rfl ?_
    refine zx_imul G d_Sum_addPart_41 ?_
    refine zx_i2l G d_Sum_addPart_42 ?_
    refine zx_aload_n G d_Sum_addPart_43 rfl ?_
    refine zx_getJ G d_Sum_addPart_44 zf_Sum_27 zc_9_1 (zids_of 9 (Nat.le_of_ble_eq_true rfl) 0 (Nat.le_of_ble_eq_true rfl)) ?_
    refine zx_lmul G d_Sum_addPart_47 ?_
    refine zx_ladd G d_Sum_addPart_48 ?_
    refine zx_last G d_Sum_addPart_49 za_31 (zi_9_0 (zids_of 9 (Nat.le_of_ble_eq_true rfl) 0 (Nat.le_of_ble_eq_true rfl))) h (fun μ4 h => ?_)
    refine zx_iconst (v := 1) G d_Sum_addPart_50 rfl ?_
    exact zx_zretK G d_Sum_addPart_51 rfl (by decide) h
  · refine zx_aload_n G d_Sum_addPart_13 rfl ?_
    refine zx_getR G d_Sum_addPart_14 zf_Sum_9 zc_9_0 (zids_of 9 (Nat.le_of_ble_eq_true rfl) 0 (Nat.le_of_ble_eq_true rfl)) ?_
    refine zx_iload_n G d_Sum_addPart_17 rfl ?_
    refine zx_dup2_11 G d_Sum_addPart_18 rfl rfl ?_
    refine zx_lald G d_Sum_addPart_19 za_31 (zi_9_0 (zids_of 9 (Nat.le_of_ble_eq_true rfl) 0 (Nat.le_of_ble_eq_true rfl))) h (fun h => ?_)
    refine zx_iload_n G d_Sum_addPart_20 rfl ?_
    refine zx_i2l G d_Sum_addPart_21 ?_
    refine zx_aload_n G d_Sum_addPart_22 rfl ?_
    refine zx_getJ G d_Sum_addPart_23 zf_Sum_27 zc_9_1 (zids_of 9 (Nat.le_of_ble_eq_true rfl) 0 (Nat.le_of_ble_eq_true rfl)) ?_
    refine zx_lmul G d_Sum_addPart_26 ?_
    refine zx_ladd G d_Sum_addPart_27 ?_
    refine zx_last G d_Sum_addPart_28 za_31 (zi_9_0 (zids_of 9 (Nat.le_of_ble_eq_true rfl) 0 (Nat.le_of_ble_eq_true rfl))) h (fun μ5 h => ?_)
    refine zx_goto (tgt := 50) G d_Sum_addPart_29 rfl ?_
    refine zx_iconst (v := 1) G d_Sum_addPart_50 rfl ?_
    exact zx_zretK G d_Sum_addPart_51 rfl (by decide) h
set_option maxHeartbeats 4000000 in
set_option maxRecDepth 20000 in
theorem tf_Sum_multiplyByLetter_l2_0 {g : ZG} {E : ZE} {N : Nat} {rr : Int32 × ZMem} {p0 : Int32} {kx26 : ZMem → Option (Int32 × ZMem)} (G : zGa g K_Sum_multiplyByLetter 1 E) (hl0 : (9, 0) ∈ zids) (hkx26 : ∀  (μ : ZMem), kx26 μ = some rr → zX g K_Sum_multiplyByLetter 1 E (some (.int rr.1), rr.2) μ 26 [some (.ref (g.2.1 9 0)), some (.int p0), none] []) : ∀ (n2 : Nat) (z2 : Int32) (μ3 : ZMem), f_Sum_multiplyByLetter_l2 N p0 kx26 n2 z2 μ3 = some rr → zX g K_Sum_multiplyByLetter 1 E (some (.int rr.1), rr.2) μ3 2 [some (.ref (g.2.1 9 0)), some (.int p0), some (.int z2)] [] := by
  intro n2
  induction n2 with
  | zero => intro z2 μ3 h; cases h
  | succ n2 ih2 =>
    intro z2 μ3 h
    simp only [f_Sum_multiplyByLetter_l2] at h
    refine zx_iload_n G d_Sum_multiplyByLetter_2 rfl ?_
    refine zx_iconst (v := 4) G d_Sum_multiplyByLetter_3 rfl ?_
    refine zx_icmp_ge (tgt := 26) G d_Sum_multiplyByLetter_4 rfl h (fun h => ?_) (fun h => ?_)
    · refine zx_weak [true, true, false] (lv2 := [_, _, none]) rfl ?_
      exact hkx26 μ3 h
    · refine zx_aload_n G d_Sum_multiplyByLetter_7 rfl ?_
      refine zx_getR G d_Sum_multiplyByLetter_8 zf_Sum_9 zc_9_0 hl0 ?_
      refine zx_iload_n G d_Sum_multiplyByLetter_11 rfl ?_
      refine zx_lald G d_Sum_multiplyByLetter_12 za_31 (zi_9_0 hl0) h (fun h => ?_)
      refine zx_lconst (v := 0) G d_Sum_multiplyByLetter_13 rfl ?_
      refine zx_lcmp G d_Sum_multiplyByLetter_14 ?_
      refine zx_if_eq (tgt := 20) G d_Sum_multiplyByLetter_15 rfl h (fun h => ?_) (fun h => ?_)
      · refine zx_iinc (v := 1) (lf := fun y => [_, _, some (.int y)]) G d_Sum_multiplyByLetter_20 (Nat.le_of_ble_eq_true rfl) rfl rfl (fun _ => rfl) h (fun x4 h => ?_)
        refine zx_goto (tgt := 2) G d_Sum_multiplyByLetter_23 rfl ?_
        exact ih2 x4 μ3 h
      · refine zx_iconst (v := 0) G d_Sum_multiplyByLetter_18 rfl ?_
        exact zx_zretK G d_Sum_multiplyByLetter_19 rfl (by decide) h
set_option maxHeartbeats 4000000 in
set_option maxRecDepth 20000 in
theorem tf_Sum_multiplyByLetter_l2 {g : ZG} {E : ZE} {N n2 : Nat} {rr : Int32 × ZMem} {p0 : Int32} {kx26 : ZMem → Option (Int32 × ZMem)} {z2 : Int32} {μ3 : ZMem} (G : zGa g K_Sum_multiplyByLetter 1 E) (hl0 : (9, 0) ∈ zids) (h : f_Sum_multiplyByLetter_l2 N p0 kx26 n2 z2 μ3 = some rr) (hkx26 : ∀  (μ : ZMem), kx26 μ = some rr → zX g K_Sum_multiplyByLetter 1 E (some (.int rr.1), rr.2) μ 26 [some (.ref (g.2.1 9 0)), some (.int p0), none] []) : zX g K_Sum_multiplyByLetter 1 E (some (.int rr.1), rr.2) μ3 2 [some (.ref (g.2.1 9 0)), some (.int p0), some (.int z2)] [] := tf_Sum_multiplyByLetter_l2_0 G hl0 hkx26 n2 z2 μ3 h
set_option maxHeartbeats 4000000 in
set_option maxRecDepth 20000 in
theorem t_Sum_multiplyByLetter {g : ZG} {l : Launch} {N : Nat} {μ : ZMem} {p0 : Int32} {rr : Int32 × ZMem} (h : f_Sum_multiplyByLetter N μ p0 = some rr) : zT g l 1 K_Sum_multiplyByLetter [.ref (g.2.1 9 0), .int p0] μ (some (.int rr.1), rr.2) := by
  refine zT_of (by decide +kernel) (Nat.le_of_ble_eq_true rfl) (fun E G => ?_)
  show zX g K_Sum_multiplyByLetter 1 E (some (.int rr.1), rr.2) μ 0 [some (.ref (g.2.1 9 0)), some (.int p0), none] []
  unfold f_Sum_multiplyByLetter at h
  refine zx_iconst (v := 0) G d_Sum_multiplyByLetter_0 rfl ?_
  refine zx_istore_n (lf := fun y => [_, _, some (.int y)]) G d_Sum_multiplyByLetter_1 (Nat.le_of_ble_eq_true rfl) (fun _ => rfl) h (fun x1 h => ?_)
  refine tf_Sum_multiplyByLetter_l2 G (zids_of 9 (Nat.le_of_ble_eq_true rfl) 0 (Nat.le_of_ble_eq_true rfl)) h (fun μ5 h => ?_)
  · try dsimp only at h
    refine zx_iload_n G d_Sum_multiplyByLetter_26 rfl ?_
    obtain ⟨r7, μ6, hc, h⟩ := zbnd_of h
    refine zx_callSI (r := r7) (μ2 := μ6) G d_Sum_multiplyByLetter_27 zm_Sum_65 (fun l => t_A_isLetter  hc) rfl rfl (Nat.le_of_ble_eq_true rfl) (Nat.le_of_ble_eq_true rfl) ?_
    refine zx_if_ne (tgt := 35) G d_Sum_multiplyByLetter_30 rfl h (fun h => ?_) (fun h => ?_)
    · refine zx_aload_n G d_Sum_multiplyByLetter_35 rfl ?_
      refine zx_getR G d_Sum_multiplyByLetter_36 zf_Sum_9 zc_9_0 (zids_of 9 (Nat.le_of_ble_eq_true rfl) 0 (Nat.le_of_ble_eq_true rfl)) ?_
      refine zx_iload_n G d_Sum_multiplyByLetter_39 rfl ?_
      refine zx_aload_n G d_Sum_multiplyByLetter_40 rfl ?_
      refine zx_getR G d_Sum_multiplyByLetter_41 zf_Sum_9 zc_9_0 (zids_of 9 (Nat.le_of_ble_eq_true rfl) 0 (Nat.le_of_ble_eq_true rfl)) ?_
      refine zx_iconst (v := 4) G d_Sum_multiplyByLetter_44 rfl ?_
      refine zx_lald G d_Sum_multiplyByLetter_45 za_31 (zi_9_0 (zids_of 9 (Nat.le_of_ble_eq_true rfl) 0 (Nat.le_of_ble_eq_true rfl))) h (fun h => ?_)
      refine zx_last G d_Sum_multiplyByLetter_46 za_31 (zi_9_0 (zids_of 9 (Nat.le_of_ble_eq_true rfl) 0 (Nat.le_of_ble_eq_true rfl))) h (fun μ8 h => ?_)
      refine zx_aload_n G d_Sum_multiplyByLetter_47 rfl ?_
      refine zx_getR G d_Sum_multiplyByLetter_48 zf_Sum_9 zc_9_0 (zids_of 9 (Nat.le_of_ble_eq_true rfl) 0 (Nat.le_of_ble_eq_true rfl)) ?_
      refine zx_iconst (v := 4) G d_Sum_multiplyByLetter_51 rfl ?_
      refine zx_lconst (v := 0) G d_Sum_multiplyByLetter_52 rfl ?_
      refine zx_last G d_Sum_multiplyByLetter_53 za_31 (zi_9_0 (zids_of 9 (Nat.le_of_ble_eq_true rfl) 0 (Nat.le_of_ble_eq_true rfl))) h (fun μ9 h => ?_)
      refine zx_iconst (v := 1) G d_Sum_multiplyByLetter_54 rfl ?_
      exact zx_zretK G d_Sum_multiplyByLetter_55 rfl (by decide) h
    · refine zx_iconst (v := 0) G d_Sum_multiplyByLetter_33 rfl ?_
      exact zx_zretK G d_Sum_multiplyByLetter_34 rfl (by decide) h
set_option maxHeartbeats 4000000 in
set_option maxRecDepth 20000 in
theorem tf_Sum_multiply_l2_0 {g : ZG} {E : ZE} {N : Nat} {rr : Int32 × ZMem} {p0 : Int32} (G : zGa g K_Sum_multiply 0 E) (hl0 : (9, 0) ∈ zids) : ∀ (n2 : Nat) (z2 : Int32) (μ3 : ZMem), f_Sum_multiply_l2 N p0 n2 z2 μ3 = some rr → zX g K_Sum_multiply 0 E (some (.int rr.1), rr.2) μ3 2 [some (.ref (g.2.1 9 0)), some (.int p0), some (.int z2)] [] := by
  intro n2
  induction n2 with
  | zero => intro z2 μ3 h; cases h
  | succ n2 ih2 =>
    intro z2 μ3 h
    simp only [f_Sum_multiply_l2] at h
    refine zx_iload_n G d_Sum_multiply_2 rfl ?_
    refine zx_aload_n G d_Sum_multiply_3 rfl ?_
    refine zx_getR G d_Sum_multiply_4 zf_Sum_9 zc_9_0 hl0 ?_
    refine zx_alenJ G d_Sum_multiply_7 za_31 (zi_9_0 hl0) ?_
    refine zx_icmp_ge (tgt := 28) G d_Sum_multiply_8 rfl h (fun h => ?_) (fun h => ?_)
    · refine zx_iconst (v := 1) G d_Sum_multiply_28 rfl ?_
      exact zx_zretK G d_Sum_multiply_29 rfl (by decide) h
    · refine zx_aload_n G d_Sum_multiply_11 rfl ?_
      refine zx_getR G d_Sum_multiply_12 zf_Sum_9 zc_9_0 hl0 ?_
      refine zx_iload_n G d_Sum_multiply_15 rfl ?_
      refine zx_dup2_11 G d_Sum_multiply_16 rfl rfl ?_
      refine zx_lald G d_Sum_multiply_17 za_31 (zi_9_0 hl0) h (fun h => ?_)
      refine zx_iload_n G d_Sum_multiply_18 rfl ?_
      refine zx_i2l G d_Sum_multiply_19 ?_
      refine zx_lmul G d_Sum_multiply_20 ?_
      refine zx_last G d_Sum_multiply_21 za_31 (zi_9_0 hl0) h (fun μ4 h => ?_)
      refine zx_iinc (v := 1) (lf := fun y => [_, _, some (.int y)]) G d_Sum_multiply_22 (Nat.le_of_ble_eq_true rfl) rfl rfl (fun _ => rfl) h (fun x5 h => ?_)
      refine zx_goto (tgt := 2) G d_Sum_multiply_25 rfl ?_
      exact ih2 x5 μ4 h
set_option maxHeartbeats 4000000 in
set_option maxRecDepth 20000 in
theorem tf_Sum_multiply_l2 {g : ZG} {E : ZE} {N n2 : Nat} {rr : Int32 × ZMem} {p0 : Int32} {z2 : Int32} {μ3 : ZMem} (G : zGa g K_Sum_multiply 0 E) (hl0 : (9, 0) ∈ zids) (h : f_Sum_multiply_l2 N p0 n2 z2 μ3 = some rr) : zX g K_Sum_multiply 0 E (some (.int rr.1), rr.2) μ3 2 [some (.ref (g.2.1 9 0)), some (.int p0), some (.int z2)] [] := tf_Sum_multiply_l2_0 G hl0 n2 z2 μ3 h
set_option maxHeartbeats 4000000 in
set_option maxRecDepth 20000 in
theorem t_Sum_multiply {g : ZG} {l : Launch} {N : Nat} {μ : ZMem} {p0 : Int32} {rr : Int32 × ZMem} (h : f_Sum_multiply N μ p0 = some rr) : zT g l 0 K_Sum_multiply [.ref (g.2.1 9 0), .int p0] μ (some (.int rr.1), rr.2) := by
  refine zT_of (by decide +kernel) (Nat.le_of_ble_eq_true rfl) (fun E G => ?_)
  show zX g K_Sum_multiply 0 E (some (.int rr.1), rr.2) μ 0 [some (.ref (g.2.1 9 0)), some (.int p0), none] []
  unfold f_Sum_multiply at h
  refine zx_iconst (v := 0) G d_Sum_multiply_0 rfl ?_
  refine zx_istore_n (lf := fun y => [_, _, some (.int y)]) G d_Sum_multiply_1 (Nat.le_of_ble_eq_true rfl) (fun _ => rfl) h (fun x1 h => ?_)
  refine tf_Sum_multiply_l2 G (zids_of 9 (Nat.le_of_ble_eq_true rfl) 0 (Nat.le_of_ble_eq_true rfl)) h
set_option maxHeartbeats 4000000 in
set_option maxRecDepth 20000 in
theorem t_Sum_follow {g : ZG} {l : Launch} {N : Nat} {μ : ZMem} {p0 : Int32} {p1 : Int32} {rr : Int32 × ZMem} (h : f_Sum_follow N μ p0 p1 = some rr) : zT g l 2 K_Sum_follow [.ref (g.2.1 9 0), .int p0, .int p1] μ (some (.int rr.1), rr.2) := by
  refine zT_of (by decide +kernel) (Nat.le_of_ble_eq_true rfl) (fun E G => ?_)
  show zX g K_Sum_follow 2 E (some (.int rr.1), rr.2) μ 0 [some (.ref (g.2.1 9 0)), some (.int p0), some (.int p1), none] []
  unfold f_Sum_follow at h
  refine zx_iload_n G d_Sum_follow_0 rfl ?_
  refine zx_sipush (v := 10000) G d_Sum_follow_1 rfl ?_
  refine zx_join (P := fun k => ∀ (y1 : Int32) (μ2 : ZMem), k y1 μ2 = some rr → zX g K_Sum_follow 2 E (some (.int rr.1), rr.2) μ2 12 [some (.ref (g.2.1 9 0)), some (.int p0), some (.int p1), none] [.int y1]) h (fun y1 μ2 h => ?_) (fun k3 hk3 h => ?_)
  · try dsimp only at h
    refine zx_istore_n (lf := fun y => [_, _, _, some (.int y)]) G d_Sum_follow_12 (Nat.le_of_ble_eq_true rfl) (fun _ => rfl) h (fun x4 h => ?_)
    refine zx_iload_n G d_Sum_follow_13 rfl ?_
    refine zx_if h (fun c5 h => ?_) (fun c5 h => ?_)
    · refine zx_sw (tgt := 68) G d_Sum_follow_14 c5 (by decide) (by decide) rfl rfl ?_
      refine zx_aload_n G d_Sum_follow_68 rfl ?_
      refine zx_iload_n G d_Sum_follow_69 rfl ?_
      refine zx_iconst (v := 1) G d_Sum_follow_70 rfl ?_
      obtain ⟨r7, μ6, hc, h⟩ := zbnd_of h
      refine zx_callVI (r := r7) (μ2 := μ6) G d_Sum_follow_71 zm_Sum_56 (fun l => t_Sum_addPart  hc) rfl rfl (Nat.le_of_ble_eq_true rfl) (Nat.le_of_ble_eq_true rfl) (zrecv zo_9 (zids_of 9 (Nat.le_of_ble_eq_true rfl) 0 (Nat.le_of_ble_eq_true rfl))) ?_
      exact zx_zret G d_Sum_follow_74 rfl h
    · skip
      refine zx_if h (fun c8 h => ?_) (fun c8 h => ?_)
      · refine zx_sw (tgt := 75) G d_Sum_follow_14 c8 (by decide) (by decide) rfl rfl ?_
        refine zx_aload_n G d_Sum_follow_75 rfl ?_
        refine zx_iload_n G d_Sum_follow_76 rfl ?_
        refine zx_iconst (v := -1) G d_Sum_follow_77 rfl ?_
        obtain ⟨r10, μ9, hc, h⟩ := zbnd_of h
        refine zx_callVI (r := r10) (μ2 := μ9) G d_Sum_follow_78 zm_Sum_56 (fun l => t_Sum_addPart  hc) rfl rfl (Nat.le_of_ble_eq_true rfl) (Nat.le_of_ble_eq_true rfl) (zrecv zo_9 (zids_of 9 (Nat.le_of_ble_eq_true rfl) 0 (Nat.le_of_ble_eq_true rfl))) ?_
        exact zx_zret G d_Sum_follow_81 rfl h
      · skip
        refine zx_if h (fun c11 h => ?_) (fun c11 h => ?_)
        · refine zx_sw (tgt := 82) G d_Sum_follow_14 c11 (by decide) (by decide) rfl rfl ?_
          refine zx_iload_n G d_Sum_follow_82 rfl ?_
          refine zx_if_eq (tgt := 94) G d_Sum_follow_83 rfl h (fun h => ?_) (fun h => ?_)
          · refine zx_aload_n G d_Sum_follow_94 rfl ?_
            refine zx_iload_n G d_Sum_follow_95 rfl ?_
            refine zx_sipush (v := 10000) G d_Sum_follow_96 rfl ?_
            refine zx_isub G d_Sum_follow_99 ?_
            obtain ⟨r13, μ12, hc, h⟩ := zbnd_of h
            refine zx_callVI (r := r13) (μ2 := μ12) G d_Sum_follow_100 zm_Sum_62 (fun l => t_Sum_multiplyByLetter  hc) rfl rfl (Nat.le_of_ble_eq_true rfl) (Nat.le_of_ble_eq_true rfl) (zrecv zo_9 (zids_of 9 (Nat.le_of_ble_eq_true rfl) 0 (Nat.le_of_ble_eq_true rfl))) ?_
            exact zx_zret G d_Sum_follow_103 rfl h
          · refine zx_aload_n G d_Sum_follow_86 rfl ?_
            refine zx_iload_n G d_Sum_follow_87 rfl ?_
            obtain ⟨r15, μ14, hc, h⟩ := zbnd_of h
            refine zx_callVI (r := r15) (μ2 := μ14) G d_Sum_follow_88 zm_Sum_59 (fun l => t_Sum_multiply  hc) rfl rfl (Nat.le_of_ble_eq_true rfl) (Nat.le_of_ble_eq_true rfl) (zrecv zo_9 (zids_of 9 (Nat.le_of_ble_eq_true rfl) 0 (Nat.le_of_ble_eq_true rfl))) ?_
            refine zx_goto (tgt := 103) G d_Sum_follow_91 rfl ?_
            exact zx_zret G d_Sum_follow_103 rfl h
        · skip
          refine zx_if h (fun c16 h => ?_) (fun c16 h => ?_)
          · refine zx_sw (tgt := 104) G d_Sum_follow_14 c16 (by decide) (by decide) rfl rfl ?_
            refine zx_aload_n G d_Sum_follow_104 rfl ?_
            refine zx_dup G d_Sum_follow_105 rfl ?_
            refine zx_getJ G d_Sum_follow_106 zf_Sum_27 zc_9_1 (zids_of 9 (Nat.le_of_ble_eq_true rfl) 0 (Nat.le_of_ble_eq_true rfl)) ?_
            refine zx_iload_n G d_Sum_follow_109 rfl ?_
            refine zx_join (P := fun k => ∀ (y17 : Int64) (μ18 : ZMem), k y17 μ18 = some rr → zX g K_Sum_follow 2 E (some (.int rr.1), rr.2) μ18 119 [some (.ref (g.2.1 9 0)), none, none, none] [.long y17, .long (μ2.2 9 0 1), .ref (g.2.1 9 0)]) h (fun y17 μ18 h => ?_) (fun k19 hk19 h => ?_)
            · try dsimp only at h
              refine zx_lmul G d_Sum_follow_119 ?_
              refine zx_putJ G d_Sum_follow_120 zq_Sum_27 zp_9_1 (zids_of 9 (Nat.le_of_ble_eq_true rfl) 0 (Nat.le_of_ble_eq_true rfl)) h (fun μ20 h => ?_)
              refine zx_aload_n G d_Sum_follow_123 rfl ?_
              refine zx_getJ G d_Sum_follow_124 zf_Sum_27 zc_9_1 (zids_of 9 (Nat.le_of_ble_eq_true rfl) 0 (Nat.le_of_ble_eq_true rfl)) ?_
              refine zx_lconst (v := 0) G d_Sum_follow_127 rfl ?_
              refine zx_lcmp G d_Sum_follow_128 ?_
              refine zx_if_le (tgt := 136) G d_Sum_follow_129 rfl h (fun h => ?_) (fun h => ?_)
              · refine zx_iconst (v := 0) G d_Sum_follow_136 rfl ?_
                exact zx_zretK G d_Sum_follow_137 rfl (by decide) h
              · refine zx_iconst (v := 1) G d_Sum_follow_132 rfl ?_
                refine zx_goto (tgt := 137) G d_Sum_follow_133 rfl ?_
                exact zx_zretK G d_Sum_follow_137 rfl (by decide) h
            try dsimp only at h
            refine zx_if_eq (tgt := 118) G d_Sum_follow_110 rfl h (fun h => ?_) (fun h => ?_)
            · refine zx_lconst (v := 0) G d_Sum_follow_118 rfl ?_
              refine zx_weak [true, false, false, false] (lv2 := [_, none, none, none]) rfl ?_
              exact hk19 (0 : Int64) μ2 h
            · refine zx_iload_n G d_Sum_follow_113 rfl ?_
              refine zx_i2l G d_Sum_follow_114 ?_
              refine zx_goto (tgt := 119) G d_Sum_follow_115 rfl ?_
              refine zx_weak [true, false, false, false] (lv2 := [_, none, none, none]) rfl ?_
              exact hk19 p1.toInt64 μ2 h
          · skip
            refine zx_if h (fun c21 h => ?_) (fun c21 h => ?_)
            · refine zx_sw (tgt := 140) G d_Sum_follow_14 c21 (by decide) (by decide) rfl rfl ?_
              refine zx_iconst (v := 0) G d_Sum_follow_140 rfl ?_
              exact zx_zretK G d_Sum_follow_141 rfl (by decide) h
            · skip
              refine zx_if h (fun c22 h => ?_) (fun c22 h => ?_)
              · refine zx_sw (tgt := 140) G d_Sum_follow_14 c22 (by decide) (by decide) rfl rfl ?_
                refine zx_iconst (v := 0) G d_Sum_follow_140 rfl ?_
                exact zx_zretK G d_Sum_follow_141 rfl (by decide) h
              · skip
                refine zx_if h (fun c23 h => ?_) (fun c23 h => ?_)
                · refine zx_sw (tgt := 140) G d_Sum_follow_14 c23 (by decide) (by decide) rfl rfl ?_
                  refine zx_iconst (v := 0) G d_Sum_follow_140 rfl ?_
                  exact zx_zretK G d_Sum_follow_141 rfl (by decide) h
                · skip
                  refine zx_if h (fun c24 h => ?_) (fun c24 h => ?_)
                  · refine zx_sw (tgt := 140) G d_Sum_follow_14 c24 (by decide) (by decide) rfl rfl ?_
                    refine zx_iconst (v := 0) G d_Sum_follow_140 rfl ?_
                    exact zx_zretK G d_Sum_follow_141 rfl (by decide) h
                  · skip
                    refine zx_if h (fun c25 h => ?_) (fun c25 h => ?_)
                    · refine zx_sw (tgt := 140) G d_Sum_follow_14 c25 (by decide) (by decide) rfl rfl ?_
                      refine zx_iconst (v := 0) G d_Sum_follow_140 rfl ?_
                      exact zx_zretK G d_Sum_follow_141 rfl (by decide) h
                    · skip
                      refine zx_if h (fun c26 h => ?_) (fun c26 h => ?_)
                      · refine zx_sw (tgt := 138) G d_Sum_follow_14 c26 (by decide) (by decide) rfl rfl ?_
                        refine zx_iconst (v := 1) G d_Sum_follow_138 rfl ?_
                        exact zx_zretK G d_Sum_follow_139 rfl (by decide) h
                      · skip
                        have c5 := lv_neT c5 (a := 0) rfl
                        have c8 := lv_neT c8 (a := 1) rfl
                        have c11 := lv_neT c11 (a := 2) rfl
                        have c16 := lv_neT c16 (a := 3) rfl
                        have c21 := lv_neT c21 (a := 4) rfl
                        have c22 := lv_neT c22 (a := 5) rfl
                        have c23 := lv_neT c23 (a := 6) rfl
                        have c24 := lv_neT c24 (a := 7) rfl
                        have c25 := lv_neT c25 (a := 8) rfl
                        have c26 := lv_neT c26 (a := 9) rfl
                        refine zx_swOut (tgt := 140) G d_Sum_follow_14 (by omega) rfl ?_
                        refine zx_iconst (v := 0) G d_Sum_follow_140 rfl ?_
                        exact zx_zretK G d_Sum_follow_141 rfl (by decide) h
  try dsimp only at h
  refine zx_icmp_ge (tgt := 11) G d_Sum_follow_4 rfl h (fun h => ?_) (fun h => ?_)
  · refine zx_iconst (v := 0) G d_Sum_follow_11 rfl ?_
    exact hk3 (0 : Int32) μ h
  · refine zx_iconst (v := 1) G d_Sum_follow_7 rfl ?_
    refine zx_goto (tgt := 12) G d_Sum_follow_8 rfl ?_
    exact hk3 (1 : Int32) μ h
set_option maxHeartbeats 4000000 in
set_option maxRecDepth 20000 in
theorem tf_Sum_putInLowestTerms_l7_0 {g : ZG} {E : ZE} {N : Nat} {rr : Int32 × ZMem} {kx33 : Int64 → ZMem → Option (Int32 × ZMem)} (G : zGa g K_Sum_putInLowestTerms 2 E) (hl0 : (9, 0) ∈ zids) (hkx33 : ∀ (w1 : Int64) (μ : ZMem), kx33 w1 μ = some rr → zX g K_Sum_putInLowestTerms 2 E (some (.int rr.1), rr.2) μ 33 [some (.ref (g.2.1 9 0)), some (.long w1), none, none, none] []) : ∀ (n7 : Nat) (z3 : Int64) (z4 : Int32) (μ5 : ZMem), f_Sum_putInLowestTerms_l7 N kx33 n7 z3 z4 μ5 = some rr → zX g K_Sum_putInLowestTerms 2 E (some (.int rr.1), rr.2) μ5 7 [some (.ref (g.2.1 9 0)), some (.long z3), none, some (.int z4), none] [] := by
  intro n7
  induction n7 with
  | zero => intro z3 z4 μ5 h; cases h
  | succ n7 ih7 =>
    intro z3 z4 μ5 h
    simp only [f_Sum_putInLowestTerms_l7] at h
    refine zx_iload_n G d_Sum_putInLowestTerms_7 rfl ?_
    refine zx_aload_n G d_Sum_putInLowestTerms_8 rfl ?_
    refine zx_getR G d_Sum_putInLowestTerms_9 zf_Sum_9 zc_9_0 hl0 ?_
    refine zx_alenJ G d_Sum_putInLowestTerms_12 za_31 (zi_9_0 hl0) ?_
    refine zx_icmp_ge (tgt := 33) G d_Sum_putInLowestTerms_13 rfl h (fun h => ?_) (fun h => ?_)
    · refine zx_weak [true, true, false, false, false] (lv2 := [_, _, none, none, none]) rfl ?_
      exact hkx33 z3 μ5 h
    · refine zx_aload_n G d_Sum_putInLowestTerms_16 rfl ?_
      refine zx_getR G d_Sum_putInLowestTerms_17 zf_Sum_9 zc_9_0 hl0 ?_
      refine zx_iload_n G d_Sum_putInLowestTerms_20 rfl ?_
      refine zx_lald G d_Sum_putInLowestTerms_21 za_31 (zi_9_0 hl0) h (fun h => ?_)
      refine zx_lload_n G d_Sum_putInLowestTerms_22 rfl ?_
      obtain ⟨r7, μ6, hc, h⟩ := zbnd_of h
      refine zx_callSJ (r := r7) (μ2 := μ6) G d_Sum_putInLowestTerms_23 zm_Sum_68 (fun l => t_A_commonMeasure  hc) rfl rfl (Nat.le_of_ble_eq_true rfl) (Nat.le_of_ble_eq_true rfl) ?_
      refine zx_lstore_n (lf := fun y => [_, some (.long y), none, _, none]) G d_Sum_putInLowestTerms_26 (Nat.le_of_ble_eq_true rfl) (fun _ => rfl) h (fun x8 h => ?_)
      refine zx_iinc (v := 1) (lf := fun y => [_, _, none, some (.int y), none]) G d_Sum_putInLowestTerms_27 (Nat.le_of_ble_eq_true rfl) rfl rfl (fun _ => rfl) h (fun x9 h => ?_)
      refine zx_goto (tgt := 7) G d_Sum_putInLowestTerms_30 rfl ?_
      exact ih7 x8 x9 μ6 h
set_option maxHeartbeats 4000000 in
set_option maxRecDepth 20000 in
theorem tf_Sum_putInLowestTerms_l7 {g : ZG} {E : ZE} {N n7 : Nat} {rr : Int32 × ZMem} {kx33 : Int64 → ZMem → Option (Int32 × ZMem)} {z3 : Int64} {z4 : Int32} {μ5 : ZMem} (G : zGa g K_Sum_putInLowestTerms 2 E) (hl0 : (9, 0) ∈ zids) (h : f_Sum_putInLowestTerms_l7 N kx33 n7 z3 z4 μ5 = some rr) (hkx33 : ∀ (w1 : Int64) (μ : ZMem), kx33 w1 μ = some rr → zX g K_Sum_putInLowestTerms 2 E (some (.int rr.1), rr.2) μ 33 [some (.ref (g.2.1 9 0)), some (.long w1), none, none, none] []) : zX g K_Sum_putInLowestTerms 2 E (some (.int rr.1), rr.2) μ5 7 [some (.ref (g.2.1 9 0)), some (.long z3), none, some (.int z4), none] [] := tf_Sum_putInLowestTerms_l7_0 G hl0 hkx33 n7 z3 z4 μ5 h
set_option maxHeartbeats 4000000 in
set_option maxRecDepth 20000 in
theorem tf_Sum_putInLowestTerms_l71_0 {g : ZG} {E : ZE} {N : Nat} {rr : Int32 × ZMem} {x10 : Int64} (G : zGa g K_Sum_putInLowestTerms 2 E) (hl0 : (9, 0) ∈ zids) : ∀ (n71 : Nat) (z18 : Int32) (z19 : Int32) (μ20 : ZMem), f_Sum_putInLowestTerms_l71 N x10 n71 z18 z19 μ20 = some rr → zX g K_Sum_putInLowestTerms 2 E (some (.int rr.1), rr.2) μ20 71 [some (.ref (g.2.1 9 0)), some (.long x10), none, some (.int z18), some (.int z19)] [] := by
  intro n71
  induction n71 with
  | zero => intro z18 z19 μ20 h; cases h
  | succ n71 ih71 =>
    intro z18 z19 μ20 h
    simp only [f_Sum_putInLowestTerms_l71] at h
    refine zx_iload G d_Sum_putInLowestTerms_71 rfl ?_
    refine zx_aload_n G d_Sum_putInLowestTerms_73 rfl ?_
    refine zx_getR G d_Sum_putInLowestTerms_74 zf_Sum_9 zc_9_0 hl0 ?_
    refine zx_alenJ G d_Sum_putInLowestTerms_77 za_31 (zi_9_0 hl0) ?_
    refine zx_icmp_ge (tgt := 136) G d_Sum_putInLowestTerms_78 rfl h (fun h => ?_) (fun h => ?_)
    · refine zx_iload_n G d_Sum_putInLowestTerms_136 rfl ?_
      exact zx_zret G d_Sum_putInLowestTerms_137 rfl h
    · refine zx_aload_n G d_Sum_putInLowestTerms_81 rfl ?_
      refine zx_getR G d_Sum_putInLowestTerms_82 zf_Sum_9 zc_9_0 hl0 ?_
      refine zx_iload G d_Sum_putInLowestTerms_85 rfl ?_
      refine zx_dup2_11 G d_Sum_putInLowestTerms_87 rfl rfl ?_
      refine zx_lald G d_Sum_putInLowestTerms_88 za_31 (zi_9_0 hl0) h (fun h => ?_)
      refine zx_lload_n G d_Sum_putInLowestTerms_89 rfl ?_
      refine zx_ldiv G d_Sum_putInLowestTerms_90 h (fun h => ?_)
      refine zx_last G d_Sum_putInLowestTerms_91 za_31 (zi_9_0 hl0) h (fun μ21 h => ?_)
      refine zx_iload_n G d_Sum_putInLowestTerms_92 rfl ?_
      refine zx_join (P := fun k => ∀ (y22 : Int32) (μ23 : ZMem), k y22 μ23 = some rr → zX g K_Sum_putInLowestTerms 2 E (some (.int rr.1), rr.2) μ23 129 [some (.ref (g.2.1 9 0)), some (.long x10), none, none, some (.int z19)] [.int y22]) h (fun y22 μ23 h => ?_) (fun k24 hk24 h => ?_)
      · try dsimp only at h
        refine zx_istore_n (lf := fun y => [_, _, none, some (.int y), _]) G d_Sum_putInLowestTerms_129 (Nat.le_of_ble_eq_true rfl) (fun _ => rfl) h (fun x25 h => ?_)
        refine zx_iinc (v := 1) (lf := fun y => [_, _, none, _, some (.int y)]) G d_Sum_putInLowestTerms_130 (Nat.le_of_ble_eq_true rfl) rfl rfl (fun _ => rfl) h (fun x26 h => ?_)
        refine zx_goto (tgt := 71) G d_Sum_putInLowestTerms_133 rfl ?_
        exact ih71 x25 x26 μ23 h
      try dsimp only at h
      refine zx_join (P := fun k => ∀ (μ27 : ZMem), k μ27 = some rr → zX g K_Sum_putInLowestTerms 2 E (some (.int rr.1), rr.2) μ27 128 [some (.ref (g.2.1 9 0)), some (.long x10), none, none, some (.int z19)] []) h (fun μ27 h => ?_) (fun k28 hk28 h => ?_)
      · try dsimp only at h
        refine zx_iconst (v := 0) G d_Sum_putInLowestTerms_128 rfl ?_
        exact hk24 (0 : Int32) μ27 h
      try dsimp only at h
      refine zx_if_eq (tgt := 128) G d_Sum_putInLowestTerms_93 rfl h (fun h => ?_) (fun h => ?_)
      · refine zx_weak [true, true, false, false, true] (lv2 := [_, _, none, none, _]) rfl ?_
        exact hk28 μ21 h
      · refine zx_aload_n G d_Sum_putInLowestTerms_96 rfl ?_
        refine zx_getR G d_Sum_putInLowestTerms_97 zf_Sum_9 zc_9_0 hl0 ?_
        refine zx_iload G d_Sum_putInLowestTerms_100 rfl ?_
        refine zx_lald G d_Sum_putInLowestTerms_102 za_31 (zi_9_0 hl0) h (fun h => ?_)
        refine zx_ldc2 (v := 1000000000000) G d_Sum_putInLowestTerms_103 zk_Sum_74 ?_
        refine zx_lcmp G d_Sum_putInLowestTerms_106 ?_
        refine zx_if_gt (tgt := 128) G d_Sum_putInLowestTerms_107 rfl h (fun h => ?_) (fun h => ?_)
        · refine zx_weak [true, true, false, false, true] (lv2 := [_, _, none, none, _]) rfl ?_
          exact hk28 μ21 h
        · refine zx_aload_n G d_Sum_putInLowestTerms_110 rfl ?_
          refine zx_getR G d_Sum_putInLowestTerms_111 zf_Sum_9 zc_9_0 hl0 ?_
          refine zx_iload G d_Sum_putInLowestTerms_114 rfl ?_
          refine zx_lald G d_Sum_putInLowestTerms_116 za_31 (zi_9_0 hl0) h (fun h => ?_)
          refine zx_ldc2 (v := -1000000000000) G d_Sum_putInLowestTerms_117 zk_Sum_76 ?_
          refine zx_lcmp G d_Sum_putInLowestTerms_120 ?_
          refine zx_if_lt (tgt := 128) G d_Sum_putInLowestTerms_121 rfl h (fun h => ?_) (fun h => ?_)
          · refine zx_weak [true, true, false, false, true] (lv2 := [_, _, none, none, _]) rfl ?_
            exact hk28 μ21 h
          · refine zx_iconst (v := 1) G d_Sum_putInLowestTerms_124 rfl ?_
            refine zx_goto (tgt := 129) G d_Sum_putInLowestTerms_125 rfl ?_
            refine zx_weak [true, true, false, false, true] (lv2 := [_, _, none, none, _]) rfl ?_
            exact hk24 (1 : Int32) μ21 h
set_option maxHeartbeats 4000000 in
set_option maxRecDepth 20000 in
theorem tf_Sum_putInLowestTerms_l71 {g : ZG} {E : ZE} {N n71 : Nat} {rr : Int32 × ZMem} {x10 : Int64} {z18 : Int32} {z19 : Int32} {μ20 : ZMem} (G : zGa g K_Sum_putInLowestTerms 2 E) (hl0 : (9, 0) ∈ zids) (h : f_Sum_putInLowestTerms_l71 N x10 n71 z18 z19 μ20 = some rr) : zX g K_Sum_putInLowestTerms 2 E (some (.int rr.1), rr.2) μ20 71 [some (.ref (g.2.1 9 0)), some (.long x10), none, some (.int z18), some (.int z19)] [] := tf_Sum_putInLowestTerms_l71_0 G hl0 n71 z18 z19 μ20 h
set_option maxHeartbeats 4000000 in
set_option maxRecDepth 20000 in
theorem t_Sum_putInLowestTerms {g : ZG} {l : Launch} {N : Nat} {μ : ZMem} {rr : Int32 × ZMem} (h : f_Sum_putInLowestTerms N μ = some rr) : zT g l 2 K_Sum_putInLowestTerms [.ref (g.2.1 9 0)] μ (some (.int rr.1), rr.2) := by
  refine zT_of (by decide +kernel) (Nat.le_of_ble_eq_true rfl) (fun E G => ?_)
  show zX g K_Sum_putInLowestTerms 2 E (some (.int rr.1), rr.2) μ 0 [some (.ref (g.2.1 9 0)), none, none, none, none] []
  unfold f_Sum_putInLowestTerms at h
  refine zx_aload_n G d_Sum_putInLowestTerms_0 rfl ?_
  refine zx_getJ G d_Sum_putInLowestTerms_1 zf_Sum_27 zc_9_1 (zids_of 9 (Nat.le_of_ble_eq_true rfl) 0 (Nat.le_of_ble_eq_true rfl)) ?_
  refine zx_lstore_n (lf := fun y => [_, some (.long y), none, none, none]) G d_Sum_putInLowestTerms_4 (Nat.le_of_ble_eq_true rfl) (fun _ => rfl) h (fun x1 h => ?_)
  refine zx_iconst (v := 0) G d_Sum_putInLowestTerms_5 rfl ?_
  refine zx_istore_n (lf := fun y => [_, _, none, some (.int y), none]) G d_Sum_putInLowestTerms_6 (Nat.le_of_ble_eq_true rfl) (fun _ => rfl) h (fun x2 h => ?_)
  refine tf_Sum_putInLowestTerms_l7 G (zids_of 9 (Nat.le_of_ble_eq_true rfl) 0 (Nat.le_of_ble_eq_true rfl)) h (fun x10 μ11 h => ?_)
  · try dsimp only at h
    refine zx_lload_n G d_Sum_putInLowestTerms_33 rfl ?_
    refine zx_lconst (v := 1) G d_Sum_putInLowestTerms_34 rfl ?_
    refine zx_lcmp G d_Sum_putInLowestTerms_35 ?_
    refine zx_if_ge (tgt := 41) G d_Sum_putInLowestTerms_36 rfl h (fun h => ?_) (fun h => ?_)
    · refine zx_aload_n G d_Sum_putInLowestTerms_41 rfl ?_
      refine zx_dup G d_Sum_putInLowestTerms_42 rfl ?_
      refine zx_getJ G d_Sum_putInLowestTerms_43 zf_Sum_27 zc_9_1 (zids_of 9 (Nat.le_of_ble_eq_true rfl) 0 (Nat.le_of_ble_eq_true rfl)) ?_
      refine zx_lload_n G d_Sum_putInLowestTerms_46 rfl ?_
      refine zx_ldiv G d_Sum_putInLowestTerms_47 h (fun h => ?_)
      refine zx_putJ G d_Sum_putInLowestTerms_48 zq_Sum_27 zp_9_1 (zids_of 9 (Nat.le_of_ble_eq_true rfl) 0 (Nat.le_of_ble_eq_true rfl)) h (fun μ12 h => ?_)
      refine zx_aload_n G d_Sum_putInLowestTerms_51 rfl ?_
      refine zx_getJ G d_Sum_putInLowestTerms_52 zf_Sum_27 zc_9_1 (zids_of 9 (Nat.le_of_ble_eq_true rfl) 0 (Nat.le_of_ble_eq_true rfl)) ?_
      refine zx_ldc2 (v := 1000000) G d_Sum_putInLowestTerms_55 zk_Sum_72 ?_
      refine zx_lcmp G d_Sum_putInLowestTerms_58 ?_
      refine zx_join (P := fun k => ∀ (y13 : Int32) (μ14 : ZMem), k y13 μ14 = some rr → zX g K_Sum_putInLowestTerms 2 E (some (.int rr.1), rr.2) μ14 67 [some (.ref (g.2.1 9 0)), some (.long x10), none, none, none] [.int y13]) h (fun y13 μ14 h => ?_) (fun k15 hk15 h => ?_)
      · try dsimp only at h
        refine zx_istore_n (lf := fun y => [_, _, none, some (.int y), none]) G d_Sum_putInLowestTerms_67 (Nat.le_of_ble_eq_true rfl) (fun _ => rfl) h (fun x16 h => ?_)
        refine zx_iconst (v := 0) G d_Sum_putInLowestTerms_68 rfl ?_
        refine zx_istore (lf := fun y => [_, _, none, _, some (.int y)]) G d_Sum_putInLowestTerms_69 (Nat.le_of_ble_eq_true rfl) (fun _ => rfl) h (fun x17 h => ?_)
        refine tf_Sum_putInLowestTerms_l71 G (zids_of 9 (Nat.le_of_ble_eq_true rfl) 0 (Nat.le_of_ble_eq_true rfl)) h
      try dsimp only at h
      refine zx_if_gt (tgt := 66) G d_Sum_putInLowestTerms_59 rfl h (fun h => ?_) (fun h => ?_)
      · refine zx_iconst (v := 0) G d_Sum_putInLowestTerms_66 rfl ?_
        exact hk15 (0 : Int32) μ12 h
      · refine zx_iconst (v := 1) G d_Sum_putInLowestTerms_62 rfl ?_
        refine zx_goto (tgt := 67) G d_Sum_putInLowestTerms_63 rfl ?_
        exact hk15 (1 : Int32) μ12 h
    · refine zx_iconst (v := 0) G d_Sum_putInLowestTerms_39 rfl ?_
      exact zx_zretK G d_Sum_putInLowestTerms_40 rfl (by decide) h
set_option maxHeartbeats 4000000 in
set_option maxRecDepth 20000 in
theorem tf_Sum_prove_l34_0 {g : ZG} {E : ZE} {N : Nat} {rr : Int32 × ZMem} {p0 : Nat} (G : zGa g K_Sum_prove 3 E) (hl0 : (9, 0) ∈ zids) (hl1 : (3, p0) ∈ zids) : ∀ (n34 : Nat) (z10 : Int32) (μ11 : ZMem), f_Sum_prove_l34 N p0 n34 z10 μ11 = some rr → zX g K_Sum_prove 3 E (some (.int rr.1), rr.2) μ11 34 [some (.ref (g.2.1 9 0)), some (.ref (g.2.1 3 p0)), some (.int z10)] [] := by
  intro n34
  induction n34 with
  | zero => intro z10 μ11 h; cases h
  | succ n34 ih34 =>
    intro z10 μ11 h
    simp only [f_Sum_prove_l34] at h
    refine zx_iload_n G d_Sum_prove_34 rfl ?_
    refine zx_aload_n G d_Sum_prove_35 rfl ?_
    refine zx_getR G d_Sum_prove_36 zf_Sum_31 zc_3_0 hl1 ?_
    refine zx_getI G d_Sum_prove_39 zf_Sum_35 zc_4_2 (zi_3_0 hl1) ?_
    refine zx_icmp_ge (tgt := 85) G d_Sum_prove_42 rfl h (fun h => ?_) (fun h => ?_)
    · refine zx_iconst (v := 1) G d_Sum_prove_85 rfl ?_
      exact zx_zretK G d_Sum_prove_86 rfl (by decide) h
    · refine zx_aload_n G d_Sum_prove_45 rfl ?_
      refine zx_aload_n G d_Sum_prove_46 rfl ?_
      refine zx_getR G d_Sum_prove_47 zf_Sum_31 zc_3_0 hl1 ?_
      refine zx_getR G d_Sum_prove_50 zf_Sum_41 zc_4_0 (zi_3_0 hl1) ?_
      refine zx_iload_n G d_Sum_prove_53 rfl ?_
      refine zx_iald G d_Sum_prove_54 za_22 (zi_4_0 (zi_3_0 hl1)) h (fun h => ?_)
      refine zx_aload_n G d_Sum_prove_55 rfl ?_
      refine zx_getR G d_Sum_prove_56 zf_Sum_31 zc_3_0 hl1 ?_
      refine zx_getR G d_Sum_prove_59 zf_Sum_45 zc_4_1 (zi_3_0 hl1) ?_
      refine zx_iload_n G d_Sum_prove_62 rfl ?_
      refine zx_iald G d_Sum_prove_63 za_23 (zi_4_1 (zi_3_0 hl1)) h (fun h => ?_)
      obtain ⟨r13, μ12, hc, h⟩ := zbnd_of h
      refine zx_callVI (r := r13) (μ2 := μ12) G d_Sum_prove_64 zm_Sum_48 (fun l => t_Sum_follow  hc) rfl rfl (Nat.le_of_ble_eq_true rfl) (Nat.le_of_ble_eq_true rfl) (zrecv zo_9 hl0) ?_
      refine zx_if_eq (tgt := 77) G d_Sum_prove_67 rfl h (fun h => ?_) (fun h => ?_)
      · refine zx_iconst (v := 0) G d_Sum_prove_77 rfl ?_
        exact zx_zretK G d_Sum_prove_78 rfl (by decide) h
      · refine zx_aload_n G d_Sum_prove_70 rfl ?_
        obtain ⟨r15, μ14, hc, h⟩ := zbnd_of h
        refine zx_callVI (r := r15) (μ2 := μ14) G d_Sum_prove_71 zm_Sum_52 (fun l => t_Sum_putInLowestTerms  hc) rfl rfl (Nat.le_of_ble_eq_true rfl) (Nat.le_of_ble_eq_true rfl) (zrecv zo_9 hl0) ?_
        refine zx_if_ne (tgt := 79) G d_Sum_prove_74 rfl h (fun h => ?_) (fun h => ?_)
        · refine zx_iinc (v := 1) (lf := fun y => [_, _, some (.int y)]) G d_Sum_prove_79 (Nat.le_of_ble_eq_true rfl) rfl rfl (fun _ => rfl) h (fun x16 h => ?_)
          refine zx_goto (tgt := 34) G d_Sum_prove_82 rfl ?_
          exact ih34 x16 μ14 h
        · refine zx_iconst (v := 0) G d_Sum_prove_77 rfl ?_
          exact zx_zretK G d_Sum_prove_78 rfl (by decide) h
set_option maxHeartbeats 4000000 in
set_option maxRecDepth 20000 in
theorem tf_Sum_prove_l34 {g : ZG} {E : ZE} {N n34 : Nat} {rr : Int32 × ZMem} {p0 : Nat} {z10 : Int32} {μ11 : ZMem} (G : zGa g K_Sum_prove 3 E) (hl0 : (9, 0) ∈ zids) (hl1 : (3, p0) ∈ zids) (h : f_Sum_prove_l34 N p0 n34 z10 μ11 = some rr) : zX g K_Sum_prove 3 E (some (.int rr.1), rr.2) μ11 34 [some (.ref (g.2.1 9 0)), some (.ref (g.2.1 3 p0)), some (.int z10)] [] := tf_Sum_prove_l34_0 G hl0 hl1 n34 z10 μ11 h
set_option maxHeartbeats 4000000 in
set_option maxRecDepth 20000 in
theorem t_Sum_prove {g : ZG} {l : Launch} {N : Nat} {μ : ZMem} {p0 : Nat} (hp0 : (3, p0) ∈ zids) {rr : Int32 × ZMem} (h : f_Sum_prove N μ p0 = some rr) : zT g l 3 K_Sum_prove [.ref (g.2.1 9 0), .ref (g.2.1 3 p0)] μ (some (.int rr.1), rr.2) := by
  refine zT_of (by decide +kernel) (Nat.le_of_ble_eq_true rfl) (fun E G => ?_)
  show zX g K_Sum_prove 3 E (some (.int rr.1), rr.2) μ 0 [some (.ref (g.2.1 9 0)), some (.ref (g.2.1 3 p0)), none] []
  unfold f_Sum_prove at h
  refine zx_aload_n G d_Sum_prove_0 rfl ?_
  refine zx_getR G d_Sum_prove_1 zf_Sum_9 zc_9_0 (zids_of 9 (Nat.le_of_ble_eq_true rfl) 0 (Nat.le_of_ble_eq_true rfl)) ?_
  refine zx_lconst (v := 0) G d_Sum_prove_4 rfl ?_
  obtain ⟨u9, μ1, hc, h⟩ := zbnd_of h
  refine zx_callSV  (μ2 := μ1) G d_Sum_prove_5 zm_Sum_15 (fun l => t_JArr_fillJ za_31 (zi_9_0 (zids_of 9 (Nat.le_of_ble_eq_true rfl) 0 (Nat.le_of_ble_eq_true rfl))) hc) rfl rfl (Nat.le_of_ble_eq_true rfl) (Nat.le_of_ble_eq_true rfl) ?_
  refine zx_aload_n G d_Sum_prove_8 rfl ?_
  refine zx_getR G d_Sum_prove_9 zf_Sum_9 zc_9_0 (zids_of 9 (Nat.le_of_ble_eq_true rfl) 0 (Nat.le_of_ble_eq_true rfl)) ?_
  refine zx_iconst (v := 0) G d_Sum_prove_12 rfl ?_
  refine zx_aload_n G d_Sum_prove_13 rfl ?_
  refine zx_iconst (v := 0) G d_Sum_prove_14 rfl ?_
  obtain ⟨r3, μ2, hc, h⟩ := zbnd_of h
  refine zx_callVI (r := r3) (μ2 := μ2) G d_Sum_prove_15 zm_Sum_21 (fun l => t_Table_isHidden hp0 hc) rfl rfl (Nat.le_of_ble_eq_true rfl) (Nat.le_of_ble_eq_true rfl) (zrecv zo_3 hp0) ?_
  refine zx_join (P := fun k => ∀ (y4 : Int64) (μ5 : ZMem), k y4 μ5 = some rr → zX g K_Sum_prove 3 E (some (.int rr.1), rr.2) μ5 26 [some (.ref (g.2.1 9 0)), some (.ref (g.2.1 3 p0)), none] [.long y4, .int (0 : Int32), .ref (g.2.1 31 0)]) h (fun y4 μ5 h => ?_) (fun k6 hk6 h => ?_)
  · try dsimp only at h
    refine zx_last G d_Sum_prove_26 za_31 (zi_9_0 (zids_of 9 (Nat.le_of_ble_eq_true rfl) 0 (Nat.le_of_ble_eq_true rfl))) h (fun μ7 h => ?_)
    refine zx_aload_n G d_Sum_prove_27 rfl ?_
    refine zx_lconst (v := 1) G d_Sum_prove_28 rfl ?_
    refine zx_putJ G d_Sum_prove_29 zq_Sum_27 zp_9_1 (zids_of 9 (Nat.le_of_ble_eq_true rfl) 0 (Nat.le_of_ble_eq_true rfl)) h (fun μ8 h => ?_)
    refine zx_iconst (v := 0) G d_Sum_prove_32 rfl ?_
    refine zx_istore_n (lf := fun y => [_, _, some (.int y)]) G d_Sum_prove_33 (Nat.le_of_ble_eq_true rfl) (fun _ => rfl) h (fun x9 h => ?_)
    refine tf_Sum_prove_l34 G (zids_of 9 (Nat.le_of_ble_eq_true rfl) 0 (Nat.le_of_ble_eq_true rfl)) hp0 h
  try dsimp only at h
  refine zx_if_eq (tgt := 25) G d_Sum_prove_18 rfl h (fun h => ?_) (fun h => ?_)
  · refine zx_lconst (v := 0) G d_Sum_prove_25 rfl ?_
    exact hk6 (0 : Int64) μ2 h
  · refine zx_lconst (v := 1) G d_Sum_prove_21 rfl ?_
    refine zx_goto (tgt := 26) G d_Sum_prove_22 rfl ?_
    exact hk6 (1 : Int64) μ2 h
set_option maxHeartbeats 4000000 in
set_option maxRecDepth 20000 in
theorem t_A_proof {g : ZG} {l : Launch} {N : Nat} {μ : ZMem} {p0 : Int32} {p1 : Int32} {rr : Int64 × ZMem} (h : f_A_proof N μ p0 p1 = some rr) : zT g l 4 K_A_proof [.ref (g.2.1 0 0), .int p0, .int p1] μ (some (.long rr.1), rr.2) := by
  refine zT_of (by decide +kernel) (Nat.le_of_ble_eq_true rfl) (fun E G => ?_)
  show zX g K_A_proof 4 E (some (.long rr.1), rr.2) μ 0 [some (.ref (g.2.1 0 0)), some (.int p0), some (.int p1), none] []
  unfold f_A_proof at h
  refine zx_aload_n G d_A_proof_0 rfl ?_
  refine zx_iload_n G d_A_proof_1 rfl ?_
  rcases zbrf_of h with ⟨μ1, hc, h⟩ | ⟨t2, μ1, hc, h⟩
  · refine zx_callVN (k := 3) (μ2 := μ1) G d_A_proof_2 zm_A_115 (fun l => t_A_find  hc) rfl rfl (Nat.le_of_ble_eq_true rfl) (Nat.le_of_ble_eq_true rfl) (zrecv zo_0 (zids_of 0 (Nat.le_of_ble_eq_true rfl) 0 (Nat.le_of_ble_eq_true rfl))) ?_
    refine zx_astore_nN (lv2 := [_, _, _, _]) G d_A_proof_5 (Nat.le_of_ble_eq_true rfl) rfl ?_
    refine zx_aload_nN G d_A_proof_6 rfl ?_
    refine zx_ifnullN (tgt := 30) G d_A_proof_7 rfl ?_
    refine zx_ldc2 (v := -10000000000000) G d_A_proof_30 zk_A_146 ?_
    exact zx_lret G d_A_proof_33 rfl h
  · obtain ⟨hz3, h⟩ := zchk_of h
    refine zx_callVP (k := 3) (r := t2) (μ2 := μ1) G d_A_proof_2 zm_A_115 (fun l => t_A_find  hc) rfl rfl (Nat.le_of_ble_eq_true rfl) (Nat.le_of_ble_eq_true rfl) (zrecv zo_0 (zids_of 0 (Nat.le_of_ble_eq_true rfl) 0 (Nat.le_of_ble_eq_true rfl))) ?_
    refine zx_astore_n (lv2 := [_, _, _, _]) G d_A_proof_5 (Nat.le_of_ble_eq_true rfl) rfl ?_
    refine zx_aload_n G d_A_proof_6 rfl ?_
    refine zx_ifnull G d_A_proof_7 ?_
    refine zx_iload_n G d_A_proof_10 rfl ?_
    refine zx_if_lt (tgt := 30) G d_A_proof_11 rfl h (fun h => ?_) (fun h => ?_)
    · refine zx_ldc2 (v := -10000000000000) G d_A_proof_30 zk_A_146 ?_
      exact zx_lret G d_A_proof_33 rfl h
    · refine zx_iload_n G d_A_proof_14 rfl ?_
      refine zx_iconst (v := 5) G d_A_proof_15 rfl ?_
      refine zx_icmp_gt (tgt := 30) G d_A_proof_16 rfl h (fun h => ?_) (fun h => ?_)
      · refine zx_ldc2 (v := -10000000000000) G d_A_proof_30 zk_A_146 ?_
        exact zx_lret G d_A_proof_33 rfl h
      · refine zx_aload_n G d_A_proof_19 rfl ?_
        refine zx_getR G d_A_proof_20 zf_A_66 zc_0_9 (zids_of 0 (Nat.le_of_ble_eq_true rfl) 0 (Nat.le_of_ble_eq_true rfl)) ?_
        refine zx_aload_n G d_A_proof_23 rfl ?_
        obtain ⟨r5, μ4, hc, h⟩ := zbnd_of h
        refine zx_callVI (r := r5) (μ2 := μ4) G d_A_proof_24 zm_A_198 (fun l => t_Sum_prove (zidt hz3) hc) rfl rfl (Nat.le_of_ble_eq_true rfl) (Nat.le_of_ble_eq_true rfl) (zrecv zo_9 (zi_0_9 (zids_of 0 (Nat.le_of_ble_eq_true rfl) 0 (Nat.le_of_ble_eq_true rfl)))) ?_
        refine zx_if_ne (tgt := 34) G d_A_proof_27 rfl h (fun h => ?_) (fun h => ?_)
        · refine zx_iload_n G d_A_proof_34 rfl ?_
          refine zx_iconst (v := 4) G d_A_proof_35 rfl ?_
          refine zx_icmp_gt (tgt := 51) G d_A_proof_36 rfl h (fun h => ?_) (fun h => ?_)
          · refine zx_aload_n G d_A_proof_51 rfl ?_
            refine zx_getR G d_A_proof_52 zf_A_66 zc_0_9 (zids_of 0 (Nat.le_of_ble_eq_true rfl) 0 (Nat.le_of_ble_eq_true rfl)) ?_
            refine zx_getJ G d_A_proof_55 zf_A_205 zc_9_1 (zi_0_9 (zids_of 0 (Nat.le_of_ble_eq_true rfl) 0 (Nat.le_of_ble_eq_true rfl))) ?_
            exact zx_lret G d_A_proof_58 rfl h
          · refine zx_aload_n G d_A_proof_39 rfl ?_
            refine zx_getR G d_A_proof_40 zf_A_66 zc_0_9 (zids_of 0 (Nat.le_of_ble_eq_true rfl) 0 (Nat.le_of_ble_eq_true rfl)) ?_
            refine zx_getR G d_A_proof_43 zf_A_201 zc_9_0 (zi_0_9 (zids_of 0 (Nat.le_of_ble_eq_true rfl) 0 (Nat.le_of_ble_eq_true rfl))) ?_
            refine zx_iload_n G d_A_proof_46 rfl ?_
            refine zx_lald G d_A_proof_47 za_31 (zi_9_0 (zi_0_9 (zids_of 0 (Nat.le_of_ble_eq_true rfl) 0 (Nat.le_of_ble_eq_true rfl)))) h (fun h => ?_)
            refine zx_goto (tgt := 58) G d_A_proof_48 rfl ?_
            exact zx_lret G d_A_proof_58 rfl h
        · refine zx_ldc2 (v := -10000000000000) G d_A_proof_30 zk_A_146 ?_
          exact zx_lret G d_A_proof_33 rfl h
set_option maxHeartbeats 4000000 in
set_option maxRecDepth 20000 in
theorem t_A_hear {g : ZG} {l : Launch} {N : Nat} {μ : ZMem} {p0 : Int32} {p1 : Int32} {rr : Int32 × ZMem} (h : f_A_hear N μ p0 p1 = some rr) : zT g l 4 K_A_hear [.ref (g.2.1 0 0), .int p0, .int p1] μ (some (.int rr.1), rr.2) := by
  refine zT_of (by decide +kernel) (Nat.le_of_ble_eq_true rfl) (fun E G => ?_)
  show zX g K_A_hear 4 E (some (.int rr.1), rr.2) μ 0 [some (.ref (g.2.1 0 0)), some (.int p0), some (.int p1)] []
  unfold f_A_hear at h
  refine zx_aload_n G d_A_hear_0 rfl ?_
  refine zx_getR G d_A_hear_1 zf_A_35 zc_0_3 (zids_of 0 (Nat.le_of_ble_eq_true rfl) 0 (Nat.le_of_ble_eq_true rfl)) ?_
  refine zx_getR G d_A_hear_4 zf_A_209 zc_5_3 (zi_0_3 (zids_of 0 (Nat.le_of_ble_eq_true rfl) 0 (Nat.le_of_ble_eq_true rfl))) ?_
  refine zx_iload_n G d_A_hear_7 rfl ?_
  refine zx_iload_n G d_A_hear_8 rfl ?_
  refine zx_aload_n G d_A_hear_9 rfl ?_
  refine zx_getR G d_A_hear_10 zf_A_45 zc_0_5 (zids_of 0 (Nat.le_of_ble_eq_true rfl) 0 (Nat.le_of_ble_eq_true rfl)) ?_
  obtain ⟨r2, μ1, hc, h⟩ := zbnd_of h
  refine zx_callVI (r := r2) (μ2 := μ1) G d_A_hear_13 zm_A_172 (fun l => t_Values_tell (zi_5_3 (zi_0_3 (zids_of 0 (Nat.le_of_ble_eq_true rfl) 0 (Nat.le_of_ble_eq_true rfl)))) (zi_0_5 (zids_of 0 (Nat.le_of_ble_eq_true rfl) 0 (Nat.le_of_ble_eq_true rfl))) hc) rfl rfl (Nat.le_of_ble_eq_true rfl) (Nat.le_of_ble_eq_true rfl) (zrecv zo_6 (zi_5_3 (zi_0_3 (zids_of 0 (Nat.le_of_ble_eq_true rfl) 0 (Nat.le_of_ble_eq_true rfl))))) ?_
  exact zx_iret G d_A_hear_16 rfl h
set_option maxHeartbeats 4000000 in
set_option maxRecDepth 20000 in
theorem t_Tally_clear {g : ZG} {l : Launch} {N : Nat} {μ : ZMem} {rr : Unit × ZMem} (h : f_Tally_clear N μ = some rr) : zT g l 1 K_Tally_clear [.ref (g.2.1 8 0)] μ (none, rr.2) := by
  refine zT_of (by decide +kernel) (Nat.le_of_ble_eq_true rfl) (fun E G => ?_)
  show zX g K_Tally_clear 1 E (none, rr.2) μ 0 [some (.ref (g.2.1 8 0))] []
  unfold f_Tally_clear at h
  refine zx_aload_n G d_Tally_clear_0 rfl ?_
  refine zx_getR G d_Tally_clear_1 zf_Tally_9 zc_8_0 (zids_of 8 (Nat.le_of_ble_eq_true rfl) 0 (Nat.le_of_ble_eq_true rfl)) ?_
  refine zx_lconst (v := 0) G d_Tally_clear_4 rfl ?_
  obtain ⟨u9, μ1, hc, h⟩ := zbnd_of h
  refine zx_callSV  (μ2 := μ1) G d_Tally_clear_5 zm_Tally_15 (fun l => t_JArr_fillJ za_30 (zi_8_0 (zids_of 8 (Nat.le_of_ble_eq_true rfl) 0 (Nat.le_of_ble_eq_true rfl))) hc) rfl rfl (Nat.le_of_ble_eq_true rfl) (Nat.le_of_ble_eq_true rfl) ?_
  refine zx_aload_n G d_Tally_clear_8 rfl ?_
  refine zx_iconst (v := 0) G d_Tally_clear_9 rfl ?_
  refine zx_putI G d_Tally_clear_10 zq_Tally_21 zp_8_1 (zids_of 8 (Nat.le_of_ble_eq_true rfl) 0 (Nat.le_of_ble_eq_true rfl)) h (fun μ2 h => ?_)
  refine zx_aload_n G d_Tally_clear_13 rfl ?_
  refine zx_iconst (v := 0) G d_Tally_clear_14 rfl ?_
  refine zx_putI G d_Tally_clear_15 zq_Tally_25 zp_8_4 (zids_of 8 (Nat.le_of_ble_eq_true rfl) 0 (Nat.le_of_ble_eq_true rfl)) h (fun μ3 h => ?_)
  exact zx_vret G d_Tally_clear_18 rfl h
set_option maxHeartbeats 4000000 in
set_option maxRecDepth 20000 in
theorem tf_Table_saysJust_l12_0 {g : ZG} {E : ZE} {N : Nat} {rr : Int32 × ZMem} {o : Nat} {p0 : Nat} {p1 : Nat} {p2 : Nat} {kx85 : Int32 → ZMem → Option (Int32 × ZMem)} (G : zGa g K_Table_saysJust 4 E) (hl0 : (3, o) ∈ zids) (hl1 : (6, p0) ∈ zids) (hl2 : (26, p1) ∈ zids) (hl3 : (7, p2) ∈ zids) (hkx85 : ∀ (w4 : Int32) (μ : ZMem), kx85 w4 μ = some rr → zX g K_Table_saysJust 4 E (some (.int rr.1), rr.2) μ 85 [none, some (.ref (g.2.1 6 p0)), none, none, some (.int w4), none, none] []) : ∀ (n12 : Nat) (z4 : Int32) (z5 : Int32) (μ6 : ZMem), f_Table_saysJust_l12 N o p0 p1 p2 kx85 n12 z4 z5 μ6 = some rr → zX g K_Table_saysJust 4 E (some (.int rr.1), rr.2) μ6 12 [some (.ref (g.2.1 3 o)), some (.ref (g.2.1 6 p0)), some (.ref (g.2.1 26 p1)), some (.ref (g.2.1 7 p2)), some (.int z4), some (.int z5), none] [] := by
  intro n12
  induction n12 with
  | zero => intro z4 z5 μ6 h; cases h
  | succ n12 ih12 =>
    intro z4 z5 μ6 h
    simp only [f_Table_saysJust_l12] at h
    refine zx_iload G d_Table_saysJust_12 rfl ?_
    refine zx_aload_n G d_Table_saysJust_14 rfl ?_
    refine zx_getR G d_Table_saysJust_15 zf_Table_14 zc_3_0 hl0 ?_
    refine zx_getI G d_Table_saysJust_18 zf_Table_27 zc_4_2 (zi_3_0 hl0) ?_
    refine zx_icmp_ge (tgt := 85) G d_Table_saysJust_21 rfl h (fun h => ?_) (fun h => ?_)
    · refine zx_weak [false, true, false, false, true, false, false] (lv2 := [none, _, none, none, _, none, none]) rfl ?_
      exact hkx85 z4 μ6 h
    · refine zx_aload_n G d_Table_saysJust_24 rfl ?_
      refine zx_getR G d_Table_saysJust_25 zf_Table_14 zc_3_0 hl0 ?_
      refine zx_getR G d_Table_saysJust_28 zf_Table_60 zc_4_0 (zi_3_0 hl0) ?_
      refine zx_iload G d_Table_saysJust_31 rfl ?_
      refine zx_iald G d_Table_saysJust_33 za_22 (zi_4_0 (zi_3_0 hl0)) h (fun h => ?_)
      refine zx_istore (lf := fun y => [_, _, _, _, _, _, some (.int y)]) G d_Table_saysJust_34 (Nat.le_of_ble_eq_true rfl) (fun _ => rfl) h (fun x7 h => ?_)
      refine zx_aload_n G d_Table_saysJust_36 rfl ?_
      refine zx_iload G d_Table_saysJust_37 rfl ?_
      refine zx_aload_n G d_Table_saysJust_39 rfl ?_
      refine zx_getR G d_Table_saysJust_40 zf_Table_14 zc_3_0 hl0 ?_
      refine zx_iload G d_Table_saysJust_43 rfl ?_
      refine zx_aload_n G d_Table_saysJust_45 rfl ?_
      obtain ⟨r9, μ8, hc, h⟩ := zbnd_of h
      refine zx_callVI (r := r9) (μ2 := μ8) G d_Table_saysJust_46 zm_Table_63 (fun l => t_Orders_amount (zi_3_0 hl0) hl2 hc) rfl rfl (Nat.le_of_ble_eq_true rfl) (Nat.le_of_ble_eq_true rfl) (zrecv zo_4 (zi_3_0 hl0)) ?_
      obtain ⟨r11, μ10, hc, h⟩ := zbnd_of h
      refine zx_callVI (r := r11) (μ2 := μ10) G d_Table_saysJust_49 zm_Table_67 (fun l => t_Value_obey hl3 hc) rfl rfl (Nat.le_of_ble_eq_true rfl) (Nat.le_of_ble_eq_true rfl) (zrecv zo_7 hl3) ?_
      refine zx_if_ne (tgt := 57) G d_Table_saysJust_52 rfl h (fun h => ?_) (fun h => ?_)
      · refine zx_iload G d_Table_saysJust_57 rfl ?_
        refine zx_bipush (v := 9) G d_Table_saysJust_59 rfl ?_
        refine zx_join (P := fun k => ∀ (y12 : Int32) (μ13 : ZMem), k y12 μ13 = some rr → zX g K_Table_saysJust 4 E (some (.int rr.1), rr.2) μ13 79 [some (.ref (g.2.1 3 o)), some (.ref (g.2.1 6 p0)), some (.ref (g.2.1 26 p1)), some (.ref (g.2.1 7 p2)), some (.int y12), some (.int z5), none] []) h (fun y12 μ13 h => ?_) (fun k14 hk14 h => ?_)
        · try dsimp only at h
          refine zx_iinc (v := 1) (lf := fun y => [_, _, _, _, _, some (.int y), none]) G d_Table_saysJust_79 (Nat.le_of_ble_eq_true rfl) rfl rfl (fun _ => rfl) h (fun x15 h => ?_)
          refine zx_goto (tgt := 12) G d_Table_saysJust_82 rfl ?_
          exact ih12 y12 x15 μ13 h
        try dsimp only at h
        refine zx_icmp_ne (tgt := 79) G d_Table_saysJust_61 rfl h (fun h => ?_) (fun h => ?_)
        · refine zx_weak [true, true, true, true, true, true, false] (lv2 := [_, _, _, _, _, _, none]) rfl ?_
          exact hk14 z4 μ10 h
        · refine zx_aload_n G d_Table_saysJust_64 rfl ?_
          refine zx_iload G d_Table_saysJust_65 rfl ?_
          refine zx_aload_n G d_Table_saysJust_67 rfl ?_
          obtain ⟨r17, μ16, hc, h⟩ := zbnd_of h
          refine zx_callVI (r := r17) (μ2 := μ16) G d_Table_saysJust_68 zm_Table_75 (fun l => t_Values_holds hl1 hl3 hc) rfl rfl (Nat.le_of_ble_eq_true rfl) (Nat.le_of_ble_eq_true rfl) (zrecv zo_6 hl1) ?_
          refine zx_if_ne (tgt := 76) G d_Table_saysJust_71 rfl h (fun h => ?_) (fun h => ?_)
          · refine zx_iinc (v := 1) (lf := fun y => [_, _, _, _, some (.int y), _, _]) G d_Table_saysJust_76 (Nat.le_of_ble_eq_true rfl) rfl rfl (fun _ => rfl) h (fun x18 h => ?_)
            refine zx_weak [true, true, true, true, true, true, false] (lv2 := [_, _, _, _, _, _, none]) rfl ?_
            exact hk14 x18 μ16 h
          · refine zx_iconst (v := 0) G d_Table_saysJust_74 rfl ?_
            exact zx_zretK G d_Table_saysJust_75 rfl (by decide) h
      · refine zx_iconst (v := 0) G d_Table_saysJust_55 rfl ?_
        exact zx_zretK G d_Table_saysJust_56 rfl (by decide) h
set_option maxHeartbeats 4000000 in
set_option maxRecDepth 20000 in
theorem tf_Table_saysJust_l12 {g : ZG} {E : ZE} {N n12 : Nat} {rr : Int32 × ZMem} {o : Nat} {p0 : Nat} {p1 : Nat} {p2 : Nat} {kx85 : Int32 → ZMem → Option (Int32 × ZMem)} {z4 : Int32} {z5 : Int32} {μ6 : ZMem} (G : zGa g K_Table_saysJust 4 E) (hl0 : (3, o) ∈ zids) (hl1 : (6, p0) ∈ zids) (hl2 : (26, p1) ∈ zids) (hl3 : (7, p2) ∈ zids) (h : f_Table_saysJust_l12 N o p0 p1 p2 kx85 n12 z4 z5 μ6 = some rr) (hkx85 : ∀ (w4 : Int32) (μ : ZMem), kx85 w4 μ = some rr → zX g K_Table_saysJust 4 E (some (.int rr.1), rr.2) μ 85 [none, some (.ref (g.2.1 6 p0)), none, none, some (.int w4), none, none] []) : zX g K_Table_saysJust 4 E (some (.int rr.1), rr.2) μ6 12 [some (.ref (g.2.1 3 o)), some (.ref (g.2.1 6 p0)), some (.ref (g.2.1 26 p1)), some (.ref (g.2.1 7 p2)), some (.int z4), some (.int z5), none] [] := tf_Table_saysJust_l12_0 G hl0 hl1 hl2 hl3 hkx85 n12 z4 z5 μ6 h
set_option maxHeartbeats 4000000 in
set_option maxRecDepth 20000 in
theorem t_Table_saysJust {g : ZG} {l : Launch} {N : Nat} {μ : ZMem} {o : Nat} {p0 : Nat} {p1 : Nat} {p2 : Nat} (ho : (3, o) ∈ zids) (hp0 : (6, p0) ∈ zids) (hp1 : (26, p1) ∈ zids) (hp2 : (7, p2) ∈ zids) {rr : Int32 × ZMem} (h : f_Table_saysJust N μ o p0 p1 p2 = some rr) : zT g l 4 K_Table_saysJust [.ref (g.2.1 3 o), .ref (g.2.1 6 p0), .ref (g.2.1 26 p1), .ref (g.2.1 7 p2)] μ (some (.int rr.1), rr.2) := by
  refine zT_of (by decide +kernel) (Nat.le_of_ble_eq_true rfl) (fun E G => ?_)
  show zX g K_Table_saysJust 4 E (some (.int rr.1), rr.2) μ 0 [some (.ref (g.2.1 3 o)), some (.ref (g.2.1 6 p0)), some (.ref (g.2.1 26 p1)), some (.ref (g.2.1 7 p2)), none, none, none] []
  unfold f_Table_saysJust at h
  refine zx_iconst (v := 0) G d_Table_saysJust_0 rfl ?_
  refine zx_istore (lf := fun y => [_, _, _, _, some (.int y), none, none]) G d_Table_saysJust_1 (Nat.le_of_ble_eq_true rfl) (fun _ => rfl) h (fun x1 h => ?_)
  refine zx_aload_n G d_Table_saysJust_3 rfl ?_
  refine zx_aload_n G d_Table_saysJust_4 rfl ?_
  refine zx_aload_n G d_Table_saysJust_5 rfl ?_
  obtain ⟨u9, μ2, hc, h⟩ := zbnd_of h
  refine zx_callVV  (μ2 := μ2) G d_Table_saysJust_6 zm_Table_56 (fun l => t_Table_begin ho hp2 hp1 hc) rfl rfl (Nat.le_of_ble_eq_true rfl) (Nat.le_of_ble_eq_true rfl) (zrecv zo_3 ho) ?_
  refine zx_iconst (v := 0) G d_Table_saysJust_9 rfl ?_
  refine zx_istore (lf := fun y => [_, _, _, _, _, some (.int y), none]) G d_Table_saysJust_10 (Nat.le_of_ble_eq_true rfl) (fun _ => rfl) h (fun x3 h => ?_)
  refine tf_Table_saysJust_l12 G ho hp0 hp1 hp2 h (fun x19 μ20 h => ?_)
  · try dsimp only at h
    refine zx_iload G d_Table_saysJust_85 rfl ?_
    refine zx_aload_n G d_Table_saysJust_87 rfl ?_
    refine zx_getI G d_Table_saysJust_88 zf_Table_81 zc_6_2 hp0 ?_
    refine zx_icmp_ne (tgt := 98) G d_Table_saysJust_91 rfl h (fun h => ?_) (fun h => ?_)
    · refine zx_iconst (v := 0) G d_Table_saysJust_98 rfl ?_
      exact zx_zretK G d_Table_saysJust_99 rfl (by decide) h
    · refine zx_iconst (v := 1) G d_Table_saysJust_94 rfl ?_
      refine zx_goto (tgt := 99) G d_Table_saysJust_95 rfl ?_
      exact zx_zretK G d_Table_saysJust_99 rfl (by decide) h
set_option maxHeartbeats 4000000 in
set_option maxRecDepth 20000 in
theorem t_Tally_note {g : ZG} {l : Launch} {N : Nat} {μ : ZMem} {p0 : Int32} {rr : Unit × ZMem} (h : f_Tally_note N μ p0 = some rr) : zT g l 1 K_Tally_note [.ref (g.2.1 8 0), .int p0] μ (none, rr.2) := by
  refine zT_of (by decide +kernel) (Nat.le_of_ble_eq_true rfl) (fun E G => ?_)
  show zX g K_Tally_note 1 E (none, rr.2) μ 0 [some (.ref (g.2.1 8 0)), some (.int p0), none, none] []
  unfold f_Tally_note at h
  refine zx_iload_n G d_Tally_note_0 rfl ?_
  obtain ⟨r2, μ1, hc, h⟩ := zbnd_of h
  refine zx_callSI (r := r2) (μ2 := μ1) G d_Tally_note_1 zm_Tally_28 (fun l => t_A_isNumber  hc) rfl rfl (Nat.le_of_ble_eq_true rfl) (Nat.le_of_ble_eq_true rfl) ?_
  refine zx_if_ne (tgt := 8) G d_Tally_note_4 rfl h (fun h => ?_) (fun h => ?_)
  · refine zx_aload_n G d_Tally_note_8 rfl ?_
    refine zx_aload_n G d_Tally_note_9 rfl ?_
    refine zx_getI G d_Tally_note_10 zf_Tally_21 zc_8_1 (zids_of 8 (Nat.le_of_ble_eq_true rfl) 0 (Nat.le_of_ble_eq_true rfl)) ?_
    refine zx_join (P := fun k => ∀ (y3 : Int32) (μ4 : ZMem), k y3 μ4 = some rr → zX g K_Tally_note 1 E (none, rr.2) μ4 28 [some (.ref (g.2.1 8 0)), some (.int p0), none, none] [.int y3, .ref (g.2.1 8 0)]) h (fun y3 μ4 h => ?_) (fun k5 hk5 h => ?_)
    · try dsimp only at h
      refine zx_putI G d_Tally_note_28 zq_Tally_32 zp_8_2 (zids_of 8 (Nat.le_of_ble_eq_true rfl) 0 (Nat.le_of_ble_eq_true rfl)) h (fun μ6 h => ?_)
      refine zx_aload_n G d_Tally_note_31 rfl ?_
      refine zx_aload_n G d_Tally_note_32 rfl ?_
      refine zx_getI G d_Tally_note_33 zf_Tally_21 zc_8_1 (zids_of 8 (Nat.le_of_ble_eq_true rfl) 0 (Nat.le_of_ble_eq_true rfl)) ?_
      refine zx_join (P := fun k => ∀ (y7 : Int32) (μ8 : ZMem), k y7 μ8 = some rr → zX g K_Tally_note 1 E (none, rr.2) μ8 51 [some (.ref (g.2.1 8 0)), some (.int p0), none, none] [.int y7, .ref (g.2.1 8 0)]) h (fun y7 μ8 h => ?_) (fun k9 hk9 h => ?_)
      · try dsimp only at h
        refine zx_putI G d_Tally_note_51 zq_Tally_41 zp_8_3 (zids_of 8 (Nat.le_of_ble_eq_true rfl) 0 (Nat.le_of_ble_eq_true rfl)) h (fun μ10 h => ?_)
        refine zx_aload_n G d_Tally_note_54 rfl ?_
        refine zx_dup G d_Tally_note_55 rfl ?_
        refine zx_getI G d_Tally_note_56 zf_Tally_21 zc_8_1 (zids_of 8 (Nat.le_of_ble_eq_true rfl) 0 (Nat.le_of_ble_eq_true rfl)) ?_
        refine zx_iconst (v := 1) G d_Tally_note_59 rfl ?_
        refine zx_iadd G d_Tally_note_60 ?_
        refine zx_putI G d_Tally_note_61 zq_Tally_21 zp_8_1 (zids_of 8 (Nat.le_of_ble_eq_true rfl) 0 (Nat.le_of_ble_eq_true rfl)) h (fun μ11 h => ?_)
        refine zx_lconst (v := 1) G d_Tally_note_64 rfl ?_
        refine zx_iload_n G d_Tally_note_65 rfl ?_
        refine zx_bipush (v := 63) G d_Tally_note_66 rfl ?_
        refine zx_iand G d_Tally_note_68 ?_
        refine zx_lshl G d_Tally_note_69 ?_
        refine zx_lstore_n (lf := fun y => [_, _, some (.long y), none]) G d_Tally_note_70 (Nat.le_of_ble_eq_true rfl) (fun _ => rfl) h (fun x12 h => ?_)
        refine zx_aload_n G d_Tally_note_71 rfl ?_
        refine zx_getR G d_Tally_note_72 zf_Tally_9 zc_8_0 (zids_of 8 (Nat.le_of_ble_eq_true rfl) 0 (Nat.le_of_ble_eq_true rfl)) ?_
        refine zx_iload_n G d_Tally_note_75 rfl ?_
        refine zx_bipush (v := 6) G d_Tally_note_76 rfl ?_
        refine zx_ishr G d_Tally_note_78 ?_
        refine zx_lald G d_Tally_note_79 za_30 (zi_8_0 (zids_of 8 (Nat.le_of_ble_eq_true rfl) 0 (Nat.le_of_ble_eq_true rfl))) h (fun h => ?_)
        refine zx_lload_n G d_Tally_note_80 rfl ?_
        refine zx_land G d_Tally_note_81 ?_
        refine zx_lconst (v := 0) G d_Tally_note_82 rfl ?_
        refine zx_lcmp G d_Tally_note_83 ?_
        refine zx_if_ne (tgt := 110) G d_Tally_note_84 rfl h (fun h => ?_) (fun h => ?_)
        · exact zx_vret G d_Tally_note_110 rfl h
        · refine zx_aload_n G d_Tally_note_87 rfl ?_
          refine zx_getR G d_Tally_note_88 zf_Tally_9 zc_8_0 (zids_of 8 (Nat.le_of_ble_eq_true rfl) 0 (Nat.le_of_ble_eq_true rfl)) ?_
          refine zx_iload_n G d_Tally_note_91 rfl ?_
          refine zx_bipush (v := 6) G d_Tally_note_92 rfl ?_
          refine zx_ishr G d_Tally_note_94 ?_
          refine zx_dup2_11 G d_Tally_note_95 rfl rfl ?_
          refine zx_lald G d_Tally_note_96 za_30 (zi_8_0 (zids_of 8 (Nat.le_of_ble_eq_true rfl) 0 (Nat.le_of_ble_eq_true rfl))) h (fun h => ?_)
          refine zx_lload_n G d_Tally_note_97 rfl ?_
          refine zx_lor G d_Tally_note_98 ?_
          refine zx_last G d_Tally_note_99 za_30 (zi_8_0 (zids_of 8 (Nat.le_of_ble_eq_true rfl) 0 (Nat.le_of_ble_eq_true rfl))) h (fun μ13 h => ?_)
          refine zx_aload_n G d_Tally_note_100 rfl ?_
          refine zx_dup G d_Tally_note_101 rfl ?_
          refine zx_getI G d_Tally_note_102 zf_Tally_25 zc_8_4 (zids_of 8 (Nat.le_of_ble_eq_true rfl) 0 (Nat.le_of_ble_eq_true rfl)) ?_
          refine zx_iconst (v := 1) G d_Tally_note_105 rfl ?_
          refine zx_iadd G d_Tally_note_106 ?_
          refine zx_putI G d_Tally_note_107 zq_Tally_25 zp_8_4 (zids_of 8 (Nat.le_of_ble_eq_true rfl) 0 (Nat.le_of_ble_eq_true rfl)) h (fun μ14 h => ?_)
          exact zx_vret G d_Tally_note_110 rfl h
      try dsimp only at h
      refine zx_if_ne (tgt := 43) G d_Tally_note_36 rfl h (fun h => ?_) (fun h => ?_)
      · refine zx_aload_n G d_Tally_note_43 rfl ?_
        refine zx_getI G d_Tally_note_44 zf_Tally_41 zc_8_3 (zids_of 8 (Nat.le_of_ble_eq_true rfl) 0 (Nat.le_of_ble_eq_true rfl)) ?_
        refine zx_iload_n G d_Tally_note_47 rfl ?_
        refine zx_mmax G d_Tally_note_48 zm_Tally_44 zMs_max zMi zMy_max (Nat.le_of_ble_eq_true rfl) (Nat.le_of_ble_eq_true rfl) ?_
        exact hk9 (zmaxI (μ6.1 8 0 3) p0) μ6 h
      · refine zx_iload_n G d_Tally_note_39 rfl ?_
        refine zx_goto (tgt := 51) G d_Tally_note_40 rfl ?_
        exact hk9 p0 μ6 h
    try dsimp only at h
    refine zx_if_ne (tgt := 20) G d_Tally_note_13 rfl h (fun h => ?_) (fun h => ?_)
    · refine zx_aload_n G d_Tally_note_20 rfl ?_
      refine zx_getI G d_Tally_note_21 zf_Tally_32 zc_8_2 (zids_of 8 (Nat.le_of_ble_eq_true rfl) 0 (Nat.le_of_ble_eq_true rfl)) ?_
      refine zx_iload_n G d_Tally_note_24 rfl ?_
      refine zx_mmin G d_Tally_note_25 zm_Tally_35 zMs_min zMi zMy_min (Nat.le_of_ble_eq_true rfl) (Nat.le_of_ble_eq_true rfl) ?_
      exact hk5 (zminI (μ1.1 8 0 2) p0) μ1 h
    · refine zx_iload_n G d_Tally_note_16 rfl ?_
      refine zx_goto (tgt := 28) G d_Tally_note_17 rfl ?_
      exact hk5 p0 μ1 h
  · exact zx_vret G d_Tally_note_7 rfl h
set_option maxHeartbeats 4000000 in
set_option maxRecDepth 20000 in
theorem t_Tally_pick {g : ZG} {l : Launch} {N : Nat} {μ : ZMem} {p0 : Int32} {rr : Int32 × ZMem} (h : f_Tally_pick N μ p0 = some rr) : zT g l 0 K_Tally_pick [.ref (g.2.1 8 0), .int p0] μ (some (.int rr.1), rr.2) := by
  refine zT_of (by decide +kernel) (Nat.le_of_ble_eq_true rfl) (fun E G => ?_)
  show zX g K_Tally_pick 0 E (some (.int rr.1), rr.2) μ 0 [some (.ref (g.2.1 8 0)), some (.int p0)] []
  unfold f_Tally_pick at h
  refine zx_aload_n G d_Tally_pick_0 rfl ?_
  refine zx_getI G d_Tally_pick_1 zf_Tally_21 zc_8_1 (zids_of 8 (Nat.le_of_ble_eq_true rfl) 0 (Nat.le_of_ble_eq_true rfl)) ?_
  refine zx_if_ne (tgt := 9) G d_Tally_pick_4 rfl h (fun h => ?_) (fun h => ?_)
  · refine zx_iload_n G d_Tally_pick_9 rfl ?_
    refine zx_if_ne (tgt := 20) G d_Tally_pick_10 rfl h (fun h => ?_) (fun h => ?_)
    · refine zx_iload_n G d_Tally_pick_20 rfl ?_
      refine zx_iconst (v := 1) G d_Tally_pick_21 rfl ?_
      refine zx_icmp_ne (tgt := 32) G d_Tally_pick_22 rfl h (fun h => ?_) (fun h => ?_)
      · refine zx_aload_n G d_Tally_pick_32 rfl ?_
        refine zx_getI G d_Tally_pick_33 zf_Tally_25 zc_8_4 (zids_of 8 (Nat.le_of_ble_eq_true rfl) 0 (Nat.le_of_ble_eq_true rfl)) ?_
        exact zx_iret G d_Tally_pick_36 rfl h
      · refine zx_aload_n G d_Tally_pick_25 rfl ?_
        refine zx_getI G d_Tally_pick_26 zf_Tally_41 zc_8_3 (zids_of 8 (Nat.le_of_ble_eq_true rfl) 0 (Nat.le_of_ble_eq_true rfl)) ?_
        refine zx_goto (tgt := 36) G d_Tally_pick_29 rfl ?_
        exact zx_iret G d_Tally_pick_36 rfl h
    · refine zx_aload_n G d_Tally_pick_13 rfl ?_
      refine zx_getI G d_Tally_pick_14 zf_Tally_32 zc_8_2 (zids_of 8 (Nat.le_of_ble_eq_true rfl) 0 (Nat.le_of_ble_eq_true rfl)) ?_
      refine zx_goto (tgt := 36) G d_Tally_pick_17 rfl ?_
      exact zx_iret G d_Tally_pick_36 rfl h
  · refine zx_iconst (v := -1) G d_Tally_pick_7 rfl ?_
    exact zx_iret G d_Tally_pick_8 rfl h
set_option maxHeartbeats 4000000 in
set_option maxRecDepth 20000 in
theorem tf_A_fits_l73_0 {g : ZG} {E : ZE} {N : Nat} {rr : Int32 × ZMem} {p1 : Int32} {p2 : Int32} {t2 : Nat} {x8 : Int64} {kx142 : ZMem → Option (Int32 × ZMem)} (G : zGa g K_A_fits 5 E) (hl0 : (0, 0) ∈ zids) (hl4 : (3, t2) ∈ zids) (hkx142 : ∀  (μ : ZMem), kx142 μ = some rr → zX g K_A_fits 5 E (some (.int rr.1), rr.2) μ 142 [some (.ref (g.2.1 0 0)), none, some (.int p1), some (.int p2), none, none, none, none] []) : ∀ (n73 : Nat) (z12 : Int32) (μ13 : ZMem), f_A_fits_l73 N p1 p2 t2 x8 kx142 n73 z12 μ13 = some rr → zX g K_A_fits 5 E (some (.int rr.1), rr.2) μ13 73 [some (.ref (g.2.1 0 0)), none, some (.int p1), some (.int p2), some (.ref (g.2.1 3 t2)), some (.long x8), none, some (.int z12)] [] := by
  intro n73
  induction n73 with
  | zero => intro z12 μ13 h; cases h
  | succ n73 ih73 =>
    intro z12 μ13 h
    simp only [f_A_fits_l73] at h
    refine zx_iload G d_A_fits_73 rfl ?_
    refine zx_i2l G d_A_fits_75 ?_
    refine zx_lload G d_A_fits_76 rfl ?_
    refine zx_lcmp G d_A_fits_78 ?_
    refine zx_if_ge (tgt := 142) G d_A_fits_79 rfl h (fun h => ?_) (fun h => ?_)
    · refine zx_weak [true, false, true, true, false, false, false, false] (lv2 := [_, none, _, _, none, none, none, none]) rfl ?_
      exact hkx142 μ13 h
    · refine zx_aload G d_A_fits_82 rfl ?_
      refine zx_aload_n G d_A_fits_84 rfl ?_
      refine zx_getR G d_A_fits_85 zf_A_35 zc_0_3 hl0 ?_
      refine zx_getR G d_A_fits_88 zf_A_209 zc_5_3 (zi_0_3 hl0) ?_
      refine zx_aload_n G d_A_fits_91 rfl ?_
      refine zx_getR G d_A_fits_92 zf_A_52 zc_0_7 hl0 ?_
      refine zx_aload_n G d_A_fits_95 rfl ?_
      refine zx_getR G d_A_fits_96 zf_A_45 zc_0_5 hl0 ?_
      obtain ⟨r15, μ14, hc, h⟩ := zbnd_of h
      refine zx_callVI (r := r15) (μ2 := μ14) G d_A_fits_99 zm_A_219 (fun l => t_Table_saysJust hl4 (zi_5_3 (zi_0_3 hl0)) (zi_0_7 hl0) (zi_0_5 hl0) hc) rfl rfl (Nat.le_of_ble_eq_true rfl) (Nat.le_of_ble_eq_true rfl) (zrecv zo_3 hl4) ?_
      refine zx_join (P := fun k => ∀ (μ16 : ZMem), k μ16 = some rr → zX g K_A_fits 5 E (some (.int rr.1), rr.2) μ16 127 [some (.ref (g.2.1 0 0)), none, some (.int p1), some (.int p2), some (.ref (g.2.1 3 t2)), some (.long x8), none, some (.int z12)] []) h (fun μ16 h => ?_) (fun k17 hk17 h => ?_)
      · try dsimp only at h
        refine zx_aload G d_A_fits_127 rfl ?_
        refine zx_aload_n G d_A_fits_129 rfl ?_
        refine zx_getR G d_A_fits_130 zf_A_52 zc_0_7 hl0 ?_
        obtain ⟨u9, μ18, hc, h⟩ := zbnd_of h
        refine zx_callVV  (μ2 := μ18) G d_A_fits_133 zm_A_226 (fun l => t_Table_nextOfAll hl4 (zi_0_7 hl0) hc) rfl rfl (Nat.le_of_ble_eq_true rfl) (Nat.le_of_ble_eq_true rfl) (zrecv zo_3 hl4) ?_
        refine zx_iinc (v := 1) (lf := fun y => [_, none, _, _, _, _, none, some (.int y)]) G d_A_fits_136 (Nat.le_of_ble_eq_true rfl) rfl rfl (fun _ => rfl) h (fun x19 h => ?_)
        refine zx_goto (tgt := 73) G d_A_fits_139 rfl ?_
        exact ih73 x19 μ18 h
      try dsimp only at h
      refine zx_if_eq (tgt := 127) G d_A_fits_102 rfl h (fun h => ?_) (fun h => ?_)
      · exact hk17 μ14 h
      · refine zx_aload_n G d_A_fits_105 rfl ?_
        refine zx_getR G d_A_fits_106 zf_A_59 zc_0_8 hl0 ?_
        refine zx_iload_n G d_A_fits_109 rfl ?_
        refine zx_iconst (v := -1) G d_A_fits_110 rfl ?_
        refine zx_join (P := fun k => ∀ (y20 : Int32) (μ21 : ZMem), k y20 μ21 = some rr → zX g K_A_fits 5 E (some (.int rr.1), rr.2) μ21 124 [some (.ref (g.2.1 0 0)), none, some (.int p1), some (.int p2), some (.ref (g.2.1 3 t2)), some (.long x8), none, some (.int z12)] [.int y20, .ref (g.2.1 8 0)]) h (fun y20 μ21 h => ?_) (fun k22 hk22 h => ?_)
        · try dsimp only at h
          obtain ⟨u9, μ23, hc, h⟩ := zbnd_of h
          refine zx_callVV  (μ2 := μ23) G d_A_fits_124 zm_A_223 (fun l => t_Tally_note  hc) rfl rfl (Nat.le_of_ble_eq_true rfl) (Nat.le_of_ble_eq_true rfl) (zrecv zo_8 (zi_0_8 hl0)) ?_
          exact hk17 μ23 h
        try dsimp only at h
        refine zx_icmp_ne (tgt := 118) G d_A_fits_111 rfl h (fun h => ?_) (fun h => ?_)
        · refine zx_aload_n G d_A_fits_118 rfl ?_
          refine zx_getR G d_A_fits_119 zf_A_52 zc_0_7 hl0 ?_
          refine zx_iload_n G d_A_fits_122 rfl ?_
          refine zx_iald G d_A_fits_123 za_26 (zi_0_7 hl0) h (fun h => ?_)
          exact hk22 (μ14.1 26 2 p1.toNatClampNeg) μ14 h
        · refine zx_iconst (v := 0) G d_A_fits_114 rfl ?_
          refine zx_goto (tgt := 124) G d_A_fits_115 rfl ?_
          exact hk22 (0 : Int32) μ14 h
set_option maxHeartbeats 4000000 in
set_option maxRecDepth 20000 in
theorem tf_A_fits_l73 {g : ZG} {E : ZE} {N n73 : Nat} {rr : Int32 × ZMem} {p1 : Int32} {p2 : Int32} {t2 : Nat} {x8 : Int64} {kx142 : ZMem → Option (Int32 × ZMem)} {z12 : Int32} {μ13 : ZMem} (G : zGa g K_A_fits 5 E) (hl0 : (0, 0) ∈ zids) (hl4 : (3, t2) ∈ zids) (h : f_A_fits_l73 N p1 p2 t2 x8 kx142 n73 z12 μ13 = some rr) (hkx142 : ∀  (μ : ZMem), kx142 μ = some rr → zX g K_A_fits 5 E (some (.int rr.1), rr.2) μ 142 [some (.ref (g.2.1 0 0)), none, some (.int p1), some (.int p2), none, none, none, none] []) : zX g K_A_fits 5 E (some (.int rr.1), rr.2) μ13 73 [some (.ref (g.2.1 0 0)), none, some (.int p1), some (.int p2), some (.ref (g.2.1 3 t2)), some (.long x8), none, some (.int z12)] [] := tf_A_fits_l73_0 G hl0 hl4 hkx142 n73 z12 μ13 h
set_option maxHeartbeats 4000000 in
set_option maxRecDepth 20000 in
theorem t_A_fits {g : ZG} {l : Launch} {N : Nat} {μ : ZMem} {p0 : Int32} {p1 : Int32} {p2 : Int32} {rr : Int32 × ZMem} (h : f_A_fits N μ p0 p1 p2 = some rr) : zT g l 5 K_A_fits [.ref (g.2.1 0 0), .int p0, .int p1, .int p2] μ (some (.int rr.1), rr.2) := by
  refine zT_of (by decide +kernel) (Nat.le_of_ble_eq_true rfl) (fun E G => ?_)
  show zX g K_A_fits 5 E (some (.int rr.1), rr.2) μ 0 [some (.ref (g.2.1 0 0)), some (.int p0), some (.int p1), some (.int p2), none, none, none, none] []
  unfold f_A_fits at h
  refine zx_aload_n G d_A_fits_0 rfl ?_
  refine zx_iload_n G d_A_fits_1 rfl ?_
  rcases zbrf_of h with ⟨μ1, hc, h⟩ | ⟨t2, μ1, hc, h⟩
  · refine zx_callVN (k := 3) (μ2 := μ1) G d_A_fits_2 zm_A_115 (fun l => t_A_find  hc) rfl rfl (Nat.le_of_ble_eq_true rfl) (Nat.le_of_ble_eq_true rfl) (zrecv zo_0 (zids_of 0 (Nat.le_of_ble_eq_true rfl) 0 (Nat.le_of_ble_eq_true rfl))) ?_
    refine zx_astoreN (lv2 := [_, _, _, _, _, none, none, none]) G d_A_fits_5 (Nat.le_of_ble_eq_true rfl) rfl ?_
    refine zx_aloadN G d_A_fits_7 rfl ?_
    refine zx_ifnullN (tgt := 33) G d_A_fits_9 rfl ?_
    refine zx_iconst (v := -1) G d_A_fits_33 rfl ?_
    exact zx_iret G d_A_fits_34 rfl h
  · obtain ⟨hz3, h⟩ := zchk_of h
    refine zx_callVP (k := 3) (r := t2) (μ2 := μ1) G d_A_fits_2 zm_A_115 (fun l => t_A_find  hc) rfl rfl (Nat.le_of_ble_eq_true rfl) (Nat.le_of_ble_eq_true rfl) (zrecv zo_0 (zids_of 0 (Nat.le_of_ble_eq_true rfl) 0 (Nat.le_of_ble_eq_true rfl))) ?_
    refine zx_astore (lv2 := [_, _, _, _, _, none, none, none]) G d_A_fits_5 (Nat.le_of_ble_eq_true rfl) rfl ?_
    refine zx_aload G d_A_fits_7 rfl ?_
    refine zx_ifnull G d_A_fits_9 ?_
    refine zx_iload_n G d_A_fits_12 rfl ?_
    refine zx_iconst (v := -1) G d_A_fits_13 rfl ?_
    refine zx_join (P := fun k => ∀ (μ4 : ZMem), k μ4 = some rr → zX g K_A_fits 5 E (some (.int rr.1), rr.2) μ4 35 [some (.ref (g.2.1 0 0)), none, some (.int p1), some (.int p2), some (.ref (g.2.1 3 t2)), none, none, none] []) h (fun μ4 h => ?_) (fun k5 hk5 h => ?_)
    · try dsimp only at h
      refine zx_aload G d_A_fits_35 rfl ?_
      obtain ⟨r7, μ6, hc, h⟩ := zbnd_of h
      refine zx_callVJ (r := r7) (μ2 := μ6) G d_A_fits_37 zm_A_189 (fun l => t_Table_countAll (zidt hz3) hc) rfl rfl (Nat.le_of_ble_eq_true rfl) (Nat.le_of_ble_eq_true rfl) (zrecv zo_3 (zidt hz3)) ?_
      refine zx_lstore (lf := fun y => [_, none, _, _, _, some (.long y), none, none]) G d_A_fits_40 (Nat.le_of_ble_eq_true rfl) (fun _ => rfl) h (fun x8 h => ?_)
      refine zx_lload G d_A_fits_42 rfl ?_
      refine zx_ldc2 (v := 20000) G d_A_fits_44 zk_A_193 ?_
      refine zx_lcmp G d_A_fits_47 ?_
      refine zx_if_le (tgt := 54) G d_A_fits_48 rfl h (fun h => ?_) (fun h => ?_)
      · refine zx_aload_n G d_A_fits_54 rfl ?_
        refine zx_getR G d_A_fits_55 zf_A_59 zc_0_8 (zids_of 0 (Nat.le_of_ble_eq_true rfl) 0 (Nat.le_of_ble_eq_true rfl)) ?_
        obtain ⟨u9, μ9, hc, h⟩ := zbnd_of h
        refine zx_callVV  (μ2 := μ9) G d_A_fits_58 zm_A_212 (fun l => t_Tally_clear  hc) rfl rfl (Nat.le_of_ble_eq_true rfl) (Nat.le_of_ble_eq_true rfl) (zrecv zo_8 (zi_0_8 (zids_of 0 (Nat.le_of_ble_eq_true rfl) 0 (Nat.le_of_ble_eq_true rfl)))) ?_
        refine zx_aload G d_A_fits_61 rfl ?_
        refine zx_aload_n G d_A_fits_63 rfl ?_
        refine zx_getR G d_A_fits_64 zf_A_52 zc_0_7 (zids_of 0 (Nat.le_of_ble_eq_true rfl) 0 (Nat.le_of_ble_eq_true rfl)) ?_
        obtain ⟨u9, μ10, hc, h⟩ := zbnd_of h
        refine zx_callVV  (μ2 := μ10) G d_A_fits_67 zm_A_215 (fun l => t_Table_firstOfAll (zidt hz3) (zi_0_7 (zids_of 0 (Nat.le_of_ble_eq_true rfl) 0 (Nat.le_of_ble_eq_true rfl))) hc) rfl rfl (Nat.le_of_ble_eq_true rfl) (Nat.le_of_ble_eq_true rfl) (zrecv zo_3 (zidt hz3)) ?_
        refine zx_iconst (v := 0) G d_A_fits_70 rfl ?_
        refine zx_istore (lf := fun y => [_, none, _, _, _, _, none, some (.int y)]) G d_A_fits_71 (Nat.le_of_ble_eq_true rfl) (fun _ => rfl) h (fun x11 h => ?_)
        refine tf_A_fits_l73 G (zids_of 0 (Nat.le_of_ble_eq_true rfl) 0 (Nat.le_of_ble_eq_true rfl)) (zidt hz3) h (fun μ24 h => ?_)
        · try dsimp only at h
          refine zx_iload_n G d_A_fits_142 rfl ?_
          refine zx_iconst (v := -1) G d_A_fits_143 rfl ?_
          refine zx_icmp_ne (tgt := 157) G d_A_fits_144 rfl h (fun h => ?_) (fun h => ?_)
          · refine zx_aload_n G d_A_fits_157 rfl ?_
            refine zx_getR G d_A_fits_158 zf_A_59 zc_0_8 (zids_of 0 (Nat.le_of_ble_eq_true rfl) 0 (Nat.le_of_ble_eq_true rfl)) ?_
            refine zx_iload_n G d_A_fits_161 rfl ?_
            obtain ⟨r26, μ25, hc, h⟩ := zbnd_of h
            refine zx_callVI (r := r26) (μ2 := μ25) G d_A_fits_162 zm_A_230 (fun l => t_Tally_pick  hc) rfl rfl (Nat.le_of_ble_eq_true rfl) (Nat.le_of_ble_eq_true rfl) (zrecv zo_8 (zi_0_8 (zids_of 0 (Nat.le_of_ble_eq_true rfl) 0 (Nat.le_of_ble_eq_true rfl)))) ?_
            exact zx_iret G d_A_fits_165 rfl h
          · refine zx_aload_n G d_A_fits_147 rfl ?_
            refine zx_getR G d_A_fits_148 zf_A_59 zc_0_8 (zids_of 0 (Nat.le_of_ble_eq_true rfl) 0 (Nat.le_of_ble_eq_true rfl)) ?_
            refine zx_getI G d_A_fits_151 zf_A_229 zc_8_1 (zi_0_8 (zids_of 0 (Nat.le_of_ble_eq_true rfl) 0 (Nat.le_of_ble_eq_true rfl))) ?_
            refine zx_goto (tgt := 165) G d_A_fits_154 rfl ?_
            exact zx_iret G d_A_fits_165 rfl h
      · refine zx_bipush (v := -2) G d_A_fits_51 rfl ?_
        exact zx_iret G d_A_fits_53 rfl h
    try dsimp only at h
    refine zx_icmp_eq (tgt := 35) G d_A_fits_14 rfl h (fun h => ?_) (fun h => ?_)
    · refine zx_weak [true, false, true, true, true, false, false, false] (lv2 := [_, none, _, _, _, none, none, none]) rfl ?_
      exact hk5 μ1 h
    · refine zx_iload_n G d_A_fits_17 rfl ?_
      obtain ⟨r28, μ27, hc, h⟩ := zbnd_of h
      refine zx_callSI (r := r28) (μ2 := μ27) G d_A_fits_18 zm_A_137 (fun l => t_A_isLetter  hc) rfl rfl (Nat.le_of_ble_eq_true rfl) (Nat.le_of_ble_eq_true rfl) ?_
      refine zx_if_eq (tgt := 33) G d_A_fits_21 rfl h (fun h => ?_) (fun h => ?_)
      · refine zx_iconst (v := -1) G d_A_fits_33 rfl ?_
        exact zx_iret G d_A_fits_34 rfl h
      · refine zx_iload_n G d_A_fits_24 rfl ?_
        refine zx_if_lt (tgt := 33) G d_A_fits_25 rfl h (fun h => ?_) (fun h => ?_)
        · refine zx_iconst (v := -1) G d_A_fits_33 rfl ?_
          exact zx_iret G d_A_fits_34 rfl h
        · refine zx_iload_n G d_A_fits_28 rfl ?_
          refine zx_iconst (v := 2) G d_A_fits_29 rfl ?_
          refine zx_icmp_le (tgt := 35) G d_A_fits_30 rfl h (fun h => ?_) (fun h => ?_)
          · refine zx_weak [true, false, true, true, true, false, false, false] (lv2 := [_, none, _, _, _, none, none, none]) rfl ?_
            exact hk5 μ27 h
          · refine zx_iconst (v := -1) G d_A_fits_33 rfl ?_
            exact zx_iret G d_A_fits_34 rfl h
set_option maxHeartbeats 4000000 in
set_option maxRecDepth 20000 in
theorem tf_Parting_startAll_l8_0 {g : ZG} {E : ZE} {N : Nat} {rr : Unit × ZMem} {p0 : Nat} {p1 : Nat} {p2 : Nat} (G : zGa g K_Parting_startAll 3 E) (hl0 : (10, 0) ∈ zids) (hl1 : (3, p0) ∈ zids) (hl2 : (26, p1) ∈ zids) (hl3 : (7, p2) ∈ zids) : ∀ (n8 : Nat) (z3 : Int32) (μ4 : ZMem), f_Parting_startAll_l8 N p0 p1 p2 n8 z3 μ4 = some rr → zX g K_Parting_startAll 3 E (none, rr.2) μ4 8 [some (.ref (g.2.1 10 0)), some (.ref (g.2.1 3 p0)), some (.ref (g.2.1 26 p1)), some (.ref (g.2.1 7 p2)), some (.int z3)] [] := by
  intro n8
  induction n8 with
  | zero => intro z3 μ4 h; cases h
  | succ n8 ih8 =>
    intro z3 μ4 h
    simp only [f_Parting_startAll_l8] at h
    refine zx_iload G d_Parting_startAll_8 rfl ?_
    refine zx_aload_n G d_Parting_startAll_10 rfl ?_
    refine zx_getI G d_Parting_startAll_11 zf_Parting_34 zc_10_5 hl0 ?_
    refine zx_icmp_ge (tgt := 71) G d_Parting_startAll_14 rfl h (fun h => ?_) (fun h => ?_)
    · exact zx_vret G d_Parting_startAll_71 rfl h
    · refine zx_aload_n G d_Parting_startAll_17 rfl ?_
      refine zx_aload_n G d_Parting_startAll_18 rfl ?_
      refine zx_aload_n G d_Parting_startAll_19 rfl ?_
      obtain ⟨u9, μ5, hc, h⟩ := zbnd_of h
      refine zx_callVV  (μ2 := μ5) G d_Parting_startAll_20 zm_Parting_84 (fun l => t_Table_begin hl1 hl3 hl2 hc) rfl rfl (Nat.le_of_ble_eq_true rfl) (Nat.le_of_ble_eq_true rfl) (zrecv zo_3 hl1) ?_
      refine zx_aload_n G d_Parting_startAll_23 rfl ?_
      refine zx_getR G d_Parting_startAll_24 zf_Parting_9 zc_10_0 hl0 ?_
      refine zx_iload G d_Parting_startAll_27 rfl ?_
      refine zx_aload_n G d_Parting_startAll_29 rfl ?_
      refine zx_getJ G d_Parting_startAll_30 zf_Parting_88 zc_7_0 hl3 ?_
      refine zx_last G d_Parting_startAll_33 za_32 (zi_10_0 hl0) h (fun μ6 h => ?_)
      refine zx_aload_n G d_Parting_startAll_34 rfl ?_
      refine zx_getR G d_Parting_startAll_35 zf_Parting_15 zc_10_1 hl0 ?_
      refine zx_iload G d_Parting_startAll_38 rfl ?_
      refine zx_aload_n G d_Parting_startAll_40 rfl ?_
      refine zx_getR G d_Parting_startAll_41 zf_Parting_18 zc_10_2 hl0 ?_
      refine zx_iload G d_Parting_startAll_44 rfl ?_
      refine zx_iald G d_Parting_startAll_46 za_34 (zi_10_2 hl0) h (fun h => ?_)
      refine zx_iconst (v := -1) G d_Parting_startAll_47 rfl ?_
      refine zx_join (P := fun k => ∀ (y7 : Int64) (μ8 : ZMem), k y7 μ8 = some rr → zX g K_Parting_startAll 3 E (none, rr.2) μ8 59 [some (.ref (g.2.1 10 0)), some (.ref (g.2.1 3 p0)), some (.ref (g.2.1 26 p1)), some (.ref (g.2.1 7 p2)), some (.int z3)] [.long y7, .int z3, .ref (g.2.1 33 0)]) h (fun y7 μ8 h => ?_) (fun k9 hk9 h => ?_)
      · try dsimp only at h
        refine zx_last G d_Parting_startAll_59 za_33 (zi_10_1 hl0) h (fun μ10 h => ?_)
        refine zx_aload_n G d_Parting_startAll_60 rfl ?_
        refine zx_aload_n G d_Parting_startAll_61 rfl ?_
        obtain ⟨u9, μ11, hc, h⟩ := zbnd_of h
        refine zx_callVV  (μ2 := μ11) G d_Parting_startAll_62 zm_Parting_97 (fun l => t_Table_nextOfAll hl1 hl2 hc) rfl rfl (Nat.le_of_ble_eq_true rfl) (Nat.le_of_ble_eq_true rfl) (zrecv zo_3 hl1) ?_
        refine zx_iinc (v := 1) (lf := fun y => [_, _, _, _, some (.int y)]) G d_Parting_startAll_65 (Nat.le_of_ble_eq_true rfl) rfl rfl (fun _ => rfl) h (fun x12 h => ?_)
        refine zx_goto (tgt := 8) G d_Parting_startAll_68 rfl ?_
        exact ih8 x12 μ11 h
      try dsimp only at h
      refine zx_icmp_ne (tgt := 55) G d_Parting_startAll_48 rfl h (fun h => ?_) (fun h => ?_)
      · refine zx_aload_n G d_Parting_startAll_55 rfl ?_
        refine zx_getJ G d_Parting_startAll_56 zf_Parting_94 zc_7_1 hl3 ?_
        exact hk9 (μ6.2 7 p2 1) μ6 h
      · refine zx_lconst (v := 0) G d_Parting_startAll_51 rfl ?_
        refine zx_goto (tgt := 59) G d_Parting_startAll_52 rfl ?_
        exact hk9 (0 : Int64) μ6 h
set_option maxHeartbeats 4000000 in
set_option maxRecDepth 20000 in
theorem tf_Parting_startAll_l8 {g : ZG} {E : ZE} {N n8 : Nat} {rr : Unit × ZMem} {p0 : Nat} {p1 : Nat} {p2 : Nat} {z3 : Int32} {μ4 : ZMem} (G : zGa g K_Parting_startAll 3 E) (hl0 : (10, 0) ∈ zids) (hl1 : (3, p0) ∈ zids) (hl2 : (26, p1) ∈ zids) (hl3 : (7, p2) ∈ zids) (h : f_Parting_startAll_l8 N p0 p1 p2 n8 z3 μ4 = some rr) : zX g K_Parting_startAll 3 E (none, rr.2) μ4 8 [some (.ref (g.2.1 10 0)), some (.ref (g.2.1 3 p0)), some (.ref (g.2.1 26 p1)), some (.ref (g.2.1 7 p2)), some (.int z3)] [] := tf_Parting_startAll_l8_0 G hl0 hl1 hl2 hl3 n8 z3 μ4 h
set_option maxHeartbeats 4000000 in
set_option maxRecDepth 20000 in
theorem t_Parting_startAll {g : ZG} {l : Launch} {N : Nat} {μ : ZMem} {p0 : Nat} {p1 : Nat} {p2 : Nat} (hp0 : (3, p0) ∈ zids) (hp1 : (26, p1) ∈ zids) (hp2 : (7, p2) ∈ zids) {rr : Unit × ZMem} (h : f_Parting_startAll N μ p0 p1 p2 = some rr) : zT g l 3 K_Parting_startAll [.ref (g.2.1 10 0), .ref (g.2.1 3 p0), .ref (g.2.1 26 p1), .ref (g.2.1 7 p2)] μ (none, rr.2) := by
  refine zT_of (by decide +kernel) (Nat.le_of_ble_eq_true rfl) (fun E G => ?_)
  show zX g K_Parting_startAll 3 E (none, rr.2) μ 0 [some (.ref (g.2.1 10 0)), some (.ref (g.2.1 3 p0)), some (.ref (g.2.1 26 p1)), some (.ref (g.2.1 7 p2)), none] []
  unfold f_Parting_startAll at h
  refine zx_aload_n G d_Parting_startAll_0 rfl ?_
  refine zx_aload_n G d_Parting_startAll_1 rfl ?_
  obtain ⟨u9, μ1, hc, h⟩ := zbnd_of h
  refine zx_callVV  (μ2 := μ1) G d_Parting_startAll_2 zm_Parting_80 (fun l => t_Table_firstOfAll hp0 hp1 hc) rfl rfl (Nat.le_of_ble_eq_true rfl) (Nat.le_of_ble_eq_true rfl) (zrecv zo_3 hp0) ?_
  refine zx_iconst (v := 0) G d_Parting_startAll_5 rfl ?_
  refine zx_istore (lf := fun y => [_, _, _, _, some (.int y)]) G d_Parting_startAll_6 (Nat.le_of_ble_eq_true rfl) (fun _ => rfl) h (fun x2 h => ?_)
  refine tf_Parting_startAll_l8 G (zids_of 10 (Nat.le_of_ble_eq_true rfl) 0 (Nat.le_of_ble_eq_true rfl)) hp0 hp1 hp2 h
