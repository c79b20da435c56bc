/-! contracts: each method does what its function says (by program: wip/whole/gen.py) -/
set_option maxHeartbeats 4000000 in
set_option maxRecDepth 20000 in
theorem tf_M_turned_l5_0 {g : ZG} {E : ZE} {N : Nat} {rr : Int64 × ZMem} (G : zGa g K_M_turned 0 E) : ∀ (n5 : Nat) (z3 : Int64) (z4 : Int64) (μ5 : ZMem), f_M_turned_l5 N n5 z3 z4 μ5 = some rr → zX g K_M_turned 0 E (some (.long rr.1), rr.2) μ5 5 [none, none, some (.long z3), none, some (.long z4), none] [] := by
  intro n5
  induction n5 with
  | zero => intro z3 z4 μ5 h; cases h
  | succ n5 ih5 =>
    intro z3 z4 μ5 h
    simp only [f_M_turned_l5] at h
    refine zx_lload G d_M_turned_5 rfl ?_
    refine zx_lconst (v := 0) G d_M_turned_7 rfl ?_
    refine zx_lcmp G d_M_turned_8 ?_
    refine zx_if_le (tgt := 36) G d_M_turned_9 rfl h (fun h => ?_) (fun h => ?_)
    · refine zx_lload_n G d_M_turned_36 rfl ?_
      exact zx_lret G d_M_turned_37 rfl h
    · refine zx_ldc2 (v := 10) G d_M_turned_12 zk_M_202 ?_
      refine zx_lload_n G d_M_turned_15 rfl ?_
      refine zx_lmul G d_M_turned_16 ?_
      refine zx_lload G d_M_turned_17 rfl ?_
      refine zx_ldc2 (v := 10) G d_M_turned_19 zk_M_202 ?_
      refine zx_lrem G d_M_turned_22 h (fun h => ?_)
      refine zx_ladd G d_M_turned_23 ?_
      refine zx_lstore_n (lf := fun y => [none, none, some (.long y), none, _, none]) G d_M_turned_24 (Nat.le_of_ble_eq_true rfl) (fun _ => rfl) h (fun x6 h => ?_)
      refine zx_lload G d_M_turned_25 rfl ?_
      refine zx_ldc2 (v := 10) G d_M_turned_27 zk_M_202 ?_
      refine zx_ldiv G d_M_turned_30 h (fun h => ?_)
      refine zx_lstore (lf := fun y => [none, none, _, none, some (.long y), none]) G d_M_turned_31 (Nat.le_of_ble_eq_true rfl) (fun _ => rfl) h (fun x7 h => ?_)
      refine zx_goto (tgt := 5) G d_M_turned_33 rfl ?_
      exact ih5 x6 x7 μ5 h
set_option maxHeartbeats 4000000 in
set_option maxRecDepth 20000 in
theorem tf_M_turned_l5 {g : ZG} {E : ZE} {N n5 : Nat} {rr : Int64 × ZMem} {z3 : Int64} {z4 : Int64} {μ5 : ZMem} (G : zGa g K_M_turned 0 E) (h : f_M_turned_l5 N n5 z3 z4 μ5 = some rr) : zX g K_M_turned 0 E (some (.long rr.1), rr.2) μ5 5 [none, none, some (.long z3), none, some (.long z4), none] [] := tf_M_turned_l5_0 G n5 z3 z4 μ5 h
set_option maxHeartbeats 4000000 in
set_option maxRecDepth 20000 in
theorem t_M_turned {g : ZG} {l : Launch} {N : Nat} {μ : ZMem} {p0 : Int64} {rr : Int64 × ZMem} (h : f_M_turned N μ p0 = some rr) : zT g l 0 K_M_turned [.long p0] μ (some (.long rr.1), rr.2) := by
  refine zT_of (by decide +kernel) (Nat.le_of_ble_eq_true rfl) (fun E G => ?_)
  show zX g K_M_turned 0 E (some (.long rr.1), rr.2) μ 0 [some (.long p0), none, none, none, none, none] []
  unfold f_M_turned at h
  refine zx_lconst (v := 0) G d_M_turned_0 rfl ?_
  refine zx_lstore_n (lf := fun y => [_, none, some (.long y), none, none, none]) G d_M_turned_1 (Nat.le_of_ble_eq_true rfl) (fun _ => rfl) h (fun x1 h => ?_)
  refine zx_lload_n G d_M_turned_2 rfl ?_
  refine zx_lstore (lf := fun y => [_, none, _, none, some (.long y), none]) G d_M_turned_3 (Nat.le_of_ble_eq_true rfl) (fun _ => rfl) h (fun x2 h => ?_)
  refine zx_weak [false, false, true, false, true, false] (lv2 := [none, none, _, none, _, none]) rfl ?_
  refine tf_M_turned_l5 G h
set_option maxHeartbeats 4000000 in
set_option maxRecDepth 20000 in
theorem tf_M_across_l5_0 {g : ZG} {E : ZE} {N : Nat} {rr : Int64 × ZMem} (G : zGa g K_M_across 0 E) : ∀ (n5 : Nat) (z3 : Int64) (z4 : Int64) (μ5 : ZMem), f_M_across_l5 N n5 z3 z4 μ5 = some rr → zX g K_M_across 0 E (some (.long rr.1), rr.2) μ5 5 [none, none, some (.long z3), none, some (.long z4), none] [] := by
  intro n5
  induction n5 with
  | zero => intro z3 z4 μ5 h; cases h
  | succ n5 ih5 =>
    intro z3 z4 μ5 h
    simp only [f_M_across_l5] at h
    refine zx_lload G d_M_across_5 rfl ?_
    refine zx_lconst (v := 0) G d_M_across_7 rfl ?_
    refine zx_lcmp G d_M_across_8 ?_
    refine zx_if_le (tgt := 32) G d_M_across_9 rfl h (fun h => ?_) (fun h => ?_)
    · refine zx_lload_n G d_M_across_32 rfl ?_
      exact zx_lret G d_M_across_33 rfl h
    · refine zx_lload_n G d_M_across_12 rfl ?_
      refine zx_lload G d_M_across_13 rfl ?_
      refine zx_ldc2 (v := 10) G d_M_across_15 zk_M_202 ?_
      refine zx_lrem G d_M_across_18 h (fun h => ?_)
      refine zx_ladd G d_M_across_19 ?_
      refine zx_lstore_n (lf := fun y => [none, none, some (.long y), none, _, none]) G d_M_across_20 (Nat.le_of_ble_eq_true rfl) (fun _ => rfl) h (fun x6 h => ?_)
      refine zx_lload G d_M_across_21 rfl ?_
      refine zx_ldc2 (v := 10) G d_M_across_23 zk_M_202 ?_
      refine zx_ldiv G d_M_across_26 h (fun h => ?_)
      refine zx_lstore (lf := fun y => [none, none, _, none, some (.long y), none]) G d_M_across_27 (Nat.le_of_ble_eq_true rfl) (fun _ => rfl) h (fun x7 h => ?_)
      refine zx_goto (tgt := 5) G d_M_across_29 rfl ?_
      exact ih5 x6 x7 μ5 h
set_option maxHeartbeats 4000000 in
set_option maxRecDepth 20000 in
theorem tf_M_across_l5 {g : ZG} {E : ZE} {N n5 : Nat} {rr : Int64 × ZMem} {z3 : Int64} {z4 : Int64} {μ5 : ZMem} (G : zGa g K_M_across 0 E) (h : f_M_across_l5 N n5 z3 z4 μ5 = some rr) : zX g K_M_across 0 E (some (.long rr.1), rr.2) μ5 5 [none, none, some (.long z3), none, some (.long z4), none] [] := tf_M_across_l5_0 G n5 z3 z4 μ5 h
set_option maxHeartbeats 4000000 in
set_option maxRecDepth 20000 in
theorem t_M_across {g : ZG} {l : Launch} {N : Nat} {μ : ZMem} {p0 : Int64} {rr : Int64 × ZMem} (h : f_M_across N μ p0 = some rr) : zT g l 0 K_M_across [.long p0] μ (some (.long rr.1), rr.2) := by
  refine zT_of (by decide +kernel) (Nat.le_of_ble_eq_true rfl) (fun E G => ?_)
  show zX g K_M_across 0 E (some (.long rr.1), rr.2) μ 0 [some (.long p0), none, none, none, none, none] []
  unfold f_M_across at h
  refine zx_lconst (v := 0) G d_M_across_0 rfl ?_
  refine zx_lstore_n (lf := fun y => [_, none, some (.long y), none, none, none]) G d_M_across_1 (Nat.le_of_ble_eq_true rfl) (fun _ => rfl) h (fun x1 h => ?_)
  refine zx_lload_n G d_M_across_2 rfl ?_
  refine zx_lstore (lf := fun y => [_, none, _, none, some (.long y), none]) G d_M_across_3 (Nat.le_of_ble_eq_true rfl) (fun _ => rfl) h (fun x2 h => ?_)
  refine zx_weak [false, false, true, false, true, false] (lv2 := [none, none, _, none, _, none]) rfl ?_
  refine tf_M_across_l5 G h
set_option maxHeartbeats 4000000 in
set_option maxRecDepth 20000 in
theorem t_M_figures {g : ZG} {l : Launch} {N : Nat} {μ : ZMem} {p0 : Int32} {p1 : Int64} {rr : Int32 × ZMem} (h : f_M_figures N μ p0 p1 = some rr) : zT g l 2 K_M_figures [.ref (g.2.1 12 0), .int p0, .long p1] μ (some (.int rr.1), rr.2) := by
  refine zT_of (by decide +kernel) (Nat.le_of_ble_eq_true rfl) (fun E G => ?_)
  show zX g K_M_figures 2 E (some (.int rr.1), rr.2) μ 0 [some (.ref (g.2.1 12 0)), some (.int p0), some (.long p1), none, none, none, none] []
  unfold f_M_figures at h
  refine zx_aload_n G d_M_figures_0 rfl ?_
  refine zx_getJ G d_M_figures_1 zf_M_199 zc_12_16 (zids_of 12 (Nat.le_of_ble_eq_true rfl) 0 (Nat.le_of_ble_eq_true rfl)) ?_
  refine zx_lconst (v := 1) G d_M_figures_4 rfl ?_
  refine zx_lcmp G d_M_figures_5 ?_
  refine zx_if_ne (tgt := 18) G d_M_figures_6 rfl h (fun h => ?_) (fun h => ?_)
  · refine zx_iconst (v := 0) G d_M_figures_18 rfl ?_
    exact zx_zretK G d_M_figures_19 rfl (by decide) h
  · refine zx_aload_n G d_M_figures_9 rfl ?_
    refine zx_getJ G d_M_figures_10 zf_M_196 zc_12_15 (zids_of 12 (Nat.le_of_ble_eq_true rfl) 0 (Nat.le_of_ble_eq_true rfl)) ?_
    refine zx_lconst (v := 0) G d_M_figures_13 rfl ?_
    refine zx_lcmp G d_M_figures_14 ?_
    refine zx_if_ge (tgt := 20) G d_M_figures_15 rfl h (fun h => ?_) (fun h => ?_)
    · refine zx_iload_n G d_M_figures_20 rfl ?_
      refine zx_if h (fun c1 h => ?_) (fun c1 h => ?_)
      · refine zx_sw (tgt := 52) G d_M_figures_21 c1 (by decide) (by decide) rfl rfl ?_
        refine zx_lload_n G d_M_figures_52 rfl ?_
        refine zx_lconst (v := 0) G d_M_figures_53 rfl ?_
        refine zx_lcmp G d_M_figures_54 ?_
        refine zx_if_le (tgt := 76) G d_M_figures_55 rfl h (fun h => ?_) (fun h => ?_)
        · refine zx_iconst (v := 0) G d_M_figures_76 rfl ?_
          exact zx_zretK G d_M_figures_77 rfl (by decide) h
        · refine zx_aload_n G d_M_figures_58 rfl ?_
          refine zx_aload_n G d_M_figures_59 rfl ?_
          refine zx_getJ G d_M_figures_60 zf_M_196 zc_12_15 (zids_of 12 (Nat.le_of_ble_eq_true rfl) 0 (Nat.le_of_ble_eq_true rfl)) ?_
          refine zx_lload_n G d_M_figures_63 rfl ?_
          refine zx_lrem G d_M_figures_64 h (fun h => ?_)
          refine zx_lconst (v := 1) G d_M_figures_65 rfl ?_
          obtain ⟨r3, μ2, hc, h⟩ := zbnd_of h
          refine zx_callVI (r := r3) (μ2 := μ2) G d_M_figures_66 zm_M_204 (fun l => t_M_lay  hc) rfl rfl (Nat.le_of_ble_eq_true rfl) (Nat.le_of_ble_eq_true rfl) (zrecv zo_12 (zids_of 12 (Nat.le_of_ble_eq_true rfl) 0 (Nat.le_of_ble_eq_true rfl))) ?_
          refine zx_if_eq (tgt := 76) G d_M_figures_69 rfl h (fun h => ?_) (fun h => ?_)
          · refine zx_iconst (v := 0) G d_M_figures_76 rfl ?_
            exact zx_zretK G d_M_figures_77 rfl (by decide) h
          · refine zx_iconst (v := 1) G d_M_figures_72 rfl ?_
            refine zx_goto (tgt := 77) G d_M_figures_73 rfl ?_
            exact zx_zretK G d_M_figures_77 rfl (by decide) h
      · skip
        refine zx_if h (fun c4 h => ?_) (fun c4 h => ?_)
        · refine zx_sw (tgt := 78) G d_M_figures_21 c4 (by decide) (by decide) rfl rfl ?_
          refine zx_aload_n G d_M_figures_78 rfl ?_
          refine zx_aload_n G d_M_figures_79 rfl ?_
          refine zx_getJ G d_M_figures_80 zf_M_196 zc_12_15 (zids_of 12 (Nat.le_of_ble_eq_true rfl) 0 (Nat.le_of_ble_eq_true rfl)) ?_
          refine zx_lload_n G d_M_figures_83 rfl ?_
          obtain ⟨r6, μ5, hc, h⟩ := zbnd_of h
          refine zx_callSI (r := r6) (μ2 := μ5) G d_M_figures_84 zm_M_208 (fun l => t_M_figuresOf  hc) rfl rfl (Nat.le_of_ble_eq_true rfl) (Nat.le_of_ble_eq_true rfl) ?_
          obtain ⟨r8, μ7, hc, h⟩ := zbnd_of h
          refine zx_callSJ (r := r8) (μ2 := μ7) G d_M_figures_87 zm_M_212 (fun l => t_M_tenTo  hc) rfl rfl (Nat.le_of_ble_eq_true rfl) (Nat.le_of_ble_eq_true rfl) ?_
          refine zx_lmul G d_M_figures_90 ?_
          refine zx_lload_n G d_M_figures_91 rfl ?_
          refine zx_ladd G d_M_figures_92 ?_
          refine zx_lconst (v := 1) G d_M_figures_93 rfl ?_
          obtain ⟨r10, μ9, hc, h⟩ := zbnd_of h
          refine zx_callVI (r := r10) (μ2 := μ9) G d_M_figures_94 zm_M_204 (fun l => t_M_lay  hc) rfl rfl (Nat.le_of_ble_eq_true rfl) (Nat.le_of_ble_eq_true rfl) (zrecv zo_12 (zids_of 12 (Nat.le_of_ble_eq_true rfl) 0 (Nat.le_of_ble_eq_true rfl))) ?_
          exact zx_zret G d_M_figures_97 rfl h
        · skip
          refine zx_if h (fun c11 h => ?_) (fun c11 h => ?_)
          · refine zx_sw (tgt := 98) G d_M_figures_21 c11 (by decide) (by decide) rfl rfl ?_
            refine zx_aload_n G d_M_figures_98 rfl ?_
            refine zx_aload_n G d_M_figures_99 rfl ?_
            refine zx_getJ G d_M_figures_100 zf_M_196 zc_12_15 (zids_of 12 (Nat.le_of_ble_eq_true rfl) 0 (Nat.le_of_ble_eq_true rfl)) ?_
            obtain ⟨r13, μ12, hc, h⟩ := zbnd_of h
            refine zx_callSJ (r := r13) (μ2 := μ12) G d_M_figures_103 zm_M_216 (fun l => t_M_turned  hc) rfl rfl (Nat.le_of_ble_eq_true rfl) (Nat.le_of_ble_eq_true rfl) ?_
            refine zx_lconst (v := 1) G d_M_figures_106 rfl ?_
            obtain ⟨r15, μ14, hc, h⟩ := zbnd_of h
            refine zx_callVI (r := r15) (μ2 := μ14) G d_M_figures_107 zm_M_204 (fun l => t_M_lay  hc) rfl rfl (Nat.le_of_ble_eq_true rfl) (Nat.le_of_ble_eq_true rfl) (zrecv zo_12 (zids_of 12 (Nat.le_of_ble_eq_true rfl) 0 (Nat.le_of_ble_eq_true rfl))) ?_
            exact zx_zret G d_M_figures_110 rfl h
          · skip
            refine zx_if h (fun c16 h => ?_) (fun c16 h => ?_)
            · refine zx_sw (tgt := 111) G d_M_figures_21 c16 (by decide) (by decide) rfl rfl ?_
              refine zx_aload_n G d_M_figures_111 rfl ?_
              refine zx_aload_n G d_M_figures_112 rfl ?_
              refine zx_getJ G d_M_figures_113 zf_M_196 zc_12_15 (zids_of 12 (Nat.le_of_ble_eq_true rfl) 0 (Nat.le_of_ble_eq_true rfl)) ?_
              obtain ⟨r18, μ17, hc, h⟩ := zbnd_of h
              refine zx_callSJ (r := r18) (μ2 := μ17) G d_M_figures_116 zm_M_220 (fun l => t_M_across  hc) rfl rfl (Nat.le_of_ble_eq_true rfl) (Nat.le_of_ble_eq_true rfl) ?_
              refine zx_lconst (v := 1) G d_M_figures_119 rfl ?_
              obtain ⟨r20, μ19, hc, h⟩ := zbnd_of h
              refine zx_callVI (r := r20) (μ2 := μ19) G d_M_figures_120 zm_M_204 (fun l => t_M_lay  hc) rfl rfl (Nat.le_of_ble_eq_true rfl) (Nat.le_of_ble_eq_true rfl) (zrecv zo_12 (zids_of 12 (Nat.le_of_ble_eq_true rfl) 0 (Nat.le_of_ble_eq_true rfl))) ?_
              exact zx_zret G d_M_figures_123 rfl h
            · skip
              have c1 := lv_neT c1 (a := 4) rfl
              have c4 := lv_neT c4 (a := 5) rfl
              have c11 := lv_neT c11 (a := 6) rfl
              have c16 := lv_neT c16 (a := 7) rfl
              refine zx_swOut (tgt := 124) G d_M_figures_21 (by omega) rfl ?_
              refine zx_aload_n G d_M_figures_124 rfl ?_
              refine zx_getJ G d_M_figures_125 zf_M_196 zc_12_15 (zids_of 12 (Nat.le_of_ble_eq_true rfl) 0 (Nat.le_of_ble_eq_true rfl)) ?_
              obtain ⟨r22, μ21, hc, h⟩ := zbnd_of h
              refine zx_callSI (r := r22) (μ2 := μ21) G d_M_figures_128 zm_M_208 (fun l => t_M_figuresOf  hc) rfl rfl (Nat.le_of_ble_eq_true rfl) (Nat.le_of_ble_eq_true rfl) ?_
              refine zx_istore (lf := fun y => [_, _, _, none, some (.int y), none, none]) G d_M_figures_131 (Nat.le_of_ble_eq_true rfl) (fun _ => rfl) h (fun x23 h => ?_)
              refine zx_lload_n G d_M_figures_133 rfl ?_
              refine zx_iload G d_M_figures_134 rfl ?_
              refine zx_i2l G d_M_figures_136 ?_
              refine zx_lcmp G d_M_figures_137 ?_
              refine zx_if_le (tgt := 143) G d_M_figures_138 rfl h (fun h => ?_) (fun h => ?_)
              · refine zx_iload G d_M_figures_143 rfl ?_
                refine zx_lload_n G d_M_figures_145 rfl ?_
                refine zx_l2i G d_M_figures_146 ?_
                refine zx_isub G d_M_figures_147 ?_
                obtain ⟨r25, μ24, hc, h⟩ := zbnd_of h
                refine zx_callSJ (r := r25) (μ2 := μ24) G d_M_figures_148 zm_M_212 (fun l => t_M_tenTo  hc) rfl rfl (Nat.le_of_ble_eq_true rfl) (Nat.le_of_ble_eq_true rfl) ?_
                refine zx_lstore (lf := fun y => [_, _, _, none, _, some (.long y), none]) G d_M_figures_151 (Nat.le_of_ble_eq_true rfl) (fun _ => rfl) h (fun x26 h => ?_)
                refine zx_aload_n G d_M_figures_153 rfl ?_
                refine zx_aload_n G d_M_figures_154 rfl ?_
                refine zx_getJ G d_M_figures_155 zf_M_196 zc_12_15 (zids_of 12 (Nat.le_of_ble_eq_true rfl) 0 (Nat.le_of_ble_eq_true rfl)) ?_
                refine zx_ldc2 (v := 10) G d_M_figures_158 zk_M_202 ?_
                refine zx_lload G d_M_figures_161 rfl ?_
                refine zx_lmul G d_M_figures_163 ?_
                refine zx_ldiv G d_M_figures_164 h (fun h => ?_)
                refine zx_lload G d_M_figures_165 rfl ?_
                refine zx_lmul G d_M_figures_167 ?_
                refine zx_aload_n G d_M_figures_168 rfl ?_
                refine zx_getJ G d_M_figures_169 zf_M_196 zc_12_15 (zids_of 12 (Nat.le_of_ble_eq_true rfl) 0 (Nat.le_of_ble_eq_true rfl)) ?_
                refine zx_lload G d_M_figures_172 rfl ?_
                refine zx_lrem G d_M_figures_174 h (fun h => ?_)
                refine zx_ladd G d_M_figures_175 ?_
                refine zx_lconst (v := 1) G d_M_figures_176 rfl ?_
                obtain ⟨r28, μ27, hc, h⟩ := zbnd_of h
                refine zx_callVI (r := r28) (μ2 := μ27) G d_M_figures_177 zm_M_204 (fun l => t_M_lay  hc) rfl rfl (Nat.le_of_ble_eq_true rfl) (Nat.le_of_ble_eq_true rfl) (zrecv zo_12 (zids_of 12 (Nat.le_of_ble_eq_true rfl) 0 (Nat.le_of_ble_eq_true rfl))) ?_
                exact zx_zret G d_M_figures_180 rfl h
              · refine zx_iconst (v := 0) G d_M_figures_141 rfl ?_
                exact zx_zretK G d_M_figures_142 rfl (by decide) h
    · refine zx_iconst (v := 0) G d_M_figures_18 rfl ?_
      exact zx_zretK G d_M_figures_19 rfl (by decide) h
set_option maxHeartbeats 4000000 in
set_option maxRecDepth 20000 in
theorem t_M_does {g : ZG} {l : Launch} {N : Nat} {μ : ZMem} {p0 : Int32} {p1 : Int32} {rr : Int32 × ZMem} (h : f_M_does N μ p0 p1 = some rr) : zT g l 3 K_M_does [.ref (g.2.1 12 0), .int p0, .int p1] μ (some (.int rr.1), rr.2) := by
  refine zT_of (by decide +kernel) (Nat.le_of_ble_eq_true rfl) (fun E G => ?_)
  show zX g K_M_does 3 E (some (.int rr.1), rr.2) μ 0 [some (.ref (g.2.1 12 0)), some (.int p0), some (.int p1), none, none] []
  unfold f_M_does at h
  refine zx_iload_n G d_M_does_0 rfl ?_
  refine zx_sipush (v := 10000) G d_M_does_1 rfl ?_
  refine zx_join (P := fun k => ∀ (y1 : Int64) (μ2 : ZMem), k y1 μ2 = some rr → zX g K_M_does 3 E (some (.int rr.1), rr.2) μ2 23 [some (.ref (g.2.1 12 0)), some (.int p0), none, none, none] [.long y1]) h (fun y1 μ2 h => ?_) (fun k3 hk3 h => ?_)
  · try dsimp only at h
    refine zx_lstore_n (lf := fun y => [_, _, none, some (.long y), none]) G d_M_does_23 (Nat.le_of_ble_eq_true rfl) (fun _ => rfl) h (fun x4 h => ?_)
    refine zx_iload_n G d_M_does_24 rfl ?_
    refine zx_join (P := fun k => ∀ (μ5 : ZMem), k μ5 = some rr → zX g K_M_does 3 E (some (.int rr.1), rr.2) μ5 166 [some (.ref (g.2.1 12 0)), some (.int p0), none, some (.long x4), none] []) h (fun μ5 h => ?_) (fun k6 hk6 h => ?_)
    · try dsimp only at h
      refine zx_aload_n G d_M_does_166 rfl ?_
      refine zx_iload_n G d_M_does_167 rfl ?_
      refine zx_lload_n G d_M_does_168 rfl ?_
      obtain ⟨r8, μ7, hc, h⟩ := zbnd_of h
      refine zx_callVI (r := r8) (μ2 := μ7) G d_M_does_169 zm_M_223 (fun l => t_M_figures  hc) rfl rfl (Nat.le_of_ble_eq_true rfl) (Nat.le_of_ble_eq_true rfl) (zrecv zo_12 (zids_of 12 (Nat.le_of_ble_eq_true rfl) 0 (Nat.le_of_ble_eq_true rfl))) ?_
      exact zx_zret G d_M_does_172 rfl h
    try dsimp only at h
    refine zx_if h (fun c9 h => ?_) (fun c9 h => ?_)
    · refine zx_sw (tgt := 80) G d_M_does_25 c9 (by decide) (by decide) rfl rfl ?_
      refine zx_aload_n G d_M_does_80 rfl ?_
      refine zx_aload_n G d_M_does_81 rfl ?_
      refine zx_getJ G d_M_does_82 zf_M_196 zc_12_15 (zids_of 12 (Nat.le_of_ble_eq_true rfl) 0 (Nat.le_of_ble_eq_true rfl)) ?_
      refine zx_lload_n G d_M_does_85 rfl ?_
      refine zx_aload_n G d_M_does_86 rfl ?_
      refine zx_getJ G d_M_does_87 zf_M_199 zc_12_16 (zids_of 12 (Nat.le_of_ble_eq_true rfl) 0 (Nat.le_of_ble_eq_true rfl)) ?_
      refine zx_lmul G d_M_does_90 ?_
      refine zx_ladd G d_M_does_91 ?_
      refine zx_aload_n G d_M_does_92 rfl ?_
      refine zx_getJ G d_M_does_93 zf_M_199 zc_12_16 (zids_of 12 (Nat.le_of_ble_eq_true rfl) 0 (Nat.le_of_ble_eq_true rfl)) ?_
      obtain ⟨r11, μ10, hc, h⟩ := zbnd_of h
      refine zx_callVI (r := r11) (μ2 := μ10) G d_M_does_96 zm_M_204 (fun l => t_M_lay  hc) rfl rfl (Nat.le_of_ble_eq_true rfl) (Nat.le_of_ble_eq_true rfl) (zrecv zo_12 (zids_of 12 (Nat.le_of_ble_eq_true rfl) 0 (Nat.le_of_ble_eq_true rfl))) ?_
      exact zx_zret G d_M_does_99 rfl h
    · skip
      refine zx_if h (fun c12 h => ?_) (fun c12 h => ?_)
      · refine zx_sw (tgt := 100) G d_M_does_25 c12 (by decide) (by decide) rfl rfl ?_
        refine zx_aload_n G d_M_does_100 rfl ?_
        refine zx_aload_n G d_M_does_101 rfl ?_
        refine zx_getJ G d_M_does_102 zf_M_196 zc_12_15 (zids_of 12 (Nat.le_of_ble_eq_true rfl) 0 (Nat.le_of_ble_eq_true rfl)) ?_
        refine zx_lload_n G d_M_does_105 rfl ?_
        refine zx_aload_n G d_M_does_106 rfl ?_
        refine zx_getJ G d_M_does_107 zf_M_199 zc_12_16 (zids_of 12 (Nat.le_of_ble_eq_true rfl) 0 (Nat.le_of_ble_eq_true rfl)) ?_
        refine zx_lmul G d_M_does_110 ?_
        refine zx_lsub G d_M_does_111 ?_
        refine zx_aload_n G d_M_does_112 rfl ?_
        refine zx_getJ G d_M_does_113 zf_M_199 zc_12_16 (zids_of 12 (Nat.le_of_ble_eq_true rfl) 0 (Nat.le_of_ble_eq_true rfl)) ?_
        obtain ⟨r14, μ13, hc, h⟩ := zbnd_of h
        refine zx_callVI (r := r14) (μ2 := μ13) G d_M_does_116 zm_M_204 (fun l => t_M_lay  hc) rfl rfl (Nat.le_of_ble_eq_true rfl) (Nat.le_of_ble_eq_true rfl) (zrecv zo_12 (zids_of 12 (Nat.le_of_ble_eq_true rfl) 0 (Nat.le_of_ble_eq_true rfl))) ?_
        exact zx_zret G d_M_does_119 rfl h
      · skip
        refine zx_if h (fun c15 h => ?_) (fun c15 h => ?_)
        · refine zx_sw (tgt := 120) G d_M_does_25 c15 (by decide) (by decide) rfl rfl ?_
          refine zx_aload_n G d_M_does_120 rfl ?_
          refine zx_aload_n G d_M_does_121 rfl ?_
          refine zx_getJ G d_M_does_122 zf_M_196 zc_12_15 (zids_of 12 (Nat.le_of_ble_eq_true rfl) 0 (Nat.le_of_ble_eq_true rfl)) ?_
          refine zx_lload_n G d_M_does_125 rfl ?_
          refine zx_lmul G d_M_does_126 ?_
          refine zx_aload_n G d_M_does_127 rfl ?_
          refine zx_getJ G d_M_does_128 zf_M_199 zc_12_16 (zids_of 12 (Nat.le_of_ble_eq_true rfl) 0 (Nat.le_of_ble_eq_true rfl)) ?_
          obtain ⟨r17, μ16, hc, h⟩ := zbnd_of h
          refine zx_callVI (r := r17) (μ2 := μ16) G d_M_does_131 zm_M_204 (fun l => t_M_lay  hc) rfl rfl (Nat.le_of_ble_eq_true rfl) (Nat.le_of_ble_eq_true rfl) (zrecv zo_12 (zids_of 12 (Nat.le_of_ble_eq_true rfl) 0 (Nat.le_of_ble_eq_true rfl))) ?_
          exact zx_zret G d_M_does_134 rfl h
        · skip
          refine zx_if h (fun c18 h => ?_) (fun c18 h => ?_)
          · refine zx_sw (tgt := 135) G d_M_does_25 c18 (by decide) (by decide) rfl rfl ?_
            refine zx_lload_n G d_M_does_135 rfl ?_
            refine zx_lconst (v := 0) G d_M_does_136 rfl ?_
            refine zx_lcmp G d_M_does_137 ?_
            refine zx_if_eq (tgt := 162) G d_M_does_138 rfl h (fun h => ?_) (fun h => ?_)
            · refine zx_iconst (v := 0) G d_M_does_162 rfl ?_
              exact zx_zretK G d_M_does_163 rfl (by decide) h
            · refine zx_aload_n G d_M_does_141 rfl ?_
              refine zx_aload_n G d_M_does_142 rfl ?_
              refine zx_getJ G d_M_does_143 zf_M_196 zc_12_15 (zids_of 12 (Nat.le_of_ble_eq_true rfl) 0 (Nat.le_of_ble_eq_true rfl)) ?_
              refine zx_aload_n G d_M_does_146 rfl ?_
              refine zx_getJ G d_M_does_147 zf_M_199 zc_12_16 (zids_of 12 (Nat.le_of_ble_eq_true rfl) 0 (Nat.le_of_ble_eq_true rfl)) ?_
              refine zx_lload_n G d_M_does_150 rfl ?_
              refine zx_lmul G d_M_does_151 ?_
              obtain ⟨r20, μ19, hc, h⟩ := zbnd_of h
              refine zx_callVI (r := r20) (μ2 := μ19) G d_M_does_152 zm_M_204 (fun l => t_M_lay  hc) rfl rfl (Nat.le_of_ble_eq_true rfl) (Nat.le_of_ble_eq_true rfl) (zrecv zo_12 (zids_of 12 (Nat.le_of_ble_eq_true rfl) 0 (Nat.le_of_ble_eq_true rfl))) ?_
              refine zx_if_eq (tgt := 162) G d_M_does_155 rfl h (fun h => ?_) (fun h => ?_)
              · refine zx_iconst (v := 0) G d_M_does_162 rfl ?_
                exact zx_zretK G d_M_does_163 rfl (by decide) h
              · refine zx_iconst (v := 1) G d_M_does_158 rfl ?_
                refine zx_goto (tgt := 163) G d_M_does_159 rfl ?_
                exact zx_zretK G d_M_does_163 rfl (by decide) h
          · skip
            refine zx_if h (fun c21 h => ?_) (fun c21 h => ?_)
            · refine zx_sw (tgt := 166) G d_M_does_25 c21 (by decide) (by decide) rfl rfl ?_
              exact hk6 μ2 h
            · skip
              refine zx_if h (fun c22 h => ?_) (fun c22 h => ?_)
              · refine zx_sw (tgt := 166) G d_M_does_25 c22 (by decide) (by decide) rfl rfl ?_
                exact hk6 μ2 h
              · skip
                refine zx_if h (fun c23 h => ?_) (fun c23 h => ?_)
                · refine zx_sw (tgt := 166) G d_M_does_25 c23 (by decide) (by decide) rfl rfl ?_
                  exact hk6 μ2 h
                · skip
                  refine zx_if h (fun c24 h => ?_) (fun c24 h => ?_)
                  · refine zx_sw (tgt := 166) G d_M_does_25 c24 (by decide) (by decide) rfl rfl ?_
                    exact hk6 μ2 h
                  · skip
                    refine zx_if h (fun c25 h => ?_) (fun c25 h => ?_)
                    · refine zx_sw (tgt := 166) G d_M_does_25 c25 (by decide) (by decide) rfl rfl ?_
                      exact hk6 μ2 h
                    · skip
                      refine zx_if h (fun c26 h => ?_) (fun c26 h => ?_)
                      · refine zx_sw (tgt := 164) G d_M_does_25 c26 (by decide) (by decide) rfl rfl ?_
                        refine zx_iconst (v := 1) G d_M_does_164 rfl ?_
                        exact zx_zretK G d_M_does_165 rfl (by decide) h
                      · skip
                        have c9 := lv_neT c9 (a := 0) rfl
                        have c12 := lv_neT c12 (a := 1) rfl
                        have c15 := lv_neT c15 (a := 2) rfl
                        have c18 := lv_neT c18 (a := 3) rfl
                        have c21 := lv_neT c21 (a := 4) rfl
                        have c22 := lv_neT c22 (a := 5) rfl
                        have c23 := lv_neT c23 (a := 6) rfl
                        have c24 := lv_neT c24 (a := 7) rfl
                        have c25 := lv_neT c25 (a := 8) rfl
                        have c26 := lv_neT c26 (a := 9) rfl
                        refine zx_swOut (tgt := 166) G d_M_does_25 (by omega) rfl ?_
                        exact hk6 μ2 h
  try dsimp only at h
  refine zx_icmp_ge (tgt := 12) G d_M_does_4 rfl h (fun h => ?_) (fun h => ?_)
  · refine zx_aload_n G d_M_does_12 rfl ?_
    refine zx_getR G d_M_does_13 zf_M_36 zc_12_17 (zids_of 12 (Nat.le_of_ble_eq_true rfl) 0 (Nat.le_of_ble_eq_true rfl)) ?_
    refine zx_iload_n G d_M_does_16 rfl ?_
    refine zx_sipush (v := 10000) G d_M_does_17 rfl ?_
    refine zx_isub G d_M_does_20 ?_
    refine zx_iald G d_M_does_21 za_44 (zi_12_17 (zids_of 12 (Nat.le_of_ble_eq_true rfl) 0 (Nat.le_of_ble_eq_true rfl))) h (fun h => ?_)
    refine zx_i2l G d_M_does_22 ?_
    refine zx_weak [true, true, false, false, false] (lv2 := [_, _, none, none, none]) rfl ?_
    exact hk3 ((μ.1 44 0 (p1 - (10000 : Int32)).toNatClampNeg).toInt64) μ h
  · refine zx_iload_n G d_M_does_7 rfl ?_
    refine zx_i2l G d_M_does_8 ?_
    refine zx_goto (tgt := 23) G d_M_does_9 rfl ?_
    refine zx_weak [true, true, false, false, false] (lv2 := [_, _, none, none, none]) rfl ?_
    exact hk3 p1.toInt64 μ h
set_option maxHeartbeats 4000000 in
set_option maxRecDepth 20000 in
theorem tf_M_goTo_l7_0 {g : ZG} {E : ZE} {N : Nat} {rr : Int32 × ZMem} {p0 : Int32} {p1 : Int32} (G : zGa g K_M_goTo 4 E) (hl0 : (12, 0) ∈ zids) : ∀ (n7 : Nat) (z3 : Int32) (μ4 : ZMem), f_M_goTo_l7 N p0 p1 n7 z3 μ4 = some rr → zX g K_M_goTo 4 E (some (.int rr.1), rr.2) μ4 7 [some (.ref (g.2.1 12 0)), some (.int p0), some (.int p1), some (.int z3)] [] := by
  intro n7
  induction n7 with
  | zero => intro z3 μ4 h; cases h
  | succ n7 ih7 =>
    intro z3 μ4 h
    simp only [f_M_goTo_l7] at h
    refine zx_iload_n G d_M_goTo_7 rfl ?_
    refine zx_iload_n G d_M_goTo_8 rfl ?_
    refine zx_icmp_ge (tgt := 39) G d_M_goTo_9 rfl h (fun h => ?_) (fun h => ?_)
    · refine zx_iconst (v := -1) G d_M_goTo_39 rfl ?_
      exact zx_iret G d_M_goTo_40 rfl h
    · refine zx_aload_n G d_M_goTo_12 rfl ?_
      refine zx_aload_n G d_M_goTo_13 rfl ?_
      refine zx_iload_n G d_M_goTo_14 rfl ?_
      refine zx_iload_n G d_M_goTo_15 rfl ?_
      obtain ⟨r6, μ5, hc, h⟩ := zbnd_of h
      refine zx_callVI (r := r6) (μ2 := μ5) G d_M_goTo_16 zm_M_179 (fun l => t_M_kindOf  hc) rfl rfl (Nat.le_of_ble_eq_true rfl) (Nat.le_of_ble_eq_true rfl) (zrecv zo_12 hl0) ?_
      refine zx_aload_n G d_M_goTo_19 rfl ?_
      refine zx_iload_n G d_M_goTo_20 rfl ?_
      refine zx_iload_n G d_M_goTo_21 rfl ?_
      obtain ⟨r8, μ7, hc, h⟩ := zbnd_of h
      refine zx_callVI (r := r8) (μ2 := μ7) G d_M_goTo_22 zm_M_175 (fun l => t_M_xOf  hc) rfl rfl (Nat.le_of_ble_eq_true rfl) (Nat.le_of_ble_eq_true rfl) (zrecv zo_12 hl0) ?_
      obtain ⟨r10, μ9, hc, h⟩ := zbnd_of h
      refine zx_callVI (r := r10) (μ2 := μ9) G d_M_goTo_25 zm_M_230 (fun l => t_M_does  hc) rfl rfl (Nat.le_of_ble_eq_true rfl) (Nat.le_of_ble_eq_true rfl) (zrecv zo_12 hl0) ?_
      refine zx_if_ne (tgt := 33) G d_M_goTo_28 rfl h (fun h => ?_) (fun h => ?_)
      · refine zx_iinc (v := 1) (lf := fun y => [_, _, _, some (.int y)]) G d_M_goTo_33 (Nat.le_of_ble_eq_true rfl) rfl rfl (fun _ => rfl) h (fun x11 h => ?_)
        refine zx_goto (tgt := 7) G d_M_goTo_36 rfl ?_
        exact ih7 x11 μ9 h
      · refine zx_iload_n G d_M_goTo_31 rfl ?_
        exact zx_iret G d_M_goTo_32 rfl h
set_option maxHeartbeats 4000000 in
set_option maxRecDepth 20000 in
theorem tf_M_goTo_l7 {g : ZG} {E : ZE} {N n7 : Nat} {rr : Int32 × ZMem} {p0 : Int32} {p1 : Int32} {z3 : Int32} {μ4 : ZMem} (G : zGa g K_M_goTo 4 E) (hl0 : (12, 0) ∈ zids) (h : f_M_goTo_l7 N p0 p1 n7 z3 μ4 = some rr) : zX g K_M_goTo 4 E (some (.int rr.1), rr.2) μ4 7 [some (.ref (g.2.1 12 0)), some (.int p0), some (.int p1), some (.int z3)] [] := tf_M_goTo_l7_0 G hl0 n7 z3 μ4 h
set_option maxHeartbeats 4000000 in
set_option maxRecDepth 20000 in
theorem t_M_goTo {g : ZG} {l : Launch} {N : Nat} {μ : ZMem} {p0 : Int32} {p1 : Int32} {rr : Int32 × ZMem} (h : f_M_goTo N μ p0 p1 = some rr) : zT g l 4 K_M_goTo [.ref (g.2.1 12 0), .int p0, .int p1] μ (some (.int rr.1), rr.2) := by
  refine zT_of (by decide +kernel) (Nat.le_of_ble_eq_true rfl) (fun E G => ?_)
  show zX g K_M_goTo 4 E (some (.int rr.1), rr.2) μ 0 [some (.ref (g.2.1 12 0)), some (.int p0), some (.int p1), none] []
  unfold f_M_goTo at h
  refine zx_aload_n G d_M_goTo_0 rfl ?_
  refine zx_iload_n G d_M_goTo_1 rfl ?_
  obtain ⟨u9, μ1, hc, h⟩ := zbnd_of h
  refine zx_callVV  (μ2 := μ1) G d_M_goTo_2 zm_M_227 (fun l => t_M_begin  hc) rfl rfl (Nat.le_of_ble_eq_true rfl) (Nat.le_of_ble_eq_true rfl) (zrecv zo_12 (zids_of 12 (Nat.le_of_ble_eq_true rfl) 0 (Nat.le_of_ble_eq_true rfl))) ?_
  refine zx_iconst (v := 0) G d_M_goTo_5 rfl ?_
  refine zx_istore_n (lf := fun y => [_, _, _, some (.int y)]) G d_M_goTo_6 (Nat.le_of_ble_eq_true rfl) (fun _ => rfl) h (fun x2 h => ?_)
  refine tf_M_goTo_l7 G (zids_of 12 (Nat.le_of_ble_eq_true rfl) 0 (Nat.le_of_ble_eq_true rfl)) h
set_option maxHeartbeats 4000000 in
set_option maxRecDepth 20000 in
theorem t_M_comes {g : ZG} {l : Launch} {N : Nat} {μ : ZMem} {p0 : Int32} {p1 : Int32} {p2 : Int32} {rr : Int64 × ZMem} (h : f_M_comes N μ p0 p1 p2 = some rr) : zT g l 5 K_M_comes [.ref (g.2.1 12 0), .int p0, .int p1, .int p2] μ (some (.long rr.1), rr.2) := by
  refine zT_of (by decide +kernel) (Nat.le_of_ble_eq_true rfl) (fun E G => ?_)
  show zX g K_M_comes 5 E (some (.long rr.1), rr.2) μ 0 [some (.ref (g.2.1 12 0)), some (.int p0), some (.int p1), some (.int p2)] []
  unfold f_M_comes at h
  refine zx_aload_n G d_M_comes_0 rfl ?_
  refine zx_iload_n G d_M_comes_1 rfl ?_
  obtain ⟨r2, μ1, hc, h⟩ := zbnd_of h
  refine zx_callVI (r := r2) (μ2 := μ1) G d_M_comes_2 zm_M_169 (fun l => t_M_isTable  hc) rfl rfl (Nat.le_of_ble_eq_true rfl) (Nat.le_of_ble_eq_true rfl) (zrecv zo_12 (zids_of 12 (Nat.le_of_ble_eq_true rfl) 0 (Nat.le_of_ble_eq_true rfl))) ?_
  refine zx_if_eq (tgt := 23) G d_M_comes_5 rfl h (fun h => ?_) (fun h => ?_)
  · refine zx_ldc2 (v := -10000000000000) G d_M_comes_23 zk_M_233 ?_
    exact zx_lret G d_M_comes_26 rfl h
  · refine zx_iload_n G d_M_comes_8 rfl ?_
    refine zx_iconst (v := -1) G d_M_comes_9 rfl ?_
    refine zx_aload_n G d_M_comes_10 rfl ?_
    refine zx_iload_n G d_M_comes_11 rfl ?_
    obtain ⟨r4, μ3, hc, h⟩ := zbnd_of h
    refine zx_callVI (r := r4) (μ2 := μ3) G d_M_comes_12 zm_M_172 (fun l => t_M_ordersOf  hc) rfl rfl (Nat.le_of_ble_eq_true rfl) (Nat.le_of_ble_eq_true rfl) (zrecv zo_12 (zids_of 12 (Nat.le_of_ble_eq_true rfl) 0 (Nat.le_of_ble_eq_true rfl))) ?_
    refine zx_iconst (v := 1) G d_M_comes_15 rfl ?_
    refine zx_isub G d_M_comes_16 ?_
    obtain ⟨r6, μ5, hc, h⟩ := zbnd_of h
    refine zx_callSI (r := r6) (μ2 := μ5) G d_M_comes_17 zm_M_68 (fun l => t_M_isIn  hc) rfl rfl (Nat.le_of_ble_eq_true rfl) (Nat.le_of_ble_eq_true rfl) ?_
    refine zx_if_ne (tgt := 27) G d_M_comes_20 rfl h (fun h => ?_) (fun h => ?_)
    · refine zx_aload_n G d_M_comes_27 rfl ?_
      obtain ⟨u9, μ7, hc, h⟩ := zbnd_of h
      refine zx_callVV  (μ2 := μ7) G d_M_comes_28 zm_M_235 (fun l => t_M_thinkNow  hc) rfl rfl (Nat.le_of_ble_eq_true rfl) (Nat.le_of_ble_eq_true rfl) (zrecv zo_12 (zids_of 12 (Nat.le_of_ble_eq_true rfl) 0 (Nat.le_of_ble_eq_true rfl))) ?_
      refine zx_aload_n G d_M_comes_31 rfl ?_
      refine zx_iload_n G d_M_comes_32 rfl ?_
      refine zx_iload_n G d_M_comes_33 rfl ?_
      refine zx_iconst (v := 1) G d_M_comes_34 rfl ?_
      refine zx_iadd G d_M_comes_35 ?_
      obtain ⟨r9, μ8, hc, h⟩ := zbnd_of h
      refine zx_callVI (r := r9) (μ2 := μ8) G d_M_comes_36 zm_M_238 (fun l => t_M_goTo  hc) rfl rfl (Nat.le_of_ble_eq_true rfl) (Nat.le_of_ble_eq_true rfl) (zrecv zo_12 (zids_of 12 (Nat.le_of_ble_eq_true rfl) 0 (Nat.le_of_ble_eq_true rfl))) ?_
      refine zx_if_lt (tgt := 46) G d_M_comes_39 rfl h (fun h => ?_) (fun h => ?_)
      · refine zx_iload_n G d_M_comes_46 rfl ?_
        refine zx_if_eq (tgt := 57) G d_M_comes_47 rfl h (fun h => ?_) (fun h => ?_)
        · refine zx_aload_n G d_M_comes_57 rfl ?_
          refine zx_getJ G d_M_comes_58 zf_M_196 zc_12_15 (zids_of 12 (Nat.le_of_ble_eq_true rfl) 0 (Nat.le_of_ble_eq_true rfl)) ?_
          exact zx_lret G d_M_comes_61 rfl h
        · refine zx_aload_n G d_M_comes_50 rfl ?_
          refine zx_getJ G d_M_comes_51 zf_M_199 zc_12_16 (zids_of 12 (Nat.le_of_ble_eq_true rfl) 0 (Nat.le_of_ble_eq_true rfl)) ?_
          refine zx_goto (tgt := 61) G d_M_comes_54 rfl ?_
          exact zx_lret G d_M_comes_61 rfl h
      · refine zx_ldc2 (v := -10000000000000) G d_M_comes_42 zk_M_233 ?_
        exact zx_lret G d_M_comes_45 rfl h
    · refine zx_ldc2 (v := -10000000000000) G d_M_comes_23 zk_M_233 ?_
      exact zx_lret G d_M_comes_26 rfl h
set_option maxHeartbeats 4000000 in
set_option maxRecDepth 20000 in
theorem t_M_fails {g : ZG} {l : Launch} {N : Nat} {μ : ZMem} {p0 : Int32} {rr : Int32 × ZMem} (h : f_M_fails N μ p0 = some rr) : zT g l 5 K_M_fails [.ref (g.2.1 12 0), .int p0] μ (some (.int rr.1), rr.2) := by
  refine zT_of (by decide +kernel) (Nat.le_of_ble_eq_true rfl) (fun E G => ?_)
  show zX g K_M_fails 5 E (some (.int rr.1), rr.2) μ 0 [some (.ref (g.2.1 12 0)), some (.int p0)] []
  unfold f_M_fails at h
  refine zx_aload_n G d_M_fails_0 rfl ?_
  refine zx_iload_n G d_M_fails_1 rfl ?_
  obtain ⟨r2, μ1, hc, h⟩ := zbnd_of h
  refine zx_callVI (r := r2) (μ2 := μ1) G d_M_fails_2 zm_M_169 (fun l => t_M_isTable  hc) rfl rfl (Nat.le_of_ble_eq_true rfl) (Nat.le_of_ble_eq_true rfl) (zrecv zo_12 (zids_of 12 (Nat.le_of_ble_eq_true rfl) 0 (Nat.le_of_ble_eq_true rfl))) ?_
  refine zx_if_ne (tgt := 11) G d_M_fails_5 rfl h (fun h => ?_) (fun h => ?_)
  · refine zx_aload_n G d_M_fails_11 rfl ?_
    obtain ⟨u9, μ3, hc, h⟩ := zbnd_of h
    refine zx_callVV  (μ2 := μ3) G d_M_fails_12 zm_M_235 (fun l => t_M_thinkNow  hc) rfl rfl (Nat.le_of_ble_eq_true rfl) (Nat.le_of_ble_eq_true rfl) (zrecv zo_12 (zids_of 12 (Nat.le_of_ble_eq_true rfl) 0 (Nat.le_of_ble_eq_true rfl))) ?_
    refine zx_aload_n G d_M_fails_15 rfl ?_
    refine zx_iload_n G d_M_fails_16 rfl ?_
    refine zx_aload_n G d_M_fails_17 rfl ?_
    refine zx_iload_n G d_M_fails_18 rfl ?_
    obtain ⟨r5, μ4, hc, h⟩ := zbnd_of h
    refine zx_callVI (r := r5) (μ2 := μ4) G d_M_fails_19 zm_M_172 (fun l => t_M_ordersOf  hc) rfl rfl (Nat.le_of_ble_eq_true rfl) (Nat.le_of_ble_eq_true rfl) (zrecv zo_12 (zids_of 12 (Nat.le_of_ble_eq_true rfl) 0 (Nat.le_of_ble_eq_true rfl))) ?_
    obtain ⟨r7, μ6, hc, h⟩ := zbnd_of h
    refine zx_callVI (r := r7) (μ2 := μ6) G d_M_fails_22 zm_M_238 (fun l => t_M_goTo  hc) rfl rfl (Nat.le_of_ble_eq_true rfl) (Nat.le_of_ble_eq_true rfl) (zrecv zo_12 (zids_of 12 (Nat.le_of_ble_eq_true rfl) 0 (Nat.le_of_ble_eq_true rfl))) ?_
    exact zx_iret G d_M_fails_25 rfl h
  · refine zx_bipush (v := -2) G d_M_fails_8 rfl ?_
    exact zx_iret G d_M_fails_10 rfl h
set_option maxHeartbeats 4000000 in
set_option maxRecDepth 20000 in
theorem tf_M_said_l31_0 {g : ZG} {E : ZE} {N : Nat} {rr : Int64 × ZMem} {p0 : Int32} {p1 : Int32} {p2 : Int32} {kx87 : ZMem → Option (Int64 × ZMem)} (G : zGa g K_M_said 4 E) (hl0 : (12, 0) ∈ zids) (hkx87 : ∀  (μ : ZMem), kx87 μ = some rr → zX g K_M_said 4 E (some (.long rr.1), rr.2) μ 87 [some (.ref (g.2.1 12 0)), none, none, some (.int p2), none, none] []) : ∀ (n31 : Nat) (z7 : Int32) (z8 : Int32) (μ9 : ZMem), f_M_said_l31 N p0 p1 p2 kx87 n31 z7 z8 μ9 = some rr → zX g K_M_said 4 E (some (.long rr.1), rr.2) μ9 31 [some (.ref (g.2.1 12 0)), some (.int p0), some (.int p1), some (.int p2), some (.int z7), some (.int z8)] [] := by
  intro n31
  induction n31 with
  | zero => intro z7 z8 μ9 h; cases h
  | succ n31 ih31 =>
    intro z7 z8 μ9 h
    simp only [f_M_said_l31] at h
    refine zx_iload G d_M_said_31 rfl ?_
    refine zx_aload_n G d_M_said_33 rfl ?_
    refine zx_iload_n G d_M_said_34 rfl ?_
    obtain ⟨r11, μ10, hc, h⟩ := zbnd_of h
    refine zx_callVI (r := r11) (μ2 := μ10) G d_M_said_35 zm_M_172 (fun l => t_M_ordersOf  hc) rfl rfl (Nat.le_of_ble_eq_true rfl) (Nat.le_of_ble_eq_true rfl) (zrecv zo_12 hl0) ?_
    refine zx_icmp_ge (tgt := 112) G d_M_said_38 rfl h (fun h => ?_) (fun h => ?_)
    · refine zx_ldc2 (v := -10000000000000) G d_M_said_112 zk_M_233 ?_
      exact zx_lret G d_M_said_115 rfl h
    · refine zx_aload_n G d_M_said_41 rfl ?_
      refine zx_aload_n G d_M_said_42 rfl ?_
      refine zx_iload_n G d_M_said_43 rfl ?_
      refine zx_iload G d_M_said_44 rfl ?_
      obtain ⟨r13, μ12, hc, h⟩ := zbnd_of h
      refine zx_callVI (r := r13) (μ2 := μ12) G d_M_said_46 zm_M_179 (fun l => t_M_kindOf  hc) rfl rfl (Nat.le_of_ble_eq_true rfl) (Nat.le_of_ble_eq_true rfl) (zrecv zo_12 hl0) ?_
      refine zx_aload_n G d_M_said_49 rfl ?_
      refine zx_iload_n G d_M_said_50 rfl ?_
      refine zx_iload G d_M_said_51 rfl ?_
      obtain ⟨r15, μ14, hc, h⟩ := zbnd_of h
      refine zx_callVI (r := r15) (μ2 := μ14) G d_M_said_53 zm_M_175 (fun l => t_M_xOf  hc) rfl rfl (Nat.le_of_ble_eq_true rfl) (Nat.le_of_ble_eq_true rfl) (zrecv zo_12 hl0) ?_
      obtain ⟨r17, μ16, hc, h⟩ := zbnd_of h
      refine zx_callVI (r := r17) (μ2 := μ16) G d_M_said_56 zm_M_230 (fun l => t_M_does  hc) rfl rfl (Nat.le_of_ble_eq_true rfl) (Nat.le_of_ble_eq_true rfl) (zrecv zo_12 hl0) ?_
      refine zx_if_ne (tgt := 66) G d_M_said_59 rfl h (fun h => ?_) (fun h => ?_)
      · refine zx_aload_n G d_M_said_66 rfl ?_
        refine zx_iload_n G d_M_said_67 rfl ?_
        refine zx_iload G d_M_said_68 rfl ?_
        obtain ⟨r19, μ18, hc, h⟩ := zbnd_of h
        refine zx_callVI (r := r19) (μ2 := μ18) G d_M_said_70 zm_M_179 (fun l => t_M_kindOf  hc) rfl rfl (Nat.le_of_ble_eq_true rfl) (Nat.le_of_ble_eq_true rfl) (zrecv zo_12 hl0) ?_
        refine zx_bipush (v := 9) G d_M_said_73 rfl ?_
        refine zx_join (P := fun k => ∀ (y20 : Int32) (μ21 : ZMem), k y20 μ21 = some rr → zX g K_M_said 4 E (some (.long rr.1), rr.2) μ21 106 [some (.ref (g.2.1 12 0)), some (.int p0), some (.int p1), some (.int p2), some (.int y20), some (.int z8)] []) h (fun y20 μ21 h => ?_) (fun k22 hk22 h => ?_)
        · try dsimp only at h
          refine zx_iinc (v := 1) (lf := fun y => [_, _, _, _, _, some (.int y)]) G d_M_said_106 (Nat.le_of_ble_eq_true rfl) rfl rfl (fun _ => rfl) h (fun x23 h => ?_)
          refine zx_goto (tgt := 31) G d_M_said_109 rfl ?_
          exact ih31 y20 x23 μ21 h
        try dsimp only at h
        refine zx_icmp_eq (tgt := 81) G d_M_said_75 rfl h (fun h => ?_) (fun h => ?_)
        · refine zx_iload G d_M_said_81 rfl ?_
          refine zx_iload_n G d_M_said_83 rfl ?_
          refine zx_icmp_ne (tgt := 103) G d_M_said_84 rfl h (fun h => ?_) (fun h => ?_)
          · refine zx_iinc (v := 1) (lf := fun y => [_, _, _, _, some (.int y), _]) G d_M_said_103 (Nat.le_of_ble_eq_true rfl) rfl rfl (fun _ => rfl) h (fun x24 h => ?_)
            exact hk22 x24 μ18 h
          · refine zx_weak [true, false, false, true, false, false] (lv2 := [_, none, none, _, none, none]) rfl ?_
            exact hkx87 μ18 h
        · refine zx_goto (tgt := 106) G d_M_said_78 rfl ?_
          exact hk22 z7 μ18 h
      · refine zx_ldc2 (v := -10000000000000) G d_M_said_62 zk_M_233 ?_
        exact zx_lret G d_M_said_65 rfl h
set_option maxHeartbeats 4000000 in
set_option maxRecDepth 20000 in
theorem tf_M_said_l31 {g : ZG} {E : ZE} {N n31 : Nat} {rr : Int64 × ZMem} {p0 : Int32} {p1 : Int32} {p2 : Int32} {kx87 : ZMem → Option (Int64 × ZMem)} {z7 : Int32} {z8 : Int32} {μ9 : ZMem} (G : zGa g K_M_said 4 E) (hl0 : (12, 0) ∈ zids) (h : f_M_said_l31 N p0 p1 p2 kx87 n31 z7 z8 μ9 = some rr) (hkx87 : ∀  (μ : ZMem), kx87 μ = some rr → zX g K_M_said 4 E (some (.long rr.1), rr.2) μ 87 [some (.ref (g.2.1 12 0)), none, none, some (.int p2), none, none] []) : zX g K_M_said 4 E (some (.long rr.1), rr.2) μ9 31 [some (.ref (g.2.1 12 0)), some (.int p0), some (.int p1), some (.int p2), some (.int z7), some (.int z8)] [] := tf_M_said_l31_0 G hl0 hkx87 n31 z7 z8 μ9 h
set_option maxHeartbeats 4000000 in
set_option maxRecDepth 20000 in
theorem t_M_said {g : ZG} {l : Launch} {N : Nat} {μ : ZMem} {p0 : Int32} {p1 : Int32} {p2 : Int32} {rr : Int64 × ZMem} (h : f_M_said N μ p0 p1 p2 = some rr) : zT g l 4 K_M_said [.ref (g.2.1 12 0), .int p0, .int p1, .int p2] μ (some (.long rr.1), rr.2) := by
  refine zT_of (by decide +kernel) (Nat.le_of_ble_eq_true rfl) (fun E G => ?_)
  show zX g K_M_said 4 E (some (.long rr.1), rr.2) μ 0 [some (.ref (g.2.1 12 0)), some (.int p0), some (.int p1), some (.int p2), none, none] []
  unfold f_M_said at h
  refine zx_aload_n G d_M_said_0 rfl ?_
  refine zx_iload_n G d_M_said_1 rfl ?_
  obtain ⟨r2, μ1, hc, h⟩ := zbnd_of h
  refine zx_callVI (r := r2) (μ2 := μ1) G d_M_said_2 zm_M_169 (fun l => t_M_isTable  hc) rfl rfl (Nat.le_of_ble_eq_true rfl) (Nat.le_of_ble_eq_true rfl) (zrecv zo_12 (zids_of 12 (Nat.le_of_ble_eq_true rfl) 0 (Nat.le_of_ble_eq_true rfl))) ?_
  refine zx_if_eq (tgt := 12) G d_M_said_5 rfl h (fun h => ?_) (fun h => ?_)
  · refine zx_ldc2 (v := -10000000000000) G d_M_said_12 zk_M_233 ?_
    exact zx_lret G d_M_said_15 rfl h
  · refine zx_iload_n G d_M_said_8 rfl ?_
    refine zx_if_ge (tgt := 16) G d_M_said_9 rfl h (fun h => ?_) (fun h => ?_)
    · refine zx_aload_n G d_M_said_16 rfl ?_
      obtain ⟨u9, μ3, hc, h⟩ := zbnd_of h
      refine zx_callVV  (μ2 := μ3) G d_M_said_17 zm_M_235 (fun l => t_M_thinkNow  hc) rfl rfl (Nat.le_of_ble_eq_true rfl) (Nat.le_of_ble_eq_true rfl) (zrecv zo_12 (zids_of 12 (Nat.le_of_ble_eq_true rfl) 0 (Nat.le_of_ble_eq_true rfl))) ?_
      refine zx_aload_n G d_M_said_20 rfl ?_
      refine zx_iload_n G d_M_said_21 rfl ?_
      obtain ⟨u9, μ4, hc, h⟩ := zbnd_of h
      refine zx_callVV  (μ2 := μ4) G d_M_said_22 zm_M_227 (fun l => t_M_begin  hc) rfl rfl (Nat.le_of_ble_eq_true rfl) (Nat.le_of_ble_eq_true rfl) (zrecv zo_12 (zids_of 12 (Nat.le_of_ble_eq_true rfl) 0 (Nat.le_of_ble_eq_true rfl))) ?_
      refine zx_iconst (v := 0) G d_M_said_25 rfl ?_
      refine zx_istore (lf := fun y => [_, _, _, _, some (.int y), none]) G d_M_said_26 (Nat.le_of_ble_eq_true rfl) (fun _ => rfl) h (fun x5 h => ?_)
      refine zx_iconst (v := 0) G d_M_said_28 rfl ?_
      refine zx_istore (lf := fun y => [_, _, _, _, _, some (.int y)]) G d_M_said_29 (Nat.le_of_ble_eq_true rfl) (fun _ => rfl) h (fun x6 h => ?_)
      refine tf_M_said_l31 G (zids_of 12 (Nat.le_of_ble_eq_true rfl) 0 (Nat.le_of_ble_eq_true rfl)) h (fun μ25 h => ?_)
      · try dsimp only at h
        refine zx_iload_n G d_M_said_87 rfl ?_
        refine zx_if_eq (tgt := 98) G d_M_said_88 rfl h (fun h => ?_) (fun h => ?_)
        · refine zx_aload_n G d_M_said_98 rfl ?_
          refine zx_getJ G d_M_said_99 zf_M_196 zc_12_15 (zids_of 12 (Nat.le_of_ble_eq_true rfl) 0 (Nat.le_of_ble_eq_true rfl)) ?_
          exact zx_lret G d_M_said_102 rfl h
        · refine zx_aload_n G d_M_said_91 rfl ?_
          refine zx_getJ G d_M_said_92 zf_M_199 zc_12_16 (zids_of 12 (Nat.le_of_ble_eq_true rfl) 0 (Nat.le_of_ble_eq_true rfl)) ?_
          refine zx_goto (tgt := 102) G d_M_said_95 rfl ?_
          exact zx_lret G d_M_said_102 rfl h
    · refine zx_ldc2 (v := -10000000000000) G d_M_said_12 zk_M_233 ?_
      exact zx_lret G d_M_said_15 rfl h
set_option maxHeartbeats 4000000 in
set_option maxRecDepth 20000 in
theorem t_M_isFraction {g : ZG} {l : Launch} {N : Nat} {μ : ZMem} {p0 : Int32} {p1 : Int32} {rr : Int32 × ZMem} (h : f_M_isFraction N μ p0 p1 = some rr) : zT g l 1 K_M_isFraction [.int p0, .int p1] μ (some (.int rr.1), rr.2) := by
  refine zT_of (by decide +kernel) (Nat.le_of_ble_eq_true rfl) (fun E G => ?_)
  show zX g K_M_isFraction 1 E (some (.int rr.1), rr.2) μ 0 [some (.int p0), some (.int p1)] []
  unfold f_M_isFraction at h
  refine zx_iload_n G d_M_isFraction_0 rfl ?_
  refine zx_ldc (v := -1000000000) G d_M_isFraction_1 zk_M_241 ?_
  refine zx_ldc (v := 1000000000) G d_M_isFraction_3 zk_M_242 ?_
  obtain ⟨r2, μ1, hc, h⟩ := zbnd_of h
  refine zx_callSI (r := r2) (μ2 := μ1) G d_M_isFraction_5 zm_M_68 (fun l => t_M_isIn  hc) rfl rfl (Nat.le_of_ble_eq_true rfl) (Nat.le_of_ble_eq_true rfl) ?_
  refine zx_if_eq (tgt := 25) G d_M_isFraction_8 rfl h (fun h => ?_) (fun h => ?_)
  · refine zx_iconst (v := 0) G d_M_isFraction_25 rfl ?_
    exact zx_zretK G d_M_isFraction_26 rfl (by decide) h
  · refine zx_iload_n G d_M_isFraction_11 rfl ?_
    refine zx_iconst (v := 1) G d_M_isFraction_12 rfl ?_
    refine zx_ldc (v := 1000000) G d_M_isFraction_13 zk_M_243 ?_
    obtain ⟨r4, μ3, hc, h⟩ := zbnd_of h
    refine zx_callSI (r := r4) (μ2 := μ3) G d_M_isFraction_15 zm_M_68 (fun l => t_M_isIn  hc) rfl rfl (Nat.le_of_ble_eq_true rfl) (Nat.le_of_ble_eq_true rfl) ?_
    refine zx_if_eq (tgt := 25) G d_M_isFraction_18 rfl h (fun h => ?_) (fun h => ?_)
    · refine zx_iconst (v := 0) G d_M_isFraction_25 rfl ?_
      exact zx_zretK G d_M_isFraction_26 rfl (by decide) h
    · refine zx_iconst (v := 1) G d_M_isFraction_21 rfl ?_
      refine zx_goto (tgt := 26) G d_M_isFraction_22 rfl ?_
      exact zx_zretK G d_M_isFraction_26 rfl (by decide) h
set_option maxHeartbeats 4000000 in
set_option maxRecDepth 20000 in
theorem t_M_write {g : ZG} {l : Launch} {N : Nat} {μ : ZMem} {p0 : Int32} {p1 : Int32} {p2 : Int32} {rr : Unit × ZMem} (h : f_M_write N μ p0 p1 p2 = some rr) : zT g l 1 K_M_write [.ref (g.2.1 12 0), .int p0, .int p1, .int p2] μ (none, rr.2) := by
  refine zT_of (by decide +kernel) (Nat.le_of_ble_eq_true rfl) (fun E G => ?_)
  show zX g K_M_write 1 E (none, rr.2) μ 0 [some (.ref (g.2.1 12 0)), some (.int p0), some (.int p1), some (.int p2), none, none] []
  unfold f_M_write at h
  refine zx_iload_n G d_M_write_0 rfl ?_
  refine zx_i2l G d_M_write_1 ?_
  refine zx_iload_n G d_M_write_2 rfl ?_
  refine zx_i2l G d_M_write_3 ?_
  obtain ⟨r2, μ1, hc, h⟩ := zbnd_of h
  refine zx_callSJ (r := r2) (μ2 := μ1) G d_M_write_4 zm_M_186 (fun l => t_M_common  hc) rfl rfl (Nat.le_of_ble_eq_true rfl) (Nat.le_of_ble_eq_true rfl) ?_
  refine zx_lstore (lf := fun y => [_, _, _, _, some (.long y), none]) G d_M_write_7 (Nat.le_of_ble_eq_true rfl) (fun _ => rfl) h (fun x3 h => ?_)
  refine zx_aload_n G d_M_write_9 rfl ?_
  refine zx_getR G d_M_write_10 zf_M_16 zc_12_2 (zids_of 12 (Nat.le_of_ble_eq_true rfl) 0 (Nat.le_of_ble_eq_true rfl)) ?_
  refine zx_iload_n G d_M_write_13 rfl ?_
  refine zx_iload_n G d_M_write_14 rfl ?_
  refine zx_i2l G d_M_write_15 ?_
  refine zx_lload G d_M_write_16 rfl ?_
  refine zx_ldiv G d_M_write_18 h (fun h => ?_)
  refine zx_last G d_M_write_19 za_41 (zi_12_2 (zids_of 12 (Nat.le_of_ble_eq_true rfl) 0 (Nat.le_of_ble_eq_true rfl))) h (fun μ4 h => ?_)
  refine zx_aload_n G d_M_write_20 rfl ?_
  refine zx_getR G d_M_write_21 zf_M_16 zc_12_2 (zids_of 12 (Nat.le_of_ble_eq_true rfl) 0 (Nat.le_of_ble_eq_true rfl)) ?_
  refine zx_iload_n G d_M_write_24 rfl ?_
  refine zx_iconst (v := 1) G d_M_write_25 rfl ?_
  refine zx_iadd G d_M_write_26 ?_
  refine zx_iload_n G d_M_write_27 rfl ?_
  refine zx_i2l G d_M_write_28 ?_
  refine zx_lload G d_M_write_29 rfl ?_
  refine zx_ldiv G d_M_write_31 h (fun h => ?_)
  refine zx_last G d_M_write_32 za_41 (zi_12_2 (zids_of 12 (Nat.le_of_ble_eq_true rfl) 0 (Nat.le_of_ble_eq_true rfl))) h (fun μ5 h => ?_)
  exact zx_vret G d_M_write_33 rfl h
set_option maxHeartbeats 4000000 in
set_option maxRecDepth 20000 in
theorem t_M_listed {g : ZG} {l : Launch} {N : Nat} {μ : ZMem} {p0 : Int32} {p1 : Int32} {p2 : Int32} {p3 : Int32} {p4 : Int32} {rr : Int32 × ZMem} (h : f_M_listed N μ p0 p1 p2 p3 p4 = some rr) : zT g l 2 K_M_listed [.ref (g.2.1 12 0), .int p0, .int p1, .int p2, .int p3, .int p4] μ (some (.int rr.1), rr.2) := by
  refine zT_of (by decide +kernel) (Nat.le_of_ble_eq_true rfl) (fun E G => ?_)
  show zX g K_M_listed 2 E (some (.int rr.1), rr.2) μ 0 [some (.ref (g.2.1 12 0)), some (.int p0), some (.int p1), some (.int p2), some (.int p3), some (.int p4)] []
  unfold f_M_listed at h
  refine zx_iload G d_M_listed_0 rfl ?_
  refine zx_if_ne (tgt := 14) G d_M_listed_2 rfl h (fun h => ?_) (fun h => ?_)
  · refine zx_iload G d_M_listed_14 rfl ?_
    refine zx_iload G d_M_listed_16 rfl ?_
    obtain ⟨r2, μ1, hc, h⟩ := zbnd_of h
    refine zx_callSI (r := r2) (μ2 := μ1) G d_M_listed_18 zm_M_244 (fun l => t_M_isFraction  hc) rfl rfl (Nat.le_of_ble_eq_true rfl) (Nat.le_of_ble_eq_true rfl) ?_
    refine zx_if_eq (tgt := 34) G d_M_listed_21 rfl h (fun h => ?_) (fun h => ?_)
    · refine zx_iconst (v := -1) G d_M_listed_34 rfl ?_
      exact zx_iret G d_M_listed_35 rfl h
    · refine zx_aload_n G d_M_listed_24 rfl ?_
      refine zx_getR G d_M_listed_25 zf_M_7 zc_12_0 (zids_of 12 (Nat.le_of_ble_eq_true rfl) 0 (Nat.le_of_ble_eq_true rfl)) ?_
      refine zx_iload_n G d_M_listed_28 rfl ?_
      refine zx_iald G d_M_listed_29 za_40 (zi_12_0 (zids_of 12 (Nat.le_of_ble_eq_true rfl) 0 (Nat.le_of_ble_eq_true rfl))) h (fun h => ?_)
      refine zx_iload_n G d_M_listed_30 rfl ?_
      refine zx_icmp_ne (tgt := 36) G d_M_listed_31 rfl h (fun h => ?_) (fun h => ?_)
      · refine zx_aload_n G d_M_listed_36 rfl ?_
        refine zx_iload_n G d_M_listed_37 rfl ?_
        refine zx_iconst (v := 2) G d_M_listed_38 rfl ?_
        refine zx_aload_n G d_M_listed_39 rfl ?_
        refine zx_getR G d_M_listed_40 zf_M_7 zc_12_0 (zids_of 12 (Nat.le_of_ble_eq_true rfl) 0 (Nat.le_of_ble_eq_true rfl)) ?_
        refine zx_iload_n G d_M_listed_43 rfl ?_
        refine zx_iald G d_M_listed_44 za_40 (zi_12_0 (zids_of 12 (Nat.le_of_ble_eq_true rfl) 0 (Nat.le_of_ble_eq_true rfl))) h (fun h => ?_)
        refine zx_imul G d_M_listed_45 ?_
        refine zx_iadd G d_M_listed_46 ?_
        refine zx_iload G d_M_listed_47 rfl ?_
        refine zx_iload G d_M_listed_49 rfl ?_
        obtain ⟨u9, μ3, hc, h⟩ := zbnd_of h
        refine zx_callVV  (μ2 := μ3) G d_M_listed_51 zm_M_247 (fun l => t_M_write  hc) rfl rfl (Nat.le_of_ble_eq_true rfl) (Nat.le_of_ble_eq_true rfl) (zrecv zo_12 (zids_of 12 (Nat.le_of_ble_eq_true rfl) 0 (Nat.le_of_ble_eq_true rfl))) ?_
        refine zx_aload_n G d_M_listed_54 rfl ?_
        refine zx_getR G d_M_listed_55 zf_M_7 zc_12_0 (zids_of 12 (Nat.le_of_ble_eq_true rfl) 0 (Nat.le_of_ble_eq_true rfl)) ?_
        refine zx_iload_n G d_M_listed_58 rfl ?_
        refine zx_dup2_11 G d_M_listed_59 rfl rfl ?_
        refine zx_iald G d_M_listed_60 za_40 (zi_12_0 (zids_of 12 (Nat.le_of_ble_eq_true rfl) 0 (Nat.le_of_ble_eq_true rfl))) h (fun h => ?_)
        refine zx_iconst (v := 1) G d_M_listed_61 rfl ?_
        refine zx_iadd G d_M_listed_62 ?_
        refine zx_iast G d_M_listed_63 za_40 (zi_12_0 (zids_of 12 (Nat.le_of_ble_eq_true rfl) 0 (Nat.le_of_ble_eq_true rfl))) h (fun μ4 h => ?_)
        refine zx_aload_n G d_M_listed_64 rfl ?_
        refine zx_getR G d_M_listed_65 zf_M_7 zc_12_0 (zids_of 12 (Nat.le_of_ble_eq_true rfl) 0 (Nat.le_of_ble_eq_true rfl)) ?_
        refine zx_iload_n G d_M_listed_68 rfl ?_
        refine zx_iald G d_M_listed_69 za_40 (zi_12_0 (zids_of 12 (Nat.le_of_ble_eq_true rfl) 0 (Nat.le_of_ble_eq_true rfl))) h (fun h => ?_)
        exact zx_iret G d_M_listed_70 rfl h
      · refine zx_iconst (v := -1) G d_M_listed_34 rfl ?_
        exact zx_iret G d_M_listed_35 rfl h
  · refine zx_aload_n G d_M_listed_5 rfl ?_
    refine zx_getR G d_M_listed_6 zf_M_7 zc_12_0 (zids_of 12 (Nat.le_of_ble_eq_true rfl) 0 (Nat.le_of_ble_eq_true rfl)) ?_
    refine zx_iload_n G d_M_listed_9 rfl ?_
    refine zx_iconst (v := 0) G d_M_listed_10 rfl ?_
    refine zx_iast G d_M_listed_11 za_40 (zi_12_0 (zids_of 12 (Nat.le_of_ble_eq_true rfl) 0 (Nat.le_of_ble_eq_true rfl))) h (fun μ5 h => ?_)
    refine zx_iconst (v := 0) G d_M_listed_12 rfl ?_
    exact zx_iret G d_M_listed_13 rfl h
set_option maxHeartbeats 4000000 in
set_option maxRecDepth 20000 in
theorem t_M_claim {g : ZG} {l : Launch} {N : Nat} {μ : ZMem} {p0 : Int32} {p1 : Int32} {rr : Int32 × ZMem} (h : f_M_claim N μ p0 p1 = some rr) : zT g l 3 K_M_claim [.ref (g.2.1 12 0), .int p0, .int p1] μ (some (.int rr.1), rr.2) := by
  refine zT_of (by decide +kernel) (Nat.le_of_ble_eq_true rfl) (fun E G => ?_)
  show zX g K_M_claim 3 E (some (.int rr.1), rr.2) μ 0 [some (.ref (g.2.1 12 0)), some (.int p0), some (.int p1)] []
  unfold f_M_claim at h
  refine zx_aload_n G d_M_claim_0 rfl ?_
  refine zx_iconst (v := 4) G d_M_claim_1 rfl ?_
  refine zx_bipush (v := 24) G d_M_claim_2 rfl ?_
  refine zx_iconst (v := 0) G d_M_claim_4 rfl ?_
  refine zx_iload_n G d_M_claim_5 rfl ?_
  refine zx_iload_n G d_M_claim_6 rfl ?_
  obtain ⟨r2, μ1, hc, h⟩ := zbnd_of h
  refine zx_callVI (r := r2) (μ2 := μ1) G d_M_claim_7 zm_M_251 (fun l => t_M_listed  hc) rfl rfl (Nat.le_of_ble_eq_true rfl) (Nat.le_of_ble_eq_true rfl) (zrecv zo_12 (zids_of 12 (Nat.le_of_ble_eq_true rfl) 0 (Nat.le_of_ble_eq_true rfl))) ?_
  exact zx_iret G d_M_claim_10 rfl h
set_option maxHeartbeats 4000000 in
set_option maxRecDepth 20000 in
theorem t_M_hear {g : ZG} {l : Launch} {N : Nat} {μ : ZMem} {p0 : Int32} {p1 : Int32} {rr : Int32 × ZMem} (h : f_M_hear N μ p0 p1 = some rr) : zT g l 3 K_M_hear [.ref (g.2.1 12 0), .int p0, .int p1] μ (some (.int rr.1), rr.2) := by
  refine zT_of (by decide +kernel) (Nat.le_of_ble_eq_true rfl) (fun E G => ?_)
  show zX g K_M_hear 3 E (some (.int rr.1), rr.2) μ 0 [some (.ref (g.2.1 12 0)), some (.int p0), some (.int p1)] []
  unfold f_M_hear at h
  refine zx_aload_n G d_M_hear_0 rfl ?_
  refine zx_iconst (v := 5) G d_M_hear_1 rfl ?_
  refine zx_bipush (v := 6) G d_M_hear_2 rfl ?_
  refine zx_bipush (v := 48) G d_M_hear_4 rfl ?_
  refine zx_iload_n G d_M_hear_6 rfl ?_
  refine zx_iload_n G d_M_hear_7 rfl ?_
  obtain ⟨r2, μ1, hc, h⟩ := zbnd_of h
  refine zx_callVI (r := r2) (μ2 := μ1) G d_M_hear_8 zm_M_251 (fun l => t_M_listed  hc) rfl rfl (Nat.le_of_ble_eq_true rfl) (Nat.le_of_ble_eq_true rfl) (zrecv zo_12 (zids_of 12 (Nat.le_of_ble_eq_true rfl) 0 (Nat.le_of_ble_eq_true rfl))) ?_
  exact zx_iret G d_M_hear_11 rfl h
set_option maxHeartbeats 4000000 in
set_option maxRecDepth 20000 in
theorem tf_M_judge_l22_0 {g : ZG} {E : ZE} {N : Nat} {rr : Int32 × ZMem} {p0 : Int32} (G : zGa g K_M_judge 4 E) (hl0 : (12, 0) ∈ zids) : ∀ (n22 : Nat) (z6 : Int32) (μ7 : ZMem), f_M_judge_l22 N p0 n22 z6 μ7 = some rr → zX g K_M_judge 4 E (some (.int rr.1), rr.2) μ7 22 [some (.ref (g.2.1 12 0)), some (.int p0), some (.int z6)] [] := by
  intro n22
  induction n22 with
  | zero => intro z6 μ7 h; cases h
  | succ n22 ih22 =>
    intro z6 μ7 h
    simp only [f_M_judge_l22] at h
    refine zx_iload_n G d_M_judge_22 rfl ?_
    refine zx_aload_n G d_M_judge_23 rfl ?_
    refine zx_iload_n G d_M_judge_24 rfl ?_
    obtain ⟨r9, μ8, hc, h⟩ := zbnd_of h
    refine zx_callVI (r := r9) (μ2 := μ8) G d_M_judge_25 zm_M_172 (fun l => t_M_ordersOf  hc) rfl rfl (Nat.le_of_ble_eq_true rfl) (Nat.le_of_ble_eq_true rfl) (zrecv zo_12 hl0) ?_
    refine zx_icmp_ge (tgt := 108) G d_M_judge_28 rfl h (fun h => ?_) (fun h => ?_)
    · refine zx_iconst (v := -1) G d_M_judge_108 rfl ?_
      exact zx_iret G d_M_judge_109 rfl h
    · refine zx_iload_n G d_M_judge_31 rfl ?_
      refine zx_aload_n G d_M_judge_32 rfl ?_
      refine zx_getR G d_M_judge_33 zf_M_7 zc_12_0 hl0 ?_
      refine zx_iconst (v := 4) G d_M_judge_36 rfl ?_
      refine zx_iald G d_M_judge_37 za_40 (zi_12_0 hl0) h (fun h => ?_)
      refine zx_icmp_ge (tgt := 108) G d_M_judge_38 rfl h (fun h => ?_) (fun h => ?_)
      · refine zx_iconst (v := -1) G d_M_judge_108 rfl ?_
        exact zx_iret G d_M_judge_109 rfl h
      · refine zx_aload_n G d_M_judge_41 rfl ?_
        refine zx_aload_n G d_M_judge_42 rfl ?_
        refine zx_iload_n G d_M_judge_43 rfl ?_
        refine zx_iload_n G d_M_judge_44 rfl ?_
        obtain ⟨r11, μ10, hc, h⟩ := zbnd_of h
        refine zx_callVI (r := r11) (μ2 := μ10) G d_M_judge_45 zm_M_179 (fun l => t_M_kindOf  hc) rfl rfl (Nat.le_of_ble_eq_true rfl) (Nat.le_of_ble_eq_true rfl) (zrecv zo_12 hl0) ?_
        refine zx_aload_n G d_M_judge_48 rfl ?_
        refine zx_iload_n G d_M_judge_49 rfl ?_
        refine zx_iload_n G d_M_judge_50 rfl ?_
        obtain ⟨r13, μ12, hc, h⟩ := zbnd_of h
        refine zx_callVI (r := r13) (μ2 := μ12) G d_M_judge_51 zm_M_175 (fun l => t_M_xOf  hc) rfl rfl (Nat.le_of_ble_eq_true rfl) (Nat.le_of_ble_eq_true rfl) (zrecv zo_12 hl0) ?_
        obtain ⟨r15, μ14, hc, h⟩ := zbnd_of h
        refine zx_callVI (r := r15) (μ2 := μ14) G d_M_judge_54 zm_M_230 (fun l => t_M_does  hc) rfl rfl (Nat.le_of_ble_eq_true rfl) (Nat.le_of_ble_eq_true rfl) (zrecv zo_12 hl0) ?_
        refine zx_if_ne (tgt := 62) G d_M_judge_57 rfl h (fun h => ?_) (fun h => ?_)
        · refine zx_aload_n G d_M_judge_62 rfl ?_
          refine zx_getJ G d_M_judge_63 zf_M_196 zc_12_15 hl0 ?_
          refine zx_aload_n G d_M_judge_66 rfl ?_
          refine zx_getR G d_M_judge_67 zf_M_16 zc_12_2 hl0 ?_
          refine zx_iconst (v := 0) G d_M_judge_70 rfl ?_
          refine zx_iconst (v := 2) G d_M_judge_71 rfl ?_
          refine zx_iload_n G d_M_judge_72 rfl ?_
          refine zx_imul G d_M_judge_73 ?_
          refine zx_iadd G d_M_judge_74 ?_
          refine zx_lald G d_M_judge_75 za_41 (zi_12_2 hl0) h (fun h => ?_)
          refine zx_lcmp G d_M_judge_76 ?_
          refine zx_if_ne (tgt := 100) G d_M_judge_77 rfl h (fun h => ?_) (fun h => ?_)
          · refine zx_iload_n G d_M_judge_100 rfl ?_
            exact zx_iret G d_M_judge_101 rfl h
          · refine zx_aload_n G d_M_judge_80 rfl ?_
            refine zx_getJ G d_M_judge_81 zf_M_199 zc_12_16 hl0 ?_
            refine zx_aload_n G d_M_judge_84 rfl ?_
            refine zx_getR G d_M_judge_85 zf_M_16 zc_12_2 hl0 ?_
            refine zx_iconst (v := 0) G d_M_judge_88 rfl ?_
            refine zx_iconst (v := 2) G d_M_judge_89 rfl ?_
            refine zx_iload_n G d_M_judge_90 rfl ?_
            refine zx_imul G d_M_judge_91 ?_
            refine zx_iadd G d_M_judge_92 ?_
            refine zx_iconst (v := 1) G d_M_judge_93 rfl ?_
            refine zx_iadd G d_M_judge_94 ?_
            refine zx_lald G d_M_judge_95 za_41 (zi_12_2 hl0) h (fun h => ?_)
            refine zx_lcmp G d_M_judge_96 ?_
            refine zx_if_eq (tgt := 102) G d_M_judge_97 rfl h (fun h => ?_) (fun h => ?_)
            · refine zx_iinc (v := 1) (lf := fun y => [_, _, some (.int y)]) G d_M_judge_102 (Nat.le_of_ble_eq_true rfl) rfl rfl (fun _ => rfl) h (fun x16 h => ?_)
              refine zx_goto (tgt := 22) G d_M_judge_105 rfl ?_
              exact ih22 x16 μ14 h
            · refine zx_iload_n G d_M_judge_100 rfl ?_
              exact zx_iret G d_M_judge_101 rfl h
        · refine zx_iload_n G d_M_judge_60 rfl ?_
          exact zx_iret G d_M_judge_61 rfl h
set_option maxHeartbeats 4000000 in
set_option maxRecDepth 20000 in
theorem tf_M_judge_l22 {g : ZG} {E : ZE} {N n22 : Nat} {rr : Int32 × ZMem} {p0 : Int32} {z6 : Int32} {μ7 : ZMem} (G : zGa g K_M_judge 4 E) (hl0 : (12, 0) ∈ zids) (h : f_M_judge_l22 N p0 n22 z6 μ7 = some rr) : zX g K_M_judge 4 E (some (.int rr.1), rr.2) μ7 22 [some (.ref (g.2.1 12 0)), some (.int p0), some (.int z6)] [] := tf_M_judge_l22_0 G hl0 n22 z6 μ7 h
set_option maxHeartbeats 4000000 in
set_option maxRecDepth 20000 in
theorem t_M_judge {g : ZG} {l : Launch} {N : Nat} {μ : ZMem} {p0 : Int32} {rr : Int32 × ZMem} (h : f_M_judge N μ p0 = some rr) : zT g l 4 K_M_judge [.ref (g.2.1 12 0), .int p0] μ (some (.int rr.1), rr.2) := by
  refine zT_of (by decide +kernel) (Nat.le_of_ble_eq_true rfl) (fun E G => ?_)
  show zX g K_M_judge 4 E (some (.int rr.1), rr.2) μ 0 [some (.ref (g.2.1 12 0)), some (.int p0), none] []
  unfold f_M_judge at h
  refine zx_aload_n G d_M_judge_0 rfl ?_
  refine zx_iload_n G d_M_judge_1 rfl ?_
  obtain ⟨r2, μ1, hc, h⟩ := zbnd_of h
  refine zx_callVI (r := r2) (μ2 := μ1) G d_M_judge_2 zm_M_169 (fun l => t_M_isTable  hc) rfl rfl (Nat.le_of_ble_eq_true rfl) (Nat.le_of_ble_eq_true rfl) (zrecv zo_12 (zids_of 12 (Nat.le_of_ble_eq_true rfl) 0 (Nat.le_of_ble_eq_true rfl))) ?_
  refine zx_if_ne (tgt := 11) G d_M_judge_5 rfl h (fun h => ?_) (fun h => ?_)
  · refine zx_aload_n G d_M_judge_11 rfl ?_
    obtain ⟨u9, μ3, hc, h⟩ := zbnd_of h
    refine zx_callVV  (μ2 := μ3) G d_M_judge_12 zm_M_235 (fun l => t_M_thinkNow  hc) rfl rfl (Nat.le_of_ble_eq_true rfl) (Nat.le_of_ble_eq_true rfl) (zrecv zo_12 (zids_of 12 (Nat.le_of_ble_eq_true rfl) 0 (Nat.le_of_ble_eq_true rfl))) ?_
    refine zx_aload_n G d_M_judge_15 rfl ?_
    refine zx_iload_n G d_M_judge_16 rfl ?_
    obtain ⟨u9, μ4, hc, h⟩ := zbnd_of h
    refine zx_callVV  (μ2 := μ4) G d_M_judge_17 zm_M_227 (fun l => t_M_begin  hc) rfl rfl (Nat.le_of_ble_eq_true rfl) (Nat.le_of_ble_eq_true rfl) (zrecv zo_12 (zids_of 12 (Nat.le_of_ble_eq_true rfl) 0 (Nat.le_of_ble_eq_true rfl))) ?_
    refine zx_iconst (v := 0) G d_M_judge_20 rfl ?_
    refine zx_istore_n (lf := fun y => [_, _, some (.int y)]) G d_M_judge_21 (Nat.le_of_ble_eq_true rfl) (fun _ => rfl) h (fun x5 h => ?_)
    refine tf_M_judge_l22 G (zids_of 12 (Nat.le_of_ble_eq_true rfl) 0 (Nat.le_of_ble_eq_true rfl)) h
  · refine zx_bipush (v := -2) G d_M_judge_8 rfl ?_
    exact zx_iret G d_M_judge_10 rfl h
set_option maxHeartbeats 4000000 in
set_option maxRecDepth 20000 in
theorem t_M_lastOf {g : ZG} {l : Launch} {N : Nat} {μ : ZMem} {p0 : Int32} {p1 : Int32} {rr : Int32 × ZMem} (h : f_M_lastOf N μ p0 p1 = some rr) : zT g l 2 K_M_lastOf [.ref (g.2.1 12 0), .int p0, .int p1] μ (some (.int rr.1), rr.2) := by
  refine zT_of (by decide +kernel) (Nat.le_of_ble_eq_true rfl) (fun E G => ?_)
  show zX g K_M_lastOf 2 E (some (.int rr.1), rr.2) μ 0 [some (.ref (g.2.1 12 0)), some (.int p0), some (.int p1)] []
  unfold f_M_lastOf at h
  refine zx_aload_n G d_M_lastOf_0 rfl ?_
  refine zx_iload_n G d_M_lastOf_1 rfl ?_
  refine zx_iload_n G d_M_lastOf_2 rfl ?_
  obtain ⟨r2, μ1, hc, h⟩ := zbnd_of h
  refine zx_callVI (r := r2) (μ2 := μ1) G d_M_lastOf_3 zm_M_182 (fun l => t_M_isHidden  hc) rfl rfl (Nat.le_of_ble_eq_true rfl) (Nat.le_of_ble_eq_true rfl) (zrecv zo_12 (zids_of 12 (Nat.le_of_ble_eq_true rfl) 0 (Nat.le_of_ble_eq_true rfl))) ?_
  refine zx_if_eq (tgt := 19) G d_M_lastOf_6 rfl h (fun h => ?_) (fun h => ?_)
  · refine zx_iconst (v := 0) G d_M_lastOf_19 rfl ?_
    exact zx_iret G d_M_lastOf_20 rfl h
  · refine zx_aload_n G d_M_lastOf_9 rfl ?_
    refine zx_iload_n G d_M_lastOf_10 rfl ?_
    refine zx_iload_n G d_M_lastOf_11 rfl ?_
    refine zx_iconst (v := 2) G d_M_lastOf_12 rfl ?_
    obtain ⟨r4, μ3, hc, h⟩ := zbnd_of h
    refine zx_callVI (r := r4) (μ2 := μ3) G d_M_lastOf_13 zm_M_72 (fun l => t_M_spanOf  hc) rfl rfl (Nat.le_of_ble_eq_true rfl) (Nat.le_of_ble_eq_true rfl) (zrecv zo_12 (zids_of 12 (Nat.le_of_ble_eq_true rfl) 0 (Nat.le_of_ble_eq_true rfl))) ?_
    refine zx_goto (tgt := 20) G d_M_lastOf_16 rfl ?_
    exact zx_iret G d_M_lastOf_20 rfl h
set_option maxHeartbeats 4000000 in
set_option maxRecDepth 20000 in
theorem t_M_firstOf {g : ZG} {l : Launch} {N : Nat} {μ : ZMem} {p0 : Int32} {p1 : Int32} {rr : Int32 × ZMem} (h : f_M_firstOf N μ p0 p1 = some rr) : zT g l 2 K_M_firstOf [.ref (g.2.1 12 0), .int p0, .int p1] μ (some (.int rr.1), rr.2) := by
  refine zT_of (by decide +kernel) (Nat.le_of_ble_eq_true rfl) (fun E G => ?_)
  show zX g K_M_firstOf 2 E (some (.int rr.1), rr.2) μ 0 [some (.ref (g.2.1 12 0)), some (.int p0), some (.int p1)] []
  unfold f_M_firstOf at h
  refine zx_aload_n G d_M_firstOf_0 rfl ?_
  refine zx_iload_n G d_M_firstOf_1 rfl ?_
  refine zx_iload_n G d_M_firstOf_2 rfl ?_
  obtain ⟨r2, μ1, hc, h⟩ := zbnd_of h
  refine zx_callVI (r := r2) (μ2 := μ1) G d_M_firstOf_3 zm_M_182 (fun l => t_M_isHidden  hc) rfl rfl (Nat.le_of_ble_eq_true rfl) (Nat.le_of_ble_eq_true rfl) (zrecv zo_12 (zids_of 12 (Nat.le_of_ble_eq_true rfl) 0 (Nat.le_of_ble_eq_true rfl))) ?_
  refine zx_if_eq (tgt := 19) G d_M_firstOf_6 rfl h (fun h => ?_) (fun h => ?_)
  · refine zx_iconst (v := 0) G d_M_firstOf_19 rfl ?_
    exact zx_iret G d_M_firstOf_20 rfl h
  · refine zx_aload_n G d_M_firstOf_9 rfl ?_
    refine zx_iload_n G d_M_firstOf_10 rfl ?_
    refine zx_iload_n G d_M_firstOf_11 rfl ?_
    refine zx_iconst (v := 1) G d_M_firstOf_12 rfl ?_
    obtain ⟨r4, μ3, hc, h⟩ := zbnd_of h
    refine zx_callVI (r := r4) (μ2 := μ3) G d_M_firstOf_13 zm_M_72 (fun l => t_M_spanOf  hc) rfl rfl (Nat.le_of_ble_eq_true rfl) (Nat.le_of_ble_eq_true rfl) (zrecv zo_12 (zids_of 12 (Nat.le_of_ble_eq_true rfl) 0 (Nat.le_of_ble_eq_true rfl))) ?_
    refine zx_goto (tgt := 20) G d_M_firstOf_16 rfl ?_
    exact zx_iret G d_M_firstOf_20 rfl h
set_option maxHeartbeats 4000000 in
set_option maxRecDepth 20000 in
theorem tf_M_allOf_l5_0 {g : ZG} {E : ZE} {N : Nat} {rr : Int32 × ZMem} {p0 : Int32} (G : zGa g K_M_allOf 3 E) (hl0 : (12, 0) ∈ zids) : ∀ (n5 : Nat) (z3 : Int64) (z4 : Int32) (μ5 : ZMem), f_M_allOf_l5 N p0 n5 z3 z4 μ5 = some rr → zX g K_M_allOf 3 E (some (.int rr.1), rr.2) μ5 5 [some (.ref (g.2.1 12 0)), some (.int p0), some (.long z3), none, some (.int z4)] [] := by
  intro n5
  induction n5 with
  | zero => intro z3 z4 μ5 h; cases h
  | succ n5 ih5 =>
    intro z3 z4 μ5 h
    simp only [f_M_allOf_l5] at h
    refine zx_iload G d_M_allOf_5 rfl ?_
    refine zx_iconst (v := 4) G d_M_allOf_7 rfl ?_
    refine zx_icmp_ge (tgt := 50) G d_M_allOf_8 rfl h (fun h => ?_) (fun h => ?_)
    · refine zx_lload_n G d_M_allOf_50 rfl ?_
      refine zx_l2i G d_M_allOf_51 ?_
      exact zx_iret G d_M_allOf_52 rfl h
    · refine zx_lload_n G d_M_allOf_11 rfl ?_
      refine zx_aload_n G d_M_allOf_12 rfl ?_
      refine zx_iload_n G d_M_allOf_13 rfl ?_
      refine zx_iload G d_M_allOf_14 rfl ?_
      obtain ⟨r7, μ6, hc, h⟩ := zbnd_of h
      refine zx_callVI (r := r7) (μ2 := μ6) G d_M_allOf_16 zm_M_255 (fun l => t_M_lastOf  hc) rfl rfl (Nat.le_of_ble_eq_true rfl) (Nat.le_of_ble_eq_true rfl) (zrecv zo_12 hl0) ?_
      refine zx_aload_n G d_M_allOf_19 rfl ?_
      refine zx_iload_n G d_M_allOf_20 rfl ?_
      refine zx_iload G d_M_allOf_21 rfl ?_
      obtain ⟨r9, μ8, hc, h⟩ := zbnd_of h
      refine zx_callVI (r := r9) (μ2 := μ8) G d_M_allOf_23 zm_M_258 (fun l => t_M_firstOf  hc) rfl rfl (Nat.le_of_ble_eq_true rfl) (Nat.le_of_ble_eq_true rfl) (zrecv zo_12 hl0) ?_
      refine zx_isub G d_M_allOf_26 ?_
      refine zx_iconst (v := 1) G d_M_allOf_27 rfl ?_
      refine zx_iadd G d_M_allOf_28 ?_
      refine zx_i2l G d_M_allOf_29 ?_
      refine zx_lmul G d_M_allOf_30 ?_
      refine zx_lstore_n (lf := fun y => [_, _, some (.long y), none, _]) G d_M_allOf_31 (Nat.le_of_ble_eq_true rfl) (fun _ => rfl) h (fun x10 h => ?_)
      refine zx_lload_n G d_M_allOf_32 rfl ?_
      refine zx_ldc2 (v := 20000) G d_M_allOf_33 zk_M_261 ?_
      refine zx_lcmp G d_M_allOf_36 ?_
      refine zx_if_le (tgt := 44) G d_M_allOf_37 rfl h (fun h => ?_) (fun h => ?_)
      · refine zx_iinc (v := 1) (lf := fun y => [_, _, _, none, some (.int y)]) G d_M_allOf_44 (Nat.le_of_ble_eq_true rfl) rfl rfl (fun _ => rfl) h (fun x11 h => ?_)
        refine zx_goto (tgt := 5) G d_M_allOf_47 rfl ?_
        exact ih5 x10 x11 μ8 h
      · refine zx_sipush (v := 20001) G d_M_allOf_40 rfl ?_
        exact zx_iret G d_M_allOf_43 rfl h
set_option maxHeartbeats 4000000 in
set_option maxRecDepth 20000 in
theorem tf_M_allOf_l5 {g : ZG} {E : ZE} {N n5 : Nat} {rr : Int32 × ZMem} {p0 : Int32} {z3 : Int64} {z4 : Int32} {μ5 : ZMem} (G : zGa g K_M_allOf 3 E) (hl0 : (12, 0) ∈ zids) (h : f_M_allOf_l5 N p0 n5 z3 z4 μ5 = some rr) : zX g K_M_allOf 3 E (some (.int rr.1), rr.2) μ5 5 [some (.ref (g.2.1 12 0)), some (.int p0), some (.long z3), none, some (.int z4)] [] := tf_M_allOf_l5_0 G hl0 n5 z3 z4 μ5 h
set_option maxHeartbeats 4000000 in
set_option maxRecDepth 20000 in
theorem t_M_allOf {g : ZG} {l : Launch} {N : Nat} {μ : ZMem} {p0 : Int32} {rr : Int32 × ZMem} (h : f_M_allOf N μ p0 = some rr) : zT g l 3 K_M_allOf [.ref (g.2.1 12 0), .int p0] μ (some (.int rr.1), rr.2) := by
  refine zT_of (by decide +kernel) (Nat.le_of_ble_eq_true rfl) (fun E G => ?_)
  show zX g K_M_allOf 3 E (some (.int rr.1), rr.2) μ 0 [some (.ref (g.2.1 12 0)), some (.int p0), none, none, none] []
  unfold f_M_allOf at h
  refine zx_lconst (v := 1) G d_M_allOf_0 rfl ?_
  refine zx_lstore_n (lf := fun y => [_, _, some (.long y), none, none]) G d_M_allOf_1 (Nat.le_of_ble_eq_true rfl) (fun _ => rfl) h (fun x1 h => ?_)
  refine zx_iconst (v := 0) G d_M_allOf_2 rfl ?_
  refine zx_istore (lf := fun y => [_, _, _, none, some (.int y)]) G d_M_allOf_3 (Nat.le_of_ble_eq_true rfl) (fun _ => rfl) h (fun x2 h => ?_)
  refine tf_M_allOf_l5 G (zids_of 12 (Nat.le_of_ble_eq_true rfl) 0 (Nat.le_of_ble_eq_true rfl)) h
set_option maxHeartbeats 4000000 in
set_option maxRecDepth 20000 in
theorem tf_M_thinkFirst_l2_0 {g : ZG} {E : ZE} {N : Nat} {rr : Unit × ZMem} {p0 : Int32} (G : zGa g K_M_thinkFirst 3 E) (hl0 : (12, 0) ∈ zids) : ∀ (n2 : Nat) (z2 : Int32) (μ3 : ZMem), f_M_thinkFirst_l2 N p0 n2 z2 μ3 = some rr → zX g K_M_thinkFirst 3 E (none, rr.2) μ3 2 [some (.ref (g.2.1 12 0)), some (.int p0), some (.int z2)] [] := by
  intro n2
  induction n2 with
  | zero => intro z2 μ3 h; cases h
  | succ n2 ih2 =>
    intro z2 μ3 h
    simp only [f_M_thinkFirst_l2] at h
    refine zx_iload_n G d_M_thinkFirst_2 rfl ?_
    refine zx_iconst (v := 4) G d_M_thinkFirst_3 rfl ?_
    refine zx_icmp_ge (tgt := 25) G d_M_thinkFirst_4 rfl h (fun h => ?_) (fun h => ?_)
    · exact zx_vret G d_M_thinkFirst_25 rfl h
    · refine zx_aload_n G d_M_thinkFirst_7 rfl ?_
      refine zx_getR G d_M_thinkFirst_8 zf_M_36 zc_12_17 hl0 ?_
      refine zx_iload_n G d_M_thinkFirst_11 rfl ?_
      refine zx_aload_n G d_M_thinkFirst_12 rfl ?_
      refine zx_iload_n G d_M_thinkFirst_13 rfl ?_
      refine zx_iload_n G d_M_thinkFirst_14 rfl ?_
      obtain ⟨r5, μ4, hc, h⟩ := zbnd_of h
      refine zx_callVI (r := r5) (μ2 := μ4) G d_M_thinkFirst_15 zm_M_258 (fun l => t_M_firstOf  hc) rfl rfl (Nat.le_of_ble_eq_true rfl) (Nat.le_of_ble_eq_true rfl) (zrecv zo_12 hl0) ?_
      refine zx_iast G d_M_thinkFirst_18 za_44 (zi_12_17 hl0) h (fun μ6 h => ?_)
      refine zx_iinc (v := 1) (lf := fun y => [_, _, some (.int y)]) G d_M_thinkFirst_19 (Nat.le_of_ble_eq_true rfl) rfl rfl (fun _ => rfl) h (fun x7 h => ?_)
      refine zx_goto (tgt := 2) G d_M_thinkFirst_22 rfl ?_
      exact ih2 x7 μ6 h
set_option maxHeartbeats 4000000 in
set_option maxRecDepth 20000 in
theorem tf_M_thinkFirst_l2 {g : ZG} {E : ZE} {N n2 : Nat} {rr : Unit × ZMem} {p0 : Int32} {z2 : Int32} {μ3 : ZMem} (G : zGa g K_M_thinkFirst 3 E) (hl0 : (12, 0) ∈ zids) (h : f_M_thinkFirst_l2 N p0 n2 z2 μ3 = some rr) : zX g K_M_thinkFirst 3 E (none, rr.2) μ3 2 [some (.ref (g.2.1 12 0)), some (.int p0), some (.int z2)] [] := tf_M_thinkFirst_l2_0 G hl0 n2 z2 μ3 h
set_option maxHeartbeats 4000000 in
set_option maxRecDepth 20000 in
theorem t_M_thinkFirst {g : ZG} {l : Launch} {N : Nat} {μ : ZMem} {p0 : Int32} {rr : Unit × ZMem} (h : f_M_thinkFirst N μ p0 = some rr) : zT g l 3 K_M_thinkFirst [.ref (g.2.1 12 0), .int p0] μ (none, rr.2) := by
  refine zT_of (by decide +kernel) (Nat.le_of_ble_eq_true rfl) (fun E G => ?_)
  show zX g K_M_thinkFirst 3 E (none, rr.2) μ 0 [some (.ref (g.2.1 12 0)), some (.int p0), none] []
  unfold f_M_thinkFirst at h
  refine zx_iconst (v := 0) G d_M_thinkFirst_0 rfl ?_
  refine zx_istore_n (lf := fun y => [_, _, some (.int y)]) G d_M_thinkFirst_1 (Nat.le_of_ble_eq_true rfl) (fun _ => rfl) h (fun x1 h => ?_)
  refine tf_M_thinkFirst_l2 G (zids_of 12 (Nat.le_of_ble_eq_true rfl) 0 (Nat.le_of_ble_eq_true rfl)) h
set_option maxHeartbeats 4000000 in
set_option maxRecDepth 20000 in
theorem tf_M_thinkNext_l2_0 {g : ZG} {E : ZE} {N : Nat} {rr : Unit × ZMem} {p0 : Int32} {kx21 : Int32 → ZMem → Option (Unit × ZMem)} (G : zGa g K_M_thinkNext 3 E) (hl0 : (12, 0) ∈ zids) (hkx21 : ∀ (w2 : Int32) (μ : ZMem), kx21 w2 μ = some rr → zX g K_M_thinkNext 3 E (none, rr.2) μ 21 [some (.ref (g.2.1 12 0)), none, some (.int w2)] []) : ∀ (n2 : Nat) (z2 : Int32) (μ3 : ZMem), f_M_thinkNext_l2 N p0 kx21 n2 z2 μ3 = some rr → zX g K_M_thinkNext 3 E (none, rr.2) μ3 2 [some (.ref (g.2.1 12 0)), some (.int p0), some (.int z2)] [] := by
  intro n2
  induction n2 with
  | zero => intro z2 μ3 h; cases h
  | succ n2 ih2 =>
    intro z2 μ3 h
    simp only [f_M_thinkNext_l2] at h
    refine zx_iload_n G d_M_thinkNext_2 rfl ?_
    refine zx_if_lt (tgt := 50) G d_M_thinkNext_3 rfl h (fun h => ?_) (fun h => ?_)
    · exact zx_vret G d_M_thinkNext_50 rfl h
    · refine zx_aload_n G d_M_thinkNext_6 rfl ?_
      refine zx_getR G d_M_thinkNext_7 zf_M_36 zc_12_17 hl0 ?_
      refine zx_iload_n G d_M_thinkNext_10 rfl ?_
      refine zx_iald G d_M_thinkNext_11 za_44 (zi_12_17 hl0) h (fun h => ?_)
      refine zx_aload_n G d_M_thinkNext_12 rfl ?_
      refine zx_iload_n G d_M_thinkNext_13 rfl ?_
      refine zx_iload_n G d_M_thinkNext_14 rfl ?_
      obtain ⟨r5, μ4, hc, h⟩ := zbnd_of h
      refine zx_callVI (r := r5) (μ2 := μ4) G d_M_thinkNext_15 zm_M_255 (fun l => t_M_lastOf  hc) rfl rfl (Nat.le_of_ble_eq_true rfl) (Nat.le_of_ble_eq_true rfl) (zrecv zo_12 hl0) ?_
      refine zx_icmp_ge (tgt := 32) G d_M_thinkNext_18 rfl h (fun h => ?_) (fun h => ?_)
      · refine zx_aload_n G d_M_thinkNext_32 rfl ?_
        refine zx_getR G d_M_thinkNext_33 zf_M_36 zc_12_17 hl0 ?_
        refine zx_iload_n G d_M_thinkNext_36 rfl ?_
        refine zx_aload_n G d_M_thinkNext_37 rfl ?_
        refine zx_iload_n G d_M_thinkNext_38 rfl ?_
        refine zx_iload_n G d_M_thinkNext_39 rfl ?_
        obtain ⟨r7, μ6, hc, h⟩ := zbnd_of h
        refine zx_callVI (r := r7) (μ2 := μ6) G d_M_thinkNext_40 zm_M_258 (fun l => t_M_firstOf  hc) rfl rfl (Nat.le_of_ble_eq_true rfl) (Nat.le_of_ble_eq_true rfl) (zrecv zo_12 hl0) ?_
        refine zx_iast G d_M_thinkNext_43 za_44 (zi_12_17 hl0) h (fun μ8 h => ?_)
        refine zx_iinc (v := -1) (lf := fun y => [_, _, some (.int y)]) G d_M_thinkNext_44 (Nat.le_of_ble_eq_true rfl) rfl rfl (fun _ => rfl) h (fun x9 h => ?_)
        refine zx_goto (tgt := 2) G d_M_thinkNext_47 rfl ?_
        exact ih2 x9 μ8 h
      · refine zx_weak [true, false, true] (lv2 := [_, none, _]) rfl ?_
        exact hkx21 z2 μ4 h
set_option maxHeartbeats 4000000 in
set_option maxRecDepth 20000 in
theorem tf_M_thinkNext_l2 {g : ZG} {E : ZE} {N n2 : Nat} {rr : Unit × ZMem} {p0 : Int32} {kx21 : Int32 → ZMem → Option (Unit × ZMem)} {z2 : Int32} {μ3 : ZMem} (G : zGa g K_M_thinkNext 3 E) (hl0 : (12, 0) ∈ zids) (h : f_M_thinkNext_l2 N p0 kx21 n2 z2 μ3 = some rr) (hkx21 : ∀ (w2 : Int32) (μ : ZMem), kx21 w2 μ = some rr → zX g K_M_thinkNext 3 E (none, rr.2) μ 21 [some (.ref (g.2.1 12 0)), none, some (.int w2)] []) : zX g K_M_thinkNext 3 E (none, rr.2) μ3 2 [some (.ref (g.2.1 12 0)), some (.int p0), some (.int z2)] [] := tf_M_thinkNext_l2_0 G hl0 hkx21 n2 z2 μ3 h
set_option maxHeartbeats 4000000 in
set_option maxRecDepth 20000 in
theorem t_M_thinkNext {g : ZG} {l : Launch} {N : Nat} {μ : ZMem} {p0 : Int32} {rr : Unit × ZMem} (h : f_M_thinkNext N μ p0 = some rr) : zT g l 3 K_M_thinkNext [.ref (g.2.1 12 0), .int p0] μ (none, rr.2) := by
  refine zT_of (by decide +kernel) (Nat.le_of_ble_eq_true rfl) (fun E G => ?_)
  show zX g K_M_thinkNext 3 E (none, rr.2) μ 0 [some (.ref (g.2.1 12 0)), some (.int p0), none] []
  unfold f_M_thinkNext at h
  refine zx_iconst (v := 3) G d_M_thinkNext_0 rfl ?_
  refine zx_istore_n (lf := fun y => [_, _, some (.int y)]) G d_M_thinkNext_1 (Nat.le_of_ble_eq_true rfl) (fun _ => rfl) h (fun x1 h => ?_)
  refine tf_M_thinkNext_l2 G (zids_of 12 (Nat.le_of_ble_eq_true rfl) 0 (Nat.le_of_ble_eq_true rfl)) h (fun x10 μ11 h => ?_)
  · try dsimp only at h
    refine zx_aload_n G d_M_thinkNext_21 rfl ?_
    refine zx_getR G d_M_thinkNext_22 zf_M_36 zc_12_17 (zids_of 12 (Nat.le_of_ble_eq_true rfl) 0 (Nat.le_of_ble_eq_true rfl)) ?_
    refine zx_iload_n G d_M_thinkNext_25 rfl ?_
    refine zx_dup2_11 G d_M_thinkNext_26 rfl rfl ?_
    refine zx_iald G d_M_thinkNext_27 za_44 (zi_12_17 (zids_of 12 (Nat.le_of_ble_eq_true rfl) 0 (Nat.le_of_ble_eq_true rfl))) h (fun h => ?_)
    refine zx_iconst (v := 1) G d_M_thinkNext_28 rfl ?_
    refine zx_iadd G d_M_thinkNext_29 ?_
    refine zx_iast G d_M_thinkNext_30 za_44 (zi_12_17 (zids_of 12 (Nat.le_of_ble_eq_true rfl) 0 (Nat.le_of_ble_eq_true rfl))) h (fun μ12 h => ?_)
    exact zx_vret G d_M_thinkNext_31 rfl h
set_option maxHeartbeats 4000000 in
set_option maxRecDepth 20000 in
theorem tf_M_isSame_l40_0 {g : ZG} {E : ZE} {N : Nat} {rr : Int32 × ZMem} {p0 : Int32} {x3 : Int32} {x9 : Int64} {x10 : Int64} (G : zGa g K_M_isSame 5 E) (hl0 : (12, 0) ∈ zids) : ∀ (n40 : Nat) (z12 : Int32) (μ13 : ZMem), f_M_isSame_l40 N p0 x3 x9 x10 n40 z12 μ13 = some rr → zX g K_M_isSame 5 E (some (.int rr.1), rr.2) μ13 40 [some (.ref (g.2.1 12 0)), some (.int p0), some (.int x3), some (.long x9), none, some (.long x10), none, some (.int z12)] [] := by
  intro n40
  induction n40 with
  | zero => intro z12 μ13 h; cases h
  | succ n40 ih40 =>
    intro z12 μ13 h
    simp only [f_M_isSame_l40] at h
    refine zx_iload G d_M_isSame_40 rfl ?_
    refine zx_iload_n G d_M_isSame_42 rfl ?_
    refine zx_icmp_ge (tgt := 91) G d_M_isSame_43 rfl h (fun h => ?_) (fun h => ?_)
    · refine zx_iconst (v := 1) G d_M_isSame_91 rfl ?_
      exact zx_zretK G d_M_isSame_92 rfl (by decide) h
    · refine zx_aload_n G d_M_isSame_46 rfl ?_
      refine zx_iload_n G d_M_isSame_47 rfl ?_
      obtain ⟨u9, μ14, hc, h⟩ := zbnd_of h
      refine zx_callVV  (μ2 := μ14) G d_M_isSame_48 zm_M_269 (fun l => t_M_thinkNext  hc) rfl rfl (Nat.le_of_ble_eq_true rfl) (Nat.le_of_ble_eq_true rfl) (zrecv zo_12 hl0) ?_
      refine zx_aload_n G d_M_isSame_51 rfl ?_
      refine zx_iload_n G d_M_isSame_52 rfl ?_
      refine zx_aload_n G d_M_isSame_53 rfl ?_
      refine zx_iload_n G d_M_isSame_54 rfl ?_
      obtain ⟨r16, μ15, hc, h⟩ := zbnd_of h
      refine zx_callVI (r := r16) (μ2 := μ15) G d_M_isSame_55 zm_M_172 (fun l => t_M_ordersOf  hc) rfl rfl (Nat.le_of_ble_eq_true rfl) (Nat.le_of_ble_eq_true rfl) (zrecv zo_12 hl0) ?_
      obtain ⟨r18, μ17, hc, h⟩ := zbnd_of h
      refine zx_callVI (r := r18) (μ2 := μ17) G d_M_isSame_58 zm_M_238 (fun l => t_M_goTo  hc) rfl rfl (Nat.le_of_ble_eq_true rfl) (Nat.le_of_ble_eq_true rfl) (zrecv zo_12 hl0) ?_
      refine zx_if_ge (tgt := 83) G d_M_isSame_61 rfl h (fun h => ?_) (fun h => ?_)
      · refine zx_iconst (v := 0) G d_M_isSame_83 rfl ?_
        exact zx_zretK G d_M_isSame_84 rfl (by decide) h
      · refine zx_aload_n G d_M_isSame_64 rfl ?_
        refine zx_getJ G d_M_isSame_65 zf_M_196 zc_12_15 hl0 ?_
        refine zx_lload_n G d_M_isSame_68 rfl ?_
        refine zx_lcmp G d_M_isSame_69 ?_
        refine zx_if_ne (tgt := 83) G d_M_isSame_70 rfl h (fun h => ?_) (fun h => ?_)
        · refine zx_iconst (v := 0) G d_M_isSame_83 rfl ?_
          exact zx_zretK G d_M_isSame_84 rfl (by decide) h
        · refine zx_aload_n G d_M_isSame_73 rfl ?_
          refine zx_getJ G d_M_isSame_74 zf_M_199 zc_12_16 hl0 ?_
          refine zx_lload G d_M_isSame_77 rfl ?_
          refine zx_lcmp G d_M_isSame_79 ?_
          refine zx_if_eq (tgt := 85) G d_M_isSame_80 rfl h (fun h => ?_) (fun h => ?_)
          · refine zx_iinc (v := 1) (lf := fun y => [_, _, _, _, none, _, none, some (.int y)]) G d_M_isSame_85 (Nat.le_of_ble_eq_true rfl) rfl rfl (fun _ => rfl) h (fun x19 h => ?_)
            refine zx_goto (tgt := 40) G d_M_isSame_88 rfl ?_
            exact ih40 x19 μ17 h
          · refine zx_iconst (v := 0) G d_M_isSame_83 rfl ?_
            exact zx_zretK G d_M_isSame_84 rfl (by decide) h
set_option maxHeartbeats 4000000 in
set_option maxRecDepth 20000 in
theorem tf_M_isSame_l40 {g : ZG} {E : ZE} {N n40 : Nat} {rr : Int32 × ZMem} {p0 : Int32} {x3 : Int32} {x9 : Int64} {x10 : Int64} {z12 : Int32} {μ13 : ZMem} (G : zGa g K_M_isSame 5 E) (hl0 : (12, 0) ∈ zids) (h : f_M_isSame_l40 N p0 x3 x9 x10 n40 z12 μ13 = some rr) : zX g K_M_isSame 5 E (some (.int rr.1), rr.2) μ13 40 [some (.ref (g.2.1 12 0)), some (.int p0), some (.int x3), some (.long x9), none, some (.long x10), none, some (.int z12)] [] := tf_M_isSame_l40_0 G hl0 n40 z12 μ13 h
set_option maxHeartbeats 4000000 in
set_option maxRecDepth 20000 in
theorem t_M_isSame {g : ZG} {l : Launch} {N : Nat} {μ : ZMem} {p0 : Int32} {rr : Int32 × ZMem} (h : f_M_isSame N μ p0 = some rr) : zT g l 5 K_M_isSame [.ref (g.2.1 12 0), .int p0] μ (some (.int rr.1), rr.2) := by
  refine zT_of (by decide +kernel) (Nat.le_of_ble_eq_true rfl) (fun E G => ?_)
  show zX g K_M_isSame 5 E (some (.int rr.1), rr.2) μ 0 [some (.ref (g.2.1 12 0)), some (.int p0), none, none, none, none, none, none] []
  unfold f_M_isSame at h
  refine zx_aload_n G d_M_isSame_0 rfl ?_
  refine zx_iload_n G d_M_isSame_1 rfl ?_
  obtain ⟨r2, μ1, hc, h⟩ := zbnd_of h
  refine zx_callVI (r := r2) (μ2 := μ1) G d_M_isSame_2 zm_M_263 (fun l => t_M_allOf  hc) rfl rfl (Nat.le_of_ble_eq_true rfl) (Nat.le_of_ble_eq_true rfl) (zrecv zo_12 (zids_of 12 (Nat.le_of_ble_eq_true rfl) 0 (Nat.le_of_ble_eq_true rfl))) ?_
  refine zx_istore_n (lf := fun y => [_, _, some (.int y), none, none, none, none, none]) G d_M_isSame_5 (Nat.le_of_ble_eq_true rfl) (fun _ => rfl) h (fun x3 h => ?_)
  refine zx_aload_n G d_M_isSame_6 rfl ?_
  refine zx_iload_n G d_M_isSame_7 rfl ?_
  obtain ⟨u9, μ4, hc, h⟩ := zbnd_of h
  refine zx_callVV  (μ2 := μ4) G d_M_isSame_8 zm_M_266 (fun l => t_M_thinkFirst  hc) rfl rfl (Nat.le_of_ble_eq_true rfl) (Nat.le_of_ble_eq_true rfl) (zrecv zo_12 (zids_of 12 (Nat.le_of_ble_eq_true rfl) 0 (Nat.le_of_ble_eq_true rfl))) ?_
  refine zx_aload_n G d_M_isSame_11 rfl ?_
  refine zx_iload_n G d_M_isSame_12 rfl ?_
  refine zx_aload_n G d_M_isSame_13 rfl ?_
  refine zx_iload_n G d_M_isSame_14 rfl ?_
  obtain ⟨r6, μ5, hc, h⟩ := zbnd_of h
  refine zx_callVI (r := r6) (μ2 := μ5) G d_M_isSame_15 zm_M_172 (fun l => t_M_ordersOf  hc) rfl rfl (Nat.le_of_ble_eq_true rfl) (Nat.le_of_ble_eq_true rfl) (zrecv zo_12 (zids_of 12 (Nat.le_of_ble_eq_true rfl) 0 (Nat.le_of_ble_eq_true rfl))) ?_
  obtain ⟨r8, μ7, hc, h⟩ := zbnd_of h
  refine zx_callVI (r := r8) (μ2 := μ7) G d_M_isSame_18 zm_M_238 (fun l => t_M_goTo  hc) rfl rfl (Nat.le_of_ble_eq_true rfl) (Nat.le_of_ble_eq_true rfl) (zrecv zo_12 (zids_of 12 (Nat.le_of_ble_eq_true rfl) 0 (Nat.le_of_ble_eq_true rfl))) ?_
  refine zx_if_lt (tgt := 26) G d_M_isSame_21 rfl h (fun h => ?_) (fun h => ?_)
  · refine zx_aload_n G d_M_isSame_26 rfl ?_
    refine zx_getJ G d_M_isSame_27 zf_M_196 zc_12_15 (zids_of 12 (Nat.le_of_ble_eq_true rfl) 0 (Nat.le_of_ble_eq_true rfl)) ?_
    refine zx_lstore_n (lf := fun y => [_, _, _, some (.long y), none, none, none, none]) G d_M_isSame_30 (Nat.le_of_ble_eq_true rfl) (fun _ => rfl) h (fun x9 h => ?_)
    refine zx_aload_n G d_M_isSame_31 rfl ?_
    refine zx_getJ G d_M_isSame_32 zf_M_199 zc_12_16 (zids_of 12 (Nat.le_of_ble_eq_true rfl) 0 (Nat.le_of_ble_eq_true rfl)) ?_
    refine zx_lstore (lf := fun y => [_, _, _, _, none, some (.long y), none, none]) G d_M_isSame_35 (Nat.le_of_ble_eq_true rfl) (fun _ => rfl) h (fun x10 h => ?_)
    refine zx_iconst (v := 1) G d_M_isSame_37 rfl ?_
    refine zx_istore (lf := fun y => [_, _, _, _, none, _, none, some (.int y)]) G d_M_isSame_38 (Nat.le_of_ble_eq_true rfl) (fun _ => rfl) h (fun x11 h => ?_)
    refine tf_M_isSame_l40 G (zids_of 12 (Nat.le_of_ble_eq_true rfl) 0 (Nat.le_of_ble_eq_true rfl)) h
  · refine zx_iconst (v := 0) G d_M_isSame_24 rfl ?_
    exact zx_zretK G d_M_isSame_25 rfl (by decide) h
set_option maxHeartbeats 4000000 in
set_option maxRecDepth 20000 in
theorem t_M_same {g : ZG} {l : Launch} {N : Nat} {μ : ZMem} {p0 : Int32} {rr : Int32 × ZMem} (h : f_M_same N μ p0 = some rr) : zT g l 6 K_M_same [.ref (g.2.1 12 0), .int p0] μ (some (.int rr.1), rr.2) := by
  refine zT_of (by decide +kernel) (Nat.le_of_ble_eq_true rfl) (fun E G => ?_)
  show zX g K_M_same 6 E (some (.int rr.1), rr.2) μ 0 [some (.ref (g.2.1 12 0)), some (.int p0)] []
  unfold f_M_same at h
  refine zx_aload_n G d_M_same_0 rfl ?_
  refine zx_iload_n G d_M_same_1 rfl ?_
  obtain ⟨r2, μ1, hc, h⟩ := zbnd_of h
  refine zx_callVI (r := r2) (μ2 := μ1) G d_M_same_2 zm_M_169 (fun l => t_M_isTable  hc) rfl rfl (Nat.le_of_ble_eq_true rfl) (Nat.le_of_ble_eq_true rfl) (zrecv zo_12 (zids_of 12 (Nat.le_of_ble_eq_true rfl) 0 (Nat.le_of_ble_eq_true rfl))) ?_
  refine zx_if_ne (tgt := 10) G d_M_same_5 rfl h (fun h => ?_) (fun h => ?_)
  · refine zx_aload_n G d_M_same_10 rfl ?_
    refine zx_iload_n G d_M_same_11 rfl ?_
    obtain ⟨r4, μ3, hc, h⟩ := zbnd_of h
    refine zx_callVI (r := r4) (μ2 := μ3) G d_M_same_12 zm_M_263 (fun l => t_M_allOf  hc) rfl rfl (Nat.le_of_ble_eq_true rfl) (Nat.le_of_ble_eq_true rfl) (zrecv zo_12 (zids_of 12 (Nat.le_of_ble_eq_true rfl) 0 (Nat.le_of_ble_eq_true rfl))) ?_
    refine zx_sipush (v := 20000) G d_M_same_15 rfl ?_
    refine zx_icmp_le (tgt := 24) G d_M_same_18 rfl h (fun h => ?_) (fun h => ?_)
    · refine zx_aload_n G d_M_same_24 rfl ?_
      refine zx_iload_n G d_M_same_25 rfl ?_
      obtain ⟨r6, μ5, hc, h⟩ := zbnd_of h
      refine zx_callVI (r := r6) (μ2 := μ5) G d_M_same_26 zm_M_272 (fun l => t_M_isSame  hc) rfl rfl (Nat.le_of_ble_eq_true rfl) (Nat.le_of_ble_eq_true rfl) (zrecv zo_12 (zids_of 12 (Nat.le_of_ble_eq_true rfl) 0 (Nat.le_of_ble_eq_true rfl))) ?_
      refine zx_if_eq (tgt := 36) G d_M_same_29 rfl h (fun h => ?_) (fun h => ?_)
      · refine zx_iconst (v := 0) G d_M_same_36 rfl ?_
        exact zx_iret G d_M_same_37 rfl h
      · refine zx_iconst (v := 1) G d_M_same_32 rfl ?_
        refine zx_goto (tgt := 37) G d_M_same_33 rfl ?_
        exact zx_iret G d_M_same_37 rfl h
    · refine zx_bipush (v := -2) G d_M_same_21 rfl ?_
      exact zx_iret G d_M_same_23 rfl h
  · refine zx_iconst (v := -1) G d_M_same_8 rfl ?_
    exact zx_iret G d_M_same_9 rfl h
set_option maxHeartbeats 4000000 in
set_option maxRecDepth 20000 in
theorem t_M_unlike {g : ZG} {l : Launch} {N : Nat} {μ : ZMem} {p0 : Int32} {p1 : Int32} {rr : Int32 × ZMem} (h : f_M_unlike N μ p0 p1 = some rr) : zT g l 6 K_M_unlike [.ref (g.2.1 12 0), .int p0, .int p1] μ (some (.int rr.1), rr.2) := by
  refine zT_of (by decide +kernel) (Nat.le_of_ble_eq_true rfl) (fun E G => ?_)
  show zX g K_M_unlike 6 E (some (.int rr.1), rr.2) μ 0 [some (.ref (g.2.1 12 0)), some (.int p0), some (.int p1)] []
  unfold f_M_unlike at h
  refine zx_aload_n G d_M_unlike_0 rfl ?_
  refine zx_iload_n G d_M_unlike_1 rfl ?_
  obtain ⟨r2, μ1, hc, h⟩ := zbnd_of h
  refine zx_callVI (r := r2) (μ2 := μ1) G d_M_unlike_2 zm_M_169 (fun l => t_M_isTable  hc) rfl rfl (Nat.le_of_ble_eq_true rfl) (Nat.le_of_ble_eq_true rfl) (zrecv zo_12 (zids_of 12 (Nat.le_of_ble_eq_true rfl) 0 (Nat.le_of_ble_eq_true rfl))) ?_
  refine zx_if_eq (tgt := 17) G d_M_unlike_5 rfl h (fun h => ?_) (fun h => ?_)
  · refine zx_iconst (v := -1) G d_M_unlike_17 rfl ?_
    exact zx_iret G d_M_unlike_18 rfl h
  · refine zx_iload_n G d_M_unlike_8 rfl ?_
    refine zx_iconst (v := 0) G d_M_unlike_9 rfl ?_
    refine zx_iconst (v := 3) G d_M_unlike_10 rfl ?_
    obtain ⟨r4, μ3, hc, h⟩ := zbnd_of h
    refine zx_callSI (r := r4) (μ2 := μ3) G d_M_unlike_11 zm_M_68 (fun l => t_M_isIn  hc) rfl rfl (Nat.le_of_ble_eq_true rfl) (Nat.le_of_ble_eq_true rfl) ?_
    refine zx_if_ne (tgt := 19) G d_M_unlike_14 rfl h (fun h => ?_) (fun h => ?_)
    · refine zx_aload_n G d_M_unlike_19 rfl ?_
      refine zx_iload_n G d_M_unlike_20 rfl ?_
      obtain ⟨r6, μ5, hc, h⟩ := zbnd_of h
      refine zx_callVI (r := r6) (μ2 := μ5) G d_M_unlike_21 zm_M_263 (fun l => t_M_allOf  hc) rfl rfl (Nat.le_of_ble_eq_true rfl) (Nat.le_of_ble_eq_true rfl) (zrecv zo_12 (zids_of 12 (Nat.le_of_ble_eq_true rfl) 0 (Nat.le_of_ble_eq_true rfl))) ?_
      refine zx_sipush (v := 20000) G d_M_unlike_24 rfl ?_
      refine zx_icmp_le (tgt := 33) G d_M_unlike_27 rfl h (fun h => ?_) (fun h => ?_)
      · refine zx_aload_n G d_M_unlike_33 rfl ?_
        refine zx_iload_n G d_M_unlike_34 rfl ?_
        obtain ⟨r8, μ7, hc, h⟩ := zbnd_of h
        refine zx_callVI (r := r8) (μ2 := μ7) G d_M_unlike_35 zm_M_272 (fun l => t_M_isSame  hc) rfl rfl (Nat.le_of_ble_eq_true rfl) (Nat.le_of_ble_eq_true rfl) (zrecv zo_12 (zids_of 12 (Nat.le_of_ble_eq_true rfl) 0 (Nat.le_of_ble_eq_true rfl))) ?_
        refine zx_if_eq (tgt := 45) G d_M_unlike_38 rfl h (fun h => ?_) (fun h => ?_)
        · refine zx_aload_n G d_M_unlike_45 rfl ?_
          refine zx_getR G d_M_unlike_46 zf_M_36 zc_12_17 (zids_of 12 (Nat.le_of_ble_eq_true rfl) 0 (Nat.le_of_ble_eq_true rfl)) ?_
          refine zx_iload_n G d_M_unlike_49 rfl ?_
          refine zx_iald G d_M_unlike_50 za_44 (zi_12_17 (zids_of 12 (Nat.le_of_ble_eq_true rfl) 0 (Nat.le_of_ble_eq_true rfl))) h (fun h => ?_)
          exact zx_iret G d_M_unlike_51 rfl h
        · refine zx_iconst (v := -1) G d_M_unlike_41 rfl ?_
          refine zx_goto (tgt := 51) G d_M_unlike_42 rfl ?_
          exact zx_iret G d_M_unlike_51 rfl h
      · refine zx_bipush (v := -2) G d_M_unlike_30 rfl ?_
        exact zx_iret G d_M_unlike_32 rfl h
    · refine zx_iconst (v := -1) G d_M_unlike_17 rfl ?_
      exact zx_iret G d_M_unlike_18 rfl h
set_option maxHeartbeats 4000000 in
set_option maxRecDepth 20000 in
theorem tf_M_reduced_l9_0 {g : ZG} {E : ZE} {N : Nat} {rr : Int32 × ZMem} {kx31 : Int64 → ZMem → Option (Int32 × ZMem)} (G : zGa g K_M_reduced 1 E) (hl0 : (12, 0) ∈ zids) (hkx31 : ∀ (w1 : Int64) (μ : ZMem), kx31 w1 μ = some rr → zX g K_M_reduced 1 E (some (.int rr.1), rr.2) μ 31 [some (.ref (g.2.1 12 0)), some (.long w1), none, none] []) : ∀ (n9 : Nat) (z3 : Int64) (z4 : Int32) (μ5 : ZMem), f_M_reduced_l9 N kx31 n9 z3 z4 μ5 = some rr → zX g K_M_reduced 1 E (some (.int rr.1), rr.2) μ5 9 [some (.ref (g.2.1 12 0)), some (.long z3), none, some (.int z4)] [] := by
  intro n9
  induction n9 with
  | zero => intro z3 z4 μ5 h; cases h
  | succ n9 ih9 =>
    intro z3 z4 μ5 h
    simp only [f_M_reduced_l9] at h
    refine zx_iload_n G d_M_reduced_9 rfl ?_
    refine zx_iconst (v := 5) G d_M_reduced_10 rfl ?_
    refine zx_icmp_ge (tgt := 31) G d_M_reduced_11 rfl h (fun h => ?_) (fun h => ?_)
    · refine zx_weak [true, true, false, false] (lv2 := [_, _, none, none]) rfl ?_
      exact hkx31 z3 μ5 h
    · refine zx_aload_n G d_M_reduced_14 rfl ?_
      refine zx_getR G d_M_reduced_15 zf_M_39 zc_12_18 hl0 ?_
      refine zx_iload_n G d_M_reduced_18 rfl ?_
      refine zx_lald G d_M_reduced_19 za_45 (zi_12_18 hl0) h (fun h => ?_)
      refine zx_lload_n G d_M_reduced_20 rfl ?_
      obtain ⟨r7, μ6, hc, h⟩ := zbnd_of h
      refine zx_callSJ (r := r7) (μ2 := μ6) G d_M_reduced_21 zm_M_186 (fun l => t_M_common  hc) rfl rfl (Nat.le_of_ble_eq_true rfl) (Nat.le_of_ble_eq_true rfl) ?_
      refine zx_lstore_n (lf := fun y => [_, some (.long y), none, _]) G d_M_reduced_24 (Nat.le_of_ble_eq_true rfl) (fun _ => rfl) h (fun x8 h => ?_)
      refine zx_iinc (v := 1) (lf := fun y => [_, _, none, some (.int y)]) G d_M_reduced_25 (Nat.le_of_ble_eq_true rfl) rfl rfl (fun _ => rfl) h (fun x9 h => ?_)
      refine zx_goto (tgt := 9) G d_M_reduced_28 rfl ?_
      exact ih9 x8 x9 μ6 h
set_option maxHeartbeats 4000000 in
set_option maxRecDepth 20000 in
theorem tf_M_reduced_l9 {g : ZG} {E : ZE} {N n9 : Nat} {rr : Int32 × ZMem} {kx31 : Int64 → ZMem → Option (Int32 × ZMem)} {z3 : Int64} {z4 : Int32} {μ5 : ZMem} (G : zGa g K_M_reduced 1 E) (hl0 : (12, 0) ∈ zids) (h : f_M_reduced_l9 N kx31 n9 z3 z4 μ5 = some rr) (hkx31 : ∀ (w1 : Int64) (μ : ZMem), kx31 w1 μ = some rr → zX g K_M_reduced 1 E (some (.int rr.1), rr.2) μ 31 [some (.ref (g.2.1 12 0)), some (.long w1), none, none] []) : zX g K_M_reduced 1 E (some (.int rr.1), rr.2) μ5 9 [some (.ref (g.2.1 12 0)), some (.long z3), none, some (.int z4)] [] := tf_M_reduced_l9_0 G hl0 hkx31 n9 z3 z4 μ5 h
set_option maxHeartbeats 4000000 in
set_option maxRecDepth 20000 in
theorem tf_M_reduced_l33_0 {g : ZG} {E : ZE} {N : Nat} {rr : Int32 × ZMem} {x10 : Int64} {kx55 : ZMem → Option (Int32 × ZMem)} (G : zGa g K_M_reduced 1 E) (hl0 : (12, 0) ∈ zids) (hkx55 : ∀  (μ : ZMem), kx55 μ = some rr → zX g K_M_reduced 1 E (some (.int rr.1), rr.2) μ 55 [some (.ref (g.2.1 12 0)), none, none, none] []) : ∀ (n33 : Nat) (z13 : Int32) (μ14 : ZMem), f_M_reduced_l33 N x10 kx55 n33 z13 μ14 = some rr → zX g K_M_reduced 1 E (some (.int rr.1), rr.2) μ14 33 [some (.ref (g.2.1 12 0)), some (.long x10), none, some (.int z13)] [] := by
  intro n33
  induction n33 with
  | zero => intro z13 μ14 h; cases h
  | succ n33 ih33 =>
    intro z13 μ14 h
    simp only [f_M_reduced_l33] at h
    refine zx_iload_n G d_M_reduced_33 rfl ?_
    refine zx_bipush (v := 6) G d_M_reduced_34 rfl ?_
    refine zx_icmp_ge (tgt := 55) G d_M_reduced_36 rfl h (fun h => ?_) (fun h => ?_)
    · refine zx_weak [true, false, false, false] (lv2 := [_, none, none, none]) rfl ?_
      exact hkx55 μ14 h
    · refine zx_aload_n G d_M_reduced_39 rfl ?_
      refine zx_getR G d_M_reduced_40 zf_M_39 zc_12_18 hl0 ?_
      refine zx_iload_n G d_M_reduced_43 rfl ?_
      refine zx_dup2_11 G d_M_reduced_44 rfl rfl ?_
      refine zx_lald G d_M_reduced_45 za_45 (zi_12_18 hl0) h (fun h => ?_)
      refine zx_lload_n G d_M_reduced_46 rfl ?_
      refine zx_ldiv G d_M_reduced_47 h (fun h => ?_)
      refine zx_last G d_M_reduced_48 za_45 (zi_12_18 hl0) h (fun μ15 h => ?_)
      refine zx_iinc (v := 1) (lf := fun y => [_, _, none, some (.int y)]) G d_M_reduced_49 (Nat.le_of_ble_eq_true rfl) rfl rfl (fun _ => rfl) h (fun x16 h => ?_)
      refine zx_goto (tgt := 33) G d_M_reduced_52 rfl ?_
      exact ih33 x16 μ15 h
set_option maxHeartbeats 4000000 in
set_option maxRecDepth 20000 in
theorem tf_M_reduced_l33 {g : ZG} {E : ZE} {N n33 : Nat} {rr : Int32 × ZMem} {x10 : Int64} {kx55 : ZMem → Option (Int32 × ZMem)} {z13 : Int32} {μ14 : ZMem} (G : zGa g K_M_reduced 1 E) (hl0 : (12, 0) ∈ zids) (h : f_M_reduced_l33 N x10 kx55 n33 z13 μ14 = some rr) (hkx55 : ∀  (μ : ZMem), kx55 μ = some rr → zX g K_M_reduced 1 E (some (.int rr.1), rr.2) μ 55 [some (.ref (g.2.1 12 0)), none, none, none] []) : zX g K_M_reduced 1 E (some (.int rr.1), rr.2) μ14 33 [some (.ref (g.2.1 12 0)), some (.long x10), none, some (.int z13)] [] := tf_M_reduced_l33_0 G hl0 hkx55 n33 z13 μ14 h
set_option maxHeartbeats 4000000 in
set_option maxRecDepth 20000 in
theorem tf_M_reduced_l57_0 {g : ZG} {E : ZE} {N : Nat} {rr : Int32 × ZMem} {kx96 : ZMem → Option (Int32 × ZMem)} (G : zGa g K_M_reduced 1 E) (hl0 : (12, 0) ∈ zids) (hkx96 : ∀  (μ : ZMem), kx96 μ = some rr → zX g K_M_reduced 1 E (some (.int rr.1), rr.2) μ 96 [some (.ref (g.2.1 12 0)), none, none, none] []) : ∀ (n57 : Nat) (z19 : Int32) (μ20 : ZMem), f_M_reduced_l57 N kx96 n57 z19 μ20 = some rr → zX g K_M_reduced 1 E (some (.int rr.1), rr.2) μ20 57 [some (.ref (g.2.1 12 0)), none, none, some (.int z19)] [] := by
  intro n57
  induction n57 with
  | zero => intro z19 μ20 h; cases h
  | succ n57 ih57 =>
    intro z19 μ20 h
    simp only [f_M_reduced_l57] at h
    refine zx_iload_n G d_M_reduced_57 rfl ?_
    refine zx_iconst (v := 5) G d_M_reduced_58 rfl ?_
    refine zx_icmp_ge (tgt := 96) G d_M_reduced_59 rfl h (fun h => ?_) (fun h => ?_)
    · refine zx_weak [true, false, false, false] (lv2 := [_, none, none, none]) rfl ?_
      exact hkx96 μ20 h
    · refine zx_aload_n G d_M_reduced_62 rfl ?_
      refine zx_getR G d_M_reduced_63 zf_M_39 zc_12_18 hl0 ?_
      refine zx_iload_n G d_M_reduced_66 rfl ?_
      refine zx_lald G d_M_reduced_67 za_45 (zi_12_18 hl0) h (fun h => ?_)
      refine zx_ldc2 (v := 1000000000000) G d_M_reduced_68 zk_M_190 ?_
      refine zx_lcmp G d_M_reduced_71 ?_
      refine zx_if_gt (tgt := 88) G d_M_reduced_72 rfl h (fun h => ?_) (fun h => ?_)
      · refine zx_iconst (v := 0) G d_M_reduced_88 rfl ?_
        exact zx_zretK G d_M_reduced_89 rfl (by decide) h
      · refine zx_aload_n G d_M_reduced_75 rfl ?_
        refine zx_getR G d_M_reduced_76 zf_M_39 zc_12_18 hl0 ?_
        refine zx_iload_n G d_M_reduced_79 rfl ?_
        refine zx_lald G d_M_reduced_80 za_45 (zi_12_18 hl0) h (fun h => ?_)
        refine zx_ldc2 (v := -1000000000000) G d_M_reduced_81 zk_M_192 ?_
        refine zx_lcmp G d_M_reduced_84 ?_
        refine zx_if_ge (tgt := 90) G d_M_reduced_85 rfl h (fun h => ?_) (fun h => ?_)
        · refine zx_iinc (v := 1) (lf := fun y => [_, none, none, some (.int y)]) G d_M_reduced_90 (Nat.le_of_ble_eq_true rfl) rfl rfl (fun _ => rfl) h (fun x21 h => ?_)
          refine zx_goto (tgt := 57) G d_M_reduced_93 rfl ?_
          exact ih57 x21 μ20 h
        · refine zx_iconst (v := 0) G d_M_reduced_88 rfl ?_
          exact zx_zretK G d_M_reduced_89 rfl (by decide) h
set_option maxHeartbeats 4000000 in
set_option maxRecDepth 20000 in
theorem tf_M_reduced_l57 {g : ZG} {E : ZE} {N n57 : Nat} {rr : Int32 × ZMem} {kx96 : ZMem → Option (Int32 × ZMem)} {z19 : Int32} {μ20 : ZMem} (G : zGa g K_M_reduced 1 E) (hl0 : (12, 0) ∈ zids) (h : f_M_reduced_l57 N kx96 n57 z19 μ20 = some rr) (hkx96 : ∀  (μ : ZMem), kx96 μ = some rr → zX g K_M_reduced 1 E (some (.int rr.1), rr.2) μ 96 [some (.ref (g.2.1 12 0)), none, none, none] []) : zX g K_M_reduced 1 E (some (.int rr.1), rr.2) μ20 57 [some (.ref (g.2.1 12 0)), none, none, some (.int z19)] [] := tf_M_reduced_l57_0 G hl0 hkx96 n57 z19 μ20 h
set_option maxHeartbeats 4000000 in
set_option maxRecDepth 20000 in
theorem t_M_reduced {g : ZG} {l : Launch} {N : Nat} {μ : ZMem} {rr : Int32 × ZMem} (h : f_M_reduced N μ = some rr) : zT g l 1 K_M_reduced [.ref (g.2.1 12 0)] μ (some (.int rr.1), rr.2) := by
  refine zT_of (by decide +kernel) (Nat.le_of_ble_eq_true rfl) (fun E G => ?_)
  show zX g K_M_reduced 1 E (some (.int rr.1), rr.2) μ 0 [some (.ref (g.2.1 12 0)), none, none, none] []
  unfold f_M_reduced at h
  refine zx_aload_n G d_M_reduced_0 rfl ?_
  refine zx_getR G d_M_reduced_1 zf_M_39 zc_12_18 (zids_of 12 (Nat.le_of_ble_eq_true rfl) 0 (Nat.le_of_ble_eq_true rfl)) ?_
  refine zx_iconst (v := 5) G d_M_reduced_4 rfl ?_
  refine zx_lald G d_M_reduced_5 za_45 (zi_12_18 (zids_of 12 (Nat.le_of_ble_eq_true rfl) 0 (Nat.le_of_ble_eq_true rfl))) h (fun h => ?_)
  refine zx_lstore_n (lf := fun y => [_, some (.long y), none, none]) G d_M_reduced_6 (Nat.le_of_ble_eq_true rfl) (fun _ => rfl) h (fun x1 h => ?_)
  refine zx_iconst (v := 0) G d_M_reduced_7 rfl ?_
  refine zx_istore_n (lf := fun y => [_, _, none, some (.int y)]) G d_M_reduced_8 (Nat.le_of_ble_eq_true rfl) (fun _ => rfl) h (fun x2 h => ?_)
  refine tf_M_reduced_l9 G (zids_of 12 (Nat.le_of_ble_eq_true rfl) 0 (Nat.le_of_ble_eq_true rfl)) h (fun x10 μ11 h => ?_)
  · try dsimp only at h
    refine zx_iconst (v := 0) G d_M_reduced_31 rfl ?_
    refine zx_istore_n (lf := fun y => [_, _, none, some (.int y)]) G d_M_reduced_32 (Nat.le_of_ble_eq_true rfl) (fun _ => rfl) h (fun x12 h => ?_)
    refine tf_M_reduced_l33 G (zids_of 12 (Nat.le_of_ble_eq_true rfl) 0 (Nat.le_of_ble_eq_true rfl)) h (fun μ17 h => ?_)
    · try dsimp only at h
      refine zx_iconst (v := 0) G d_M_reduced_55 rfl ?_
      refine zx_istore_n (lf := fun y => [_, none, none, some (.int y)]) G d_M_reduced_56 (Nat.le_of_ble_eq_true rfl) (fun _ => rfl) h (fun x18 h => ?_)
      refine tf_M_reduced_l57 G (zids_of 12 (Nat.le_of_ble_eq_true rfl) 0 (Nat.le_of_ble_eq_true rfl)) h (fun μ22 h => ?_)
      · try dsimp only at h
        refine zx_aload_n G d_M_reduced_96 rfl ?_
        refine zx_getR G d_M_reduced_97 zf_M_39 zc_12_18 (zids_of 12 (Nat.le_of_ble_eq_true rfl) 0 (Nat.le_of_ble_eq_true rfl)) ?_
        refine zx_iconst (v := 5) G d_M_reduced_100 rfl ?_
        refine zx_lald G d_M_reduced_101 za_45 (zi_12_18 (zids_of 12 (Nat.le_of_ble_eq_true rfl) 0 (Nat.le_of_ble_eq_true rfl))) h (fun h => ?_)
        refine zx_ldc2 (v := 1000000) G d_M_reduced_102 zk_M_194 ?_
        refine zx_lcmp G d_M_reduced_105 ?_
        refine zx_if_gt (tgt := 113) G d_M_reduced_106 rfl h (fun h => ?_) (fun h => ?_)
        · refine zx_iconst (v := 0) G d_M_reduced_113 rfl ?_
          exact zx_zretK G d_M_reduced_114 rfl (by decide) h
        · refine zx_iconst (v := 1) G d_M_reduced_109 rfl ?_
          refine zx_goto (tgt := 114) G d_M_reduced_110 rfl ?_
          exact zx_zretK G d_M_reduced_114 rfl (by decide) h
set_option maxHeartbeats 4000000 in
set_option maxRecDepth 20000 in
theorem t_M_isNumber {g : ZG} {l : Launch} {N : Nat} {μ : ZMem} {rr : Int32 × ZMem} (h : f_M_isNumber N μ = some rr) : zT g l 0 K_M_isNumber [.ref (g.2.1 12 0)] μ (some (.int rr.1), rr.2) := by
  refine zT_of (by decide +kernel) (Nat.le_of_ble_eq_true rfl) (fun E G => ?_)
  show zX g K_M_isNumber 0 E (some (.int rr.1), rr.2) μ 0 [some (.ref (g.2.1 12 0))] []
  unfold f_M_isNumber at h
  refine zx_aload_n G d_M_isNumber_0 rfl ?_
  refine zx_getR G d_M_isNumber_1 zf_M_39 zc_12_18 (zids_of 12 (Nat.le_of_ble_eq_true rfl) 0 (Nat.le_of_ble_eq_true rfl)) ?_
  refine zx_iconst (v := 0) G d_M_isNumber_4 rfl ?_
  refine zx_lald G d_M_isNumber_5 za_45 (zi_12_18 (zids_of 12 (Nat.le_of_ble_eq_true rfl) 0 (Nat.le_of_ble_eq_true rfl))) h (fun h => ?_)
  refine zx_lconst (v := 0) G d_M_isNumber_6 rfl ?_
  refine zx_lcmp G d_M_isNumber_7 ?_
  refine zx_if_ne (tgt := 48) G d_M_isNumber_8 rfl h (fun h => ?_) (fun h => ?_)
  · refine zx_iconst (v := 0) G d_M_isNumber_48 rfl ?_
    exact zx_zretK G d_M_isNumber_49 rfl (by decide) h
  · refine zx_aload_n G d_M_isNumber_11 rfl ?_
    refine zx_getR G d_M_isNumber_12 zf_M_39 zc_12_18 (zids_of 12 (Nat.le_of_ble_eq_true rfl) 0 (Nat.le_of_ble_eq_true rfl)) ?_
    refine zx_iconst (v := 1) G d_M_isNumber_15 rfl ?_
    refine zx_lald G d_M_isNumber_16 za_45 (zi_12_18 (zids_of 12 (Nat.le_of_ble_eq_true rfl) 0 (Nat.le_of_ble_eq_true rfl))) h (fun h => ?_)
    refine zx_lconst (v := 0) G d_M_isNumber_17 rfl ?_
    refine zx_lcmp G d_M_isNumber_18 ?_
    refine zx_if_ne (tgt := 48) G d_M_isNumber_19 rfl h (fun h => ?_) (fun h => ?_)
    · refine zx_iconst (v := 0) G d_M_isNumber_48 rfl ?_
      exact zx_zretK G d_M_isNumber_49 rfl (by decide) h
    · refine zx_aload_n G d_M_isNumber_22 rfl ?_
      refine zx_getR G d_M_isNumber_23 zf_M_39 zc_12_18 (zids_of 12 (Nat.le_of_ble_eq_true rfl) 0 (Nat.le_of_ble_eq_true rfl)) ?_
      refine zx_iconst (v := 2) G d_M_isNumber_26 rfl ?_
      refine zx_lald G d_M_isNumber_27 za_45 (zi_12_18 (zids_of 12 (Nat.le_of_ble_eq_true rfl) 0 (Nat.le_of_ble_eq_true rfl))) h (fun h => ?_)
      refine zx_lconst (v := 0) G d_M_isNumber_28 rfl ?_
      refine zx_lcmp G d_M_isNumber_29 ?_
      refine zx_if_ne (tgt := 48) G d_M_isNumber_30 rfl h (fun h => ?_) (fun h => ?_)
      · refine zx_iconst (v := 0) G d_M_isNumber_48 rfl ?_
        exact zx_zretK G d_M_isNumber_49 rfl (by decide) h
      · refine zx_aload_n G d_M_isNumber_33 rfl ?_
        refine zx_getR G d_M_isNumber_34 zf_M_39 zc_12_18 (zids_of 12 (Nat.le_of_ble_eq_true rfl) 0 (Nat.le_of_ble_eq_true rfl)) ?_
        refine zx_iconst (v := 3) G d_M_isNumber_37 rfl ?_
        refine zx_lald G d_M_isNumber_38 za_45 (zi_12_18 (zids_of 12 (Nat.le_of_ble_eq_true rfl) 0 (Nat.le_of_ble_eq_true rfl))) h (fun h => ?_)
        refine zx_lconst (v := 0) G d_M_isNumber_39 rfl ?_
        refine zx_lcmp G d_M_isNumber_40 ?_
        refine zx_if_ne (tgt := 48) G d_M_isNumber_41 rfl h (fun h => ?_) (fun h => ?_)
        · refine zx_iconst (v := 0) G d_M_isNumber_48 rfl ?_
          exact zx_zretK G d_M_isNumber_49 rfl (by decide) h
        · refine zx_iconst (v := 1) G d_M_isNumber_44 rfl ?_
          refine zx_goto (tgt := 49) G d_M_isNumber_45 rfl ?_
          exact zx_zretK G d_M_isNumber_49 rfl (by decide) h
set_option maxHeartbeats 4000000 in
set_option maxRecDepth 20000 in
theorem tf_M_proves_l166_0 {g : ZG} {E : ZE} {N : Nat} {rr : Int32 × ZMem} {p1 : Int32} {kx190 : ZMem → Option (Int32 × ZMem)} (G : zGa g K_M_proves 2 E) (hl0 : (12, 0) ∈ zids) (hkx190 : ∀  (μ : ZMem), kx190 μ = some rr → zX g K_M_proves 2 E (some (.int rr.1), rr.2) μ 190 [some (.ref (g.2.1 12 0)), none, none, none, none] []) : ∀ (n166 : Nat) (z30 : Int32) (μ31 : ZMem), f_M_proves_l166 N p1 kx190 n166 z30 μ31 = some rr → zX g K_M_proves 2 E (some (.int rr.1), rr.2) μ31 166 [some (.ref (g.2.1 12 0)), none, some (.int p1), none, some (.int z30)] [] := by
  intro n166
  induction n166 with
  | zero => intro z30 μ31 h; cases h
  | succ n166 ih166 =>
    intro z30 μ31 h
    simp only [f_M_proves_l166] at h
    refine zx_iload G d_M_proves_166 rfl ?_
    refine zx_iconst (v := 5) G d_M_proves_168 rfl ?_
    refine zx_icmp_ge (tgt := 190) G d_M_proves_169 rfl h (fun h => ?_) (fun h => ?_)
    · refine zx_weak [true, false, false, false, false] (lv2 := [_, none, none, none, none]) rfl ?_
      exact hkx190 μ31 h
    · refine zx_aload_n G d_M_proves_172 rfl ?_
      refine zx_getR G d_M_proves_173 zf_M_39 zc_12_18 hl0 ?_
      refine zx_iload G d_M_proves_176 rfl ?_
      refine zx_dup2_11 G d_M_proves_178 rfl rfl ?_
      refine zx_lald G d_M_proves_179 za_45 (zi_12_18 hl0) h (fun h => ?_)
      refine zx_iload_n G d_M_proves_180 rfl ?_
      refine zx_i2l G d_M_proves_181 ?_
      refine zx_lmul G d_M_proves_182 ?_
      refine zx_last G d_M_proves_183 za_45 (zi_12_18 hl0) h (fun μ32 h => ?_)
      refine zx_iinc (v := 1) (lf := fun y => [_, none, _, none, some (.int y)]) G d_M_proves_184 (Nat.le_of_ble_eq_true rfl) rfl rfl (fun _ => rfl) h (fun x33 h => ?_)
      refine zx_goto (tgt := 166) G d_M_proves_187 rfl ?_
      exact ih166 x33 μ32 h
set_option maxHeartbeats 4000000 in
set_option maxRecDepth 20000 in
theorem tf_M_proves_l166 {g : ZG} {E : ZE} {N n166 : Nat} {rr : Int32 × ZMem} {p1 : Int32} {kx190 : ZMem → Option (Int32 × ZMem)} {z30 : Int32} {μ31 : ZMem} (G : zGa g K_M_proves 2 E) (hl0 : (12, 0) ∈ zids) (h : f_M_proves_l166 N p1 kx190 n166 z30 μ31 = some rr) (hkx190 : ∀  (μ : ZMem), kx190 μ = some rr → zX g K_M_proves 2 E (some (.int rr.1), rr.2) μ 190 [some (.ref (g.2.1 12 0)), none, none, none, none] []) : zX g K_M_proves 2 E (some (.int rr.1), rr.2) μ31 166 [some (.ref (g.2.1 12 0)), none, some (.int p1), none, some (.int z30)] [] := tf_M_proves_l166_0 G hl0 hkx190 n166 z30 μ31 h
set_option maxHeartbeats 4000000 in
set_option maxRecDepth 20000 in
theorem t_M_proves {g : ZG} {l : Launch} {N : Nat} {μ : ZMem} {p0 : Int32} {p1 : Int32} {rr : Int32 × ZMem} (h : f_M_proves N μ p0 p1 = some rr) : zT g l 2 K_M_proves [.ref (g.2.1 12 0), .int p0, .int p1] μ (some (.int rr.1), rr.2) := by
  refine zT_of (by decide +kernel) (Nat.le_of_ble_eq_true rfl) (fun E G => ?_)
  show zX g K_M_proves 2 E (some (.int rr.1), rr.2) μ 0 [some (.ref (g.2.1 12 0)), some (.int p0), some (.int p1), none, none] []
  unfold f_M_proves at h
  refine zx_iload_n G d_M_proves_0 rfl ?_
  refine zx_sipush (v := 10000) G d_M_proves_1 rfl ?_
  refine zx_isub G d_M_proves_4 ?_
  refine zx_istore_n (lf := fun y => [_, _, _, some (.int y), none]) G d_M_proves_5 (Nat.le_of_ble_eq_true rfl) (fun _ => rfl) h (fun x1 h => ?_)
  refine zx_iload_n G d_M_proves_6 rfl ?_
  refine zx_if h (fun c2 h => ?_) (fun c2 h => ?_)
  · refine zx_sw (tgt := 36) G d_M_proves_7 c2 (by decide) (by decide) rfl rfl ?_
    refine zx_aload_n G d_M_proves_36 rfl ?_
    refine zx_getR G d_M_proves_37 zf_M_39 zc_12_18 (zids_of 12 (Nat.le_of_ble_eq_true rfl) 0 (Nat.le_of_ble_eq_true rfl)) ?_
    refine zx_iload_n G d_M_proves_40 rfl ?_
    refine zx_join (P := fun k => ∀ (y3 : Int32) (μ4 : ZMem), k y3 μ4 = some rr → zX g K_M_proves 2 E (some (.int rr.1), rr.2) μ4 49 [some (.ref (g.2.1 12 0)), none, some (.int p1), some (.int x1), none] [.int y3, .ref (g.2.1 45 0)]) h (fun y3 μ4 h => ?_) (fun k5 hk5 h => ?_)
    · try dsimp only at h
      refine zx_dup2_11 G d_M_proves_49 rfl rfl ?_
      refine zx_lald G d_M_proves_50 za_45 (zi_12_18 (zids_of 12 (Nat.le_of_ble_eq_true rfl) 0 (Nat.le_of_ble_eq_true rfl))) h (fun h => ?_)
      refine zx_iload_n G d_M_proves_51 rfl ?_
      refine zx_join (P := fun k => ∀ (y6 : Int64) (μ7 : ZMem), k y6 μ7 = some rr → zX g K_M_proves 2 E (some (.int rr.1), rr.2) μ7 73 [some (.ref (g.2.1 12 0)), none, none, none, none] [.long y6, .long (μ4.2 45 0 y3.toNatClampNeg), .int y3, .ref (g.2.1 45 0)]) h (fun y6 μ7 h => ?_) (fun k8 hk8 h => ?_)
      · try dsimp only at h
        refine zx_ladd G d_M_proves_73 ?_
        refine zx_last G d_M_proves_74 za_45 (zi_12_18 (zids_of 12 (Nat.le_of_ble_eq_true rfl) 0 (Nat.le_of_ble_eq_true rfl))) h (fun μ9 h => ?_)
        refine zx_aload_n G d_M_proves_75 rfl ?_
        obtain ⟨r11, μ10, hc, h⟩ := zbnd_of h
        refine zx_callVI (r := r11) (μ2 := μ10) G d_M_proves_76 zm_M_275 (fun l => t_M_reduced  hc) rfl rfl (Nat.le_of_ble_eq_true rfl) (Nat.le_of_ble_eq_true rfl) (zrecv zo_12 (zids_of 12 (Nat.le_of_ble_eq_true rfl) 0 (Nat.le_of_ble_eq_true rfl))) ?_
        exact zx_zret G d_M_proves_79 rfl h
      try dsimp only at h
      refine zx_if_ge (tgt := 67) G d_M_proves_52 rfl h (fun h => ?_) (fun h => ?_)
      · refine zx_aload_n G d_M_proves_67 rfl ?_
        refine zx_getR G d_M_proves_68 zf_M_39 zc_12_18 (zids_of 12 (Nat.le_of_ble_eq_true rfl) 0 (Nat.le_of_ble_eq_true rfl)) ?_
        refine zx_iconst (v := 5) G d_M_proves_71 rfl ?_
        refine zx_lald G d_M_proves_72 za_45 (zi_12_18 (zids_of 12 (Nat.le_of_ble_eq_true rfl) 0 (Nat.le_of_ble_eq_true rfl))) h (fun h => ?_)
        refine zx_weak [true, false, false, false, false] (lv2 := [_, none, none, none, none]) rfl ?_
        exact hk8 (μ4.2 45 0 (5 : Int32).toNatClampNeg) μ4 h
      · refine zx_iload_n G d_M_proves_55 rfl ?_
        refine zx_i2l G d_M_proves_56 ?_
        refine zx_aload_n G d_M_proves_57 rfl ?_
        refine zx_getR G d_M_proves_58 zf_M_39 zc_12_18 (zids_of 12 (Nat.le_of_ble_eq_true rfl) 0 (Nat.le_of_ble_eq_true rfl)) ?_
        refine zx_iconst (v := 5) G d_M_proves_61 rfl ?_
        refine zx_lald G d_M_proves_62 za_45 (zi_12_18 (zids_of 12 (Nat.le_of_ble_eq_true rfl) 0 (Nat.le_of_ble_eq_true rfl))) h (fun h => ?_)
        refine zx_lmul G d_M_proves_63 ?_
        refine zx_goto (tgt := 73) G d_M_proves_64 rfl ?_
        refine zx_weak [true, false, false, false, false] (lv2 := [_, none, none, none, none]) rfl ?_
        exact hk8 (p1.toInt64 * (μ4.2 45 0 (5 : Int32).toNatClampNeg)) μ4 h
    try dsimp only at h
    refine zx_if_ge (tgt := 48) G d_M_proves_41 rfl h (fun h => ?_) (fun h => ?_)
    · refine zx_iload_n G d_M_proves_48 rfl ?_
      refine zx_weak [true, false, true, true, false] (lv2 := [_, none, _, _, none]) rfl ?_
      exact hk5 x1 μ h
    · refine zx_iconst (v := 4) G d_M_proves_44 rfl ?_
      refine zx_goto (tgt := 49) G d_M_proves_45 rfl ?_
      refine zx_weak [true, false, true, true, false] (lv2 := [_, none, _, _, none]) rfl ?_
      exact hk5 (4 : Int32) μ h
  · skip
    refine zx_if h (fun c12 h => ?_) (fun c12 h => ?_)
    · refine zx_sw (tgt := 80) G d_M_proves_7 c12 (by decide) (by decide) rfl rfl ?_
      refine zx_aload_n G d_M_proves_80 rfl ?_
      refine zx_getR G d_M_proves_81 zf_M_39 zc_12_18 (zids_of 12 (Nat.le_of_ble_eq_true rfl) 0 (Nat.le_of_ble_eq_true rfl)) ?_
      refine zx_iload_n G d_M_proves_84 rfl ?_
      refine zx_join (P := fun k => ∀ (y13 : Int32) (μ14 : ZMem), k y13 μ14 = some rr → zX g K_M_proves 2 E (some (.int rr.1), rr.2) μ14 93 [some (.ref (g.2.1 12 0)), none, some (.int p1), some (.int x1), none] [.int y13, .ref (g.2.1 45 0)]) h (fun y13 μ14 h => ?_) (fun k15 hk15 h => ?_)
      · try dsimp only at h
        refine zx_dup2_11 G d_M_proves_93 rfl rfl ?_
        refine zx_lald G d_M_proves_94 za_45 (zi_12_18 (zids_of 12 (Nat.le_of_ble_eq_true rfl) 0 (Nat.le_of_ble_eq_true rfl))) h (fun h => ?_)
        refine zx_iload_n G d_M_proves_95 rfl ?_
        refine zx_join (P := fun k => ∀ (y16 : Int64) (μ17 : ZMem), k y16 μ17 = some rr → zX g K_M_proves 2 E (some (.int rr.1), rr.2) μ17 117 [some (.ref (g.2.1 12 0)), none, none, none, none] [.long y16, .long (μ14.2 45 0 y13.toNatClampNeg), .int y13, .ref (g.2.1 45 0)]) h (fun y16 μ17 h => ?_) (fun k18 hk18 h => ?_)
        · try dsimp only at h
          refine zx_lsub G d_M_proves_117 ?_
          refine zx_last G d_M_proves_118 za_45 (zi_12_18 (zids_of 12 (Nat.le_of_ble_eq_true rfl) 0 (Nat.le_of_ble_eq_true rfl))) h (fun μ19 h => ?_)
          refine zx_aload_n G d_M_proves_119 rfl ?_
          obtain ⟨r21, μ20, hc, h⟩ := zbnd_of h
          refine zx_callVI (r := r21) (μ2 := μ20) G d_M_proves_120 zm_M_275 (fun l => t_M_reduced  hc) rfl rfl (Nat.le_of_ble_eq_true rfl) (Nat.le_of_ble_eq_true rfl) (zrecv zo_12 (zids_of 12 (Nat.le_of_ble_eq_true rfl) 0 (Nat.le_of_ble_eq_true rfl))) ?_
          exact zx_zret G d_M_proves_123 rfl h
        try dsimp only at h
        refine zx_if_ge (tgt := 111) G d_M_proves_96 rfl h (fun h => ?_) (fun h => ?_)
        · refine zx_aload_n G d_M_proves_111 rfl ?_
          refine zx_getR G d_M_proves_112 zf_M_39 zc_12_18 (zids_of 12 (Nat.le_of_ble_eq_true rfl) 0 (Nat.le_of_ble_eq_true rfl)) ?_
          refine zx_iconst (v := 5) G d_M_proves_115 rfl ?_
          refine zx_lald G d_M_proves_116 za_45 (zi_12_18 (zids_of 12 (Nat.le_of_ble_eq_true rfl) 0 (Nat.le_of_ble_eq_true rfl))) h (fun h => ?_)
          refine zx_weak [true, false, false, false, false] (lv2 := [_, none, none, none, none]) rfl ?_
          exact hk18 (μ14.2 45 0 (5 : Int32).toNatClampNeg) μ14 h
        · refine zx_iload_n G d_M_proves_99 rfl ?_
          refine zx_i2l G d_M_proves_100 ?_
          refine zx_aload_n G d_M_proves_101 rfl ?_
          refine zx_getR G d_M_proves_102 zf_M_39 zc_12_18 (zids_of 12 (Nat.le_of_ble_eq_true rfl) 0 (Nat.le_of_ble_eq_true rfl)) ?_
          refine zx_iconst (v := 5) G d_M_proves_105 rfl ?_
          refine zx_lald G d_M_proves_106 za_45 (zi_12_18 (zids_of 12 (Nat.le_of_ble_eq_true rfl) 0 (Nat.le_of_ble_eq_true rfl))) h (fun h => ?_)
          refine zx_lmul G d_M_proves_107 ?_
          refine zx_goto (tgt := 117) G d_M_proves_108 rfl ?_
          refine zx_weak [true, false, false, false, false] (lv2 := [_, none, none, none, none]) rfl ?_
          exact hk18 (p1.toInt64 * (μ14.2 45 0 (5 : Int32).toNatClampNeg)) μ14 h
      try dsimp only at h
      refine zx_if_ge (tgt := 92) G d_M_proves_85 rfl h (fun h => ?_) (fun h => ?_)
      · refine zx_iload_n G d_M_proves_92 rfl ?_
        refine zx_weak [true, false, true, true, false] (lv2 := [_, none, _, _, none]) rfl ?_
        exact hk15 x1 μ h
      · refine zx_iconst (v := 4) G d_M_proves_88 rfl ?_
        refine zx_goto (tgt := 93) G d_M_proves_89 rfl ?_
        refine zx_weak [true, false, true, true, false] (lv2 := [_, none, _, _, none]) rfl ?_
        exact hk15 (4 : Int32) μ h
    · skip
      refine zx_if h (fun c22 h => ?_) (fun c22 h => ?_)
      · refine zx_sw (tgt := 124) G d_M_proves_7 c22 (by decide) (by decide) rfl rfl ?_
        refine zx_iload_n G d_M_proves_124 rfl ?_
        refine zx_join (P := fun k => ∀ (μ23 : ZMem), k μ23 = some rr → zX g K_M_proves 2 E (some (.int rr.1), rr.2) μ23 137 [some (.ref (g.2.1 12 0)), none, some (.int p1), some (.int x1), none] []) h (fun μ23 h => ?_) (fun k24 hk24 h => ?_)
        · try dsimp only at h
          refine zx_iload_n G d_M_proves_137 rfl ?_
          refine zx_join (P := fun k => ∀ (μ25 : ZMem), k μ25 = some rr → zX g K_M_proves 2 E (some (.int rr.1), rr.2) μ25 190 [some (.ref (g.2.1 12 0)), none, none, none, none] []) h (fun μ25 h => ?_) (fun k26 hk26 h => ?_)
          · try dsimp only at h
            refine zx_aload_n G d_M_proves_190 rfl ?_
            obtain ⟨r28, μ27, hc, h⟩ := zbnd_of h
            refine zx_callVI (r := r28) (μ2 := μ27) G d_M_proves_191 zm_M_275 (fun l => t_M_reduced  hc) rfl rfl (Nat.le_of_ble_eq_true rfl) (Nat.le_of_ble_eq_true rfl) (zrecv zo_12 (zids_of 12 (Nat.le_of_ble_eq_true rfl) 0 (Nat.le_of_ble_eq_true rfl))) ?_
            exact zx_zret G d_M_proves_194 rfl h
          try dsimp only at h
          refine zx_if_lt (tgt := 163) G d_M_proves_138 rfl h (fun h => ?_) (fun h => ?_)
          · refine zx_iconst (v := 0) G d_M_proves_163 rfl ?_
            refine zx_istore (lf := fun y => [_, none, _, _, some (.int y)]) G d_M_proves_164 (Nat.le_of_ble_eq_true rfl) (fun _ => rfl) h (fun x29 h => ?_)
            refine zx_weak [true, false, true, false, true] (lv2 := [_, none, _, none, _]) rfl ?_
            refine tf_M_proves_l166 G (zids_of 12 (Nat.le_of_ble_eq_true rfl) 0 (Nat.le_of_ble_eq_true rfl)) h (fun μ34 h => ?_)
            · try dsimp only at h
              exact hk26 μ34 h
          · refine zx_aload_n G d_M_proves_141 rfl ?_
            refine zx_getR G d_M_proves_142 zf_M_39 zc_12_18 (zids_of 12 (Nat.le_of_ble_eq_true rfl) 0 (Nat.le_of_ble_eq_true rfl)) ?_
            refine zx_iload_n G d_M_proves_145 rfl ?_
            refine zx_aload_n G d_M_proves_146 rfl ?_
            refine zx_getR G d_M_proves_147 zf_M_39 zc_12_18 (zids_of 12 (Nat.le_of_ble_eq_true rfl) 0 (Nat.le_of_ble_eq_true rfl)) ?_
            refine zx_iconst (v := 4) G d_M_proves_150 rfl ?_
            refine zx_lald G d_M_proves_151 za_45 (zi_12_18 (zids_of 12 (Nat.le_of_ble_eq_true rfl) 0 (Nat.le_of_ble_eq_true rfl))) h (fun h => ?_)
            refine zx_last G d_M_proves_152 za_45 (zi_12_18 (zids_of 12 (Nat.le_of_ble_eq_true rfl) 0 (Nat.le_of_ble_eq_true rfl))) h (fun μ35 h => ?_)
            refine zx_aload_n G d_M_proves_153 rfl ?_
            refine zx_getR G d_M_proves_154 zf_M_39 zc_12_18 (zids_of 12 (Nat.le_of_ble_eq_true rfl) 0 (Nat.le_of_ble_eq_true rfl)) ?_
            refine zx_iconst (v := 4) G d_M_proves_157 rfl ?_
            refine zx_lconst (v := 0) G d_M_proves_158 rfl ?_
            refine zx_last G d_M_proves_159 za_45 (zi_12_18 (zids_of 12 (Nat.le_of_ble_eq_true rfl) 0 (Nat.le_of_ble_eq_true rfl))) h (fun μ36 h => ?_)
            refine zx_goto (tgt := 190) G d_M_proves_160 rfl ?_
            refine zx_weak [true, false, false, false, false] (lv2 := [_, none, none, none, none]) rfl ?_
            exact hk26 μ36 h
        try dsimp only at h
        refine zx_if_lt (tgt := 137) G d_M_proves_125 rfl h (fun h => ?_) (fun h => ?_)
        · refine zx_weak [true, false, true, true, false] (lv2 := [_, none, _, _, none]) rfl ?_
          exact hk24 μ h
        · refine zx_aload_n G d_M_proves_128 rfl ?_
          obtain ⟨r38, μ37, hc, h⟩ := zbnd_of h
          refine zx_callVI (r := r38) (μ2 := μ37) G d_M_proves_129 zm_M_279 (fun l => t_M_isNumber  hc) rfl rfl (Nat.le_of_ble_eq_true rfl) (Nat.le_of_ble_eq_true rfl) (zrecv zo_12 (zids_of 12 (Nat.le_of_ble_eq_true rfl) 0 (Nat.le_of_ble_eq_true rfl))) ?_
          refine zx_if_ne (tgt := 137) G d_M_proves_132 rfl h (fun h => ?_) (fun h => ?_)
          · refine zx_weak [true, false, true, true, false] (lv2 := [_, none, _, _, none]) rfl ?_
            exact hk24 μ37 h
          · refine zx_iconst (v := 0) G d_M_proves_135 rfl ?_
            exact zx_zretK G d_M_proves_136 rfl (by decide) h
      · skip
        refine zx_if h (fun c39 h => ?_) (fun c39 h => ?_)
        · refine zx_sw (tgt := 195) G d_M_proves_7 c39 (by decide) (by decide) rfl rfl ?_
          refine zx_iload_n G d_M_proves_195 rfl ?_
          refine zx_if_ge (tgt := 203) G d_M_proves_196 rfl h (fun h => ?_) (fun h => ?_)
          · refine zx_iconst (v := 0) G d_M_proves_203 rfl ?_
            exact zx_zretK G d_M_proves_204 rfl (by decide) h
          · refine zx_iload_n G d_M_proves_199 rfl ?_
            refine zx_if_ne (tgt := 205) G d_M_proves_200 rfl h (fun h => ?_) (fun h => ?_)
            · refine zx_aload_n G d_M_proves_205 rfl ?_
              refine zx_getR G d_M_proves_206 zf_M_39 zc_12_18 (zids_of 12 (Nat.le_of_ble_eq_true rfl) 0 (Nat.le_of_ble_eq_true rfl)) ?_
              refine zx_iconst (v := 5) G d_M_proves_209 rfl ?_
              refine zx_dup2_11 G d_M_proves_210 rfl rfl ?_
              refine zx_lald G d_M_proves_211 za_45 (zi_12_18 (zids_of 12 (Nat.le_of_ble_eq_true rfl) 0 (Nat.le_of_ble_eq_true rfl))) h (fun h => ?_)
              refine zx_iload_n G d_M_proves_212 rfl ?_
              refine zx_i2l G d_M_proves_213 ?_
              refine zx_lmul G d_M_proves_214 ?_
              refine zx_last G d_M_proves_215 za_45 (zi_12_18 (zids_of 12 (Nat.le_of_ble_eq_true rfl) 0 (Nat.le_of_ble_eq_true rfl))) h (fun μ40 h => ?_)
              refine zx_aload_n G d_M_proves_216 rfl ?_
              obtain ⟨r42, μ41, hc, h⟩ := zbnd_of h
              refine zx_callVI (r := r42) (μ2 := μ41) G d_M_proves_217 zm_M_275 (fun l => t_M_reduced  hc) rfl rfl (Nat.le_of_ble_eq_true rfl) (Nat.le_of_ble_eq_true rfl) (zrecv zo_12 (zids_of 12 (Nat.le_of_ble_eq_true rfl) 0 (Nat.le_of_ble_eq_true rfl))) ?_
              exact zx_zret G d_M_proves_220 rfl h
            · refine zx_iconst (v := 0) G d_M_proves_203 rfl ?_
              exact zx_zretK G d_M_proves_204 rfl (by decide) h
        · skip
          have c2 := lv_neT c2 (a := 0) rfl
          have c12 := lv_neT c12 (a := 1) rfl
          have c22 := lv_neT c22 (a := 2) rfl
          have c39 := lv_neT c39 (a := 3) rfl
          refine zx_swOut (tgt := 221) G d_M_proves_7 (by omega) rfl ?_
          refine zx_iload_n G d_M_proves_221 rfl ?_
          refine zx_bipush (v := 9) G d_M_proves_222 rfl ?_
          refine zx_icmp_ne (tgt := 231) G d_M_proves_224 rfl h (fun h => ?_) (fun h => ?_)
          · refine zx_iconst (v := 0) G d_M_proves_231 rfl ?_
            exact zx_zretK G d_M_proves_232 rfl (by decide) h
          · refine zx_iconst (v := 1) G d_M_proves_227 rfl ?_
            refine zx_goto (tgt := 232) G d_M_proves_228 rfl ?_
            exact zx_zretK G d_M_proves_232 rfl (by decide) h
