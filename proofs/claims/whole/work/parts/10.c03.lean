/-! contracts: each method does what its function says (by program: wip/whole/gen.py) -/
set_option maxHeartbeats 4000000 in
set_option maxRecDepth 20000 in
theorem tf_Parting_stepAll_l8_0 {g : ZG} {E : ZE} {N : Nat} {rr : Unit × ZMem} {p0 : Nat} {p1 : Int32} {p2 : Nat} {p3 : Nat} (G : zGa g K_Parting_stepAll 4 E) (hl0 : (10, 0) ∈ zids) (hl1 : (3, p0) ∈ zids) (hl3 : (26, p2) ∈ zids) (hl4 : (7, p3) ∈ zids) : ∀ (n8 : Nat) (z3 : Int32) (μ4 : ZMem), f_Parting_stepAll_l8 N p0 p1 p2 p3 n8 z3 μ4 = some rr → zX g K_Parting_stepAll 4 E (none, rr.2) μ4 8 [some (.ref (g.2.1 10 0)), some (.ref (g.2.1 3 p0)), some (.int p1), some (.ref (g.2.1 26 p2)), some (.ref (g.2.1 7 p3)), some (.int z3), none] [] := by
  intro n8
  induction n8 with
  | zero => intro z3 μ4 h; cases h
  | succ n8 ih8 =>
    intro z3 μ4 h
    simp only [f_Parting_stepAll_l8] at h
    refine zx_iload G d_Parting_stepAll_8 rfl ?_
    refine zx_aload_n G d_Parting_stepAll_10 rfl ?_
    refine zx_getI G d_Parting_stepAll_11 zf_Parting_34 zc_10_5 hl0 ?_
    refine zx_icmp_ge (tgt := 122) G d_Parting_stepAll_14 rfl h (fun h => ?_) (fun h => ?_)
    · exact zx_vret G d_Parting_stepAll_122 rfl h
    · refine zx_aload_n G d_Parting_stepAll_17 rfl ?_
      refine zx_getR G d_Parting_stepAll_18 zf_Parting_15 zc_10_1 hl0 ?_
      refine zx_iload G d_Parting_stepAll_21 rfl ?_
      refine zx_lald G d_Parting_stepAll_23 za_33 (zi_10_1 hl0) h (fun h => ?_)
      refine zx_lconst (v := 0) G d_Parting_stepAll_24 rfl ?_
      refine zx_lcmp G d_Parting_stepAll_25 ?_
      refine zx_join (P := fun k => ∀ (μ5 : ZMem), k μ5 = some rr → zX g K_Parting_stepAll 4 E (none, rr.2) μ5 111 [some (.ref (g.2.1 10 0)), some (.ref (g.2.1 3 p0)), some (.int p1), some (.ref (g.2.1 26 p2)), some (.ref (g.2.1 7 p3)), some (.int z3), none] []) h (fun μ5 h => ?_) (fun k6 hk6 h => ?_)
      · try dsimp only at h
        refine zx_aload_n G d_Parting_stepAll_111 rfl ?_
        refine zx_aload_n G d_Parting_stepAll_112 rfl ?_
        obtain ⟨u9, μ7, hc, h⟩ := zbnd_of h
        refine zx_callVV  (μ2 := μ7) G d_Parting_stepAll_113 zm_Parting_97 (fun l => t_Table_nextOfAll hl1 hl3 hc) rfl rfl (Nat.le_of_ble_eq_true rfl) (Nat.le_of_ble_eq_true rfl) (zrecv zo_3 hl1) ?_
        refine zx_iinc (v := 1) (lf := fun y => [_, _, _, _, _, some (.int y), none]) G d_Parting_stepAll_116 (Nat.le_of_ble_eq_true rfl) rfl rfl (fun _ => rfl) h (fun x8 h => ?_)
        refine zx_goto (tgt := 8) G d_Parting_stepAll_119 rfl ?_
        exact ih8 x8 μ7 h
      try dsimp only at h
      refine zx_if_eq (tgt := 111) G d_Parting_stepAll_26 rfl h (fun h => ?_) (fun h => ?_)
      · exact hk6 μ4 h
      · refine zx_aload G d_Parting_stepAll_29 rfl ?_
        refine zx_aload_n G d_Parting_stepAll_31 rfl ?_
        refine zx_getR G d_Parting_stepAll_32 zf_Parting_9 zc_10_0 hl0 ?_
        refine zx_iload G d_Parting_stepAll_35 rfl ?_
        refine zx_lald G d_Parting_stepAll_37 za_32 (zi_10_0 hl0) h (fun h => ?_)
        refine zx_putJ G d_Parting_stepAll_38 zq_Parting_88 zp_7_0 hl4 h (fun μ9 h => ?_)
        refine zx_aload G d_Parting_stepAll_41 rfl ?_
        refine zx_aload_n G d_Parting_stepAll_43 rfl ?_
        refine zx_getR G d_Parting_stepAll_44 zf_Parting_15 zc_10_1 hl0 ?_
        refine zx_iload G d_Parting_stepAll_47 rfl ?_
        refine zx_lald G d_Parting_stepAll_49 za_33 (zi_10_1 hl0) h (fun h => ?_)
        refine zx_putJ G d_Parting_stepAll_50 zq_Parting_94 zp_7_1 hl4 h (fun μ10 h => ?_)
        refine zx_aload G d_Parting_stepAll_53 rfl ?_
        refine zx_aload_n G d_Parting_stepAll_55 rfl ?_
        refine zx_getR G d_Parting_stepAll_56 zf_Parting_46 zc_3_0 hl1 ?_
        refine zx_getR G d_Parting_stepAll_59 zf_Parting_71 zc_4_0 (zi_3_0 hl1) ?_
        refine zx_iload_n G d_Parting_stepAll_62 rfl ?_
        refine zx_iald G d_Parting_stepAll_63 za_22 (zi_4_0 (zi_3_0 hl1)) h (fun h => ?_)
        refine zx_aload_n G d_Parting_stepAll_64 rfl ?_
        refine zx_getR G d_Parting_stepAll_65 zf_Parting_46 zc_3_0 hl1 ?_
        refine zx_iload_n G d_Parting_stepAll_68 rfl ?_
        refine zx_aload_n G d_Parting_stepAll_69 rfl ?_
        obtain ⟨r12, μ11, hc, h⟩ := zbnd_of h
        refine zx_callVI (r := r12) (μ2 := μ11) G d_Parting_stepAll_70 zm_Parting_100 (fun l => t_Orders_amount (zi_3_0 hl1) hl3 hc) rfl rfl (Nat.le_of_ble_eq_true rfl) (Nat.le_of_ble_eq_true rfl) (zrecv zo_4 (zi_3_0 hl1)) ?_
        obtain ⟨r14, μ13, hc, h⟩ := zbnd_of h
        refine zx_callVI (r := r14) (μ2 := μ13) G d_Parting_stepAll_73 zm_Parting_104 (fun l => t_Value_obey hl4 hc) rfl rfl (Nat.le_of_ble_eq_true rfl) (Nat.le_of_ble_eq_true rfl) (zrecv zo_7 hl4) ?_
        refine zx_istore (lf := fun y => [_, _, _, _, _, _, some (.int y)]) G d_Parting_stepAll_76 (Nat.le_of_ble_eq_true rfl) (fun _ => rfl) h (fun x15 h => ?_)
        refine zx_aload_n G d_Parting_stepAll_78 rfl ?_
        refine zx_getR G d_Parting_stepAll_79 zf_Parting_9 zc_10_0 hl0 ?_
        refine zx_iload G d_Parting_stepAll_82 rfl ?_
        refine zx_aload G d_Parting_stepAll_84 rfl ?_
        refine zx_getJ G d_Parting_stepAll_86 zf_Parting_88 zc_7_0 hl4 ?_
        refine zx_last G d_Parting_stepAll_89 za_32 (zi_10_0 hl0) h (fun μ16 h => ?_)
        refine zx_aload_n G d_Parting_stepAll_90 rfl ?_
        refine zx_getR G d_Parting_stepAll_91 zf_Parting_15 zc_10_1 hl0 ?_
        refine zx_iload G d_Parting_stepAll_94 rfl ?_
        refine zx_iload G d_Parting_stepAll_96 rfl ?_
        refine zx_join (P := fun k => ∀ (y17 : Int64) (μ18 : ZMem), k y17 μ18 = some rr → zX g K_Parting_stepAll 4 E (none, rr.2) μ18 110 [some (.ref (g.2.1 10 0)), some (.ref (g.2.1 3 p0)), some (.int p1), some (.ref (g.2.1 26 p2)), some (.ref (g.2.1 7 p3)), some (.int z3), none] [.long y17, .int z3, .ref (g.2.1 33 0)]) h (fun y17 μ18 h => ?_) (fun k19 hk19 h => ?_)
        · try dsimp only at h
          refine zx_last G d_Parting_stepAll_110 za_33 (zi_10_1 hl0) h (fun μ20 h => ?_)
          exact hk6 μ20 h
        try dsimp only at h
        refine zx_if_eq (tgt := 109) G d_Parting_stepAll_98 rfl h (fun h => ?_) (fun h => ?_)
        · refine zx_lconst (v := 0) G d_Parting_stepAll_109 rfl ?_
          refine zx_weak [true, true, true, true, true, true, false] (lv2 := [_, _, _, _, _, _, none]) rfl ?_
          exact hk19 (0 : Int64) μ16 h
        · refine zx_aload G d_Parting_stepAll_101 rfl ?_
          refine zx_getJ G d_Parting_stepAll_103 zf_Parting_94 zc_7_1 hl4 ?_
          refine zx_goto (tgt := 110) G d_Parting_stepAll_106 rfl ?_
          refine zx_weak [true, true, true, true, true, true, false] (lv2 := [_, _, _, _, _, _, none]) rfl ?_
          exact hk19 (μ16.2 7 p3 1) μ16 h
set_option maxHeartbeats 4000000 in
set_option maxRecDepth 20000 in
theorem tf_Parting_stepAll_l8 {g : ZG} {E : ZE} {N n8 : Nat} {rr : Unit × ZMem} {p0 : Nat} {p1 : Int32} {p2 : Nat} {p3 : Nat} {z3 : Int32} {μ4 : ZMem} (G : zGa g K_Parting_stepAll 4 E) (hl0 : (10, 0) ∈ zids) (hl1 : (3, p0) ∈ zids) (hl3 : (26, p2) ∈ zids) (hl4 : (7, p3) ∈ zids) (h : f_Parting_stepAll_l8 N p0 p1 p2 p3 n8 z3 μ4 = some rr) : zX g K_Parting_stepAll 4 E (none, rr.2) μ4 8 [some (.ref (g.2.1 10 0)), some (.ref (g.2.1 3 p0)), some (.int p1), some (.ref (g.2.1 26 p2)), some (.ref (g.2.1 7 p3)), some (.int z3), none] [] := tf_Parting_stepAll_l8_0 G hl0 hl1 hl3 hl4 n8 z3 μ4 h
set_option maxHeartbeats 4000000 in
set_option maxRecDepth 20000 in
theorem t_Parting_stepAll {g : ZG} {l : Launch} {N : Nat} {μ : ZMem} {p0 : Nat} {p1 : Int32} {p2 : Nat} {p3 : Nat} (hp0 : (3, p0) ∈ zids) (hp2 : (26, p2) ∈ zids) (hp3 : (7, p3) ∈ zids) {rr : Unit × ZMem} (h : f_Parting_stepAll N μ p0 p1 p2 p3 = some rr) : zT g l 4 K_Parting_stepAll [.ref (g.2.1 10 0), .ref (g.2.1 3 p0), .int p1, .ref (g.2.1 26 p2), .ref (g.2.1 7 p3)] μ (none, rr.2) := by
  refine zT_of (by decide +kernel) (Nat.le_of_ble_eq_true rfl) (fun E G => ?_)
  show zX g K_Parting_stepAll 4 E (none, rr.2) μ 0 [some (.ref (g.2.1 10 0)), some (.ref (g.2.1 3 p0)), some (.int p1), some (.ref (g.2.1 26 p2)), some (.ref (g.2.1 7 p3)), none, none] []
  unfold f_Parting_stepAll at h
  refine zx_aload_n G d_Parting_stepAll_0 rfl ?_
  refine zx_aload_n G d_Parting_stepAll_1 rfl ?_
  obtain ⟨u9, μ1, hc, h⟩ := zbnd_of h
  refine zx_callVV  (μ2 := μ1) G d_Parting_stepAll_2 zm_Parting_80 (fun l => t_Table_firstOfAll hp0 hp2 hc) rfl rfl (Nat.le_of_ble_eq_true rfl) (Nat.le_of_ble_eq_true rfl) (zrecv zo_3 hp0) ?_
  refine zx_iconst (v := 0) G d_Parting_stepAll_5 rfl ?_
  refine zx_istore (lf := fun y => [_, _, _, _, _, some (.int y), none]) G d_Parting_stepAll_6 (Nat.le_of_ble_eq_true rfl) (fun _ => rfl) h (fun x2 h => ?_)
  refine tf_Parting_stepAll_l8 G (zids_of 10 (Nat.le_of_ble_eq_true rfl) 0 (Nat.le_of_ble_eq_true rfl)) hp0 hp2 hp3 h
set_option maxHeartbeats 4000000 in
set_option maxRecDepth 20000 in
theorem tf_Parting_seat_l40_0 {g : ZG} {E : ZE} {N : Nat} {rr : Int32 × ZMem} {p0 : Int32} {x2 : Int64} {kx75 : Int32 → ZMem → Option (Int32 × ZMem)} (G : zGa g K_Parting_seat 0 E) (hl0 : (10, 0) ∈ zids) (hkx75 : ∀ (w5 : Int32) (μ : ZMem), kx75 w5 μ = some rr → zX g K_Parting_seat 0 E (some (.int rr.1), rr.2) μ 75 [some (.ref (g.2.1 10 0)), some (.int p0), none, none, none, some (.int w5), none] []) : ∀ (n40 : Nat) (z4 : Int32) (μ5 : ZMem), f_Parting_seat_l40 N p0 x2 kx75 n40 z4 μ5 = some rr → zX g K_Parting_seat 0 E (some (.int rr.1), rr.2) μ5 40 [some (.ref (g.2.1 10 0)), some (.int p0), some (.long x2), none, some (.int z4), none, none] [] := by
  intro n40
  induction n40 with
  | zero => intro z4 μ5 h; cases h
  | succ n40 ih40 =>
    intro z4 μ5 h
    simp only [f_Parting_seat_l40] at h
    refine zx_iload G d_Parting_seat_40 rfl ?_
    refine zx_sipush (v := 1024) G d_Parting_seat_42 rfl ?_
    refine zx_icmp_ge (tgt := 144) G d_Parting_seat_45 rfl h (fun h => ?_) (fun h => ?_)
    · refine zx_iload_n G d_Parting_seat_144 rfl ?_
      exact zx_iret G d_Parting_seat_145 rfl h
    · refine zx_lload_n G d_Parting_seat_48 rfl ?_
      refine zx_iload G d_Parting_seat_49 rfl ?_
      refine zx_i2l G d_Parting_seat_51 ?_
      refine zx_ladd G d_Parting_seat_52 ?_
      refine zx_ldc2 (v := 1023) G d_Parting_seat_53 zk_Parting_116 ?_
      refine zx_land G d_Parting_seat_56 ?_
      refine zx_l2i G d_Parting_seat_57 ?_
      refine zx_istore (lf := fun y => [_, _, _, none, _, some (.int y), none]) G d_Parting_seat_58 (Nat.le_of_ble_eq_true rfl) (fun _ => rfl) h (fun x6 h => ?_)
      refine zx_aload_n G d_Parting_seat_60 rfl ?_
      refine zx_getR G d_Parting_seat_61 zf_Parting_25 zc_10_4 hl0 ?_
      refine zx_iload G d_Parting_seat_64 rfl ?_
      refine zx_iald G d_Parting_seat_66 za_36 (zi_10_4 hl0) h (fun h => ?_)
      refine zx_istore (lf := fun y => [_, _, _, none, _, _, some (.int y)]) G d_Parting_seat_67 (Nat.le_of_ble_eq_true rfl) (fun _ => rfl) h (fun x7 h => ?_)
      refine zx_iload G d_Parting_seat_69 rfl ?_
      refine zx_iconst (v := -1) G d_Parting_seat_71 rfl ?_
      refine zx_icmp_ne (tgt := 85) G d_Parting_seat_72 rfl h (fun h => ?_) (fun h => ?_)
      · refine zx_aload_n G d_Parting_seat_85 rfl ?_
        refine zx_getR G d_Parting_seat_86 zf_Parting_18 zc_10_2 hl0 ?_
        refine zx_iload G d_Parting_seat_89 rfl ?_
        refine zx_iald G d_Parting_seat_91 za_34 (zi_10_2 hl0) h (fun h => ?_)
        refine zx_aload_n G d_Parting_seat_92 rfl ?_
        refine zx_getR G d_Parting_seat_93 zf_Parting_18 zc_10_2 hl0 ?_
        refine zx_iload_n G d_Parting_seat_96 rfl ?_
        refine zx_iald G d_Parting_seat_97 za_34 (zi_10_2 hl0) h (fun h => ?_)
        refine zx_join (P := fun k => ∀ (μ8 : ZMem), k μ8 = some rr → zX g K_Parting_seat 0 E (some (.int rr.1), rr.2) μ8 138 [some (.ref (g.2.1 10 0)), some (.int p0), some (.long x2), none, some (.int z4), none, none] []) h (fun μ8 h => ?_) (fun k9 hk9 h => ?_)
        · try dsimp only at h
          refine zx_iinc (v := 1) (lf := fun y => [_, _, _, none, some (.int y), none, none]) G d_Parting_seat_138 (Nat.le_of_ble_eq_true rfl) rfl rfl (fun _ => rfl) h (fun x10 h => ?_)
          refine zx_goto (tgt := 40) G d_Parting_seat_141 rfl ?_
          exact ih40 x10 μ8 h
        try dsimp only at h
        refine zx_icmp_ne (tgt := 138) G d_Parting_seat_98 rfl h (fun h => ?_) (fun h => ?_)
        · refine zx_weak [true, true, true, false, true, false, false] (lv2 := [_, _, _, none, _, none, none]) rfl ?_
          exact hk9 μ5 h
        · refine zx_aload_n G d_Parting_seat_101 rfl ?_
          refine zx_getR G d_Parting_seat_102 zf_Parting_9 zc_10_0 hl0 ?_
          refine zx_iload G d_Parting_seat_105 rfl ?_
          refine zx_lald G d_Parting_seat_107 za_32 (zi_10_0 hl0) h (fun h => ?_)
          refine zx_aload_n G d_Parting_seat_108 rfl ?_
          refine zx_getR G d_Parting_seat_109 zf_Parting_9 zc_10_0 hl0 ?_
          refine zx_iload_n G d_Parting_seat_112 rfl ?_
          refine zx_lald G d_Parting_seat_113 za_32 (zi_10_0 hl0) h (fun h => ?_)
          refine zx_lcmp G d_Parting_seat_114 ?_
          refine zx_if_ne (tgt := 138) G d_Parting_seat_115 rfl h (fun h => ?_) (fun h => ?_)
          · refine zx_weak [true, true, true, false, true, false, false] (lv2 := [_, _, _, none, _, none, none]) rfl ?_
            exact hk9 μ5 h
          · refine zx_aload_n G d_Parting_seat_118 rfl ?_
            refine zx_getR G d_Parting_seat_119 zf_Parting_15 zc_10_1 hl0 ?_
            refine zx_iload G d_Parting_seat_122 rfl ?_
            refine zx_lald G d_Parting_seat_124 za_33 (zi_10_1 hl0) h (fun h => ?_)
            refine zx_aload_n G d_Parting_seat_125 rfl ?_
            refine zx_getR G d_Parting_seat_126 zf_Parting_15 zc_10_1 hl0 ?_
            refine zx_iload_n G d_Parting_seat_129 rfl ?_
            refine zx_lald G d_Parting_seat_130 za_33 (zi_10_1 hl0) h (fun h => ?_)
            refine zx_lcmp G d_Parting_seat_131 ?_
            refine zx_if_ne (tgt := 138) G d_Parting_seat_132 rfl h (fun h => ?_) (fun h => ?_)
            · refine zx_weak [true, true, true, false, true, false, false] (lv2 := [_, _, _, none, _, none, none]) rfl ?_
              exact hk9 μ5 h
            · refine zx_iload G d_Parting_seat_135 rfl ?_
              exact zx_iret G d_Parting_seat_137 rfl h
      · refine zx_weak [true, true, false, false, false, true, false] (lv2 := [_, _, none, none, none, _, none]) rfl ?_
        exact hkx75 x6 μ5 h
set_option maxHeartbeats 4000000 in
set_option maxRecDepth 20000 in
theorem tf_Parting_seat_l40 {g : ZG} {E : ZE} {N n40 : Nat} {rr : Int32 × ZMem} {p0 : Int32} {x2 : Int64} {kx75 : Int32 → ZMem → Option (Int32 × ZMem)} {z4 : Int32} {μ5 : ZMem} (G : zGa g K_Parting_seat 0 E) (hl0 : (10, 0) ∈ zids) (h : f_Parting_seat_l40 N p0 x2 kx75 n40 z4 μ5 = some rr) (hkx75 : ∀ (w5 : Int32) (μ : ZMem), kx75 w5 μ = some rr → zX g K_Parting_seat 0 E (some (.int rr.1), rr.2) μ 75 [some (.ref (g.2.1 10 0)), some (.int p0), none, none, none, some (.int w5), none] []) : zX g K_Parting_seat 0 E (some (.int rr.1), rr.2) μ5 40 [some (.ref (g.2.1 10 0)), some (.int p0), some (.long x2), none, some (.int z4), none, none] [] := tf_Parting_seat_l40_0 G hl0 hkx75 n40 z4 μ5 h
set_option maxHeartbeats 4000000 in
set_option maxRecDepth 20000 in
theorem t_Parting_seat {g : ZG} {l : Launch} {N : Nat} {μ : ZMem} {p0 : Int32} {rr : Int32 × ZMem} (h : f_Parting_seat N μ p0 = some rr) : zT g l 0 K_Parting_seat [.ref (g.2.1 10 0), .int p0] μ (some (.int rr.1), rr.2) := by
  refine zT_of (by decide +kernel) (Nat.le_of_ble_eq_true rfl) (fun E G => ?_)
  show zX g K_Parting_seat 0 E (some (.int rr.1), rr.2) μ 0 [some (.ref (g.2.1 10 0)), some (.int p0), none, none, none, none, none] []
  unfold f_Parting_seat at h
  refine zx_aload_n G d_Parting_seat_0 rfl ?_
  refine zx_getR G d_Parting_seat_1 zf_Parting_9 zc_10_0 (zids_of 10 (Nat.le_of_ble_eq_true rfl) 0 (Nat.le_of_ble_eq_true rfl)) ?_
  refine zx_iload_n G d_Parting_seat_4 rfl ?_
  refine zx_lald G d_Parting_seat_5 za_32 (zi_10_0 (zids_of 10 (Nat.le_of_ble_eq_true rfl) 0 (Nat.le_of_ble_eq_true rfl))) h (fun h => ?_)
  refine zx_ldc2 (v := 31) G d_Parting_seat_6 zk_Parting_112 ?_
  refine zx_lmul G d_Parting_seat_9 ?_
  refine zx_aload_n G d_Parting_seat_10 rfl ?_
  refine zx_getR G d_Parting_seat_11 zf_Parting_15 zc_10_1 (zids_of 10 (Nat.le_of_ble_eq_true rfl) 0 (Nat.le_of_ble_eq_true rfl)) ?_
  refine zx_iload_n G d_Parting_seat_14 rfl ?_
  refine zx_lald G d_Parting_seat_15 za_33 (zi_10_1 (zids_of 10 (Nat.le_of_ble_eq_true rfl) 0 (Nat.le_of_ble_eq_true rfl))) h (fun h => ?_)
  refine zx_ladd G d_Parting_seat_16 ?_
  refine zx_ldc2 (v := 1000003) G d_Parting_seat_17 zk_Parting_114 ?_
  refine zx_lmul G d_Parting_seat_20 ?_
  refine zx_aload_n G d_Parting_seat_21 rfl ?_
  refine zx_getR G d_Parting_seat_22 zf_Parting_18 zc_10_2 (zids_of 10 (Nat.le_of_ble_eq_true rfl) 0 (Nat.le_of_ble_eq_true rfl)) ?_
  refine zx_iload_n G d_Parting_seat_25 rfl ?_
  refine zx_iald G d_Parting_seat_26 za_34 (zi_10_2 (zids_of 10 (Nat.le_of_ble_eq_true rfl) 0 (Nat.le_of_ble_eq_true rfl))) h (fun h => ?_)
  refine zx_i2l G d_Parting_seat_27 ?_
  refine zx_ladd G d_Parting_seat_28 ?_
  refine zx_lstore_n (lf := fun y => [_, _, some (.long y), none, none, none, none]) G d_Parting_seat_29 (Nat.le_of_ble_eq_true rfl) (fun _ => rfl) h (fun x1 h => ?_)
  refine zx_lload_n G d_Parting_seat_30 rfl ?_
  refine zx_lload_n G d_Parting_seat_31 rfl ?_
  refine zx_bipush (v := 20) G d_Parting_seat_32 rfl ?_
  refine zx_lushr G d_Parting_seat_34 ?_
  refine zx_lxor G d_Parting_seat_35 ?_
  refine zx_lstore_n (lf := fun y => [_, _, some (.long y), none, none, none, none]) G d_Parting_seat_36 (Nat.le_of_ble_eq_true rfl) (fun _ => rfl) h (fun x2 h => ?_)
  refine zx_iconst (v := 0) G d_Parting_seat_37 rfl ?_
  refine zx_istore (lf := fun y => [_, _, _, none, some (.int y), none, none]) G d_Parting_seat_38 (Nat.le_of_ble_eq_true rfl) (fun _ => rfl) h (fun x3 h => ?_)
  refine tf_Parting_seat_l40 G (zids_of 10 (Nat.le_of_ble_eq_true rfl) 0 (Nat.le_of_ble_eq_true rfl)) h (fun x11 μ12 h => ?_)
  · try dsimp only at h
    refine zx_aload_n G d_Parting_seat_75 rfl ?_
    refine zx_getR G d_Parting_seat_76 zf_Parting_25 zc_10_4 (zids_of 10 (Nat.le_of_ble_eq_true rfl) 0 (Nat.le_of_ble_eq_true rfl)) ?_
    refine zx_iload G d_Parting_seat_79 rfl ?_
    refine zx_iload_n G d_Parting_seat_81 rfl ?_
    refine zx_iast G d_Parting_seat_82 za_36 (zi_10_4 (zids_of 10 (Nat.le_of_ble_eq_true rfl) 0 (Nat.le_of_ble_eq_true rfl))) h (fun μ13 h => ?_)
    refine zx_iload_n G d_Parting_seat_83 rfl ?_
    exact zx_iret G d_Parting_seat_84 rfl h
set_option maxHeartbeats 4000000 in
set_option maxRecDepth 20000 in
theorem tf_Parting_countGroups_l12_0 {g : ZG} {E : ZE} {N : Nat} {rr : Int32 × ZMem} (G : zGa g K_Parting_countGroups 1 E) (hl0 : (10, 0) ∈ zids) : ∀ (n12 : Nat) (z4 : Int32) (z5 : Int32) (μ6 : ZMem), f_Parting_countGroups_l12 N n12 z4 z5 μ6 = some rr → zX g K_Parting_countGroups 1 E (some (.int rr.1), rr.2) μ6 12 [some (.ref (g.2.1 10 0)), some (.int z4), some (.int z5)] [] := by
  intro n12
  induction n12 with
  | zero => intro z4 z5 μ6 h; cases h
  | succ n12 ih12 =>
    intro z4 z5 μ6 h
    simp only [f_Parting_countGroups_l12] at h
    refine zx_iload_n G d_Parting_countGroups_12 rfl ?_
    refine zx_aload_n G d_Parting_countGroups_13 rfl ?_
    refine zx_getI G d_Parting_countGroups_14 zf_Parting_34 zc_10_5 hl0 ?_
    refine zx_icmp_ge (tgt := 66) G d_Parting_countGroups_17 rfl h (fun h => ?_) (fun h => ?_)
    · refine zx_iload_n G d_Parting_countGroups_66 rfl ?_
      exact zx_iret G d_Parting_countGroups_67 rfl h
    · refine zx_aload_n G d_Parting_countGroups_20 rfl ?_
      refine zx_getR G d_Parting_countGroups_21 zf_Parting_15 zc_10_1 hl0 ?_
      refine zx_iload_n G d_Parting_countGroups_24 rfl ?_
      refine zx_lald G d_Parting_countGroups_25 za_33 (zi_10_1 hl0) h (fun h => ?_)
      refine zx_lconst (v := 0) G d_Parting_countGroups_26 rfl ?_
      refine zx_lcmp G d_Parting_countGroups_27 ?_
      refine zx_join (P := fun k => ∀ (y7 : Int32) (μ8 : ZMem), k y7 μ8 = some rr → zX g K_Parting_countGroups 1 E (some (.int rr.1), rr.2) μ8 60 [some (.ref (g.2.1 10 0)), some (.int y7), some (.int z5)] []) h (fun y7 μ8 h => ?_) (fun k9 hk9 h => ?_)
      · try dsimp only at h
        refine zx_iinc (v := 1) (lf := fun y => [_, _, some (.int y)]) G d_Parting_countGroups_60 (Nat.le_of_ble_eq_true rfl) rfl rfl (fun _ => rfl) h (fun x10 h => ?_)
        refine zx_goto (tgt := 12) G d_Parting_countGroups_63 rfl ?_
        exact ih12 y7 x10 μ8 h
      try dsimp only at h
      refine zx_if_eq (tgt := 60) G d_Parting_countGroups_28 rfl h (fun h => ?_) (fun h => ?_)
      · exact hk9 z4 μ6 h
      · refine zx_aload_n G d_Parting_countGroups_31 rfl ?_
        refine zx_getR G d_Parting_countGroups_32 zf_Parting_22 zc_10_3 hl0 ?_
        refine zx_iload_n G d_Parting_countGroups_35 rfl ?_
        refine zx_aload_n G d_Parting_countGroups_36 rfl ?_
        refine zx_iload_n G d_Parting_countGroups_37 rfl ?_
        obtain ⟨r12, μ11, hc, h⟩ := zbnd_of h
        refine zx_callVI (r := r12) (μ2 := μ11) G d_Parting_countGroups_38 zm_Parting_108 (fun l => t_Parting_seat  hc) rfl rfl (Nat.le_of_ble_eq_true rfl) (Nat.le_of_ble_eq_true rfl) (zrecv zo_10 hl0) ?_
        refine zx_iast G d_Parting_countGroups_41 za_35 (zi_10_3 hl0) h (fun μ13 h => ?_)
        refine zx_iload_n G d_Parting_countGroups_42 rfl ?_
        refine zx_aload_n G d_Parting_countGroups_43 rfl ?_
        refine zx_getR G d_Parting_countGroups_44 zf_Parting_22 zc_10_3 hl0 ?_
        refine zx_iload_n G d_Parting_countGroups_47 rfl ?_
        refine zx_iald G d_Parting_countGroups_48 za_35 (zi_10_3 hl0) h (fun h => ?_)
        refine zx_iload_n G d_Parting_countGroups_49 rfl ?_
        refine zx_join (P := fun k => ∀ (y14 : Int32) (μ15 : ZMem), k y14 μ15 = some rr → zX g K_Parting_countGroups 1 E (some (.int rr.1), rr.2) μ15 58 [some (.ref (g.2.1 10 0)), none, some (.int z5)] [.int y14, .int z4]) h (fun y14 μ15 h => ?_) (fun k16 hk16 h => ?_)
        · try dsimp only at h
          refine zx_iadd G d_Parting_countGroups_58 ?_
          refine zx_istore_n (lf := fun y => [_, some (.int y), _]) G d_Parting_countGroups_59 (Nat.le_of_ble_eq_true rfl) (fun _ => rfl) h (fun x17 h => ?_)
          exact hk9 x17 μ15 h
        try dsimp only at h
        refine zx_icmp_ne (tgt := 57) G d_Parting_countGroups_50 rfl h (fun h => ?_) (fun h => ?_)
        · refine zx_iconst (v := 0) G d_Parting_countGroups_57 rfl ?_
          refine zx_weak [true, false, true] (lv2 := [_, none, _]) rfl ?_
          exact hk16 (0 : Int32) μ13 h
        · refine zx_iconst (v := 1) G d_Parting_countGroups_53 rfl ?_
          refine zx_goto (tgt := 58) G d_Parting_countGroups_54 rfl ?_
          refine zx_weak [true, false, true] (lv2 := [_, none, _]) rfl ?_
          exact hk16 (1 : Int32) μ13 h
set_option maxHeartbeats 4000000 in
set_option maxRecDepth 20000 in
theorem tf_Parting_countGroups_l12 {g : ZG} {E : ZE} {N n12 : Nat} {rr : Int32 × ZMem} {z4 : Int32} {z5 : Int32} {μ6 : ZMem} (G : zGa g K_Parting_countGroups 1 E) (hl0 : (10, 0) ∈ zids) (h : f_Parting_countGroups_l12 N n12 z4 z5 μ6 = some rr) : zX g K_Parting_countGroups 1 E (some (.int rr.1), rr.2) μ6 12 [some (.ref (g.2.1 10 0)), some (.int z4), some (.int z5)] [] := tf_Parting_countGroups_l12_0 G hl0 n12 z4 z5 μ6 h
set_option maxHeartbeats 4000000 in
set_option maxRecDepth 20000 in
theorem t_Parting_countGroups {g : ZG} {l : Launch} {N : Nat} {μ : ZMem} {rr : Int32 × ZMem} (h : f_Parting_countGroups N μ = some rr) : zT g l 1 K_Parting_countGroups [.ref (g.2.1 10 0)] μ (some (.int rr.1), rr.2) := by
  refine zT_of (by decide +kernel) (Nat.le_of_ble_eq_true rfl) (fun E G => ?_)
  show zX g K_Parting_countGroups 1 E (some (.int rr.1), rr.2) μ 0 [some (.ref (g.2.1 10 0)), none, none] []
  unfold f_Parting_countGroups at h
  refine zx_aload_n G d_Parting_countGroups_0 rfl ?_
  refine zx_getR G d_Parting_countGroups_1 zf_Parting_25 zc_10_4 (zids_of 10 (Nat.le_of_ble_eq_true rfl) 0 (Nat.le_of_ble_eq_true rfl)) ?_
  refine zx_iconst (v := -1) G d_Parting_countGroups_4 rfl ?_
  obtain ⟨u9, μ1, hc, h⟩ := zbnd_of h
  refine zx_callSV  (μ2 := μ1) G d_Parting_countGroups_5 zm_Parting_65 (fun l => t_JArr_fillI za_36 (zi_10_4 (zids_of 10 (Nat.le_of_ble_eq_true rfl) 0 (Nat.le_of_ble_eq_true rfl))) hc) rfl rfl (Nat.le_of_ble_eq_true rfl) (Nat.le_of_ble_eq_true rfl) ?_
  refine zx_iconst (v := 0) G d_Parting_countGroups_8 rfl ?_
  refine zx_istore_n (lf := fun y => [_, some (.int y), none]) G d_Parting_countGroups_9 (Nat.le_of_ble_eq_true rfl) (fun _ => rfl) h (fun x2 h => ?_)
  refine zx_iconst (v := 0) G d_Parting_countGroups_10 rfl ?_
  refine zx_istore_n (lf := fun y => [_, _, some (.int y)]) G d_Parting_countGroups_11 (Nat.le_of_ble_eq_true rfl) (fun _ => rfl) h (fun x3 h => ?_)
  refine tf_Parting_countGroups_l12 G (zids_of 10 (Nat.le_of_ble_eq_true rfl) 0 (Nat.le_of_ble_eq_true rfl)) h
set_option maxHeartbeats 4000000 in
set_option maxRecDepth 20000 in
theorem tf_Parting_groupBySaid_l18_0 {g : ZG} {E : ZE} {N : Nat} {rr : Int32 × ZMem} {p0 : Nat} {p1 : Nat} {p2 : Nat} {kx82 : ZMem → Option (Int32 × ZMem)} (G : zGa g K_Parting_groupBySaid 5 E) (hl0 : (10, 0) ∈ zids) (hl1 : (3, p0) ∈ zids) (hl2 : (26, p1) ∈ zids) (hl3 : (7, p2) ∈ zids) (hkx82 : ∀  (μ : ZMem), kx82 μ = some rr → zX g K_Parting_groupBySaid 5 E (some (.int rr.1), rr.2) μ 82 [some (.ref (g.2.1 10 0)), none, none, none, none, none] []) : ∀ (n18 : Nat) (z4 : Int32) (μ5 : ZMem), f_Parting_groupBySaid_l18 N p0 p1 p2 kx82 n18 z4 μ5 = some rr → zX g K_Parting_groupBySaid 5 E (some (.int rr.1), rr.2) μ5 18 [some (.ref (g.2.1 10 0)), some (.ref (g.2.1 3 p0)), some (.ref (g.2.1 26 p1)), some (.ref (g.2.1 7 p2)), some (.int z4), none] [] := by
  intro n18
  induction n18 with
  | zero => intro z4 μ5 h; cases h
  | succ n18 ih18 =>
    intro z4 μ5 h
    simp only [f_Parting_groupBySaid_l18] at h
    refine zx_iload G d_Parting_groupBySaid_18 rfl ?_
    refine zx_aload_n G d_Parting_groupBySaid_20 rfl ?_
    refine zx_getR G d_Parting_groupBySaid_21 zf_Parting_46 zc_3_0 hl1 ?_
    refine zx_getI G d_Parting_groupBySaid_24 zf_Parting_52 zc_4_2 (zi_3_0 hl1) ?_
    refine zx_icmp_ge (tgt := 82) G d_Parting_groupBySaid_27 rfl h (fun h => ?_) (fun h => ?_)
    · refine zx_weak [true, false, false, false, false, false] (lv2 := [_, none, none, none, none, none]) rfl ?_
      exact hkx82 μ5 h
    · refine zx_aload_n G d_Parting_groupBySaid_30 rfl ?_
      refine zx_aload_n G d_Parting_groupBySaid_31 rfl ?_
      refine zx_iload G d_Parting_groupBySaid_32 rfl ?_
      refine zx_aload_n G d_Parting_groupBySaid_34 rfl ?_
      refine zx_aload_n G d_Parting_groupBySaid_35 rfl ?_
      obtain ⟨u9, μ6, hc, h⟩ := zbnd_of h
      refine zx_callVV  (μ2 := μ6) G d_Parting_groupBySaid_36 zm_Parting_57 (fun l => t_Parting_stepAll hl1 hl2 hl3 hc) rfl rfl (Nat.le_of_ble_eq_true rfl) (Nat.le_of_ble_eq_true rfl) (zrecv zo_10 hl0) ?_
      refine zx_aload_n G d_Parting_groupBySaid_39 rfl ?_
      refine zx_getR G d_Parting_groupBySaid_40 zf_Parting_46 zc_3_0 hl1 ?_
      refine zx_getR G d_Parting_groupBySaid_43 zf_Parting_71 zc_4_0 (zi_3_0 hl1) ?_
      refine zx_iload G d_Parting_groupBySaid_46 rfl ?_
      refine zx_iald G d_Parting_groupBySaid_48 za_22 (zi_4_0 (zi_3_0 hl1)) h (fun h => ?_)
      refine zx_bipush (v := 9) G d_Parting_groupBySaid_49 rfl ?_
      refine zx_join (P := fun k => ∀ (μ7 : ZMem), k μ7 = some rr → zX g K_Parting_groupBySaid 5 E (some (.int rr.1), rr.2) μ7 76 [some (.ref (g.2.1 10 0)), some (.ref (g.2.1 3 p0)), some (.ref (g.2.1 26 p1)), some (.ref (g.2.1 7 p2)), some (.int z4), none] []) h (fun μ7 h => ?_) (fun k8 hk8 h => ?_)
      · try dsimp only at h
        refine zx_iinc (v := 1) (lf := fun y => [_, _, _, _, some (.int y), none]) G d_Parting_groupBySaid_76 (Nat.le_of_ble_eq_true rfl) rfl rfl (fun _ => rfl) h (fun x9 h => ?_)
        refine zx_goto (tgt := 18) G d_Parting_groupBySaid_79 rfl ?_
        exact ih18 x9 μ7 h
      try dsimp only at h
      refine zx_icmp_ne (tgt := 76) G d_Parting_groupBySaid_51 rfl h (fun h => ?_) (fun h => ?_)
      · exact hk8 μ6 h
      · refine zx_aload_n G d_Parting_groupBySaid_54 rfl ?_
        obtain ⟨r11, μ10, hc, h⟩ := zbnd_of h
        refine zx_callVI (r := r11) (μ2 := μ10) G d_Parting_groupBySaid_55 zm_Parting_61 (fun l => t_Parting_countGroups  hc) rfl rfl (Nat.le_of_ble_eq_true rfl) (Nat.le_of_ble_eq_true rfl) (zrecv zo_10 hl0) ?_
        refine zx_pop G d_Parting_groupBySaid_58 rfl ?_
        refine zx_aload_n G d_Parting_groupBySaid_59 rfl ?_
        refine zx_getR G d_Parting_groupBySaid_60 zf_Parting_22 zc_10_3 hl0 ?_
        refine zx_iconst (v := 0) G d_Parting_groupBySaid_63 rfl ?_
        refine zx_aload_n G d_Parting_groupBySaid_64 rfl ?_
        refine zx_getR G d_Parting_groupBySaid_65 zf_Parting_18 zc_10_2 hl0 ?_
        refine zx_iconst (v := 0) G d_Parting_groupBySaid_68 rfl ?_
        refine zx_aload_n G d_Parting_groupBySaid_69 rfl ?_
        refine zx_getI G d_Parting_groupBySaid_70 zf_Parting_34 zc_10_5 hl0 ?_
        refine zx_copyI G d_Parting_groupBySaid_73 zm_Parting_74 zac_n zac_s zac_i za_35 za_34 (zi_10_3 hl0) (zi_10_2 hl0) (Nat.le_of_ble_eq_true rfl) (Nat.le_of_ble_eq_true rfl) h (fun μ12 h => ?_)
        exact hk8 μ12 h
set_option maxHeartbeats 4000000 in
set_option maxRecDepth 20000 in
theorem tf_Parting_groupBySaid_l18 {g : ZG} {E : ZE} {N n18 : Nat} {rr : Int32 × ZMem} {p0 : Nat} {p1 : Nat} {p2 : Nat} {kx82 : ZMem → Option (Int32 × ZMem)} {z4 : Int32} {μ5 : ZMem} (G : zGa g K_Parting_groupBySaid 5 E) (hl0 : (10, 0) ∈ zids) (hl1 : (3, p0) ∈ zids) (hl2 : (26, p1) ∈ zids) (hl3 : (7, p2) ∈ zids) (h : f_Parting_groupBySaid_l18 N p0 p1 p2 kx82 n18 z4 μ5 = some rr) (hkx82 : ∀  (μ : ZMem), kx82 μ = some rr → zX g K_Parting_groupBySaid 5 E (some (.int rr.1), rr.2) μ 82 [some (.ref (g.2.1 10 0)), none, none, none, none, none] []) : zX g K_Parting_groupBySaid 5 E (some (.int rr.1), rr.2) μ5 18 [some (.ref (g.2.1 10 0)), some (.ref (g.2.1 3 p0)), some (.ref (g.2.1 26 p1)), some (.ref (g.2.1 7 p2)), some (.int z4), none] [] := tf_Parting_groupBySaid_l18_0 G hl0 hl1 hl2 hl3 hkx82 n18 z4 μ5 h
set_option maxHeartbeats 4000000 in
set_option maxRecDepth 20000 in
theorem tf_Parting_groupBySaid_l88_0 {g : ZG} {E : ZE} {N : Nat} {rr : Int32 × ZMem} (G : zGa g K_Parting_groupBySaid 5 E) (hl0 : (10, 0) ∈ zids) : ∀ (n88 : Nat) (z16 : Int32) (z17 : Int32) (μ18 : ZMem), f_Parting_groupBySaid_l88 N n88 z16 z17 μ18 = some rr → zX g K_Parting_groupBySaid 5 E (some (.int rr.1), rr.2) μ18 88 [some (.ref (g.2.1 10 0)), none, none, none, some (.int z16), some (.int z17)] [] := by
  intro n88
  induction n88 with
  | zero => intro z16 z17 μ18 h; cases h
  | succ n88 ih88 =>
    intro z16 z17 μ18 h
    simp only [f_Parting_groupBySaid_l88] at h
    refine zx_iload G d_Parting_groupBySaid_88 rfl ?_
    refine zx_aload_n G d_Parting_groupBySaid_90 rfl ?_
    refine zx_getI G d_Parting_groupBySaid_91 zf_Parting_34 zc_10_5 hl0 ?_
    refine zx_icmp_ge (tgt := 129) G d_Parting_groupBySaid_94 rfl h (fun h => ?_) (fun h => ?_)
    · refine zx_iload G d_Parting_groupBySaid_129 rfl ?_
      exact zx_iret G d_Parting_groupBySaid_131 rfl h
    · refine zx_aload_n G d_Parting_groupBySaid_97 rfl ?_
      refine zx_getR G d_Parting_groupBySaid_98 zf_Parting_15 zc_10_1 hl0 ?_
      refine zx_iload G d_Parting_groupBySaid_101 rfl ?_
      refine zx_lald G d_Parting_groupBySaid_103 za_33 (zi_10_1 hl0) h (fun h => ?_)
      refine zx_lconst (v := 0) G d_Parting_groupBySaid_104 rfl ?_
      refine zx_lcmp G d_Parting_groupBySaid_105 ?_
      refine zx_join (P := fun k => ∀ (y19 : Int32) (μ20 : ZMem), k y19 μ20 = some rr → zX g K_Parting_groupBySaid 5 E (some (.int rr.1), rr.2) μ20 123 [some (.ref (g.2.1 10 0)), none, none, none, some (.int y19), some (.int z17)] []) h (fun y19 μ20 h => ?_) (fun k21 hk21 h => ?_)
      · try dsimp only at h
        refine zx_iinc (v := 1) (lf := fun y => [_, none, none, none, _, some (.int y)]) G d_Parting_groupBySaid_123 (Nat.le_of_ble_eq_true rfl) rfl rfl (fun _ => rfl) h (fun x22 h => ?_)
        refine zx_goto (tgt := 88) G d_Parting_groupBySaid_126 rfl ?_
        exact ih88 y19 x22 μ20 h
      try dsimp only at h
      refine zx_if_ne (tgt := 120) G d_Parting_groupBySaid_106 rfl h (fun h => ?_) (fun h => ?_)
      · refine zx_iinc (v := 1) (lf := fun y => [_, none, none, none, some (.int y), _]) G d_Parting_groupBySaid_120 (Nat.le_of_ble_eq_true rfl) rfl rfl (fun _ => rfl) h (fun x23 h => ?_)
        exact hk21 x23 μ18 h
      · refine zx_aload_n G d_Parting_groupBySaid_109 rfl ?_
        refine zx_getR G d_Parting_groupBySaid_110 zf_Parting_18 zc_10_2 hl0 ?_
        refine zx_iload G d_Parting_groupBySaid_113 rfl ?_
        refine zx_iconst (v := -1) G d_Parting_groupBySaid_115 rfl ?_
        refine zx_iast G d_Parting_groupBySaid_116 za_34 (zi_10_2 hl0) h (fun μ24 h => ?_)
        refine zx_goto (tgt := 123) G d_Parting_groupBySaid_117 rfl ?_
        exact hk21 z16 μ24 h
set_option maxHeartbeats 4000000 in
set_option maxRecDepth 20000 in
theorem tf_Parting_groupBySaid_l88 {g : ZG} {E : ZE} {N n88 : Nat} {rr : Int32 × ZMem} {z16 : Int32} {z17 : Int32} {μ18 : ZMem} (G : zGa g K_Parting_groupBySaid 5 E) (hl0 : (10, 0) ∈ zids) (h : f_Parting_groupBySaid_l88 N n88 z16 z17 μ18 = some rr) : zX g K_Parting_groupBySaid 5 E (some (.int rr.1), rr.2) μ18 88 [some (.ref (g.2.1 10 0)), none, none, none, some (.int z16), some (.int z17)] [] := tf_Parting_groupBySaid_l88_0 G hl0 n88 z16 z17 μ18 h
set_option maxHeartbeats 4000000 in
set_option maxRecDepth 20000 in
theorem t_Parting_groupBySaid {g : ZG} {l : Launch} {N : Nat} {μ : ZMem} {p0 : Nat} {p1 : Nat} {p2 : Nat} (hp0 : (3, p0) ∈ zids) (hp1 : (26, p1) ∈ zids) (hp2 : (7, p2) ∈ zids) {rr : Int32 × ZMem} (h : f_Parting_groupBySaid N μ p0 p1 p2 = some rr) : zT g l 5 K_Parting_groupBySaid [.ref (g.2.1 10 0), .ref (g.2.1 3 p0), .ref (g.2.1 26 p1), .ref (g.2.1 7 p2)] μ (some (.int rr.1), rr.2) := by
  refine zT_of (by decide +kernel) (Nat.le_of_ble_eq_true rfl) (fun E G => ?_)
  show zX g K_Parting_groupBySaid 5 E (some (.int rr.1), rr.2) μ 0 [some (.ref (g.2.1 10 0)), some (.ref (g.2.1 3 p0)), some (.ref (g.2.1 26 p1)), some (.ref (g.2.1 7 p2)), none, none] []
  unfold f_Parting_groupBySaid at h
  refine zx_aload_n G d_Parting_groupBySaid_0 rfl ?_
  refine zx_getR G d_Parting_groupBySaid_1 zf_Parting_18 zc_10_2 (zids_of 10 (Nat.le_of_ble_eq_true rfl) 0 (Nat.le_of_ble_eq_true rfl)) ?_
  refine zx_iconst (v := 0) G d_Parting_groupBySaid_4 rfl ?_
  obtain ⟨u9, μ1, hc, h⟩ := zbnd_of h
  refine zx_callSV  (μ2 := μ1) G d_Parting_groupBySaid_5 zm_Parting_65 (fun l => t_JArr_fillI za_34 (zi_10_2 (zids_of 10 (Nat.le_of_ble_eq_true rfl) 0 (Nat.le_of_ble_eq_true rfl))) hc) rfl rfl (Nat.le_of_ble_eq_true rfl) (Nat.le_of_ble_eq_true rfl) ?_
  refine zx_aload_n G d_Parting_groupBySaid_8 rfl ?_
  refine zx_aload_n G d_Parting_groupBySaid_9 rfl ?_
  refine zx_aload_n G d_Parting_groupBySaid_10 rfl ?_
  refine zx_aload_n G d_Parting_groupBySaid_11 rfl ?_
  obtain ⟨u9, μ2, hc, h⟩ := zbnd_of h
  refine zx_callVV  (μ2 := μ2) G d_Parting_groupBySaid_12 zm_Parting_42 (fun l => t_Parting_startAll hp0 hp1 hp2 hc) rfl rfl (Nat.le_of_ble_eq_true rfl) (Nat.le_of_ble_eq_true rfl) (zrecv zo_10 (zids_of 10 (Nat.le_of_ble_eq_true rfl) 0 (Nat.le_of_ble_eq_true rfl))) ?_
  refine zx_iconst (v := 0) G d_Parting_groupBySaid_15 rfl ?_
  refine zx_istore (lf := fun y => [_, _, _, _, some (.int y), none]) G d_Parting_groupBySaid_16 (Nat.le_of_ble_eq_true rfl) (fun _ => rfl) h (fun x3 h => ?_)
  refine tf_Parting_groupBySaid_l18 G (zids_of 10 (Nat.le_of_ble_eq_true rfl) 0 (Nat.le_of_ble_eq_true rfl)) hp0 hp1 hp2 h (fun μ13 h => ?_)
  · try dsimp only at h
    refine zx_iconst (v := 0) G d_Parting_groupBySaid_82 rfl ?_
    refine zx_istore (lf := fun y => [_, none, none, none, some (.int y), none]) G d_Parting_groupBySaid_83 (Nat.le_of_ble_eq_true rfl) (fun _ => rfl) h (fun x14 h => ?_)
    refine zx_iconst (v := 0) G d_Parting_groupBySaid_85 rfl ?_
    refine zx_istore (lf := fun y => [_, none, none, none, _, some (.int y)]) G d_Parting_groupBySaid_86 (Nat.le_of_ble_eq_true rfl) (fun _ => rfl) h (fun x15 h => ?_)
    refine tf_Parting_groupBySaid_l88 G (zids_of 10 (Nat.le_of_ble_eq_true rfl) 0 (Nat.le_of_ble_eq_true rfl)) h
set_option maxHeartbeats 4000000 in
set_option maxRecDepth 20000 in
theorem tf_Parting_lowestTelling_l32_0 {g : ZG} {E : ZE} {N : Nat} {rr : Int32 × ZMem} {p0 : Nat} {p2 : Nat} {p3 : Nat} {x4 : Int32} (G : zGa g K_Parting_lowestTelling 6 E) (hl0 : (10, 0) ∈ zids) (hl1 : (3, p0) ∈ zids) (hl3 : (26, p2) ∈ zids) (hl4 : (7, p3) ∈ zids) : ∀ (n32 : Nat) (z7 : Int32) (μ8 : ZMem), f_Parting_lowestTelling_l32 N p0 p2 p3 x4 n32 z7 μ8 = some rr → zX g K_Parting_lowestTelling 6 E (some (.int rr.1), rr.2) μ8 32 [some (.ref (g.2.1 10 0)), some (.ref (g.2.1 3 p0)), none, some (.ref (g.2.1 26 p2)), some (.ref (g.2.1 7 p3)), some (.int x4), some (.int z7)] [] := by
  intro n32
  induction n32 with
  | zero => intro z7 μ8 h; cases h
  | succ n32 ih32 =>
    intro z7 μ8 h
    simp only [f_Parting_lowestTelling_l32] at h
    refine zx_iload G d_Parting_lowestTelling_32 rfl ?_
    refine zx_aload_n G d_Parting_lowestTelling_34 rfl ?_
    refine zx_getR G d_Parting_lowestTelling_35 zf_Parting_46 zc_3_0 hl1 ?_
    refine zx_getI G d_Parting_lowestTelling_38 zf_Parting_52 zc_4_2 (zi_3_0 hl1) ?_
    refine zx_icmp_ge (tgt := 72) G d_Parting_lowestTelling_41 rfl h (fun h => ?_) (fun h => ?_)
    · refine zx_iconst (v := -1) G d_Parting_lowestTelling_72 rfl ?_
      exact zx_iret G d_Parting_lowestTelling_73 rfl h
    · refine zx_aload_n G d_Parting_lowestTelling_44 rfl ?_
      refine zx_aload_n G d_Parting_lowestTelling_45 rfl ?_
      refine zx_iload G d_Parting_lowestTelling_46 rfl ?_
      refine zx_aload_n G d_Parting_lowestTelling_48 rfl ?_
      refine zx_aload G d_Parting_lowestTelling_49 rfl ?_
      obtain ⟨u9, μ9, hc, h⟩ := zbnd_of h
      refine zx_callVV  (μ2 := μ9) G d_Parting_lowestTelling_51 zm_Parting_57 (fun l => t_Parting_stepAll hl1 hl3 hl4 hc) rfl rfl (Nat.le_of_ble_eq_true rfl) (Nat.le_of_ble_eq_true rfl) (zrecv zo_10 hl0) ?_
      refine zx_aload_n G d_Parting_lowestTelling_54 rfl ?_
      obtain ⟨r11, μ10, hc, h⟩ := zbnd_of h
      refine zx_callVI (r := r11) (μ2 := μ10) G d_Parting_lowestTelling_55 zm_Parting_61 (fun l => t_Parting_countGroups  hc) rfl rfl (Nat.le_of_ble_eq_true rfl) (Nat.le_of_ble_eq_true rfl) (zrecv zo_10 hl0) ?_
      refine zx_iload G d_Parting_lowestTelling_58 rfl ?_
      refine zx_icmp_ne (tgt := 66) G d_Parting_lowestTelling_60 rfl h (fun h => ?_) (fun h => ?_)
      · refine zx_iinc (v := 1) (lf := fun y => [_, _, none, _, _, _, some (.int y)]) G d_Parting_lowestTelling_66 (Nat.le_of_ble_eq_true rfl) rfl rfl (fun _ => rfl) h (fun x12 h => ?_)
        refine zx_goto (tgt := 32) G d_Parting_lowestTelling_69 rfl ?_
        exact ih32 x12 μ10 h
      · refine zx_iload G d_Parting_lowestTelling_63 rfl ?_
        exact zx_iret G d_Parting_lowestTelling_65 rfl h
set_option maxHeartbeats 4000000 in
set_option maxRecDepth 20000 in
theorem tf_Parting_lowestTelling_l32 {g : ZG} {E : ZE} {N n32 : Nat} {rr : Int32 × ZMem} {p0 : Nat} {p2 : Nat} {p3 : Nat} {x4 : Int32} {z7 : Int32} {μ8 : ZMem} (G : zGa g K_Parting_lowestTelling 6 E) (hl0 : (10, 0) ∈ zids) (hl1 : (3, p0) ∈ zids) (hl3 : (26, p2) ∈ zids) (hl4 : (7, p3) ∈ zids) (h : f_Parting_lowestTelling_l32 N p0 p2 p3 x4 n32 z7 μ8 = some rr) : zX g K_Parting_lowestTelling 6 E (some (.int rr.1), rr.2) μ8 32 [some (.ref (g.2.1 10 0)), some (.ref (g.2.1 3 p0)), none, some (.ref (g.2.1 26 p2)), some (.ref (g.2.1 7 p3)), some (.int x4), some (.int z7)] [] := tf_Parting_lowestTelling_l32_0 G hl0 hl1 hl3 hl4 n32 z7 μ8 h
set_option maxHeartbeats 4000000 in
set_option maxRecDepth 20000 in
theorem t_Parting_lowestTelling {g : ZG} {l : Launch} {N : Nat} {μ : ZMem} {p0 : Nat} {p1 : Int32} {p2 : Nat} {p3 : Nat} (hp0 : (3, p0) ∈ zids) (hp2 : (26, p2) ∈ zids) (hp3 : (7, p3) ∈ zids) {rr : Int32 × ZMem} (h : f_Parting_lowestTelling N μ p0 p1 p2 p3 = some rr) : zT g l 6 K_Parting_lowestTelling [.ref (g.2.1 10 0), .ref (g.2.1 3 p0), .int p1, .ref (g.2.1 26 p2), .ref (g.2.1 7 p3)] μ (some (.int rr.1), rr.2) := by
  refine zT_of (by decide +kernel) (Nat.le_of_ble_eq_true rfl) (fun E G => ?_)
  show zX g K_Parting_lowestTelling 6 E (some (.int rr.1), rr.2) μ 0 [some (.ref (g.2.1 10 0)), some (.ref (g.2.1 3 p0)), some (.int p1), some (.ref (g.2.1 26 p2)), some (.ref (g.2.1 7 p3)), none, none] []
  unfold f_Parting_lowestTelling at h
  refine zx_aload_n G d_Parting_lowestTelling_0 rfl ?_
  refine zx_iload_n G d_Parting_lowestTelling_1 rfl ?_
  refine zx_sipush (v := 500) G d_Parting_lowestTelling_2 rfl ?_
  refine zx_mmin G d_Parting_lowestTelling_5 zm_Parting_28 zMs_min zMi zMy_min (Nat.le_of_ble_eq_true rfl) (Nat.le_of_ble_eq_true rfl) ?_
  refine zx_putI G d_Parting_lowestTelling_8 zq_Parting_34 zp_10_5 (zids_of 10 (Nat.le_of_ble_eq_true rfl) 0 (Nat.le_of_ble_eq_true rfl)) h (fun μ1 h => ?_)
  refine zx_aload_n G d_Parting_lowestTelling_11 rfl ?_
  refine zx_aload_n G d_Parting_lowestTelling_12 rfl ?_
  refine zx_aload_n G d_Parting_lowestTelling_13 rfl ?_
  refine zx_aload G d_Parting_lowestTelling_14 rfl ?_
  obtain ⟨r3, μ2, hc, h⟩ := zbnd_of h
  refine zx_callVI (r := r3) (μ2 := μ2) G d_Parting_lowestTelling_16 zm_Parting_38 (fun l => t_Parting_groupBySaid hp0 hp2 hp3 hc) rfl rfl (Nat.le_of_ble_eq_true rfl) (Nat.le_of_ble_eq_true rfl) (zrecv zo_10 (zids_of 10 (Nat.le_of_ble_eq_true rfl) 0 (Nat.le_of_ble_eq_true rfl))) ?_
  refine zx_istore (lf := fun y => [_, _, _, _, _, some (.int y), none]) G d_Parting_lowestTelling_19 (Nat.le_of_ble_eq_true rfl) (fun _ => rfl) h (fun x4 h => ?_)
  refine zx_aload_n G d_Parting_lowestTelling_21 rfl ?_
  refine zx_aload_n G d_Parting_lowestTelling_22 rfl ?_
  refine zx_aload_n G d_Parting_lowestTelling_23 rfl ?_
  refine zx_aload G d_Parting_lowestTelling_24 rfl ?_
  obtain ⟨u9, μ5, hc, h⟩ := zbnd_of h
  refine zx_callVV  (μ2 := μ5) G d_Parting_lowestTelling_26 zm_Parting_42 (fun l => t_Parting_startAll hp0 hp2 hp3 hc) rfl rfl (Nat.le_of_ble_eq_true rfl) (Nat.le_of_ble_eq_true rfl) (zrecv zo_10 (zids_of 10 (Nat.le_of_ble_eq_true rfl) 0 (Nat.le_of_ble_eq_true rfl))) ?_
  refine zx_iconst (v := 0) G d_Parting_lowestTelling_29 rfl ?_
  refine zx_istore (lf := fun y => [_, _, _, _, _, _, some (.int y)]) G d_Parting_lowestTelling_30 (Nat.le_of_ble_eq_true rfl) (fun _ => rfl) h (fun x6 h => ?_)
  refine zx_weak [true, true, false, true, true, true, true] (lv2 := [_, _, none, _, _, _, _]) rfl ?_
  refine tf_Parting_lowestTelling_l32 G (zids_of 10 (Nat.le_of_ble_eq_true rfl) 0 (Nat.le_of_ble_eq_true rfl)) hp0 hp2 hp3 h
set_option maxHeartbeats 4000000 in
set_option maxRecDepth 20000 in
theorem t_A_more {g : ZG} {l : Launch} {N : Nat} {μ : ZMem} {p0 : Int32} {rr : Int32 × ZMem} (h : f_A_more N μ p0 = some rr) : zT g l 7 K_A_more [.ref (g.2.1 0 0), .int p0] μ (some (.int rr.1), rr.2) := by
  refine zT_of (by decide +kernel) (Nat.le_of_ble_eq_true rfl) (fun E G => ?_)
  show zX g K_A_more 7 E (some (.int rr.1), rr.2) μ 0 [some (.ref (g.2.1 0 0)), some (.int p0), none, none, none] []
  unfold f_A_more at h
  refine zx_aload_n G d_A_more_0 rfl ?_
  refine zx_iload_n G d_A_more_1 rfl ?_
  rcases zbrf_of h with ⟨μ1, hc, h⟩ | ⟨t2, μ1, hc, h⟩
  · refine zx_callVN (k := 3) (μ2 := μ1) G d_A_more_2 zm_A_115 (fun l => t_A_find  hc) rfl rfl (Nat.le_of_ble_eq_true rfl) (Nat.le_of_ble_eq_true rfl) (zrecv zo_0 (zids_of 0 (Nat.le_of_ble_eq_true rfl) 0 (Nat.le_of_ble_eq_true rfl))) ?_
    refine zx_astore_nN (lv2 := [_, _, _, none, none]) G d_A_more_5 (Nat.le_of_ble_eq_true rfl) rfl ?_
    refine zx_aload_nN G d_A_more_6 rfl ?_
    refine zx_ifnonnullN G d_A_more_7 ?_
    refine zx_iconst (v := -1) G d_A_more_10 rfl ?_
    exact zx_iret G d_A_more_11 rfl h
  · obtain ⟨hz3, h⟩ := zchk_of h
    refine zx_callVP (k := 3) (r := t2) (μ2 := μ1) G d_A_more_2 zm_A_115 (fun l => t_A_find  hc) rfl rfl (Nat.le_of_ble_eq_true rfl) (Nat.le_of_ble_eq_true rfl) (zrecv zo_0 (zids_of 0 (Nat.le_of_ble_eq_true rfl) 0 (Nat.le_of_ble_eq_true rfl))) ?_
    refine zx_astore_n (lv2 := [_, _, _, none, none]) G d_A_more_5 (Nat.le_of_ble_eq_true rfl) rfl ?_
    refine zx_aload_n G d_A_more_6 rfl ?_
    refine zx_ifnonnull (tgt := 12) G d_A_more_7 rfl ?_
    refine zx_aload_n G d_A_more_12 rfl ?_
    obtain ⟨r5, μ4, hc, h⟩ := zbnd_of h
    refine zx_callVJ (r := r5) (μ2 := μ4) G d_A_more_13 zm_A_189 (fun l => t_Table_countAll (zidt hz3) hc) rfl rfl (Nat.le_of_ble_eq_true rfl) (Nat.le_of_ble_eq_true rfl) (zrecv zo_3 (zidt hz3)) ?_
    refine zx_lstore_n (lf := fun y => [_, _, _, some (.long y), none]) G d_A_more_16 (Nat.le_of_ble_eq_true rfl) (fun _ => rfl) h (fun x6 h => ?_)
    refine zx_lload_n G d_A_more_17 rfl ?_
    refine zx_ldc2 (v := 500) G d_A_more_18 zk_A_234 ?_
    refine zx_lcmp G d_A_more_21 ?_
    refine zx_if_le (tgt := 28) G d_A_more_22 rfl h (fun h => ?_) (fun h => ?_)
    · refine zx_aload_n G d_A_more_28 rfl ?_
      refine zx_getR G d_A_more_29 zf_A_73 zc_0_10 (zids_of 0 (Nat.le_of_ble_eq_true rfl) 0 (Nat.le_of_ble_eq_true rfl)) ?_
      refine zx_aload_n G d_A_more_32 rfl ?_
      refine zx_lload_n G d_A_more_33 rfl ?_
      refine zx_l2i G d_A_more_34 ?_
      refine zx_aload_n G d_A_more_35 rfl ?_
      refine zx_getR G d_A_more_36 zf_A_52 zc_0_7 (zids_of 0 (Nat.le_of_ble_eq_true rfl) 0 (Nat.le_of_ble_eq_true rfl)) ?_
      refine zx_aload_n G d_A_more_39 rfl ?_
      refine zx_getR G d_A_more_40 zf_A_45 zc_0_5 (zids_of 0 (Nat.le_of_ble_eq_true rfl) 0 (Nat.le_of_ble_eq_true rfl)) ?_
      obtain ⟨r8, μ7, hc, h⟩ := zbnd_of h
      refine zx_callVI (r := r8) (μ2 := μ7) G d_A_more_43 zm_A_236 (fun l => t_Parting_lowestTelling (zidt hz3) (zi_0_7 (zids_of 0 (Nat.le_of_ble_eq_true rfl) 0 (Nat.le_of_ble_eq_true rfl))) (zi_0_5 (zids_of 0 (Nat.le_of_ble_eq_true rfl) 0 (Nat.le_of_ble_eq_true rfl))) hc) rfl rfl (Nat.le_of_ble_eq_true rfl) (Nat.le_of_ble_eq_true rfl) (zrecv zo_10 (zi_0_10 (zids_of 0 (Nat.le_of_ble_eq_true rfl) 0 (Nat.le_of_ble_eq_true rfl)))) ?_
      exact zx_iret G d_A_more_46 rfl h
    · refine zx_bipush (v := -2) G d_A_more_25 rfl ?_
      exact zx_iret G d_A_more_27 rfl h
set_option maxHeartbeats 4000000 in
set_option maxRecDepth 20000 in
theorem t_A_kit {g : ZG} {l : Launch} {N : Nat} {μ : ZMem} {p0 : Int32} {p1 : Int32} {rr : Int32 × ZMem} (h : f_A_kit N μ p0 p1 = some rr) : zT g l 1 K_A_kit [.ref (g.2.1 0 0), .int p0, .int p1] μ (some (.int rr.1), rr.2) := by
  refine zT_of (by decide +kernel) (Nat.le_of_ble_eq_true rfl) (fun E G => ?_)
  show zX g K_A_kit 1 E (some (.int rr.1), rr.2) μ 0 [some (.ref (g.2.1 0 0)), some (.int p0), some (.int p1), none, none] []
  unfold f_A_kit at h
  refine zx_iload_n G d_A_kit_0 rfl ?_
  refine zx_iconst (v := -1) G d_A_kit_1 rfl ?_
  refine zx_icmp_ne (tgt := 18) G d_A_kit_2 rfl h (fun h => ?_) (fun h => ?_)
  · refine zx_iload_n G d_A_kit_18 rfl ?_
    refine zx_if_lt (tgt := 28) G d_A_kit_19 rfl h (fun h => ?_) (fun h => ?_)
    · refine zx_iconst (v := -1) G d_A_kit_28 rfl ?_
      exact zx_iret G d_A_kit_29 rfl h
    · refine zx_iload_n G d_A_kit_22 rfl ?_
      refine zx_bipush (v := 7) G d_A_kit_23 rfl ?_
      refine zx_icmp_le (tgt := 30) G d_A_kit_25 rfl h (fun h => ?_) (fun h => ?_)
      · refine zx_iload_n G d_A_kit_30 rfl ?_
        refine zx_bipush (v := 6) G d_A_kit_31 rfl ?_
        refine zx_join (P := fun k => ∀ (y1 : Int32) (μ2 : ZMem), k y1 μ2 = some rr → zX g K_A_kit 1 E (some (.int rr.1), rr.2) μ2 41 [some (.ref (g.2.1 0 0)), some (.int p0), some (.int p1), none, none] [.int y1]) h (fun y1 μ2 h => ?_) (fun k3 hk3 h => ?_)
        · try dsimp only at h
          refine zx_istore_n (lf := fun y => [_, _, _, some (.int y), none]) G d_A_kit_41 (Nat.le_of_ble_eq_true rfl) (fun _ => rfl) h (fun x4 h => ?_)
          refine zx_iload_n G d_A_kit_42 rfl ?_
          refine zx_join (P := fun k => ∀ (μ5 : ZMem), k μ5 = some rr → zX g K_A_kit 1 E (some (.int rr.1), rr.2) μ5 60 [some (.ref (g.2.1 0 0)), some (.int p0), some (.int p1), some (.int x4), none] []) h (fun μ5 h => ?_) (fun k6 hk6 h => ?_)
          · try dsimp only at h
            refine zx_iload_n G d_A_kit_60 rfl ?_
            refine zx_join (P := fun k => ∀ (y7 : Int32) (μ8 : ZMem), k y7 μ8 = some rr → zX g K_A_kit 1 E (some (.int rr.1), rr.2) μ8 80 [some (.ref (g.2.1 0 0)), some (.int p0), none, none, none] [.int y7]) h (fun y7 μ8 h => ?_) (fun k9 hk9 h => ?_)
            · try dsimp only at h
              refine zx_istore (lf := fun y => [_, _, none, none, some (.int y)]) G d_A_kit_80 (Nat.le_of_ble_eq_true rfl) (fun _ => rfl) h (fun x10 h => ?_)
              refine zx_aload_n G d_A_kit_82 rfl ?_
              refine zx_getR G d_A_kit_83 zf_A_35 zc_0_3 (zids_of 0 (Nat.le_of_ble_eq_true rfl) 0 (Nat.le_of_ble_eq_true rfl)) ?_
              refine zx_getR G d_A_kit_86 zf_A_240 zc_5_4 (zi_0_3 (zids_of 0 (Nat.le_of_ble_eq_true rfl) 0 (Nat.le_of_ble_eq_true rfl))) ?_
              refine zx_iload_n G d_A_kit_89 rfl ?_
              refine zx_iload G d_A_kit_90 rfl ?_
              obtain ⟨r12, μ11, hc, h⟩ := zbnd_of h
              refine zx_callVI (r := r12) (μ2 := μ11) G d_A_kit_92 zm_A_243 (fun l => t_Orders_add (zi_5_4 (zi_0_3 (zids_of 0 (Nat.le_of_ble_eq_true rfl) 0 (Nat.le_of_ble_eq_true rfl)))) hc) rfl rfl (Nat.le_of_ble_eq_true rfl) (Nat.le_of_ble_eq_true rfl) (zrecv zo_4 (zi_5_4 (zi_0_3 (zids_of 0 (Nat.le_of_ble_eq_true rfl) 0 (Nat.le_of_ble_eq_true rfl))))) ?_
              refine zx_if_eq (tgt := 111) G d_A_kit_95 rfl h (fun h => ?_) (fun h => ?_)
              · refine zx_iconst (v := -1) G d_A_kit_111 rfl ?_
                exact zx_iret G d_A_kit_112 rfl h
              · refine zx_aload_n G d_A_kit_98 rfl ?_
                refine zx_getR G d_A_kit_99 zf_A_35 zc_0_3 (zids_of 0 (Nat.le_of_ble_eq_true rfl) 0 (Nat.le_of_ble_eq_true rfl)) ?_
                refine zx_getR G d_A_kit_102 zf_A_240 zc_5_4 (zi_0_3 (zids_of 0 (Nat.le_of_ble_eq_true rfl) 0 (Nat.le_of_ble_eq_true rfl))) ?_
                refine zx_getI G d_A_kit_105 zf_A_123 zc_4_2 (zi_5_4 (zi_0_3 (zids_of 0 (Nat.le_of_ble_eq_true rfl) 0 (Nat.le_of_ble_eq_true rfl)))) ?_
                refine zx_goto (tgt := 112) G d_A_kit_108 rfl ?_
                exact zx_iret G d_A_kit_112 rfl h
            try dsimp only at h
            refine zx_if_ne (tgt := 68) G d_A_kit_61 rfl h (fun h => ?_) (fun h => ?_)
            · refine zx_iload_n G d_A_kit_68 rfl ?_
              refine zx_iconst (v := -1) G d_A_kit_69 rfl ?_
              refine zx_icmp_ne (tgt := 79) G d_A_kit_70 rfl h (fun h => ?_) (fun h => ?_)
              · refine zx_iload_n G d_A_kit_79 rfl ?_
                refine zx_weak [true, true, false, false, false] (lv2 := [_, _, none, none, none]) rfl ?_
                exact hk9 p1 μ5 h
              · refine zx_sipush (v := 10000) G d_A_kit_73 rfl ?_
                refine zx_goto (tgt := 80) G d_A_kit_76 rfl ?_
                refine zx_weak [true, true, false, false, false] (lv2 := [_, _, none, none, none]) rfl ?_
                exact hk9 (10000 : Int32) μ5 h
            · refine zx_iconst (v := 0) G d_A_kit_64 rfl ?_
              refine zx_goto (tgt := 80) G d_A_kit_65 rfl ?_
              refine zx_weak [true, true, false, false, false] (lv2 := [_, _, none, none, none]) rfl ?_
              exact hk9 (0 : Int32) μ5 h
          try dsimp only at h
          refine zx_if_eq (tgt := 60) G d_A_kit_43 rfl h (fun h => ?_) (fun h => ?_)
          · exact hk6 μ2 h
          · refine zx_iload_n G d_A_kit_46 rfl ?_
            refine zx_iconst (v := -1) G d_A_kit_47 rfl ?_
            refine zx_icmp_eq (tgt := 60) G d_A_kit_48 rfl h (fun h => ?_) (fun h => ?_)
            · exact hk6 μ2 h
            · refine zx_iload_n G d_A_kit_51 rfl ?_
              obtain ⟨r14, μ13, hc, h⟩ := zbnd_of h
              refine zx_callSI (r := r14) (μ2 := μ13) G d_A_kit_52 zm_A_84 (fun l => t_A_isNumber  hc) rfl rfl (Nat.le_of_ble_eq_true rfl) (Nat.le_of_ble_eq_true rfl) ?_
              refine zx_if_ne (tgt := 60) G d_A_kit_55 rfl h (fun h => ?_) (fun h => ?_)
              · exact hk6 μ13 h
              · refine zx_iconst (v := -1) G d_A_kit_58 rfl ?_
                exact zx_iret G d_A_kit_59 rfl h
        try dsimp only at h
        refine zx_icmp_ge (tgt := 40) G d_A_kit_33 rfl h (fun h => ?_) (fun h => ?_)
        · refine zx_iconst (v := 0) G d_A_kit_40 rfl ?_
          exact hk3 (0 : Int32) μ h
        · refine zx_iconst (v := 1) G d_A_kit_36 rfl ?_
          refine zx_goto (tgt := 41) G d_A_kit_37 rfl ?_
          exact hk3 (1 : Int32) μ h
      · refine zx_iconst (v := -1) G d_A_kit_28 rfl ?_
        exact zx_iret G d_A_kit_29 rfl h
  · refine zx_aload_n G d_A_kit_5 rfl ?_
    refine zx_getR G d_A_kit_6 zf_A_35 zc_0_3 (zids_of 0 (Nat.le_of_ble_eq_true rfl) 0 (Nat.le_of_ble_eq_true rfl)) ?_
    refine zx_getR G d_A_kit_9 zf_A_240 zc_5_4 (zi_0_3 (zids_of 0 (Nat.le_of_ble_eq_true rfl) 0 (Nat.le_of_ble_eq_true rfl))) ?_
    refine zx_iconst (v := 0) G d_A_kit_12 rfl ?_
    refine zx_putI G d_A_kit_13 zq_A_123 zp_4_2 (zi_5_4 (zi_0_3 (zids_of 0 (Nat.le_of_ble_eq_true rfl) 0 (Nat.le_of_ble_eq_true rfl)))) h (fun μ15 h => ?_)
    refine zx_iconst (v := 0) G d_A_kit_16 rfl ?_
    exact zx_iret G d_A_kit_17 rfl h
set_option maxHeartbeats 4000000 in
set_option maxRecDepth 20000 in
theorem tf_Maker_spread_l3_0 {g : ZG} {E : ZE} {N : Nat} {rr : Int32 × ZMem} {p0 : Nat} {p1 : Int32} {p2 : Int32} {p3 : Int32} (G : zGa g K_Maker_spread 4 E) (hl0 : (11, 0) ∈ zids) (hl1 : (4, p0) ∈ zids) : ∀ (n3 : Nat) (z2 : Int32) (μ3 : ZMem), f_Maker_spread_l3 N p0 p1 p2 p3 n3 z2 μ3 = some rr → zX g K_Maker_spread 4 E (some (.int rr.1), rr.2) μ3 3 [some (.ref (g.2.1 11 0)), some (.ref (g.2.1 4 p0)), some (.int p1), some (.int p2), some (.int p3), some (.int z2), none] [] := by
  intro n3
  induction n3 with
  | zero => intro z2 μ3 h; cases h
  | succ n3 ih3 =>
    intro z2 μ3 h
    simp only [f_Maker_spread_l3] at h
    refine zx_iload G d_Maker_spread_3 rfl ?_
    refine zx_aload_n G d_Maker_spread_5 rfl ?_
    refine zx_getI G d_Maker_spread_6 zf_Maker_43 zc_11_5 hl0 ?_
    refine zx_icmp_ge (tgt := 143) G d_Maker_spread_9 rfl h (fun h => ?_) (fun h => ?_)
    · refine zx_iconst (v := 1) G d_Maker_spread_143 rfl ?_
      exact zx_zretK G d_Maker_spread_144 rfl (by decide) h
    · refine zx_aload_n G d_Maker_spread_12 rfl ?_
      refine zx_getR G d_Maker_spread_13 zf_Maker_23 zc_11_2 hl0 ?_
      refine zx_aload_n G d_Maker_spread_16 rfl ?_
      refine zx_getR G d_Maker_spread_17 zf_Maker_11 zc_11_0 hl0 ?_
      refine zx_iload_n G d_Maker_spread_20 rfl ?_
      refine zx_aald37 G d_Maker_spread_21 h (fun hz4 h => ?_)
      refine zx_iload G d_Maker_spread_22 rfl ?_
      refine zx_lald G d_Maker_spread_24 za_38 (zidl (zin_lt hz4)) h (fun h => ?_)
      obtain ⟨u9, μ5, hc, h⟩ := zbnd_of h
      refine zx_callVV  (μ2 := μ5) G d_Maker_spread_25 zm_Maker_59 (fun l => t_Value_setWhole (zi_11_2 hl0) hc) rfl rfl (Nat.le_of_ble_eq_true rfl) (Nat.le_of_ble_eq_true rfl) (zrecv zo_7 (zi_11_2 hl0)) ?_
      refine zx_aload_n G d_Maker_spread_28 rfl ?_
      refine zx_getR G d_Maker_spread_29 zf_Maker_16 zc_11_1 hl0 ?_
      refine zx_iconst (v := 0) G d_Maker_spread_32 rfl ?_
      refine zx_aload_n G d_Maker_spread_33 rfl ?_
      refine zx_getI G d_Maker_spread_34 zf_Maker_30 zc_11_4 hl0 ?_
      refine zx_iload G d_Maker_spread_37 rfl ?_
      refine zx_iadd G d_Maker_spread_39 ?_
      refine zx_iast G d_Maker_spread_40 za_26 (zi_11_1 hl0) h (fun μ6 h => ?_)
      refine zx_aload_n G d_Maker_spread_41 rfl ?_
      refine zx_getR G d_Maker_spread_42 zf_Maker_23 zc_11_2 hl0 ?_
      refine zx_aload_n G d_Maker_spread_45 rfl ?_
      refine zx_getR G d_Maker_spread_46 zf_Maker_63 zc_4_0 hl1 ?_
      refine zx_iload_n G d_Maker_spread_49 rfl ?_
      refine zx_iald G d_Maker_spread_50 za_22 (zi_4_0 hl1) h (fun h => ?_)
      refine zx_aload_n G d_Maker_spread_51 rfl ?_
      refine zx_iload_n G d_Maker_spread_52 rfl ?_
      refine zx_aload_n G d_Maker_spread_53 rfl ?_
      refine zx_getR G d_Maker_spread_54 zf_Maker_16 zc_11_1 hl0 ?_
      obtain ⟨r8, μ7, hc, h⟩ := zbnd_of h
      refine zx_callVI (r := r8) (μ2 := μ7) G d_Maker_spread_57 zm_Maker_66 (fun l => t_Orders_amount hl1 (zi_11_1 hl0) hc) rfl rfl (Nat.le_of_ble_eq_true rfl) (Nat.le_of_ble_eq_true rfl) (zrecv zo_4 hl1) ?_
      obtain ⟨r10, μ9, hc, h⟩ := zbnd_of h
      refine zx_callVI (r := r10) (μ2 := μ9) G d_Maker_spread_60 zm_Maker_70 (fun l => t_Value_obey (zi_11_2 hl0) hc) rfl rfl (Nat.le_of_ble_eq_true rfl) (Nat.le_of_ble_eq_true rfl) (zrecv zo_7 (zi_11_2 hl0)) ?_
      refine zx_istore (lf := fun y => [_, _, _, _, _, _, some (.int y)]) G d_Maker_spread_63 (Nat.le_of_ble_eq_true rfl) (fun _ => rfl) h (fun x11 h => ?_)
      refine zx_iload G d_Maker_spread_65 rfl ?_
      refine zx_if_eq (tgt := 94) G d_Maker_spread_67 rfl h (fun h => ?_) (fun h => ?_)
      · refine zx_iconst (v := 0) G d_Maker_spread_94 rfl ?_
        exact zx_zretK G d_Maker_spread_95 rfl (by decide) h
      · refine zx_aload_n G d_Maker_spread_70 rfl ?_
        refine zx_getR G d_Maker_spread_71 zf_Maker_23 zc_11_2 hl0 ?_
        refine zx_getJ G d_Maker_spread_74 zf_Maker_74 zc_7_1 (zi_11_2 hl0) ?_
        refine zx_lconst (v := 1) G d_Maker_spread_77 rfl ?_
        refine zx_lcmp G d_Maker_spread_78 ?_
        refine zx_if_ne (tgt := 94) G d_Maker_spread_79 rfl h (fun h => ?_) (fun h => ?_)
        · refine zx_iconst (v := 0) G d_Maker_spread_94 rfl ?_
          exact zx_zretK G d_Maker_spread_95 rfl (by decide) h
        · refine zx_aload_n G d_Maker_spread_82 rfl ?_
          refine zx_getR G d_Maker_spread_83 zf_Maker_23 zc_11_2 hl0 ?_
          refine zx_getJ G d_Maker_spread_86 zf_Maker_77 zc_7_0 (zi_11_2 hl0) ?_
          refine zx_lconst (v := 0) G d_Maker_spread_89 rfl ?_
          refine zx_lcmp G d_Maker_spread_90 ?_
          refine zx_if_ge (tgt := 96) G d_Maker_spread_91 rfl h (fun h => ?_) (fun h => ?_)
          · refine zx_iload G d_Maker_spread_96 rfl ?_
            refine zx_join (P := fun k => ∀ (μ12 : ZMem), k μ12 = some rr → zX g K_Maker_spread 4 E (some (.int rr.1), rr.2) μ12 119 [some (.ref (g.2.1 11 0)), some (.ref (g.2.1 4 p0)), some (.int p1), some (.int p2), some (.int p3), some (.int z2), none] []) h (fun μ12 h => ?_) (fun k13 hk13 h => ?_)
            · try dsimp only at h
              refine zx_aload_n G d_Maker_spread_119 rfl ?_
              refine zx_getR G d_Maker_spread_120 zf_Maker_11 zc_11_0 hl0 ?_
              refine zx_iload_n G d_Maker_spread_123 rfl ?_
              refine zx_iconst (v := 1) G d_Maker_spread_124 rfl ?_
              refine zx_iadd G d_Maker_spread_125 ?_
              refine zx_aald37 G d_Maker_spread_126 h (fun hz14 h => ?_)
              refine zx_iload G d_Maker_spread_127 rfl ?_
              refine zx_aload_n G d_Maker_spread_129 rfl ?_
              refine zx_getR G d_Maker_spread_130 zf_Maker_23 zc_11_2 hl0 ?_
              refine zx_getJ G d_Maker_spread_133 zf_Maker_77 zc_7_0 (zi_11_2 hl0) ?_
              refine zx_last G d_Maker_spread_136 za_38 (zidl (zin_lt hz14)) h (fun μ15 h => ?_)
              refine zx_iinc (v := 1) (lf := fun y => [_, _, _, _, _, some (.int y), none]) G d_Maker_spread_137 (Nat.le_of_ble_eq_true rfl) rfl rfl (fun _ => rfl) h (fun x16 h => ?_)
              refine zx_goto (tgt := 3) G d_Maker_spread_140 rfl ?_
              exact ih3 x16 μ15 h
            try dsimp only at h
            refine zx_if_eq (tgt := 119) G d_Maker_spread_98 rfl h (fun h => ?_) (fun h => ?_)
            · refine zx_weak [true, true, true, true, true, true, false] (lv2 := [_, _, _, _, _, _, none]) rfl ?_
              exact hk13 μ9 h
            · refine zx_aload_n G d_Maker_spread_101 rfl ?_
              refine zx_getR G d_Maker_spread_102 zf_Maker_23 zc_11_2 hl0 ?_
              refine zx_getJ G d_Maker_spread_105 zf_Maker_77 zc_7_0 (zi_11_2 hl0) ?_
              refine zx_aload_n G d_Maker_spread_108 rfl ?_
              refine zx_getI G d_Maker_spread_109 zf_Maker_34 zc_11_6 hl0 ?_
              refine zx_i2l G d_Maker_spread_112 ?_
              refine zx_lcmp G d_Maker_spread_113 ?_
              refine zx_if_eq (tgt := 119) G d_Maker_spread_114 rfl h (fun h => ?_) (fun h => ?_)
              · refine zx_weak [true, true, true, true, true, true, false] (lv2 := [_, _, _, _, _, _, none]) rfl ?_
                exact hk13 μ9 h
              · refine zx_iconst (v := 0) G d_Maker_spread_117 rfl ?_
                exact zx_zretK G d_Maker_spread_118 rfl (by decide) h
          · refine zx_iconst (v := 0) G d_Maker_spread_94 rfl ?_
            exact zx_zretK G d_Maker_spread_95 rfl (by decide) h
set_option maxHeartbeats 4000000 in
set_option maxRecDepth 20000 in
theorem tf_Maker_spread_l3 {g : ZG} {E : ZE} {N n3 : Nat} {rr : Int32 × ZMem} {p0 : Nat} {p1 : Int32} {p2 : Int32} {p3 : Int32} {z2 : Int32} {μ3 : ZMem} (G : zGa g K_Maker_spread 4 E) (hl0 : (11, 0) ∈ zids) (hl1 : (4, p0) ∈ zids) (h : f_Maker_spread_l3 N p0 p1 p2 p3 n3 z2 μ3 = some rr) : zX g K_Maker_spread 4 E (some (.int rr.1), rr.2) μ3 3 [some (.ref (g.2.1 11 0)), some (.ref (g.2.1 4 p0)), some (.int p1), some (.int p2), some (.int p3), some (.int z2), none] [] := tf_Maker_spread_l3_0 G hl0 hl1 n3 z2 μ3 h
set_option maxHeartbeats 4000000 in
set_option maxRecDepth 20000 in
theorem t_Maker_spread {g : ZG} {l : Launch} {N : Nat} {μ : ZMem} {p0 : Nat} {p1 : Int32} {p2 : Int32} {p3 : Int32} (hp0 : (4, p0) ∈ zids) {rr : Int32 × ZMem} (h : f_Maker_spread N μ p0 p1 p2 p3 = some rr) : zT g l 4 K_Maker_spread [.ref (g.2.1 11 0), .ref (g.2.1 4 p0), .int p1, .int p2, .int p3] μ (some (.int rr.1), rr.2) := by
  refine zT_of (by decide +kernel) (Nat.le_of_ble_eq_true rfl) (fun E G => ?_)
  show zX g K_Maker_spread 4 E (some (.int rr.1), rr.2) μ 0 [some (.ref (g.2.1 11 0)), some (.ref (g.2.1 4 p0)), some (.int p1), some (.int p2), some (.int p3), none, none] []
  unfold f_Maker_spread at h
  refine zx_iconst (v := 0) G d_Maker_spread_0 rfl ?_
  refine zx_istore (lf := fun y => [_, _, _, _, _, some (.int y), none]) G d_Maker_spread_1 (Nat.le_of_ble_eq_true rfl) (fun _ => rfl) h (fun x1 h => ?_)
  refine tf_Maker_spread_l3 G (zids_of 11 (Nat.le_of_ble_eq_true rfl) 0 (Nat.le_of_ble_eq_true rfl)) hp0 h
set_option maxHeartbeats 4000000 in
set_option maxRecDepth 20000 in
theorem tf_Maker_reaches_l29_0 {g : ZG} {E : ZE} {N : Nat} {rr : Int32 × ZMem} {rec : ZMem → Nat → Int32 → Int32 → Option (Int32 × ZMem)} {dr : Nat} {p0 : Nat} {p1 : Int32} {p2 : Int32} {x4 : Int32} (G : zGa g K_Maker_reaches (dr + 1) E) (hl0 : (11, 0) ∈ zids) (hl1 : (4, p0) ∈ zids) (hdr : 4 ≤ dr) (hrec : ∀ {μ : ZMem} {p0 : Nat} {p1 p2 : Int32} {rr : Int32 × ZMem}, (4, p0) ∈ zids → rec μ p0 p1 p2 = some rr → ∀ l : Launch, zT g l dr K_Maker_reaches [.ref (g.2.1 11 0), .ref (g.2.1 4 p0), .int p1, .int p2] μ (some (.int rr.1), rr.2)) : ∀ (n29 : Nat) (z6 : Int32) (μ7 : ZMem), f_Maker_reaches_l29 N rec p0 p1 p2 x4 n29 z6 μ7 = some rr → zX g K_Maker_reaches (dr + 1) E (some (.int rr.1), rr.2) μ7 29 [some (.ref (g.2.1 11 0)), some (.ref (g.2.1 4 p0)), some (.int p1), some (.int p2), some (.int x4), some (.int z6)] [] := by
  intro n29
  induction n29 with
  | zero => intro z6 μ7 h; cases h
  | succ n29 ih29 =>
    intro z6 μ7 h
    simp only [f_Maker_reaches_l29] at h
    refine zx_iload G d_Maker_reaches_29 rfl ?_
    refine zx_aload_n G d_Maker_reaches_31 rfl ?_
    refine zx_getI G d_Maker_reaches_32 zf_Maker_50 zc_4_2 hl1 ?_
    refine zx_icmp_ge (tgt := 84) G d_Maker_reaches_35 rfl h (fun h => ?_) (fun h => ?_)
    · refine zx_iconst (v := 0) G d_Maker_reaches_84 rfl ?_
      exact zx_zretK G d_Maker_reaches_85 rfl (by decide) h
    · refine zx_aload_n G d_Maker_reaches_38 rfl ?_
      refine zx_aload_n G d_Maker_reaches_39 rfl ?_
      refine zx_iload G d_Maker_reaches_40 rfl ?_
      refine zx_iload_n G d_Maker_reaches_42 rfl ?_
      refine zx_iload G d_Maker_reaches_43 rfl ?_
      obtain ⟨r9, μ8, hc, h⟩ := zbnd_of h
      refine zx_callVI (r := r9) (μ2 := μ8) G d_Maker_reaches_45 zm_Maker_55 (fun l => t_Maker_spread hl1 hc) rfl rfl (by omega) (Nat.le_of_ble_eq_true rfl) (zrecv zo_11 hl0) ?_
      refine zx_join (P := fun k => ∀ (μ10 : ZMem), k μ10 = some rr → zX g K_Maker_reaches (dr + 1) E (some (.int rr.1), rr.2) μ10 78 [some (.ref (g.2.1 11 0)), some (.ref (g.2.1 4 p0)), some (.int p1), some (.int p2), some (.int x4), some (.int z6)] []) h (fun μ10 h => ?_) (fun k11 hk11 h => ?_)
      · try dsimp only at h
        refine zx_iinc (v := 1) (lf := fun y => [_, _, _, _, _, some (.int y)]) G d_Maker_reaches_78 (Nat.le_of_ble_eq_true rfl) rfl rfl (fun _ => rfl) h (fun x12 h => ?_)
        refine zx_goto (tgt := 29) G d_Maker_reaches_81 rfl ?_
        exact ih29 x12 μ10 h
      try dsimp only at h
      refine zx_if_eq (tgt := 78) G d_Maker_reaches_48 rfl h (fun h => ?_) (fun h => ?_)
      · exact hk11 μ8 h
      · refine zx_aload_n G d_Maker_reaches_51 rfl ?_
        refine zx_getR G d_Maker_reaches_52 zf_Maker_27 zc_11_3 hl0 ?_
        refine zx_iload_n G d_Maker_reaches_55 rfl ?_
        refine zx_iload G d_Maker_reaches_56 rfl ?_
        refine zx_iast G d_Maker_reaches_58 za_39 (zi_11_3 hl0) h (fun μ13 h => ?_)
        refine zx_iload G d_Maker_reaches_59 rfl ?_
        refine zx_if_ne (tgt := 76) G d_Maker_reaches_61 rfl h (fun h => ?_) (fun h => ?_)
        · refine zx_iconst (v := 1) G d_Maker_reaches_76 rfl ?_
          exact zx_zretK G d_Maker_reaches_77 rfl (by decide) h
        · refine zx_aload_n G d_Maker_reaches_64 rfl ?_
          refine zx_aload_n G d_Maker_reaches_65 rfl ?_
          refine zx_iload_n G d_Maker_reaches_66 rfl ?_
          refine zx_iconst (v := 1) G d_Maker_reaches_67 rfl ?_
          refine zx_iadd G d_Maker_reaches_68 ?_
          refine zx_iload_n G d_Maker_reaches_69 rfl ?_
          obtain ⟨r15, μ14, hc, h⟩ := zbnd_of h
          refine zx_callVI (r := r15) (μ2 := μ14) G d_Maker_reaches_70 zm_Maker_46 (fun l => hrec hl1 hc l) rfl rfl (by omega) (Nat.le_of_ble_eq_true rfl) (zrecv zo_11 hl0) ?_
          refine zx_if_eq (tgt := 78) G d_Maker_reaches_73 rfl h (fun h => ?_) (fun h => ?_)
          · exact hk11 μ14 h
          · refine zx_iconst (v := 1) G d_Maker_reaches_76 rfl ?_
            exact zx_zretK G d_Maker_reaches_77 rfl (by decide) h
set_option maxHeartbeats 4000000 in
set_option maxRecDepth 20000 in
theorem tf_Maker_reaches_l29 {g : ZG} {E : ZE} {N n29 : Nat} {rr : Int32 × ZMem} {rec : ZMem → Nat → Int32 → Int32 → Option (Int32 × ZMem)} {dr : Nat} {p0 : Nat} {p1 : Int32} {p2 : Int32} {x4 : Int32} {z6 : Int32} {μ7 : ZMem} (G : zGa g K_Maker_reaches (dr + 1) E) (hl0 : (11, 0) ∈ zids) (hl1 : (4, p0) ∈ zids) (hdr : 4 ≤ dr) (hrec : ∀ {μ : ZMem} {p0 : Nat} {p1 p2 : Int32} {rr : Int32 × ZMem}, (4, p0) ∈ zids → rec μ p0 p1 p2 = some rr → ∀ l : Launch, zT g l dr K_Maker_reaches [.ref (g.2.1 11 0), .ref (g.2.1 4 p0), .int p1, .int p2] μ (some (.int rr.1), rr.2)) (h : f_Maker_reaches_l29 N rec p0 p1 p2 x4 n29 z6 μ7 = some rr) : zX g K_Maker_reaches (dr + 1) E (some (.int rr.1), rr.2) μ7 29 [some (.ref (g.2.1 11 0)), some (.ref (g.2.1 4 p0)), some (.int p1), some (.int p2), some (.int x4), some (.int z6)] [] := tf_Maker_reaches_l29_0 G hl0 hl1 hdr hrec n29 z6 μ7 h
set_option maxHeartbeats 4000000 in
set_option maxRecDepth 20000 in
theorem t_Maker_reaches_b {g : ZG} {l : Launch} {N : Nat} {μ : ZMem} {rec : ZMem → Nat → Int32 → Int32 → Option (Int32 × ZMem)} {dr : Nat} {p0 : Nat} {p1 : Int32} {p2 : Int32} (hdr : 4 ≤ dr) (hrec : ∀ {μ : ZMem} {p0 : Nat} {p1 p2 : Int32} {rr : Int32 × ZMem}, (4, p0) ∈ zids → rec μ p0 p1 p2 = some rr → ∀ l : Launch, zT g l dr K_Maker_reaches [.ref (g.2.1 11 0), .ref (g.2.1 4 p0), .int p1, .int p2] μ (some (.int rr.1), rr.2)) (hp0 : (4, p0) ∈ zids) {rr : Int32 × ZMem} (h : f_Maker_reaches_b N rec μ p0 p1 p2 = some rr) : zT g l (dr + 1) K_Maker_reaches [.ref (g.2.1 11 0), .ref (g.2.1 4 p0), .int p1, .int p2] μ (some (.int rr.1), rr.2) := by
  refine zT_of (by decide +kernel) (Nat.le_of_ble_eq_true rfl) (fun E G => ?_)
  show zX g K_Maker_reaches (dr + 1) E (some (.int rr.1), rr.2) μ 0 [some (.ref (g.2.1 11 0)), some (.ref (g.2.1 4 p0)), some (.int p1), some (.int p2), none, none] []
  unfold f_Maker_reaches_b at h
  refine zx_iload_n G d_Maker_reaches_0 rfl ?_
  refine zx_iload_n G d_Maker_reaches_1 rfl ?_
  refine zx_icmp_ge (tgt := 10) G d_Maker_reaches_2 rfl h (fun h => ?_) (fun h => ?_)
  · refine zx_iconst (v := 0) G d_Maker_reaches_10 rfl ?_
    exact zx_zretK G d_Maker_reaches_11 rfl (by decide) h
  · refine zx_iload_n G d_Maker_reaches_5 rfl ?_
    refine zx_iconst (v := 5) G d_Maker_reaches_6 rfl ?_
    refine zx_icmp_lt (tgt := 12) G d_Maker_reaches_7 rfl h (fun h => ?_) (fun h => ?_)
    · refine zx_iload_n G d_Maker_reaches_12 rfl ?_
      refine zx_iconst (v := 1) G d_Maker_reaches_13 rfl ?_
      refine zx_iadd G d_Maker_reaches_14 ?_
      refine zx_iload_n G d_Maker_reaches_15 rfl ?_
      refine zx_join (P := fun k => ∀ (y1 : Int32) (μ2 : ZMem), k y1 μ2 = some rr → zX g K_Maker_reaches (dr + 1) E (some (.int rr.1), rr.2) μ2 24 [some (.ref (g.2.1 11 0)), some (.ref (g.2.1 4 p0)), some (.int p1), some (.int p2), none, none] [.int y1]) h (fun y1 μ2 h => ?_) (fun k3 hk3 h => ?_)
      · try dsimp only at h
        refine zx_istore (lf := fun y => [_, _, _, _, some (.int y), none]) G d_Maker_reaches_24 (Nat.le_of_ble_eq_true rfl) (fun _ => rfl) h (fun x4 h => ?_)
        refine zx_iconst (v := 0) G d_Maker_reaches_26 rfl ?_
        refine zx_istore (lf := fun y => [_, _, _, _, _, some (.int y)]) G d_Maker_reaches_27 (Nat.le_of_ble_eq_true rfl) (fun _ => rfl) h (fun x5 h => ?_)
        refine tf_Maker_reaches_l29 G (zids_of 11 (Nat.le_of_ble_eq_true rfl) 0 (Nat.le_of_ble_eq_true rfl)) hp0 hdr hrec h
      try dsimp only at h
      refine zx_icmp_ne (tgt := 23) G d_Maker_reaches_16 rfl h (fun h => ?_) (fun h => ?_)
      · refine zx_iconst (v := 0) G d_Maker_reaches_23 rfl ?_
        exact hk3 (0 : Int32) μ h
      · refine zx_iconst (v := 1) G d_Maker_reaches_19 rfl ?_
        refine zx_goto (tgt := 24) G d_Maker_reaches_20 rfl ?_
        exact hk3 (1 : Int32) μ h
    · refine zx_iconst (v := 0) G d_Maker_reaches_10 rfl ?_
      exact zx_zretK G d_Maker_reaches_11 rfl (by decide) h
set_option maxHeartbeats 4000000 in
set_option maxRecDepth 20000 in
theorem t_Maker_reaches {g : ZG} {l : Launch} {N : Nat} : ∀ (D : Nat) {μ : ZMem} {p0 : Nat} {p1 p2 : Int32} (hp0 : (4, p0) ∈ zids) {rr : Int32 × ZMem} (h : f_Maker_reaches N D μ p0 p1 p2 = some rr), zT g l (4 + D) K_Maker_reaches [.ref (g.2.1 11 0), .ref (g.2.1 4 p0), .int p1, .int p2] μ (some (.int rr.1), rr.2) := by
  intro D
  induction D generalizing l with
  | zero => intro μ p0 p1 p2 hp0 rr h; cases h
  | succ D ih =>
    intro μ p0 p1 p2 hp0 rr h
    exact t_Maker_reaches_b (dr := 4 + D) (Nat.le_add_right _ _) (fun h1 h2 l1 => ih h1 h2) hp0 h
set_option maxHeartbeats 4000000 in
set_option maxRecDepth 20000 in
theorem tf_Maker_fewest_l52_0 {g : ZG} {E : ZE} {N : Nat} {rr : Int32 × ZMem} {p0 : Nat} {p4 : Int32} {kx84 : ZMem → Option (Int32 × ZMem)} (G : zGa g K_Maker_fewest 13 E) (hl0 : (11, 0) ∈ zids) (hl1 : (4, p0) ∈ zids) (hkx84 : ∀  (μ : ZMem), kx84 μ = some rr → zX g K_Maker_fewest 13 E (some (.int rr.1), rr.2) μ 84 [some (.ref (g.2.1 11 0)), some (.ref (g.2.1 4 p0)), none, none, none, some (.int p4), none] []) : ∀ (n52 : Nat) (z7 : Int32) (μ8 : ZMem), f_Maker_fewest_l52 N p0 p4 kx84 n52 z7 μ8 = some rr → zX g K_Maker_fewest 13 E (some (.int rr.1), rr.2) μ8 52 [some (.ref (g.2.1 11 0)), some (.ref (g.2.1 4 p0)), none, none, none, some (.int p4), some (.int z7)] [] := by
  intro n52
  induction n52 with
  | zero => intro z7 μ8 h; cases h
  | succ n52 ih52 =>
    intro z7 μ8 h
    simp only [f_Maker_fewest_l52] at h
    refine zx_iload G d_Maker_fewest_52 rfl ?_
    refine zx_aload_n G d_Maker_fewest_54 rfl ?_
    refine zx_getI G d_Maker_fewest_55 zf_Maker_43 zc_11_5 hl0 ?_
    refine zx_icmp_ge (tgt := 84) G d_Maker_fewest_58 rfl h (fun h => ?_) (fun h => ?_)
    · refine zx_weak [true, true, false, false, false, true, false] (lv2 := [_, _, none, none, none, _, none]) rfl ?_
      exact hkx84 μ8 h
    · refine zx_aload_n G d_Maker_fewest_61 rfl ?_
      refine zx_getR G d_Maker_fewest_62 zf_Maker_11 zc_11_0 hl0 ?_
      refine zx_iconst (v := 0) G d_Maker_fewest_65 rfl ?_
      refine zx_aald37 G d_Maker_fewest_66 h (fun hz9 h => ?_)
      refine zx_iload G d_Maker_fewest_67 rfl ?_
      refine zx_aload_n G d_Maker_fewest_69 rfl ?_
      refine zx_getI G d_Maker_fewest_70 zf_Maker_30 zc_11_4 hl0 ?_
      refine zx_iload G d_Maker_fewest_73 rfl ?_
      refine zx_iadd G d_Maker_fewest_75 ?_
      refine zx_i2l G d_Maker_fewest_76 ?_
      refine zx_last G d_Maker_fewest_77 za_38 (zidl (zin_lt hz9)) h (fun μ10 h => ?_)
      refine zx_iinc (v := 1) (lf := fun y => [_, _, none, none, none, _, some (.int y)]) G d_Maker_fewest_78 (Nat.le_of_ble_eq_true rfl) rfl rfl (fun _ => rfl) h (fun x11 h => ?_)
      refine zx_goto (tgt := 52) G d_Maker_fewest_81 rfl ?_
      exact ih52 x11 μ10 h
set_option maxHeartbeats 4000000 in
set_option maxRecDepth 20000 in
theorem tf_Maker_fewest_l52 {g : ZG} {E : ZE} {N n52 : Nat} {rr : Int32 × ZMem} {p0 : Nat} {p4 : Int32} {kx84 : ZMem → Option (Int32 × ZMem)} {z7 : Int32} {μ8 : ZMem} (G : zGa g K_Maker_fewest 13 E) (hl0 : (11, 0) ∈ zids) (hl1 : (4, p0) ∈ zids) (h : f_Maker_fewest_l52 N p0 p4 kx84 n52 z7 μ8 = some rr) (hkx84 : ∀  (μ : ZMem), kx84 μ = some rr → zX g K_Maker_fewest 13 E (some (.int rr.1), rr.2) μ 84 [some (.ref (g.2.1 11 0)), some (.ref (g.2.1 4 p0)), none, none, none, some (.int p4), none] []) : zX g K_Maker_fewest 13 E (some (.int rr.1), rr.2) μ8 52 [some (.ref (g.2.1 11 0)), some (.ref (g.2.1 4 p0)), none, none, none, some (.int p4), some (.int z7)] [] := tf_Maker_fewest_l52_0 G hl0 hl1 hkx84 n52 z7 μ8 h
set_option maxHeartbeats 4000000 in
set_option maxRecDepth 20000 in
theorem tf_Maker_fewest_l87_0 {g : ZG} {E : ZE} {N : Nat} {rr : Int32 × ZMem} {p0 : Nat} {p4 : Int32} (G : zGa g K_Maker_fewest 13 E) (hl0 : (11, 0) ∈ zids) (hl1 : (4, p0) ∈ zids) : ∀ (n87 : Nat) (z14 : Int32) (μ15 : ZMem), f_Maker_fewest_l87 N p0 p4 n87 z14 μ15 = some rr → zX g K_Maker_fewest 13 E (some (.int rr.1), rr.2) μ15 87 [some (.ref (g.2.1 11 0)), some (.ref (g.2.1 4 p0)), none, none, none, some (.int p4), some (.int z14)] [] := by
  intro n87
  induction n87 with
  | zero => intro z14 μ15 h; cases h
  | succ n87 ih87 =>
    intro z14 μ15 h
    simp only [f_Maker_fewest_l87] at h
    refine zx_iload G d_Maker_fewest_87 rfl ?_
    refine zx_iload G d_Maker_fewest_89 rfl ?_
    refine zx_icmp_gt (tgt := 120) G d_Maker_fewest_91 rfl h (fun h => ?_) (fun h => ?_)
    · refine zx_bipush (v := -2) G d_Maker_fewest_120 rfl ?_
      exact zx_iret G d_Maker_fewest_122 rfl h
    · refine zx_iload G d_Maker_fewest_94 rfl ?_
      refine zx_iconst (v := 5) G d_Maker_fewest_96 rfl ?_
      refine zx_icmp_gt (tgt := 120) G d_Maker_fewest_97 rfl h (fun h => ?_) (fun h => ?_)
      · refine zx_bipush (v := -2) G d_Maker_fewest_120 rfl ?_
        exact zx_iret G d_Maker_fewest_122 rfl h
      · refine zx_aload_n G d_Maker_fewest_100 rfl ?_
        refine zx_aload_n G d_Maker_fewest_101 rfl ?_
        refine zx_iconst (v := 0) G d_Maker_fewest_102 rfl ?_
        refine zx_iload G d_Maker_fewest_103 rfl ?_
        obtain ⟨r17, μ16, hc, h⟩ := zbnd_of h
        refine zx_callVI (r := r17) (μ2 := μ16) G d_Maker_fewest_105 zm_Maker_46 (fun l => t_Maker_reaches 8 hl1 hc) rfl rfl (Nat.le_of_ble_eq_true rfl) (Nat.le_of_ble_eq_true rfl) (zrecv zo_11 hl0) ?_
        refine zx_if_eq (tgt := 114) G d_Maker_fewest_108 rfl h (fun h => ?_) (fun h => ?_)
        · refine zx_iinc (v := 1) (lf := fun y => [_, _, none, none, none, _, some (.int y)]) G d_Maker_fewest_114 (Nat.le_of_ble_eq_true rfl) rfl rfl (fun _ => rfl) h (fun x18 h => ?_)
          refine zx_goto (tgt := 87) G d_Maker_fewest_117 rfl ?_
          exact ih87 x18 μ16 h
        · refine zx_iload G d_Maker_fewest_111 rfl ?_
          exact zx_iret G d_Maker_fewest_113 rfl h
set_option maxHeartbeats 4000000 in
set_option maxRecDepth 20000 in
theorem tf_Maker_fewest_l87 {g : ZG} {E : ZE} {N n87 : Nat} {rr : Int32 × ZMem} {p0 : Nat} {p4 : Int32} {z14 : Int32} {μ15 : ZMem} (G : zGa g K_Maker_fewest 13 E) (hl0 : (11, 0) ∈ zids) (hl1 : (4, p0) ∈ zids) (h : f_Maker_fewest_l87 N p0 p4 n87 z14 μ15 = some rr) : zX g K_Maker_fewest 13 E (some (.int rr.1), rr.2) μ15 87 [some (.ref (g.2.1 11 0)), some (.ref (g.2.1 4 p0)), none, none, none, some (.int p4), some (.int z14)] [] := tf_Maker_fewest_l87_0 G hl0 hl1 n87 z14 μ15 h
set_option maxHeartbeats 4000000 in
set_option maxRecDepth 20000 in
theorem t_Maker_fewest {g : ZG} {l : Launch} {N : Nat} {μ : ZMem} {p0 : Nat} {p1 : Int32} {p2 : Int32} {p3 : Int32} {p4 : Int32} (hp0 : (4, p0) ∈ zids) {rr : Int32 × ZMem} (h : f_Maker_fewest N μ p0 p1 p2 p3 p4 = some rr) : zT g l 13 K_Maker_fewest [.ref (g.2.1 11 0), .ref (g.2.1 4 p0), .int p1, .int p2, .int p3, .int p4] μ (some (.int rr.1), rr.2) := by
  refine zT_of (by decide +kernel) (Nat.le_of_ble_eq_true rfl) (fun E G => ?_)
  show zX g K_Maker_fewest 13 E (some (.int rr.1), rr.2) μ 0 [some (.ref (g.2.1 11 0)), some (.ref (g.2.1 4 p0)), some (.int p1), some (.int p2), some (.int p3), some (.int p4), none] []
  unfold f_Maker_fewest at h
  refine zx_aload_n G d_Maker_fewest_0 rfl ?_
  refine zx_iload_n G d_Maker_fewest_1 rfl ?_
  refine zx_putI G d_Maker_fewest_2 zq_Maker_30 zp_11_4 (zids_of 11 (Nat.le_of_ble_eq_true rfl) 0 (Nat.le_of_ble_eq_true rfl)) h (fun μ1 h => ?_)
  refine zx_aload_n G d_Maker_fewest_5 rfl ?_
  refine zx_iload G d_Maker_fewest_6 rfl ?_
  refine zx_putI G d_Maker_fewest_8 zq_Maker_34 zp_11_6 (zids_of 11 (Nat.le_of_ble_eq_true rfl) 0 (Nat.le_of_ble_eq_true rfl)) h (fun μ2 h => ?_)
  refine zx_aload_n G d_Maker_fewest_11 rfl ?_
  refine zx_iload_n G d_Maker_fewest_12 rfl ?_
  refine zx_aload_n G d_Maker_fewest_13 rfl ?_
  refine zx_getI G d_Maker_fewest_14 zf_Maker_30 zc_11_4 (zids_of 11 (Nat.le_of_ble_eq_true rfl) 0 (Nat.le_of_ble_eq_true rfl)) ?_
  refine zx_isub G d_Maker_fewest_17 ?_
  refine zx_iconst (v := 1) G d_Maker_fewest_18 rfl ?_
  refine zx_iadd G d_Maker_fewest_19 ?_
  refine zx_bipush (v := 100) G d_Maker_fewest_20 rfl ?_
  refine zx_mmin G d_Maker_fewest_22 zm_Maker_37 zMs_min zMi zMy_min (Nat.le_of_ble_eq_true rfl) (Nat.le_of_ble_eq_true rfl) ?_
  refine zx_putI G d_Maker_fewest_25 zq_Maker_43 zp_11_5 (zids_of 11 (Nat.le_of_ble_eq_true rfl) 0 (Nat.le_of_ble_eq_true rfl)) h (fun μ3 h => ?_)
  refine zx_aload_n G d_Maker_fewest_28 rfl ?_
  refine zx_getI G d_Maker_fewest_29 zf_Maker_30 zc_11_4 (zids_of 11 (Nat.le_of_ble_eq_true rfl) 0 (Nat.le_of_ble_eq_true rfl)) ?_
  refine zx_iload_n G d_Maker_fewest_32 rfl ?_
  refine zx_join (P := fun k => ∀ (μ4 : ZMem), k μ4 = some rr → zX g K_Maker_fewest 13 E (some (.int rr.1), rr.2) μ4 49 [some (.ref (g.2.1 11 0)), some (.ref (g.2.1 4 p0)), none, none, none, some (.int p4), none] []) h (fun μ4 h => ?_) (fun k5 hk5 h => ?_)
  · try dsimp only at h
    refine zx_iconst (v := 0) G d_Maker_fewest_49 rfl ?_
    refine zx_istore (lf := fun y => [_, _, none, none, none, _, some (.int y)]) G d_Maker_fewest_50 (Nat.le_of_ble_eq_true rfl) (fun _ => rfl) h (fun x6 h => ?_)
    refine tf_Maker_fewest_l52 G (zids_of 11 (Nat.le_of_ble_eq_true rfl) 0 (Nat.le_of_ble_eq_true rfl)) hp0 h (fun μ12 h => ?_)
    · try dsimp only at h
      refine zx_iconst (v := 1) G d_Maker_fewest_84 rfl ?_
      refine zx_istore (lf := fun y => [_, _, none, none, none, _, some (.int y)]) G d_Maker_fewest_85 (Nat.le_of_ble_eq_true rfl) (fun _ => rfl) h (fun x13 h => ?_)
      refine tf_Maker_fewest_l87 G (zids_of 11 (Nat.le_of_ble_eq_true rfl) 0 (Nat.le_of_ble_eq_true rfl)) hp0 h
  try dsimp only at h
  refine zx_icmp_ne (tgt := 49) G d_Maker_fewest_33 rfl h (fun h => ?_) (fun h => ?_)
  · refine zx_weak [true, true, false, false, false, true, false] (lv2 := [_, _, none, none, none, _, none]) rfl ?_
    exact hk5 μ3 h
  · refine zx_aload_n G d_Maker_fewest_36 rfl ?_
    refine zx_getI G d_Maker_fewest_37 zf_Maker_30 zc_11_4 (zids_of 11 (Nat.le_of_ble_eq_true rfl) 0 (Nat.le_of_ble_eq_true rfl)) ?_
    refine zx_aload_n G d_Maker_fewest_40 rfl ?_
    refine zx_getI G d_Maker_fewest_41 zf_Maker_34 zc_11_6 (zids_of 11 (Nat.le_of_ble_eq_true rfl) 0 (Nat.le_of_ble_eq_true rfl)) ?_
    refine zx_icmp_ne (tgt := 49) G d_Maker_fewest_44 rfl h (fun h => ?_) (fun h => ?_)
    · refine zx_weak [true, true, false, false, false, true, false] (lv2 := [_, _, none, none, none, _, none]) rfl ?_
      exact hk5 μ3 h
    · refine zx_iconst (v := 0) G d_Maker_fewest_47 rfl ?_
      exact zx_iret G d_Maker_fewest_48 rfl h
set_option maxHeartbeats 4000000 in
set_option maxRecDepth 20000 in
theorem t_A_made {g : ZG} {l : Launch} {N : Nat} {μ : ZMem} {p0 : Int32} {p1 : Int32} {p2 : Int32} {p3 : Int32} {p4 : Int32} {rr : Int32 × ZMem} (h : f_A_made N μ p0 p1 p2 p3 p4 = some rr) : zT g l 14 K_A_made [.ref (g.2.1 0 0), .int p0, .int p1, .int p2, .int p3, .int p4] μ (some (.int rr.1), rr.2) := by
  refine zT_of (by decide +kernel) (Nat.le_of_ble_eq_true rfl) (fun E G => ?_)
  show zX g K_A_made 14 E (some (.int rr.1), rr.2) μ 0 [some (.ref (g.2.1 0 0)), some (.int p0), some (.int p1), some (.int p2), some (.int p3), some (.int p4), none] []
  unfold f_A_made at h
  refine zx_iload_n G d_A_made_0 rfl ?_
  obtain ⟨r2, μ1, hc, h⟩ := zbnd_of h
  refine zx_callSI (r := r2) (μ2 := μ1) G d_A_made_1 zm_A_84 (fun l => t_A_isNumber  hc) rfl rfl (Nat.le_of_ble_eq_true rfl) (Nat.le_of_ble_eq_true rfl) ?_
  refine zx_if_eq (tgt := 33) G d_A_made_4 rfl h (fun h => ?_) (fun h => ?_)
  · refine zx_bipush (v := -2) G d_A_made_33 rfl ?_
    exact zx_iret G d_A_made_35 rfl h
  · refine zx_iload_n G d_A_made_7 rfl ?_
    obtain ⟨r4, μ3, hc, h⟩ := zbnd_of h
    refine zx_callSI (r := r4) (μ2 := μ3) G d_A_made_8 zm_A_84 (fun l => t_A_isNumber  hc) rfl rfl (Nat.le_of_ble_eq_true rfl) (Nat.le_of_ble_eq_true rfl) ?_
    refine zx_if_eq (tgt := 33) G d_A_made_11 rfl h (fun h => ?_) (fun h => ?_)
    · refine zx_bipush (v := -2) G d_A_made_33 rfl ?_
      exact zx_iret G d_A_made_35 rfl h
    · refine zx_iload_n G d_A_made_14 rfl ?_
      obtain ⟨r6, μ5, hc, h⟩ := zbnd_of h
      refine zx_callSI (r := r6) (μ2 := μ5) G d_A_made_15 zm_A_84 (fun l => t_A_isNumber  hc) rfl rfl (Nat.le_of_ble_eq_true rfl) (Nat.le_of_ble_eq_true rfl) ?_
      refine zx_if_eq (tgt := 33) G d_A_made_18 rfl h (fun h => ?_) (fun h => ?_)
      · refine zx_bipush (v := -2) G d_A_made_33 rfl ?_
        exact zx_iret G d_A_made_35 rfl h
      · refine zx_iload G d_A_made_21 rfl ?_
        refine zx_iconst (v := 1) G d_A_made_23 rfl ?_
        refine zx_icmp_lt (tgt := 33) G d_A_made_24 rfl h (fun h => ?_) (fun h => ?_)
        · refine zx_bipush (v := -2) G d_A_made_33 rfl ?_
          exact zx_iret G d_A_made_35 rfl h
        · refine zx_iload G d_A_made_27 rfl ?_
          refine zx_iconst (v := 5) G d_A_made_29 rfl ?_
          refine zx_icmp_le (tgt := 36) G d_A_made_30 rfl h (fun h => ?_) (fun h => ?_)
          · refine zx_iload_n G d_A_made_36 rfl ?_
            refine zx_iload_n G d_A_made_37 rfl ?_
            refine zx_icmp_gt (tgt := 49) G d_A_made_38 rfl h (fun h => ?_) (fun h => ?_)
            · refine zx_bipush (v := -2) G d_A_made_49 rfl ?_
              exact zx_iret G d_A_made_51 rfl h
            · refine zx_iload_n G d_A_made_41 rfl ?_
              refine zx_iload_n G d_A_made_42 rfl ?_
              refine zx_isub G d_A_made_43 ?_
              refine zx_bipush (v := 100) G d_A_made_44 rfl ?_
              refine zx_icmp_lt (tgt := 52) G d_A_made_46 rfl h (fun h => ?_) (fun h => ?_)
              · refine zx_aload_n G d_A_made_52 rfl ?_
                refine zx_getR G d_A_made_53 zf_A_80 zc_0_11 (zids_of 0 (Nat.le_of_ble_eq_true rfl) 0 (Nat.le_of_ble_eq_true rfl)) ?_
                refine zx_aload_n G d_A_made_56 rfl ?_
                refine zx_getR G d_A_made_57 zf_A_35 zc_0_3 (zids_of 0 (Nat.le_of_ble_eq_true rfl) 0 (Nat.le_of_ble_eq_true rfl)) ?_
                refine zx_getR G d_A_made_60 zf_A_240 zc_5_4 (zi_0_3 (zids_of 0 (Nat.le_of_ble_eq_true rfl) 0 (Nat.le_of_ble_eq_true rfl))) ?_
                refine zx_iload_n G d_A_made_63 rfl ?_
                refine zx_iload_n G d_A_made_64 rfl ?_
                refine zx_iload_n G d_A_made_65 rfl ?_
                refine zx_iload G d_A_made_66 rfl ?_
                obtain ⟨r8, μ7, hc, h⟩ := zbnd_of h
                refine zx_callVI (r := r8) (μ2 := μ7) G d_A_made_68 zm_A_246 (fun l => t_Maker_fewest (zi_5_4 (zi_0_3 (zids_of 0 (Nat.le_of_ble_eq_true rfl) 0 (Nat.le_of_ble_eq_true rfl)))) hc) rfl rfl (Nat.le_of_ble_eq_true rfl) (Nat.le_of_ble_eq_true rfl) (zrecv zo_11 (zi_0_11 (zids_of 0 (Nat.le_of_ble_eq_true rfl) 0 (Nat.le_of_ble_eq_true rfl)))) ?_
                refine zx_istore (lf := fun y => [_, _, _, _, _, _, some (.int y)]) G d_A_made_71 (Nat.le_of_ble_eq_true rfl) (fun _ => rfl) h (fun x9 h => ?_)
                refine zx_iload G d_A_made_73 rfl ?_
                refine zx_iconst (v := -1) G d_A_made_75 rfl ?_
                refine zx_icmp_ne (tgt := 82) G d_A_made_76 rfl h (fun h => ?_) (fun h => ?_)
                · refine zx_iload G d_A_made_82 rfl ?_
                  refine zx_if_lt (tgt := 107) G d_A_made_84 rfl h (fun h => ?_) (fun h => ?_)
                  · refine zx_bipush (v := -2) G d_A_made_107 rfl ?_
                    exact zx_iret G d_A_made_109 rfl h
                  · refine zx_iload G d_A_made_87 rfl ?_
                    refine zx_iload G d_A_made_89 rfl ?_
                    refine zx_icmp_ge (tgt := 107) G d_A_made_91 rfl h (fun h => ?_) (fun h => ?_)
                    · refine zx_bipush (v := -2) G d_A_made_107 rfl ?_
                      exact zx_iret G d_A_made_109 rfl h
                    · refine zx_aload_n G d_A_made_94 rfl ?_
                      refine zx_getR G d_A_made_95 zf_A_80 zc_0_11 (zids_of 0 (Nat.le_of_ble_eq_true rfl) 0 (Nat.le_of_ble_eq_true rfl)) ?_
                      refine zx_getR G d_A_made_98 zf_A_250 zc_11_3 (zi_0_11 (zids_of 0 (Nat.le_of_ble_eq_true rfl) 0 (Nat.le_of_ble_eq_true rfl))) ?_
                      refine zx_iload G d_A_made_101 rfl ?_
                      refine zx_iald G d_A_made_103 za_39 (zi_11_3 (zi_0_11 (zids_of 0 (Nat.le_of_ble_eq_true rfl) 0 (Nat.le_of_ble_eq_true rfl)))) h (fun h => ?_)
                      refine zx_goto (tgt := 109) G d_A_made_104 rfl ?_
                      exact zx_iret G d_A_made_109 rfl h
                · refine zx_iload G d_A_made_79 rfl ?_
                  exact zx_iret G d_A_made_81 rfl h
              · refine zx_bipush (v := -2) G d_A_made_49 rfl ?_
                exact zx_iret G d_A_made_51 rfl h
          · refine zx_bipush (v := -2) G d_A_made_33 rfl ?_
            exact zx_iret G d_A_made_35 rfl h
set_option maxHeartbeats 4000000 in
set_option maxRecDepth 20000 in
theorem t_Table_slipAt {g : ZG} {l : Launch} {N : Nat} {μ : ZMem} {p0 : Int32} {p1 : Int32} {p2 : Int32} {p3 : Nat} (hp3 : (7, p3) ∈ zids) {rr : Int32 × ZMem} (h : f_Table_slipAt N μ p0 p1 p2 p3 = some rr) : zT g l 4 K_Table_slipAt [.int p0, .int p1, .int p2, .ref (g.2.1 7 p3)] μ (some (.int rr.1), rr.2) := by
  refine zT_of (by decide +kernel) (Nat.le_of_ble_eq_true rfl) (fun E G => ?_)
  show zX g K_Table_slipAt 4 E (some (.int rr.1), rr.2) μ 0 [some (.int p0), some (.int p1), some (.int p2), some (.ref (g.2.1 7 p3))] []
  unfold f_Table_slipAt at h
  refine zx_iload_n G d_Table_slipAt_0 rfl ?_
  refine zx_if_ne (tgt := 6) G d_Table_slipAt_1 rfl h (fun h => ?_) (fun h => ?_)
  · refine zx_iload_n G d_Table_slipAt_6 rfl ?_
    refine zx_iconst (v := 1) G d_Table_slipAt_7 rfl ?_
    refine zx_icmp_ne (tgt := 35) G d_Table_slipAt_8 rfl h (fun h => ?_) (fun h => ?_)
    · refine zx_iload_n G d_Table_slipAt_35 rfl ?_
      refine zx_iconst (v := 3) G d_Table_slipAt_36 rfl ?_
      refine zx_icmp_gt (tgt := 55) G d_Table_slipAt_37 rfl h (fun h => ?_) (fun h => ?_)
      · refine zx_iconst (v := 0) G d_Table_slipAt_55 rfl ?_
        exact zx_zretK G d_Table_slipAt_56 rfl (by decide) h
      · refine zx_aload_n G d_Table_slipAt_40 rfl ?_
        refine zx_iload_n G d_Table_slipAt_41 rfl ?_
        refine zx_iconst (v := 1) G d_Table_slipAt_42 rfl ?_
        refine zx_ixor G d_Table_slipAt_43 ?_
        refine zx_iload_n G d_Table_slipAt_44 rfl ?_
        obtain ⟨r2, μ1, hc, h⟩ := zbnd_of h
        refine zx_callVI (r := r2) (μ2 := μ1) G d_Table_slipAt_45 zm_Table_67 (fun l => t_Value_obey hp3 hc) rfl rfl (Nat.le_of_ble_eq_true rfl) (Nat.le_of_ble_eq_true rfl) (zrecv zo_7 hp3) ?_
        refine zx_if_eq (tgt := 55) G d_Table_slipAt_48 rfl h (fun h => ?_) (fun h => ?_)
        · refine zx_iconst (v := 0) G d_Table_slipAt_55 rfl ?_
          exact zx_zretK G d_Table_slipAt_56 rfl (by decide) h
        · refine zx_iconst (v := 1) G d_Table_slipAt_51 rfl ?_
          refine zx_goto (tgt := 56) G d_Table_slipAt_52 rfl ?_
          exact zx_zretK G d_Table_slipAt_56 rfl (by decide) h
    · refine zx_aload_n G d_Table_slipAt_11 rfl ?_
      refine zx_iload_n G d_Table_slipAt_12 rfl ?_
      refine zx_iload_n G d_Table_slipAt_13 rfl ?_
      obtain ⟨r4, μ3, hc, h⟩ := zbnd_of h
      refine zx_callVI (r := r4) (μ2 := μ3) G d_Table_slipAt_14 zm_Table_67 (fun l => t_Value_obey hp3 hc) rfl rfl (Nat.le_of_ble_eq_true rfl) (Nat.le_of_ble_eq_true rfl) (zrecv zo_7 hp3) ?_
      refine zx_if_eq (tgt := 33) G d_Table_slipAt_17 rfl h (fun h => ?_) (fun h => ?_)
      · refine zx_iconst (v := 0) G d_Table_slipAt_33 rfl ?_
        exact zx_zretK G d_Table_slipAt_34 rfl (by decide) h
      · refine zx_aload_n G d_Table_slipAt_20 rfl ?_
        refine zx_iload_n G d_Table_slipAt_21 rfl ?_
        refine zx_iload_n G d_Table_slipAt_22 rfl ?_
        obtain ⟨r6, μ5, hc, h⟩ := zbnd_of h
        refine zx_callVI (r := r6) (μ2 := μ5) G d_Table_slipAt_23 zm_Table_67 (fun l => t_Value_obey hp3 hc) rfl rfl (Nat.le_of_ble_eq_true rfl) (Nat.le_of_ble_eq_true rfl) (zrecv zo_7 hp3) ?_
        refine zx_if_eq (tgt := 33) G d_Table_slipAt_26 rfl h (fun h => ?_) (fun h => ?_)
        · refine zx_iconst (v := 0) G d_Table_slipAt_33 rfl ?_
          exact zx_zretK G d_Table_slipAt_34 rfl (by decide) h
        · refine zx_iconst (v := 1) G d_Table_slipAt_29 rfl ?_
          refine zx_goto (tgt := 34) G d_Table_slipAt_30 rfl ?_
          exact zx_zretK G d_Table_slipAt_34 rfl (by decide) h
  · refine zx_iconst (v := 1) G d_Table_slipAt_4 rfl ?_
    exact zx_zretK G d_Table_slipAt_5 rfl (by decide) h
set_option maxHeartbeats 4000000 in
set_option maxRecDepth 20000 in
theorem tf_Table_runWithSlip_l14_0 {g : ZG} {E : ZE} {N : Nat} {rr : Int32 × ZMem} {o : Nat} {p0 : Int32} {p1 : Nat} {p2 : Nat} {x1 : Int32} (G : zGa g K_Table_runWithSlip 5 E) (hl0 : (3, o) ∈ zids) (hl2 : (26, p1) ∈ zids) (hl3 : (7, p2) ∈ zids) : ∀ (n14 : Nat) (z4 : Int32) (μ5 : ZMem), f_Table_runWithSlip_l14 N o p0 p1 p2 x1 n14 z4 μ5 = some rr → zX g K_Table_runWithSlip 5 E (some (.int rr.1), rr.2) μ5 14 [some (.ref (g.2.1 3 o)), some (.int p0), some (.ref (g.2.1 26 p1)), some (.ref (g.2.1 7 p2)), some (.int x1), some (.int z4), none, none, none] [] := by
  intro n14
  induction n14 with
  | zero => intro z4 μ5 h; cases h
  | succ n14 ih14 =>
    intro z4 μ5 h
    simp only [f_Table_runWithSlip_l14] at h
    refine zx_iload G d_Table_runWithSlip_14 rfl ?_
    refine zx_aload_n G d_Table_runWithSlip_16 rfl ?_
    refine zx_getR G d_Table_runWithSlip_17 zf_Table_14 zc_3_0 hl0 ?_
    refine zx_getI G d_Table_runWithSlip_20 zf_Table_27 zc_4_2 (zi_3_0 hl0) ?_
    refine zx_icmp_ge (tgt := 94) G d_Table_runWithSlip_23 rfl h (fun h => ?_) (fun h => ?_)
    · refine zx_iconst (v := 1) G d_Table_runWithSlip_94 rfl ?_
      exact zx_zretK G d_Table_runWithSlip_95 rfl (by decide) h
    · refine zx_aload_n G d_Table_runWithSlip_26 rfl ?_
      refine zx_getR G d_Table_runWithSlip_27 zf_Table_14 zc_3_0 hl0 ?_
      refine zx_getR G d_Table_runWithSlip_30 zf_Table_60 zc_4_0 (zi_3_0 hl0) ?_
      refine zx_iload G d_Table_runWithSlip_33 rfl ?_
      refine zx_iald G d_Table_runWithSlip_35 za_22 (zi_4_0 (zi_3_0 hl0)) h (fun h => ?_)
      refine zx_istore (lf := fun y => [_, _, _, _, _, _, some (.int y), none, none]) G d_Table_runWithSlip_36 (Nat.le_of_ble_eq_true rfl) (fun _ => rfl) h (fun x6 h => ?_)
      refine zx_aload_n G d_Table_runWithSlip_38 rfl ?_
      refine zx_getR G d_Table_runWithSlip_39 zf_Table_14 zc_3_0 hl0 ?_
      refine zx_iload G d_Table_runWithSlip_42 rfl ?_
      refine zx_aload_n G d_Table_runWithSlip_44 rfl ?_
      obtain ⟨r8, μ7, hc, h⟩ := zbnd_of h
      refine zx_callVI (r := r8) (μ2 := μ7) G d_Table_runWithSlip_45 zm_Table_63 (fun l => t_Orders_amount (zi_3_0 hl0) hl2 hc) rfl rfl (Nat.le_of_ble_eq_true rfl) (Nat.le_of_ble_eq_true rfl) (zrecv zo_4 (zi_3_0 hl0)) ?_
      refine zx_istore (lf := fun y => [_, _, _, _, _, _, _, some (.int y), none]) G d_Table_runWithSlip_48 (Nat.le_of_ble_eq_true rfl) (fun _ => rfl) h (fun x9 h => ?_)
      refine zx_iload G d_Table_runWithSlip_50 rfl ?_
      refine zx_iload G d_Table_runWithSlip_52 rfl ?_
      refine zx_join (P := fun k => ∀ (y10 : Int32) (μ11 : ZMem), k y10 μ11 = some rr → zX g K_Table_runWithSlip 5 E (some (.int rr.1), rr.2) μ11 79 [some (.ref (g.2.1 3 o)), some (.int p0), some (.ref (g.2.1 26 p1)), some (.ref (g.2.1 7 p2)), some (.int x1), some (.int z4), none, none, none] [.int y10]) h (fun y10 μ11 h => ?_) (fun k12 hk12 h => ?_)
      · try dsimp only at h
        refine zx_istore (lf := fun y => [_, _, _, _, _, _, none, none, some (.int y)]) G d_Table_runWithSlip_79 (Nat.le_of_ble_eq_true rfl) (fun _ => rfl) h (fun x13 h => ?_)
        refine zx_iload G d_Table_runWithSlip_81 rfl ?_
        refine zx_if_ne (tgt := 88) G d_Table_runWithSlip_83 rfl h (fun h => ?_) (fun h => ?_)
        · refine zx_iinc (v := 1) (lf := fun y => [_, _, _, _, _, some (.int y), none, none, _]) G d_Table_runWithSlip_88 (Nat.le_of_ble_eq_true rfl) rfl rfl (fun _ => rfl) h (fun x14 h => ?_)
          refine zx_goto (tgt := 14) G d_Table_runWithSlip_91 rfl ?_
          refine zx_weak [true, true, true, true, true, true, false, false, false] (lv2 := [_, _, _, _, _, _, none, none, none]) rfl ?_
          exact ih14 x14 μ11 h
        · refine zx_iconst (v := 0) G d_Table_runWithSlip_86 rfl ?_
          exact zx_zretK G d_Table_runWithSlip_87 rfl (by decide) h
      try dsimp only at h
      refine zx_icmp_ne (tgt := 71) G d_Table_runWithSlip_54 rfl h (fun h => ?_) (fun h => ?_)
      · refine zx_aload_n G d_Table_runWithSlip_71 rfl ?_
        refine zx_iload G d_Table_runWithSlip_72 rfl ?_
        refine zx_iload G d_Table_runWithSlip_74 rfl ?_
        obtain ⟨r16, μ15, hc, h⟩ := zbnd_of h
        refine zx_callVI (r := r16) (μ2 := μ15) G d_Table_runWithSlip_76 zm_Table_67 (fun l => t_Value_obey hl3 hc) rfl rfl (Nat.le_of_ble_eq_true rfl) (Nat.le_of_ble_eq_true rfl) (zrecv zo_7 hl3) ?_
        refine zx_weak [true, true, true, true, true, true, false, false, false] (lv2 := [_, _, _, _, _, _, none, none, none]) rfl ?_
        exact hk12 r16 μ15 h
      · refine zx_iload G d_Table_runWithSlip_57 rfl ?_
        refine zx_iload G d_Table_runWithSlip_59 rfl ?_
        refine zx_iload_n G d_Table_runWithSlip_61 rfl ?_
        refine zx_iconst (v := 3) G d_Table_runWithSlip_62 rfl ?_
        refine zx_irem G d_Table_runWithSlip_63 h (fun h => ?_)
        refine zx_aload_n G d_Table_runWithSlip_64 rfl ?_
        obtain ⟨r18, μ17, hc, h⟩ := zbnd_of h
        refine zx_callSI (r := r18) (μ2 := μ17) G d_Table_runWithSlip_65 zm_Table_82 (fun l => t_Table_slipAt hl3 hc) rfl rfl (Nat.le_of_ble_eq_true rfl) (Nat.le_of_ble_eq_true rfl) ?_
        refine zx_goto (tgt := 79) G d_Table_runWithSlip_68 rfl ?_
        refine zx_weak [true, true, true, true, true, true, false, false, false] (lv2 := [_, _, _, _, _, _, none, none, none]) rfl ?_
        exact hk12 r18 μ17 h
set_option maxHeartbeats 4000000 in
set_option maxRecDepth 20000 in
theorem tf_Table_runWithSlip_l14 {g : ZG} {E : ZE} {N n14 : Nat} {rr : Int32 × ZMem} {o : Nat} {p0 : Int32} {p1 : Nat} {p2 : Nat} {x1 : Int32} {z4 : Int32} {μ5 : ZMem} (G : zGa g K_Table_runWithSlip 5 E) (hl0 : (3, o) ∈ zids) (hl2 : (26, p1) ∈ zids) (hl3 : (7, p2) ∈ zids) (h : f_Table_runWithSlip_l14 N o p0 p1 p2 x1 n14 z4 μ5 = some rr) : zX g K_Table_runWithSlip 5 E (some (.int rr.1), rr.2) μ5 14 [some (.ref (g.2.1 3 o)), some (.int p0), some (.ref (g.2.1 26 p1)), some (.ref (g.2.1 7 p2)), some (.int x1), some (.int z4), none, none, none] [] := tf_Table_runWithSlip_l14_0 G hl0 hl2 hl3 n14 z4 μ5 h
set_option maxHeartbeats 4000000 in
set_option maxRecDepth 20000 in
theorem t_Table_runWithSlip {g : ZG} {l : Launch} {N : Nat} {μ : ZMem} {o : Nat} {p0 : Int32} {p1 : Nat} {p2 : Nat} (ho : (3, o) ∈ zids) (hp1 : (26, p1) ∈ zids) (hp2 : (7, p2) ∈ zids) {rr : Int32 × ZMem} (h : f_Table_runWithSlip N μ o p0 p1 p2 = some rr) : zT g l 5 K_Table_runWithSlip [.ref (g.2.1 3 o), .int p0, .ref (g.2.1 26 p1), .ref (g.2.1 7 p2)] μ (some (.int rr.1), rr.2) := by
  refine zT_of (by decide +kernel) (Nat.le_of_ble_eq_true rfl) (fun E G => ?_)
  show zX g K_Table_runWithSlip 5 E (some (.int rr.1), rr.2) μ 0 [some (.ref (g.2.1 3 o)), some (.int p0), some (.ref (g.2.1 26 p1)), some (.ref (g.2.1 7 p2)), none, none, none, none, none] []
  unfold f_Table_runWithSlip at h
  refine zx_iload_n G d_Table_runWithSlip_0 rfl ?_
  refine zx_iconst (v := 3) G d_Table_runWithSlip_1 rfl ?_
  refine zx_idiv G d_Table_runWithSlip_2 h (fun h => ?_)
  refine zx_istore (lf := fun y => [_, _, _, _, some (.int y), none, none, none, none]) G d_Table_runWithSlip_3 (Nat.le_of_ble_eq_true rfl) (fun _ => rfl) h (fun x1 h => ?_)
  refine zx_aload_n G d_Table_runWithSlip_5 rfl ?_
  refine zx_aload_n G d_Table_runWithSlip_6 rfl ?_
  refine zx_aload_n G d_Table_runWithSlip_7 rfl ?_
  obtain ⟨u9, μ2, hc, h⟩ := zbnd_of h
  refine zx_callVV  (μ2 := μ2) G d_Table_runWithSlip_8 zm_Table_56 (fun l => t_Table_begin ho hp2 hp1 hc) rfl rfl (Nat.le_of_ble_eq_true rfl) (Nat.le_of_ble_eq_true rfl) (zrecv zo_3 ho) ?_
  refine zx_iconst (v := 0) G d_Table_runWithSlip_11 rfl ?_
  refine zx_istore (lf := fun y => [_, _, _, _, _, some (.int y), none, none, none]) G d_Table_runWithSlip_12 (Nat.le_of_ble_eq_true rfl) (fun _ => rfl) h (fun x3 h => ?_)
  refine tf_Table_runWithSlip_l14 G ho hp1 hp2 h
set_option maxHeartbeats 4000000 in
set_option maxRecDepth 20000 in
theorem tf_A_slip_l40_0 {g : ZG} {E : ZE} {N : Nat} {rr : Int32 × ZMem} {p3 : Int32} {t2 : Nat} {kx119 : Int32 → ZMem → Option (Int32 × ZMem)} (G : zGa g K_A_slip 6 E) (hl0 : (0, 0) ∈ zids) (hl5 : (3, t2) ∈ zids) (hkx119 : ∀ (w6 : Int32) (μ : ZMem), kx119 w6 μ = some rr → zX g K_A_slip 6 E (some (.int rr.1), rr.2) μ 119 [none, none, none, none, some (.int p3), none, some (.int w6), none] []) : ∀ (n40 : Nat) (z10 : Int32) (z11 : Int32) (μ12 : ZMem), f_A_slip_l40 N p3 t2 kx119 n40 z10 z11 μ12 = some rr → zX g K_A_slip 6 E (some (.int rr.1), rr.2) μ12 40 [some (.ref (g.2.1 0 0)), none, none, none, some (.int p3), some (.ref (g.2.1 3 t2)), some (.int z10), some (.int z11)] [] := by
  intro n40
  induction n40 with
  | zero => intro z10 z11 μ12 h; cases h
  | succ n40 ih40 =>
    intro z10 z11 μ12 h
    simp only [f_A_slip_l40] at h
    refine zx_iload G d_A_slip_40 rfl ?_
    refine zx_iconst (v := 3) G d_A_slip_42 rfl ?_
    refine zx_aload G d_A_slip_43 rfl ?_
    refine zx_getR G d_A_slip_45 zf_A_119 zc_3_0 hl5 ?_
    refine zx_getI G d_A_slip_48 zf_A_123 zc_4_2 (zi_3_0 hl5) ?_
    refine zx_imul G d_A_slip_51 ?_
    refine zx_icmp_ge (tgt := 119) G d_A_slip_52 rfl h (fun h => ?_) (fun h => ?_)
    · refine zx_weak [false, false, false, false, true, false, true, false] (lv2 := [none, none, none, none, _, none, _, none]) rfl ?_
      exact hkx119 z10 μ12 h
    · refine zx_aload G d_A_slip_55 rfl ?_
      refine zx_iload G d_A_slip_57 rfl ?_
      refine zx_aload_n G d_A_slip_59 rfl ?_
      refine zx_getR G d_A_slip_60 zf_A_35 zc_0_3 hl0 ?_
      refine zx_getR G d_A_slip_63 zf_A_88 zc_5_1 (zi_0_3 hl0) ?_
      refine zx_aload_n G d_A_slip_66 rfl ?_
      refine zx_getR G d_A_slip_67 zf_A_45 zc_0_5 hl0 ?_
      obtain ⟨r14, μ13, hc, h⟩ := zbnd_of h
      refine zx_callVI (r := r14) (μ2 := μ13) G d_A_slip_70 zm_A_260 (fun l => t_Table_runWithSlip hl5 (zi_5_1 (zi_0_3 hl0)) (zi_0_5 hl0) hc) rfl rfl (Nat.le_of_ble_eq_true rfl) (Nat.le_of_ble_eq_true rfl) (zrecv zo_3 hl5) ?_
      refine zx_join (P := fun k => ∀ (y15 : Int32) (μ16 : ZMem), k y15 μ16 = some rr → zX g K_A_slip 6 E (some (.int rr.1), rr.2) μ16 113 [some (.ref (g.2.1 0 0)), none, none, none, some (.int p3), some (.ref (g.2.1 3 t2)), some (.int y15), some (.int z11)] []) h (fun y15 μ16 h => ?_) (fun k17 hk17 h => ?_)
      · try dsimp only at h
        refine zx_iinc (v := 1) (lf := fun y => [_, none, none, none, _, _, _, some (.int y)]) G d_A_slip_113 (Nat.le_of_ble_eq_true rfl) rfl rfl (fun _ => rfl) h (fun x18 h => ?_)
        refine zx_goto (tgt := 40) G d_A_slip_116 rfl ?_
        exact ih40 y15 x18 μ16 h
      try dsimp only at h
      refine zx_if_eq (tgt := 113) G d_A_slip_73 rfl h (fun h => ?_) (fun h => ?_)
      · exact hk17 z10 μ13 h
      · refine zx_aload_n G d_A_slip_76 rfl ?_
        refine zx_getR G d_A_slip_77 zf_A_45 zc_0_5 hl0 ?_
        refine zx_aload_n G d_A_slip_80 rfl ?_
        refine zx_getR G d_A_slip_81 zf_A_49 zc_0_6 hl0 ?_
        refine zx_getJ G d_A_slip_84 zf_A_264 zc_7_0 (zi_0_6 hl0) ?_
        refine zx_aload_n G d_A_slip_87 rfl ?_
        refine zx_getR G d_A_slip_88 zf_A_49 zc_0_6 hl0 ?_
        refine zx_getJ G d_A_slip_91 zf_A_267 zc_7_1 (zi_0_6 hl0) ?_
        obtain ⟨r20, μ19, hc, h⟩ := zbnd_of h
        refine zx_callVI (r := r20) (μ2 := μ19) G d_A_slip_94 zm_A_268 (fun l => t_Value_is (zi_0_5 hl0) hc) rfl rfl (Nat.le_of_ble_eq_true rfl) (Nat.le_of_ble_eq_true rfl) (zrecv zo_7 (zi_0_5 hl0)) ?_
        refine zx_if_eq (tgt := 113) G d_A_slip_97 rfl h (fun h => ?_) (fun h => ?_)
        · exact hk17 z10 μ19 h
        · refine zx_iload G d_A_slip_100 rfl ?_
          refine zx_iload G d_A_slip_102 rfl ?_
          refine zx_icmp_ne (tgt := 110) G d_A_slip_104 rfl h (fun h => ?_) (fun h => ?_)
          · refine zx_iinc (v := 1) (lf := fun y => [_, none, none, none, _, _, some (.int y), _]) G d_A_slip_110 (Nat.le_of_ble_eq_true rfl) rfl rfl (fun _ => rfl) h (fun x21 h => ?_)
            exact hk17 x21 μ19 h
          · refine zx_iload G d_A_slip_107 rfl ?_
            exact zx_iret G d_A_slip_109 rfl h
set_option maxHeartbeats 4000000 in
set_option maxRecDepth 20000 in
theorem tf_A_slip_l40 {g : ZG} {E : ZE} {N n40 : Nat} {rr : Int32 × ZMem} {p3 : Int32} {t2 : Nat} {kx119 : Int32 → ZMem → Option (Int32 × ZMem)} {z10 : Int32} {z11 : Int32} {μ12 : ZMem} (G : zGa g K_A_slip 6 E) (hl0 : (0, 0) ∈ zids) (hl5 : (3, t2) ∈ zids) (h : f_A_slip_l40 N p3 t2 kx119 n40 z10 z11 μ12 = some rr) (hkx119 : ∀ (w6 : Int32) (μ : ZMem), kx119 w6 μ = some rr → zX g K_A_slip 6 E (some (.int rr.1), rr.2) μ 119 [none, none, none, none, some (.int p3), none, some (.int w6), none] []) : zX g K_A_slip 6 E (some (.int rr.1), rr.2) μ12 40 [some (.ref (g.2.1 0 0)), none, none, none, some (.int p3), some (.ref (g.2.1 3 t2)), some (.int z10), some (.int z11)] [] := tf_A_slip_l40_0 G hl0 hl5 hkx119 n40 z10 z11 μ12 h
set_option maxHeartbeats 4000000 in
set_option maxRecDepth 20000 in
theorem t_A_slip {g : ZG} {l : Launch} {N : Nat} {μ : ZMem} {p0 : Int32} {p1 : Int32} {p2 : Int32} {p3 : Int32} {rr : Int32 × ZMem} (h : f_A_slip N μ p0 p1 p2 p3 = some rr) : zT g l 6 K_A_slip [.ref (g.2.1 0 0), .int p0, .int p1, .int p2, .int p3] μ (some (.int rr.1), rr.2) := by
  refine zT_of (by decide +kernel) (Nat.le_of_ble_eq_true rfl) (fun E G => ?_)
  show zX g K_A_slip 6 E (some (.int rr.1), rr.2) μ 0 [some (.ref (g.2.1 0 0)), some (.int p0), some (.int p1), some (.int p2), some (.int p3), none, none, none] []
  unfold f_A_slip at h
  refine zx_aload_n G d_A_slip_0 rfl ?_
  refine zx_iload_n G d_A_slip_1 rfl ?_
  rcases zbrf_of h with ⟨μ1, hc, h⟩ | ⟨t2, μ1, hc, h⟩
  · refine zx_callVN (k := 3) (μ2 := μ1) G d_A_slip_2 zm_A_115 (fun l => t_A_find  hc) rfl rfl (Nat.le_of_ble_eq_true rfl) (Nat.le_of_ble_eq_true rfl) (zrecv zo_0 (zids_of 0 (Nat.le_of_ble_eq_true rfl) 0 (Nat.le_of_ble_eq_true rfl))) ?_
    refine zx_astoreN (lv2 := [_, _, _, _, _, _, none, none]) G d_A_slip_5 (Nat.le_of_ble_eq_true rfl) rfl ?_
    refine zx_aloadN G d_A_slip_7 rfl ?_
    refine zx_ifnullN (tgt := 20) G d_A_slip_9 rfl ?_
    refine zx_iconst (v := -1) G d_A_slip_20 rfl ?_
    exact zx_iret G d_A_slip_21 rfl h
  · obtain ⟨hz3, h⟩ := zchk_of h
    refine zx_callVP (k := 3) (r := t2) (μ2 := μ1) G d_A_slip_2 zm_A_115 (fun l => t_A_find  hc) rfl rfl (Nat.le_of_ble_eq_true rfl) (Nat.le_of_ble_eq_true rfl) (zrecv zo_0 (zids_of 0 (Nat.le_of_ble_eq_true rfl) 0 (Nat.le_of_ble_eq_true rfl))) ?_
    refine zx_astore (lv2 := [_, _, _, _, _, _, none, none]) G d_A_slip_5 (Nat.le_of_ble_eq_true rfl) rfl ?_
    refine zx_aload G d_A_slip_7 rfl ?_
    refine zx_ifnull G d_A_slip_9 ?_
    refine zx_iload_n G d_A_slip_12 rfl ?_
    refine zx_iload_n G d_A_slip_13 rfl ?_
    obtain ⟨r5, μ4, hc, h⟩ := zbnd_of h
    refine zx_callSI (r := r5) (μ2 := μ4) G d_A_slip_14 zm_A_253 (fun l => t_A_isTold  hc) rfl rfl (Nat.le_of_ble_eq_true rfl) (Nat.le_of_ble_eq_true rfl) ?_
    refine zx_if_ne (tgt := 22) G d_A_slip_17 rfl h (fun h => ?_) (fun h => ?_)
    · refine zx_aload_n G d_A_slip_22 rfl ?_
      refine zx_getR G d_A_slip_23 zf_A_49 zc_0_6 (zids_of 0 (Nat.le_of_ble_eq_true rfl) 0 (Nat.le_of_ble_eq_true rfl)) ?_
      refine zx_iload_n G d_A_slip_26 rfl ?_
      refine zx_i2l G d_A_slip_27 ?_
      refine zx_iload_n G d_A_slip_28 rfl ?_
      refine zx_i2l G d_A_slip_29 ?_
      obtain ⟨r7, μ6, hc, h⟩ := zbnd_of h
      refine zx_callVI (r := r7) (μ2 := μ6) G d_A_slip_30 zm_A_256 (fun l => t_Value_put (zi_0_6 (zids_of 0 (Nat.le_of_ble_eq_true rfl) 0 (Nat.le_of_ble_eq_true rfl))) hc) rfl rfl (Nat.le_of_ble_eq_true rfl) (Nat.le_of_ble_eq_true rfl) (zrecv zo_7 (zi_0_6 (zids_of 0 (Nat.le_of_ble_eq_true rfl) 0 (Nat.le_of_ble_eq_true rfl)))) ?_
      refine zx_pop G d_A_slip_33 rfl ?_
      refine zx_iconst (v := 0) G d_A_slip_34 rfl ?_
      refine zx_istore (lf := fun y => [_, _, _, _, _, _, some (.int y), none]) G d_A_slip_35 (Nat.le_of_ble_eq_true rfl) (fun _ => rfl) h (fun x8 h => ?_)
      refine zx_iconst (v := 0) G d_A_slip_37 rfl ?_
      refine zx_istore (lf := fun y => [_, _, _, _, _, _, _, some (.int y)]) G d_A_slip_38 (Nat.le_of_ble_eq_true rfl) (fun _ => rfl) h (fun x9 h => ?_)
      refine zx_weak [true, false, false, false, true, true, true, true] (lv2 := [_, none, none, none, _, _, _, _]) rfl ?_
      refine tf_A_slip_l40 G (zids_of 0 (Nat.le_of_ble_eq_true rfl) 0 (Nat.le_of_ble_eq_true rfl)) (zidt hz3) h (fun x22 μ23 h => ?_)
      · try dsimp only at h
        refine zx_iload G d_A_slip_119 rfl ?_
        refine zx_iconst (v := -1) G d_A_slip_121 rfl ?_
        refine zx_icmp_ne (tgt := 130) G d_A_slip_122 rfl h (fun h => ?_) (fun h => ?_)
        · refine zx_iconst (v := -1) G d_A_slip_130 rfl ?_
          exact zx_iret G d_A_slip_131 rfl h
        · refine zx_iload G d_A_slip_125 rfl ?_
          refine zx_goto (tgt := 131) G d_A_slip_127 rfl ?_
          exact zx_iret G d_A_slip_131 rfl h
    · refine zx_iconst (v := -1) G d_A_slip_20 rfl ?_
      exact zx_iret G d_A_slip_21 rfl h
set_option maxHeartbeats 4000000 in
set_option maxRecDepth 20000 in
theorem t_A_ask {g : ZG} {l : Launch} {N : Nat} {μ : ZMem} {p0 : Int32} {rr : Int32 × ZMem} (h : f_A_ask N μ p0 = some rr) : zT g l 0 K_A_ask [.ref (g.2.1 0 0), .int p0] μ (some (.int rr.1), rr.2) := by
  refine zT_of (by decide +kernel) (Nat.le_of_ble_eq_true rfl) (fun E G => ?_)
  show zX g K_A_ask 0 E (some (.int rr.1), rr.2) μ 0 [some (.ref (g.2.1 0 0)), some (.int p0)] []
  unfold f_A_ask at h
  refine zx_iload_n G d_A_ask_0 rfl ?_
  refine zx_if_ne (tgt := 14) G d_A_ask_1 rfl h (fun h => ?_) (fun h => ?_)
  · refine zx_iload_n G d_A_ask_14 rfl ?_
    refine zx_iconst (v := 2) G d_A_ask_15 rfl ?_
    refine zx_icmp_lt (tgt := 37) G d_A_ask_16 rfl h (fun h => ?_) (fun h => ?_)
    · refine zx_iconst (v := -1) G d_A_ask_37 rfl ?_
      exact zx_iret G d_A_ask_38 rfl h
    · refine zx_iload_n G d_A_ask_19 rfl ?_
      refine zx_bipush (v := 30) G d_A_ask_20 rfl ?_
      refine zx_icmp_gt (tgt := 37) G d_A_ask_22 rfl h (fun h => ?_) (fun h => ?_)
      · refine zx_iconst (v := -1) G d_A_ask_37 rfl ?_
        exact zx_iret G d_A_ask_38 rfl h
      · refine zx_aload_n G d_A_ask_25 rfl ?_
        refine zx_getR G d_A_ask_26 zf_A_35 zc_0_3 (zids_of 0 (Nat.le_of_ble_eq_true rfl) 0 (Nat.le_of_ble_eq_true rfl)) ?_
        refine zx_getI G d_A_ask_29 zf_A_271 zc_5_6 (zi_0_3 (zids_of 0 (Nat.le_of_ble_eq_true rfl) 0 (Nat.le_of_ble_eq_true rfl))) ?_
        refine zx_bipush (v := 6) G d_A_ask_32 rfl ?_
        refine zx_icmp_lt (tgt := 39) G d_A_ask_34 rfl h (fun h => ?_) (fun h => ?_)
        · refine zx_aload_n G d_A_ask_39 rfl ?_
          refine zx_getR G d_A_ask_40 zf_A_35 zc_0_3 (zids_of 0 (Nat.le_of_ble_eq_true rfl) 0 (Nat.le_of_ble_eq_true rfl)) ?_
          refine zx_getR G d_A_ask_43 zf_A_274 zc_5_5 (zi_0_3 (zids_of 0 (Nat.le_of_ble_eq_true rfl) 0 (Nat.le_of_ble_eq_true rfl))) ?_
          refine zx_aload_n G d_A_ask_46 rfl ?_
          refine zx_getR G d_A_ask_47 zf_A_35 zc_0_3 (zids_of 0 (Nat.le_of_ble_eq_true rfl) 0 (Nat.le_of_ble_eq_true rfl)) ?_
          refine zx_getI G d_A_ask_50 zf_A_271 zc_5_6 (zi_0_3 (zids_of 0 (Nat.le_of_ble_eq_true rfl) 0 (Nat.le_of_ble_eq_true rfl))) ?_
          refine zx_iload_n G d_A_ask_53 rfl ?_
          refine zx_iast G d_A_ask_54 za_27 (zi_5_5 (zi_0_3 (zids_of 0 (Nat.le_of_ble_eq_true rfl) 0 (Nat.le_of_ble_eq_true rfl)))) h (fun μ1 h => ?_)
          refine zx_aload_n G d_A_ask_55 rfl ?_
          refine zx_getR G d_A_ask_56 zf_A_35 zc_0_3 (zids_of 0 (Nat.le_of_ble_eq_true rfl) 0 (Nat.le_of_ble_eq_true rfl)) ?_
          refine zx_dup G d_A_ask_59 rfl ?_
          refine zx_getI G d_A_ask_60 zf_A_271 zc_5_6 (zi_0_3 (zids_of 0 (Nat.le_of_ble_eq_true rfl) 0 (Nat.le_of_ble_eq_true rfl))) ?_
          refine zx_iconst (v := 1) G d_A_ask_63 rfl ?_
          refine zx_iadd G d_A_ask_64 ?_
          refine zx_putI G d_A_ask_65 zq_A_271 zp_5_6 (zi_0_3 (zids_of 0 (Nat.le_of_ble_eq_true rfl) 0 (Nat.le_of_ble_eq_true rfl))) h (fun μ2 h => ?_)
          refine zx_aload_n G d_A_ask_68 rfl ?_
          refine zx_getR G d_A_ask_69 zf_A_35 zc_0_3 (zids_of 0 (Nat.le_of_ble_eq_true rfl) 0 (Nat.le_of_ble_eq_true rfl)) ?_
          refine zx_getI G d_A_ask_72 zf_A_271 zc_5_6 (zi_0_3 (zids_of 0 (Nat.le_of_ble_eq_true rfl) 0 (Nat.le_of_ble_eq_true rfl))) ?_
          exact zx_iret G d_A_ask_75 rfl h
        · refine zx_iconst (v := -1) G d_A_ask_37 rfl ?_
          exact zx_iret G d_A_ask_38 rfl h
  · refine zx_aload_n G d_A_ask_4 rfl ?_
    refine zx_getR G d_A_ask_5 zf_A_35 zc_0_3 (zids_of 0 (Nat.le_of_ble_eq_true rfl) 0 (Nat.le_of_ble_eq_true rfl)) ?_
    refine zx_iconst (v := 0) G d_A_ask_8 rfl ?_
    refine zx_putI G d_A_ask_9 zq_A_271 zp_5_6 (zi_0_3 (zids_of 0 (Nat.le_of_ble_eq_true rfl) 0 (Nat.le_of_ble_eq_true rfl))) h (fun μ3 h => ?_)
    refine zx_iconst (v := 0) G d_A_ask_12 rfl ?_
    exact zx_iret G d_A_ask_13 rfl h
