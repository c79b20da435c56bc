/-! contracts: each method does what its function says (by program: wip/whole/gen.py) -/
set_option maxHeartbeats 4000000 in
set_option maxRecDepth 20000 in
theorem tf_M_proof_l23_0 {g : ZG} {E : ZE} {N : Nat} {rr : Int64 × ZMem} {p0 : Int32} {p1 : Int32} {kx64 : ZMem → Option (Int64 × ZMem)} (G : zGa g K_M_proof 3 E) (hl0 : (12, 0) ∈ zids) (hkx64 : ∀  (μ : ZMem), kx64 μ = some rr → zX g K_M_proof 3 E (some (.long rr.1), rr.2) μ 64 [some (.ref (g.2.1 12 0)), some (.int p0), some (.int p1), none] []) : ∀ (n23 : Nat) (z6 : Int32) (μ7 : ZMem), f_M_proof_l23 N p0 p1 kx64 n23 z6 μ7 = some rr → zX g K_M_proof 3 E (some (.long rr.1), rr.2) μ7 23 [some (.ref (g.2.1 12 0)), some (.int p0), some (.int p1), some (.int z6)] [] := by
  intro n23
  induction n23 with
  | zero => intro z6 μ7 h; cases h
  | succ n23 ih23 =>
    intro z6 μ7 h
    simp only [f_M_proof_l23] at h
    refine zx_iload_n G d_M_proof_23 rfl ?_
    refine zx_bipush (v := 6) G d_M_proof_24 rfl ?_
    refine zx_icmp_ge (tgt := 64) G d_M_proof_26 rfl h (fun h => ?_) (fun h => ?_)
    · refine zx_weak [true, true, true, false] (lv2 := [_, _, _, none]) rfl ?_
      exact hkx64 μ7 h
    · refine zx_aload_n G d_M_proof_29 rfl ?_
      refine zx_getR G d_M_proof_30 zf_M_39 zc_12_18 hl0 ?_
      refine zx_iload_n G d_M_proof_33 rfl ?_
      refine zx_iload_n G d_M_proof_34 rfl ?_
      refine zx_iconst (v := 5) G d_M_proof_35 rfl ?_
      refine zx_join (P := fun k => ∀ (y8 : Int64) (μ9 : ZMem), k y8 μ9 = some rr → zX g K_M_proof 3 E (some (.long rr.1), rr.2) μ9 57 [some (.ref (g.2.1 12 0)), some (.int p0), some (.int p1), some (.int z6)] [.long y8, .int z6, .ref (g.2.1 45 0)]) h (fun y8 μ9 h => ?_) (fun k10 hk10 h => ?_)
      · try dsimp only at h
        refine zx_last G d_M_proof_57 za_45 (zi_12_18 hl0) h (fun μ11 h => ?_)
        refine zx_iinc (v := 1) (lf := fun y => [_, _, _, some (.int y)]) G d_M_proof_58 (Nat.le_of_ble_eq_true rfl) rfl rfl (fun _ => rfl) h (fun x12 h => ?_)
        refine zx_goto (tgt := 23) G d_M_proof_61 rfl ?_
        exact ih23 x12 μ11 h
      try dsimp only at h
      refine zx_join (P := fun k => ∀ (μ13 : ZMem), k μ13 = some rr → zX g K_M_proof 3 E (some (.long rr.1), rr.2) μ13 52 [some (.ref (g.2.1 12 0)), some (.int p0), some (.int p1), some (.int z6)] [.int z6, .ref (g.2.1 45 0)]) h (fun μ13 h => ?_) (fun k14 hk14 h => ?_)
      · try dsimp only at h
        refine zx_lconst (v := 1) G d_M_proof_52 rfl ?_
        refine zx_goto (tgt := 57) G d_M_proof_53 rfl ?_
        exact hk10 (1 : Int64) μ13 h
      try dsimp only at h
      refine zx_icmp_eq (tgt := 52) G d_M_proof_36 rfl h (fun h => ?_) (fun h => ?_)
      · exact hk14 μ7 h
      · refine zx_iload_n G d_M_proof_39 rfl ?_
        refine zx_join (P := fun k => ∀ (μ15 : ZMem), k μ15 = some rr → zX g K_M_proof 3 E (some (.long rr.1), rr.2) μ15 56 [some (.ref (g.2.1 12 0)), some (.int p0), some (.int p1), some (.int z6)] [.int z6, .ref (g.2.1 45 0)]) h (fun μ15 h => ?_) (fun k16 hk16 h => ?_)
        · try dsimp only at h
          refine zx_lconst (v := 0) G d_M_proof_56 rfl ?_
          exact hk10 (0 : Int64) μ15 h
        try dsimp only at h
        refine zx_if_ne (tgt := 56) G d_M_proof_40 rfl h (fun h => ?_) (fun h => ?_)
        · exact hk16 μ7 h
        · refine zx_aload_n G d_M_proof_43 rfl ?_
          refine zx_iload_n G d_M_proof_44 rfl ?_
          refine zx_iconst (v := 0) G d_M_proof_45 rfl ?_
          obtain ⟨r18, μ17, hc, h⟩ := zbnd_of h
          refine zx_callVI (r := r18) (μ2 := μ17) G d_M_proof_46 zm_M_182 (fun l => t_M_isHidden  hc) rfl rfl (Nat.le_of_ble_eq_true rfl) (Nat.le_of_ble_eq_true rfl) (zrecv zo_12 hl0) ?_
          refine zx_if_eq (tgt := 56) G d_M_proof_49 rfl h (fun h => ?_) (fun h => ?_)
          · exact hk16 μ17 h
          · exact hk14 μ17 h
set_option maxHeartbeats 4000000 in
set_option maxRecDepth 20000 in
theorem tf_M_proof_l23 {g : ZG} {E : ZE} {N n23 : Nat} {rr : Int64 × ZMem} {p0 : Int32} {p1 : Int32} {kx64 : ZMem → Option (Int64 × ZMem)} {z6 : Int32} {μ7 : ZMem} (G : zGa g K_M_proof 3 E) (hl0 : (12, 0) ∈ zids) (h : f_M_proof_l23 N p0 p1 kx64 n23 z6 μ7 = some rr) (hkx64 : ∀  (μ : ZMem), kx64 μ = some rr → zX g K_M_proof 3 E (some (.long rr.1), rr.2) μ 64 [some (.ref (g.2.1 12 0)), some (.int p0), some (.int p1), none] []) : zX g K_M_proof 3 E (some (.long rr.1), rr.2) μ7 23 [some (.ref (g.2.1 12 0)), some (.int p0), some (.int p1), some (.int z6)] [] := tf_M_proof_l23_0 G hl0 hkx64 n23 z6 μ7 h
set_option maxHeartbeats 4000000 in
set_option maxRecDepth 20000 in
theorem tf_M_proof_l66_0 {g : ZG} {E : ZE} {N : Nat} {rr : Int64 × ZMem} {p0 : Int32} {p1 : Int32} {kx104 : ZMem → Option (Int64 × ZMem)} (G : zGa g K_M_proof 3 E) (hl0 : (12, 0) ∈ zids) (hkx104 : ∀  (μ : ZMem), kx104 μ = some rr → zX g K_M_proof 3 E (some (.long rr.1), rr.2) μ 104 [some (.ref (g.2.1 12 0)), none, some (.int p1), none] []) : ∀ (n66 : Nat) (z21 : Int32) (μ22 : ZMem), f_M_proof_l66 N p0 p1 kx104 n66 z21 μ22 = some rr → zX g K_M_proof 3 E (some (.long rr.1), rr.2) μ22 66 [some (.ref (g.2.1 12 0)), some (.int p0), some (.int p1), some (.int z21)] [] := by
  intro n66
  induction n66 with
  | zero => intro z21 μ22 h; cases h
  | succ n66 ih66 =>
    intro z21 μ22 h
    simp only [f_M_proof_l66] at h
    refine zx_iload_n G d_M_proof_66 rfl ?_
    refine zx_aload_n G d_M_proof_67 rfl ?_
    refine zx_iload_n G d_M_proof_68 rfl ?_
    obtain ⟨r24, μ23, hc, h⟩ := zbnd_of h
    refine zx_callVI (r := r24) (μ2 := μ23) G d_M_proof_69 zm_M_172 (fun l => t_M_ordersOf  hc) rfl rfl (Nat.le_of_ble_eq_true rfl) (Nat.le_of_ble_eq_true rfl) (zrecv zo_12 hl0) ?_
    refine zx_icmp_ge (tgt := 104) G d_M_proof_72 rfl h (fun h => ?_) (fun h => ?_)
    · refine zx_weak [true, false, true, false] (lv2 := [_, none, _, none]) rfl ?_
      exact hkx104 μ23 h
    · refine zx_aload_n G d_M_proof_75 rfl ?_
      refine zx_aload_n G d_M_proof_76 rfl ?_
      refine zx_iload_n G d_M_proof_77 rfl ?_
      refine zx_iload_n G d_M_proof_78 rfl ?_
      obtain ⟨r26, μ25, hc, h⟩ := zbnd_of h
      refine zx_callVI (r := r26) (μ2 := μ25) G d_M_proof_79 zm_M_179 (fun l => t_M_kindOf  hc) rfl rfl (Nat.le_of_ble_eq_true rfl) (Nat.le_of_ble_eq_true rfl) (zrecv zo_12 hl0) ?_
      refine zx_aload_n G d_M_proof_82 rfl ?_
      refine zx_iload_n G d_M_proof_83 rfl ?_
      refine zx_iload_n G d_M_proof_84 rfl ?_
      obtain ⟨r28, μ27, hc, h⟩ := zbnd_of h
      refine zx_callVI (r := r28) (μ2 := μ27) G d_M_proof_85 zm_M_175 (fun l => t_M_xOf  hc) rfl rfl (Nat.le_of_ble_eq_true rfl) (Nat.le_of_ble_eq_true rfl) (zrecv zo_12 hl0) ?_
      obtain ⟨r30, μ29, hc, h⟩ := zbnd_of h
      refine zx_callVI (r := r30) (μ2 := μ29) G d_M_proof_88 zm_M_282 (fun l => t_M_proves  hc) rfl rfl (Nat.le_of_ble_eq_true rfl) (Nat.le_of_ble_eq_true rfl) (zrecv zo_12 hl0) ?_
      refine zx_if_ne (tgt := 98) G d_M_proof_91 rfl h (fun h => ?_) (fun h => ?_)
      · refine zx_iinc (v := 1) (lf := fun y => [_, _, _, some (.int y)]) G d_M_proof_98 (Nat.le_of_ble_eq_true rfl) rfl rfl (fun _ => rfl) h (fun x31 h => ?_)
        refine zx_goto (tgt := 66) G d_M_proof_101 rfl ?_
        exact ih66 x31 μ29 h
      · refine zx_ldc2 (v := -10000000000000) G d_M_proof_94 zk_M_233 ?_
        exact zx_lret G d_M_proof_97 rfl h
set_option maxHeartbeats 4000000 in
set_option maxRecDepth 20000 in
theorem tf_M_proof_l66 {g : ZG} {E : ZE} {N n66 : Nat} {rr : Int64 × ZMem} {p0 : Int32} {p1 : Int32} {kx104 : ZMem → Option (Int64 × ZMem)} {z21 : Int32} {μ22 : ZMem} (G : zGa g K_M_proof 3 E) (hl0 : (12, 0) ∈ zids) (h : f_M_proof_l66 N p0 p1 kx104 n66 z21 μ22 = some rr) (hkx104 : ∀  (μ : ZMem), kx104 μ = some rr → zX g K_M_proof 3 E (some (.long rr.1), rr.2) μ 104 [some (.ref (g.2.1 12 0)), none, some (.int p1), none] []) : zX g K_M_proof 3 E (some (.long rr.1), rr.2) μ22 66 [some (.ref (g.2.1 12 0)), some (.int p0), some (.int p1), some (.int z21)] [] := tf_M_proof_l66_0 G hl0 hkx104 n66 z21 μ22 h
set_option maxHeartbeats 4000000 in
set_option maxRecDepth 20000 in
theorem t_M_proof {g : ZG} {l : Launch} {N : Nat} {μ : ZMem} {p0 : Int32} {p1 : Int32} {rr : Int64 × ZMem} (h : f_M_proof N μ p0 p1 = some rr) : zT g l 3 K_M_proof [.ref (g.2.1 12 0), .int p0, .int p1] μ (some (.long rr.1), rr.2) := by
  refine zT_of (by decide +kernel) (Nat.le_of_ble_eq_true rfl) (fun E G => ?_)
  show zX g K_M_proof 3 E (some (.long rr.1), rr.2) μ 0 [some (.ref (g.2.1 12 0)), some (.int p0), some (.int p1), none] []
  unfold f_M_proof at h
  refine zx_aload_n G d_M_proof_0 rfl ?_
  refine zx_iload_n G d_M_proof_1 rfl ?_
  obtain ⟨r2, μ1, hc, h⟩ := zbnd_of h
  refine zx_callVI (r := r2) (μ2 := μ1) G d_M_proof_2 zm_M_169 (fun l => t_M_isTable  hc) rfl rfl (Nat.le_of_ble_eq_true rfl) (Nat.le_of_ble_eq_true rfl) (zrecv zo_12 (zids_of 12 (Nat.le_of_ble_eq_true rfl) 0 (Nat.le_of_ble_eq_true rfl))) ?_
  refine zx_if_eq (tgt := 17) G d_M_proof_5 rfl h (fun h => ?_) (fun h => ?_)
  · refine zx_ldc2 (v := -10000000000000) G d_M_proof_17 zk_M_233 ?_
    exact zx_lret G d_M_proof_20 rfl h
  · refine zx_iload_n G d_M_proof_8 rfl ?_
    refine zx_iconst (v := 0) G d_M_proof_9 rfl ?_
    refine zx_iconst (v := 5) G d_M_proof_10 rfl ?_
    obtain ⟨r4, μ3, hc, h⟩ := zbnd_of h
    refine zx_callSI (r := r4) (μ2 := μ3) G d_M_proof_11 zm_M_68 (fun l => t_M_isIn  hc) rfl rfl (Nat.le_of_ble_eq_true rfl) (Nat.le_of_ble_eq_true rfl) ?_
    refine zx_if_ne (tgt := 21) G d_M_proof_14 rfl h (fun h => ?_) (fun h => ?_)
    · refine zx_iconst (v := 0) G d_M_proof_21 rfl ?_
      refine zx_istore_n (lf := fun y => [_, _, _, some (.int y)]) G d_M_proof_22 (Nat.le_of_ble_eq_true rfl) (fun _ => rfl) h (fun x5 h => ?_)
      refine tf_M_proof_l23 G (zids_of 12 (Nat.le_of_ble_eq_true rfl) 0 (Nat.le_of_ble_eq_true rfl)) h (fun μ19 h => ?_)
      · try dsimp only at h
        refine zx_iconst (v := 0) G d_M_proof_64 rfl ?_
        refine zx_istore_n (lf := fun y => [_, _, _, some (.int y)]) G d_M_proof_65 (Nat.le_of_ble_eq_true rfl) (fun _ => rfl) h (fun x20 h => ?_)
        refine tf_M_proof_l66 G (zids_of 12 (Nat.le_of_ble_eq_true rfl) 0 (Nat.le_of_ble_eq_true rfl)) h (fun μ32 h => ?_)
        · try dsimp only at h
          refine zx_aload_n G d_M_proof_104 rfl ?_
          refine zx_getR G d_M_proof_105 zf_M_39 zc_12_18 (zids_of 12 (Nat.le_of_ble_eq_true rfl) 0 (Nat.le_of_ble_eq_true rfl)) ?_
          refine zx_iload_n G d_M_proof_108 rfl ?_
          refine zx_lald G d_M_proof_109 za_45 (zi_12_18 (zids_of 12 (Nat.le_of_ble_eq_true rfl) 0 (Nat.le_of_ble_eq_true rfl))) h (fun h => ?_)
          exact zx_lret G d_M_proof_110 rfl h
    · refine zx_ldc2 (v := -10000000000000) G d_M_proof_17 zk_M_233 ?_
      exact zx_lret G d_M_proof_20 rfl h
set_option maxHeartbeats 4000000 in
set_option maxRecDepth 20000 in
theorem tf_M_isFit_l9_0 {g : ZG} {E : ZE} {N : Nat} {rr : Int32 × ZMem} {p0 : Int32} {kx114 : Int32 → ZMem → Option (Int32 × ZMem)} (G : zGa g K_M_isFit 4 E) (hl0 : (12, 0) ∈ zids) (hkx114 : ∀ (w2 : Int32) (μ : ZMem), kx114 w2 μ = some rr → zX g K_M_isFit 4 E (some (.int rr.1), rr.2) μ 114 [some (.ref (g.2.1 12 0)), none, some (.int w2), none] []) : ∀ (n9 : Nat) (z4 : Int32) (z5 : Int32) (μ6 : ZMem), f_M_isFit_l9 N p0 kx114 n9 z4 z5 μ6 = some rr → zX g K_M_isFit 4 E (some (.int rr.1), rr.2) μ6 9 [some (.ref (g.2.1 12 0)), some (.int p0), some (.int z4), some (.int z5)] [] := by
  intro n9
  induction n9 with
  | zero => intro z4 z5 μ6 h; cases h
  | succ n9 ih9 =>
    intro z4 z5 μ6 h
    simp only [f_M_isFit_l9] at h
    refine zx_iload_n G d_M_isFit_9 rfl ?_
    refine zx_aload_n G d_M_isFit_10 rfl ?_
    refine zx_iload_n G d_M_isFit_11 rfl ?_
    obtain ⟨r8, μ7, hc, h⟩ := zbnd_of h
    refine zx_callVI (r := r8) (μ2 := μ7) G d_M_isFit_12 zm_M_172 (fun l => t_M_ordersOf  hc) rfl rfl (Nat.le_of_ble_eq_true rfl) (Nat.le_of_ble_eq_true rfl) (zrecv zo_12 hl0) ?_
    refine zx_icmp_ge (tgt := 114) G d_M_isFit_15 rfl h (fun h => ?_) (fun h => ?_)
    · refine zx_weak [true, false, true, false] (lv2 := [_, none, _, none]) rfl ?_
      exact hkx114 z4 μ7 h
    · refine zx_aload_n G d_M_isFit_18 rfl ?_
      refine zx_aload_n G d_M_isFit_19 rfl ?_
      refine zx_iload_n G d_M_isFit_20 rfl ?_
      refine zx_iload_n G d_M_isFit_21 rfl ?_
      obtain ⟨r10, μ9, hc, h⟩ := zbnd_of h
      refine zx_callVI (r := r10) (μ2 := μ9) G d_M_isFit_22 zm_M_179 (fun l => t_M_kindOf  hc) rfl rfl (Nat.le_of_ble_eq_true rfl) (Nat.le_of_ble_eq_true rfl) (zrecv zo_12 hl0) ?_
      refine zx_aload_n G d_M_isFit_25 rfl ?_
      refine zx_iload_n G d_M_isFit_26 rfl ?_
      refine zx_iload_n G d_M_isFit_27 rfl ?_
      obtain ⟨r12, μ11, hc, h⟩ := zbnd_of h
      refine zx_callVI (r := r12) (μ2 := μ11) G d_M_isFit_28 zm_M_175 (fun l => t_M_xOf  hc) rfl rfl (Nat.le_of_ble_eq_true rfl) (Nat.le_of_ble_eq_true rfl) (zrecv zo_12 hl0) ?_
      obtain ⟨r14, μ13, hc, h⟩ := zbnd_of h
      refine zx_callVI (r := r14) (μ2 := μ13) G d_M_isFit_31 zm_M_230 (fun l => t_M_does  hc) rfl rfl (Nat.le_of_ble_eq_true rfl) (Nat.le_of_ble_eq_true rfl) (zrecv zo_12 hl0) ?_
      refine zx_if_ne (tgt := 39) G d_M_isFit_34 rfl h (fun h => ?_) (fun h => ?_)
      · refine zx_aload_n G d_M_isFit_39 rfl ?_
        refine zx_iload_n G d_M_isFit_40 rfl ?_
        refine zx_iload_n G d_M_isFit_41 rfl ?_
        obtain ⟨r16, μ15, hc, h⟩ := zbnd_of h
        refine zx_callVI (r := r16) (μ2 := μ15) G d_M_isFit_42 zm_M_179 (fun l => t_M_kindOf  hc) rfl rfl (Nat.le_of_ble_eq_true rfl) (Nat.le_of_ble_eq_true rfl) (zrecv zo_12 hl0) ?_
        refine zx_bipush (v := 9) G d_M_isFit_45 rfl ?_
        refine zx_join (P := fun k => ∀ (y17 : Int32) (μ18 : ZMem), k y17 μ18 = some rr → zX g K_M_isFit 4 E (some (.int rr.1), rr.2) μ18 108 [some (.ref (g.2.1 12 0)), some (.int p0), some (.int y17), some (.int z5)] []) h (fun y17 μ18 h => ?_) (fun k19 hk19 h => ?_)
        · try dsimp only at h
          refine zx_iinc (v := 1) (lf := fun y => [_, _, _, some (.int y)]) G d_M_isFit_108 (Nat.le_of_ble_eq_true rfl) rfl rfl (fun _ => rfl) h (fun x20 h => ?_)
          refine zx_goto (tgt := 9) G d_M_isFit_111 rfl ?_
          exact ih9 y17 x20 μ18 h
        try dsimp only at h
        refine zx_icmp_eq (tgt := 53) G d_M_isFit_47 rfl h (fun h => ?_) (fun h => ?_)
        · refine zx_iload_n G d_M_isFit_53 rfl ?_
          refine zx_aload_n G d_M_isFit_54 rfl ?_
          refine zx_getR G d_M_isFit_55 zf_M_7 zc_12_0 hl0 ?_
          refine zx_iconst (v := 5) G d_M_isFit_58 rfl ?_
          refine zx_iald G d_M_isFit_59 za_40 (zi_12_0 hl0) h (fun h => ?_)
          refine zx_icmp_eq (tgt := 103) G d_M_isFit_60 rfl h (fun h => ?_) (fun h => ?_)
          · refine zx_iconst (v := 0) G d_M_isFit_103 rfl ?_
            exact zx_zretK G d_M_isFit_104 rfl (by decide) h
          · refine zx_aload_n G d_M_isFit_63 rfl ?_
            refine zx_getJ G d_M_isFit_64 zf_M_196 zc_12_15 hl0 ?_
            refine zx_aload_n G d_M_isFit_67 rfl ?_
            refine zx_getR G d_M_isFit_68 zf_M_16 zc_12_2 hl0 ?_
            refine zx_bipush (v := 48) G d_M_isFit_71 rfl ?_
            refine zx_iconst (v := 2) G d_M_isFit_73 rfl ?_
            refine zx_iload_n G d_M_isFit_74 rfl ?_
            refine zx_imul G d_M_isFit_75 ?_
            refine zx_iadd G d_M_isFit_76 ?_
            refine zx_lald G d_M_isFit_77 za_41 (zi_12_2 hl0) h (fun h => ?_)
            refine zx_lcmp G d_M_isFit_78 ?_
            refine zx_if_ne (tgt := 103) G d_M_isFit_79 rfl h (fun h => ?_) (fun h => ?_)
            · refine zx_iconst (v := 0) G d_M_isFit_103 rfl ?_
              exact zx_zretK G d_M_isFit_104 rfl (by decide) h
            · refine zx_aload_n G d_M_isFit_82 rfl ?_
              refine zx_getJ G d_M_isFit_83 zf_M_199 zc_12_16 hl0 ?_
              refine zx_aload_n G d_M_isFit_86 rfl ?_
              refine zx_getR G d_M_isFit_87 zf_M_16 zc_12_2 hl0 ?_
              refine zx_bipush (v := 48) G d_M_isFit_90 rfl ?_
              refine zx_iconst (v := 2) G d_M_isFit_92 rfl ?_
              refine zx_iload_n G d_M_isFit_93 rfl ?_
              refine zx_imul G d_M_isFit_94 ?_
              refine zx_iadd G d_M_isFit_95 ?_
              refine zx_iconst (v := 1) G d_M_isFit_96 rfl ?_
              refine zx_iadd G d_M_isFit_97 ?_
              refine zx_lald G d_M_isFit_98 za_41 (zi_12_2 hl0) h (fun h => ?_)
              refine zx_lcmp G d_M_isFit_99 ?_
              refine zx_if_eq (tgt := 105) G d_M_isFit_100 rfl h (fun h => ?_) (fun h => ?_)
              · refine zx_iinc (v := 1) (lf := fun y => [_, _, some (.int y), _]) G d_M_isFit_105 (Nat.le_of_ble_eq_true rfl) rfl rfl (fun _ => rfl) h (fun x21 h => ?_)
                exact hk19 x21 μ15 h
              · refine zx_iconst (v := 0) G d_M_isFit_103 rfl ?_
                exact zx_zretK G d_M_isFit_104 rfl (by decide) h
        · refine zx_goto (tgt := 108) G d_M_isFit_50 rfl ?_
          exact hk19 z4 μ15 h
      · refine zx_iconst (v := 0) G d_M_isFit_37 rfl ?_
        exact zx_zretK G d_M_isFit_38 rfl (by decide) h
set_option maxHeartbeats 4000000 in
set_option maxRecDepth 20000 in
theorem tf_M_isFit_l9 {g : ZG} {E : ZE} {N n9 : Nat} {rr : Int32 × ZMem} {p0 : Int32} {kx114 : Int32 → ZMem → Option (Int32 × ZMem)} {z4 : Int32} {z5 : Int32} {μ6 : ZMem} (G : zGa g K_M_isFit 4 E) (hl0 : (12, 0) ∈ zids) (h : f_M_isFit_l9 N p0 kx114 n9 z4 z5 μ6 = some rr) (hkx114 : ∀ (w2 : Int32) (μ : ZMem), kx114 w2 μ = some rr → zX g K_M_isFit 4 E (some (.int rr.1), rr.2) μ 114 [some (.ref (g.2.1 12 0)), none, some (.int w2), none] []) : zX g K_M_isFit 4 E (some (.int rr.1), rr.2) μ6 9 [some (.ref (g.2.1 12 0)), some (.int p0), some (.int z4), some (.int z5)] [] := tf_M_isFit_l9_0 G hl0 hkx114 n9 z4 z5 μ6 h
set_option maxHeartbeats 4000000 in
set_option maxRecDepth 20000 in
theorem t_M_isFit {g : ZG} {l : Launch} {N : Nat} {μ : ZMem} {p0 : Int32} {rr : Int32 × ZMem} (h : f_M_isFit N μ p0 = some rr) : zT g l 4 K_M_isFit [.ref (g.2.1 12 0), .int p0] μ (some (.int rr.1), rr.2) := by
  refine zT_of (by decide +kernel) (Nat.le_of_ble_eq_true rfl) (fun E G => ?_)
  show zX g K_M_isFit 4 E (some (.int rr.1), rr.2) μ 0 [some (.ref (g.2.1 12 0)), some (.int p0), none, none] []
  unfold f_M_isFit at h
  refine zx_aload_n G d_M_isFit_0 rfl ?_
  refine zx_iload_n G d_M_isFit_1 rfl ?_
  obtain ⟨u9, μ1, hc, h⟩ := zbnd_of h
  refine zx_callVV  (μ2 := μ1) G d_M_isFit_2 zm_M_227 (fun l => t_M_begin  hc) rfl rfl (Nat.le_of_ble_eq_true rfl) (Nat.le_of_ble_eq_true rfl) (zrecv zo_12 (zids_of 12 (Nat.le_of_ble_eq_true rfl) 0 (Nat.le_of_ble_eq_true rfl))) ?_
  refine zx_iconst (v := 0) G d_M_isFit_5 rfl ?_
  refine zx_istore_n (lf := fun y => [_, _, some (.int y), none]) G d_M_isFit_6 (Nat.le_of_ble_eq_true rfl) (fun _ => rfl) h (fun x2 h => ?_)
  refine zx_iconst (v := 0) G d_M_isFit_7 rfl ?_
  refine zx_istore_n (lf := fun y => [_, _, _, some (.int y)]) G d_M_isFit_8 (Nat.le_of_ble_eq_true rfl) (fun _ => rfl) h (fun x3 h => ?_)
  refine tf_M_isFit_l9 G (zids_of 12 (Nat.le_of_ble_eq_true rfl) 0 (Nat.le_of_ble_eq_true rfl)) h (fun x22 μ23 h => ?_)
  · try dsimp only at h
    refine zx_iload_n G d_M_isFit_114 rfl ?_
    refine zx_aload_n G d_M_isFit_115 rfl ?_
    refine zx_getR G d_M_isFit_116 zf_M_7 zc_12_0 (zids_of 12 (Nat.le_of_ble_eq_true rfl) 0 (Nat.le_of_ble_eq_true rfl)) ?_
    refine zx_iconst (v := 5) G d_M_isFit_119 rfl ?_
    refine zx_iald G d_M_isFit_120 za_40 (zi_12_0 (zids_of 12 (Nat.le_of_ble_eq_true rfl) 0 (Nat.le_of_ble_eq_true rfl))) h (fun h => ?_)
    refine zx_icmp_ne (tgt := 128) G d_M_isFit_121 rfl h (fun h => ?_) (fun h => ?_)
    · refine zx_iconst (v := 0) G d_M_isFit_128 rfl ?_
      exact zx_zretK G d_M_isFit_129 rfl (by decide) h
    · refine zx_iconst (v := 1) G d_M_isFit_124 rfl ?_
      refine zx_goto (tgt := 129) G d_M_isFit_125 rfl ?_
      exact zx_zretK G d_M_isFit_129 rfl (by decide) h
set_option maxHeartbeats 4000000 in
set_option maxRecDepth 20000 in
theorem tf_M_fits_l53_0 {g : ZG} {E : ZE} {N : Nat} {rr : Int32 × ZMem} {p0 : Int32} {p1 : Int32} {p2 : Int32} {x9 : Int32} {kx75 : ZMem → Option (Int32 × ZMem)} (G : zGa g K_M_fits 5 E) (hl0 : (12, 0) ∈ zids) (hkx75 : ∀  (μ : ZMem), kx75 μ = some rr → zX g K_M_fits 5 E (some (.int rr.1), rr.2) μ 75 [some (.ref (g.2.1 12 0)), some (.int p0), some (.int p1), some (.int p2), some (.int x9), none, none, none, none, none, none] []) : ∀ (n53 : Nat) (z11 : Int32) (μ12 : ZMem), f_M_fits_l53 N p0 p1 p2 x9 kx75 n53 z11 μ12 = some rr → zX g K_M_fits 5 E (some (.int rr.1), rr.2) μ12 53 [some (.ref (g.2.1 12 0)), some (.int p0), some (.int p1), some (.int p2), some (.int x9), some (.int z11), none, none, none, none, none] [] := by
  intro n53
  induction n53 with
  | zero => intro z11 μ12 h; cases h
  | succ n53 ih53 =>
    intro z11 μ12 h
    simp only [f_M_fits_l53] at h
    refine zx_iload G d_M_fits_53 rfl ?_
    refine zx_sipush (v := 10000) G d_M_fits_55 rfl ?_
    refine zx_icmp_ge (tgt := 75) G d_M_fits_58 rfl h (fun h => ?_) (fun h => ?_)
    · refine zx_weak [true, true, true, true, true, false, false, false, false, false, false] (lv2 := [_, _, _, _, _, none, none, none, none, none, none]) rfl ?_
      exact hkx75 μ12 h
    · refine zx_aload_n G d_M_fits_61 rfl ?_
      refine zx_getR G d_M_fits_62 zf_M_42 zc_12_19 hl0 ?_
      refine zx_iload G d_M_fits_65 rfl ?_
      refine zx_iconst (v := 0) G d_M_fits_67 rfl ?_
      refine zx_zast G d_M_fits_68 za_46 (zi_12_19 hl0) h (fun μ13 h => ?_)
      refine zx_iinc (v := 1) (lf := fun y => [_, _, _, _, _, some (.int y), none, none, none, none, none]) G d_M_fits_69 (Nat.le_of_ble_eq_true rfl) rfl rfl (fun _ => rfl) h (fun x14 h => ?_)
      refine zx_goto (tgt := 53) G d_M_fits_72 rfl ?_
      exact ih53 x14 μ13 h
set_option maxHeartbeats 4000000 in
set_option maxRecDepth 20000 in
theorem tf_M_fits_l53 {g : ZG} {E : ZE} {N n53 : Nat} {rr : Int32 × ZMem} {p0 : Int32} {p1 : Int32} {p2 : Int32} {x9 : Int32} {kx75 : ZMem → Option (Int32 × ZMem)} {z11 : Int32} {μ12 : ZMem} (G : zGa g K_M_fits 5 E) (hl0 : (12, 0) ∈ zids) (h : f_M_fits_l53 N p0 p1 p2 x9 kx75 n53 z11 μ12 = some rr) (hkx75 : ∀  (μ : ZMem), kx75 μ = some rr → zX g K_M_fits 5 E (some (.int rr.1), rr.2) μ 75 [some (.ref (g.2.1 12 0)), some (.int p0), some (.int p1), some (.int p2), some (.int x9), none, none, none, none, none, none] []) : zX g K_M_fits 5 E (some (.int rr.1), rr.2) μ12 53 [some (.ref (g.2.1 12 0)), some (.int p0), some (.int p1), some (.int p2), some (.int x9), some (.int z11), none, none, none, none, none] [] := tf_M_fits_l53_0 G hl0 hkx75 n53 z11 μ12 h
set_option maxHeartbeats 4000000 in
set_option maxRecDepth 20000 in
theorem tf_M_fits_l95_0 {g : ZG} {E : ZE} {N : Nat} {rr : Int32 × ZMem} {p0 : Int32} {p1 : Int32} {p2 : Int32} {x9 : Int32} {kx210 : Int32 → Int32 → Int32 → Int32 → ZMem → Option (Int32 × ZMem)} (G : zGa g K_M_fits 5 E) (hl0 : (12, 0) ∈ zids) (hkx210 : ∀ (w5 : Int32) (w6 : Int32) (w7 : Int32) (w8 : Int32) (μ : ZMem), kx210 w5 w6 w7 w8 μ = some rr → zX g K_M_fits 5 E (some (.int rr.1), rr.2) μ 210 [none, none, some (.int p1), some (.int p2), none, some (.int w5), some (.int w6), some (.int w7), some (.int w8), none, none] []) : ∀ (n95 : Nat) (z22 : Int32) (z23 : Int32) (z24 : Int32) (z25 : Int32) (z26 : Int32) (μ27 : ZMem), f_M_fits_l95 N p0 p1 p2 x9 kx210 n95 z22 z23 z24 z25 z26 μ27 = some rr → zX g K_M_fits 5 E (some (.int rr.1), rr.2) μ27 95 [some (.ref (g.2.1 12 0)), some (.int p0), some (.int p1), some (.int p2), some (.int x9), some (.int z22), some (.int z23), some (.int z24), some (.int z25), some (.int z26), none] [] := by
  intro n95
  induction n95 with
  | zero => intro z22 z23 z24 z25 z26 μ27 h; cases h
  | succ n95 ih95 =>
    intro z22 z23 z24 z25 z26 μ27 h
    simp only [f_M_fits_l95] at h
    refine zx_iload G d_M_fits_95 rfl ?_
    refine zx_iload G d_M_fits_97 rfl ?_
    refine zx_icmp_ge (tgt := 210) G d_M_fits_99 rfl h (fun h => ?_) (fun h => ?_)
    · refine zx_weak [false, false, true, true, false, true, true, true, true, false, false] (lv2 := [none, none, _, _, none, _, _, _, _, none, none]) rfl ?_
      exact hkx210 z22 z23 z24 z25 μ27 h
    · refine zx_aload_n G d_M_fits_102 rfl ?_
      refine zx_iload_n G d_M_fits_103 rfl ?_
      obtain ⟨r29, μ28, hc, h⟩ := zbnd_of h
      refine zx_callVI (r := r29) (μ2 := μ28) G d_M_fits_104 zm_M_285 (fun l => t_M_isFit  hc) rfl rfl (Nat.le_of_ble_eq_true rfl) (Nat.le_of_ble_eq_true rfl) (zrecv zo_12 hl0) ?_
      refine zx_join (P := fun k => ∀ (y30 : Int32) (y31 : Int32) (y32 : Int32) (y33 : Int32) (μ34 : ZMem), k y30 y31 y32 y33 μ34 = some rr → zX g K_M_fits 5 E (some (.int rr.1), rr.2) μ34 199 [some (.ref (g.2.1 12 0)), some (.int p0), some (.int p1), some (.int p2), some (.int x9), some (.int y30), some (.int y31), some (.int y32), some (.int y33), some (.int z26), none] []) h (fun y30 y31 y32 y33 μ34 h => ?_) (fun k35 hk35 h => ?_)
      · try dsimp only at h
        refine zx_aload_n G d_M_fits_199 rfl ?_
        refine zx_iload_n G d_M_fits_200 rfl ?_
        obtain ⟨u9, μ36, hc, h⟩ := zbnd_of h
        refine zx_callVV  (μ2 := μ36) G d_M_fits_201 zm_M_269 (fun l => t_M_thinkNext  hc) rfl rfl (Nat.le_of_ble_eq_true rfl) (Nat.le_of_ble_eq_true rfl) (zrecv zo_12 hl0) ?_
        refine zx_iinc (v := 1) (lf := fun y => [_, _, _, _, _, _, _, _, _, some (.int y), none]) G d_M_fits_204 (Nat.le_of_ble_eq_true rfl) rfl rfl (fun _ => rfl) h (fun x37 h => ?_)
        refine zx_goto (tgt := 95) G d_M_fits_207 rfl ?_
        exact ih95 y30 y31 y32 y33 x37 μ36 h
      try dsimp only at h
      refine zx_if_eq (tgt := 199) G d_M_fits_107 rfl h (fun h => ?_) (fun h => ?_)
      · exact hk35 z22 z23 z24 z25 μ28 h
      · refine zx_iload_n G d_M_fits_110 rfl ?_
        refine zx_join (P := fun k => ∀ (y38 : Int32) (μ39 : ZMem), k y38 μ39 = some rr → zX g K_M_fits 5 E (some (.int rr.1), rr.2) μ39 124 [some (.ref (g.2.1 12 0)), some (.int p0), some (.int p1), some (.int p2), some (.int x9), some (.int z22), some (.int z23), some (.int z24), some (.int z25), some (.int z26), none] [.int y38]) h (fun y38 μ39 h => ?_) (fun k40 hk40 h => ?_)
        · try dsimp only at h
          refine zx_istore (lf := fun y => [_, _, _, _, _, _, _, _, _, _, some (.int y)]) G d_M_fits_124 (Nat.le_of_ble_eq_true rfl) (fun _ => rfl) h (fun x41 h => ?_)
          refine zx_iload G d_M_fits_126 rfl ?_
          refine zx_join (P := fun k => ∀ (y42 : Int32) (μ43 : ZMem), k y42 μ43 = some rr → zX g K_M_fits 5 E (some (.int rr.1), rr.2) μ43 145 [some (.ref (g.2.1 12 0)), some (.int p0), some (.int p1), some (.int p2), some (.int x9), some (.int z22), some (.int z23), none, some (.int z25), some (.int z26), some (.int x41)] [.int y42]) h (fun y42 μ43 h => ?_) (fun k44 hk44 h => ?_)
          · try dsimp only at h
            refine zx_istore (lf := fun y => [_, _, _, _, _, _, _, some (.int y), _, _, _]) G d_M_fits_145 (Nat.le_of_ble_eq_true rfl) (fun _ => rfl) h (fun x45 h => ?_)
            refine zx_iload G d_M_fits_147 rfl ?_
            refine zx_join (P := fun k => ∀ (y46 : Int32) (μ47 : ZMem), k y46 μ47 = some rr → zX g K_M_fits 5 E (some (.int rr.1), rr.2) μ47 166 [some (.ref (g.2.1 12 0)), some (.int p0), some (.int p1), some (.int p2), some (.int x9), some (.int z22), some (.int z23), some (.int x45), none, some (.int z26), some (.int x41)] [.int y46]) h (fun y46 μ47 h => ?_) (fun k48 hk48 h => ?_)
            · try dsimp only at h
              refine zx_istore (lf := fun y => [_, _, _, _, _, _, _, _, some (.int y), _, _]) G d_M_fits_166 (Nat.le_of_ble_eq_true rfl) (fun _ => rfl) h (fun x49 h => ?_)
              refine zx_iload G d_M_fits_168 rfl ?_
              refine zx_aload_n G d_M_fits_170 rfl ?_
              refine zx_getR G d_M_fits_171 zf_M_42 zc_12_19 hl0 ?_
              refine zx_iload G d_M_fits_174 rfl ?_
              refine zx_zald G d_M_fits_176 za_46 (zi_12_19 hl0) h (fun h => ?_)
              refine zx_join (P := fun k => ∀ (y50 : Int32) (μ51 : ZMem), k y50 μ51 = some rr → zX g K_M_fits 5 E (some (.int rr.1), rr.2) μ51 185 [some (.ref (g.2.1 12 0)), some (.int p0), some (.int p1), some (.int p2), some (.int x9), some (.int z22), none, some (.int x45), some (.int x49), some (.int z26), some (.int x41)] [.int y50, .int z23]) h (fun y50 μ51 h => ?_) (fun k52 hk52 h => ?_)
              · try dsimp only at h
                refine zx_iadd G d_M_fits_185 ?_
                refine zx_istore (lf := fun y => [_, _, _, _, _, _, some (.int y), _, _, _, _]) G d_M_fits_186 (Nat.le_of_ble_eq_true rfl) (fun _ => rfl) h (fun x53 h => ?_)
                refine zx_aload_n G d_M_fits_188 rfl ?_
                refine zx_getR G d_M_fits_189 zf_M_42 zc_12_19 hl0 ?_
                refine zx_iload G d_M_fits_192 rfl ?_
                refine zx_iconst (v := 1) G d_M_fits_194 rfl ?_
                refine zx_zast G d_M_fits_195 za_46 (zi_12_19 hl0) h (fun μ54 h => ?_)
                refine zx_iinc (v := 1) (lf := fun y => [_, _, _, _, _, some (.int y), _, _, _, _, _]) G d_M_fits_196 (Nat.le_of_ble_eq_true rfl) rfl rfl (fun _ => rfl) h (fun x55 h => ?_)
                refine zx_weak [true, true, true, true, true, true, true, true, true, true, false] (lv2 := [_, _, _, _, _, _, _, _, _, _, none]) rfl ?_
                exact hk35 x55 x53 x45 x49 μ54 h
              try dsimp only at h
              refine zx_if_eq (tgt := 184) G d_M_fits_177 rfl h (fun h => ?_) (fun h => ?_)
              · refine zx_iconst (v := 1) G d_M_fits_184 rfl ?_
                refine zx_weak [true, true, true, true, true, true, false, true, true, true, true] (lv2 := [_, _, _, _, _, _, none, _, _, _, _]) rfl ?_
                exact hk52 (1 : Int32) μ47 h
              · refine zx_iconst (v := 0) G d_M_fits_180 rfl ?_
                refine zx_goto (tgt := 185) G d_M_fits_181 rfl ?_
                refine zx_weak [true, true, true, true, true, true, false, true, true, true, true] (lv2 := [_, _, _, _, _, _, none, _, _, _, _]) rfl ?_
                exact hk52 (0 : Int32) μ47 h
            try dsimp only at h
            refine zx_join (P := fun k => ∀ (μ56 : ZMem), k μ56 = some rr → zX g K_M_fits 5 E (some (.int rr.1), rr.2) μ56 159 [some (.ref (g.2.1 12 0)), some (.int p0), some (.int p1), some (.int p2), some (.int x9), some (.int z22), some (.int z23), some (.int x45), none, some (.int z26), some (.int x41)] []) h (fun μ56 h => ?_) (fun k57 hk57 h => ?_)
            · try dsimp only at h
              refine zx_iload G d_M_fits_159 rfl ?_
              refine zx_goto (tgt := 166) G d_M_fits_161 rfl ?_
              exact hk48 x41 μ56 h
            try dsimp only at h
            refine zx_if_eq (tgt := 159) G d_M_fits_149 rfl h (fun h => ?_) (fun h => ?_)
            · refine zx_weak [true, true, true, true, true, true, true, true, false, true, true] (lv2 := [_, _, _, _, _, _, _, _, none, _, _]) rfl ?_
              exact hk57 μ43 h
            · refine zx_iload G d_M_fits_152 rfl ?_
              refine zx_iload G d_M_fits_154 rfl ?_
              refine zx_icmp_le (tgt := 164) G d_M_fits_156 rfl h (fun h => ?_) (fun h => ?_)
              · refine zx_iload G d_M_fits_164 rfl ?_
                refine zx_weak [true, true, true, true, true, true, true, true, false, true, true] (lv2 := [_, _, _, _, _, _, _, _, none, _, _]) rfl ?_
                exact hk48 z25 μ43 h
              · refine zx_weak [true, true, true, true, true, true, true, true, false, true, true] (lv2 := [_, _, _, _, _, _, _, _, none, _, _]) rfl ?_
                exact hk57 μ43 h
          try dsimp only at h
          refine zx_join (P := fun k => ∀ (μ58 : ZMem), k μ58 = some rr → zX g K_M_fits 5 E (some (.int rr.1), rr.2) μ58 138 [some (.ref (g.2.1 12 0)), some (.int p0), some (.int p1), some (.int p2), some (.int x9), some (.int z22), some (.int z23), none, some (.int z25), some (.int z26), some (.int x41)] []) h (fun μ58 h => ?_) (fun k59 hk59 h => ?_)
          · try dsimp only at h
            refine zx_iload G d_M_fits_138 rfl ?_
            refine zx_goto (tgt := 145) G d_M_fits_140 rfl ?_
            exact hk44 x41 μ58 h
          try dsimp only at h
          refine zx_if_eq (tgt := 138) G d_M_fits_128 rfl h (fun h => ?_) (fun h => ?_)
          · refine zx_weak [true, true, true, true, true, true, true, false, true, true, true] (lv2 := [_, _, _, _, _, _, _, none, _, _, _]) rfl ?_
            exact hk59 μ39 h
          · refine zx_iload G d_M_fits_131 rfl ?_
            refine zx_iload G d_M_fits_133 rfl ?_
            refine zx_icmp_ge (tgt := 143) G d_M_fits_135 rfl h (fun h => ?_) (fun h => ?_)
            · refine zx_iload G d_M_fits_143 rfl ?_
              refine zx_weak [true, true, true, true, true, true, true, false, true, true, true] (lv2 := [_, _, _, _, _, _, _, none, _, _, _]) rfl ?_
              exact hk44 z24 μ39 h
            · refine zx_weak [true, true, true, true, true, true, true, false, true, true, true] (lv2 := [_, _, _, _, _, _, _, none, _, _, _]) rfl ?_
              exact hk59 μ39 h
        try dsimp only at h
        refine zx_if_ge (tgt := 118) G d_M_fits_111 rfl h (fun h => ?_) (fun h => ?_)
        · refine zx_aload_n G d_M_fits_118 rfl ?_
          refine zx_getR G d_M_fits_119 zf_M_36 zc_12_17 hl0 ?_
          refine zx_iload_n G d_M_fits_122 rfl ?_
          refine zx_iald G d_M_fits_123 za_44 (zi_12_17 hl0) h (fun h => ?_)
          exact hk40 (μ28.1 44 0 p1.toNatClampNeg) μ28 h
        · refine zx_iconst (v := 0) G d_M_fits_114 rfl ?_
          refine zx_goto (tgt := 124) G d_M_fits_115 rfl ?_
          exact hk40 (0 : Int32) μ28 h
set_option maxHeartbeats 4000000 in
set_option maxRecDepth 20000 in
theorem tf_M_fits_l95 {g : ZG} {E : ZE} {N n95 : Nat} {rr : Int32 × ZMem} {p0 : Int32} {p1 : Int32} {p2 : Int32} {x9 : Int32} {kx210 : Int32 → Int32 → Int32 → Int32 → ZMem → Option (Int32 × ZMem)} {z22 : Int32} {z23 : Int32} {z24 : Int32} {z25 : Int32} {z26 : Int32} {μ27 : ZMem} (G : zGa g K_M_fits 5 E) (hl0 : (12, 0) ∈ zids) (h : f_M_fits_l95 N p0 p1 p2 x9 kx210 n95 z22 z23 z24 z25 z26 μ27 = some rr) (hkx210 : ∀ (w5 : Int32) (w6 : Int32) (w7 : Int32) (w8 : Int32) (μ : ZMem), kx210 w5 w6 w7 w8 μ = some rr → zX g K_M_fits 5 E (some (.int rr.1), rr.2) μ 210 [none, none, some (.int p1), some (.int p2), none, some (.int w5), some (.int w6), some (.int w7), some (.int w8), none, none] []) : zX g K_M_fits 5 E (some (.int rr.1), rr.2) μ27 95 [some (.ref (g.2.1 12 0)), some (.int p0), some (.int p1), some (.int p2), some (.int x9), some (.int z22), some (.int z23), some (.int z24), some (.int z25), some (.int z26), none] [] := tf_M_fits_l95_0 G hl0 hkx210 n95 z22 z23 z24 z25 z26 μ27 h
set_option maxHeartbeats 4000000 in
set_option maxRecDepth 20000 in
theorem t_M_fits {g : ZG} {l : Launch} {N : Nat} {μ : ZMem} {p0 : Int32} {p1 : Int32} {p2 : Int32} {rr : Int32 × ZMem} (h : f_M_fits N μ p0 p1 p2 = some rr) : zT g l 5 K_M_fits [.ref (g.2.1 12 0), .int p0, .int p1, .int p2] μ (some (.int rr.1), rr.2) := by
  refine zT_of (by decide +kernel) (Nat.le_of_ble_eq_true rfl) (fun E G => ?_)
  show zX g K_M_fits 5 E (some (.int rr.1), rr.2) μ 0 [some (.ref (g.2.1 12 0)), some (.int p0), some (.int p1), some (.int p2), none, none, none, none, none, none, none] []
  unfold f_M_fits at h
  refine zx_aload_n G d_M_fits_0 rfl ?_
  refine zx_iload_n G d_M_fits_1 rfl ?_
  obtain ⟨r2, μ1, hc, h⟩ := zbnd_of h
  refine zx_callVI (r := r2) (μ2 := μ1) G d_M_fits_2 zm_M_169 (fun l => t_M_isTable  hc) rfl rfl (Nat.le_of_ble_eq_true rfl) (Nat.le_of_ble_eq_true rfl) (zrecv zo_12 (zids_of 12 (Nat.le_of_ble_eq_true rfl) 0 (Nat.le_of_ble_eq_true rfl))) ?_
  refine zx_if_eq (tgt := 30) G d_M_fits_5 rfl h (fun h => ?_) (fun h => ?_)
  · refine zx_iconst (v := -1) G d_M_fits_30 rfl ?_
    exact zx_iret G d_M_fits_31 rfl h
  · refine zx_iload_n G d_M_fits_8 rfl ?_
    refine zx_iconst (v := -1) G d_M_fits_9 rfl ?_
    refine zx_iconst (v := 3) G d_M_fits_10 rfl ?_
    obtain ⟨r4, μ3, hc, h⟩ := zbnd_of h
    refine zx_callSI (r := r4) (μ2 := μ3) G d_M_fits_11 zm_M_68 (fun l => t_M_isIn  hc) rfl rfl (Nat.le_of_ble_eq_true rfl) (Nat.le_of_ble_eq_true rfl) ?_
    refine zx_if_eq (tgt := 30) G d_M_fits_14 rfl h (fun h => ?_) (fun h => ?_)
    · refine zx_iconst (v := -1) G d_M_fits_30 rfl ?_
      exact zx_iret G d_M_fits_31 rfl h
    · refine zx_iload_n G d_M_fits_17 rfl ?_
      refine zx_join (P := fun k => ∀ (μ5 : ZMem), k μ5 = some rr → zX g K_M_fits 5 E (some (.int rr.1), rr.2) μ5 32 [some (.ref (g.2.1 12 0)), some (.int p0), some (.int p1), some (.int p2), none, none, none, none, none, none, none] []) h (fun μ5 h => ?_) (fun k6 hk6 h => ?_)
      · try dsimp only at h
        refine zx_aload_n G d_M_fits_32 rfl ?_
        refine zx_iload_n G d_M_fits_33 rfl ?_
        obtain ⟨r8, μ7, hc, h⟩ := zbnd_of h
        refine zx_callVI (r := r8) (μ2 := μ7) G d_M_fits_34 zm_M_263 (fun l => t_M_allOf  hc) rfl rfl (Nat.le_of_ble_eq_true rfl) (Nat.le_of_ble_eq_true rfl) (zrecv zo_12 (zids_of 12 (Nat.le_of_ble_eq_true rfl) 0 (Nat.le_of_ble_eq_true rfl))) ?_
        refine zx_istore (lf := fun y => [_, _, _, _, some (.int y), none, none, none, none, none, none]) G d_M_fits_37 (Nat.le_of_ble_eq_true rfl) (fun _ => rfl) h (fun x9 h => ?_)
        refine zx_iload G d_M_fits_39 rfl ?_
        refine zx_sipush (v := 20000) G d_M_fits_41 rfl ?_
        refine zx_icmp_le (tgt := 50) G d_M_fits_44 rfl h (fun h => ?_) (fun h => ?_)
        · refine zx_iconst (v := 0) G d_M_fits_50 rfl ?_
          refine zx_istore (lf := fun y => [_, _, _, _, _, some (.int y), none, none, none, none, none]) G d_M_fits_51 (Nat.le_of_ble_eq_true rfl) (fun _ => rfl) h (fun x10 h => ?_)
          refine tf_M_fits_l53 G (zids_of 12 (Nat.le_of_ble_eq_true rfl) 0 (Nat.le_of_ble_eq_true rfl)) h (fun μ15 h => ?_)
          · try dsimp only at h
            refine zx_iconst (v := 0) G d_M_fits_75 rfl ?_
            refine zx_istore (lf := fun y => [_, _, _, _, _, some (.int y), none, none, none, none, none]) G d_M_fits_76 (Nat.le_of_ble_eq_true rfl) (fun _ => rfl) h (fun x16 h => ?_)
            refine zx_iconst (v := 0) G d_M_fits_78 rfl ?_
            refine zx_istore (lf := fun y => [_, _, _, _, _, _, some (.int y), none, none, none, none]) G d_M_fits_79 (Nat.le_of_ble_eq_true rfl) (fun _ => rfl) h (fun x17 h => ?_)
            refine zx_iconst (v := 0) G d_M_fits_81 rfl ?_
            refine zx_istore (lf := fun y => [_, _, _, _, _, _, _, some (.int y), none, none, none]) G d_M_fits_82 (Nat.le_of_ble_eq_true rfl) (fun _ => rfl) h (fun x18 h => ?_)
            refine zx_iconst (v := 0) G d_M_fits_84 rfl ?_
            refine zx_istore (lf := fun y => [_, _, _, _, _, _, _, _, some (.int y), none, none]) G d_M_fits_85 (Nat.le_of_ble_eq_true rfl) (fun _ => rfl) h (fun x19 h => ?_)
            refine zx_aload_n G d_M_fits_87 rfl ?_
            refine zx_iload_n G d_M_fits_88 rfl ?_
            obtain ⟨u9, μ20, hc, h⟩ := zbnd_of h
            refine zx_callVV  (μ2 := μ20) G d_M_fits_89 zm_M_266 (fun l => t_M_thinkFirst  hc) rfl rfl (Nat.le_of_ble_eq_true rfl) (Nat.le_of_ble_eq_true rfl) (zrecv zo_12 (zids_of 12 (Nat.le_of_ble_eq_true rfl) 0 (Nat.le_of_ble_eq_true rfl))) ?_
            refine zx_iconst (v := 0) G d_M_fits_92 rfl ?_
            refine zx_istore (lf := fun y => [_, _, _, _, _, _, _, _, _, some (.int y), none]) G d_M_fits_93 (Nat.le_of_ble_eq_true rfl) (fun _ => rfl) h (fun x21 h => ?_)
            refine tf_M_fits_l95 G (zids_of 12 (Nat.le_of_ble_eq_true rfl) 0 (Nat.le_of_ble_eq_true rfl)) h (fun x60 x61 x62 x63 μ64 h => ?_)
            · try dsimp only at h
              refine zx_iload_n G d_M_fits_210 rfl ?_
              refine zx_if_ge (tgt := 217) G d_M_fits_211 rfl h (fun h => ?_) (fun h => ?_)
              · refine zx_iload G d_M_fits_217 rfl ?_
                refine zx_if_ne (tgt := 226) G d_M_fits_219 rfl h (fun h => ?_) (fun h => ?_)
                · refine zx_iload_n G d_M_fits_226 rfl ?_
                  refine zx_if_ne (tgt := 235) G d_M_fits_227 rfl h (fun h => ?_) (fun h => ?_)
                  · refine zx_iload_n G d_M_fits_235 rfl ?_
                    refine zx_iconst (v := 1) G d_M_fits_236 rfl ?_
                    refine zx_icmp_ne (tgt := 245) G d_M_fits_237 rfl h (fun h => ?_) (fun h => ?_)
                    · refine zx_iload G d_M_fits_245 rfl ?_
                      exact zx_iret G d_M_fits_247 rfl h
                    · refine zx_iload G d_M_fits_240 rfl ?_
                      refine zx_goto (tgt := 247) G d_M_fits_242 rfl ?_
                      exact zx_iret G d_M_fits_247 rfl h
                  · refine zx_iload G d_M_fits_230 rfl ?_
                    refine zx_goto (tgt := 247) G d_M_fits_232 rfl ?_
                    exact zx_iret G d_M_fits_247 rfl h
                · refine zx_iconst (v := -1) G d_M_fits_222 rfl ?_
                  refine zx_goto (tgt := 247) G d_M_fits_223 rfl ?_
                  exact zx_iret G d_M_fits_247 rfl h
              · refine zx_iload G d_M_fits_214 rfl ?_
                exact zx_iret G d_M_fits_216 rfl h
        · refine zx_bipush (v := -2) G d_M_fits_47 rfl ?_
          exact zx_iret G d_M_fits_49 rfl h
      try dsimp only at h
      refine zx_if_lt (tgt := 32) G d_M_fits_18 rfl h (fun h => ?_) (fun h => ?_)
      · exact hk6 μ3 h
      · refine zx_iload_n G d_M_fits_21 rfl ?_
        refine zx_iconst (v := 0) G d_M_fits_22 rfl ?_
        refine zx_iconst (v := 2) G d_M_fits_23 rfl ?_
        obtain ⟨r66, μ65, hc, h⟩ := zbnd_of h
        refine zx_callSI (r := r66) (μ2 := μ65) G d_M_fits_24 zm_M_68 (fun l => t_M_isIn  hc) rfl rfl (Nat.le_of_ble_eq_true rfl) (Nat.le_of_ble_eq_true rfl) ?_
        refine zx_if_ne (tgt := 32) G d_M_fits_27 rfl h (fun h => ?_) (fun h => ?_)
        · exact hk6 μ65 h
        · refine zx_iconst (v := -1) G d_M_fits_30 rfl ?_
          exact zx_iret G d_M_fits_31 rfl h
set_option maxHeartbeats 4000000 in
set_option maxRecDepth 20000 in
theorem tf_M_layAll_l27_0 {g : ZG} {E : ZE} {N : Nat} {rr : Int32 × ZMem} {p0 : Int32} {p1 : Int32} {z4 : Int32} {z5 : Int32} {kx100 : Int32 → ZMem → Option (Int32 × ZMem)} (G : zGa g K_M_layAll 4 E) (hl0 : (12, 0) ∈ zids) (hkx100 : ∀ (w5 : Int32) (μ : ZMem), kx100 w5 μ = some rr → zX g K_M_layAll 4 E (some (.int rr.1), rr.2) μ 100 [some (.ref (g.2.1 12 0)), some (.int p0), some (.int p1), some (.int z4), some (.int z5), some (.int w5), none] []) : ∀ (n27 : Nat) (z10 : Int32) (z11 : Int32) (μ12 : ZMem), f_M_layAll_l27 N p0 p1 z4 z5 kx100 n27 z10 z11 μ12 = some rr → zX g K_M_layAll 4 E (some (.int rr.1), rr.2) μ12 27 [some (.ref (g.2.1 12 0)), some (.int p0), some (.int p1), some (.int z4), some (.int z5), some (.int z10), some (.int z11)] [] := by
  intro n27
  induction n27 with
  | zero => intro z10 z11 μ12 h; cases h
  | succ n27 ih27 =>
    intro z10 z11 μ12 h
    simp only [f_M_layAll_l27] at h
    refine zx_iload G d_M_layAll_27 rfl ?_
    refine zx_aload_n G d_M_layAll_29 rfl ?_
    refine zx_iload_n G d_M_layAll_30 rfl ?_
    obtain ⟨r14, μ13, hc, h⟩ := zbnd_of h
    refine zx_callVI (r := r14) (μ2 := μ13) G d_M_layAll_31 zm_M_172 (fun l => t_M_ordersOf  hc) rfl rfl (Nat.le_of_ble_eq_true rfl) (Nat.le_of_ble_eq_true rfl) (zrecv zo_12 hl0) ?_
    refine zx_icmp_ge (tgt := 100) G d_M_layAll_34 rfl h (fun h => ?_) (fun h => ?_)
    · refine zx_weak [true, true, true, true, true, true, false] (lv2 := [_, _, _, _, _, _, none]) rfl ?_
      exact hkx100 z10 μ13 h
    · refine zx_iload G d_M_layAll_37 rfl ?_
      refine zx_if_eq (tgt := 100) G d_M_layAll_39 rfl h (fun h => ?_) (fun h => ?_)
      · refine zx_weak [true, true, true, true, true, true, false] (lv2 := [_, _, _, _, _, _, none]) rfl ?_
        exact hkx100 z10 μ13 h
      · refine zx_aload_n G d_M_layAll_42 rfl ?_
        refine zx_aload_n G d_M_layAll_43 rfl ?_
        refine zx_iload_n G d_M_layAll_44 rfl ?_
        refine zx_iload G d_M_layAll_45 rfl ?_
        obtain ⟨r16, μ15, hc, h⟩ := zbnd_of h
        refine zx_callVI (r := r16) (μ2 := μ15) G d_M_layAll_47 zm_M_179 (fun l => t_M_kindOf  hc) rfl rfl (Nat.le_of_ble_eq_true rfl) (Nat.le_of_ble_eq_true rfl) (zrecv zo_12 hl0) ?_
        refine zx_aload_n G d_M_layAll_50 rfl ?_
        refine zx_iload_n G d_M_layAll_51 rfl ?_
        refine zx_iload G d_M_layAll_52 rfl ?_
        obtain ⟨r18, μ17, hc, h⟩ := zbnd_of h
        refine zx_callVI (r := r18) (μ2 := μ17) G d_M_layAll_54 zm_M_175 (fun l => t_M_xOf  hc) rfl rfl (Nat.le_of_ble_eq_true rfl) (Nat.le_of_ble_eq_true rfl) (zrecv zo_12 hl0) ?_
        obtain ⟨r20, μ19, hc, h⟩ := zbnd_of h
        refine zx_callVI (r := r20) (μ2 := μ19) G d_M_layAll_57 zm_M_230 (fun l => t_M_does  hc) rfl rfl (Nat.le_of_ble_eq_true rfl) (Nat.le_of_ble_eq_true rfl) (zrecv zo_12 hl0) ?_
        refine zx_istore (lf := fun y => [_, _, _, _, _, some (.int y), _]) G d_M_layAll_60 (Nat.le_of_ble_eq_true rfl) (fun _ => rfl) h (fun x21 h => ?_)
        refine zx_aload_n G d_M_layAll_62 rfl ?_
        refine zx_getR G d_M_layAll_63 zf_M_46 zc_12_20 hl0 ?_
        refine zx_bipush (v := 24) G d_M_layAll_66 rfl ?_
        refine zx_iload_n G d_M_layAll_68 rfl ?_
        refine zx_imul G d_M_layAll_69 ?_
        refine zx_iload G d_M_layAll_70 rfl ?_
        refine zx_iadd G d_M_layAll_72 ?_
        refine zx_aload_n G d_M_layAll_73 rfl ?_
        refine zx_getJ G d_M_layAll_74 zf_M_196 zc_12_15 hl0 ?_
        refine zx_last G d_M_layAll_77 za_47 (zi_12_20 hl0) h (fun μ22 h => ?_)
        refine zx_aload_n G d_M_layAll_78 rfl ?_
        refine zx_getR G d_M_layAll_79 zf_M_49 zc_12_21 hl0 ?_
        refine zx_bipush (v := 24) G d_M_layAll_82 rfl ?_
        refine zx_iload_n G d_M_layAll_84 rfl ?_
        refine zx_imul G d_M_layAll_85 ?_
        refine zx_iload G d_M_layAll_86 rfl ?_
        refine zx_iadd G d_M_layAll_88 ?_
        refine zx_aload_n G d_M_layAll_89 rfl ?_
        refine zx_getJ G d_M_layAll_90 zf_M_199 zc_12_16 hl0 ?_
        refine zx_last G d_M_layAll_93 za_48 (zi_12_21 hl0) h (fun μ23 h => ?_)
        refine zx_iinc (v := 1) (lf := fun y => [_, _, _, _, _, _, some (.int y)]) G d_M_layAll_94 (Nat.le_of_ble_eq_true rfl) rfl rfl (fun _ => rfl) h (fun x24 h => ?_)
        refine zx_goto (tgt := 27) G d_M_layAll_97 rfl ?_
        exact ih27 x21 x24 μ23 h
set_option maxHeartbeats 4000000 in
set_option maxRecDepth 20000 in
theorem tf_M_layAll_l27 {g : ZG} {E : ZE} {N n27 : Nat} {rr : Int32 × ZMem} {p0 : Int32} {p1 : Int32} {z4 : Int32} {z5 : Int32} {kx100 : Int32 → ZMem → Option (Int32 × ZMem)} {z10 : Int32} {z11 : Int32} {μ12 : ZMem} (G : zGa g K_M_layAll 4 E) (hl0 : (12, 0) ∈ zids) (h : f_M_layAll_l27 N p0 p1 z4 z5 kx100 n27 z10 z11 μ12 = some rr) (hkx100 : ∀ (w5 : Int32) (μ : ZMem), kx100 w5 μ = some rr → zX g K_M_layAll 4 E (some (.int rr.1), rr.2) μ 100 [some (.ref (g.2.1 12 0)), some (.int p0), some (.int p1), some (.int z4), some (.int z5), some (.int w5), none] []) : zX g K_M_layAll 4 E (some (.int rr.1), rr.2) μ12 27 [some (.ref (g.2.1 12 0)), some (.int p0), some (.int p1), some (.int z4), some (.int z5), some (.int z10), some (.int z11)] [] := tf_M_layAll_l27_0 G hl0 hkx100 n27 z10 z11 μ12 h
set_option maxHeartbeats 4000000 in
set_option maxRecDepth 20000 in
theorem tf_M_layAll_l10_0 {g : ZG} {E : ZE} {N : Nat} {rr : Int32 × ZMem} {p0 : Int32} {p1 : Int32} (G : zGa g K_M_layAll 4 E) (hl0 : (12, 0) ∈ zids) : ∀ (n10 : Nat) (z4 : Int32) (z5 : Int32) (μ6 : ZMem), f_M_layAll_l10 N p0 p1 n10 z4 z5 μ6 = some rr → zX g K_M_layAll 4 E (some (.int rr.1), rr.2) μ6 10 [some (.ref (g.2.1 12 0)), some (.int p0), some (.int p1), some (.int z4), some (.int z5), none, none] [] := by
  intro n10
  induction n10 with
  | zero => intro z4 z5 μ6 h; cases h
  | succ n10 ih10 =>
    intro z4 z5 μ6 h
    simp only [f_M_layAll_l10] at h
    refine zx_iload G d_M_layAll_10 rfl ?_
    refine zx_iload_n G d_M_layAll_12 rfl ?_
    refine zx_icmp_ge (tgt := 124) G d_M_layAll_13 rfl h (fun h => ?_) (fun h => ?_)
    · refine zx_iload_n G d_M_layAll_124 rfl ?_
      exact zx_iret G d_M_layAll_125 rfl h
    · refine zx_aload_n G d_M_layAll_16 rfl ?_
      refine zx_iload_n G d_M_layAll_17 rfl ?_
      obtain ⟨u9, μ7, hc, h⟩ := zbnd_of h
      refine zx_callVV  (μ2 := μ7) G d_M_layAll_18 zm_M_227 (fun l => t_M_begin  hc) rfl rfl (Nat.le_of_ble_eq_true rfl) (Nat.le_of_ble_eq_true rfl) (zrecv zo_12 hl0) ?_
      refine zx_iconst (v := 1) G d_M_layAll_21 rfl ?_
      refine zx_istore (lf := fun y => [_, _, _, _, _, some (.int y), none]) G d_M_layAll_22 (Nat.le_of_ble_eq_true rfl) (fun _ => rfl) h (fun x8 h => ?_)
      refine zx_iconst (v := 0) G d_M_layAll_24 rfl ?_
      refine zx_istore (lf := fun y => [_, _, _, _, _, _, some (.int y)]) G d_M_layAll_25 (Nat.le_of_ble_eq_true rfl) (fun _ => rfl) h (fun x9 h => ?_)
      refine tf_M_layAll_l27 G hl0 h (fun x25 μ26 h => ?_)
      · try dsimp only at h
        refine zx_iload_n G d_M_layAll_100 rfl ?_
        refine zx_iload G d_M_layAll_101 rfl ?_
        refine zx_join (P := fun k => ∀ (y27 : Int32) (μ28 : ZMem), k y27 μ28 = some rr → zX g K_M_layAll 4 E (some (.int rr.1), rr.2) μ28 111 [some (.ref (g.2.1 12 0)), some (.int p0), some (.int p1), none, some (.int z5), none, none] [.int y27, .int z4]) h (fun y27 μ28 h => ?_) (fun k29 hk29 h => ?_)
        · try dsimp only at h
          refine zx_iadd G d_M_layAll_111 ?_
          refine zx_istore_n (lf := fun y => [_, _, _, some (.int y), _, none, none]) G d_M_layAll_112 (Nat.le_of_ble_eq_true rfl) (fun _ => rfl) h (fun x30 h => ?_)
          refine zx_aload_n G d_M_layAll_113 rfl ?_
          refine zx_iload_n G d_M_layAll_114 rfl ?_
          obtain ⟨u9, μ31, hc, h⟩ := zbnd_of h
          refine zx_callVV  (μ2 := μ31) G d_M_layAll_115 zm_M_269 (fun l => t_M_thinkNext  hc) rfl rfl (Nat.le_of_ble_eq_true rfl) (Nat.le_of_ble_eq_true rfl) (zrecv zo_12 hl0) ?_
          refine zx_iinc (v := 1) (lf := fun y => [_, _, _, _, some (.int y), none, none]) G d_M_layAll_118 (Nat.le_of_ble_eq_true rfl) rfl rfl (fun _ => rfl) h (fun x32 h => ?_)
          refine zx_goto (tgt := 10) G d_M_layAll_121 rfl ?_
          exact ih10 x30 x32 μ31 h
        try dsimp only at h
        refine zx_if_eq (tgt := 110) G d_M_layAll_103 rfl h (fun h => ?_) (fun h => ?_)
        · refine zx_iconst (v := 0) G d_M_layAll_110 rfl ?_
          refine zx_weak [true, true, true, false, true, false, false] (lv2 := [_, _, _, none, _, none, none]) rfl ?_
          exact hk29 (0 : Int32) μ26 h
        · refine zx_iconst (v := 1) G d_M_layAll_106 rfl ?_
          refine zx_goto (tgt := 111) G d_M_layAll_107 rfl ?_
          refine zx_weak [true, true, true, false, true, false, false] (lv2 := [_, _, _, none, _, none, none]) rfl ?_
          exact hk29 (1 : Int32) μ26 h
set_option maxHeartbeats 4000000 in
set_option maxRecDepth 20000 in
theorem tf_M_layAll_l10 {g : ZG} {E : ZE} {N n10 : Nat} {rr : Int32 × ZMem} {p0 : Int32} {p1 : Int32} {z4 : Int32} {z5 : Int32} {μ6 : ZMem} (G : zGa g K_M_layAll 4 E) (hl0 : (12, 0) ∈ zids) (h : f_M_layAll_l10 N p0 p1 n10 z4 z5 μ6 = some rr) : zX g K_M_layAll 4 E (some (.int rr.1), rr.2) μ6 10 [some (.ref (g.2.1 12 0)), some (.int p0), some (.int p1), some (.int z4), some (.int z5), none, none] [] := tf_M_layAll_l10_0 G hl0 n10 z4 z5 μ6 h
set_option maxHeartbeats 4000000 in
set_option maxRecDepth 20000 in
theorem t_M_layAll {g : ZG} {l : Launch} {N : Nat} {μ : ZMem} {p0 : Int32} {p1 : Int32} {rr : Int32 × ZMem} (h : f_M_layAll N μ p0 p1 = some rr) : zT g l 4 K_M_layAll [.ref (g.2.1 12 0), .int p0, .int p1] μ (some (.int rr.1), rr.2) := by
  refine zT_of (by decide +kernel) (Nat.le_of_ble_eq_true rfl) (fun E G => ?_)
  show zX g K_M_layAll 4 E (some (.int rr.1), rr.2) μ 0 [some (.ref (g.2.1 12 0)), some (.int p0), some (.int p1), none, none, none, none] []
  unfold f_M_layAll at h
  refine zx_iconst (v := 0) G d_M_layAll_0 rfl ?_
  refine zx_istore_n (lf := fun y => [_, _, _, some (.int y), none, none, none]) G d_M_layAll_1 (Nat.le_of_ble_eq_true rfl) (fun _ => rfl) h (fun x1 h => ?_)
  refine zx_aload_n G d_M_layAll_2 rfl ?_
  refine zx_iload_n G d_M_layAll_3 rfl ?_
  obtain ⟨u9, μ2, hc, h⟩ := zbnd_of h
  refine zx_callVV  (μ2 := μ2) G d_M_layAll_4 zm_M_266 (fun l => t_M_thinkFirst  hc) rfl rfl (Nat.le_of_ble_eq_true rfl) (Nat.le_of_ble_eq_true rfl) (zrecv zo_12 (zids_of 12 (Nat.le_of_ble_eq_true rfl) 0 (Nat.le_of_ble_eq_true rfl))) ?_
  refine zx_iconst (v := 0) G d_M_layAll_7 rfl ?_
  refine zx_istore (lf := fun y => [_, _, _, _, some (.int y), none, none]) G d_M_layAll_8 (Nat.le_of_ble_eq_true rfl) (fun _ => rfl) h (fun x3 h => ?_)
  refine tf_M_layAll_l10 G (zids_of 12 (Nat.le_of_ble_eq_true rfl) 0 (Nat.le_of_ble_eq_true rfl)) h
set_option maxHeartbeats 4000000 in
set_option maxRecDepth 20000 in
theorem tf_M_sumOf_l6_0 {g : ZG} {E : ZE} {N : Nat} {rr : Int32 × ZMem} {p0 : Int32} {p1 : Int32} {p2 : Int32} {kx82 : Int64 → ZMem → Option (Int32 × ZMem)} (G : zGa g K_M_sumOf 1 E) (hl0 : (12, 0) ∈ zids) (hkx82 : ∀ (w4 : Int64) (μ : ZMem), kx82 w4 μ = some rr → zX g K_M_sumOf 1 E (some (.int rr.1), rr.2) μ 82 [none, none, none, none, some (.long w4), none, none] []) : ∀ (n6 : Nat) (z3 : Int64) (z4 : Int32) (μ5 : ZMem), f_M_sumOf_l6 N p0 p1 p2 kx82 n6 z3 z4 μ5 = some rr → zX g K_M_sumOf 1 E (some (.int rr.1), rr.2) μ5 6 [some (.ref (g.2.1 12 0)), some (.int p0), some (.int p1), some (.int p2), some (.long z3), none, some (.int z4)] [] := by
  intro n6
  induction n6 with
  | zero => intro z3 z4 μ5 h; cases h
  | succ n6 ih6 =>
    intro z3 z4 μ5 h
    simp only [f_M_sumOf_l6] at h
    refine zx_iload G d_M_sumOf_6 rfl ?_
    refine zx_aload_n G d_M_sumOf_8 rfl ?_
    refine zx_iload_n G d_M_sumOf_9 rfl ?_
    obtain ⟨r7, μ6, hc, h⟩ := zbnd_of h
    refine zx_callVI (r := r7) (μ2 := μ6) G d_M_sumOf_10 zm_M_172 (fun l => t_M_ordersOf  hc) rfl rfl (Nat.le_of_ble_eq_true rfl) (Nat.le_of_ble_eq_true rfl) (zrecv zo_12 hl0) ?_
    refine zx_icmp_ge (tgt := 82) G d_M_sumOf_13 rfl h (fun h => ?_) (fun h => ?_)
    · refine zx_weak [false, false, false, false, true, false, false] (lv2 := [none, none, none, none, _, none, none]) rfl ?_
      exact hkx82 z3 μ6 h
    · refine zx_iload G d_M_sumOf_16 rfl ?_
      refine zx_iload_n G d_M_sumOf_18 rfl ?_
      refine zx_join (P := fun k => ∀ (y8 : Int64) (μ9 : ZMem), k y8 μ9 = some rr → zX g K_M_sumOf 1 E (some (.int rr.1), rr.2) μ9 76 [some (.ref (g.2.1 12 0)), some (.int p0), some (.int p1), some (.int p2), some (.long y8), none, some (.int z4)] []) h (fun y8 μ9 h => ?_) (fun k10 hk10 h => ?_)
      · try dsimp only at h
        refine zx_iinc (v := 1) (lf := fun y => [_, _, _, _, _, none, some (.int y)]) G d_M_sumOf_76 (Nat.le_of_ble_eq_true rfl) rfl rfl (fun _ => rfl) h (fun x11 h => ?_)
        refine zx_goto (tgt := 6) G d_M_sumOf_79 rfl ?_
        exact ih6 y8 x11 μ9 h
      try dsimp only at h
      refine zx_join (P := fun k => ∀ (μ12 : ZMem), k μ12 = some rr → zX g K_M_sumOf 1 E (some (.int rr.1), rr.2) μ12 34 [some (.ref (g.2.1 12 0)), some (.int p0), some (.int p1), some (.int p2), some (.long z3), none, some (.int z4)] []) h (fun μ12 h => ?_) (fun k13 hk13 h => ?_)
      · try dsimp only at h
        refine zx_ldc2 (v := 31) G d_M_sumOf_34 zk_M_288 ?_
        refine zx_lload G d_M_sumOf_37 rfl ?_
        refine zx_lmul G d_M_sumOf_39 ?_
        refine zx_aload_n G d_M_sumOf_40 rfl ?_
        refine zx_getR G d_M_sumOf_41 zf_M_46 zc_12_20 hl0 ?_
        refine zx_bipush (v := 24) G d_M_sumOf_44 rfl ?_
        refine zx_iload_n G d_M_sumOf_46 rfl ?_
        refine zx_imul G d_M_sumOf_47 ?_
        refine zx_iload G d_M_sumOf_48 rfl ?_
        refine zx_iadd G d_M_sumOf_50 ?_
        refine zx_lald G d_M_sumOf_51 za_47 (zi_12_20 hl0) h (fun h => ?_)
        refine zx_ldc2 (v := 7) G d_M_sumOf_52 zk_M_290 ?_
        refine zx_lmul G d_M_sumOf_55 ?_
        refine zx_ladd G d_M_sumOf_56 ?_
        refine zx_aload_n G d_M_sumOf_57 rfl ?_
        refine zx_getR G d_M_sumOf_58 zf_M_49 zc_12_21 hl0 ?_
        refine zx_bipush (v := 24) G d_M_sumOf_61 rfl ?_
        refine zx_iload_n G d_M_sumOf_63 rfl ?_
        refine zx_imul G d_M_sumOf_64 ?_
        refine zx_iload G d_M_sumOf_65 rfl ?_
        refine zx_iadd G d_M_sumOf_67 ?_
        refine zx_lald G d_M_sumOf_68 za_48 (zi_12_21 hl0) h (fun h => ?_)
        refine zx_ladd G d_M_sumOf_69 ?_
        refine zx_ldc2 (v := 1000003) G d_M_sumOf_70 zk_M_292 ?_
        refine zx_lrem G d_M_sumOf_73 h (fun h => ?_)
        refine zx_lstore (lf := fun y => [_, _, _, _, some (.long y), none, _]) G d_M_sumOf_74 (Nat.le_of_ble_eq_true rfl) (fun _ => rfl) h (fun x14 h => ?_)
        exact hk10 x14 μ12 h
      try dsimp only at h
      refine zx_icmp_eq (tgt := 34) G d_M_sumOf_19 rfl h (fun h => ?_) (fun h => ?_)
      · exact hk13 μ6 h
      · refine zx_aload_n G d_M_sumOf_22 rfl ?_
        refine zx_iload_n G d_M_sumOf_23 rfl ?_
        refine zx_iload G d_M_sumOf_24 rfl ?_
        obtain ⟨r16, μ15, hc, h⟩ := zbnd_of h
        refine zx_callVI (r := r16) (μ2 := μ15) G d_M_sumOf_26 zm_M_179 (fun l => t_M_kindOf  hc) rfl rfl (Nat.le_of_ble_eq_true rfl) (Nat.le_of_ble_eq_true rfl) (zrecv zo_12 hl0) ?_
        refine zx_bipush (v := 9) G d_M_sumOf_29 rfl ?_
        refine zx_icmp_ne (tgt := 76) G d_M_sumOf_31 rfl h (fun h => ?_) (fun h => ?_)
        · exact hk10 z3 μ15 h
        · exact hk13 μ15 h
set_option maxHeartbeats 4000000 in
set_option maxRecDepth 20000 in
theorem tf_M_sumOf_l6 {g : ZG} {E : ZE} {N n6 : Nat} {rr : Int32 × ZMem} {p0 : Int32} {p1 : Int32} {p2 : Int32} {kx82 : Int64 → ZMem → Option (Int32 × ZMem)} {z3 : Int64} {z4 : Int32} {μ5 : ZMem} (G : zGa g K_M_sumOf 1 E) (hl0 : (12, 0) ∈ zids) (h : f_M_sumOf_l6 N p0 p1 p2 kx82 n6 z3 z4 μ5 = some rr) (hkx82 : ∀ (w4 : Int64) (μ : ZMem), kx82 w4 μ = some rr → zX g K_M_sumOf 1 E (some (.int rr.1), rr.2) μ 82 [none, none, none, none, some (.long w4), none, none] []) : zX g K_M_sumOf 1 E (some (.int rr.1), rr.2) μ5 6 [some (.ref (g.2.1 12 0)), some (.int p0), some (.int p1), some (.int p2), some (.long z3), none, some (.int z4)] [] := tf_M_sumOf_l6_0 G hl0 hkx82 n6 z3 z4 μ5 h
set_option maxHeartbeats 4000000 in
set_option maxRecDepth 20000 in
theorem t_M_sumOf {g : ZG} {l : Launch} {N : Nat} {μ : ZMem} {p0 : Int32} {p1 : Int32} {p2 : Int32} {rr : Int32 × ZMem} (h : f_M_sumOf N μ p0 p1 p2 = some rr) : zT g l 1 K_M_sumOf [.ref (g.2.1 12 0), .int p0, .int p1, .int p2] μ (some (.int rr.1), rr.2) := by
  refine zT_of (by decide +kernel) (Nat.le_of_ble_eq_true rfl) (fun E G => ?_)
  show zX g K_M_sumOf 1 E (some (.int rr.1), rr.2) μ 0 [some (.ref (g.2.1 12 0)), some (.int p0), some (.int p1), some (.int p2), none, none, none] []
  unfold f_M_sumOf at h
  refine zx_lconst (v := 0) G d_M_sumOf_0 rfl ?_
  refine zx_lstore (lf := fun y => [_, _, _, _, some (.long y), none, none]) G d_M_sumOf_1 (Nat.le_of_ble_eq_true rfl) (fun _ => rfl) h (fun x1 h => ?_)
  refine zx_iconst (v := 0) G d_M_sumOf_3 rfl ?_
  refine zx_istore (lf := fun y => [_, _, _, _, _, none, some (.int y)]) G d_M_sumOf_4 (Nat.le_of_ble_eq_true rfl) (fun _ => rfl) h (fun x2 h => ?_)
  refine tf_M_sumOf_l6 G (zids_of 12 (Nat.le_of_ble_eq_true rfl) 0 (Nat.le_of_ble_eq_true rfl)) h (fun x17 μ18 h => ?_)
  · try dsimp only at h
    refine zx_lload G d_M_sumOf_82 rfl ?_
    refine zx_ldc2 (v := 1000003) G d_M_sumOf_84 zk_M_292 ?_
    refine zx_ladd G d_M_sumOf_87 ?_
    refine zx_ldc2 (v := 1024) G d_M_sumOf_88 zk_M_294 ?_
    refine zx_lrem G d_M_sumOf_91 h (fun h => ?_)
    refine zx_l2i G d_M_sumOf_92 ?_
    exact zx_iret G d_M_sumOf_93 rfl h
set_option maxHeartbeats 4000000 in
set_option maxRecDepth 20000 in
theorem tf_M_isAlike_l3_0 {g : ZG} {E : ZE} {N : Nat} {rr : Int32 × ZMem} {p0 : Int32} {p1 : Int32} {p2 : Int32} {p3 : Int32} (G : zGa g K_M_isAlike 1 E) (hl0 : (12, 0) ∈ zids) : ∀ (n3 : Nat) (z2 : Int32) (μ3 : ZMem), f_M_isAlike_l3 N p0 p1 p2 p3 n3 z2 μ3 = some rr → zX g K_M_isAlike 1 E (some (.int rr.1), rr.2) μ3 3 [some (.ref (g.2.1 12 0)), some (.int p0), some (.int p1), some (.int p2), some (.int p3), some (.int z2)] [] := by
  intro n3
  induction n3 with
  | zero => intro z2 μ3 h; cases h
  | succ n3 ih3 =>
    intro z2 μ3 h
    simp only [f_M_isAlike_l3] at h
    refine zx_iload G d_M_isAlike_3 rfl ?_
    refine zx_aload_n G d_M_isAlike_5 rfl ?_
    refine zx_iload_n G d_M_isAlike_6 rfl ?_
    obtain ⟨r5, μ4, hc, h⟩ := zbnd_of h
    refine zx_callVI (r := r5) (μ2 := μ4) G d_M_isAlike_7 zm_M_172 (fun l => t_M_ordersOf  hc) rfl rfl (Nat.le_of_ble_eq_true rfl) (Nat.le_of_ble_eq_true rfl) (zrecv zo_12 hl0) ?_
    refine zx_icmp_ge (tgt := 99) G d_M_isAlike_10 rfl h (fun h => ?_) (fun h => ?_)
    · refine zx_iconst (v := 1) G d_M_isAlike_99 rfl ?_
      exact zx_zretK G d_M_isAlike_100 rfl (by decide) h
    · refine zx_iload G d_M_isAlike_13 rfl ?_
      refine zx_iload G d_M_isAlike_15 rfl ?_
      refine zx_join (P := fun k => ∀ (μ6 : ZMem), k μ6 = some rr → zX g K_M_isAlike 1 E (some (.int rr.1), rr.2) μ6 93 [some (.ref (g.2.1 12 0)), some (.int p0), some (.int p1), some (.int p2), some (.int p3), some (.int z2)] []) h (fun μ6 h => ?_) (fun k7 hk7 h => ?_)
      · try dsimp only at h
        refine zx_iinc (v := 1) (lf := fun y => [_, _, _, _, _, some (.int y)]) G d_M_isAlike_93 (Nat.le_of_ble_eq_true rfl) rfl rfl (fun _ => rfl) h (fun x8 h => ?_)
        refine zx_goto (tgt := 3) G d_M_isAlike_96 rfl ?_
        exact ih3 x8 μ6 h
      try dsimp only at h
      refine zx_join (P := fun k => ∀ (μ9 : ZMem), k μ9 = some rr → zX g K_M_isAlike 1 E (some (.int rr.1), rr.2) μ9 35 [some (.ref (g.2.1 12 0)), some (.int p0), some (.int p1), some (.int p2), some (.int p3), some (.int z2)] []) h (fun μ9 h => ?_) (fun k10 hk10 h => ?_)
      · try dsimp only at h
        refine zx_aload_n G d_M_isAlike_35 rfl ?_
        refine zx_getR G d_M_isAlike_36 zf_M_46 zc_12_20 hl0 ?_
        refine zx_bipush (v := 24) G d_M_isAlike_39 rfl ?_
        refine zx_iload_n G d_M_isAlike_41 rfl ?_
        refine zx_imul G d_M_isAlike_42 ?_
        refine zx_iload G d_M_isAlike_43 rfl ?_
        refine zx_iadd G d_M_isAlike_45 ?_
        refine zx_lald G d_M_isAlike_46 za_47 (zi_12_20 hl0) h (fun h => ?_)
        refine zx_aload_n G d_M_isAlike_47 rfl ?_
        refine zx_getR G d_M_isAlike_48 zf_M_46 zc_12_20 hl0 ?_
        refine zx_bipush (v := 24) G d_M_isAlike_51 rfl ?_
        refine zx_iload_n G d_M_isAlike_53 rfl ?_
        refine zx_imul G d_M_isAlike_54 ?_
        refine zx_iload G d_M_isAlike_55 rfl ?_
        refine zx_iadd G d_M_isAlike_57 ?_
        refine zx_lald G d_M_isAlike_58 za_47 (zi_12_20 hl0) h (fun h => ?_)
        refine zx_lcmp G d_M_isAlike_59 ?_
        refine zx_if_ne (tgt := 91) G d_M_isAlike_60 rfl h (fun h => ?_) (fun h => ?_)
        · refine zx_iconst (v := 0) G d_M_isAlike_91 rfl ?_
          exact zx_zretK G d_M_isAlike_92 rfl (by decide) h
        · refine zx_aload_n G d_M_isAlike_63 rfl ?_
          refine zx_getR G d_M_isAlike_64 zf_M_49 zc_12_21 hl0 ?_
          refine zx_bipush (v := 24) G d_M_isAlike_67 rfl ?_
          refine zx_iload_n G d_M_isAlike_69 rfl ?_
          refine zx_imul G d_M_isAlike_70 ?_
          refine zx_iload G d_M_isAlike_71 rfl ?_
          refine zx_iadd G d_M_isAlike_73 ?_
          refine zx_lald G d_M_isAlike_74 za_48 (zi_12_21 hl0) h (fun h => ?_)
          refine zx_aload_n G d_M_isAlike_75 rfl ?_
          refine zx_getR G d_M_isAlike_76 zf_M_49 zc_12_21 hl0 ?_
          refine zx_bipush (v := 24) G d_M_isAlike_79 rfl ?_
          refine zx_iload_n G d_M_isAlike_81 rfl ?_
          refine zx_imul G d_M_isAlike_82 ?_
          refine zx_iload G d_M_isAlike_83 rfl ?_
          refine zx_iadd G d_M_isAlike_85 ?_
          refine zx_lald G d_M_isAlike_86 za_48 (zi_12_21 hl0) h (fun h => ?_)
          refine zx_lcmp G d_M_isAlike_87 ?_
          refine zx_if_eq (tgt := 93) G d_M_isAlike_88 rfl h (fun h => ?_) (fun h => ?_)
          · exact hk7 μ9 h
          · refine zx_iconst (v := 0) G d_M_isAlike_91 rfl ?_
            exact zx_zretK G d_M_isAlike_92 rfl (by decide) h
      try dsimp only at h
      refine zx_icmp_eq (tgt := 35) G d_M_isAlike_17 rfl h (fun h => ?_) (fun h => ?_)
      · exact hk10 μ4 h
      · refine zx_aload_n G d_M_isAlike_20 rfl ?_
        refine zx_iload_n G d_M_isAlike_21 rfl ?_
        refine zx_iload G d_M_isAlike_22 rfl ?_
        obtain ⟨r12, μ11, hc, h⟩ := zbnd_of h
        refine zx_callVI (r := r12) (μ2 := μ11) G d_M_isAlike_24 zm_M_179 (fun l => t_M_kindOf  hc) rfl rfl (Nat.le_of_ble_eq_true rfl) (Nat.le_of_ble_eq_true rfl) (zrecv zo_12 hl0) ?_
        refine zx_bipush (v := 9) G d_M_isAlike_27 rfl ?_
        refine zx_icmp_eq (tgt := 35) G d_M_isAlike_29 rfl h (fun h => ?_) (fun h => ?_)
        · exact hk10 μ11 h
        · refine zx_goto (tgt := 93) G d_M_isAlike_32 rfl ?_
          exact hk7 μ11 h
set_option maxHeartbeats 4000000 in
set_option maxRecDepth 20000 in
theorem tf_M_isAlike_l3 {g : ZG} {E : ZE} {N n3 : Nat} {rr : Int32 × ZMem} {p0 : Int32} {p1 : Int32} {p2 : Int32} {p3 : Int32} {z2 : Int32} {μ3 : ZMem} (G : zGa g K_M_isAlike 1 E) (hl0 : (12, 0) ∈ zids) (h : f_M_isAlike_l3 N p0 p1 p2 p3 n3 z2 μ3 = some rr) : zX g K_M_isAlike 1 E (some (.int rr.1), rr.2) μ3 3 [some (.ref (g.2.1 12 0)), some (.int p0), some (.int p1), some (.int p2), some (.int p3), some (.int z2)] [] := tf_M_isAlike_l3_0 G hl0 n3 z2 μ3 h
set_option maxHeartbeats 4000000 in
set_option maxRecDepth 20000 in
theorem t_M_isAlike {g : ZG} {l : Launch} {N : Nat} {μ : ZMem} {p0 : Int32} {p1 : Int32} {p2 : Int32} {p3 : Int32} {rr : Int32 × ZMem} (h : f_M_isAlike N μ p0 p1 p2 p3 = some rr) : zT g l 1 K_M_isAlike [.ref (g.2.1 12 0), .int p0, .int p1, .int p2, .int p3] μ (some (.int rr.1), rr.2) := by
  refine zT_of (by decide +kernel) (Nat.le_of_ble_eq_true rfl) (fun E G => ?_)
  show zX g K_M_isAlike 1 E (some (.int rr.1), rr.2) μ 0 [some (.ref (g.2.1 12 0)), some (.int p0), some (.int p1), some (.int p2), some (.int p3), none] []
  unfold f_M_isAlike at h
  refine zx_iconst (v := 0) G d_M_isAlike_0 rfl ?_
  refine zx_istore (lf := fun y => [_, _, _, _, _, some (.int y)]) G d_M_isAlike_1 (Nat.le_of_ble_eq_true rfl) (fun _ => rfl) h (fun x1 h => ?_)
  refine tf_M_isAlike_l3 G (zids_of 12 (Nat.le_of_ble_eq_true rfl) 0 (Nat.le_of_ble_eq_true rfl)) h
set_option maxHeartbeats 4000000 in
set_option maxRecDepth 20000 in
theorem tf_M_areUnlike_l3_0 {g : ZG} {E : ZE} {N : Nat} {rr : Int32 × ZMem} {p0 : Int32} {p1 : Int32} {p2 : Int32} {kx25 : ZMem → Option (Int32 × ZMem)} (G : zGa g K_M_areUnlike 2 E) (hl0 : (12, 0) ∈ zids) (hkx25 : ∀  (μ : ZMem), kx25 μ = some rr → zX g K_M_areUnlike 2 E (some (.int rr.1), rr.2) μ 25 [some (.ref (g.2.1 12 0)), some (.int p0), some (.int p1), some (.int p2), none, none, none] []) : ∀ (n3 : Nat) (z2 : Int32) (μ3 : ZMem), f_M_areUnlike_l3 N p0 p1 p2 kx25 n3 z2 μ3 = some rr → zX g K_M_areUnlike 2 E (some (.int rr.1), rr.2) μ3 3 [some (.ref (g.2.1 12 0)), some (.int p0), some (.int p1), some (.int p2), some (.int z2), none, none] [] := by
  intro n3
  induction n3 with
  | zero => intro z2 μ3 h; cases h
  | succ n3 ih3 =>
    intro z2 μ3 h
    simp only [f_M_areUnlike_l3] at h
    refine zx_iload G d_M_areUnlike_3 rfl ?_
    refine zx_sipush (v := 1024) G d_M_areUnlike_5 rfl ?_
    refine zx_icmp_ge (tgt := 25) G d_M_areUnlike_8 rfl h (fun h => ?_) (fun h => ?_)
    · refine zx_weak [true, true, true, true, false, false, false] (lv2 := [_, _, _, _, none, none, none]) rfl ?_
      exact hkx25 μ3 h
    · refine zx_aload_n G d_M_areUnlike_11 rfl ?_
      refine zx_getR G d_M_areUnlike_12 zf_M_55 zc_12_23 hl0 ?_
      refine zx_iload G d_M_areUnlike_15 rfl ?_
      refine zx_iconst (v := -1) G d_M_areUnlike_17 rfl ?_
      refine zx_iast G d_M_areUnlike_18 za_50 (zi_12_23 hl0) h (fun μ4 h => ?_)
      refine zx_iinc (v := 1) (lf := fun y => [_, _, _, _, some (.int y), none, none]) G d_M_areUnlike_19 (Nat.le_of_ble_eq_true rfl) rfl rfl (fun _ => rfl) h (fun x5 h => ?_)
      refine zx_goto (tgt := 3) G d_M_areUnlike_22 rfl ?_
      exact ih3 x5 μ4 h
set_option maxHeartbeats 4000000 in
set_option maxRecDepth 20000 in
theorem tf_M_areUnlike_l3 {g : ZG} {E : ZE} {N n3 : Nat} {rr : Int32 × ZMem} {p0 : Int32} {p1 : Int32} {p2 : Int32} {kx25 : ZMem → Option (Int32 × ZMem)} {z2 : Int32} {μ3 : ZMem} (G : zGa g K_M_areUnlike 2 E) (hl0 : (12, 0) ∈ zids) (h : f_M_areUnlike_l3 N p0 p1 p2 kx25 n3 z2 μ3 = some rr) (hkx25 : ∀  (μ : ZMem), kx25 μ = some rr → zX g K_M_areUnlike 2 E (some (.int rr.1), rr.2) μ 25 [some (.ref (g.2.1 12 0)), some (.int p0), some (.int p1), some (.int p2), none, none, none] []) : zX g K_M_areUnlike 2 E (some (.int rr.1), rr.2) μ3 3 [some (.ref (g.2.1 12 0)), some (.int p0), some (.int p1), some (.int p2), some (.int z2), none, none] [] := tf_M_areUnlike_l3_0 G hl0 hkx25 n3 z2 μ3 h
set_option maxHeartbeats 4000000 in
set_option maxRecDepth 20000 in
theorem tf_M_areUnlike_l53_0 {g : ZG} {E : ZE} {N : Nat} {rr : Int32 × ZMem} {p0 : Int32} {p1 : Int32} {p2 : Int32} {z8 : Int32} {x12 : Int32} {kx85 : ZMem → Option (Int32 × ZMem)} (G : zGa g K_M_areUnlike 2 E) (hl0 : (12, 0) ∈ zids) (hkx85 : ∀  (μ : ZMem), kx85 μ = some rr → zX g K_M_areUnlike 2 E (some (.int rr.1), rr.2) μ 85 [some (.ref (g.2.1 12 0)), some (.int p0), some (.int p1), some (.int p2), some (.int z8), some (.int x12), none] []) : ∀ (n53 : Nat) (z14 : Int32) (μ15 : ZMem), f_M_areUnlike_l53 N p0 p1 p2 z8 x12 kx85 n53 z14 μ15 = some rr → zX g K_M_areUnlike 2 E (some (.int rr.1), rr.2) μ15 53 [some (.ref (g.2.1 12 0)), some (.int p0), some (.int p1), some (.int p2), some (.int z8), some (.int x12), some (.int z14)] [] := by
  intro n53
  induction n53 with
  | zero => intro z14 μ15 h; cases h
  | succ n53 ih53 =>
    intro z14 μ15 h
    simp only [f_M_areUnlike_l53] at h
    refine zx_iload G d_M_areUnlike_53 rfl ?_
    refine zx_if_lt (tgt := 85) G d_M_areUnlike_55 rfl h (fun h => ?_) (fun h => ?_)
    · refine zx_weak [true, true, true, true, true, true, false] (lv2 := [_, _, _, _, _, _, none]) rfl ?_
      exact hkx85 μ15 h
    · refine zx_aload_n G d_M_areUnlike_58 rfl ?_
      refine zx_iload_n G d_M_areUnlike_59 rfl ?_
      refine zx_iload G d_M_areUnlike_60 rfl ?_
      refine zx_iload G d_M_areUnlike_62 rfl ?_
      refine zx_iload_n G d_M_areUnlike_64 rfl ?_
      obtain ⟨r17, μ16, hc, h⟩ := zbnd_of h
      refine zx_callVI (r := r17) (μ2 := μ16) G d_M_areUnlike_65 zm_M_299 (fun l => t_M_isAlike  hc) rfl rfl (Nat.le_of_ble_eq_true rfl) (Nat.le_of_ble_eq_true rfl) (zrecv zo_12 hl0) ?_
      refine zx_if_eq (tgt := 73) G d_M_areUnlike_68 rfl h (fun h => ?_) (fun h => ?_)
      · refine zx_aload_n G d_M_areUnlike_73 rfl ?_
        refine zx_getR G d_M_areUnlike_74 zf_M_52 zc_12_22 hl0 ?_
        refine zx_iload G d_M_areUnlike_77 rfl ?_
        refine zx_iald G d_M_areUnlike_79 za_49 (zi_12_22 hl0) h (fun h => ?_)
        refine zx_istore (lf := fun y => [_, _, _, _, _, _, some (.int y)]) G d_M_areUnlike_80 (Nat.le_of_ble_eq_true rfl) (fun _ => rfl) h (fun x18 h => ?_)
        refine zx_goto (tgt := 53) G d_M_areUnlike_82 rfl ?_
        exact ih53 x18 μ16 h
      · refine zx_iconst (v := 0) G d_M_areUnlike_71 rfl ?_
        exact zx_zretK G d_M_areUnlike_72 rfl (by decide) h
set_option maxHeartbeats 4000000 in
set_option maxRecDepth 20000 in
theorem tf_M_areUnlike_l53 {g : ZG} {E : ZE} {N n53 : Nat} {rr : Int32 × ZMem} {p0 : Int32} {p1 : Int32} {p2 : Int32} {z8 : Int32} {x12 : Int32} {kx85 : ZMem → Option (Int32 × ZMem)} {z14 : Int32} {μ15 : ZMem} (G : zGa g K_M_areUnlike 2 E) (hl0 : (12, 0) ∈ zids) (h : f_M_areUnlike_l53 N p0 p1 p2 z8 x12 kx85 n53 z14 μ15 = some rr) (hkx85 : ∀  (μ : ZMem), kx85 μ = some rr → zX g K_M_areUnlike 2 E (some (.int rr.1), rr.2) μ 85 [some (.ref (g.2.1 12 0)), some (.int p0), some (.int p1), some (.int p2), some (.int z8), some (.int x12), none] []) : zX g K_M_areUnlike 2 E (some (.int rr.1), rr.2) μ15 53 [some (.ref (g.2.1 12 0)), some (.int p0), some (.int p1), some (.int p2), some (.int z8), some (.int x12), some (.int z14)] [] := tf_M_areUnlike_l53_0 G hl0 hkx85 n53 z14 μ15 h
set_option maxHeartbeats 4000000 in
set_option maxRecDepth 20000 in
theorem tf_M_areUnlike_l28_0 {g : ZG} {E : ZE} {N : Nat} {rr : Int32 × ZMem} {p0 : Int32} {p1 : Int32} {p2 : Int32} (G : zGa g K_M_areUnlike 2 E) (hl0 : (12, 0) ∈ zids) : ∀ (n28 : Nat) (z8 : Int32) (μ9 : ZMem), f_M_areUnlike_l28 N p0 p1 p2 n28 z8 μ9 = some rr → zX g K_M_areUnlike 2 E (some (.int rr.1), rr.2) μ9 28 [some (.ref (g.2.1 12 0)), some (.int p0), some (.int p1), some (.int p2), some (.int z8), none, none] [] := by
  intro n28
  induction n28 with
  | zero => intro z8 μ9 h; cases h
  | succ n28 ih28 =>
    intro z8 μ9 h
    simp only [f_M_areUnlike_l28] at h
    refine zx_iload G d_M_areUnlike_28 rfl ?_
    refine zx_iload_n G d_M_areUnlike_30 rfl ?_
    refine zx_icmp_ge (tgt := 114) G d_M_areUnlike_31 rfl h (fun h => ?_) (fun h => ?_)
    · refine zx_iconst (v := 1) G d_M_areUnlike_114 rfl ?_
      exact zx_zretK G d_M_areUnlike_115 rfl (by decide) h
    · refine zx_aload_n G d_M_areUnlike_34 rfl ?_
      refine zx_iload_n G d_M_areUnlike_35 rfl ?_
      refine zx_iload G d_M_areUnlike_36 rfl ?_
      refine zx_iload_n G d_M_areUnlike_38 rfl ?_
      obtain ⟨r11, μ10, hc, h⟩ := zbnd_of h
      refine zx_callVI (r := r11) (μ2 := μ10) G d_M_areUnlike_39 zm_M_296 (fun l => t_M_sumOf  hc) rfl rfl (Nat.le_of_ble_eq_true rfl) (Nat.le_of_ble_eq_true rfl) (zrecv zo_12 hl0) ?_
      refine zx_istore (lf := fun y => [_, _, _, _, _, some (.int y), none]) G d_M_areUnlike_42 (Nat.le_of_ble_eq_true rfl) (fun _ => rfl) h (fun x12 h => ?_)
      refine zx_aload_n G d_M_areUnlike_44 rfl ?_
      refine zx_getR G d_M_areUnlike_45 zf_M_55 zc_12_23 hl0 ?_
      refine zx_iload G d_M_areUnlike_48 rfl ?_
      refine zx_iald G d_M_areUnlike_50 za_50 (zi_12_23 hl0) h (fun h => ?_)
      refine zx_istore (lf := fun y => [_, _, _, _, _, _, some (.int y)]) G d_M_areUnlike_51 (Nat.le_of_ble_eq_true rfl) (fun _ => rfl) h (fun x13 h => ?_)
      refine tf_M_areUnlike_l53 G hl0 h (fun μ19 h => ?_)
      · try dsimp only at h
        refine zx_aload_n G d_M_areUnlike_85 rfl ?_
        refine zx_getR G d_M_areUnlike_86 zf_M_52 zc_12_22 hl0 ?_
        refine zx_iload G d_M_areUnlike_89 rfl ?_
        refine zx_aload_n G d_M_areUnlike_91 rfl ?_
        refine zx_getR G d_M_areUnlike_92 zf_M_55 zc_12_23 hl0 ?_
        refine zx_iload G d_M_areUnlike_95 rfl ?_
        refine zx_iald G d_M_areUnlike_97 za_50 (zi_12_23 hl0) h (fun h => ?_)
        refine zx_iast G d_M_areUnlike_98 za_49 (zi_12_22 hl0) h (fun μ20 h => ?_)
        refine zx_aload_n G d_M_areUnlike_99 rfl ?_
        refine zx_getR G d_M_areUnlike_100 zf_M_55 zc_12_23 hl0 ?_
        refine zx_iload G d_M_areUnlike_103 rfl ?_
        refine zx_iload G d_M_areUnlike_105 rfl ?_
        refine zx_iast G d_M_areUnlike_107 za_50 (zi_12_23 hl0) h (fun μ21 h => ?_)
        refine zx_iinc (v := 1) (lf := fun y => [_, _, _, _, some (.int y), _, none]) G d_M_areUnlike_108 (Nat.le_of_ble_eq_true rfl) rfl rfl (fun _ => rfl) h (fun x22 h => ?_)
        refine zx_goto (tgt := 28) G d_M_areUnlike_111 rfl ?_
        refine zx_weak [true, true, true, true, true, false, false] (lv2 := [_, _, _, _, _, none, none]) rfl ?_
        exact ih28 x22 μ21 h
set_option maxHeartbeats 4000000 in
set_option maxRecDepth 20000 in
theorem tf_M_areUnlike_l28 {g : ZG} {E : ZE} {N n28 : Nat} {rr : Int32 × ZMem} {p0 : Int32} {p1 : Int32} {p2 : Int32} {z8 : Int32} {μ9 : ZMem} (G : zGa g K_M_areUnlike 2 E) (hl0 : (12, 0) ∈ zids) (h : f_M_areUnlike_l28 N p0 p1 p2 n28 z8 μ9 = some rr) : zX g K_M_areUnlike 2 E (some (.int rr.1), rr.2) μ9 28 [some (.ref (g.2.1 12 0)), some (.int p0), some (.int p1), some (.int p2), some (.int z8), none, none] [] := tf_M_areUnlike_l28_0 G hl0 n28 z8 μ9 h
set_option maxHeartbeats 4000000 in
set_option maxRecDepth 20000 in
theorem t_M_areUnlike {g : ZG} {l : Launch} {N : Nat} {μ : ZMem} {p0 : Int32} {p1 : Int32} {p2 : Int32} {rr : Int32 × ZMem} (h : f_M_areUnlike N μ p0 p1 p2 = some rr) : zT g l 2 K_M_areUnlike [.ref (g.2.1 12 0), .int p0, .int p1, .int p2] μ (some (.int rr.1), rr.2) := by
  refine zT_of (by decide +kernel) (Nat.le_of_ble_eq_true rfl) (fun E G => ?_)
  show zX g K_M_areUnlike 2 E (some (.int rr.1), rr.2) μ 0 [some (.ref (g.2.1 12 0)), some (.int p0), some (.int p1), some (.int p2), none, none, none] []
  unfold f_M_areUnlike at h
  refine zx_iconst (v := 0) G d_M_areUnlike_0 rfl ?_
  refine zx_istore (lf := fun y => [_, _, _, _, some (.int y), none, none]) G d_M_areUnlike_1 (Nat.le_of_ble_eq_true rfl) (fun _ => rfl) h (fun x1 h => ?_)
  refine tf_M_areUnlike_l3 G (zids_of 12 (Nat.le_of_ble_eq_true rfl) 0 (Nat.le_of_ble_eq_true rfl)) h (fun μ6 h => ?_)
  · try dsimp only at h
    refine zx_iconst (v := 0) G d_M_areUnlike_25 rfl ?_
    refine zx_istore (lf := fun y => [_, _, _, _, some (.int y), none, none]) G d_M_areUnlike_26 (Nat.le_of_ble_eq_true rfl) (fun _ => rfl) h (fun x7 h => ?_)
    refine tf_M_areUnlike_l28 G (zids_of 12 (Nat.le_of_ble_eq_true rfl) 0 (Nat.le_of_ble_eq_true rfl)) h
set_option maxHeartbeats 4000000 in
set_option maxRecDepth 20000 in
theorem tf_M_more_l36_0 {g : ZG} {E : ZE} {N : Nat} {rr : Int32 × ZMem} {p0 : Int32} {x8 : Int32} (G : zGa g K_M_more 5 E) (hl0 : (12, 0) ∈ zids) : ∀ (n36 : Nat) (z10 : Int32) (μ11 : ZMem), f_M_more_l36 N p0 x8 n36 z10 μ11 = some rr → zX g K_M_more 5 E (some (.int rr.1), rr.2) μ11 36 [some (.ref (g.2.1 12 0)), some (.int p0), none, some (.int x8), some (.int z10)] [] := by
  intro n36
  induction n36 with
  | zero => intro z10 μ11 h; cases h
  | succ n36 ih36 =>
    intro z10 μ11 h
    simp only [f_M_more_l36] at h
    refine zx_iload G d_M_more_36 rfl ?_
    refine zx_aload_n G d_M_more_38 rfl ?_
    refine zx_iload_n G d_M_more_39 rfl ?_
    obtain ⟨r13, μ12, hc, h⟩ := zbnd_of h
    refine zx_callVI (r := r13) (μ2 := μ12) G d_M_more_40 zm_M_172 (fun l => t_M_ordersOf  hc) rfl rfl (Nat.le_of_ble_eq_true rfl) (Nat.le_of_ble_eq_true rfl) (zrecv zo_12 hl0) ?_
    refine zx_icmp_ge (tgt := 66) G d_M_more_43 rfl h (fun h => ?_) (fun h => ?_)
    · refine zx_iconst (v := -1) G d_M_more_66 rfl ?_
      exact zx_iret G d_M_more_67 rfl h
    · refine zx_aload_n G d_M_more_46 rfl ?_
      refine zx_iload_n G d_M_more_47 rfl ?_
      refine zx_iload_n G d_M_more_48 rfl ?_
      refine zx_iload G d_M_more_49 rfl ?_
      obtain ⟨r15, μ14, hc, h⟩ := zbnd_of h
      refine zx_callVI (r := r15) (μ2 := μ14) G d_M_more_51 zm_M_306 (fun l => t_M_areUnlike  hc) rfl rfl (Nat.le_of_ble_eq_true rfl) (Nat.le_of_ble_eq_true rfl) (zrecv zo_12 hl0) ?_
      refine zx_if_eq (tgt := 60) G d_M_more_54 rfl h (fun h => ?_) (fun h => ?_)
      · refine zx_iinc (v := 1) (lf := fun y => [_, _, none, _, some (.int y)]) G d_M_more_60 (Nat.le_of_ble_eq_true rfl) rfl rfl (fun _ => rfl) h (fun x16 h => ?_)
        refine zx_goto (tgt := 36) G d_M_more_63 rfl ?_
        exact ih36 x16 μ14 h
      · refine zx_iload G d_M_more_57 rfl ?_
        exact zx_iret G d_M_more_59 rfl h
set_option maxHeartbeats 4000000 in
set_option maxRecDepth 20000 in
theorem tf_M_more_l36 {g : ZG} {E : ZE} {N n36 : Nat} {rr : Int32 × ZMem} {p0 : Int32} {x8 : Int32} {z10 : Int32} {μ11 : ZMem} (G : zGa g K_M_more 5 E) (hl0 : (12, 0) ∈ zids) (h : f_M_more_l36 N p0 x8 n36 z10 μ11 = some rr) : zX g K_M_more 5 E (some (.int rr.1), rr.2) μ11 36 [some (.ref (g.2.1 12 0)), some (.int p0), none, some (.int x8), some (.int z10)] [] := tf_M_more_l36_0 G hl0 n36 z10 μ11 h
set_option maxHeartbeats 4000000 in
set_option maxRecDepth 20000 in
theorem t_M_more {g : ZG} {l : Launch} {N : Nat} {μ : ZMem} {p0 : Int32} {rr : Int32 × ZMem} (h : f_M_more N μ p0 = some rr) : zT g l 5 K_M_more [.ref (g.2.1 12 0), .int p0] μ (some (.int rr.1), rr.2) := by
  refine zT_of (by decide +kernel) (Nat.le_of_ble_eq_true rfl) (fun E G => ?_)
  show zX g K_M_more 5 E (some (.int rr.1), rr.2) μ 0 [some (.ref (g.2.1 12 0)), some (.int p0), none, none, none] []
  unfold f_M_more at h
  refine zx_aload_n G d_M_more_0 rfl ?_
  refine zx_iload_n G d_M_more_1 rfl ?_
  obtain ⟨r2, μ1, hc, h⟩ := zbnd_of h
  refine zx_callVI (r := r2) (μ2 := μ1) G d_M_more_2 zm_M_169 (fun l => t_M_isTable  hc) rfl rfl (Nat.le_of_ble_eq_true rfl) (Nat.le_of_ble_eq_true rfl) (zrecv zo_12 (zids_of 12 (Nat.le_of_ble_eq_true rfl) 0 (Nat.le_of_ble_eq_true rfl))) ?_
  refine zx_if_ne (tgt := 10) G d_M_more_5 rfl h (fun h => ?_) (fun h => ?_)
  · refine zx_aload_n G d_M_more_10 rfl ?_
    refine zx_iload_n G d_M_more_11 rfl ?_
    obtain ⟨r4, μ3, hc, h⟩ := zbnd_of h
    refine zx_callVI (r := r4) (μ2 := μ3) G d_M_more_12 zm_M_263 (fun l => t_M_allOf  hc) rfl rfl (Nat.le_of_ble_eq_true rfl) (Nat.le_of_ble_eq_true rfl) (zrecv zo_12 (zids_of 12 (Nat.le_of_ble_eq_true rfl) 0 (Nat.le_of_ble_eq_true rfl))) ?_
    refine zx_istore_n (lf := fun y => [_, _, some (.int y), none, none]) G d_M_more_15 (Nat.le_of_ble_eq_true rfl) (fun _ => rfl) h (fun x5 h => ?_)
    refine zx_iload_n G d_M_more_16 rfl ?_
    refine zx_sipush (v := 500) G d_M_more_17 rfl ?_
    refine zx_icmp_le (tgt := 26) G d_M_more_20 rfl h (fun h => ?_) (fun h => ?_)
    · refine zx_aload_n G d_M_more_26 rfl ?_
      refine zx_iload_n G d_M_more_27 rfl ?_
      refine zx_iload_n G d_M_more_28 rfl ?_
      obtain ⟨r7, μ6, hc, h⟩ := zbnd_of h
      refine zx_callVI (r := r7) (μ2 := μ6) G d_M_more_29 zm_M_303 (fun l => t_M_layAll  hc) rfl rfl (Nat.le_of_ble_eq_true rfl) (Nat.le_of_ble_eq_true rfl) (zrecv zo_12 (zids_of 12 (Nat.le_of_ble_eq_true rfl) 0 (Nat.le_of_ble_eq_true rfl))) ?_
      refine zx_istore_n (lf := fun y => [_, _, _, some (.int y), none]) G d_M_more_32 (Nat.le_of_ble_eq_true rfl) (fun _ => rfl) h (fun x8 h => ?_)
      refine zx_iconst (v := 0) G d_M_more_33 rfl ?_
      refine zx_istore (lf := fun y => [_, _, _, _, some (.int y)]) G d_M_more_34 (Nat.le_of_ble_eq_true rfl) (fun _ => rfl) h (fun x9 h => ?_)
      refine zx_weak [true, true, false, true, true] (lv2 := [_, _, none, _, _]) rfl ?_
      refine tf_M_more_l36 G (zids_of 12 (Nat.le_of_ble_eq_true rfl) 0 (Nat.le_of_ble_eq_true rfl)) h
    · refine zx_bipush (v := -2) G d_M_more_23 rfl ?_
      exact zx_iret G d_M_more_25 rfl h
  · refine zx_iconst (v := -1) G d_M_more_8 rfl ?_
    exact zx_iret G d_M_more_9 rfl h
set_option maxHeartbeats 4000000 in
set_option maxRecDepth 20000 in
theorem t_M_kit {g : ZG} {l : Launch} {N : Nat} {μ : ZMem} {p0 : Int32} {p1 : Int32} {rr : Int32 × ZMem} (h : f_M_kit N μ p0 p1 = some rr) : zT g l 1 K_M_kit [.ref (g.2.1 12 0), .int p0, .int p1] μ (some (.int rr.1), rr.2) := by
  refine zT_of (by decide +kernel) (Nat.le_of_ble_eq_true rfl) (fun E G => ?_)
  show zX g K_M_kit 1 E (some (.int rr.1), rr.2) μ 0 [some (.ref (g.2.1 12 0)), some (.int p0), some (.int p1), none] []
  unfold f_M_kit at h
  refine zx_iload_n G d_M_kit_0 rfl ?_
  refine zx_iconst (v := -1) G d_M_kit_1 rfl ?_
  refine zx_icmp_ne (tgt := 15) G d_M_kit_2 rfl h (fun h => ?_) (fun h => ?_)
  · refine zx_iload_n G d_M_kit_15 rfl ?_
    refine zx_bipush (v := 6) G d_M_kit_16 rfl ?_
    refine zx_join (P := fun k => ∀ (y1 : Int32) (μ2 : ZMem), k y1 μ2 = some rr → zX g K_M_kit 1 E (some (.int rr.1), rr.2) μ2 32 [some (.ref (g.2.1 12 0)), some (.int p0), some (.int p1), none] [.int y1]) h (fun y1 μ2 h => ?_) (fun k3 hk3 h => ?_)
    · try dsimp only at h
      refine zx_istore_n (lf := fun y => [_, _, _, some (.int y)]) G d_M_kit_32 (Nat.le_of_ble_eq_true rfl) (fun _ => rfl) h (fun x4 h => ?_)
      refine zx_iload_n G d_M_kit_33 rfl ?_
      refine zx_iconst (v := 0) G d_M_kit_34 rfl ?_
      refine zx_bipush (v := 7) G d_M_kit_35 rfl ?_
      obtain ⟨r6, μ5, hc, h⟩ := zbnd_of h
      refine zx_callSI (r := r6) (μ2 := μ5) G d_M_kit_37 zm_M_68 (fun l => t_M_isIn  hc) rfl rfl (Nat.le_of_ble_eq_true rfl) (Nat.le_of_ble_eq_true rfl) ?_
      refine zx_if_eq (tgt := 70) G d_M_kit_40 rfl h (fun h => ?_) (fun h => ?_)
      · refine zx_iconst (v := -1) G d_M_kit_70 rfl ?_
        exact zx_iret G d_M_kit_71 rfl h
      · refine zx_iload_n G d_M_kit_43 rfl ?_
        refine zx_join (P := fun k => ∀ (μ7 : ZMem), k μ7 = some rr → zX g K_M_kit 1 E (some (.int rr.1), rr.2) μ7 58 [some (.ref (g.2.1 12 0)), some (.int p0), some (.int p1), some (.int x4)] []) h (fun μ7 h => ?_) (fun k8 hk8 h => ?_)
        · try dsimp only at h
          refine zx_aload_n G d_M_kit_58 rfl ?_
          refine zx_getR G d_M_kit_59 zf_M_7 zc_12_0 (zids_of 12 (Nat.le_of_ble_eq_true rfl) 0 (Nat.le_of_ble_eq_true rfl)) ?_
          refine zx_bipush (v := 6) G d_M_kit_62 rfl ?_
          refine zx_iald G d_M_kit_64 za_40 (zi_12_0 (zids_of 12 (Nat.le_of_ble_eq_true rfl) 0 (Nat.le_of_ble_eq_true rfl))) h (fun h => ?_)
          refine zx_bipush (v := 6) G d_M_kit_65 rfl ?_
          refine zx_icmp_ne (tgt := 72) G d_M_kit_67 rfl h (fun h => ?_) (fun h => ?_)
          · refine zx_aload_n G d_M_kit_72 rfl ?_
            refine zx_getR G d_M_kit_73 zf_M_7 zc_12_0 (zids_of 12 (Nat.le_of_ble_eq_true rfl) 0 (Nat.le_of_ble_eq_true rfl)) ?_
            refine zx_bipush (v := 12) G d_M_kit_76 rfl ?_
            refine zx_iconst (v := 2) G d_M_kit_78 rfl ?_
            refine zx_aload_n G d_M_kit_79 rfl ?_
            refine zx_getR G d_M_kit_80 zf_M_7 zc_12_0 (zids_of 12 (Nat.le_of_ble_eq_true rfl) 0 (Nat.le_of_ble_eq_true rfl)) ?_
            refine zx_bipush (v := 6) G d_M_kit_83 rfl ?_
            refine zx_iald G d_M_kit_85 za_40 (zi_12_0 (zids_of 12 (Nat.le_of_ble_eq_true rfl) 0 (Nat.le_of_ble_eq_true rfl))) h (fun h => ?_)
            refine zx_imul G d_M_kit_86 ?_
            refine zx_iadd G d_M_kit_87 ?_
            refine zx_iload_n G d_M_kit_88 rfl ?_
            refine zx_iast G d_M_kit_89 za_40 (zi_12_0 (zids_of 12 (Nat.le_of_ble_eq_true rfl) 0 (Nat.le_of_ble_eq_true rfl))) h (fun μ9 h => ?_)
            refine zx_aload_n G d_M_kit_90 rfl ?_
            refine zx_getR G d_M_kit_91 zf_M_7 zc_12_0 (zids_of 12 (Nat.le_of_ble_eq_true rfl) 0 (Nat.le_of_ble_eq_true rfl)) ?_
            refine zx_bipush (v := 12) G d_M_kit_94 rfl ?_
            refine zx_iconst (v := 2) G d_M_kit_96 rfl ?_
            refine zx_aload_n G d_M_kit_97 rfl ?_
            refine zx_getR G d_M_kit_98 zf_M_7 zc_12_0 (zids_of 12 (Nat.le_of_ble_eq_true rfl) 0 (Nat.le_of_ble_eq_true rfl)) ?_
            refine zx_bipush (v := 6) G d_M_kit_101 rfl ?_
            refine zx_iald G d_M_kit_103 za_40 (zi_12_0 (zids_of 12 (Nat.le_of_ble_eq_true rfl) 0 (Nat.le_of_ble_eq_true rfl))) h (fun h => ?_)
            refine zx_imul G d_M_kit_104 ?_
            refine zx_iadd G d_M_kit_105 ?_
            refine zx_iconst (v := 1) G d_M_kit_106 rfl ?_
            refine zx_iadd G d_M_kit_107 ?_
            refine zx_iload_n G d_M_kit_108 rfl ?_
            refine zx_join (P := fun k => ∀ (y10 : Int32) (μ11 : ZMem), k y10 μ11 = some rr → zX g K_M_kit 1 E (some (.int rr.1), rr.2) μ11 128 [some (.ref (g.2.1 12 0)), none, none, none] [.int y10, .int (((12 : Int32) + ((2 : Int32) * (μ9.1 40 0 (6 : Int32).toNatClampNeg))) + (1 : Int32)), .ref (g.2.1 40 0)]) h (fun y10 μ11 h => ?_) (fun k12 hk12 h => ?_)
            · try dsimp only at h
              refine zx_iast G d_M_kit_128 za_40 (zi_12_0 (zids_of 12 (Nat.le_of_ble_eq_true rfl) 0 (Nat.le_of_ble_eq_true rfl))) h (fun μ13 h => ?_)
              refine zx_aload_n G d_M_kit_129 rfl ?_
              refine zx_getR G d_M_kit_130 zf_M_7 zc_12_0 (zids_of 12 (Nat.le_of_ble_eq_true rfl) 0 (Nat.le_of_ble_eq_true rfl)) ?_
              refine zx_bipush (v := 6) G d_M_kit_133 rfl ?_
              refine zx_dup2_11 G d_M_kit_135 rfl rfl ?_
              refine zx_iald G d_M_kit_136 za_40 (zi_12_0 (zids_of 12 (Nat.le_of_ble_eq_true rfl) 0 (Nat.le_of_ble_eq_true rfl))) h (fun h => ?_)
              refine zx_iconst (v := 1) G d_M_kit_137 rfl ?_
              refine zx_iadd G d_M_kit_138 ?_
              refine zx_iast G d_M_kit_139 za_40 (zi_12_0 (zids_of 12 (Nat.le_of_ble_eq_true rfl) 0 (Nat.le_of_ble_eq_true rfl))) h (fun μ14 h => ?_)
              refine zx_aload_n G d_M_kit_140 rfl ?_
              refine zx_getR G d_M_kit_141 zf_M_7 zc_12_0 (zids_of 12 (Nat.le_of_ble_eq_true rfl) 0 (Nat.le_of_ble_eq_true rfl)) ?_
              refine zx_bipush (v := 6) G d_M_kit_144 rfl ?_
              refine zx_iald G d_M_kit_146 za_40 (zi_12_0 (zids_of 12 (Nat.le_of_ble_eq_true rfl) 0 (Nat.le_of_ble_eq_true rfl))) h (fun h => ?_)
              exact zx_iret G d_M_kit_147 rfl h
            try dsimp only at h
            refine zx_if_eq (tgt := 116) G d_M_kit_109 rfl h (fun h => ?_) (fun h => ?_)
            · refine zx_iload_n G d_M_kit_116 rfl ?_
              refine zx_iconst (v := -1) G d_M_kit_117 rfl ?_
              refine zx_icmp_ne (tgt := 127) G d_M_kit_118 rfl h (fun h => ?_) (fun h => ?_)
              · refine zx_iload_n G d_M_kit_127 rfl ?_
                refine zx_weak [true, false, false, false] (lv2 := [_, none, none, none]) rfl ?_
                exact hk12 p1 μ9 h
              · refine zx_sipush (v := 10000) G d_M_kit_121 rfl ?_
                refine zx_goto (tgt := 128) G d_M_kit_124 rfl ?_
                refine zx_weak [true, false, false, false] (lv2 := [_, none, none, none]) rfl ?_
                exact hk12 (10000 : Int32) μ9 h
            · refine zx_iconst (v := 0) G d_M_kit_112 rfl ?_
              refine zx_goto (tgt := 128) G d_M_kit_113 rfl ?_
              refine zx_weak [true, false, false, false] (lv2 := [_, none, none, none]) rfl ?_
              exact hk12 (0 : Int32) μ9 h
          · refine zx_iconst (v := -1) G d_M_kit_70 rfl ?_
            exact zx_iret G d_M_kit_71 rfl h
        try dsimp only at h
        refine zx_if_ne (tgt := 58) G d_M_kit_44 rfl h (fun h => ?_) (fun h => ?_)
        · exact hk8 μ5 h
        · refine zx_iload_n G d_M_kit_47 rfl ?_
          refine zx_iconst (v := -1) G d_M_kit_48 rfl ?_
          refine zx_sipush (v := 9999) G d_M_kit_49 rfl ?_
          obtain ⟨r16, μ15, hc, h⟩ := zbnd_of h
          refine zx_callSI (r := r16) (μ2 := μ15) G d_M_kit_52 zm_M_68 (fun l => t_M_isIn  hc) rfl rfl (Nat.le_of_ble_eq_true rfl) (Nat.le_of_ble_eq_true rfl) ?_
          refine zx_if_eq (tgt := 70) G d_M_kit_55 rfl h (fun h => ?_) (fun h => ?_)
          · refine zx_iconst (v := -1) G d_M_kit_70 rfl ?_
            exact zx_iret G d_M_kit_71 rfl h
          · exact hk8 μ15 h
    try dsimp only at h
    refine zx_join (P := fun k => ∀ (μ17 : ZMem), k μ17 = some rr → zX g K_M_kit 1 E (some (.int rr.1), rr.2) μ17 27 [some (.ref (g.2.1 12 0)), some (.int p0), some (.int p1), none] []) h (fun μ17 h => ?_) (fun k18 hk18 h => ?_)
    · try dsimp only at h
      refine zx_iconst (v := 1) G d_M_kit_27 rfl ?_
      refine zx_goto (tgt := 32) G d_M_kit_28 rfl ?_
      exact hk3 (1 : Int32) μ17 h
    try dsimp only at h
    refine zx_icmp_eq (tgt := 27) G d_M_kit_18 rfl h (fun h => ?_) (fun h => ?_)
    · exact hk18 μ h
    · refine zx_iload_n G d_M_kit_21 rfl ?_
      refine zx_bipush (v := 7) G d_M_kit_22 rfl ?_
      refine zx_icmp_ne (tgt := 31) G d_M_kit_24 rfl h (fun h => ?_) (fun h => ?_)
      · refine zx_iconst (v := 0) G d_M_kit_31 rfl ?_
        exact hk3 (0 : Int32) μ h
      · exact hk18 μ h
  · refine zx_aload_n G d_M_kit_5 rfl ?_
    refine zx_getR G d_M_kit_6 zf_M_7 zc_12_0 (zids_of 12 (Nat.le_of_ble_eq_true rfl) 0 (Nat.le_of_ble_eq_true rfl)) ?_
    refine zx_bipush (v := 6) G d_M_kit_9 rfl ?_
    refine zx_iconst (v := 0) G d_M_kit_11 rfl ?_
    refine zx_iast G d_M_kit_12 za_40 (zi_12_0 (zids_of 12 (Nat.le_of_ble_eq_true rfl) 0 (Nat.le_of_ble_eq_true rfl))) h (fun μ19 h => ?_)
    refine zx_iconst (v := 0) G d_M_kit_13 rfl ?_
    exact zx_iret G d_M_kit_14 rfl h
set_option maxHeartbeats 4000000 in
set_option maxRecDepth 20000 in
theorem tf_M_leads_l21_0 {g : ZG} {E : ZE} {N : Nat} {rr : Int32 × ZMem} {p1 : Int32} {p2 : Int32} {kx96 : ZMem → Option (Int32 × ZMem)} (G : zGa g K_M_leads 4 E) (hl0 : (12, 0) ∈ zids) (hkx96 : ∀  (μ : ZMem), kx96 μ = some rr → zX g K_M_leads 4 E (some (.int rr.1), rr.2) μ 96 [some (.ref (g.2.1 12 0)), none, some (.int p1), none, none] []) : ∀ (n21 : Nat) (z5 : Int32) (μ6 : ZMem), f_M_leads_l21 N p1 p2 kx96 n21 z5 μ6 = some rr → zX g K_M_leads 4 E (some (.int rr.1), rr.2) μ6 21 [some (.ref (g.2.1 12 0)), none, some (.int p1), some (.int p2), some (.int z5)] [] := by
  intro n21
  induction n21 with
  | zero => intro z5 μ6 h; cases h
  | succ n21 ih21 =>
    intro z5 μ6 h
    simp only [f_M_leads_l21] at h
    refine zx_iload G d_M_leads_21 rfl ?_
    refine zx_iload_n G d_M_leads_23 rfl ?_
    refine zx_icmp_ge (tgt := 96) G d_M_leads_24 rfl h (fun h => ?_) (fun h => ?_)
    · refine zx_weak [true, false, true, false, false] (lv2 := [_, none, _, none, none]) rfl ?_
      exact hkx96 μ6 h
    · refine zx_aload_n G d_M_leads_27 rfl ?_
      refine zx_aload_n G d_M_leads_28 rfl ?_
      refine zx_getR G d_M_leads_29 zf_M_7 zc_12_0 hl0 ?_
      refine zx_bipush (v := 12) G d_M_leads_32 rfl ?_
      refine zx_iconst (v := 2) G d_M_leads_34 rfl ?_
      refine zx_aload_n G d_M_leads_35 rfl ?_
      refine zx_getR G d_M_leads_36 zf_M_58 zc_12_24 hl0 ?_
      refine zx_iload G d_M_leads_39 rfl ?_
      refine zx_iald G d_M_leads_41 za_51 (zi_12_24 hl0) h (fun h => ?_)
      refine zx_imul G d_M_leads_42 ?_
      refine zx_iadd G d_M_leads_43 ?_
      refine zx_iald G d_M_leads_44 za_40 (zi_12_0 hl0) h (fun h => ?_)
      refine zx_aload_n G d_M_leads_45 rfl ?_
      refine zx_getR G d_M_leads_46 zf_M_7 zc_12_0 hl0 ?_
      refine zx_bipush (v := 12) G d_M_leads_49 rfl ?_
      refine zx_iconst (v := 2) G d_M_leads_51 rfl ?_
      refine zx_aload_n G d_M_leads_52 rfl ?_
      refine zx_getR G d_M_leads_53 zf_M_58 zc_12_24 hl0 ?_
      refine zx_iload G d_M_leads_56 rfl ?_
      refine zx_iald G d_M_leads_58 za_51 (zi_12_24 hl0) h (fun h => ?_)
      refine zx_imul G d_M_leads_59 ?_
      refine zx_iadd G d_M_leads_60 ?_
      refine zx_iconst (v := 1) G d_M_leads_61 rfl ?_
      refine zx_iadd G d_M_leads_62 ?_
      refine zx_iald G d_M_leads_63 za_40 (zi_12_0 hl0) h (fun h => ?_)
      obtain ⟨r8, μ7, hc, h⟩ := zbnd_of h
      refine zx_callVI (r := r8) (μ2 := μ7) G d_M_leads_64 zm_M_230 (fun l => t_M_does  hc) rfl rfl (Nat.le_of_ble_eq_true rfl) (Nat.le_of_ble_eq_true rfl) (zrecv zo_12 hl0) ?_
      refine zx_if_eq (tgt := 88) G d_M_leads_67 rfl h (fun h => ?_) (fun h => ?_)
      · refine zx_iconst (v := 0) G d_M_leads_88 rfl ?_
        exact zx_zretK G d_M_leads_89 rfl (by decide) h
      · refine zx_aload_n G d_M_leads_70 rfl ?_
        refine zx_getJ G d_M_leads_71 zf_M_199 zc_12_16 hl0 ?_
        refine zx_lconst (v := 1) G d_M_leads_74 rfl ?_
        refine zx_lcmp G d_M_leads_75 ?_
        refine zx_if_ne (tgt := 88) G d_M_leads_76 rfl h (fun h => ?_) (fun h => ?_)
        · refine zx_iconst (v := 0) G d_M_leads_88 rfl ?_
          exact zx_zretK G d_M_leads_89 rfl (by decide) h
        · refine zx_aload_n G d_M_leads_79 rfl ?_
          refine zx_getJ G d_M_leads_80 zf_M_196 zc_12_15 hl0 ?_
          refine zx_lconst (v := 0) G d_M_leads_83 rfl ?_
          refine zx_lcmp G d_M_leads_84 ?_
          refine zx_if_ge (tgt := 90) G d_M_leads_85 rfl h (fun h => ?_) (fun h => ?_)
          · refine zx_iinc (v := 1) (lf := fun y => [_, none, _, _, some (.int y)]) G d_M_leads_90 (Nat.le_of_ble_eq_true rfl) rfl rfl (fun _ => rfl) h (fun x9 h => ?_)
            refine zx_goto (tgt := 21) G d_M_leads_93 rfl ?_
            exact ih21 x9 μ7 h
          · refine zx_iconst (v := 0) G d_M_leads_88 rfl ?_
            exact zx_zretK G d_M_leads_89 rfl (by decide) h
set_option maxHeartbeats 4000000 in
set_option maxRecDepth 20000 in
theorem tf_M_leads_l21 {g : ZG} {E : ZE} {N n21 : Nat} {rr : Int32 × ZMem} {p1 : Int32} {p2 : Int32} {kx96 : ZMem → Option (Int32 × ZMem)} {z5 : Int32} {μ6 : ZMem} (G : zGa g K_M_leads 4 E) (hl0 : (12, 0) ∈ zids) (h : f_M_leads_l21 N p1 p2 kx96 n21 z5 μ6 = some rr) (hkx96 : ∀  (μ : ZMem), kx96 μ = some rr → zX g K_M_leads 4 E (some (.int rr.1), rr.2) μ 96 [some (.ref (g.2.1 12 0)), none, some (.int p1), none, none] []) : zX g K_M_leads 4 E (some (.int rr.1), rr.2) μ6 21 [some (.ref (g.2.1 12 0)), none, some (.int p1), some (.int p2), some (.int z5)] [] := tf_M_leads_l21_0 G hl0 hkx96 n21 z5 μ6 h
set_option maxHeartbeats 4000000 in
set_option maxRecDepth 20000 in
theorem t_M_leads {g : ZG} {l : Launch} {N : Nat} {μ : ZMem} {p0 : Int32} {p1 : Int32} {p2 : Int32} {rr : Int32 × ZMem} (h : f_M_leads N μ p0 p1 p2 = some rr) : zT g l 4 K_M_leads [.ref (g.2.1 12 0), .int p0, .int p1, .int p2] μ (some (.int rr.1), rr.2) := by
  refine zT_of (by decide +kernel) (Nat.le_of_ble_eq_true rfl) (fun E G => ?_)
  show zX g K_M_leads 4 E (some (.int rr.1), rr.2) μ 0 [some (.ref (g.2.1 12 0)), some (.int p0), some (.int p1), some (.int p2), none] []
  unfold f_M_leads at h
  refine zx_aload_n G d_M_leads_0 rfl ?_
  refine zx_getR G d_M_leads_1 zf_M_36 zc_12_17 (zids_of 12 (Nat.le_of_ble_eq_true rfl) 0 (Nat.le_of_ble_eq_true rfl)) ?_
  refine zx_iconst (v := 0) G d_M_leads_4 rfl ?_
  refine zx_iload_n G d_M_leads_5 rfl ?_
  refine zx_iast G d_M_leads_6 za_44 (zi_12_17 (zids_of 12 (Nat.le_of_ble_eq_true rfl) 0 (Nat.le_of_ble_eq_true rfl))) h (fun μ1 h => ?_)
  refine zx_aload_n G d_M_leads_7 rfl ?_
  refine zx_iload_n G d_M_leads_8 rfl ?_
  refine zx_i2l G d_M_leads_9 ?_
  refine zx_putJ G d_M_leads_10 zq_M_196 zp_12_15 (zids_of 12 (Nat.le_of_ble_eq_true rfl) 0 (Nat.le_of_ble_eq_true rfl)) h (fun μ2 h => ?_)
  refine zx_aload_n G d_M_leads_13 rfl ?_
  refine zx_lconst (v := 1) G d_M_leads_14 rfl ?_
  refine zx_putJ G d_M_leads_15 zq_M_199 zp_12_16 (zids_of 12 (Nat.le_of_ble_eq_true rfl) 0 (Nat.le_of_ble_eq_true rfl)) h (fun μ3 h => ?_)
  refine zx_iconst (v := 0) G d_M_leads_18 rfl ?_
  refine zx_istore (lf := fun y => [_, _, _, _, some (.int y)]) G d_M_leads_19 (Nat.le_of_ble_eq_true rfl) (fun _ => rfl) h (fun x4 h => ?_)
  refine zx_weak [true, false, true, true, true] (lv2 := [_, none, _, _, _]) rfl ?_
  refine tf_M_leads_l21 G (zids_of 12 (Nat.le_of_ble_eq_true rfl) 0 (Nat.le_of_ble_eq_true rfl)) h (fun μ10 h => ?_)
  · try dsimp only at h
    refine zx_aload_n G d_M_leads_96 rfl ?_
    refine zx_getJ G d_M_leads_97 zf_M_196 zc_12_15 (zids_of 12 (Nat.le_of_ble_eq_true rfl) 0 (Nat.le_of_ble_eq_true rfl)) ?_
    refine zx_iload_n G d_M_leads_100 rfl ?_
    refine zx_i2l G d_M_leads_101 ?_
    refine zx_lcmp G d_M_leads_102 ?_
    refine zx_if_ne (tgt := 110) G d_M_leads_103 rfl h (fun h => ?_) (fun h => ?_)
    · refine zx_iconst (v := 0) G d_M_leads_110 rfl ?_
      exact zx_zretK G d_M_leads_111 rfl (by decide) h
    · refine zx_iconst (v := 1) G d_M_leads_106 rfl ?_
      refine zx_goto (tgt := 111) G d_M_leads_107 rfl ?_
      exact zx_zretK G d_M_leads_111 rfl (by decide) h
set_option maxHeartbeats 4000000 in
set_option maxRecDepth 20000 in
theorem tf_M_leadsAll_l3_0 {g : ZG} {E : ZE} {N : Nat} {rr : Int32 × ZMem} {p1 : Int32} {p2 : Int32} {p3 : Int32} (G : zGa g K_M_leadsAll 5 E) (hl0 : (12, 0) ∈ zids) : ∀ (n3 : Nat) (z2 : Int32) (μ3 : ZMem), f_M_leadsAll_l3 N p1 p2 p3 n3 z2 μ3 = some rr → zX g K_M_leadsAll 5 E (some (.int rr.1), rr.2) μ3 3 [some (.ref (g.2.1 12 0)), none, some (.int p1), some (.int p2), some (.int p3), some (.int z2)] [] := by
  intro n3
  induction n3 with
  | zero => intro z2 μ3 h; cases h
  | succ n3 ih3 =>
    intro z2 μ3 h
    simp only [f_M_leadsAll_l3] at h
    refine zx_iload G d_M_leadsAll_3 rfl ?_
    refine zx_iload_n G d_M_leadsAll_5 rfl ?_
    refine zx_icmp_gt (tgt := 29) G d_M_leadsAll_6 rfl h (fun h => ?_) (fun h => ?_)
    · refine zx_iconst (v := 1) G d_M_leadsAll_29 rfl ?_
      exact zx_zretK G d_M_leadsAll_30 rfl (by decide) h
    · refine zx_aload_n G d_M_leadsAll_9 rfl ?_
      refine zx_iload G d_M_leadsAll_10 rfl ?_
      refine zx_iload_n G d_M_leadsAll_12 rfl ?_
      refine zx_iload G d_M_leadsAll_13 rfl ?_
      obtain ⟨r5, μ4, hc, h⟩ := zbnd_of h
      refine zx_callVI (r := r5) (μ2 := μ4) G d_M_leadsAll_15 zm_M_309 (fun l => t_M_leads  hc) rfl rfl (Nat.le_of_ble_eq_true rfl) (Nat.le_of_ble_eq_true rfl) (zrecv zo_12 hl0) ?_
      refine zx_if_ne (tgt := 23) G d_M_leadsAll_18 rfl h (fun h => ?_) (fun h => ?_)
      · refine zx_iinc (v := 1) (lf := fun y => [_, none, _, _, _, some (.int y)]) G d_M_leadsAll_23 (Nat.le_of_ble_eq_true rfl) rfl rfl (fun _ => rfl) h (fun x6 h => ?_)
        refine zx_goto (tgt := 3) G d_M_leadsAll_26 rfl ?_
        exact ih3 x6 μ4 h
      · refine zx_iconst (v := 0) G d_M_leadsAll_21 rfl ?_
        exact zx_zretK G d_M_leadsAll_22 rfl (by decide) h
set_option maxHeartbeats 4000000 in
set_option maxRecDepth 20000 in
theorem tf_M_leadsAll_l3 {g : ZG} {E : ZE} {N n3 : Nat} {rr : Int32 × ZMem} {p1 : Int32} {p2 : Int32} {p3 : Int32} {z2 : Int32} {μ3 : ZMem} (G : zGa g K_M_leadsAll 5 E) (hl0 : (12, 0) ∈ zids) (h : f_M_leadsAll_l3 N p1 p2 p3 n3 z2 μ3 = some rr) : zX g K_M_leadsAll 5 E (some (.int rr.1), rr.2) μ3 3 [some (.ref (g.2.1 12 0)), none, some (.int p1), some (.int p2), some (.int p3), some (.int z2)] [] := tf_M_leadsAll_l3_0 G hl0 n3 z2 μ3 h
set_option maxHeartbeats 4000000 in
set_option maxRecDepth 20000 in
theorem t_M_leadsAll {g : ZG} {l : Launch} {N : Nat} {μ : ZMem} {p0 : Int32} {p1 : Int32} {p2 : Int32} {p3 : Int32} {rr : Int32 × ZMem} (h : f_M_leadsAll N μ p0 p1 p2 p3 = some rr) : zT g l 5 K_M_leadsAll [.ref (g.2.1 12 0), .int p0, .int p1, .int p2, .int p3] μ (some (.int rr.1), rr.2) := by
  refine zT_of (by decide +kernel) (Nat.le_of_ble_eq_true rfl) (fun E G => ?_)
  show zX g K_M_leadsAll 5 E (some (.int rr.1), rr.2) μ 0 [some (.ref (g.2.1 12 0)), some (.int p0), some (.int p1), some (.int p2), some (.int p3), none] []
  unfold f_M_leadsAll at h
  refine zx_iload_n G d_M_leadsAll_0 rfl ?_
  refine zx_istore (lf := fun y => [_, _, _, _, _, some (.int y)]) G d_M_leadsAll_1 (Nat.le_of_ble_eq_true rfl) (fun _ => rfl) h (fun x1 h => ?_)
  refine zx_weak [true, false, true, true, true, true] (lv2 := [_, none, _, _, _, _]) rfl ?_
  refine tf_M_leadsAll_l3 G (zids_of 12 (Nat.le_of_ble_eq_true rfl) 0 (Nat.le_of_ble_eq_true rfl)) h
set_option maxHeartbeats 4000000 in
set_option maxRecDepth 20000 in
theorem tf_M_isMade_l6_0 {g : ZG} {E : ZE} {N : Nat} {rr : Int32 × ZMem} {p0 : Int32} {p1 : Int32} {p2 : Int32} {p3 : Int32} {kx31 : Int32 → ZMem → Option (Int32 × ZMem)} (G : zGa g K_M_isMade 6 E) (hl0 : (12, 0) ∈ zids) (hkx31 : ∀ (w5 : Int32) (μ : ZMem), kx31 w5 μ = some rr → zX g K_M_isMade 6 E (some (.int rr.1), rr.2) μ 31 [some (.ref (g.2.1 12 0)), some (.int p0), some (.int p1), some (.int p2), some (.int p3), some (.int w5), none, none, none] []) : ∀ (n6 : Nat) (z3 : Int32) (z4 : Int32) (μ5 : ZMem), f_M_isMade_l6 N p0 p1 p2 p3 kx31 n6 z3 z4 μ5 = some rr → zX g K_M_isMade 6 E (some (.int rr.1), rr.2) μ5 6 [some (.ref (g.2.1 12 0)), some (.int p0), some (.int p1), some (.int p2), some (.int p3), some (.int z3), some (.int z4), none, none] [] := by
  intro n6
  induction n6 with
  | zero => intro z3 z4 μ5 h; cases h
  | succ n6 ih6 =>
    intro z3 z4 μ5 h
    simp only [f_M_isMade_l6] at h
    refine zx_iload G d_M_isMade_6 rfl ?_
    refine zx_iload G d_M_isMade_8 rfl ?_
    refine zx_icmp_ge (tgt := 31) G d_M_isMade_10 rfl h (fun h => ?_) (fun h => ?_)
    · refine zx_weak [true, true, true, true, true, true, false, false, false] (lv2 := [_, _, _, _, _, _, none, none, none]) rfl ?_
      exact hkx31 z3 μ5 h
    · refine zx_iload G d_M_isMade_13 rfl ?_
      refine zx_aload_n G d_M_isMade_15 rfl ?_
      refine zx_getR G d_M_isMade_16 zf_M_7 zc_12_0 hl0 ?_
      refine zx_bipush (v := 6) G d_M_isMade_19 rfl ?_
      refine zx_iald G d_M_isMade_21 za_40 (zi_12_0 hl0) h (fun h => ?_)
      refine zx_imul G d_M_isMade_22 ?_
      refine zx_istore (lf := fun y => [_, _, _, _, _, some (.int y), _, none, none]) G d_M_isMade_23 (Nat.le_of_ble_eq_true rfl) (fun _ => rfl) h (fun x6 h => ?_)
      refine zx_iinc (v := 1) (lf := fun y => [_, _, _, _, _, _, some (.int y), none, none]) G d_M_isMade_25 (Nat.le_of_ble_eq_true rfl) rfl rfl (fun _ => rfl) h (fun x7 h => ?_)
      refine zx_goto (tgt := 6) G d_M_isMade_28 rfl ?_
      exact ih6 x6 x7 μ5 h
set_option maxHeartbeats 4000000 in
set_option maxRecDepth 20000 in
theorem tf_M_isMade_l6 {g : ZG} {E : ZE} {N n6 : Nat} {rr : Int32 × ZMem} {p0 : Int32} {p1 : Int32} {p2 : Int32} {p3 : Int32} {kx31 : Int32 → ZMem → Option (Int32 × ZMem)} {z3 : Int32} {z4 : Int32} {μ5 : ZMem} (G : zGa g K_M_isMade 6 E) (hl0 : (12, 0) ∈ zids) (h : f_M_isMade_l6 N p0 p1 p2 p3 kx31 n6 z3 z4 μ5 = some rr) (hkx31 : ∀ (w5 : Int32) (μ : ZMem), kx31 w5 μ = some rr → zX g K_M_isMade 6 E (some (.int rr.1), rr.2) μ 31 [some (.ref (g.2.1 12 0)), some (.int p0), some (.int p1), some (.int p2), some (.int p3), some (.int w5), none, none, none] []) : zX g K_M_isMade 6 E (some (.int rr.1), rr.2) μ5 6 [some (.ref (g.2.1 12 0)), some (.int p0), some (.int p1), some (.int p2), some (.int p3), some (.int z3), some (.int z4), none, none] [] := tf_M_isMade_l6_0 G hl0 hkx31 n6 z3 z4 μ5 h
set_option maxHeartbeats 4000000 in
set_option maxRecDepth 20000 in
theorem tf_M_isMade_l51_0 {g : ZG} {E : ZE} {N : Nat} {rr : Int32 × ZMem} {p0 : Int32} {p1 : Int32} {p2 : Int32} {p3 : Int32} {x8 : Int32} {z11 : Int32} {kx91 : ZMem → Option (Int32 × ZMem)} (G : zGa g K_M_isMade 6 E) (hl0 : (12, 0) ∈ zids) (hkx91 : ∀  (μ : ZMem), kx91 μ = some rr → zX g K_M_isMade 6 E (some (.int rr.1), rr.2) μ 91 [some (.ref (g.2.1 12 0)), some (.int p0), some (.int p1), some (.int p2), some (.int p3), some (.int x8), some (.int z11), none, none] []) : ∀ (n51 : Nat) (z15 : Int32) (z16 : Int32) (μ17 : ZMem), f_M_isMade_l51 N p0 p1 p2 p3 x8 z11 kx91 n51 z15 z16 μ17 = some rr → zX g K_M_isMade 6 E (some (.int rr.1), rr.2) μ17 51 [some (.ref (g.2.1 12 0)), some (.int p0), some (.int p1), some (.int p2), some (.int p3), some (.int x8), some (.int z11), some (.int z15), some (.int z16)] [] := by
  intro n51
  induction n51 with
  | zero => intro z15 z16 μ17 h; cases h
  | succ n51 ih51 =>
    intro z15 z16 μ17 h
    simp only [f_M_isMade_l51] at h
    refine zx_iload G d_M_isMade_51 rfl ?_
    refine zx_if_lt (tgt := 91) G d_M_isMade_53 rfl h (fun h => ?_) (fun h => ?_)
    · refine zx_weak [true, true, true, true, true, true, true, false, false] (lv2 := [_, _, _, _, _, _, _, none, none]) rfl ?_
      exact hkx91 μ17 h
    · refine zx_aload_n G d_M_isMade_56 rfl ?_
      refine zx_getR G d_M_isMade_57 zf_M_58 zc_12_24 hl0 ?_
      refine zx_iload G d_M_isMade_60 rfl ?_
      refine zx_iload G d_M_isMade_62 rfl ?_
      refine zx_aload_n G d_M_isMade_64 rfl ?_
      refine zx_getR G d_M_isMade_65 zf_M_7 zc_12_0 hl0 ?_
      refine zx_bipush (v := 6) G d_M_isMade_68 rfl ?_
      refine zx_iald G d_M_isMade_70 za_40 (zi_12_0 hl0) h (fun h => ?_)
      refine zx_irem G d_M_isMade_71 h (fun h => ?_)
      refine zx_iast G d_M_isMade_72 za_51 (zi_12_24 hl0) h (fun μ18 h => ?_)
      refine zx_iload G d_M_isMade_73 rfl ?_
      refine zx_aload_n G d_M_isMade_75 rfl ?_
      refine zx_getR G d_M_isMade_76 zf_M_7 zc_12_0 hl0 ?_
      refine zx_bipush (v := 6) G d_M_isMade_79 rfl ?_
      refine zx_iald G d_M_isMade_81 za_40 (zi_12_0 hl0) h (fun h => ?_)
      refine zx_idiv G d_M_isMade_82 h (fun h => ?_)
      refine zx_istore (lf := fun y => [_, _, _, _, _, _, _, some (.int y), _]) G d_M_isMade_83 (Nat.le_of_ble_eq_true rfl) (fun _ => rfl) h (fun x19 h => ?_)
      refine zx_iinc (v := -1) (lf := fun y => [_, _, _, _, _, _, _, _, some (.int y)]) G d_M_isMade_85 (Nat.le_of_ble_eq_true rfl) rfl rfl (fun _ => rfl) h (fun x20 h => ?_)
      refine zx_goto (tgt := 51) G d_M_isMade_88 rfl ?_
      exact ih51 x19 x20 μ18 h
set_option maxHeartbeats 4000000 in
set_option maxRecDepth 20000 in
theorem tf_M_isMade_l51 {g : ZG} {E : ZE} {N n51 : Nat} {rr : Int32 × ZMem} {p0 : Int32} {p1 : Int32} {p2 : Int32} {p3 : Int32} {x8 : Int32} {z11 : Int32} {kx91 : ZMem → Option (Int32 × ZMem)} {z15 : Int32} {z16 : Int32} {μ17 : ZMem} (G : zGa g K_M_isMade 6 E) (hl0 : (12, 0) ∈ zids) (h : f_M_isMade_l51 N p0 p1 p2 p3 x8 z11 kx91 n51 z15 z16 μ17 = some rr) (hkx91 : ∀  (μ : ZMem), kx91 μ = some rr → zX g K_M_isMade 6 E (some (.int rr.1), rr.2) μ 91 [some (.ref (g.2.1 12 0)), some (.int p0), some (.int p1), some (.int p2), some (.int p3), some (.int x8), some (.int z11), none, none] []) : zX g K_M_isMade 6 E (some (.int rr.1), rr.2) μ17 51 [some (.ref (g.2.1 12 0)), some (.int p0), some (.int p1), some (.int p2), some (.int p3), some (.int x8), some (.int z11), some (.int z15), some (.int z16)] [] := tf_M_isMade_l51_0 G hl0 hkx91 n51 z15 z16 μ17 h
set_option maxHeartbeats 4000000 in
set_option maxRecDepth 20000 in
theorem tf_M_isMade_l34_0 {g : ZG} {E : ZE} {N : Nat} {rr : Int32 × ZMem} {p0 : Int32} {p1 : Int32} {p2 : Int32} {p3 : Int32} {x8 : Int32} (G : zGa g K_M_isMade 6 E) (hl0 : (12, 0) ∈ zids) : ∀ (n34 : Nat) (z11 : Int32) (μ12 : ZMem), f_M_isMade_l34 N p0 p1 p2 p3 x8 n34 z11 μ12 = some rr → zX g K_M_isMade 6 E (some (.int rr.1), rr.2) μ12 34 [some (.ref (g.2.1 12 0)), some (.int p0), some (.int p1), some (.int p2), some (.int p3), some (.int x8), some (.int z11), none, none] [] := by
  intro n34
  induction n34 with
  | zero => intro z11 μ12 h; cases h
  | succ n34 ih34 =>
    intro z11 μ12 h
    simp only [f_M_isMade_l34] at h
    refine zx_iload G d_M_isMade_34 rfl ?_
    refine zx_iload G d_M_isMade_36 rfl ?_
    refine zx_icmp_ge (tgt := 111) G d_M_isMade_38 rfl h (fun h => ?_) (fun h => ?_)
    · refine zx_iconst (v := 0) G d_M_isMade_111 rfl ?_
      exact zx_zretK G d_M_isMade_112 rfl (by decide) h
    · refine zx_iload G d_M_isMade_41 rfl ?_
      refine zx_istore (lf := fun y => [_, _, _, _, _, _, _, some (.int y), none]) G d_M_isMade_43 (Nat.le_of_ble_eq_true rfl) (fun _ => rfl) h (fun x13 h => ?_)
      refine zx_iload G d_M_isMade_45 rfl ?_
      refine zx_iconst (v := 1) G d_M_isMade_47 rfl ?_
      refine zx_isub G d_M_isMade_48 ?_
      refine zx_istore (lf := fun y => [_, _, _, _, _, _, _, _, some (.int y)]) G d_M_isMade_49 (Nat.le_of_ble_eq_true rfl) (fun _ => rfl) h (fun x14 h => ?_)
      refine tf_M_isMade_l51 G hl0 h (fun μ21 h => ?_)
      · try dsimp only at h
        refine zx_aload_n G d_M_isMade_91 rfl ?_
        refine zx_iload_n G d_M_isMade_92 rfl ?_
        refine zx_iload_n G d_M_isMade_93 rfl ?_
        refine zx_iload_n G d_M_isMade_94 rfl ?_
        refine zx_iload G d_M_isMade_95 rfl ?_
        obtain ⟨r23, μ22, hc, h⟩ := zbnd_of h
        refine zx_callVI (r := r23) (μ2 := μ22) G d_M_isMade_97 zm_M_312 (fun l => t_M_leadsAll  hc) rfl rfl (Nat.le_of_ble_eq_true rfl) (Nat.le_of_ble_eq_true rfl) (zrecv zo_12 hl0) ?_
        refine zx_if_eq (tgt := 105) G d_M_isMade_100 rfl h (fun h => ?_) (fun h => ?_)
        · refine zx_iinc (v := 1) (lf := fun y => [_, _, _, _, _, _, some (.int y), none, none]) G d_M_isMade_105 (Nat.le_of_ble_eq_true rfl) rfl rfl (fun _ => rfl) h (fun x24 h => ?_)
          refine zx_goto (tgt := 34) G d_M_isMade_108 rfl ?_
          exact ih34 x24 μ22 h
        · refine zx_iconst (v := 1) G d_M_isMade_103 rfl ?_
          exact zx_zretK G d_M_isMade_104 rfl (by decide) h
set_option maxHeartbeats 4000000 in
set_option maxRecDepth 20000 in
theorem tf_M_isMade_l34 {g : ZG} {E : ZE} {N n34 : Nat} {rr : Int32 × ZMem} {p0 : Int32} {p1 : Int32} {p2 : Int32} {p3 : Int32} {x8 : Int32} {z11 : Int32} {μ12 : ZMem} (G : zGa g K_M_isMade 6 E) (hl0 : (12, 0) ∈ zids) (h : f_M_isMade_l34 N p0 p1 p2 p3 x8 n34 z11 μ12 = some rr) : zX g K_M_isMade 6 E (some (.int rr.1), rr.2) μ12 34 [some (.ref (g.2.1 12 0)), some (.int p0), some (.int p1), some (.int p2), some (.int p3), some (.int x8), some (.int z11), none, none] [] := tf_M_isMade_l34_0 G hl0 n34 z11 μ12 h
set_option maxHeartbeats 4000000 in
set_option maxRecDepth 20000 in
theorem t_M_isMade {g : ZG} {l : Launch} {N : Nat} {μ : ZMem} {p0 : Int32} {p1 : Int32} {p2 : Int32} {p3 : Int32} {rr : Int32 × ZMem} (h : f_M_isMade N μ p0 p1 p2 p3 = some rr) : zT g l 6 K_M_isMade [.ref (g.2.1 12 0), .int p0, .int p1, .int p2, .int p3] μ (some (.int rr.1), rr.2) := by
  refine zT_of (by decide +kernel) (Nat.le_of_ble_eq_true rfl) (fun E G => ?_)
  show zX g K_M_isMade 6 E (some (.int rr.1), rr.2) μ 0 [some (.ref (g.2.1 12 0)), some (.int p0), some (.int p1), some (.int p2), some (.int p3), none, none, none, none] []
  unfold f_M_isMade at h
  refine zx_iconst (v := 1) G d_M_isMade_0 rfl ?_
  refine zx_istore (lf := fun y => [_, _, _, _, _, some (.int y), none, none, none]) G d_M_isMade_1 (Nat.le_of_ble_eq_true rfl) (fun _ => rfl) h (fun x1 h => ?_)
  refine zx_iconst (v := 0) G d_M_isMade_3 rfl ?_
  refine zx_istore (lf := fun y => [_, _, _, _, _, _, some (.int y), none, none]) G d_M_isMade_4 (Nat.le_of_ble_eq_true rfl) (fun _ => rfl) h (fun x2 h => ?_)
  refine tf_M_isMade_l6 G (zids_of 12 (Nat.le_of_ble_eq_true rfl) 0 (Nat.le_of_ble_eq_true rfl)) h (fun x8 μ9 h => ?_)
  · try dsimp only at h
    refine zx_iconst (v := 0) G d_M_isMade_31 rfl ?_
    refine zx_istore (lf := fun y => [_, _, _, _, _, _, some (.int y), none, none]) G d_M_isMade_32 (Nat.le_of_ble_eq_true rfl) (fun _ => rfl) h (fun x10 h => ?_)
    refine tf_M_isMade_l34 G (zids_of 12 (Nat.le_of_ble_eq_true rfl) 0 (Nat.le_of_ble_eq_true rfl)) h
