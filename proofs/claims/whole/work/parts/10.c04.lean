/-! contracts: each method does what its function says (by program: wip/whole/gen.py) -/
set_option maxHeartbeats 4000000 in
set_option maxRecDepth 20000 in
theorem t_JInt_bitCount {g : ZG} {l : Launch} {N : Nat} {μ : ZMem} {p0 : Int32} {rr : Int32 × ZMem} (h : f_JInt_bitCount N μ p0 = some rr) : zT g l 0 K_JInt_bitCount [.int p0] μ (some (.int rr.1), rr.2) := by
  refine zT_of (by decide +kernel) (Nat.le_of_ble_eq_true rfl) (fun E G => ?_)
  show zX g K_JInt_bitCount 0 E (some (.int rr.1), rr.2) μ 0 [some (.int p0)] []
  unfold f_JInt_bitCount at h
  refine zx_iload_n G d_JInt_bitCount_0 rfl ?_
  refine zx_iload_n G d_JInt_bitCount_1 rfl ?_
  refine zx_iconst (v := 1) G d_JInt_bitCount_2 rfl ?_
  refine zx_iushr G d_JInt_bitCount_3 ?_
  refine zx_ldcw (v := 1431655765) G d_JInt_bitCount_4 zk_JInt_265 ?_
  refine zx_iand G d_JInt_bitCount_7 ?_
  refine zx_isub G d_JInt_bitCount_8 ?_
  refine zx_istore_n (lf := fun y => [some (.int y)]) G d_JInt_bitCount_9 (Nat.le_of_ble_eq_true rfl) (fun _ => rfl) h (fun x1 h => ?_)
  refine zx_iload_n G d_JInt_bitCount_10 rfl ?_
  refine zx_ldcw (v := 858993459) G d_JInt_bitCount_11 zk_JInt_266 ?_
  refine zx_iand G d_JInt_bitCount_14 ?_
  refine zx_iload_n G d_JInt_bitCount_15 rfl ?_
  refine zx_iconst (v := 2) G d_JInt_bitCount_16 rfl ?_
  refine zx_iushr G d_JInt_bitCount_17 ?_
  refine zx_ldcw (v := 858993459) G d_JInt_bitCount_18 zk_JInt_266 ?_
  refine zx_iand G d_JInt_bitCount_21 ?_
  refine zx_iadd G d_JInt_bitCount_22 ?_
  refine zx_istore_n (lf := fun y => [some (.int y)]) G d_JInt_bitCount_23 (Nat.le_of_ble_eq_true rfl) (fun _ => rfl) h (fun x2 h => ?_)
  refine zx_iload_n G d_JInt_bitCount_24 rfl ?_
  refine zx_iload_n G d_JInt_bitCount_25 rfl ?_
  refine zx_iconst (v := 4) G d_JInt_bitCount_26 rfl ?_
  refine zx_iushr G d_JInt_bitCount_27 ?_
  refine zx_iadd G d_JInt_bitCount_28 ?_
  refine zx_ldcw (v := 252645135) G d_JInt_bitCount_29 zk_JInt_267 ?_
  refine zx_iand G d_JInt_bitCount_32 ?_
  refine zx_istore_n (lf := fun y => [some (.int y)]) G d_JInt_bitCount_33 (Nat.le_of_ble_eq_true rfl) (fun _ => rfl) h (fun x3 h => ?_)
  refine zx_iload_n G d_JInt_bitCount_34 rfl ?_
  refine zx_iload_n G d_JInt_bitCount_35 rfl ?_
  refine zx_bipush (v := 8) G d_JInt_bitCount_36 rfl ?_
  refine zx_iushr G d_JInt_bitCount_38 ?_
  refine zx_iadd G d_JInt_bitCount_39 ?_
  refine zx_istore_n (lf := fun y => [some (.int y)]) G d_JInt_bitCount_40 (Nat.le_of_ble_eq_true rfl) (fun _ => rfl) h (fun x4 h => ?_)
  refine zx_iload_n G d_JInt_bitCount_41 rfl ?_
  refine zx_iload_n G d_JInt_bitCount_42 rfl ?_
  refine zx_bipush (v := 16) G d_JInt_bitCount_43 rfl ?_
  refine zx_iushr G d_JInt_bitCount_45 ?_
  refine zx_iadd G d_JInt_bitCount_46 ?_
  refine zx_istore_n (lf := fun y => [some (.int y)]) G d_JInt_bitCount_47 (Nat.le_of_ble_eq_true rfl) (fun _ => rfl) h (fun x5 h => ?_)
  refine zx_iload_n G d_JInt_bitCount_48 rfl ?_
  refine zx_bipush (v := 63) G d_JInt_bitCount_49 rfl ?_
  refine zx_iand G d_JInt_bitCount_51 ?_
  exact zx_iret G d_JInt_bitCount_52 rfl h
set_option maxHeartbeats 4000000 in
set_option maxRecDepth 20000 in
theorem tf_A_multiplesOf_l4_0 {g : ZG} {E : ZE} {N : Nat} {rr : Int32 × ZMem} {p0 : Int32} (G : zGa g K_A_multiplesOf 0 E) : ∀ (n4 : Nat) (z3 : Int32) (z4 : Int32) (μ5 : ZMem), f_A_multiplesOf_l4 N p0 n4 z3 z4 μ5 = some rr → zX g K_A_multiplesOf 0 E (some (.int rr.1), rr.2) μ5 4 [some (.int p0), some (.int z3), some (.int z4)] [] := by
  intro n4
  induction n4 with
  | zero => intro z3 z4 μ5 h; cases h
  | succ n4 ih4 =>
    intro z3 z4 μ5 h
    simp only [f_A_multiplesOf_l4] at h
    refine zx_iload_n G d_A_multiplesOf_4 rfl ?_
    refine zx_bipush (v := 24) G d_A_multiplesOf_5 rfl ?_
    refine zx_icmp_ge (tgt := 32) G d_A_multiplesOf_7 rfl h (fun h => ?_) (fun h => ?_)
    · refine zx_iload_n G d_A_multiplesOf_32 rfl ?_
      exact zx_iret G d_A_multiplesOf_33 rfl h
    · refine zx_iload_n G d_A_multiplesOf_10 rfl ?_
      refine zx_join (P := fun k => ∀ (y6 : Int32) (μ7 : ZMem), k y6 μ7 = some rr → zX g K_A_multiplesOf 0 E (some (.int rr.1), rr.2) μ7 26 [some (.int p0), some (.int y6), some (.int z4)] []) h (fun y6 μ7 h => ?_) (fun k8 hk8 h => ?_)
      · try dsimp only at h
        refine zx_iinc (v := 1) (lf := fun y => [_, _, some (.int y)]) G d_A_multiplesOf_26 (Nat.le_of_ble_eq_true rfl) rfl rfl (fun _ => rfl) h (fun x9 h => ?_)
        refine zx_goto (tgt := 4) G d_A_multiplesOf_29 rfl ?_
        exact ih4 y6 x9 μ7 h
      try dsimp only at h
      refine zx_if_le (tgt := 26) G d_A_multiplesOf_11 rfl h (fun h => ?_) (fun h => ?_)
      · exact hk8 z3 μ5 h
      · refine zx_iload_n G d_A_multiplesOf_14 rfl ?_
        refine zx_iload_n G d_A_multiplesOf_15 rfl ?_
        refine zx_irem G d_A_multiplesOf_16 h (fun h => ?_)
        refine zx_if_ne (tgt := 26) G d_A_multiplesOf_17 rfl h (fun h => ?_) (fun h => ?_)
        · exact hk8 z3 μ5 h
        · refine zx_iload_n G d_A_multiplesOf_20 rfl ?_
          refine zx_iconst (v := 1) G d_A_multiplesOf_21 rfl ?_
          refine zx_iload_n G d_A_multiplesOf_22 rfl ?_
          refine zx_ishl G d_A_multiplesOf_23 ?_
          refine zx_ior G d_A_multiplesOf_24 ?_
          refine zx_istore_n (lf := fun y => [_, some (.int y), _]) G d_A_multiplesOf_25 (Nat.le_of_ble_eq_true rfl) (fun _ => rfl) h (fun x10 h => ?_)
          exact hk8 x10 μ5 h
set_option maxHeartbeats 4000000 in
set_option maxRecDepth 20000 in
theorem tf_A_multiplesOf_l4 {g : ZG} {E : ZE} {N n4 : Nat} {rr : Int32 × ZMem} {p0 : Int32} {z3 : Int32} {z4 : Int32} {μ5 : ZMem} (G : zGa g K_A_multiplesOf 0 E) (h : f_A_multiplesOf_l4 N p0 n4 z3 z4 μ5 = some rr) : zX g K_A_multiplesOf 0 E (some (.int rr.1), rr.2) μ5 4 [some (.int p0), some (.int z3), some (.int z4)] [] := tf_A_multiplesOf_l4_0 G n4 z3 z4 μ5 h
set_option maxHeartbeats 4000000 in
set_option maxRecDepth 20000 in
theorem t_A_multiplesOf {g : ZG} {l : Launch} {N : Nat} {μ : ZMem} {p0 : Int32} {rr : Int32 × ZMem} (h : f_A_multiplesOf N μ p0 = some rr) : zT g l 0 K_A_multiplesOf [.int p0] μ (some (.int rr.1), rr.2) := by
  refine zT_of (by decide +kernel) (Nat.le_of_ble_eq_true rfl) (fun E G => ?_)
  show zX g K_A_multiplesOf 0 E (some (.int rr.1), rr.2) μ 0 [some (.int p0), none, none] []
  unfold f_A_multiplesOf at h
  refine zx_iconst (v := 0) G d_A_multiplesOf_0 rfl ?_
  refine zx_istore_n (lf := fun y => [_, some (.int y), none]) G d_A_multiplesOf_1 (Nat.le_of_ble_eq_true rfl) (fun _ => rfl) h (fun x1 h => ?_)
  refine zx_iconst (v := 0) G d_A_multiplesOf_2 rfl ?_
  refine zx_istore_n (lf := fun y => [_, _, some (.int y)]) G d_A_multiplesOf_3 (Nat.le_of_ble_eq_true rfl) (fun _ => rfl) h (fun x2 h => ?_)
  refine tf_A_multiplesOf_l4 G h
set_option maxHeartbeats 4000000 in
set_option maxRecDepth 20000 in
theorem tf_A_mostAsksBehind_l24_0 {g : ZG} {E : ZE} {N : Nat} {rr : Int32 × ZMem} {rec : ZMem → Int32 → Int32 → Option (Int32 × ZMem)} {dr : Nat} {p0 : Int32} {p1 : Int32} {p2 : Int32} {x1 : Int32} {x4 : Int32} (G : zGa g K_A_mostAsksBehind (dr + 1) E) (hl0 : (0, 0) ∈ zids) (hdr : 0 ≤ dr) (hrec : ∀ {μ : ZMem} {p0 p1 : Int32} {rr : Int32 × ZMem}, rec μ p0 p1 = some rr → ∀ l : Launch, zT g l dr K_A_fewestAsks [.ref (g.2.1 0 0), .int p0, .int p1] μ (some (.int rr.1), rr.2)) : ∀ (n24 : Nat) (z7 : Int32) (z8 : Int32) (μ9 : ZMem), f_A_mostAsksBehind_l24 N rec p0 p1 p2 x1 x4 n24 z7 z8 μ9 = some rr → zX g K_A_mostAsksBehind (dr + 1) E (some (.int rr.1), rr.2) μ9 24 [some (.ref (g.2.1 0 0)), some (.int p0), some (.int p1), some (.int p2), some (.int x1), some (.int x4), some (.int z7), some (.int z8), none, none] [] := by
  intro n24
  induction n24 with
  | zero => intro z7 z8 μ9 h; cases h
  | succ n24 ih24 =>
    intro z7 z8 μ9 h
    simp only [f_A_mostAsksBehind_l24] at h
    refine zx_iload G d_A_mostAsksBehind_24 rfl ?_
    refine zx_iload G d_A_mostAsksBehind_26 rfl ?_
    refine zx_icmp_ge (tgt := 92) G d_A_mostAsksBehind_28 rfl h (fun h => ?_) (fun h => ?_)
    · refine zx_iload G d_A_mostAsksBehind_92 rfl ?_
      exact zx_iret G d_A_mostAsksBehind_94 rfl h
    · refine zx_iload G d_A_mostAsksBehind_31 rfl ?_
      refine zx_bipush (v := 24) G d_A_mostAsksBehind_33 rfl ?_
      refine zx_icmp_ge (tgt := 92) G d_A_mostAsksBehind_35 rfl h (fun h => ?_) (fun h => ?_)
      · refine zx_iload G d_A_mostAsksBehind_92 rfl ?_
        exact zx_iret G d_A_mostAsksBehind_94 rfl h
      · refine zx_iload_n G d_A_mostAsksBehind_38 rfl ?_
        refine zx_iload G d_A_mostAsksBehind_39 rfl ?_
        refine zx_iload G d_A_mostAsksBehind_41 rfl ?_
        refine zx_ishl G d_A_mostAsksBehind_43 ?_
        refine zx_iand G d_A_mostAsksBehind_44 ?_
        refine zx_istore (lf := fun y => [_, _, _, _, _, _, _, _, some (.int y), none]) G d_A_mostAsksBehind_45 (Nat.le_of_ble_eq_true rfl) (fun _ => rfl) h (fun x10 h => ?_)
        refine zx_iload G d_A_mostAsksBehind_47 rfl ?_
        refine zx_iload_n G d_A_mostAsksBehind_49 rfl ?_
        refine zx_join (P := fun k => ∀ (y11 : Int32) (μ12 : ZMem), k y11 μ12 = some rr → zX g K_A_mostAsksBehind (dr + 1) E (some (.int rr.1), rr.2) μ12 58 [some (.ref (g.2.1 0 0)), some (.int p0), some (.int p1), some (.int p2), some (.int x1), some (.int x4), some (.int z7), some (.int z8), some (.int x10), none] [.int y11]) h (fun y11 μ12 h => ?_) (fun k13 hk13 h => ?_)
        · try dsimp only at h
          refine zx_istore (lf := fun y => [_, _, _, _, _, _, _, _, _, some (.int y)]) G d_A_mostAsksBehind_58 (Nat.le_of_ble_eq_true rfl) (fun _ => rfl) h (fun x14 h => ?_)
          refine zx_iload G d_A_mostAsksBehind_60 rfl ?_
          refine zx_if_eq (tgt := 68) G d_A_mostAsksBehind_62 rfl h (fun h => ?_) (fun h => ?_)
          · refine zx_iload G d_A_mostAsksBehind_68 rfl ?_
            refine zx_aload_n G d_A_mostAsksBehind_70 rfl ?_
            refine zx_iload G d_A_mostAsksBehind_71 rfl ?_
            refine zx_iload_n G d_A_mostAsksBehind_73 rfl ?_
            refine zx_iconst (v := 1) G d_A_mostAsksBehind_74 rfl ?_
            refine zx_iload_n G d_A_mostAsksBehind_75 rfl ?_
            refine zx_ishl G d_A_mostAsksBehind_76 ?_
            refine zx_ior G d_A_mostAsksBehind_77 ?_
            obtain ⟨r16, μ15, hc, h⟩ := zbnd_of h
            refine zx_callVI (r := r16) (μ2 := μ15) G d_A_mostAsksBehind_78 zm_A_277 (fun l => hrec  hc l) rfl rfl (by omega) (Nat.le_of_ble_eq_true rfl) (zrecv zo_0 hl0) ?_
            refine zx_mmax G d_A_mostAsksBehind_81 zm_A_328 zMs_max zMi zMy_max (by omega) (Nat.le_of_ble_eq_true rfl) ?_
            refine zx_istore (lf := fun y => [_, _, _, _, _, _, some (.int y), _, _, _]) G d_A_mostAsksBehind_84 (Nat.le_of_ble_eq_true rfl) (fun _ => rfl) h (fun x17 h => ?_)
            refine zx_iinc (v := 1) (lf := fun y => [_, _, _, _, _, _, _, some (.int y), _, _]) G d_A_mostAsksBehind_86 (Nat.le_of_ble_eq_true rfl) rfl rfl (fun _ => rfl) h (fun x18 h => ?_)
            refine zx_goto (tgt := 24) G d_A_mostAsksBehind_89 rfl ?_
            refine zx_weak [true, true, true, true, true, true, true, true, false, false] (lv2 := [_, _, _, _, _, _, _, _, none, none]) rfl ?_
            exact ih24 x17 x18 μ15 h
          · refine zx_bipush (v := 100) G d_A_mostAsksBehind_65 rfl ?_
            exact zx_iret G d_A_mostAsksBehind_67 rfl h
        try dsimp only at h
        refine zx_icmp_ne (tgt := 57) G d_A_mostAsksBehind_50 rfl h (fun h => ?_) (fun h => ?_)
        · refine zx_iconst (v := 0) G d_A_mostAsksBehind_57 rfl ?_
          exact hk13 (0 : Int32) μ9 h
        · refine zx_iconst (v := 1) G d_A_mostAsksBehind_53 rfl ?_
          refine zx_goto (tgt := 58) G d_A_mostAsksBehind_54 rfl ?_
          exact hk13 (1 : Int32) μ9 h
set_option maxHeartbeats 4000000 in
set_option maxRecDepth 20000 in
theorem tf_A_mostAsksBehind_l24 {g : ZG} {E : ZE} {N n24 : Nat} {rr : Int32 × ZMem} {rec : ZMem → Int32 → Int32 → Option (Int32 × ZMem)} {dr : Nat} {p0 : Int32} {p1 : Int32} {p2 : Int32} {x1 : Int32} {x4 : Int32} {z7 : Int32} {z8 : Int32} {μ9 : ZMem} (G : zGa g K_A_mostAsksBehind (dr + 1) E) (hl0 : (0, 0) ∈ zids) (hdr : 0 ≤ dr) (hrec : ∀ {μ : ZMem} {p0 p1 : Int32} {rr : Int32 × ZMem}, rec μ p0 p1 = some rr → ∀ l : Launch, zT g l dr K_A_fewestAsks [.ref (g.2.1 0 0), .int p0, .int p1] μ (some (.int rr.1), rr.2)) (h : f_A_mostAsksBehind_l24 N rec p0 p1 p2 x1 x4 n24 z7 z8 μ9 = some rr) : zX g K_A_mostAsksBehind (dr + 1) E (some (.int rr.1), rr.2) μ9 24 [some (.ref (g.2.1 0 0)), some (.int p0), some (.int p1), some (.int p2), some (.int x1), some (.int x4), some (.int z7), some (.int z8), none, none] [] := tf_A_mostAsksBehind_l24_0 G hl0 hdr hrec n24 z7 z8 μ9 h
set_option maxHeartbeats 4000000 in
set_option maxRecDepth 20000 in
theorem t_A_mostAsksBehind {g : ZG} {l : Launch} {N : Nat} {μ : ZMem} {rec : ZMem → Int32 → Int32 → Option (Int32 × ZMem)} {dr : Nat} {p0 : Int32} {p1 : Int32} {p2 : Int32} (hdr : 0 ≤ dr) (hrec : ∀ {μ : ZMem} {p0 p1 : Int32} {rr : Int32 × ZMem}, rec μ p0 p1 = some rr → ∀ l : Launch, zT g l dr K_A_fewestAsks [.ref (g.2.1 0 0), .int p0, .int p1] μ (some (.int rr.1), rr.2)) {rr : Int32 × ZMem} (h : f_A_mostAsksBehind N rec μ p0 p1 p2 = some rr) : zT g l (dr + 1) K_A_mostAsksBehind [.ref (g.2.1 0 0), .int p0, .int p1, .int p2] μ (some (.int rr.1), rr.2) := by
  refine zT_of (by decide +kernel) (Nat.le_of_ble_eq_true rfl) (fun E G => ?_)
  show zX g K_A_mostAsksBehind (dr + 1) E (some (.int rr.1), rr.2) μ 0 [some (.ref (g.2.1 0 0)), some (.int p0), some (.int p1), some (.int p2), none, none, none, none, none, none] []
  unfold f_A_mostAsksBehind at h
  refine zx_aload_n G d_A_mostAsksBehind_0 rfl ?_
  refine zx_getR G d_A_mostAsksBehind_1 zf_A_35 zc_0_3 (zids_of 0 (Nat.le_of_ble_eq_true rfl) 0 (Nat.le_of_ble_eq_true rfl)) ?_
  refine zx_getR G d_A_mostAsksBehind_4 zf_A_274 zc_5_5 (zi_0_3 (zids_of 0 (Nat.le_of_ble_eq_true rfl) 0 (Nat.le_of_ble_eq_true rfl))) ?_
  refine zx_iload_n G d_A_mostAsksBehind_7 rfl ?_
  refine zx_iald G d_A_mostAsksBehind_8 za_27 (zi_5_5 (zi_0_3 (zids_of 0 (Nat.le_of_ble_eq_true rfl) 0 (Nat.le_of_ble_eq_true rfl)))) h (fun h => ?_)
  refine zx_istore (lf := fun y => [_, _, _, _, some (.int y), none, none, none, none, none]) G d_A_mostAsksBehind_9 (Nat.le_of_ble_eq_true rfl) (fun _ => rfl) h (fun x1 h => ?_)
  refine zx_iload G d_A_mostAsksBehind_11 rfl ?_
  obtain ⟨r3, μ2, hc, h⟩ := zbnd_of h
  refine zx_callSI (r := r3) (μ2 := μ2) G d_A_mostAsksBehind_13 zm_A_325 (fun l => t_A_multiplesOf  hc) rfl rfl (by omega) (Nat.le_of_ble_eq_true rfl) ?_
  refine zx_istore (lf := fun y => [_, _, _, _, _, some (.int y), none, none, none, none]) G d_A_mostAsksBehind_16 (Nat.le_of_ble_eq_true rfl) (fun _ => rfl) h (fun x4 h => ?_)
  refine zx_iconst (v := 0) G d_A_mostAsksBehind_18 rfl ?_
  refine zx_istore (lf := fun y => [_, _, _, _, _, _, some (.int y), none, none, none]) G d_A_mostAsksBehind_19 (Nat.le_of_ble_eq_true rfl) (fun _ => rfl) h (fun x5 h => ?_)
  refine zx_iconst (v := 0) G d_A_mostAsksBehind_21 rfl ?_
  refine zx_istore (lf := fun y => [_, _, _, _, _, _, _, some (.int y), none, none]) G d_A_mostAsksBehind_22 (Nat.le_of_ble_eq_true rfl) (fun _ => rfl) h (fun x6 h => ?_)
  refine tf_A_mostAsksBehind_l24 G (zids_of 0 (Nat.le_of_ble_eq_true rfl) 0 (Nat.le_of_ble_eq_true rfl)) hdr hrec h
set_option maxHeartbeats 4000000 in
set_option maxRecDepth 20000 in
theorem tf_A_fewestAsks_l16_0 {g : ZG} {E : ZE} {N : Nat} {rr : Int32 × ZMem} {rec : ZMem → Int32 → Int32 → Option (Int32 × ZMem)} {dr : Nat} {p0 : Int32} {p1 : Int32} (G : zGa g K_A_fewestAsks (dr + 2) E) (hl0 : (0, 0) ∈ zids) (hdr : 0 ≤ dr) (hrec : ∀ {μ : ZMem} {p0 p1 : Int32} {rr : Int32 × ZMem}, rec μ p0 p1 = some rr → ∀ l : Launch, zT g l dr K_A_fewestAsks [.ref (g.2.1 0 0), .int p0, .int p1] μ (some (.int rr.1), rr.2)) : ∀ (n16 : Nat) (z5 : Int32) (z6 : Int32) (μ7 : ZMem), f_A_fewestAsks_l16 N rec p0 p1 n16 z5 z6 μ7 = some rr → zX g K_A_fewestAsks (dr + 2) E (some (.int rr.1), rr.2) μ7 16 [some (.ref (g.2.1 0 0)), some (.int p0), some (.int p1), some (.int z5), some (.int z6)] [] := by
  intro n16
  induction n16 with
  | zero => intro z5 z6 μ7 h; cases h
  | succ n16 ih16 =>
    intro z5 z6 μ7 h
    simp only [f_A_fewestAsks_l16] at h
    refine zx_iload G d_A_fewestAsks_16 rfl ?_
    refine zx_aload_n G d_A_fewestAsks_18 rfl ?_
    refine zx_getR G d_A_fewestAsks_19 zf_A_35 zc_0_3 hl0 ?_
    refine zx_getI G d_A_fewestAsks_22 zf_A_271 zc_5_6 (zi_0_3 hl0) ?_
    refine zx_icmp_ge (tgt := 58) G d_A_fewestAsks_25 rfl h (fun h => ?_) (fun h => ?_)
    · refine zx_iload_n G d_A_fewestAsks_58 rfl ?_
      exact zx_iret G d_A_fewestAsks_59 rfl h
    · refine zx_iload_n G d_A_fewestAsks_28 rfl ?_
      refine zx_iconst (v := 1) G d_A_fewestAsks_29 rfl ?_
      refine zx_iload G d_A_fewestAsks_30 rfl ?_
      refine zx_ishl G d_A_fewestAsks_32 ?_
      refine zx_iand G d_A_fewestAsks_33 ?_
      refine zx_join (P := fun k => ∀ (y8 : Int32) (μ9 : ZMem), k y8 μ9 = some rr → zX g K_A_fewestAsks (dr + 2) E (some (.int rr.1), rr.2) μ9 52 [some (.ref (g.2.1 0 0)), some (.int p0), some (.int p1), some (.int y8), some (.int z6)] []) h (fun y8 μ9 h => ?_) (fun k10 hk10 h => ?_)
      · try dsimp only at h
        refine zx_iinc (v := 1) (lf := fun y => [_, _, _, _, some (.int y)]) G d_A_fewestAsks_52 (Nat.le_of_ble_eq_true rfl) rfl rfl (fun _ => rfl) h (fun x11 h => ?_)
        refine zx_goto (tgt := 16) G d_A_fewestAsks_55 rfl ?_
        exact ih16 y8 x11 μ9 h
      try dsimp only at h
      refine zx_if_ne (tgt := 52) G d_A_fewestAsks_34 rfl h (fun h => ?_) (fun h => ?_)
      · exact hk10 z5 μ7 h
      · refine zx_iload_n G d_A_fewestAsks_37 rfl ?_
        refine zx_iconst (v := 1) G d_A_fewestAsks_38 rfl ?_
        refine zx_aload_n G d_A_fewestAsks_39 rfl ?_
        refine zx_iload_n G d_A_fewestAsks_40 rfl ?_
        refine zx_iload G d_A_fewestAsks_41 rfl ?_
        refine zx_iload_n G d_A_fewestAsks_43 rfl ?_
        obtain ⟨r13, μ12, hc, h⟩ := zbnd_of h
        refine zx_callVI (r := r13) (μ2 := μ12) G d_A_fewestAsks_44 zm_A_321 (fun l => t_A_mostAsksBehind hdr hrec  hc) rfl rfl (by omega) (Nat.le_of_ble_eq_true rfl) (zrecv zo_0 hl0) ?_
        refine zx_iadd G d_A_fewestAsks_47 ?_
        refine zx_mmin G d_A_fewestAsks_48 zm_A_179 zMs_min zMi zMy_min (by omega) (Nat.le_of_ble_eq_true rfl) ?_
        refine zx_istore_n (lf := fun y => [_, _, _, some (.int y), _]) G d_A_fewestAsks_51 (Nat.le_of_ble_eq_true rfl) (fun _ => rfl) h (fun x14 h => ?_)
        exact hk10 x14 μ12 h
set_option maxHeartbeats 4000000 in
set_option maxRecDepth 20000 in
theorem tf_A_fewestAsks_l16 {g : ZG} {E : ZE} {N n16 : Nat} {rr : Int32 × ZMem} {rec : ZMem → Int32 → Int32 → Option (Int32 × ZMem)} {dr : Nat} {p0 : Int32} {p1 : Int32} {z5 : Int32} {z6 : Int32} {μ7 : ZMem} (G : zGa g K_A_fewestAsks (dr + 2) E) (hl0 : (0, 0) ∈ zids) (hdr : 0 ≤ dr) (hrec : ∀ {μ : ZMem} {p0 p1 : Int32} {rr : Int32 × ZMem}, rec μ p0 p1 = some rr → ∀ l : Launch, zT g l dr K_A_fewestAsks [.ref (g.2.1 0 0), .int p0, .int p1] μ (some (.int rr.1), rr.2)) (h : f_A_fewestAsks_l16 N rec p0 p1 n16 z5 z6 μ7 = some rr) : zX g K_A_fewestAsks (dr + 2) E (some (.int rr.1), rr.2) μ7 16 [some (.ref (g.2.1 0 0)), some (.int p0), some (.int p1), some (.int z5), some (.int z6)] [] := tf_A_fewestAsks_l16_0 G hl0 hdr hrec n16 z5 z6 μ7 h
set_option maxHeartbeats 4000000 in
set_option maxRecDepth 20000 in
theorem t_A_fewestAsks_b {g : ZG} {l : Launch} {N : Nat} {μ : ZMem} {rec : ZMem → Int32 → Int32 → Option (Int32 × ZMem)} {dr : Nat} {p0 : Int32} {p1 : Int32} (hdr : 0 ≤ dr) (hrec : ∀ {μ : ZMem} {p0 p1 : Int32} {rr : Int32 × ZMem}, rec μ p0 p1 = some rr → ∀ l : Launch, zT g l dr K_A_fewestAsks [.ref (g.2.1 0 0), .int p0, .int p1] μ (some (.int rr.1), rr.2)) {rr : Int32 × ZMem} (h : f_A_fewestAsks_b N rec μ p0 p1 = some rr) : zT g l (dr + 2) K_A_fewestAsks [.ref (g.2.1 0 0), .int p0, .int p1] μ (some (.int rr.1), rr.2) := by
  refine zT_of (by decide +kernel) (Nat.le_of_ble_eq_true rfl) (fun E G => ?_)
  show zX g K_A_fewestAsks (dr + 2) E (some (.int rr.1), rr.2) μ 0 [some (.ref (g.2.1 0 0)), some (.int p0), some (.int p1), none, none] []
  unfold f_A_fewestAsks_b at h
  refine zx_iload_n G d_A_fewestAsks_0 rfl ?_
  obtain ⟨r2, μ1, hc, h⟩ := zbnd_of h
  refine zx_callSI (r := r2) (μ2 := μ1) G d_A_fewestAsks_1 zm_A_316 (fun l => t_JInt_bitCount  hc) rfl rfl (by omega) (Nat.le_of_ble_eq_true rfl) ?_
  refine zx_iconst (v := 1) G d_A_fewestAsks_4 rfl ?_
  refine zx_icmp_gt (tgt := 10) G d_A_fewestAsks_5 rfl h (fun h => ?_) (fun h => ?_)
  · refine zx_bipush (v := 100) G d_A_fewestAsks_10 rfl ?_
    refine zx_istore_n (lf := fun y => [_, _, _, some (.int y), none]) G d_A_fewestAsks_12 (Nat.le_of_ble_eq_true rfl) (fun _ => rfl) h (fun x3 h => ?_)
    refine zx_iconst (v := 0) G d_A_fewestAsks_13 rfl ?_
    refine zx_istore (lf := fun y => [_, _, _, _, some (.int y)]) G d_A_fewestAsks_14 (Nat.le_of_ble_eq_true rfl) (fun _ => rfl) h (fun x4 h => ?_)
    refine tf_A_fewestAsks_l16 G (zids_of 0 (Nat.le_of_ble_eq_true rfl) 0 (Nat.le_of_ble_eq_true rfl)) hdr hrec h
  · refine zx_iconst (v := 0) G d_A_fewestAsks_8 rfl ?_
    exact zx_iret G d_A_fewestAsks_9 rfl h
set_option maxHeartbeats 4000000 in
set_option maxRecDepth 20000 in
theorem t_A_fewestAsks {g : ZG} {l : Launch} {N : Nat} : ∀ (D : Nat) {μ : ZMem} {p0 p1 : Int32} {rr : Int32 × ZMem} (h : f_A_fewestAsks N D μ p0 p1 = some rr), zT g l (2 * D) K_A_fewestAsks [.ref (g.2.1 0 0), .int p0, .int p1] μ (some (.int rr.1), rr.2) := by
  intro D
  induction D generalizing l with
  | zero => intro μ p0 p1 rr h; cases h
  | succ D ih =>
    intro μ p0 p1 rr h
    exact t_A_fewestAsks_b (dr := 2 * D) (Nat.zero_le _) (fun h1 l1 => ih h1) h
set_option maxHeartbeats 4000000 in
set_option maxRecDepth 20000 in
theorem tf_A_lowestFirstAsk_l8_0 {g : ZG} {E : ZE} {N : Nat} {rr : Int32 × ZMem} {p0 : Int32} {p1 : Int32} (G : zGa g K_A_lowestFirstAsk 18 E) (hl0 : (0, 0) ∈ zids) : ∀ (n8 : Nat) (z2 : Int32) (μ3 : ZMem), f_A_lowestFirstAsk_l8 N p0 p1 n8 z2 μ3 = some rr → zX g K_A_lowestFirstAsk 18 E (some (.int rr.1), rr.2) μ3 8 [some (.ref (g.2.1 0 0)), some (.int p0), some (.int p1), some (.int z2)] [] := by
  intro n8
  induction n8 with
  | zero => intro z2 μ3 h; cases h
  | succ n8 ih8 =>
    intro z2 μ3 h
    simp only [f_A_lowestFirstAsk_l8] at h
    refine zx_iload_n G d_A_lowestFirstAsk_8 rfl ?_
    refine zx_aload_n G d_A_lowestFirstAsk_9 rfl ?_
    refine zx_getR G d_A_lowestFirstAsk_10 zf_A_35 zc_0_3 hl0 ?_
    refine zx_getI G d_A_lowestFirstAsk_13 zf_A_271 zc_5_6 (zi_0_3 hl0) ?_
    refine zx_icmp_ge (tgt := 40) G d_A_lowestFirstAsk_16 rfl h (fun h => ?_) (fun h => ?_)
    · refine zx_iconst (v := -1) G d_A_lowestFirstAsk_40 rfl ?_
      exact zx_iret G d_A_lowestFirstAsk_41 rfl h
    · refine zx_iconst (v := 1) G d_A_lowestFirstAsk_19 rfl ?_
      refine zx_aload_n G d_A_lowestFirstAsk_20 rfl ?_
      refine zx_iload_n G d_A_lowestFirstAsk_21 rfl ?_
      refine zx_iload_n G d_A_lowestFirstAsk_22 rfl ?_
      refine zx_iconst (v := 0) G d_A_lowestFirstAsk_23 rfl ?_
      obtain ⟨r5, μ4, hc, h⟩ := zbnd_of h
      refine zx_callVI (r := r5) (μ2 := μ4) G d_A_lowestFirstAsk_24 zm_A_321 (fun l => t_A_mostAsksBehind (dr := 16) (Nat.zero_le _) (fun h1 l1 => t_A_fewestAsks 8 h1)  hc) rfl rfl (Nat.le_of_ble_eq_true rfl) (Nat.le_of_ble_eq_true rfl) (zrecv zo_0 hl0) ?_
      refine zx_iadd G d_A_lowestFirstAsk_27 ?_
      refine zx_iload_n G d_A_lowestFirstAsk_28 rfl ?_
      refine zx_icmp_ne (tgt := 34) G d_A_lowestFirstAsk_29 rfl h (fun h => ?_) (fun h => ?_)
      · refine zx_iinc (v := 1) (lf := fun y => [_, _, _, some (.int y)]) G d_A_lowestFirstAsk_34 (Nat.le_of_ble_eq_true rfl) rfl rfl (fun _ => rfl) h (fun x6 h => ?_)
        refine zx_goto (tgt := 8) G d_A_lowestFirstAsk_37 rfl ?_
        exact ih8 x6 μ4 h
      · refine zx_iload_n G d_A_lowestFirstAsk_32 rfl ?_
        exact zx_iret G d_A_lowestFirstAsk_33 rfl h
set_option maxHeartbeats 4000000 in
set_option maxRecDepth 20000 in
theorem tf_A_lowestFirstAsk_l8 {g : ZG} {E : ZE} {N n8 : Nat} {rr : Int32 × ZMem} {p0 : Int32} {p1 : Int32} {z2 : Int32} {μ3 : ZMem} (G : zGa g K_A_lowestFirstAsk 18 E) (hl0 : (0, 0) ∈ zids) (h : f_A_lowestFirstAsk_l8 N p0 p1 n8 z2 μ3 = some rr) : zX g K_A_lowestFirstAsk 18 E (some (.int rr.1), rr.2) μ3 8 [some (.ref (g.2.1 0 0)), some (.int p0), some (.int p1), some (.int z2)] [] := tf_A_lowestFirstAsk_l8_0 G hl0 n8 z2 μ3 h
set_option maxHeartbeats 4000000 in
set_option maxRecDepth 20000 in
theorem t_A_lowestFirstAsk {g : ZG} {l : Launch} {N : Nat} {μ : ZMem} {p0 : Int32} {p1 : Int32} {rr : Int32 × ZMem} (h : f_A_lowestFirstAsk N μ p0 p1 = some rr) : zT g l 18 K_A_lowestFirstAsk [.ref (g.2.1 0 0), .int p0, .int p1] μ (some (.int rr.1), rr.2) := by
  refine zT_of (by decide +kernel) (Nat.le_of_ble_eq_true rfl) (fun E G => ?_)
  show zX g K_A_lowestFirstAsk 18 E (some (.int rr.1), rr.2) μ 0 [some (.ref (g.2.1 0 0)), some (.int p0), some (.int p1), none] []
  unfold f_A_lowestFirstAsk at h
  refine zx_iload_n G d_A_lowestFirstAsk_0 rfl ?_
  refine zx_if_ne (tgt := 6) G d_A_lowestFirstAsk_1 rfl h (fun h => ?_) (fun h => ?_)
  · refine zx_iconst (v := 0) G d_A_lowestFirstAsk_6 rfl ?_
    refine zx_istore_n (lf := fun y => [_, _, _, some (.int y)]) G d_A_lowestFirstAsk_7 (Nat.le_of_ble_eq_true rfl) (fun _ => rfl) h (fun x1 h => ?_)
    refine tf_A_lowestFirstAsk_l8 G (zids_of 0 (Nat.le_of_ble_eq_true rfl) 0 (Nat.le_of_ble_eq_true rfl)) h
  · refine zx_iconst (v := -1) G d_A_lowestFirstAsk_4 rfl ?_
    exact zx_iret G d_A_lowestFirstAsk_5 rfl h
set_option maxHeartbeats 4000000 in
set_option maxRecDepth 20000 in
theorem t_A_known {g : ZG} {l : Launch} {N : Nat} {μ : ZMem} {p0 : Int32} {p1 : Int32} {rr : Int32 × ZMem} (h : f_A_known N μ p0 p1 = some rr) : zT g l 19 K_A_known [.ref (g.2.1 0 0), .int p0, .int p1] μ (some (.int rr.1), rr.2) := by
  refine zT_of (by decide +kernel) (Nat.le_of_ble_eq_true rfl) (fun E G => ?_)
  show zX g K_A_known 19 E (some (.int rr.1), rr.2) μ 0 [some (.ref (g.2.1 0 0)), some (.int p0), some (.int p1), none, none] []
  unfold f_A_known at h
  refine zx_iload_n G d_A_known_0 rfl ?_
  refine zx_iconst (v := 1) G d_A_known_1 rfl ?_
  refine zx_icmp_lt (tgt := 11) G d_A_known_2 rfl h (fun h => ?_) (fun h => ?_)
  · refine zx_iconst (v := -1) G d_A_known_11 rfl ?_
    exact zx_iret G d_A_known_12 rfl h
  · refine zx_iload_n G d_A_known_5 rfl ?_
    refine zx_bipush (v := 24) G d_A_known_6 rfl ?_
    refine zx_icmp_le (tgt := 13) G d_A_known_8 rfl h (fun h => ?_) (fun h => ?_)
    · refine zx_iconst (v := 1) G d_A_known_13 rfl ?_
      refine zx_iload_n G d_A_known_14 rfl ?_
      refine zx_ishl G d_A_known_15 ?_
      refine zx_iconst (v := 1) G d_A_known_16 rfl ?_
      refine zx_isub G d_A_known_17 ?_
      refine zx_istore_n (lf := fun y => [_, _, _, some (.int y), none]) G d_A_known_18 (Nat.le_of_ble_eq_true rfl) (fun _ => rfl) h (fun x1 h => ?_)
      refine zx_aload_n G d_A_known_19 rfl ?_
      refine zx_iload_n G d_A_known_20 rfl ?_
      refine zx_iconst (v := 0) G d_A_known_21 rfl ?_
      obtain ⟨r3, μ2, hc, h⟩ := zbnd_of h
      refine zx_callVI (r := r3) (μ2 := μ2) G d_A_known_22 zm_A_277 (fun l => t_A_fewestAsks 8  hc) rfl rfl (Nat.le_of_ble_eq_true rfl) (Nat.le_of_ble_eq_true rfl) (zrecv zo_0 (zids_of 0 (Nat.le_of_ble_eq_true rfl) 0 (Nat.le_of_ble_eq_true rfl))) ?_
      refine zx_istore (lf := fun y => [_, _, _, _, some (.int y)]) G d_A_known_25 (Nat.le_of_ble_eq_true rfl) (fun _ => rfl) h (fun x4 h => ?_)
      refine zx_iload G d_A_known_27 rfl ?_
      refine zx_bipush (v := 100) G d_A_known_29 rfl ?_
      refine zx_icmp_lt (tgt := 36) G d_A_known_31 rfl h (fun h => ?_) (fun h => ?_)
      · refine zx_iload_n G d_A_known_36 rfl ?_
        refine zx_if_eq (tgt := 50) G d_A_known_37 rfl h (fun h => ?_) (fun h => ?_)
        · refine zx_iload G d_A_known_50 rfl ?_
          exact zx_iret G d_A_known_52 rfl h
        · refine zx_aload_n G d_A_known_40 rfl ?_
          refine zx_iload_n G d_A_known_41 rfl ?_
          refine zx_iload G d_A_known_42 rfl ?_
          obtain ⟨r6, μ5, hc, h⟩ := zbnd_of h
          refine zx_callVI (r := r6) (μ2 := μ5) G d_A_known_44 zm_A_280 (fun l => t_A_lowestFirstAsk  hc) rfl rfl (Nat.le_of_ble_eq_true rfl) (Nat.le_of_ble_eq_true rfl) (zrecv zo_0 (zids_of 0 (Nat.le_of_ble_eq_true rfl) 0 (Nat.le_of_ble_eq_true rfl))) ?_
          refine zx_goto (tgt := 52) G d_A_known_47 rfl ?_
          exact zx_iret G d_A_known_52 rfl h
      · refine zx_iconst (v := -1) G d_A_known_34 rfl ?_
        exact zx_iret G d_A_known_35 rfl h
    · refine zx_iconst (v := -1) G d_A_known_11 rfl ?_
      exact zx_iret G d_A_known_12 rfl h
set_option maxHeartbeats 4000000 in
set_option maxRecDepth 20000 in
theorem tf_Tape_marks_l4_0 {g : ZG} {E : ZE} {N : Nat} {rr : Int32 × ZMem} {kx59 : Int32 → ZMem → Option (Int32 × ZMem)} (G : zGa g K_Tape_marks 0 E) (hl0 : (1, 0) ∈ zids) (hkx59 : ∀ (w1 : Int32) (μ : ZMem), kx59 w1 μ = some rr → zX g K_Tape_marks 0 E (some (.int rr.1), rr.2) μ 59 [some (.ref (g.2.1 1 0)), some (.int w1), none] []) : ∀ (n4 : Nat) (z3 : Int32) (z4 : Int32) (μ5 : ZMem), f_Tape_marks_l4 N kx59 n4 z3 z4 μ5 = some rr → zX g K_Tape_marks 0 E (some (.int rr.1), rr.2) μ5 4 [some (.ref (g.2.1 1 0)), some (.int z3), some (.int z4)] [] := by
  intro n4
  induction n4 with
  | zero => intro z3 z4 μ5 h; cases h
  | succ n4 ih4 =>
    intro z3 z4 μ5 h
    simp only [f_Tape_marks_l4] at h
    refine zx_iload_n G d_Tape_marks_4 rfl ?_
    refine zx_aload_n G d_Tape_marks_5 rfl ?_
    refine zx_getI G d_Tape_marks_6 zf_Tape_15 zc_1_1 hl0 ?_
    refine zx_icmp_ge (tgt := 59) G d_Tape_marks_9 rfl h (fun h => ?_) (fun h => ?_)
    · refine zx_weak [true, true, false] (lv2 := [_, _, none]) rfl ?_
      exact hkx59 z3 μ5 h
    · refine zx_aload_n G d_Tape_marks_12 rfl ?_
      refine zx_getR G d_Tape_marks_13 zf_Tape_11 zc_1_0 hl0 ?_
      refine zx_iload_n G d_Tape_marks_16 rfl ?_
      refine zx_bald G d_Tape_marks_17 za_20 (zi_1_0 hl0) h (fun h => ?_)
      refine zx_bipush (v := 63) G d_Tape_marks_18 rfl ?_
      refine zx_join (P := fun k => ∀ (y6 : Int32) (μ7 : ZMem), k y6 μ7 = some rr → zX g K_Tape_marks 0 E (some (.int rr.1), rr.2) μ7 53 [some (.ref (g.2.1 1 0)), some (.int y6), some (.int z4)] []) h (fun y6 μ7 h => ?_) (fun k8 hk8 h => ?_)
      · try dsimp only at h
        refine zx_iinc (v := 1) (lf := fun y => [_, _, some (.int y)]) G d_Tape_marks_53 (Nat.le_of_ble_eq_true rfl) rfl rfl (fun _ => rfl) h (fun x9 h => ?_)
        refine zx_goto (tgt := 4) G d_Tape_marks_56 rfl ?_
        exact ih4 y6 x9 μ7 h
      try dsimp only at h
      refine zx_icmp_ne (tgt := 29) G d_Tape_marks_20 rfl h (fun h => ?_) (fun h => ?_)
      · refine zx_aload_n G d_Tape_marks_29 rfl ?_
        refine zx_getR G d_Tape_marks_30 zf_Tape_11 zc_1_0 hl0 ?_
        refine zx_iload_n G d_Tape_marks_33 rfl ?_
        refine zx_bald G d_Tape_marks_34 za_20 (zi_1_0 hl0) h (fun h => ?_)
        refine zx_bipush (v := 48) G d_Tape_marks_35 rfl ?_
        refine zx_icmp_lt (tgt := 51) G d_Tape_marks_37 rfl h (fun h => ?_) (fun h => ?_)
        · refine zx_iconst (v := -1) G d_Tape_marks_51 rfl ?_
          exact zx_iret G d_Tape_marks_52 rfl h
        · refine zx_aload_n G d_Tape_marks_40 rfl ?_
          refine zx_getR G d_Tape_marks_41 zf_Tape_11 zc_1_0 hl0 ?_
          refine zx_iload_n G d_Tape_marks_44 rfl ?_
          refine zx_bald G d_Tape_marks_45 za_20 (zi_1_0 hl0) h (fun h => ?_)
          refine zx_bipush (v := 57) G d_Tape_marks_46 rfl ?_
          refine zx_icmp_le (tgt := 53) G d_Tape_marks_48 rfl h (fun h => ?_) (fun h => ?_)
          · exact hk8 z3 μ5 h
          · refine zx_iconst (v := -1) G d_Tape_marks_51 rfl ?_
            exact zx_iret G d_Tape_marks_52 rfl h
      · refine zx_iinc (v := 1) (lf := fun y => [_, some (.int y), _]) G d_Tape_marks_23 (Nat.le_of_ble_eq_true rfl) rfl rfl (fun _ => rfl) h (fun x10 h => ?_)
        refine zx_goto (tgt := 53) G d_Tape_marks_26 rfl ?_
        exact hk8 x10 μ5 h
set_option maxHeartbeats 4000000 in
set_option maxRecDepth 20000 in
theorem tf_Tape_marks_l4 {g : ZG} {E : ZE} {N n4 : Nat} {rr : Int32 × ZMem} {kx59 : Int32 → ZMem → Option (Int32 × ZMem)} {z3 : Int32} {z4 : Int32} {μ5 : ZMem} (G : zGa g K_Tape_marks 0 E) (hl0 : (1, 0) ∈ zids) (h : f_Tape_marks_l4 N kx59 n4 z3 z4 μ5 = some rr) (hkx59 : ∀ (w1 : Int32) (μ : ZMem), kx59 w1 μ = some rr → zX g K_Tape_marks 0 E (some (.int rr.1), rr.2) μ 59 [some (.ref (g.2.1 1 0)), some (.int w1), none] []) : zX g K_Tape_marks 0 E (some (.int rr.1), rr.2) μ5 4 [some (.ref (g.2.1 1 0)), some (.int z3), some (.int z4)] [] := tf_Tape_marks_l4_0 G hl0 hkx59 n4 z3 z4 μ5 h
set_option maxHeartbeats 4000000 in
set_option maxRecDepth 20000 in
theorem t_Tape_marks {g : ZG} {l : Launch} {N : Nat} {μ : ZMem} {rr : Int32 × ZMem} (h : f_Tape_marks N μ = some rr) : zT g l 0 K_Tape_marks [.ref (g.2.1 1 0)] μ (some (.int rr.1), rr.2) := by
  refine zT_of (by decide +kernel) (Nat.le_of_ble_eq_true rfl) (fun E G => ?_)
  show zX g K_Tape_marks 0 E (some (.int rr.1), rr.2) μ 0 [some (.ref (g.2.1 1 0)), none, none] []
  unfold f_Tape_marks at h
  refine zx_iconst (v := 0) G d_Tape_marks_0 rfl ?_
  refine zx_istore_n (lf := fun y => [_, some (.int y), none]) G d_Tape_marks_1 (Nat.le_of_ble_eq_true rfl) (fun _ => rfl) h (fun x1 h => ?_)
  refine zx_iconst (v := 0) G d_Tape_marks_2 rfl ?_
  refine zx_istore_n (lf := fun y => [_, _, some (.int y)]) G d_Tape_marks_3 (Nat.le_of_ble_eq_true rfl) (fun _ => rfl) h (fun x2 h => ?_)
  refine tf_Tape_marks_l4 G (zids_of 1 (Nat.le_of_ble_eq_true rfl) 0 (Nat.le_of_ble_eq_true rfl)) h (fun x11 μ12 h => ?_)
  · try dsimp only at h
    refine zx_aload_n G d_Tape_marks_59 rfl ?_
    refine zx_getI G d_Tape_marks_60 zf_Tape_15 zc_1_1 (zids_of 1 (Nat.le_of_ble_eq_true rfl) 0 (Nat.le_of_ble_eq_true rfl)) ?_
    refine zx_join (P := fun k => ∀ (μ13 : ZMem), k μ13 = some rr → zX g K_Tape_marks 0 E (some (.int rr.1), rr.2) μ13 71 [none, none, none] []) h (fun μ13 h => ?_) (fun k14 hk14 h => ?_)
    · try dsimp only at h
      refine zx_iconst (v := -1) G d_Tape_marks_71 rfl ?_
      refine zx_goto (tgt := 76) G d_Tape_marks_72 rfl ?_
      exact zx_iret G d_Tape_marks_76 rfl h
    try dsimp only at h
    refine zx_if_eq (tgt := 71) G d_Tape_marks_63 rfl h (fun h => ?_) (fun h => ?_)
    · refine zx_weak [false, false, false] (lv2 := [none, none, none]) rfl ?_
      exact hk14 μ12 h
    · refine zx_iload_n G d_Tape_marks_66 rfl ?_
      refine zx_iconst (v := 1) G d_Tape_marks_67 rfl ?_
      refine zx_icmp_le (tgt := 75) G d_Tape_marks_68 rfl h (fun h => ?_) (fun h => ?_)
      · refine zx_iload_n G d_Tape_marks_75 rfl ?_
        exact zx_iret G d_Tape_marks_76 rfl h
      · refine zx_weak [false, false, false] (lv2 := [none, none, none]) rfl ?_
        exact hk14 μ12 h
set_option maxHeartbeats 4000000 in
set_option maxRecDepth 20000 in
theorem tf_Tape_restBy_l5_0 {g : ZG} {E : ZE} {N : Nat} {rr : Int32 × ZMem} {p0 : Int32} {p1 : Int32} (G : zGa g K_Tape_restBy 0 E) (hl0 : (1, 0) ∈ zids) : ∀ (n5 : Nat) (z3 : Int32) (z4 : Int32) (μ5 : ZMem), f_Tape_restBy_l5 N p0 p1 n5 z3 z4 μ5 = some rr → zX g K_Tape_restBy 0 E (some (.int rr.1), rr.2) μ5 5 [some (.ref (g.2.1 1 0)), some (.int p0), some (.int p1), some (.int z3), some (.int z4), none] [] := by
  intro n5
  induction n5 with
  | zero => intro z3 z4 μ5 h; cases h
  | succ n5 ih5 =>
    intro z3 z4 μ5 h
    simp only [f_Tape_restBy_l5] at h
    refine zx_iload G d_Tape_restBy_5 rfl ?_
    refine zx_aload_n G d_Tape_restBy_7 rfl ?_
    refine zx_getI G d_Tape_restBy_8 zf_Tape_15 zc_1_1 hl0 ?_
    refine zx_icmp_ge (tgt := 62) G d_Tape_restBy_11 rfl h (fun h => ?_) (fun h => ?_)
    · refine zx_iload_n G d_Tape_restBy_62 rfl ?_
      exact zx_iret G d_Tape_restBy_63 rfl h
    · refine zx_iload_n G d_Tape_restBy_14 rfl ?_
      refine zx_if_le (tgt := 62) G d_Tape_restBy_15 rfl h (fun h => ?_) (fun h => ?_)
      · refine zx_iload_n G d_Tape_restBy_62 rfl ?_
        exact zx_iret G d_Tape_restBy_63 rfl h
      · refine zx_aload_n G d_Tape_restBy_18 rfl ?_
        refine zx_getR G d_Tape_restBy_19 zf_Tape_11 zc_1_0 hl0 ?_
        refine zx_iload G d_Tape_restBy_22 rfl ?_
        refine zx_bald G d_Tape_restBy_24 za_20 (zi_1_0 hl0) h (fun h => ?_)
        refine zx_bipush (v := 63) G d_Tape_restBy_25 rfl ?_
        refine zx_join (P := fun k => ∀ (y6 : Int32) (μ7 : ZMem), k y6 μ7 = some rr → zX g K_Tape_restBy 0 E (some (.int rr.1), rr.2) μ7 44 [some (.ref (g.2.1 1 0)), some (.int p0), some (.int p1), some (.int z3), some (.int z4), none] [.int y6]) h (fun y6 μ7 h => ?_) (fun k8 hk8 h => ?_)
        · try dsimp only at h
          refine zx_istore (lf := fun y => [_, _, _, _, _, some (.int y)]) G d_Tape_restBy_44 (Nat.le_of_ble_eq_true rfl) (fun _ => rfl) h (fun x9 h => ?_)
          refine zx_iload_n G d_Tape_restBy_46 rfl ?_
          refine zx_bipush (v := 10) G d_Tape_restBy_47 rfl ?_
          refine zx_imul G d_Tape_restBy_49 ?_
          refine zx_iload G d_Tape_restBy_50 rfl ?_
          refine zx_iadd G d_Tape_restBy_52 ?_
          refine zx_iload_n G d_Tape_restBy_53 rfl ?_
          refine zx_irem G d_Tape_restBy_54 h (fun h => ?_)
          refine zx_istore_n (lf := fun y => [_, _, _, some (.int y), _, _]) G d_Tape_restBy_55 (Nat.le_of_ble_eq_true rfl) (fun _ => rfl) h (fun x10 h => ?_)
          refine zx_iinc (v := 1) (lf := fun y => [_, _, _, _, some (.int y), _]) G d_Tape_restBy_56 (Nat.le_of_ble_eq_true rfl) rfl rfl (fun _ => rfl) h (fun x11 h => ?_)
          refine zx_goto (tgt := 5) G d_Tape_restBy_59 rfl ?_
          refine zx_weak [true, true, true, true, true, false] (lv2 := [_, _, _, _, _, none]) rfl ?_
          exact ih5 x10 x11 μ7 h
        try dsimp only at h
        refine zx_icmp_ne (tgt := 34) G d_Tape_restBy_27 rfl h (fun h => ?_) (fun h => ?_)
        · refine zx_aload_n G d_Tape_restBy_34 rfl ?_
          refine zx_getR G d_Tape_restBy_35 zf_Tape_11 zc_1_0 hl0 ?_
          refine zx_iload G d_Tape_restBy_38 rfl ?_
          refine zx_bald G d_Tape_restBy_40 za_20 (zi_1_0 hl0) h (fun h => ?_)
          refine zx_bipush (v := 48) G d_Tape_restBy_41 rfl ?_
          refine zx_isub G d_Tape_restBy_43 ?_
          exact hk8 ((μ5.1 20 0 z4.toNatClampNeg) - (48 : Int32)) μ5 h
        · refine zx_iload_n G d_Tape_restBy_30 rfl ?_
          refine zx_goto (tgt := 44) G d_Tape_restBy_31 rfl ?_
          exact hk8 p1 μ5 h
set_option maxHeartbeats 4000000 in
set_option maxRecDepth 20000 in
theorem tf_Tape_restBy_l5 {g : ZG} {E : ZE} {N n5 : Nat} {rr : Int32 × ZMem} {p0 : Int32} {p1 : Int32} {z3 : Int32} {z4 : Int32} {μ5 : ZMem} (G : zGa g K_Tape_restBy 0 E) (hl0 : (1, 0) ∈ zids) (h : f_Tape_restBy_l5 N p0 p1 n5 z3 z4 μ5 = some rr) : zX g K_Tape_restBy 0 E (some (.int rr.1), rr.2) μ5 5 [some (.ref (g.2.1 1 0)), some (.int p0), some (.int p1), some (.int z3), some (.int z4), none] [] := tf_Tape_restBy_l5_0 G hl0 n5 z3 z4 μ5 h
set_option maxHeartbeats 4000000 in
set_option maxRecDepth 20000 in
theorem t_Tape_restBy {g : ZG} {l : Launch} {N : Nat} {μ : ZMem} {p0 : Int32} {p1 : Int32} {rr : Int32 × ZMem} (h : f_Tape_restBy N μ p0 p1 = some rr) : zT g l 0 K_Tape_restBy [.ref (g.2.1 1 0), .int p0, .int p1] μ (some (.int rr.1), rr.2) := by
  refine zT_of (by decide +kernel) (Nat.le_of_ble_eq_true rfl) (fun E G => ?_)
  show zX g K_Tape_restBy 0 E (some (.int rr.1), rr.2) μ 0 [some (.ref (g.2.1 1 0)), some (.int p0), some (.int p1), none, none, none] []
  unfold f_Tape_restBy at h
  refine zx_iconst (v := 0) G d_Tape_restBy_0 rfl ?_
  refine zx_istore_n (lf := fun y => [_, _, _, some (.int y), none, none]) G d_Tape_restBy_1 (Nat.le_of_ble_eq_true rfl) (fun _ => rfl) h (fun x1 h => ?_)
  refine zx_iconst (v := 0) G d_Tape_restBy_2 rfl ?_
  refine zx_istore (lf := fun y => [_, _, _, _, some (.int y), none]) G d_Tape_restBy_3 (Nat.le_of_ble_eq_true rfl) (fun _ => rfl) h (fun x2 h => ?_)
  refine tf_Tape_restBy_l5 G (zids_of 1 (Nat.le_of_ble_eq_true rfl) 0 (Nat.le_of_ble_eq_true rfl)) h
set_option maxHeartbeats 4000000 in
set_option maxRecDepth 20000 in
theorem t_A_rest {g : ZG} {l : Launch} {N : Nat} {μ : ZMem} {p0 : Int32} {rr : Int32 × ZMem} (h : f_A_rest N μ p0 = some rr) : zT g l 1 K_A_rest [.ref (g.2.1 0 0), .int p0] μ (some (.int rr.1), rr.2) := by
  refine zT_of (by decide +kernel) (Nat.le_of_ble_eq_true rfl) (fun E G => ?_)
  show zX g K_A_rest 1 E (some (.int rr.1), rr.2) μ 0 [some (.ref (g.2.1 0 0)), some (.int p0)] []
  unfold f_A_rest at h
  refine zx_iload_n G d_A_rest_0 rfl ?_
  refine zx_iconst (v := 1) G d_A_rest_1 rfl ?_
  refine zx_icmp_lt (tgt := 22) G d_A_rest_2 rfl h (fun h => ?_) (fun h => ?_)
  · refine zx_iconst (v := -1) G d_A_rest_22 rfl ?_
    exact zx_iret G d_A_rest_23 rfl h
  · refine zx_iload_n G d_A_rest_5 rfl ?_
    refine zx_sipush (v := 9999) G d_A_rest_6 rfl ?_
    refine zx_icmp_gt (tgt := 22) G d_A_rest_9 rfl h (fun h => ?_) (fun h => ?_)
    · refine zx_iconst (v := -1) G d_A_rest_22 rfl ?_
      exact zx_iret G d_A_rest_23 rfl h
    · refine zx_aload_n G d_A_rest_12 rfl ?_
      refine zx_getR G d_A_rest_13 zf_A_10 zc_0_0 (zids_of 0 (Nat.le_of_ble_eq_true rfl) 0 (Nat.le_of_ble_eq_true rfl)) ?_
      obtain ⟨r2, μ1, hc, h⟩ := zbnd_of h
      refine zx_callVI (r := r2) (μ2 := μ1) G d_A_rest_16 zm_A_283 (fun l => t_Tape_marks  hc) rfl rfl (Nat.le_of_ble_eq_true rfl) (Nat.le_of_ble_eq_true rfl) (zrecv zo_1 (zi_0_0 (zids_of 0 (Nat.le_of_ble_eq_true rfl) 0 (Nat.le_of_ble_eq_true rfl)))) ?_
      refine zx_if_eq (tgt := 24) G d_A_rest_19 rfl h (fun h => ?_) (fun h => ?_)
      · refine zx_aload_n G d_A_rest_24 rfl ?_
        refine zx_getR G d_A_rest_25 zf_A_10 zc_0_0 (zids_of 0 (Nat.le_of_ble_eq_true rfl) 0 (Nat.le_of_ble_eq_true rfl)) ?_
        refine zx_iload_n G d_A_rest_28 rfl ?_
        refine zx_iconst (v := 0) G d_A_rest_29 rfl ?_
        obtain ⟨r4, μ3, hc, h⟩ := zbnd_of h
        refine zx_callVI (r := r4) (μ2 := μ3) G d_A_rest_30 zm_A_287 (fun l => t_Tape_restBy  hc) rfl rfl (Nat.le_of_ble_eq_true rfl) (Nat.le_of_ble_eq_true rfl) (zrecv zo_1 (zi_0_0 (zids_of 0 (Nat.le_of_ble_eq_true rfl) 0 (Nat.le_of_ble_eq_true rfl)))) ?_
        exact zx_iret G d_A_rest_33 rfl h
      · refine zx_iconst (v := -1) G d_A_rest_22 rfl ?_
        exact zx_iret G d_A_rest_23 rfl h
set_option maxHeartbeats 4000000 in
set_option maxRecDepth 20000 in
theorem tf_A_struck_l29_0 {g : ZG} {E : ZE} {N : Nat} {rr : Int32 × ZMem} {p0 : Int32} (G : zGa g K_A_struck 1 E) (hl0 : (0, 0) ∈ zids) : ∀ (n29 : Nat) (z5 : Int32) (z6 : Int32) (μ7 : ZMem), f_A_struck_l29 N p0 n29 z5 z6 μ7 = some rr → zX g K_A_struck 1 E (some (.int rr.1), rr.2) μ7 29 [some (.ref (g.2.1 0 0)), some (.int p0), some (.int z5), some (.int z6)] [] := by
  intro n29
  induction n29 with
  | zero => intro z5 z6 μ7 h; cases h
  | succ n29 ih29 =>
    intro z5 z6 μ7 h
    simp only [f_A_struck_l29] at h
    refine zx_iload_n G d_A_struck_29 rfl ?_
    refine zx_bipush (v := 10) G d_A_struck_30 rfl ?_
    refine zx_icmp_ge (tgt := 59) G d_A_struck_32 rfl h (fun h => ?_) (fun h => ?_)
    · refine zx_iload_n G d_A_struck_59 rfl ?_
      exact zx_iret G d_A_struck_60 rfl h
    · refine zx_aload_n G d_A_struck_35 rfl ?_
      refine zx_getR G d_A_struck_36 zf_A_10 zc_0_0 hl0 ?_
      refine zx_iload_n G d_A_struck_39 rfl ?_
      refine zx_iload_n G d_A_struck_40 rfl ?_
      obtain ⟨r9, μ8, hc, h⟩ := zbnd_of h
      refine zx_callVI (r := r9) (μ2 := μ8) G d_A_struck_41 zm_A_287 (fun l => t_Tape_restBy  hc) rfl rfl (Nat.le_of_ble_eq_true rfl) (Nat.le_of_ble_eq_true rfl) (zrecv zo_1 (zi_0_0 hl0)) ?_
      refine zx_join (P := fun k => ∀ (y10 : Int32) (μ11 : ZMem), k y10 μ11 = some rr → zX g K_A_struck 1 E (some (.int rr.1), rr.2) μ11 53 [some (.ref (g.2.1 0 0)), some (.int p0), some (.int y10), some (.int z6)] []) h (fun y10 μ11 h => ?_) (fun k12 hk12 h => ?_)
      · try dsimp only at h
        refine zx_iinc (v := 1) (lf := fun y => [_, _, _, some (.int y)]) G d_A_struck_53 (Nat.le_of_ble_eq_true rfl) rfl rfl (fun _ => rfl) h (fun x13 h => ?_)
        refine zx_goto (tgt := 29) G d_A_struck_56 rfl ?_
        exact ih29 y10 x13 μ11 h
      try dsimp only at h
      refine zx_if_ne (tgt := 53) G d_A_struck_44 rfl h (fun h => ?_) (fun h => ?_)
      · exact hk12 z5 μ8 h
      · refine zx_iload_n G d_A_struck_47 rfl ?_
        refine zx_iconst (v := 1) G d_A_struck_48 rfl ?_
        refine zx_iload_n G d_A_struck_49 rfl ?_
        refine zx_ishl G d_A_struck_50 ?_
        refine zx_ior G d_A_struck_51 ?_
        refine zx_istore_n (lf := fun y => [_, _, some (.int y), _]) G d_A_struck_52 (Nat.le_of_ble_eq_true rfl) (fun _ => rfl) h (fun x14 h => ?_)
        exact hk12 x14 μ8 h
set_option maxHeartbeats 4000000 in
set_option maxRecDepth 20000 in
theorem tf_A_struck_l29 {g : ZG} {E : ZE} {N n29 : Nat} {rr : Int32 × ZMem} {p0 : Int32} {z5 : Int32} {z6 : Int32} {μ7 : ZMem} (G : zGa g K_A_struck 1 E) (hl0 : (0, 0) ∈ zids) (h : f_A_struck_l29 N p0 n29 z5 z6 μ7 = some rr) : zX g K_A_struck 1 E (some (.int rr.1), rr.2) μ7 29 [some (.ref (g.2.1 0 0)), some (.int p0), some (.int z5), some (.int z6)] [] := tf_A_struck_l29_0 G hl0 n29 z5 z6 μ7 h
set_option maxHeartbeats 4000000 in
set_option maxRecDepth 20000 in
theorem t_A_struck {g : ZG} {l : Launch} {N : Nat} {μ : ZMem} {p0 : Int32} {rr : Int32 × ZMem} (h : f_A_struck N μ p0 = some rr) : zT g l 1 K_A_struck [.ref (g.2.1 0 0), .int p0] μ (some (.int rr.1), rr.2) := by
  refine zT_of (by decide +kernel) (Nat.le_of_ble_eq_true rfl) (fun E G => ?_)
  show zX g K_A_struck 1 E (some (.int rr.1), rr.2) μ 0 [some (.ref (g.2.1 0 0)), some (.int p0), none, none] []
  unfold f_A_struck at h
  refine zx_iload_n G d_A_struck_0 rfl ?_
  refine zx_iconst (v := 1) G d_A_struck_1 rfl ?_
  refine zx_icmp_lt (tgt := 23) G d_A_struck_2 rfl h (fun h => ?_) (fun h => ?_)
  · refine zx_iconst (v := -1) G d_A_struck_23 rfl ?_
    exact zx_iret G d_A_struck_24 rfl h
  · refine zx_iload_n G d_A_struck_5 rfl ?_
    refine zx_sipush (v := 9999) G d_A_struck_6 rfl ?_
    refine zx_icmp_gt (tgt := 23) G d_A_struck_9 rfl h (fun h => ?_) (fun h => ?_)
    · refine zx_iconst (v := -1) G d_A_struck_23 rfl ?_
      exact zx_iret G d_A_struck_24 rfl h
    · refine zx_aload_n G d_A_struck_12 rfl ?_
      refine zx_getR G d_A_struck_13 zf_A_10 zc_0_0 (zids_of 0 (Nat.le_of_ble_eq_true rfl) 0 (Nat.le_of_ble_eq_true rfl)) ?_
      obtain ⟨r2, μ1, hc, h⟩ := zbnd_of h
      refine zx_callVI (r := r2) (μ2 := μ1) G d_A_struck_16 zm_A_283 (fun l => t_Tape_marks  hc) rfl rfl (Nat.le_of_ble_eq_true rfl) (Nat.le_of_ble_eq_true rfl) (zrecv zo_1 (zi_0_0 (zids_of 0 (Nat.le_of_ble_eq_true rfl) 0 (Nat.le_of_ble_eq_true rfl)))) ?_
      refine zx_iconst (v := 1) G d_A_struck_19 rfl ?_
      refine zx_icmp_eq (tgt := 25) G d_A_struck_20 rfl h (fun h => ?_) (fun h => ?_)
      · refine zx_iconst (v := 0) G d_A_struck_25 rfl ?_
        refine zx_istore_n (lf := fun y => [_, _, some (.int y), none]) G d_A_struck_26 (Nat.le_of_ble_eq_true rfl) (fun _ => rfl) h (fun x3 h => ?_)
        refine zx_iconst (v := 0) G d_A_struck_27 rfl ?_
        refine zx_istore_n (lf := fun y => [_, _, _, some (.int y)]) G d_A_struck_28 (Nat.le_of_ble_eq_true rfl) (fun _ => rfl) h (fun x4 h => ?_)
        refine tf_A_struck_l29 G (zids_of 0 (Nat.le_of_ble_eq_true rfl) 0 (Nat.le_of_ble_eq_true rfl)) h
      · refine zx_iconst (v := -1) G d_A_struck_23 rfl ?_
        exact zx_iret G d_A_struck_24 rfl h
set_option maxHeartbeats 4000000 in
set_option maxRecDepth 20000 in
theorem t_A_play {g : ZG} {l : Launch} {N : Nat} {μ : ZMem} {p0 : Int32} {rr : Int32 × ZMem} (h : f_A_play N μ p0 = some rr) : zT g l 3 K_A_play [.ref (g.2.1 0 0), .int p0] μ (some (.int rr.1), rr.2) := by
  refine zT_of (by decide +kernel) (Nat.le_of_ble_eq_true rfl) (fun E G => ?_)
  show zX g K_A_play 3 E (some (.int rr.1), rr.2) μ 0 [some (.ref (g.2.1 0 0)), some (.int p0), none] []
  unfold f_A_play at h
  refine zx_aload_n G d_A_play_0 rfl ?_
  refine zx_iload_n G d_A_play_1 rfl ?_
  rcases zbrf_of h with ⟨μ1, hc, h⟩ | ⟨t2, μ1, hc, h⟩
  · refine zx_callVN (k := 3) (μ2 := μ1) G d_A_play_2 zm_A_115 (fun l => t_A_find  hc) rfl rfl (Nat.le_of_ble_eq_true rfl) (Nat.le_of_ble_eq_true rfl) (zrecv zo_0 (zids_of 0 (Nat.le_of_ble_eq_true rfl) 0 (Nat.le_of_ble_eq_true rfl))) ?_
    refine zx_astore_nN (lv2 := [_, _, _]) G d_A_play_5 (Nat.le_of_ble_eq_true rfl) rfl ?_
    refine zx_aload_nN G d_A_play_6 rfl ?_
    refine zx_ifnonnullN G d_A_play_7 ?_
    refine zx_iconst (v := -1) G d_A_play_10 rfl ?_
    exact zx_iret G d_A_play_11 rfl h
  · obtain ⟨hz3, h⟩ := zchk_of h
    refine zx_callVP (k := 3) (r := t2) (μ2 := μ1) G d_A_play_2 zm_A_115 (fun l => t_A_find  hc) rfl rfl (Nat.le_of_ble_eq_true rfl) (Nat.le_of_ble_eq_true rfl) (zrecv zo_0 (zids_of 0 (Nat.le_of_ble_eq_true rfl) 0 (Nat.le_of_ble_eq_true rfl))) ?_
    refine zx_astore_n (lv2 := [_, _, _]) G d_A_play_5 (Nat.le_of_ble_eq_true rfl) rfl ?_
    refine zx_aload_n G d_A_play_6 rfl ?_
    refine zx_ifnonnull (tgt := 12) G d_A_play_7 rfl ?_
    refine zx_aload_n G d_A_play_12 rfl ?_
    refine zx_getR G d_A_play_13 zf_A_35 zc_0_3 (zids_of 0 (Nat.le_of_ble_eq_true rfl) 0 (Nat.le_of_ble_eq_true rfl)) ?_
    refine zx_iload_n G d_A_play_16 rfl ?_
    refine zx_putI G d_A_play_17 zq_A_290 zp_5_7 (zi_0_3 (zids_of 0 (Nat.le_of_ble_eq_true rfl) 0 (Nat.le_of_ble_eq_true rfl))) h (fun μ4 h => ?_)
    refine zx_aload_n G d_A_play_20 rfl ?_
    refine zx_getR G d_A_play_21 zf_A_35 zc_0_3 (zids_of 0 (Nat.le_of_ble_eq_true rfl) 0 (Nat.le_of_ble_eq_true rfl)) ?_
    refine zx_getR G d_A_play_24 zf_A_293 zc_5_8 (zi_0_3 (zids_of 0 (Nat.le_of_ble_eq_true rfl) 0 (Nat.le_of_ble_eq_true rfl))) ?_
    refine zx_iconst (v := 0) G d_A_play_27 rfl ?_
    refine zx_putI G d_A_play_28 zq_A_178 zp_6_2 (zi_5_8 (zi_0_3 (zids_of 0 (Nat.le_of_ble_eq_true rfl) 0 (Nat.le_of_ble_eq_true rfl)))) h (fun μ5 h => ?_)
    refine zx_aload_n G d_A_play_31 rfl ?_
    refine zx_aload_n G d_A_play_32 rfl ?_
    refine zx_getR G d_A_play_33 zf_A_45 zc_0_5 (zids_of 0 (Nat.le_of_ble_eq_true rfl) 0 (Nat.le_of_ble_eq_true rfl)) ?_
    refine zx_aload_n G d_A_play_36 rfl ?_
    refine zx_getR G d_A_play_37 zf_A_35 zc_0_3 (zids_of 0 (Nat.le_of_ble_eq_true rfl) 0 (Nat.le_of_ble_eq_true rfl)) ?_
    refine zx_getR G d_A_play_40 zf_A_88 zc_5_1 (zi_0_3 (zids_of 0 (Nat.le_of_ble_eq_true rfl) 0 (Nat.le_of_ble_eq_true rfl))) ?_
    obtain ⟨u9, μ6, hc, h⟩ := zbnd_of h
    refine zx_callVV  (μ2 := μ6) G d_A_play_43 zm_A_156 (fun l => t_Table_begin (zidt hz3) (zi_0_5 (zids_of 0 (Nat.le_of_ble_eq_true rfl) 0 (Nat.le_of_ble_eq_true rfl))) (zi_5_1 (zi_0_3 (zids_of 0 (Nat.le_of_ble_eq_true rfl) 0 (Nat.le_of_ble_eq_true rfl)))) hc) rfl rfl (Nat.le_of_ble_eq_true rfl) (Nat.le_of_ble_eq_true rfl) (zrecv zo_3 (zidt hz3)) ?_
    refine zx_aload_n G d_A_play_46 rfl ?_
    refine zx_getR G d_A_play_47 zf_A_35 zc_0_3 (zids_of 0 (Nat.le_of_ble_eq_true rfl) 0 (Nat.le_of_ble_eq_true rfl)) ?_
    refine zx_getR G d_A_play_50 zf_A_293 zc_5_8 (zi_0_3 (zids_of 0 (Nat.le_of_ble_eq_true rfl) 0 (Nat.le_of_ble_eq_true rfl))) ?_
    refine zx_aload_n G d_A_play_53 rfl ?_
    refine zx_getR G d_A_play_54 zf_A_45 zc_0_5 (zids_of 0 (Nat.le_of_ble_eq_true rfl) 0 (Nat.le_of_ble_eq_true rfl)) ?_
    obtain ⟨r8, μ7, hc, h⟩ := zbnd_of h
    refine zx_callVI (r := r8) (μ2 := μ7) G d_A_play_57 zm_A_296 (fun l => t_Values_append (zi_5_8 (zi_0_3 (zids_of 0 (Nat.le_of_ble_eq_true rfl) 0 (Nat.le_of_ble_eq_true rfl)))) (zi_0_5 (zids_of 0 (Nat.le_of_ble_eq_true rfl) 0 (Nat.le_of_ble_eq_true rfl))) hc) rfl rfl (Nat.le_of_ble_eq_true rfl) (Nat.le_of_ble_eq_true rfl) (zrecv zo_6 (zi_5_8 (zi_0_3 (zids_of 0 (Nat.le_of_ble_eq_true rfl) 0 (Nat.le_of_ble_eq_true rfl))))) ?_
    refine zx_pop G d_A_play_60 rfl ?_
    refine zx_aload_n G d_A_play_61 rfl ?_
    refine zx_getR G d_A_play_62 zf_A_119 zc_3_0 (zidt hz3) ?_
    refine zx_getI G d_A_play_65 zf_A_123 zc_4_2 (zi_3_0 (zidt hz3)) ?_
    exact zx_iret G d_A_play_68 rfl h
set_option maxHeartbeats 4000000 in
set_option maxRecDepth 20000 in
theorem t_State_ordersPlayed {g : ZG} {l : Launch} {N : Nat} {μ : ZMem} {o : Nat} (ho : (5, o) ∈ zids) {rr : Int32 × ZMem} (h : f_State_ordersPlayed N μ o = some rr) : zT g l 1 K_State_ordersPlayed [.ref (g.2.1 5 o)] μ (some (.int rr.1), rr.2) := by
  refine zT_of (by decide +kernel) (Nat.le_of_ble_eq_true rfl) (fun E G => ?_)
  show zX g K_State_ordersPlayed 1 E (some (.int rr.1), rr.2) μ 0 [some (.ref (g.2.1 5 o))] []
  unfold f_State_ordersPlayed at h
  refine zx_aload_n G d_State_ordersPlayed_0 rfl ?_
  refine zx_getR G d_State_ordersPlayed_1 zf_State_41 zc_5_8 ho ?_
  refine zx_getI G d_State_ordersPlayed_4 zf_State_44 zc_6_2 (zi_5_8 ho) ?_
  refine zx_iconst (v := 1) G d_State_ordersPlayed_7 rfl ?_
  refine zx_isub G d_State_ordersPlayed_8 ?_
  refine zx_iconst (v := 0) G d_State_ordersPlayed_9 rfl ?_
  refine zx_mmax G d_State_ordersPlayed_10 zm_State_47 zMs_max zMi zMy_max (Nat.le_of_ble_eq_true rfl) (Nat.le_of_ble_eq_true rfl) ?_
  exact zx_iret G d_State_ordersPlayed_13 rfl h
set_option maxHeartbeats 4000000 in
set_option maxRecDepth 20000 in
theorem t_Values_readLast {g : ZG} {l : Launch} {N : Nat} {μ : ZMem} {o : Nat} {p0 : Nat} (ho : (6, o) ∈ zids) (hp0 : (7, p0) ∈ zids) {rr : Unit × ZMem} (h : f_Values_readLast N μ o p0 = some rr) : zT g l 1 K_Values_readLast [.ref (g.2.1 6 o), .ref (g.2.1 7 p0)] μ (none, rr.2) := by
  refine zT_of (by decide +kernel) (Nat.le_of_ble_eq_true rfl) (fun E G => ?_)
  show zX g K_Values_readLast 1 E (none, rr.2) μ 0 [some (.ref (g.2.1 6 o)), some (.ref (g.2.1 7 p0))] []
  unfold f_Values_readLast at h
  refine zx_aload_n G d_Values_readLast_0 rfl ?_
  refine zx_lconst (v := 0) G d_Values_readLast_1 rfl ?_
  obtain ⟨u9, μ1, hc, h⟩ := zbnd_of h
  refine zx_callVV  (μ2 := μ1) G d_Values_readLast_2 zm_Values_43 (fun l => t_Value_setWhole hp0 hc) rfl rfl (Nat.le_of_ble_eq_true rfl) (Nat.le_of_ble_eq_true rfl) (zrecv zo_7 hp0) ?_
  refine zx_aload_n G d_Values_readLast_5 rfl ?_
  refine zx_getI G d_Values_readLast_6 zf_Values_18 zc_6_2 ho ?_
  refine zx_if_le (tgt := 54) G d_Values_readLast_9 rfl h (fun h => ?_) (fun h => ?_)
  · exact zx_vret G d_Values_readLast_54 rfl h
  · refine zx_aload_n G d_Values_readLast_12 rfl ?_
    refine zx_getI G d_Values_readLast_13 zf_Values_18 zc_6_2 ho ?_
    refine zx_aload_n G d_Values_readLast_16 rfl ?_
    refine zx_getR G d_Values_readLast_17 zf_Values_9 zc_6_0 ho ?_
    refine zx_alenJ G d_Values_readLast_20 za_28 (zi_6_0 ho) ?_
    refine zx_icmp_gt (tgt := 54) G d_Values_readLast_21 rfl h (fun h => ?_) (fun h => ?_)
    · exact zx_vret G d_Values_readLast_54 rfl h
    · refine zx_aload_n G d_Values_readLast_24 rfl ?_
      refine zx_aload_n G d_Values_readLast_25 rfl ?_
      refine zx_getR G d_Values_readLast_26 zf_Values_9 zc_6_0 ho ?_
      refine zx_aload_n G d_Values_readLast_29 rfl ?_
      refine zx_getI G d_Values_readLast_30 zf_Values_18 zc_6_2 ho ?_
      refine zx_iconst (v := 1) G d_Values_readLast_33 rfl ?_
      refine zx_isub G d_Values_readLast_34 ?_
      refine zx_lald G d_Values_readLast_35 za_28 (zi_6_0 ho) h (fun h => ?_)
      refine zx_putJ G d_Values_readLast_36 zq_Values_36 zp_7_0 hp0 h (fun μ2 h => ?_)
      refine zx_aload_n G d_Values_readLast_39 rfl ?_
      refine zx_aload_n G d_Values_readLast_40 rfl ?_
      refine zx_getR G d_Values_readLast_41 zf_Values_15 zc_6_1 ho ?_
      refine zx_aload_n G d_Values_readLast_44 rfl ?_
      refine zx_getI G d_Values_readLast_45 zf_Values_18 zc_6_2 ho ?_
      refine zx_iconst (v := 1) G d_Values_readLast_48 rfl ?_
      refine zx_isub G d_Values_readLast_49 ?_
      refine zx_lald G d_Values_readLast_50 za_29 (zi_6_1 ho) h (fun h => ?_)
      refine zx_putJ G d_Values_readLast_51 zq_Values_40 zp_7_1 hp0 h (fun μ3 h => ?_)
      exact zx_vret G d_Values_readLast_54 rfl h
set_option maxHeartbeats 4000000 in
set_option maxRecDepth 20000 in
theorem t_A_go {g : ZG} {l : Launch} {N : Nat} {μ : ZMem} {rr : Int32 × ZMem} (h : f_A_go N μ = some rr) : zT g l 4 K_A_go [.ref (g.2.1 0 0)] μ (some (.int rr.1), rr.2) := by
  refine zT_of (by decide +kernel) (Nat.le_of_ble_eq_true rfl) (fun E G => ?_)
  show zX g K_A_go 4 E (some (.int rr.1), rr.2) μ 0 [some (.ref (g.2.1 0 0)), none, none, none] []
  unfold f_A_go at h
  refine zx_aload_n G d_A_go_0 rfl ?_
  refine zx_aload_n G d_A_go_1 rfl ?_
  refine zx_getR G d_A_go_2 zf_A_35 zc_0_3 (zids_of 0 (Nat.le_of_ble_eq_true rfl) 0 (Nat.le_of_ble_eq_true rfl)) ?_
  refine zx_getI G d_A_go_5 zf_A_290 zc_5_7 (zi_0_3 (zids_of 0 (Nat.le_of_ble_eq_true rfl) 0 (Nat.le_of_ble_eq_true rfl))) ?_
  rcases zbrf_of h with ⟨μ1, hc, h⟩ | ⟨t2, μ1, hc, h⟩
  · refine zx_callVN (k := 3) (μ2 := μ1) G d_A_go_8 zm_A_115 (fun l => t_A_find  hc) rfl rfl (Nat.le_of_ble_eq_true rfl) (Nat.le_of_ble_eq_true rfl) (zrecv zo_0 (zids_of 0 (Nat.le_of_ble_eq_true rfl) 0 (Nat.le_of_ble_eq_true rfl))) ?_
    refine zx_astore_nN (lv2 := [_, _, none, none]) G d_A_go_11 (Nat.le_of_ble_eq_true rfl) rfl ?_
    refine zx_aload_n G d_A_go_12 rfl ?_
    refine zx_getR G d_A_go_13 zf_A_35 zc_0_3 (zids_of 0 (Nat.le_of_ble_eq_true rfl) 0 (Nat.le_of_ble_eq_true rfl)) ?_
    obtain ⟨r5, μ4, hc, h⟩ := zbnd_of h
    refine zx_callVI (r := r5) (μ2 := μ4) G d_A_go_16 zm_A_299 (fun l => t_State_ordersPlayed (zi_0_3 (zids_of 0 (Nat.le_of_ble_eq_true rfl) 0 (Nat.le_of_ble_eq_true rfl))) hc) rfl rfl (Nat.le_of_ble_eq_true rfl) (Nat.le_of_ble_eq_true rfl) (zrecv zo_5 (zi_0_3 (zids_of 0 (Nat.le_of_ble_eq_true rfl) 0 (Nat.le_of_ble_eq_true rfl)))) ?_
    refine zx_istore_n (lf := fun y => [_, _, some (.int y), none]) G d_A_go_19 (Nat.le_of_ble_eq_true rfl) (fun _ => rfl) h (fun x6 h => ?_)
    refine zx_aload_nN G d_A_go_20 rfl ?_
    refine zx_ifnullN (tgt := 35) G d_A_go_21 rfl ?_
    refine zx_iconst (v := -1) G d_A_go_35 rfl ?_
    exact zx_iret G d_A_go_36 rfl h
  · obtain ⟨hz3, h⟩ := zchk_of h
    refine zx_callVP (k := 3) (r := t2) (μ2 := μ1) G d_A_go_8 zm_A_115 (fun l => t_A_find  hc) rfl rfl (Nat.le_of_ble_eq_true rfl) (Nat.le_of_ble_eq_true rfl) (zrecv zo_0 (zids_of 0 (Nat.le_of_ble_eq_true rfl) 0 (Nat.le_of_ble_eq_true rfl))) ?_
    refine zx_astore_n (lv2 := [_, _, none, none]) G d_A_go_11 (Nat.le_of_ble_eq_true rfl) rfl ?_
    refine zx_aload_n G d_A_go_12 rfl ?_
    refine zx_getR G d_A_go_13 zf_A_35 zc_0_3 (zids_of 0 (Nat.le_of_ble_eq_true rfl) 0 (Nat.le_of_ble_eq_true rfl)) ?_
    obtain ⟨r8, μ7, hc, h⟩ := zbnd_of h
    refine zx_callVI (r := r8) (μ2 := μ7) G d_A_go_16 zm_A_299 (fun l => t_State_ordersPlayed (zi_0_3 (zids_of 0 (Nat.le_of_ble_eq_true rfl) 0 (Nat.le_of_ble_eq_true rfl))) hc) rfl rfl (Nat.le_of_ble_eq_true rfl) (Nat.le_of_ble_eq_true rfl) (zrecv zo_5 (zi_0_3 (zids_of 0 (Nat.le_of_ble_eq_true rfl) 0 (Nat.le_of_ble_eq_true rfl)))) ?_
    refine zx_istore_n (lf := fun y => [_, _, some (.int y), none]) G d_A_go_19 (Nat.le_of_ble_eq_true rfl) (fun _ => rfl) h (fun x9 h => ?_)
    refine zx_aload_n G d_A_go_20 rfl ?_
    refine zx_ifnull G d_A_go_21 ?_
    refine zx_aload_n G d_A_go_24 rfl ?_
    refine zx_getR G d_A_go_25 zf_A_119 zc_3_0 (zidt hz3) ?_
    refine zx_iload_n G d_A_go_28 rfl ?_
    obtain ⟨r11, μ10, hc, h⟩ := zbnd_of h
    refine zx_callVI (r := r11) (μ2 := μ10) G d_A_go_29 zm_A_128 (fun l => t_Orders_has (zi_3_0 (zidt hz3)) hc) rfl rfl (Nat.le_of_ble_eq_true rfl) (Nat.le_of_ble_eq_true rfl) (zrecv zo_4 (zi_3_0 (zidt hz3))) ?_
    refine zx_if_ne (tgt := 37) G d_A_go_32 rfl h (fun h => ?_) (fun h => ?_)
    · refine zx_aload_n G d_A_go_37 rfl ?_
      refine zx_getR G d_A_go_38 zf_A_35 zc_0_3 (zids_of 0 (Nat.le_of_ble_eq_true rfl) 0 (Nat.le_of_ble_eq_true rfl)) ?_
      refine zx_getR G d_A_go_41 zf_A_293 zc_5_8 (zi_0_3 (zids_of 0 (Nat.le_of_ble_eq_true rfl) 0 (Nat.le_of_ble_eq_true rfl))) ?_
      refine zx_aload_n G d_A_go_44 rfl ?_
      refine zx_getR G d_A_go_45 zf_A_45 zc_0_5 (zids_of 0 (Nat.le_of_ble_eq_true rfl) 0 (Nat.le_of_ble_eq_true rfl)) ?_
      obtain ⟨u9, μ12, hc, h⟩ := zbnd_of h
      refine zx_callVV  (μ2 := μ12) G d_A_go_48 zm_A_302 (fun l => t_Values_readLast (zi_5_8 (zi_0_3 (zids_of 0 (Nat.le_of_ble_eq_true rfl) 0 (Nat.le_of_ble_eq_true rfl)))) (zi_0_5 (zids_of 0 (Nat.le_of_ble_eq_true rfl) 0 (Nat.le_of_ble_eq_true rfl))) hc) rfl rfl (Nat.le_of_ble_eq_true rfl) (Nat.le_of_ble_eq_true rfl) (zrecv zo_6 (zi_5_8 (zi_0_3 (zids_of 0 (Nat.le_of_ble_eq_true rfl) 0 (Nat.le_of_ble_eq_true rfl))))) ?_
      refine zx_aload_n G d_A_go_51 rfl ?_
      refine zx_getR G d_A_go_52 zf_A_45 zc_0_5 (zids_of 0 (Nat.le_of_ble_eq_true rfl) 0 (Nat.le_of_ble_eq_true rfl)) ?_
      refine zx_aload_n G d_A_go_55 rfl ?_
      refine zx_getR G d_A_go_56 zf_A_119 zc_3_0 (zidt hz3) ?_
      refine zx_getR G d_A_go_59 zf_A_134 zc_4_0 (zi_3_0 (zidt hz3)) ?_
      refine zx_iload_n G d_A_go_62 rfl ?_
      refine zx_iald G d_A_go_63 za_22 (zi_4_0 (zi_3_0 (zidt hz3))) h (fun h => ?_)
      refine zx_aload_n G d_A_go_64 rfl ?_
      refine zx_getR G d_A_go_65 zf_A_119 zc_3_0 (zidt hz3) ?_
      refine zx_iload_n G d_A_go_68 rfl ?_
      refine zx_aload_n G d_A_go_69 rfl ?_
      refine zx_getR G d_A_go_70 zf_A_35 zc_0_3 (zids_of 0 (Nat.le_of_ble_eq_true rfl) 0 (Nat.le_of_ble_eq_true rfl)) ?_
      refine zx_getR G d_A_go_73 zf_A_88 zc_5_1 (zi_0_3 (zids_of 0 (Nat.le_of_ble_eq_true rfl) 0 (Nat.le_of_ble_eq_true rfl))) ?_
      obtain ⟨r14, μ13, hc, h⟩ := zbnd_of h
      refine zx_callVI (r := r14) (μ2 := μ13) G d_A_go_76 zm_A_160 (fun l => t_Orders_amount (zi_3_0 (zidt hz3)) (zi_5_1 (zi_0_3 (zids_of 0 (Nat.le_of_ble_eq_true rfl) 0 (Nat.le_of_ble_eq_true rfl)))) hc) rfl rfl (Nat.le_of_ble_eq_true rfl) (Nat.le_of_ble_eq_true rfl) (zrecv zo_4 (zi_3_0 (zidt hz3))) ?_
      obtain ⟨r16, μ15, hc, h⟩ := zbnd_of h
      refine zx_callVI (r := r16) (μ2 := μ15) G d_A_go_79 zm_A_164 (fun l => t_Value_obey (zi_0_5 (zids_of 0 (Nat.le_of_ble_eq_true rfl) 0 (Nat.le_of_ble_eq_true rfl))) hc) rfl rfl (Nat.le_of_ble_eq_true rfl) (Nat.le_of_ble_eq_true rfl) (zrecv zo_7 (zi_0_5 (zids_of 0 (Nat.le_of_ble_eq_true rfl) 0 (Nat.le_of_ble_eq_true rfl)))) ?_
      refine zx_istore_n (lf := fun y => [_, _, _, some (.int y)]) G d_A_go_82 (Nat.le_of_ble_eq_true rfl) (fun _ => rfl) h (fun x17 h => ?_)
      refine zx_iload_n G d_A_go_83 rfl ?_
      refine zx_if_eq (tgt := 108) G d_A_go_84 rfl h (fun h => ?_) (fun h => ?_)
      · refine zx_iconst (v := -1) G d_A_go_108 rfl ?_
        exact zx_iret G d_A_go_109 rfl h
      · refine zx_aload_n G d_A_go_87 rfl ?_
        refine zx_getR G d_A_go_88 zf_A_35 zc_0_3 (zids_of 0 (Nat.le_of_ble_eq_true rfl) 0 (Nat.le_of_ble_eq_true rfl)) ?_
        refine zx_getR G d_A_go_91 zf_A_293 zc_5_8 (zi_0_3 (zids_of 0 (Nat.le_of_ble_eq_true rfl) 0 (Nat.le_of_ble_eq_true rfl))) ?_
        refine zx_aload_n G d_A_go_94 rfl ?_
        refine zx_getR G d_A_go_95 zf_A_45 zc_0_5 (zids_of 0 (Nat.le_of_ble_eq_true rfl) 0 (Nat.le_of_ble_eq_true rfl)) ?_
        obtain ⟨r19, μ18, hc, h⟩ := zbnd_of h
        refine zx_callVI (r := r19) (μ2 := μ18) G d_A_go_98 zm_A_296 (fun l => t_Values_append (zi_5_8 (zi_0_3 (zids_of 0 (Nat.le_of_ble_eq_true rfl) 0 (Nat.le_of_ble_eq_true rfl)))) (zi_0_5 (zids_of 0 (Nat.le_of_ble_eq_true rfl) 0 (Nat.le_of_ble_eq_true rfl))) hc) rfl rfl (Nat.le_of_ble_eq_true rfl) (Nat.le_of_ble_eq_true rfl) (zrecv zo_6 (zi_5_8 (zi_0_3 (zids_of 0 (Nat.le_of_ble_eq_true rfl) 0 (Nat.le_of_ble_eq_true rfl))))) ?_
        refine zx_if_eq (tgt := 108) G d_A_go_101 rfl h (fun h => ?_) (fun h => ?_)
        · refine zx_iconst (v := -1) G d_A_go_108 rfl ?_
          exact zx_iret G d_A_go_109 rfl h
        · refine zx_iload_n G d_A_go_104 rfl ?_
          refine zx_goto (tgt := 109) G d_A_go_105 rfl ?_
          exact zx_iret G d_A_go_109 rfl h
    · refine zx_iconst (v := -1) G d_A_go_35 rfl ?_
      exact zx_iret G d_A_go_36 rfl h
set_option maxHeartbeats 4000000 in
set_option maxRecDepth 20000 in
theorem t_A_undo {g : ZG} {l : Launch} {N : Nat} {μ : ZMem} {rr : Int32 × ZMem} (h : f_A_undo N μ = some rr) : zT g l 2 K_A_undo [.ref (g.2.1 0 0)] μ (some (.int rr.1), rr.2) := by
  refine zT_of (by decide +kernel) (Nat.le_of_ble_eq_true rfl) (fun E G => ?_)
  show zX g K_A_undo 2 E (some (.int rr.1), rr.2) μ 0 [some (.ref (g.2.1 0 0))] []
  unfold f_A_undo at h
  refine zx_aload_n G d_A_undo_0 rfl ?_
  refine zx_getR G d_A_undo_1 zf_A_35 zc_0_3 (zids_of 0 (Nat.le_of_ble_eq_true rfl) 0 (Nat.le_of_ble_eq_true rfl)) ?_
  obtain ⟨r2, μ1, hc, h⟩ := zbnd_of h
  refine zx_callVI (r := r2) (μ2 := μ1) G d_A_undo_4 zm_A_299 (fun l => t_State_ordersPlayed (zi_0_3 (zids_of 0 (Nat.le_of_ble_eq_true rfl) 0 (Nat.le_of_ble_eq_true rfl))) hc) rfl rfl (Nat.le_of_ble_eq_true rfl) (Nat.le_of_ble_eq_true rfl) (zrecv zo_5 (zi_0_3 (zids_of 0 (Nat.le_of_ble_eq_true rfl) 0 (Nat.le_of_ble_eq_true rfl)))) ?_
  refine zx_iconst (v := 1) G d_A_undo_7 rfl ?_
  refine zx_icmp_ge (tgt := 13) G d_A_undo_8 rfl h (fun h => ?_) (fun h => ?_)
  · refine zx_aload_n G d_A_undo_13 rfl ?_
    refine zx_getR G d_A_undo_14 zf_A_35 zc_0_3 (zids_of 0 (Nat.le_of_ble_eq_true rfl) 0 (Nat.le_of_ble_eq_true rfl)) ?_
    refine zx_getR G d_A_undo_17 zf_A_293 zc_5_8 (zi_0_3 (zids_of 0 (Nat.le_of_ble_eq_true rfl) 0 (Nat.le_of_ble_eq_true rfl))) ?_
    refine zx_dup G d_A_undo_20 rfl ?_
    refine zx_getI G d_A_undo_21 zf_A_178 zc_6_2 (zi_5_8 (zi_0_3 (zids_of 0 (Nat.le_of_ble_eq_true rfl) 0 (Nat.le_of_ble_eq_true rfl)))) ?_
    refine zx_iconst (v := 1) G d_A_undo_24 rfl ?_
    refine zx_isub G d_A_undo_25 ?_
    refine zx_putI G d_A_undo_26 zq_A_178 zp_6_2 (zi_5_8 (zi_0_3 (zids_of 0 (Nat.le_of_ble_eq_true rfl) 0 (Nat.le_of_ble_eq_true rfl)))) h (fun μ3 h => ?_)
    refine zx_aload_n G d_A_undo_29 rfl ?_
    refine zx_getR G d_A_undo_30 zf_A_35 zc_0_3 (zids_of 0 (Nat.le_of_ble_eq_true rfl) 0 (Nat.le_of_ble_eq_true rfl)) ?_
    obtain ⟨r5, μ4, hc, h⟩ := zbnd_of h
    refine zx_callVI (r := r5) (μ2 := μ4) G d_A_undo_33 zm_A_299 (fun l => t_State_ordersPlayed (zi_0_3 (zids_of 0 (Nat.le_of_ble_eq_true rfl) 0 (Nat.le_of_ble_eq_true rfl))) hc) rfl rfl (Nat.le_of_ble_eq_true rfl) (Nat.le_of_ble_eq_true rfl) (zrecv zo_5 (zi_0_3 (zids_of 0 (Nat.le_of_ble_eq_true rfl) 0 (Nat.le_of_ble_eq_true rfl)))) ?_
    exact zx_iret G d_A_undo_36 rfl h
  · refine zx_iconst (v := -1) G d_A_undo_11 rfl ?_
    exact zx_iret G d_A_undo_12 rfl h
set_option maxHeartbeats 4000000 in
set_option maxRecDepth 20000 in
theorem t_A_value {g : ZG} {l : Launch} {N : Nat} {μ : ZMem} {p0 : Int32} {rr : Int64 × ZMem} (h : f_A_value N μ p0 = some rr) : zT g l 2 K_A_value [.ref (g.2.1 0 0), .int p0] μ (some (.long rr.1), rr.2) := by
  refine zT_of (by decide +kernel) (Nat.le_of_ble_eq_true rfl) (fun E G => ?_)
  show zX g K_A_value 2 E (some (.long rr.1), rr.2) μ 0 [some (.ref (g.2.1 0 0)), some (.int p0)] []
  unfold f_A_value at h
  refine zx_aload_n G d_A_value_0 rfl ?_
  refine zx_getR G d_A_value_1 zf_A_35 zc_0_3 (zids_of 0 (Nat.le_of_ble_eq_true rfl) 0 (Nat.le_of_ble_eq_true rfl)) ?_
  refine zx_getR G d_A_value_4 zf_A_293 zc_5_8 (zi_0_3 (zids_of 0 (Nat.le_of_ble_eq_true rfl) 0 (Nat.le_of_ble_eq_true rfl))) ?_
  refine zx_aload_n G d_A_value_7 rfl ?_
  refine zx_getR G d_A_value_8 zf_A_45 zc_0_5 (zids_of 0 (Nat.le_of_ble_eq_true rfl) 0 (Nat.le_of_ble_eq_true rfl)) ?_
  obtain ⟨u9, μ1, hc, h⟩ := zbnd_of h
  refine zx_callVV  (μ2 := μ1) G d_A_value_11 zm_A_302 (fun l => t_Values_readLast (zi_5_8 (zi_0_3 (zids_of 0 (Nat.le_of_ble_eq_true rfl) 0 (Nat.le_of_ble_eq_true rfl)))) (zi_0_5 (zids_of 0 (Nat.le_of_ble_eq_true rfl) 0 (Nat.le_of_ble_eq_true rfl))) hc) rfl rfl (Nat.le_of_ble_eq_true rfl) (Nat.le_of_ble_eq_true rfl) (zrecv zo_6 (zi_5_8 (zi_0_3 (zids_of 0 (Nat.le_of_ble_eq_true rfl) 0 (Nat.le_of_ble_eq_true rfl))))) ?_
  refine zx_aload_n G d_A_value_14 rfl ?_
  refine zx_getR G d_A_value_15 zf_A_45 zc_0_5 (zids_of 0 (Nat.le_of_ble_eq_true rfl) 0 (Nat.le_of_ble_eq_true rfl)) ?_
  refine zx_iload_n G d_A_value_18 rfl ?_
  obtain ⟨r3, μ2, hc, h⟩ := zbnd_of h
  refine zx_callVJ (r := r3) (μ2 := μ2) G d_A_value_19 zm_A_152 (fun l => t_Value_part (zi_0_5 (zids_of 0 (Nat.le_of_ble_eq_true rfl) 0 (Nat.le_of_ble_eq_true rfl))) hc) rfl rfl (Nat.le_of_ble_eq_true rfl) (Nat.le_of_ble_eq_true rfl) (zrecv zo_7 (zi_0_5 (zids_of 0 (Nat.le_of_ble_eq_true rfl) 0 (Nat.le_of_ble_eq_true rfl)))) ?_
  exact zx_lret G d_A_value_22 rfl h
set_option maxHeartbeats 4000000 in
set_option maxRecDepth 20000 in
theorem t_Values_copyFrom {g : ZG} {l : Launch} {N : Nat} {μ : ZMem} {o : Nat} {p0 : Nat} (ho : (6, o) ∈ zids) (hp0 : (6, p0) ∈ zids) {rr : Unit × ZMem} (h : f_Values_copyFrom N μ o p0 = some rr) : zT g l 1 K_Values_copyFrom [.ref (g.2.1 6 o), .ref (g.2.1 6 p0)] μ (none, rr.2) := by
  refine zT_of (by decide +kernel) (Nat.le_of_ble_eq_true rfl) (fun E G => ?_)
  show zX g K_Values_copyFrom 1 E (none, rr.2) μ 0 [some (.ref (g.2.1 6 o)), some (.ref (g.2.1 6 p0))] []
  unfold f_Values_copyFrom at h
  refine zx_aload_n G d_Values_copyFrom_0 rfl ?_
  refine zx_aload_n G d_Values_copyFrom_1 rfl ?_
  refine zx_getI G d_Values_copyFrom_2 zf_Values_18 zc_6_2 hp0 ?_
  refine zx_aload_n G d_Values_copyFrom_5 rfl ?_
  refine zx_getR G d_Values_copyFrom_6 zf_Values_9 zc_6_0 ho ?_
  refine zx_alenJ G d_Values_copyFrom_9 za_28 (zi_6_0 ho) ?_
  refine zx_mmin G d_Values_copyFrom_10 zm_Values_50 zMs_min zMi zMy_min (Nat.le_of_ble_eq_true rfl) (Nat.le_of_ble_eq_true rfl) ?_
  refine zx_putI G d_Values_copyFrom_13 zq_Values_18 zp_6_2 ho h (fun μ1 h => ?_)
  refine zx_aload_n G d_Values_copyFrom_16 rfl ?_
  refine zx_getR G d_Values_copyFrom_17 zf_Values_9 zc_6_0 hp0 ?_
  refine zx_iconst (v := 0) G d_Values_copyFrom_20 rfl ?_
  refine zx_aload_n G d_Values_copyFrom_21 rfl ?_
  refine zx_getR G d_Values_copyFrom_22 zf_Values_9 zc_6_0 ho ?_
  refine zx_iconst (v := 0) G d_Values_copyFrom_25 rfl ?_
  refine zx_aload_n G d_Values_copyFrom_26 rfl ?_
  refine zx_getI G d_Values_copyFrom_27 zf_Values_18 zc_6_2 ho ?_
  refine zx_copyJ G d_Values_copyFrom_30 zm_Values_56 zac_n zac_s zac_i za_28 za_28 (zi_6_0 hp0) (zi_6_0 ho) (Nat.le_of_ble_eq_true rfl) (Nat.le_of_ble_eq_true rfl) h (fun μ2 h => ?_)
  refine zx_aload_n G d_Values_copyFrom_33 rfl ?_
  refine zx_getR G d_Values_copyFrom_34 zf_Values_15 zc_6_1 hp0 ?_
  refine zx_iconst (v := 0) G d_Values_copyFrom_37 rfl ?_
  refine zx_aload_n G d_Values_copyFrom_38 rfl ?_
  refine zx_getR G d_Values_copyFrom_39 zf_Values_15 zc_6_1 ho ?_
  refine zx_iconst (v := 0) G d_Values_copyFrom_42 rfl ?_
  refine zx_aload_n G d_Values_copyFrom_43 rfl ?_
  refine zx_getI G d_Values_copyFrom_44 zf_Values_18 zc_6_2 ho ?_
  refine zx_copyJ G d_Values_copyFrom_47 zm_Values_56 zac_n zac_s zac_i za_29 za_29 (zi_6_1 hp0) (zi_6_1 ho) (Nat.le_of_ble_eq_true rfl) (Nat.le_of_ble_eq_true rfl) h (fun μ3 h => ?_)
  exact zx_vret G d_Values_copyFrom_50 rfl h
set_option maxHeartbeats 4000000 in
set_option maxRecDepth 20000 in
theorem t_Orders_copyFrom {g : ZG} {l : Launch} {N : Nat} {μ : ZMem} {o : Nat} {p0 : Nat} (ho : (4, o) ∈ zids) (hp0 : (4, p0) ∈ zids) {rr : Unit × ZMem} (h : f_Orders_copyFrom N μ o p0 = some rr) : zT g l 1 K_Orders_copyFrom [.ref (g.2.1 4 o), .ref (g.2.1 4 p0)] μ (none, rr.2) := by
  refine zT_of (by decide +kernel) (Nat.le_of_ble_eq_true rfl) (fun E G => ?_)
  show zX g K_Orders_copyFrom 1 E (none, rr.2) μ 0 [some (.ref (g.2.1 4 o)), some (.ref (g.2.1 4 p0))] []
  unfold f_Orders_copyFrom at h
  refine zx_aload_n G d_Orders_copyFrom_0 rfl ?_
  refine zx_aload_n G d_Orders_copyFrom_1 rfl ?_
  refine zx_getI G d_Orders_copyFrom_2 zf_Orders_18 zc_4_2 hp0 ?_
  refine zx_aload_n G d_Orders_copyFrom_5 rfl ?_
  refine zx_getR G d_Orders_copyFrom_6 zf_Orders_9 zc_4_0 ho ?_
  refine zx_alenI G d_Orders_copyFrom_9 za_22 (zi_4_0 ho) ?_
  refine zx_mmin G d_Orders_copyFrom_10 zm_Orders_26 zMs_min zMi zMy_min (Nat.le_of_ble_eq_true rfl) (Nat.le_of_ble_eq_true rfl) ?_
  refine zx_putI G d_Orders_copyFrom_13 zq_Orders_18 zp_4_2 ho h (fun μ1 h => ?_)
  refine zx_aload_n G d_Orders_copyFrom_16 rfl ?_
  refine zx_getR G d_Orders_copyFrom_17 zf_Orders_9 zc_4_0 hp0 ?_
  refine zx_iconst (v := 0) G d_Orders_copyFrom_20 rfl ?_
  refine zx_aload_n G d_Orders_copyFrom_21 rfl ?_
  refine zx_getR G d_Orders_copyFrom_22 zf_Orders_9 zc_4_0 ho ?_
  refine zx_iconst (v := 0) G d_Orders_copyFrom_25 rfl ?_
  refine zx_aload_n G d_Orders_copyFrom_26 rfl ?_
  refine zx_getI G d_Orders_copyFrom_27 zf_Orders_18 zc_4_2 ho ?_
  refine zx_copyI G d_Orders_copyFrom_30 zm_Orders_32 zac_n zac_s zac_i za_22 za_22 (zi_4_0 hp0) (zi_4_0 ho) (Nat.le_of_ble_eq_true rfl) (Nat.le_of_ble_eq_true rfl) h (fun μ2 h => ?_)
  refine zx_aload_n G d_Orders_copyFrom_33 rfl ?_
  refine zx_getR G d_Orders_copyFrom_34 zf_Orders_15 zc_4_1 hp0 ?_
  refine zx_iconst (v := 0) G d_Orders_copyFrom_37 rfl ?_
  refine zx_aload_n G d_Orders_copyFrom_38 rfl ?_
  refine zx_getR G d_Orders_copyFrom_39 zf_Orders_15 zc_4_1 ho ?_
  refine zx_iconst (v := 0) G d_Orders_copyFrom_42 rfl ?_
  refine zx_aload_n G d_Orders_copyFrom_43 rfl ?_
  refine zx_getI G d_Orders_copyFrom_44 zf_Orders_18 zc_4_2 ho ?_
  refine zx_copyI G d_Orders_copyFrom_47 zm_Orders_32 zac_n zac_s zac_i za_23 za_23 (zi_4_1 hp0) (zi_4_1 ho) (Nat.le_of_ble_eq_true rfl) (Nat.le_of_ble_eq_true rfl) h (fun μ3 h => ?_)
  exact zx_vret G d_Orders_copyFrom_50 rfl h
set_option maxHeartbeats 4000000 in
set_option maxRecDepth 20000 in
theorem t_State_copyFrom {g : ZG} {l : Launch} {N : Nat} {μ : ZMem} {o : Nat} {p0 : Nat} (ho : (5, o) ∈ zids) (hp0 : (5, p0) ∈ zids) {rr : Unit × ZMem} (h : f_State_copyFrom N μ o p0 = some rr) : zT g l 2 K_State_copyFrom [.ref (g.2.1 5 o), .ref (g.2.1 5 p0)] μ (none, rr.2) := by
  refine zT_of (by decide +kernel) (Nat.le_of_ble_eq_true rfl) (fun E G => ?_)
  show zX g K_State_copyFrom 2 E (none, rr.2) μ 0 [some (.ref (g.2.1 5 o)), some (.ref (g.2.1 5 p0))] []
  unfold f_State_copyFrom at h
  refine zx_aload_n G d_State_copyFrom_0 rfl ?_
  refine zx_aload_n G d_State_copyFrom_1 rfl ?_
  refine zx_getI G d_State_copyFrom_2 zf_State_53 zc_5_0 hp0 ?_
  refine zx_putI G d_State_copyFrom_5 zq_State_53 zp_5_0 ho h (fun μ1 h => ?_)
  refine zx_aload_n G d_State_copyFrom_8 rfl ?_
  refine zx_getR G d_State_copyFrom_9 zf_State_9 zc_5_1 hp0 ?_
  refine zx_iconst (v := 0) G d_State_copyFrom_12 rfl ?_
  refine zx_aload_n G d_State_copyFrom_13 rfl ?_
  refine zx_getR G d_State_copyFrom_14 zf_State_9 zc_5_1 ho ?_
  refine zx_iconst (v := 0) G d_State_copyFrom_17 rfl ?_
  refine zx_iconst (v := 4) G d_State_copyFrom_18 rfl ?_
  refine zx_copyI G d_State_copyFrom_19 zm_State_56 zac_n zac_s zac_i za_26 za_26 (zi_5_1 hp0) (zi_5_1 ho) (Nat.le_of_ble_eq_true rfl) (Nat.le_of_ble_eq_true rfl) h (fun μ2 h => ?_)
  refine zx_aload_n G d_State_copyFrom_22 rfl ?_
  refine zx_getR G d_State_copyFrom_23 zf_State_20 zc_5_2 ho ?_
  refine zx_aload_n G d_State_copyFrom_26 rfl ?_
  refine zx_getR G d_State_copyFrom_27 zf_State_20 zc_5_2 hp0 ?_
  obtain ⟨u9, μ3, hc, h⟩ := zbnd_of h
  refine zx_callVV  (μ2 := μ3) G d_State_copyFrom_30 zm_State_62 (fun l => t_Values_copyFrom (zi_5_2 ho) (zi_5_2 hp0) hc) rfl rfl (Nat.le_of_ble_eq_true rfl) (Nat.le_of_ble_eq_true rfl) (zrecv zo_6 (zi_5_2 ho)) ?_
  refine zx_aload_n G d_State_copyFrom_33 rfl ?_
  refine zx_getR G d_State_copyFrom_34 zf_State_24 zc_5_3 ho ?_
  refine zx_aload_n G d_State_copyFrom_37 rfl ?_
  refine zx_getR G d_State_copyFrom_38 zf_State_24 zc_5_3 hp0 ?_
  obtain ⟨u9, μ4, hc, h⟩ := zbnd_of h
  refine zx_callVV  (μ2 := μ4) G d_State_copyFrom_41 zm_State_62 (fun l => t_Values_copyFrom (zi_5_3 ho) (zi_5_3 hp0) hc) rfl rfl (Nat.le_of_ble_eq_true rfl) (Nat.le_of_ble_eq_true rfl) (zrecv zo_6 (zi_5_3 ho)) ?_
  refine zx_aload_n G d_State_copyFrom_44 rfl ?_
  refine zx_getR G d_State_copyFrom_45 zf_State_30 zc_5_4 ho ?_
  refine zx_aload_n G d_State_copyFrom_48 rfl ?_
  refine zx_getR G d_State_copyFrom_49 zf_State_30 zc_5_4 hp0 ?_
  obtain ⟨u9, μ5, hc, h⟩ := zbnd_of h
  refine zx_callVV  (μ2 := μ5) G d_State_copyFrom_52 zm_State_66 (fun l => t_Orders_copyFrom (zi_5_4 ho) (zi_5_4 hp0) hc) rfl rfl (Nat.le_of_ble_eq_true rfl) (Nat.le_of_ble_eq_true rfl) (zrecv zo_4 (zi_5_4 ho)) ?_
  refine zx_aload_n G d_State_copyFrom_55 rfl ?_
  refine zx_getR G d_State_copyFrom_56 zf_State_34 zc_5_5 hp0 ?_
  refine zx_iconst (v := 0) G d_State_copyFrom_59 rfl ?_
  refine zx_aload_n G d_State_copyFrom_60 rfl ?_
  refine zx_getR G d_State_copyFrom_61 zf_State_34 zc_5_5 ho ?_
  refine zx_iconst (v := 0) G d_State_copyFrom_64 rfl ?_
  refine zx_bipush (v := 6) G d_State_copyFrom_65 rfl ?_
  refine zx_copyI G d_State_copyFrom_67 zm_State_56 zac_n zac_s zac_i za_27 za_27 (zi_5_5 hp0) (zi_5_5 ho) (Nat.le_of_ble_eq_true rfl) (Nat.le_of_ble_eq_true rfl) h (fun μ6 h => ?_)
  refine zx_aload_n G d_State_copyFrom_70 rfl ?_
  refine zx_aload_n G d_State_copyFrom_71 rfl ?_
  refine zx_getI G d_State_copyFrom_72 zf_State_69 zc_5_6 hp0 ?_
  refine zx_putI G d_State_copyFrom_75 zq_State_69 zp_5_6 ho h (fun μ7 h => ?_)
  refine zx_aload_n G d_State_copyFrom_78 rfl ?_
  refine zx_aload_n G d_State_copyFrom_79 rfl ?_
  refine zx_getI G d_State_copyFrom_80 zf_State_37 zc_5_7 hp0 ?_
  refine zx_putI G d_State_copyFrom_83 zq_State_37 zp_5_7 ho h (fun μ8 h => ?_)
  refine zx_aload_n G d_State_copyFrom_86 rfl ?_
  refine zx_getR G d_State_copyFrom_87 zf_State_41 zc_5_8 ho ?_
  refine zx_aload_n G d_State_copyFrom_90 rfl ?_
  refine zx_getR G d_State_copyFrom_91 zf_State_41 zc_5_8 hp0 ?_
  obtain ⟨u9, μ9, hc, h⟩ := zbnd_of h
  refine zx_callVV  (μ2 := μ9) G d_State_copyFrom_94 zm_State_62 (fun l => t_Values_copyFrom (zi_5_8 ho) (zi_5_8 hp0) hc) rfl rfl (Nat.le_of_ble_eq_true rfl) (Nat.le_of_ble_eq_true rfl) (zrecv zo_6 (zi_5_8 ho)) ?_
  exact zx_vret G d_State_copyFrom_97 rfl h
set_option maxHeartbeats 4000000 in
set_option maxRecDepth 20000 in
theorem t_A_image {g : ZG} {l : Launch} {N : Nat} {μ : ZMem} {rr : Int32 × ZMem} (h : f_A_image N μ = some rr) : zT g l 3 K_A_image [.ref (g.2.1 0 0)] μ (some (.int rr.1), rr.2) := by
  refine zT_of (by decide +kernel) (Nat.le_of_ble_eq_true rfl) (fun E G => ?_)
  show zX g K_A_image 3 E (some (.int rr.1), rr.2) μ 0 [some (.ref (g.2.1 0 0))] []
  unfold f_A_image at h
  refine zx_aload_n G d_A_image_0 rfl ?_
  refine zx_getR G d_A_image_1 zf_A_39 zc_0_4 (zids_of 0 (Nat.le_of_ble_eq_true rfl) 0 (Nat.le_of_ble_eq_true rfl)) ?_
  refine zx_aload_n G d_A_image_4 rfl ?_
  refine zx_getR G d_A_image_5 zf_A_35 zc_0_3 (zids_of 0 (Nat.le_of_ble_eq_true rfl) 0 (Nat.le_of_ble_eq_true rfl)) ?_
  obtain ⟨u9, μ1, hc, h⟩ := zbnd_of h
  refine zx_callVV  (μ2 := μ1) G d_A_image_8 zm_A_306 (fun l => t_State_copyFrom (zi_0_4 (zids_of 0 (Nat.le_of_ble_eq_true rfl) 0 (Nat.le_of_ble_eq_true rfl))) (zi_0_3 (zids_of 0 (Nat.le_of_ble_eq_true rfl) 0 (Nat.le_of_ble_eq_true rfl))) hc) rfl rfl (Nat.le_of_ble_eq_true rfl) (Nat.le_of_ble_eq_true rfl) (zrecv zo_5 (zi_0_4 (zids_of 0 (Nat.le_of_ble_eq_true rfl) 0 (Nat.le_of_ble_eq_true rfl)))) ?_
  refine zx_aload_n G d_A_image_11 rfl ?_
  refine zx_getR G d_A_image_12 zf_A_35 zc_0_3 (zids_of 0 (Nat.le_of_ble_eq_true rfl) 0 (Nat.le_of_ble_eq_true rfl)) ?_
  obtain ⟨r3, μ2, hc, h⟩ := zbnd_of h
  refine zx_callVI (r := r3) (μ2 := μ2) G d_A_image_15 zm_A_299 (fun l => t_State_ordersPlayed (zi_0_3 (zids_of 0 (Nat.le_of_ble_eq_true rfl) 0 (Nat.le_of_ble_eq_true rfl))) hc) rfl rfl (Nat.le_of_ble_eq_true rfl) (Nat.le_of_ble_eq_true rfl) (zrecv zo_5 (zi_0_3 (zids_of 0 (Nat.le_of_ble_eq_true rfl) 0 (Nat.le_of_ble_eq_true rfl)))) ?_
  exact zx_iret G d_A_image_18 rfl h
set_option maxHeartbeats 4000000 in
set_option maxRecDepth 20000 in
theorem t_A_back {g : ZG} {l : Launch} {N : Nat} {μ : ZMem} {rr : Int32 × ZMem} (h : f_A_back N μ = some rr) : zT g l 3 K_A_back [.ref (g.2.1 0 0)] μ (some (.int rr.1), rr.2) := by
  refine zT_of (by decide +kernel) (Nat.le_of_ble_eq_true rfl) (fun E G => ?_)
  show zX g K_A_back 3 E (some (.int rr.1), rr.2) μ 0 [some (.ref (g.2.1 0 0))] []
  unfold f_A_back at h
  refine zx_aload_n G d_A_back_0 rfl ?_
  refine zx_getR G d_A_back_1 zf_A_35 zc_0_3 (zids_of 0 (Nat.le_of_ble_eq_true rfl) 0 (Nat.le_of_ble_eq_true rfl)) ?_
  refine zx_aload_n G d_A_back_4 rfl ?_
  refine zx_getR G d_A_back_5 zf_A_39 zc_0_4 (zids_of 0 (Nat.le_of_ble_eq_true rfl) 0 (Nat.le_of_ble_eq_true rfl)) ?_
  obtain ⟨u9, μ1, hc, h⟩ := zbnd_of h
  refine zx_callVV  (μ2 := μ1) G d_A_back_8 zm_A_306 (fun l => t_State_copyFrom (zi_0_3 (zids_of 0 (Nat.le_of_ble_eq_true rfl) 0 (Nat.le_of_ble_eq_true rfl))) (zi_0_4 (zids_of 0 (Nat.le_of_ble_eq_true rfl) 0 (Nat.le_of_ble_eq_true rfl))) hc) rfl rfl (Nat.le_of_ble_eq_true rfl) (Nat.le_of_ble_eq_true rfl) (zrecv zo_5 (zi_0_3 (zids_of 0 (Nat.le_of_ble_eq_true rfl) 0 (Nat.le_of_ble_eq_true rfl)))) ?_
  refine zx_aload_n G d_A_back_11 rfl ?_
  refine zx_getR G d_A_back_12 zf_A_35 zc_0_3 (zids_of 0 (Nat.le_of_ble_eq_true rfl) 0 (Nat.le_of_ble_eq_true rfl)) ?_
  obtain ⟨r3, μ2, hc, h⟩ := zbnd_of h
  refine zx_callVI (r := r3) (μ2 := μ2) G d_A_back_15 zm_A_299 (fun l => t_State_ordersPlayed (zi_0_3 (zids_of 0 (Nat.le_of_ble_eq_true rfl) 0 (Nat.le_of_ble_eq_true rfl))) hc) rfl rfl (Nat.le_of_ble_eq_true rfl) (Nat.le_of_ble_eq_true rfl) (zrecv zo_5 (zi_0_3 (zids_of 0 (Nat.le_of_ble_eq_true rfl) 0 (Nat.le_of_ble_eq_true rfl)))) ?_
  exact zx_iret G d_A_back_18 rfl h
set_option maxHeartbeats 4000000 in
set_option maxRecDepth 20000 in
theorem t_A_about {g : ZG} {l : Launch} {N : Nat} {μ : ZMem} {p0 : Int32} {rr : Int32 × ZMem} (h : f_A_about N μ p0 = some rr) : zT g l 2 K_A_about [.ref (g.2.1 0 0), .int p0] μ (some (.int rr.1), rr.2) := by
  refine zT_of (by decide +kernel) (Nat.le_of_ble_eq_true rfl) (fun E G => ?_)
  show zX g K_A_about 2 E (some (.int rr.1), rr.2) μ 0 [some (.ref (g.2.1 0 0)), some (.int p0)] []
  unfold f_A_about at h
  refine zx_iload_n G d_A_about_0 rfl ?_
  refine zx_join (P := fun k => ∀ (μ1 : ZMem), k μ1 = some rr → zX g K_A_about 2 E (some (.int rr.1), rr.2) μ1 68 [some (.ref (g.2.1 0 0)), none] []) h (fun μ1 h => ?_) (fun k2 hk2 h => ?_)
  · try dsimp only at h
    refine zx_aload_n G d_A_about_68 rfl ?_
    refine zx_getR G d_A_about_69 zf_A_35 zc_0_3 (zids_of 0 (Nat.le_of_ble_eq_true rfl) 0 (Nat.le_of_ble_eq_true rfl)) ?_
    obtain ⟨r4, μ3, hc, h⟩ := zbnd_of h
    refine zx_callVI (r := r4) (μ2 := μ3) G d_A_about_72 zm_A_299 (fun l => t_State_ordersPlayed (zi_0_3 (zids_of 0 (Nat.le_of_ble_eq_true rfl) 0 (Nat.le_of_ble_eq_true rfl))) hc) rfl rfl (Nat.le_of_ble_eq_true rfl) (Nat.le_of_ble_eq_true rfl) (zrecv zo_5 (zi_0_3 (zids_of 0 (Nat.le_of_ble_eq_true rfl) 0 (Nat.le_of_ble_eq_true rfl)))) ?_
    exact zx_iret G d_A_about_75 rfl h
  try dsimp only at h
  refine zx_if h (fun c5 h => ?_) (fun c5 h => ?_)
  · refine zx_sw (tgt := 52) G d_A_about_1 c5 (by decide) (by decide) rfl rfl ?_
    refine zx_aload_n G d_A_about_52 rfl ?_
    refine zx_getR G d_A_about_53 zf_A_35 zc_0_3 (zids_of 0 (Nat.le_of_ble_eq_true rfl) 0 (Nat.le_of_ble_eq_true rfl)) ?_
    refine zx_getI G d_A_about_56 zf_A_103 zc_5_0 (zi_0_3 (zids_of 0 (Nat.le_of_ble_eq_true rfl) 0 (Nat.le_of_ble_eq_true rfl))) ?_
    exact zx_iret G d_A_about_59 rfl h
  · skip
    refine zx_if h (fun c6 h => ?_) (fun c6 h => ?_)
    · refine zx_sw (tgt := 60) G d_A_about_1 c6 (by decide) (by decide) rfl rfl ?_
      refine zx_aload_n G d_A_about_60 rfl ?_
      refine zx_getR G d_A_about_61 zf_A_35 zc_0_3 (zids_of 0 (Nat.le_of_ble_eq_true rfl) 0 (Nat.le_of_ble_eq_true rfl)) ?_
      refine zx_getI G d_A_about_64 zf_A_290 zc_5_7 (zi_0_3 (zids_of 0 (Nat.le_of_ble_eq_true rfl) 0 (Nat.le_of_ble_eq_true rfl))) ?_
      exact zx_iret G d_A_about_67 rfl h
    · skip
      refine zx_if h (fun c7 h => ?_) (fun c7 h => ?_)
      · refine zx_sw (tgt := 68) G d_A_about_1 c7 (by decide) (by decide) rfl rfl ?_
        refine zx_weak [true, false] (lv2 := [_, none]) rfl ?_
        exact hk2 μ h
      · skip
        refine zx_if h (fun c8 h => ?_) (fun c8 h => ?_)
        · refine zx_sw (tgt := 68) G d_A_about_1 c8 (by decide) (by decide) rfl rfl ?_
          refine zx_weak [true, false] (lv2 := [_, none]) rfl ?_
          exact hk2 μ h
        · skip
          refine zx_if h (fun c9 h => ?_) (fun c9 h => ?_)
          · refine zx_sw (tgt := 76) G d_A_about_1 c9 (by decide) (by decide) rfl rfl ?_
            refine zx_aload_n G d_A_about_76 rfl ?_
            refine zx_getR G d_A_about_77 zf_A_35 zc_0_3 (zids_of 0 (Nat.le_of_ble_eq_true rfl) 0 (Nat.le_of_ble_eq_true rfl)) ?_
            refine zx_getR G d_A_about_80 zf_A_168 zc_5_2 (zi_0_3 (zids_of 0 (Nat.le_of_ble_eq_true rfl) 0 (Nat.le_of_ble_eq_true rfl))) ?_
            refine zx_getI G d_A_about_83 zf_A_178 zc_6_2 (zi_5_2 (zi_0_3 (zids_of 0 (Nat.le_of_ble_eq_true rfl) 0 (Nat.le_of_ble_eq_true rfl)))) ?_
            exact zx_iret G d_A_about_86 rfl h
          · skip
            refine zx_if h (fun c10 h => ?_) (fun c10 h => ?_)
            · refine zx_sw (tgt := 87) G d_A_about_1 c10 (by decide) (by decide) rfl rfl ?_
              refine zx_aload_n G d_A_about_87 rfl ?_
              refine zx_getR G d_A_about_88 zf_A_35 zc_0_3 (zids_of 0 (Nat.le_of_ble_eq_true rfl) 0 (Nat.le_of_ble_eq_true rfl)) ?_
              refine zx_getR G d_A_about_91 zf_A_209 zc_5_3 (zi_0_3 (zids_of 0 (Nat.le_of_ble_eq_true rfl) 0 (Nat.le_of_ble_eq_true rfl))) ?_
              refine zx_getI G d_A_about_94 zf_A_178 zc_6_2 (zi_5_3 (zi_0_3 (zids_of 0 (Nat.le_of_ble_eq_true rfl) 0 (Nat.le_of_ble_eq_true rfl)))) ?_
              exact zx_iret G d_A_about_97 rfl h
            · skip
              refine zx_if h (fun c11 h => ?_) (fun c11 h => ?_)
              · refine zx_sw (tgt := 98) G d_A_about_1 c11 (by decide) (by decide) rfl rfl ?_
                refine zx_aload_n G d_A_about_98 rfl ?_
                refine zx_getR G d_A_about_99 zf_A_35 zc_0_3 (zids_of 0 (Nat.le_of_ble_eq_true rfl) 0 (Nat.le_of_ble_eq_true rfl)) ?_
                refine zx_getR G d_A_about_102 zf_A_240 zc_5_4 (zi_0_3 (zids_of 0 (Nat.le_of_ble_eq_true rfl) 0 (Nat.le_of_ble_eq_true rfl))) ?_
                refine zx_getI G d_A_about_105 zf_A_123 zc_4_2 (zi_5_4 (zi_0_3 (zids_of 0 (Nat.le_of_ble_eq_true rfl) 0 (Nat.le_of_ble_eq_true rfl)))) ?_
                exact zx_iret G d_A_about_108 rfl h
              · skip
                refine zx_if h (fun c12 h => ?_) (fun c12 h => ?_)
                · refine zx_sw (tgt := 109) G d_A_about_1 c12 (by decide) (by decide) rfl rfl ?_
                  refine zx_aload_n G d_A_about_109 rfl ?_
                  refine zx_getR G d_A_about_110 zf_A_35 zc_0_3 (zids_of 0 (Nat.le_of_ble_eq_true rfl) 0 (Nat.le_of_ble_eq_true rfl)) ?_
                  refine zx_getI G d_A_about_113 zf_A_271 zc_5_6 (zi_0_3 (zids_of 0 (Nat.le_of_ble_eq_true rfl) 0 (Nat.le_of_ble_eq_true rfl))) ?_
                  exact zx_iret G d_A_about_116 rfl h
                · skip
                  refine zx_if h (fun c13 h => ?_) (fun c13 h => ?_)
                  · refine zx_sw (tgt := 117) G d_A_about_1 c13 (by decide) (by decide) rfl rfl ?_
                    refine zx_aload_n G d_A_about_117 rfl ?_
                    refine zx_getR G d_A_about_118 zf_A_10 zc_0_0 (zids_of 0 (Nat.le_of_ble_eq_true rfl) 0 (Nat.le_of_ble_eq_true rfl)) ?_
                    refine zx_getI G d_A_about_121 zf_A_99 zc_1_1 (zi_0_0 (zids_of 0 (Nat.le_of_ble_eq_true rfl) 0 (Nat.le_of_ble_eq_true rfl))) ?_
                    exact zx_iret G d_A_about_124 rfl h
                  · skip
                    have c5 := lv_neT c5 (a := 0) rfl
                    have c6 := lv_neT c6 (a := 1) rfl
                    have c7 := lv_neT c7 (a := 2) rfl
                    have c8 := lv_neT c8 (a := 3) rfl
                    have c9 := lv_neT c9 (a := 4) rfl
                    have c10 := lv_neT c10 (a := 5) rfl
                    have c11 := lv_neT c11 (a := 6) rfl
                    have c12 := lv_neT c12 (a := 7) rfl
                    have c13 := lv_neT c13 (a := 8) rfl
                    refine zx_swOut (tgt := 125) G d_A_about_1 (by omega) rfl ?_
                    refine zx_iload_n G d_A_about_125 rfl ?_
                    refine zx_bipush (v := 10) G d_A_about_126 rfl ?_
                    refine zx_icmp_lt (tgt := 152) G d_A_about_128 rfl h (fun h => ?_) (fun h => ?_)
                    · refine zx_bipush (v := -2) G d_A_about_152 rfl ?_
                      exact zx_iret G d_A_about_154 rfl h
                    · refine zx_iload_n G d_A_about_131 rfl ?_
                      refine zx_bipush (v := 14) G d_A_about_132 rfl ?_
                      refine zx_icmp_ge (tgt := 152) G d_A_about_134 rfl h (fun h => ?_) (fun h => ?_)
                      · refine zx_bipush (v := -2) G d_A_about_152 rfl ?_
                        exact zx_iret G d_A_about_154 rfl h
                      · refine zx_aload_n G d_A_about_137 rfl ?_
                        refine zx_getR G d_A_about_138 zf_A_35 zc_0_3 (zids_of 0 (Nat.le_of_ble_eq_true rfl) 0 (Nat.le_of_ble_eq_true rfl)) ?_
                        refine zx_getR G d_A_about_141 zf_A_88 zc_5_1 (zi_0_3 (zids_of 0 (Nat.le_of_ble_eq_true rfl) 0 (Nat.le_of_ble_eq_true rfl))) ?_
                        refine zx_iload_n G d_A_about_144 rfl ?_
                        refine zx_bipush (v := 10) G d_A_about_145 rfl ?_
                        refine zx_isub G d_A_about_147 ?_
                        refine zx_iald G d_A_about_148 za_26 (zi_5_1 (zi_0_3 (zids_of 0 (Nat.le_of_ble_eq_true rfl) 0 (Nat.le_of_ble_eq_true rfl)))) h (fun h => ?_)
                        refine zx_goto (tgt := 154) G d_A_about_149 rfl ?_
                        exact zx_iret G d_A_about_154 rfl h
set_option maxHeartbeats 4000000 in
set_option maxRecDepth 20000 in
theorem tf_M_copyAll_l3_0 {g : ZG} {E : ZE} {N : Nat} {rr : Unit × ZMem} {p0 : Nat} {p1 : Nat} {p2 : Nat} {p3 : Nat} {kx24 : ZMem → Option (Unit × ZMem)} (G : zGa g K_M_copyAll 0 E) (hl0 : (40, p0) ∈ zids) (hl1 : (41, p1) ∈ zids) (hl2 : (40, p2) ∈ zids) (hl3 : (41, p3) ∈ zids) (hkx24 : ∀  (μ : ZMem), kx24 μ = some rr → zX g K_M_copyAll 0 E (none, rr.2) μ 24 [none, some (.ref (g.2.1 41 p1)), none, some (.ref (g.2.1 41 p3)), none] []) : ∀ (n3 : Nat) (z2 : Int32) (μ3 : ZMem), f_M_copyAll_l3 N p0 p1 p2 p3 kx24 n3 z2 μ3 = some rr → zX g K_M_copyAll 0 E (none, rr.2) μ3 3 [some (.ref (g.2.1 40 p0)), some (.ref (g.2.1 41 p1)), some (.ref (g.2.1 40 p2)), some (.ref (g.2.1 41 p3)), some (.int z2)] [] := by
  intro n3
  induction n3 with
  | zero => intro z2 μ3 h; cases h
  | succ n3 ih3 =>
    intro z2 μ3 h
    simp only [f_M_copyAll_l3] at h
    refine zx_iload G d_M_copyAll_3 rfl ?_
    refine zx_bipush (v := 30) G d_M_copyAll_5 rfl ?_
    refine zx_icmp_ge (tgt := 24) G d_M_copyAll_7 rfl h (fun h => ?_) (fun h => ?_)
    · refine zx_weak [false, true, false, true, false] (lv2 := [none, _, none, _, none]) rfl ?_
      exact hkx24 μ3 h
    · refine zx_aload_n G d_M_copyAll_10 rfl ?_
      refine zx_iload G d_M_copyAll_11 rfl ?_
      refine zx_aload_n G d_M_copyAll_13 rfl ?_
      refine zx_iload G d_M_copyAll_14 rfl ?_
      refine zx_iald G d_M_copyAll_16 za_40 hl0 h (fun h => ?_)
      refine zx_iast G d_M_copyAll_17 za_40 hl2 h (fun μ4 h => ?_)
      refine zx_iinc (v := 1) (lf := fun y => [_, _, _, _, some (.int y)]) G d_M_copyAll_18 (Nat.le_of_ble_eq_true rfl) rfl rfl (fun _ => rfl) h (fun x5 h => ?_)
      refine zx_goto (tgt := 3) G d_M_copyAll_21 rfl ?_
      exact ih3 x5 μ4 h
set_option maxHeartbeats 4000000 in
set_option maxRecDepth 20000 in
theorem tf_M_copyAll_l3 {g : ZG} {E : ZE} {N n3 : Nat} {rr : Unit × ZMem} {p0 : Nat} {p1 : Nat} {p2 : Nat} {p3 : Nat} {kx24 : ZMem → Option (Unit × ZMem)} {z2 : Int32} {μ3 : ZMem} (G : zGa g K_M_copyAll 0 E) (hl0 : (40, p0) ∈ zids) (hl1 : (41, p1) ∈ zids) (hl2 : (40, p2) ∈ zids) (hl3 : (41, p3) ∈ zids) (h : f_M_copyAll_l3 N p0 p1 p2 p3 kx24 n3 z2 μ3 = some rr) (hkx24 : ∀  (μ : ZMem), kx24 μ = some rr → zX g K_M_copyAll 0 E (none, rr.2) μ 24 [none, some (.ref (g.2.1 41 p1)), none, some (.ref (g.2.1 41 p3)), none] []) : zX g K_M_copyAll 0 E (none, rr.2) μ3 3 [some (.ref (g.2.1 40 p0)), some (.ref (g.2.1 41 p1)), some (.ref (g.2.1 40 p2)), some (.ref (g.2.1 41 p3)), some (.int z2)] [] := tf_M_copyAll_l3_0 G hl0 hl1 hl2 hl3 hkx24 n3 z2 μ3 h
set_option maxHeartbeats 4000000 in
set_option maxRecDepth 20000 in
theorem tf_M_copyAll_l27_0 {g : ZG} {E : ZE} {N : Nat} {rr : Unit × ZMem} {p1 : Nat} {p3 : Nat} (G : zGa g K_M_copyAll 0 E) (hl1 : (41, p1) ∈ zids) (hl3 : (41, p3) ∈ zids) : ∀ (n27 : Nat) (z8 : Int32) (μ9 : ZMem), f_M_copyAll_l27 N p1 p3 n27 z8 μ9 = some rr → zX g K_M_copyAll 0 E (none, rr.2) μ9 27 [none, some (.ref (g.2.1 41 p1)), none, some (.ref (g.2.1 41 p3)), some (.int z8)] [] := by
  intro n27
  induction n27 with
  | zero => intro z8 μ9 h; cases h
  | succ n27 ih27 =>
    intro z8 μ9 h
    simp only [f_M_copyAll_l27] at h
    refine zx_iload G d_M_copyAll_27 rfl ?_
    refine zx_bipush (v := 122) G d_M_copyAll_29 rfl ?_
    refine zx_icmp_ge (tgt := 48) G d_M_copyAll_31 rfl h (fun h => ?_) (fun h => ?_)
    · exact zx_vret G d_M_copyAll_48 rfl h
    · refine zx_aload_n G d_M_copyAll_34 rfl ?_
      refine zx_iload G d_M_copyAll_35 rfl ?_
      refine zx_aload_n G d_M_copyAll_37 rfl ?_
      refine zx_iload G d_M_copyAll_38 rfl ?_
      refine zx_lald G d_M_copyAll_40 za_41 hl1 h (fun h => ?_)
      refine zx_last G d_M_copyAll_41 za_41 hl3 h (fun μ10 h => ?_)
      refine zx_iinc (v := 1) (lf := fun y => [none, _, none, _, some (.int y)]) G d_M_copyAll_42 (Nat.le_of_ble_eq_true rfl) rfl rfl (fun _ => rfl) h (fun x11 h => ?_)
      refine zx_goto (tgt := 27) G d_M_copyAll_45 rfl ?_
      exact ih27 x11 μ10 h
set_option maxHeartbeats 4000000 in
set_option maxRecDepth 20000 in
theorem tf_M_copyAll_l27 {g : ZG} {E : ZE} {N n27 : Nat} {rr : Unit × ZMem} {p1 : Nat} {p3 : Nat} {z8 : Int32} {μ9 : ZMem} (G : zGa g K_M_copyAll 0 E) (hl1 : (41, p1) ∈ zids) (hl3 : (41, p3) ∈ zids) (h : f_M_copyAll_l27 N p1 p3 n27 z8 μ9 = some rr) : zX g K_M_copyAll 0 E (none, rr.2) μ9 27 [none, some (.ref (g.2.1 41 p1)), none, some (.ref (g.2.1 41 p3)), some (.int z8)] [] := tf_M_copyAll_l27_0 G hl1 hl3 n27 z8 μ9 h
set_option maxHeartbeats 4000000 in
set_option maxRecDepth 20000 in
theorem t_M_copyAll {g : ZG} {l : Launch} {N : Nat} {μ : ZMem} {p0 : Nat} {p1 : Nat} {p2 : Nat} {p3 : Nat} (hp0 : (40, p0) ∈ zids) (hp1 : (41, p1) ∈ zids) (hp2 : (40, p2) ∈ zids) (hp3 : (41, p3) ∈ zids) {rr : Unit × ZMem} (h : f_M_copyAll N μ p0 p1 p2 p3 = some rr) : zT g l 0 K_M_copyAll [.ref (g.2.1 40 p0), .ref (g.2.1 41 p1), .ref (g.2.1 40 p2), .ref (g.2.1 41 p3)] μ (none, rr.2) := by
  refine zT_of (by decide +kernel) (Nat.le_of_ble_eq_true rfl) (fun E G => ?_)
  show zX g K_M_copyAll 0 E (none, rr.2) μ 0 [some (.ref (g.2.1 40 p0)), some (.ref (g.2.1 41 p1)), some (.ref (g.2.1 40 p2)), some (.ref (g.2.1 41 p3)), none] []
  unfold f_M_copyAll at h
  refine zx_iconst (v := 0) G d_M_copyAll_0 rfl ?_
  refine zx_istore (lf := fun y => [_, _, _, _, some (.int y)]) G d_M_copyAll_1 (Nat.le_of_ble_eq_true rfl) (fun _ => rfl) h (fun x1 h => ?_)
  refine tf_M_copyAll_l3 G hp0 hp1 hp2 hp3 h (fun μ6 h => ?_)
  · try dsimp only at h
    refine zx_iconst (v := 0) G d_M_copyAll_24 rfl ?_
    refine zx_istore (lf := fun y => [none, _, none, _, some (.int y)]) G d_M_copyAll_25 (Nat.le_of_ble_eq_true rfl) (fun _ => rfl) h (fun x7 h => ?_)
    refine tf_M_copyAll_l27 G hp1 hp3 h
set_option maxHeartbeats 4000000 in
set_option maxRecDepth 20000 in
theorem t_M_isIn {g : ZG} {l : Launch} {N : Nat} {μ : ZMem} {p0 : Int32} {p1 : Int32} {p2 : Int32} {rr : Int32 × ZMem} (h : f_M_isIn N μ p0 p1 p2 = some rr) : zT g l 0 K_M_isIn [.int p0, .int p1, .int p2] μ (some (.int rr.1), rr.2) := by
  refine zT_of (by decide +kernel) (Nat.le_of_ble_eq_true rfl) (fun E G => ?_)
  show zX g K_M_isIn 0 E (some (.int rr.1), rr.2) μ 0 [some (.int p0), some (.int p1), some (.int p2)] []
  unfold f_M_isIn at h
  refine zx_iload_n G d_M_isIn_0 rfl ?_
  refine zx_iload_n G d_M_isIn_1 rfl ?_
  refine zx_icmp_lt (tgt := 14) G d_M_isIn_2 rfl h (fun h => ?_) (fun h => ?_)
  · refine zx_iconst (v := 0) G d_M_isIn_14 rfl ?_
    exact zx_zretK G d_M_isIn_15 rfl (by decide) h
  · refine zx_iload_n G d_M_isIn_5 rfl ?_
    refine zx_iload_n G d_M_isIn_6 rfl ?_
    refine zx_icmp_gt (tgt := 14) G d_M_isIn_7 rfl h (fun h => ?_) (fun h => ?_)
    · refine zx_iconst (v := 0) G d_M_isIn_14 rfl ?_
      exact zx_zretK G d_M_isIn_15 rfl (by decide) h
    · refine zx_iconst (v := 1) G d_M_isIn_10 rfl ?_
      refine zx_goto (tgt := 15) G d_M_isIn_11 rfl ?_
      exact zx_zretK G d_M_isIn_15 rfl (by decide) h
set_option maxHeartbeats 4000000 in
set_option maxRecDepth 20000 in
theorem t_M_think {g : ZG} {l : Launch} {N : Nat} {μ : ZMem} {p0 : Int32} {p1 : Int32} {p2 : Int32} {p3 : Int32} {rr : Int32 × ZMem} (h : f_M_think N μ p0 p1 p2 p3 = some rr) : zT g l 1 K_M_think [.ref (g.2.1 12 0), .int p0, .int p1, .int p2, .int p3] μ (some (.int rr.1), rr.2) := by
  refine zT_of (by decide +kernel) (Nat.le_of_ble_eq_true rfl) (fun E G => ?_)
  show zX g K_M_think 1 E (some (.int rr.1), rr.2) μ 0 [some (.ref (g.2.1 12 0)), some (.int p0), some (.int p1), some (.int p2), some (.int p3)] []
  unfold f_M_think at h
  refine zx_iload_n G d_M_think_0 rfl ?_
  refine zx_iconst (v := 0) G d_M_think_1 rfl ?_
  refine zx_sipush (v := 9999) G d_M_think_2 rfl ?_
  obtain ⟨r2, μ1, hc, h⟩ := zbnd_of h
  refine zx_callSI (r := r2) (μ2 := μ1) G d_M_think_5 zm_M_68 (fun l => t_M_isIn  hc) rfl rfl (Nat.le_of_ble_eq_true rfl) (Nat.le_of_ble_eq_true rfl) ?_
  refine zx_if_eq (tgt := 45) G d_M_think_8 rfl h (fun h => ?_) (fun h => ?_)
  · refine zx_iconst (v := 0) G d_M_think_45 rfl ?_
    exact zx_zretK G d_M_think_46 rfl (by decide) h
  · refine zx_iload_n G d_M_think_11 rfl ?_
    refine zx_iconst (v := 0) G d_M_think_12 rfl ?_
    refine zx_sipush (v := 9999) G d_M_think_13 rfl ?_
    obtain ⟨r4, μ3, hc, h⟩ := zbnd_of h
    refine zx_callSI (r := r4) (μ2 := μ3) G d_M_think_16 zm_M_68 (fun l => t_M_isIn  hc) rfl rfl (Nat.le_of_ble_eq_true rfl) (Nat.le_of_ble_eq_true rfl) ?_
    refine zx_if_eq (tgt := 45) G d_M_think_19 rfl h (fun h => ?_) (fun h => ?_)
    · refine zx_iconst (v := 0) G d_M_think_45 rfl ?_
      exact zx_zretK G d_M_think_46 rfl (by decide) h
    · refine zx_iload_n G d_M_think_22 rfl ?_
      refine zx_iconst (v := 0) G d_M_think_23 rfl ?_
      refine zx_sipush (v := 9999) G d_M_think_24 rfl ?_
      obtain ⟨r6, μ5, hc, h⟩ := zbnd_of h
      refine zx_callSI (r := r6) (μ2 := μ5) G d_M_think_27 zm_M_68 (fun l => t_M_isIn  hc) rfl rfl (Nat.le_of_ble_eq_true rfl) (Nat.le_of_ble_eq_true rfl) ?_
      refine zx_if_eq (tgt := 45) G d_M_think_30 rfl h (fun h => ?_) (fun h => ?_)
      · refine zx_iconst (v := 0) G d_M_think_45 rfl ?_
        exact zx_zretK G d_M_think_46 rfl (by decide) h
      · refine zx_iload G d_M_think_33 rfl ?_
        refine zx_iconst (v := 0) G d_M_think_35 rfl ?_
        refine zx_sipush (v := 9999) G d_M_think_36 rfl ?_
        obtain ⟨r8, μ7, hc, h⟩ := zbnd_of h
        refine zx_callSI (r := r8) (μ2 := μ7) G d_M_think_39 zm_M_68 (fun l => t_M_isIn  hc) rfl rfl (Nat.le_of_ble_eq_true rfl) (Nat.le_of_ble_eq_true rfl) ?_
        refine zx_if_ne (tgt := 47) G d_M_think_42 rfl h (fun h => ?_) (fun h => ?_)
        · refine zx_aload_n G d_M_think_47 rfl ?_
          refine zx_getR G d_M_think_48 zf_M_7 zc_12_0 (zids_of 12 (Nat.le_of_ble_eq_true rfl) 0 (Nat.le_of_ble_eq_true rfl)) ?_
          refine zx_bipush (v := 8) G d_M_think_51 rfl ?_
          refine zx_iload_n G d_M_think_53 rfl ?_
          refine zx_iast G d_M_think_54 za_40 (zi_12_0 (zids_of 12 (Nat.le_of_ble_eq_true rfl) 0 (Nat.le_of_ble_eq_true rfl))) h (fun μ9 h => ?_)
          refine zx_aload_n G d_M_think_55 rfl ?_
          refine zx_getR G d_M_think_56 zf_M_7 zc_12_0 (zids_of 12 (Nat.le_of_ble_eq_true rfl) 0 (Nat.le_of_ble_eq_true rfl)) ?_
          refine zx_bipush (v := 9) G d_M_think_59 rfl ?_
          refine zx_iload_n G d_M_think_61 rfl ?_
          refine zx_iast G d_M_think_62 za_40 (zi_12_0 (zids_of 12 (Nat.le_of_ble_eq_true rfl) 0 (Nat.le_of_ble_eq_true rfl))) h (fun μ10 h => ?_)
          refine zx_aload_n G d_M_think_63 rfl ?_
          refine zx_getR G d_M_think_64 zf_M_7 zc_12_0 (zids_of 12 (Nat.le_of_ble_eq_true rfl) 0 (Nat.le_of_ble_eq_true rfl)) ?_
          refine zx_bipush (v := 10) G d_M_think_67 rfl ?_
          refine zx_iload_n G d_M_think_69 rfl ?_
          refine zx_iast G d_M_think_70 za_40 (zi_12_0 (zids_of 12 (Nat.le_of_ble_eq_true rfl) 0 (Nat.le_of_ble_eq_true rfl))) h (fun μ11 h => ?_)
          refine zx_aload_n G d_M_think_71 rfl ?_
          refine zx_getR G d_M_think_72 zf_M_7 zc_12_0 (zids_of 12 (Nat.le_of_ble_eq_true rfl) 0 (Nat.le_of_ble_eq_true rfl)) ?_
          refine zx_bipush (v := 11) G d_M_think_75 rfl ?_
          refine zx_iload G d_M_think_77 rfl ?_
          refine zx_iast G d_M_think_79 za_40 (zi_12_0 (zids_of 12 (Nat.le_of_ble_eq_true rfl) 0 (Nat.le_of_ble_eq_true rfl))) h (fun μ12 h => ?_)
          refine zx_iconst (v := 1) G d_M_think_80 rfl ?_
          exact zx_zretK G d_M_think_81 rfl (by decide) h
        · refine zx_iconst (v := 0) G d_M_think_45 rfl ?_
          exact zx_zretK G d_M_think_46 rfl (by decide) h
set_option maxHeartbeats 4000000 in
set_option maxRecDepth 20000 in
theorem tf_M_four_l2_0 {g : ZG} {E : ZE} {N : Nat} {rr : Unit × ZMem} {p0 : Int32} (G : zGa g K_M_four 0 E) (hl0 : (12, 0) ∈ zids) : ∀ (n2 : Nat) (z2 : Int32) (μ3 : ZMem), f_M_four_l2 N p0 n2 z2 μ3 = some rr → zX g K_M_four 0 E (none, rr.2) μ3 2 [some (.ref (g.2.1 12 0)), some (.int p0), some (.int z2)] [] := by
  intro n2
  induction n2 with
  | zero => intro z2 μ3 h; cases h
  | succ n2 ih2 =>
    intro z2 μ3 h
    simp only [f_M_four_l2] at h
    refine zx_iload_n G d_M_four_2 rfl ?_
    refine zx_if_lt (tgt := 41) G d_M_four_3 rfl h (fun h => ?_) (fun h => ?_)
    · exact zx_vret G d_M_four_41 rfl h
    · refine zx_aload_n G d_M_four_6 rfl ?_
      refine zx_getR G d_M_four_7 zf_M_26 zc_12_5 hl0 ?_
      refine zx_aload_n G d_M_four_10 rfl ?_
      refine zx_getI G d_M_four_11 zf_M_76 zc_12_6 hl0 ?_
      refine zx_iload_n G d_M_four_14 rfl ?_
      refine zx_bipush (v := 8) G d_M_four_15 rfl ?_
      refine zx_iload_n G d_M_four_17 rfl ?_
      refine zx_imul G d_M_four_18 ?_
      refine zx_ishr G d_M_four_19 ?_
      refine zx_sipush (v := 255) G d_M_four_20 rfl ?_
      refine zx_iand G d_M_four_23 ?_
      refine zx_iast G d_M_four_24 za_43 (zi_12_5 hl0) h (fun μ4 h => ?_)
      refine zx_aload_n G d_M_four_25 rfl ?_
      refine zx_dup G d_M_four_26 rfl ?_
      refine zx_getI G d_M_four_27 zf_M_76 zc_12_6 hl0 ?_
      refine zx_iconst (v := 1) G d_M_four_30 rfl ?_
      refine zx_iadd G d_M_four_31 ?_
      refine zx_putI G d_M_four_32 zq_M_76 zp_12_6 hl0 h (fun μ5 h => ?_)
      refine zx_iinc (v := -1) (lf := fun y => [_, _, some (.int y)]) G d_M_four_35 (Nat.le_of_ble_eq_true rfl) rfl rfl (fun _ => rfl) h (fun x6 h => ?_)
      refine zx_goto (tgt := 2) G d_M_four_38 rfl ?_
      exact ih2 x6 μ5 h
set_option maxHeartbeats 4000000 in
set_option maxRecDepth 20000 in
theorem tf_M_four_l2 {g : ZG} {E : ZE} {N n2 : Nat} {rr : Unit × ZMem} {p0 : Int32} {z2 : Int32} {μ3 : ZMem} (G : zGa g K_M_four 0 E) (hl0 : (12, 0) ∈ zids) (h : f_M_four_l2 N p0 n2 z2 μ3 = some rr) : zX g K_M_four 0 E (none, rr.2) μ3 2 [some (.ref (g.2.1 12 0)), some (.int p0), some (.int z2)] [] := tf_M_four_l2_0 G hl0 n2 z2 μ3 h
set_option maxHeartbeats 4000000 in
set_option maxRecDepth 20000 in
theorem t_M_four {g : ZG} {l : Launch} {N : Nat} {μ : ZMem} {p0 : Int32} {rr : Unit × ZMem} (h : f_M_four N μ p0 = some rr) : zT g l 0 K_M_four [.ref (g.2.1 12 0), .int p0] μ (none, rr.2) := by
  refine zT_of (by decide +kernel) (Nat.le_of_ble_eq_true rfl) (fun E G => ?_)
  show zX g K_M_four 0 E (none, rr.2) μ 0 [some (.ref (g.2.1 12 0)), some (.int p0), none] []
  unfold f_M_four at h
  refine zx_iconst (v := 3) G d_M_four_0 rfl ?_
  refine zx_istore_n (lf := fun y => [_, _, some (.int y)]) G d_M_four_1 (Nat.le_of_ble_eq_true rfl) (fun _ => rfl) h (fun x1 h => ?_)
  refine tf_M_four_l2 G (zids_of 12 (Nat.le_of_ble_eq_true rfl) 0 (Nat.le_of_ble_eq_true rfl)) h
set_option maxHeartbeats 4000000 in
set_option maxRecDepth 20000 in
theorem t_M_feed {g : ZG} {l : Launch} {N : Nat} {μ : ZMem} {p0 : Int32} {p1 : Int32} {p2 : Int32} {p3 : Int32} {p4 : Int32} {rr : Int32 × ZMem} (h : f_M_feed N μ p0 p1 p2 p3 p4 = some rr) : zT g l 1 K_M_feed [.ref (g.2.1 12 0), .int p0, .int p1, .int p2, .int p3, .int p4] μ (some (.int rr.1), rr.2) := by
  refine zT_of (by decide +kernel) (Nat.le_of_ble_eq_true rfl) (fun E G => ?_)
  show zX g K_M_feed 1 E (some (.int rr.1), rr.2) μ 0 [some (.ref (g.2.1 12 0)), some (.int p0), some (.int p1), some (.int p2), some (.int p3), some (.int p4)] []
  unfold f_M_feed at h
  refine zx_aload_n G d_M_feed_0 rfl ?_
  refine zx_getI G d_M_feed_1 zf_M_76 zc_12_6 (zids_of 12 (Nat.le_of_ble_eq_true rfl) 0 (Nat.le_of_ble_eq_true rfl)) ?_
  refine zx_bipush (v := 20) G d_M_feed_4 rfl ?_
  refine zx_iadd G d_M_feed_6 ?_
  refine zx_sipush (v := 300) G d_M_feed_7 rfl ?_
  refine zx_icmp_le (tgt := 15) G d_M_feed_10 rfl h (fun h => ?_) (fun h => ?_)
  · refine zx_aload_n G d_M_feed_15 rfl ?_
    refine zx_iload_n G d_M_feed_16 rfl ?_
    obtain ⟨u9, μ1, hc, h⟩ := zbnd_of h
    refine zx_callVV  (μ2 := μ1) G d_M_feed_17 zm_M_79 (fun l => t_M_four  hc) rfl rfl (Nat.le_of_ble_eq_true rfl) (Nat.le_of_ble_eq_true rfl) (zrecv zo_12 (zids_of 12 (Nat.le_of_ble_eq_true rfl) 0 (Nat.le_of_ble_eq_true rfl))) ?_
    refine zx_aload_n G d_M_feed_20 rfl ?_
    refine zx_iload_n G d_M_feed_21 rfl ?_
    obtain ⟨u9, μ2, hc, h⟩ := zbnd_of h
    refine zx_callVV  (μ2 := μ2) G d_M_feed_22 zm_M_79 (fun l => t_M_four  hc) rfl rfl (Nat.le_of_ble_eq_true rfl) (Nat.le_of_ble_eq_true rfl) (zrecv zo_12 (zids_of 12 (Nat.le_of_ble_eq_true rfl) 0 (Nat.le_of_ble_eq_true rfl))) ?_
    refine zx_aload_n G d_M_feed_25 rfl ?_
    refine zx_iload_n G d_M_feed_26 rfl ?_
    obtain ⟨u9, μ3, hc, h⟩ := zbnd_of h
    refine zx_callVV  (μ2 := μ3) G d_M_feed_27 zm_M_79 (fun l => t_M_four  hc) rfl rfl (Nat.le_of_ble_eq_true rfl) (Nat.le_of_ble_eq_true rfl) (zrecv zo_12 (zids_of 12 (Nat.le_of_ble_eq_true rfl) 0 (Nat.le_of_ble_eq_true rfl))) ?_
    refine zx_aload_n G d_M_feed_30 rfl ?_
    refine zx_iload G d_M_feed_31 rfl ?_
    obtain ⟨u9, μ4, hc, h⟩ := zbnd_of h
    refine zx_callVV  (μ2 := μ4) G d_M_feed_33 zm_M_79 (fun l => t_M_four  hc) rfl rfl (Nat.le_of_ble_eq_true rfl) (Nat.le_of_ble_eq_true rfl) (zrecv zo_12 (zids_of 12 (Nat.le_of_ble_eq_true rfl) 0 (Nat.le_of_ble_eq_true rfl))) ?_
    refine zx_aload_n G d_M_feed_36 rfl ?_
    refine zx_iload G d_M_feed_37 rfl ?_
    obtain ⟨u9, μ5, hc, h⟩ := zbnd_of h
    refine zx_callVV  (μ2 := μ5) G d_M_feed_39 zm_M_79 (fun l => t_M_four  hc) rfl rfl (Nat.le_of_ble_eq_true rfl) (Nat.le_of_ble_eq_true rfl) (zrecv zo_12 (zids_of 12 (Nat.le_of_ble_eq_true rfl) 0 (Nat.le_of_ble_eq_true rfl))) ?_
    refine zx_aload_n G d_M_feed_42 rfl ?_
    refine zx_getI G d_M_feed_43 zf_M_76 zc_12_6 (zids_of 12 (Nat.le_of_ble_eq_true rfl) 0 (Nat.le_of_ble_eq_true rfl)) ?_
    exact zx_iret G d_M_feed_46 rfl h
  · refine zx_iconst (v := -1) G d_M_feed_13 rfl ?_
    exact zx_iret G d_M_feed_14 rfl h
set_option maxHeartbeats 4000000 in
set_option maxRecDepth 20000 in
theorem t_M_end {g : ZG} {l : Launch} {N : Nat} {μ : ZMem} {p0 : Int32} {rr : Int32 × ZMem} (h : f_M_end N μ p0 = some rr) : zT g l 0 K_M_end [.ref (g.2.1 12 0), .int p0] μ (some (.int rr.1), rr.2) := by
  refine zT_of (by decide +kernel) (Nat.le_of_ble_eq_true rfl) (fun E G => ?_)
  show zX g K_M_end 0 E (some (.int rr.1), rr.2) μ 0 [some (.ref (g.2.1 12 0)), some (.int p0)] []
  unfold f_M_end at h
  refine zx_iload_n G d_M_end_0 rfl ?_
  refine zx_if_lt (tgt := 12) G d_M_end_1 rfl h (fun h => ?_) (fun h => ?_)
  · refine zx_iconst (v := -1) G d_M_end_12 rfl ?_
    exact zx_iret G d_M_end_13 rfl h
  · refine zx_iload_n G d_M_end_4 rfl ?_
    refine zx_aload_n G d_M_end_5 rfl ?_
    refine zx_getI G d_M_end_6 zf_M_76 zc_12_6 (zids_of 12 (Nat.le_of_ble_eq_true rfl) 0 (Nat.le_of_ble_eq_true rfl)) ?_
    refine zx_icmp_le (tgt := 14) G d_M_end_9 rfl h (fun h => ?_) (fun h => ?_)
    · refine zx_aload_n G d_M_end_14 rfl ?_
      refine zx_iload_n G d_M_end_15 rfl ?_
      refine zx_putI G d_M_end_16 zq_M_76 zp_12_6 (zids_of 12 (Nat.le_of_ble_eq_true rfl) 0 (Nat.le_of_ble_eq_true rfl)) h (fun μ1 h => ?_)
      refine zx_iload_n G d_M_end_19 rfl ?_
      exact zx_iret G d_M_end_20 rfl h
    · refine zx_iconst (v := -1) G d_M_end_12 rfl ?_
      exact zx_iret G d_M_end_13 rfl h
set_option maxHeartbeats 4000000 in
set_option maxRecDepth 20000 in
theorem t_M_byteAt {g : ZG} {l : Launch} {N : Nat} {μ : ZMem} {p0 : Int32} {rr : Int32 × ZMem} (h : f_M_byteAt N μ p0 = some rr) : zT g l 0 K_M_byteAt [.ref (g.2.1 12 0), .int p0] μ (some (.int rr.1), rr.2) := by
  refine zT_of (by decide +kernel) (Nat.le_of_ble_eq_true rfl) (fun E G => ?_)
  show zX g K_M_byteAt 0 E (some (.int rr.1), rr.2) μ 0 [some (.ref (g.2.1 12 0)), some (.int p0)] []
  unfold f_M_byteAt at h
  refine zx_iload_n G d_M_byteAt_0 rfl ?_
  refine zx_aload_n G d_M_byteAt_1 rfl ?_
  refine zx_getI G d_M_byteAt_2 zf_M_76 zc_12_6 (zids_of 12 (Nat.le_of_ble_eq_true rfl) 0 (Nat.le_of_ble_eq_true rfl)) ?_
  refine zx_icmp_ge (tgt := 17) G d_M_byteAt_5 rfl h (fun h => ?_) (fun h => ?_)
  · refine zx_iconst (v := -1) G d_M_byteAt_17 rfl ?_
    exact zx_iret G d_M_byteAt_18 rfl h
  · refine zx_aload_n G d_M_byteAt_8 rfl ?_
    refine zx_getR G d_M_byteAt_9 zf_M_26 zc_12_5 (zids_of 12 (Nat.le_of_ble_eq_true rfl) 0 (Nat.le_of_ble_eq_true rfl)) ?_
    refine zx_iload_n G d_M_byteAt_12 rfl ?_
    refine zx_iald G d_M_byteAt_13 za_43 (zi_12_5 (zids_of 12 (Nat.le_of_ble_eq_true rfl) 0 (Nat.le_of_ble_eq_true rfl))) h (fun h => ?_)
    refine zx_goto (tgt := 18) G d_M_byteAt_14 rfl ?_
    exact zx_iret G d_M_byteAt_18 rfl h
