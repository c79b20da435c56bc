/-! contracts: each method does what its function says (by program: wip/whole/gen.py) -/
theorem t_JPre_checkIndexN {g : ZG} {l : Launch} {N : Nat} {μ : ZMem} {p0 p1 : Int32} {rr : Int32 × ZMem} (h : f_JPre_checkIndex N μ p0 p1 = some rr) : zT g l 0 K_JPre_checkIndex [.int p0, .int p1, .null] μ (some (.int rr.1), rr.2) := by
  refine zT_of (by decide +kernel) (Nat.le_of_ble_eq_true rfl) (fun E G => ?_)
  show zX g K_JPre_checkIndex 0 E (some (.int rr.1), rr.2) μ 0 [some (.int p0), some (.int p1), some .null] []
  unfold f_JPre_checkIndex at h
  refine zx_iload_n G d_JPre_checkIndex_0 rfl ?_
  refine zx_if_lt (tgt := 9) G d_JPre_checkIndex_1 rfl h (fun h => ?_) (fun h => ?_)
  · cases h
  · refine zx_iload_n G d_JPre_checkIndex_4 rfl ?_
    refine zx_iload_n G d_JPre_checkIndex_5 rfl ?_
    refine zx_icmp_lt (tgt := 16) G d_JPre_checkIndex_6 rfl h (fun h => ?_) (fun h => ?_)
    · refine zx_iload_n G d_JPre_checkIndex_16 rfl ?_
      exact zx_iret G d_JPre_checkIndex_17 rfl h
    · cases h
theorem t_JPre_checkIndexA {g : ZG} {l : Launch} {N t : Nat} {μ : ZMem} {p0 p1 : Int32} {rr : Int32 × ZMem} (h : f_JPre_checkIndex N μ p0 p1 = some rr) : zT g l 0 K_JPre_checkIndex [.int p0, .int p1, .ref t] μ (some (.int rr.1), rr.2) := by
  refine zT_of (by decide +kernel) (Nat.le_of_ble_eq_true rfl) (fun E G => ?_)
  show zX g K_JPre_checkIndex 0 E (some (.int rr.1), rr.2) μ 0 [some (.int p0), some (.int p1), some (.ref t)] []
  unfold f_JPre_checkIndex at h
  refine zx_iload_n G d_JPre_checkIndex_0 rfl ?_
  refine zx_if_lt (tgt := 9) G d_JPre_checkIndex_1 rfl h (fun h => ?_) (fun h => ?_)
  · cases h
  · refine zx_iload_n G d_JPre_checkIndex_4 rfl ?_
    refine zx_iload_n G d_JPre_checkIndex_5 rfl ?_
    refine zx_icmp_lt (tgt := 16) G d_JPre_checkIndex_6 rfl h (fun h => ?_) (fun h => ?_)
    · refine zx_iload_n G d_JPre_checkIndex_16 rfl ?_
      exact zx_iret G d_JPre_checkIndex_17 rfl h
    · cases h
set_option maxHeartbeats 4000000 in
set_option maxRecDepth 20000 in
theorem t_A_isNumber {g : ZG} {l : Launch} {N : Nat} {μ : ZMem} {p0 : Int32} {rr : Int32 × ZMem} (h : f_A_isNumber N μ p0 = some rr) : zT g l 0 K_A_isNumber [.int p0] μ (some (.int rr.1), rr.2) := by
  refine zT_of (by decide +kernel) (Nat.le_of_ble_eq_true rfl) (fun E G => ?_)
  show zX g K_A_isNumber 0 E (some (.int rr.1), rr.2) μ 0 [some (.int p0)] []
  unfold f_A_isNumber at h
  refine zx_iload_n G d_A_isNumber_0 rfl ?_
  refine zx_if_lt (tgt := 15) G d_A_isNumber_1 rfl h (fun h => ?_) (fun h => ?_)
  · refine zx_iconst (v := 0) G d_A_isNumber_15 rfl ?_
    exact zx_zretK G d_A_isNumber_16 rfl (by decide) h
  · refine zx_iload_n G d_A_isNumber_4 rfl ?_
    refine zx_sipush (v := 9999) G d_A_isNumber_5 rfl ?_
    refine zx_icmp_gt (tgt := 15) G d_A_isNumber_8 rfl h (fun h => ?_) (fun h => ?_)
    · refine zx_iconst (v := 0) G d_A_isNumber_15 rfl ?_
      exact zx_zretK G d_A_isNumber_16 rfl (by decide) h
    · refine zx_iconst (v := 1) G d_A_isNumber_11 rfl ?_
      refine zx_goto (tgt := 16) G d_A_isNumber_12 rfl ?_
      exact zx_zretK G d_A_isNumber_16 rfl (by decide) h
set_option maxHeartbeats 4000000 in
set_option maxRecDepth 20000 in
theorem t_A_think {g : ZG} {l : Launch} {N : Nat} {μ : ZMem} {p0 : Int32} {p1 : Int32} {p2 : Int32} {p3 : Int32} {rr : Int32 × ZMem} (h : f_A_think N μ p0 p1 p2 p3 = some rr) : zT g l 1 K_A_think [.ref (g.2.1 0 0), .int p0, .int p1, .int p2, .int p3] μ (some (.int rr.1), rr.2) := by
  refine zT_of (by decide +kernel) (Nat.le_of_ble_eq_true rfl) (fun E G => ?_)
  show zX g K_A_think 1 E (some (.int rr.1), rr.2) μ 0 [some (.ref (g.2.1 0 0)), some (.int p0), some (.int p1), some (.int p2), some (.int p3)] []
  unfold f_A_think at h
  refine zx_iload_n G d_A_think_0 rfl ?_
  obtain ⟨r2, μ1, hc, h⟩ := zbnd_of h
  refine zx_callSI (r := r2) (μ2 := μ1) G d_A_think_1 zm_A_84 (fun l => t_A_isNumber  hc) rfl rfl (Nat.le_of_ble_eq_true rfl) (Nat.le_of_ble_eq_true rfl) ?_
  refine zx_if_eq (tgt := 29) G d_A_think_4 rfl h (fun h => ?_) (fun h => ?_)
  · refine zx_iconst (v := 0) G d_A_think_29 rfl ?_
    exact zx_zretK G d_A_think_30 rfl (by decide) h
  · refine zx_iload_n G d_A_think_7 rfl ?_
    obtain ⟨r4, μ3, hc, h⟩ := zbnd_of h
    refine zx_callSI (r := r4) (μ2 := μ3) G d_A_think_8 zm_A_84 (fun l => t_A_isNumber  hc) rfl rfl (Nat.le_of_ble_eq_true rfl) (Nat.le_of_ble_eq_true rfl) ?_
    refine zx_if_eq (tgt := 29) G d_A_think_11 rfl h (fun h => ?_) (fun h => ?_)
    · refine zx_iconst (v := 0) G d_A_think_29 rfl ?_
      exact zx_zretK G d_A_think_30 rfl (by decide) h
    · refine zx_iload_n G d_A_think_14 rfl ?_
      obtain ⟨r6, μ5, hc, h⟩ := zbnd_of h
      refine zx_callSI (r := r6) (μ2 := μ5) G d_A_think_15 zm_A_84 (fun l => t_A_isNumber  hc) rfl rfl (Nat.le_of_ble_eq_true rfl) (Nat.le_of_ble_eq_true rfl) ?_
      refine zx_if_eq (tgt := 29) G d_A_think_18 rfl h (fun h => ?_) (fun h => ?_)
      · refine zx_iconst (v := 0) G d_A_think_29 rfl ?_
        exact zx_zretK G d_A_think_30 rfl (by decide) h
      · refine zx_iload G d_A_think_21 rfl ?_
        obtain ⟨r8, μ7, hc, h⟩ := zbnd_of h
        refine zx_callSI (r := r8) (μ2 := μ7) G d_A_think_23 zm_A_84 (fun l => t_A_isNumber  hc) rfl rfl (Nat.le_of_ble_eq_true rfl) (Nat.le_of_ble_eq_true rfl) ?_
        refine zx_if_ne (tgt := 31) G d_A_think_26 rfl h (fun h => ?_) (fun h => ?_)
        · refine zx_aload_n G d_A_think_31 rfl ?_
          refine zx_getR G d_A_think_32 zf_A_35 zc_0_3 (zids_of 0 (Nat.le_of_ble_eq_true rfl) 0 (Nat.le_of_ble_eq_true rfl)) ?_
          refine zx_getR G d_A_think_35 zf_A_88 zc_5_1 (zi_0_3 (zids_of 0 (Nat.le_of_ble_eq_true rfl) 0 (Nat.le_of_ble_eq_true rfl))) ?_
          refine zx_iconst (v := 0) G d_A_think_38 rfl ?_
          refine zx_iload_n G d_A_think_39 rfl ?_
          refine zx_iast G d_A_think_40 za_26 (zi_5_1 (zi_0_3 (zids_of 0 (Nat.le_of_ble_eq_true rfl) 0 (Nat.le_of_ble_eq_true rfl)))) h (fun μ9 h => ?_)
          refine zx_aload_n G d_A_think_41 rfl ?_
          refine zx_getR G d_A_think_42 zf_A_35 zc_0_3 (zids_of 0 (Nat.le_of_ble_eq_true rfl) 0 (Nat.le_of_ble_eq_true rfl)) ?_
          refine zx_getR G d_A_think_45 zf_A_88 zc_5_1 (zi_0_3 (zids_of 0 (Nat.le_of_ble_eq_true rfl) 0 (Nat.le_of_ble_eq_true rfl))) ?_
          refine zx_iconst (v := 1) G d_A_think_48 rfl ?_
          refine zx_iload_n G d_A_think_49 rfl ?_
          refine zx_iast G d_A_think_50 za_26 (zi_5_1 (zi_0_3 (zids_of 0 (Nat.le_of_ble_eq_true rfl) 0 (Nat.le_of_ble_eq_true rfl)))) h (fun μ10 h => ?_)
          refine zx_aload_n G d_A_think_51 rfl ?_
          refine zx_getR G d_A_think_52 zf_A_35 zc_0_3 (zids_of 0 (Nat.le_of_ble_eq_true rfl) 0 (Nat.le_of_ble_eq_true rfl)) ?_
          refine zx_getR G d_A_think_55 zf_A_88 zc_5_1 (zi_0_3 (zids_of 0 (Nat.le_of_ble_eq_true rfl) 0 (Nat.le_of_ble_eq_true rfl))) ?_
          refine zx_iconst (v := 2) G d_A_think_58 rfl ?_
          refine zx_iload_n G d_A_think_59 rfl ?_
          refine zx_iast G d_A_think_60 za_26 (zi_5_1 (zi_0_3 (zids_of 0 (Nat.le_of_ble_eq_true rfl) 0 (Nat.le_of_ble_eq_true rfl)))) h (fun μ11 h => ?_)
          refine zx_aload_n G d_A_think_61 rfl ?_
          refine zx_getR G d_A_think_62 zf_A_35 zc_0_3 (zids_of 0 (Nat.le_of_ble_eq_true rfl) 0 (Nat.le_of_ble_eq_true rfl)) ?_
          refine zx_getR G d_A_think_65 zf_A_88 zc_5_1 (zi_0_3 (zids_of 0 (Nat.le_of_ble_eq_true rfl) 0 (Nat.le_of_ble_eq_true rfl))) ?_
          refine zx_iconst (v := 3) G d_A_think_68 rfl ?_
          refine zx_iload G d_A_think_69 rfl ?_
          refine zx_iast G d_A_think_71 za_26 (zi_5_1 (zi_0_3 (zids_of 0 (Nat.le_of_ble_eq_true rfl) 0 (Nat.le_of_ble_eq_true rfl)))) h (fun μ12 h => ?_)
          refine zx_iconst (v := 1) G d_A_think_72 rfl ?_
          exact zx_zretK G d_A_think_73 rfl (by decide) h
        · refine zx_iconst (v := 0) G d_A_think_29 rfl ?_
          exact zx_zretK G d_A_think_30 rfl (by decide) h
set_option maxHeartbeats 4000000 in
set_option maxRecDepth 20000 in
theorem t_Tape_hasRoom {g : ZG} {l : Launch} {N : Nat} {μ : ZMem} {rr : Int32 × ZMem} (h : f_Tape_hasRoom N μ = some rr) : zT g l 0 K_Tape_hasRoom [.ref (g.2.1 1 0)] μ (some (.int rr.1), rr.2) := by
  refine zT_of (by decide +kernel) (Nat.le_of_ble_eq_true rfl) (fun E G => ?_)
  show zX g K_Tape_hasRoom 0 E (some (.int rr.1), rr.2) μ 0 [some (.ref (g.2.1 1 0))] []
  unfold f_Tape_hasRoom at h
  refine zx_aload_n G d_Tape_hasRoom_0 rfl ?_
  refine zx_getI G d_Tape_hasRoom_1 zf_Tape_15 zc_1_1 (zids_of 1 (Nat.le_of_ble_eq_true rfl) 0 (Nat.le_of_ble_eq_true rfl)) ?_
  refine zx_bipush (v := 20) G d_Tape_hasRoom_4 rfl ?_
  refine zx_iadd G d_Tape_hasRoom_6 ?_
  refine zx_sipush (v := 300) G d_Tape_hasRoom_7 rfl ?_
  refine zx_icmp_gt (tgt := 17) G d_Tape_hasRoom_10 rfl h (fun h => ?_) (fun h => ?_)
  · refine zx_iconst (v := 0) G d_Tape_hasRoom_17 rfl ?_
    exact zx_zretK G d_Tape_hasRoom_18 rfl (by decide) h
  · refine zx_iconst (v := 1) G d_Tape_hasRoom_13 rfl ?_
    refine zx_goto (tgt := 18) G d_Tape_hasRoom_14 rfl ?_
    exact zx_zretK G d_Tape_hasRoom_18 rfl (by decide) h
set_option maxHeartbeats 4000000 in
set_option maxRecDepth 20000 in
theorem tf_Tape_append_l3_0 {g : ZG} {E : ZE} {N : Nat} {rr : Unit × ZMem} {p0 : Int32} (G : zGa g K_Tape_append 0 E) (hl0 : (1, 0) ∈ zids) : ∀ (n3 : Nat) (z2 : Int32) (μ3 : ZMem), f_Tape_append_l3 N p0 n3 z2 μ3 = some rr → zX g K_Tape_append 0 E (none, rr.2) μ3 3 [some (.ref (g.2.1 1 0)), some (.int p0), some (.int z2)] [] := by
  intro n3
  induction n3 with
  | zero => intro z2 μ3 h; cases h
  | succ n3 ih3 =>
    intro z2 μ3 h
    simp only [f_Tape_append_l3] at h
    refine zx_iload_n G d_Tape_append_3 rfl ?_
    refine zx_if_lt (tgt := 46) G d_Tape_append_4 rfl h (fun h => ?_) (fun h => ?_)
    · exact zx_vret G d_Tape_append_46 rfl h
    · refine zx_aload_n G d_Tape_append_7 rfl ?_
      refine zx_getI G d_Tape_append_8 zf_Tape_15 zc_1_1 hl0 ?_
      refine zx_sipush (v := 300) G d_Tape_append_11 rfl ?_
      refine zx_icmp_ge (tgt := 46) G d_Tape_append_14 rfl h (fun h => ?_) (fun h => ?_)
      · exact zx_vret G d_Tape_append_46 rfl h
      · refine zx_aload_n G d_Tape_append_17 rfl ?_
        refine zx_getR G d_Tape_append_18 zf_Tape_11 zc_1_0 hl0 ?_
        refine zx_aload_n G d_Tape_append_21 rfl ?_
        refine zx_getI G d_Tape_append_22 zf_Tape_15 zc_1_1 hl0 ?_
        refine zx_iload_n G d_Tape_append_25 rfl ?_
        refine zx_iload_n G d_Tape_append_26 rfl ?_
        refine zx_ishr G d_Tape_append_27 ?_
        refine zx_i2b G d_Tape_append_28 ?_
        refine zx_bast G d_Tape_append_29 za_20 (zi_1_0 hl0) h (fun μ4 h => ?_)
        refine zx_aload_n G d_Tape_append_30 rfl ?_
        refine zx_dup G d_Tape_append_31 rfl ?_
        refine zx_getI G d_Tape_append_32 zf_Tape_15 zc_1_1 hl0 ?_
        refine zx_iconst (v := 1) G d_Tape_append_35 rfl ?_
        refine zx_iadd G d_Tape_append_36 ?_
        refine zx_putI G d_Tape_append_37 zq_Tape_15 zp_1_1 hl0 h (fun μ5 h => ?_)
        refine zx_iinc (v := -8) (lf := fun y => [_, _, some (.int y)]) G d_Tape_append_40 (Nat.le_of_ble_eq_true rfl) rfl rfl (fun _ => rfl) h (fun x6 h => ?_)
        refine zx_goto (tgt := 3) G d_Tape_append_43 rfl ?_
        exact ih3 x6 μ5 h
set_option maxHeartbeats 4000000 in
set_option maxRecDepth 20000 in
theorem tf_Tape_append_l3 {g : ZG} {E : ZE} {N n3 : Nat} {rr : Unit × ZMem} {p0 : Int32} {z2 : Int32} {μ3 : ZMem} (G : zGa g K_Tape_append 0 E) (hl0 : (1, 0) ∈ zids) (h : f_Tape_append_l3 N p0 n3 z2 μ3 = some rr) : zX g K_Tape_append 0 E (none, rr.2) μ3 3 [some (.ref (g.2.1 1 0)), some (.int p0), some (.int z2)] [] := tf_Tape_append_l3_0 G hl0 n3 z2 μ3 h
set_option maxHeartbeats 4000000 in
set_option maxRecDepth 20000 in
theorem t_Tape_append {g : ZG} {l : Launch} {N : Nat} {μ : ZMem} {p0 : Int32} {rr : Unit × ZMem} (h : f_Tape_append N μ p0 = some rr) : zT g l 0 K_Tape_append [.ref (g.2.1 1 0), .int p0] μ (none, rr.2) := by
  refine zT_of (by decide +kernel) (Nat.le_of_ble_eq_true rfl) (fun E G => ?_)
  show zX g K_Tape_append 0 E (none, rr.2) μ 0 [some (.ref (g.2.1 1 0)), some (.int p0), none] []
  unfold f_Tape_append at h
  refine zx_bipush (v := 24) G d_Tape_append_0 rfl ?_
  refine zx_istore_n (lf := fun y => [_, _, some (.int y)]) G d_Tape_append_2 (Nat.le_of_ble_eq_true rfl) (fun _ => rfl) h (fun x1 h => ?_)
  refine tf_Tape_append_l3 G (zids_of 1 (Nat.le_of_ble_eq_true rfl) 0 (Nat.le_of_ble_eq_true rfl)) h
set_option maxHeartbeats 4000000 in
set_option maxRecDepth 20000 in
theorem t_A_feed {g : ZG} {l : Launch} {N : Nat} {μ : ZMem} {p0 : Int32} {p1 : Int32} {p2 : Int32} {p3 : Int32} {p4 : Int32} {rr : Int32 × ZMem} (h : f_A_feed N μ p0 p1 p2 p3 p4 = some rr) : zT g l 1 K_A_feed [.ref (g.2.1 0 0), .int p0, .int p1, .int p2, .int p3, .int p4] μ (some (.int rr.1), rr.2) := by
  refine zT_of (by decide +kernel) (Nat.le_of_ble_eq_true rfl) (fun E G => ?_)
  show zX g K_A_feed 1 E (some (.int rr.1), rr.2) μ 0 [some (.ref (g.2.1 0 0)), some (.int p0), some (.int p1), some (.int p2), some (.int p3), some (.int p4)] []
  unfold f_A_feed at h
  refine zx_aload_n G d_A_feed_0 rfl ?_
  refine zx_getR G d_A_feed_1 zf_A_10 zc_0_0 (zids_of 0 (Nat.le_of_ble_eq_true rfl) 0 (Nat.le_of_ble_eq_true rfl)) ?_
  obtain ⟨r2, μ1, hc, h⟩ := zbnd_of h
  refine zx_callVI (r := r2) (μ2 := μ1) G d_A_feed_4 zm_A_91 (fun l => t_Tape_hasRoom  hc) rfl rfl (Nat.le_of_ble_eq_true rfl) (Nat.le_of_ble_eq_true rfl) (zrecv zo_1 (zi_0_0 (zids_of 0 (Nat.le_of_ble_eq_true rfl) 0 (Nat.le_of_ble_eq_true rfl)))) ?_
  refine zx_if_ne (tgt := 12) G d_A_feed_7 rfl h (fun h => ?_) (fun h => ?_)
  · refine zx_aload_n G d_A_feed_12 rfl ?_
    refine zx_getR G d_A_feed_13 zf_A_10 zc_0_0 (zids_of 0 (Nat.le_of_ble_eq_true rfl) 0 (Nat.le_of_ble_eq_true rfl)) ?_
    refine zx_iload_n G d_A_feed_16 rfl ?_
    obtain ⟨u9, μ3, hc, h⟩ := zbnd_of h
    refine zx_callVV  (μ2 := μ3) G d_A_feed_17 zm_A_95 (fun l => t_Tape_append  hc) rfl rfl (Nat.le_of_ble_eq_true rfl) (Nat.le_of_ble_eq_true rfl) (zrecv zo_1 (zi_0_0 (zids_of 0 (Nat.le_of_ble_eq_true rfl) 0 (Nat.le_of_ble_eq_true rfl)))) ?_
    refine zx_aload_n G d_A_feed_20 rfl ?_
    refine zx_getR G d_A_feed_21 zf_A_10 zc_0_0 (zids_of 0 (Nat.le_of_ble_eq_true rfl) 0 (Nat.le_of_ble_eq_true rfl)) ?_
    refine zx_iload_n G d_A_feed_24 rfl ?_
    obtain ⟨u9, μ4, hc, h⟩ := zbnd_of h
    refine zx_callVV  (μ2 := μ4) G d_A_feed_25 zm_A_95 (fun l => t_Tape_append  hc) rfl rfl (Nat.le_of_ble_eq_true rfl) (Nat.le_of_ble_eq_true rfl) (zrecv zo_1 (zi_0_0 (zids_of 0 (Nat.le_of_ble_eq_true rfl) 0 (Nat.le_of_ble_eq_true rfl)))) ?_
    refine zx_aload_n G d_A_feed_28 rfl ?_
    refine zx_getR G d_A_feed_29 zf_A_10 zc_0_0 (zids_of 0 (Nat.le_of_ble_eq_true rfl) 0 (Nat.le_of_ble_eq_true rfl)) ?_
    refine zx_iload_n G d_A_feed_32 rfl ?_
    obtain ⟨u9, μ5, hc, h⟩ := zbnd_of h
    refine zx_callVV  (μ2 := μ5) G d_A_feed_33 zm_A_95 (fun l => t_Tape_append  hc) rfl rfl (Nat.le_of_ble_eq_true rfl) (Nat.le_of_ble_eq_true rfl) (zrecv zo_1 (zi_0_0 (zids_of 0 (Nat.le_of_ble_eq_true rfl) 0 (Nat.le_of_ble_eq_true rfl)))) ?_
    refine zx_aload_n G d_A_feed_36 rfl ?_
    refine zx_getR G d_A_feed_37 zf_A_10 zc_0_0 (zids_of 0 (Nat.le_of_ble_eq_true rfl) 0 (Nat.le_of_ble_eq_true rfl)) ?_
    refine zx_iload G d_A_feed_40 rfl ?_
    obtain ⟨u9, μ6, hc, h⟩ := zbnd_of h
    refine zx_callVV  (μ2 := μ6) G d_A_feed_42 zm_A_95 (fun l => t_Tape_append  hc) rfl rfl (Nat.le_of_ble_eq_true rfl) (Nat.le_of_ble_eq_true rfl) (zrecv zo_1 (zi_0_0 (zids_of 0 (Nat.le_of_ble_eq_true rfl) 0 (Nat.le_of_ble_eq_true rfl)))) ?_
    refine zx_aload_n G d_A_feed_45 rfl ?_
    refine zx_getR G d_A_feed_46 zf_A_10 zc_0_0 (zids_of 0 (Nat.le_of_ble_eq_true rfl) 0 (Nat.le_of_ble_eq_true rfl)) ?_
    refine zx_iload G d_A_feed_49 rfl ?_
    obtain ⟨u9, μ7, hc, h⟩ := zbnd_of h
    refine zx_callVV  (μ2 := μ7) G d_A_feed_51 zm_A_95 (fun l => t_Tape_append  hc) rfl rfl (Nat.le_of_ble_eq_true rfl) (Nat.le_of_ble_eq_true rfl) (zrecv zo_1 (zi_0_0 (zids_of 0 (Nat.le_of_ble_eq_true rfl) 0 (Nat.le_of_ble_eq_true rfl)))) ?_
    refine zx_aload_n G d_A_feed_54 rfl ?_
    refine zx_getR G d_A_feed_55 zf_A_10 zc_0_0 (zids_of 0 (Nat.le_of_ble_eq_true rfl) 0 (Nat.le_of_ble_eq_true rfl)) ?_
    refine zx_getI G d_A_feed_58 zf_A_99 zc_1_1 (zi_0_0 (zids_of 0 (Nat.le_of_ble_eq_true rfl) 0 (Nat.le_of_ble_eq_true rfl))) ?_
    exact zx_iret G d_A_feed_61 rfl h
  · refine zx_iconst (v := -1) G d_A_feed_10 rfl ?_
    exact zx_iret G d_A_feed_11 rfl h
set_option maxHeartbeats 4000000 in
set_option maxRecDepth 20000 in
theorem t_A_end {g : ZG} {l : Launch} {N : Nat} {μ : ZMem} {p0 : Int32} {rr : Int32 × ZMem} (h : f_A_end N μ p0 = some rr) : zT g l 0 K_A_end [.ref (g.2.1 0 0), .int p0] μ (some (.int rr.1), rr.2) := by
  refine zT_of (by decide +kernel) (Nat.le_of_ble_eq_true rfl) (fun E G => ?_)
  show zX g K_A_end 0 E (some (.int rr.1), rr.2) μ 0 [some (.ref (g.2.1 0 0)), some (.int p0)] []
  unfold f_A_end at h
  refine zx_iload_n G d_A_end_0 rfl ?_
  refine zx_if_lt (tgt := 15) G d_A_end_1 rfl h (fun h => ?_) (fun h => ?_)
  · refine zx_iconst (v := -1) G d_A_end_15 rfl ?_
    exact zx_iret G d_A_end_16 rfl h
  · refine zx_iload_n G d_A_end_4 rfl ?_
    refine zx_aload_n G d_A_end_5 rfl ?_
    refine zx_getR G d_A_end_6 zf_A_10 zc_0_0 (zids_of 0 (Nat.le_of_ble_eq_true rfl) 0 (Nat.le_of_ble_eq_true rfl)) ?_
    refine zx_getI G d_A_end_9 zf_A_99 zc_1_1 (zi_0_0 (zids_of 0 (Nat.le_of_ble_eq_true rfl) 0 (Nat.le_of_ble_eq_true rfl))) ?_
    refine zx_icmp_le (tgt := 17) G d_A_end_12 rfl h (fun h => ?_) (fun h => ?_)
    · refine zx_aload_n G d_A_end_17 rfl ?_
      refine zx_getR G d_A_end_18 zf_A_10 zc_0_0 (zids_of 0 (Nat.le_of_ble_eq_true rfl) 0 (Nat.le_of_ble_eq_true rfl)) ?_
      refine zx_iload_n G d_A_end_21 rfl ?_
      refine zx_putI G d_A_end_22 zq_A_99 zp_1_1 (zi_0_0 (zids_of 0 (Nat.le_of_ble_eq_true rfl) 0 (Nat.le_of_ble_eq_true rfl))) h (fun μ1 h => ?_)
      refine zx_iload_n G d_A_end_25 rfl ?_
      exact zx_iret G d_A_end_26 rfl h
    · refine zx_iconst (v := -1) G d_A_end_15 rfl ?_
      exact zx_iret G d_A_end_16 rfl h
set_option maxHeartbeats 4000000 in
set_option maxRecDepth 20000 in
theorem tf_JArr_fillI_l5_0 {g : ZG} {E : ZE} {N : Nat} {rr : Unit × ZMem} {k : Nat} {p0 : Nat} {p1 : Int32} {x2 : Int32} (G : zGa g K_JArr_fillI 0 E) (hk : zaI k) (hl0 : (k, p0) ∈ zids) : ∀ (n5 : Nat) (z3 : Int32) (μ4 : ZMem), f_JArr_fillI_l5 N k p0 p1 x2 n5 z3 μ4 = some rr → zX g K_JArr_fillI 0 E (none, rr.2) μ4 5 [some (.ref (g.2.1 k p0)), some (.int p1), some (.int z3), some (.int x2)] [] := by
  intro n5
  induction n5 with
  | zero => intro z3 μ4 h; cases h
  | succ n5 ih5 =>
    intro z3 μ4 h
    simp only [f_JArr_fillI_l5] at h
    refine zx_iload_n G d_JArr_fillI_5 rfl ?_
    refine zx_iload_n G d_JArr_fillI_6 rfl ?_
    refine zx_icmp_ge (tgt := 20) G d_JArr_fillI_7 rfl h (fun h => ?_) (fun h => ?_)
    · exact zx_vret G d_JArr_fillI_20 rfl h
    · refine zx_aload_n G d_JArr_fillI_10 rfl ?_
      refine zx_iload_n G d_JArr_fillI_11 rfl ?_
      refine zx_iload_n G d_JArr_fillI_12 rfl ?_
      refine zx_iast G d_JArr_fillI_13 hk hl0 h (fun μ5 h => ?_)
      refine zx_iinc (v := 1) (lf := fun y => [_, _, some (.int y), _]) G d_JArr_fillI_14 (Nat.le_of_ble_eq_true rfl) rfl rfl (fun _ => rfl) h (fun x6 h => ?_)
      refine zx_goto (tgt := 5) G d_JArr_fillI_17 rfl ?_
      exact ih5 x6 μ5 h
set_option maxHeartbeats 4000000 in
set_option maxRecDepth 20000 in
theorem tf_JArr_fillI_l5 {g : ZG} {E : ZE} {N n5 : Nat} {rr : Unit × ZMem} {k : Nat} {p0 : Nat} {p1 : Int32} {x2 : Int32} {z3 : Int32} {μ4 : ZMem} (G : zGa g K_JArr_fillI 0 E) (hk : zaI k) (hl0 : (k, p0) ∈ zids) (h : f_JArr_fillI_l5 N k p0 p1 x2 n5 z3 μ4 = some rr) : zX g K_JArr_fillI 0 E (none, rr.2) μ4 5 [some (.ref (g.2.1 k p0)), some (.int p1), some (.int z3), some (.int x2)] [] := tf_JArr_fillI_l5_0 G hk hl0 n5 z3 μ4 h
set_option maxHeartbeats 4000000 in
set_option maxRecDepth 20000 in
theorem t_JArr_fillI {g : ZG} {l : Launch} {N : Nat} {μ : ZMem} {k : Nat} {p0 : Nat} {p1 : Int32} (hk : zaI k) (hp0 : (k, p0) ∈ zids) {rr : Unit × ZMem} (h : f_JArr_fillI N μ k p0 p1 = some rr) : zT g l 0 K_JArr_fillI [.ref (g.2.1 k p0), .int p1] μ (none, rr.2) := by
  refine zT_of (by decide +kernel) (Nat.le_of_ble_eq_true rfl) (fun E G => ?_)
  show zX g K_JArr_fillI 0 E (none, rr.2) μ 0 [some (.ref (g.2.1 k p0)), some (.int p1), none, none] []
  unfold f_JArr_fillI at h
  refine zx_iconst (v := 0) G d_JArr_fillI_0 rfl ?_
  refine zx_istore_n (lf := fun y => [_, _, some (.int y), none]) G d_JArr_fillI_1 (Nat.le_of_ble_eq_true rfl) (fun _ => rfl) h (fun x1 h => ?_)
  refine zx_aload_n G d_JArr_fillI_2 rfl ?_
  refine zx_alenI G d_JArr_fillI_3 hk hp0 ?_
  refine zx_istore_n (lf := fun y => [_, _, _, some (.int y)]) G d_JArr_fillI_4 (Nat.le_of_ble_eq_true rfl) (fun _ => rfl) h (fun x2 h => ?_)
  refine tf_JArr_fillI_l5 G hk hp0 h
set_option maxHeartbeats 4000000 in
set_option maxRecDepth 20000 in
theorem t_Table_clear {g : ZG} {l : Launch} {N : Nat} {μ : ZMem} {o : Nat} (ho : (3, o) ∈ zids) {rr : Unit × ZMem} (h : f_Table_clear N μ o = some rr) : zT g l 1 K_Table_clear [.ref (g.2.1 3 o)] μ (none, rr.2) := by
  refine zT_of (by decide +kernel) (Nat.le_of_ble_eq_true rfl) (fun E G => ?_)
  show zX g K_Table_clear 1 E (none, rr.2) μ 0 [some (.ref (g.2.1 3 o))] []
  unfold f_Table_clear at h
  refine zx_aload_n G d_Table_clear_0 rfl ?_
  refine zx_getR G d_Table_clear_1 zf_Table_14 zc_3_0 ho ?_
  refine zx_iconst (v := 0) G d_Table_clear_4 rfl ?_
  refine zx_putI G d_Table_clear_5 zq_Table_27 zp_4_2 (zi_3_0 ho) h (fun μ1 h => ?_)
  refine zx_aload_n G d_Table_clear_8 rfl ?_
  refine zx_getR G d_Table_clear_9 zf_Table_20 zc_3_1 ho ?_
  refine zx_iconst (v := -1) G d_Table_clear_12 rfl ?_
  obtain ⟨u9, μ2, hc, h⟩ := zbnd_of h
  refine zx_callSV  (μ2 := μ2) G d_Table_clear_13 zm_Table_31 (fun l => t_JArr_fillI za_24 (zi_3_1 ho) hc) rfl rfl (Nat.le_of_ble_eq_true rfl) (Nat.le_of_ble_eq_true rfl) ?_
  refine zx_aload_n G d_Table_clear_16 rfl ?_
  refine zx_getR G d_Table_clear_17 zf_Table_24 zc_3_2 ho ?_
  refine zx_iconst (v := -1) G d_Table_clear_20 rfl ?_
  obtain ⟨u9, μ3, hc, h⟩ := zbnd_of h
  refine zx_callSV  (μ2 := μ3) G d_Table_clear_21 zm_Table_31 (fun l => t_JArr_fillI za_25 (zi_3_2 ho) hc) rfl rfl (Nat.le_of_ble_eq_true rfl) (Nat.le_of_ble_eq_true rfl) ?_
  exact zx_vret G d_Table_clear_24 rfl h
set_option maxHeartbeats 4000000 in
set_option maxRecDepth 20000 in
theorem t_Reader_sortOf {g : ZG} {l : Launch} {N : Nat} {μ : ZMem} {p0 : Int32} {rr : Int32 × ZMem} (h : f_Reader_sortOf N μ p0 = some rr) : zT g l 0 K_Reader_sortOf [.int p0] μ (some (.int rr.1), rr.2) := by
  refine zT_of (by decide +kernel) (Nat.le_of_ble_eq_true rfl) (fun E G => ?_)
  show zX g K_Reader_sortOf 0 E (some (.int rr.1), rr.2) μ 0 [some (.int p0)] []
  unfold f_Reader_sortOf at h
  refine zx_iload_n G d_Reader_sortOf_0 rfl ?_
  refine zx_bipush (v := 97) G d_Reader_sortOf_1 rfl ?_
  refine zx_join (P := fun k => ∀ (μ1 : ZMem), k μ1 = some rr → zX g K_Reader_sortOf 0 E (some (.int rr.1), rr.2) μ1 12 [some (.int p0)] []) h (fun μ1 h => ?_) (fun k2 hk2 h => ?_)
  · try dsimp only at h
    refine zx_iload_n G d_Reader_sortOf_12 rfl ?_
    refine zx_bipush (v := 65) G d_Reader_sortOf_13 rfl ?_
    refine zx_join (P := fun k => ∀ (μ3 : ZMem), k μ3 = some rr → zX g K_Reader_sortOf 0 E (some (.int rr.1), rr.2) μ3 26 [some (.int p0)] []) h (fun μ3 h => ?_) (fun k4 hk4 h => ?_)
    · try dsimp only at h
      refine zx_iload_n G d_Reader_sortOf_26 rfl ?_
      refine zx_bipush (v := 48) G d_Reader_sortOf_27 rfl ?_
      refine zx_join (P := fun k => ∀ (μ5 : ZMem), k μ5 = some rr → zX g K_Reader_sortOf 0 E (some (.int rr.1), rr.2) μ5 40 [some (.int p0)] []) h (fun μ5 h => ?_) (fun k6 hk6 h => ?_)
      · try dsimp only at h
        refine zx_iload_n G d_Reader_sortOf_40 rfl ?_
        refine zx_bipush (v := 32) G d_Reader_sortOf_41 rfl ?_
        refine zx_icmp_eq (tgt := 52) G d_Reader_sortOf_43 rfl h (fun h => ?_) (fun h => ?_)
        · refine zx_iconst (v := 4) G d_Reader_sortOf_52 rfl ?_
          exact zx_iret G d_Reader_sortOf_53 rfl h
        · refine zx_iload_n G d_Reader_sortOf_46 rfl ?_
          refine zx_bipush (v := 10) G d_Reader_sortOf_47 rfl ?_
          refine zx_icmp_ne (tgt := 54) G d_Reader_sortOf_49 rfl h (fun h => ?_) (fun h => ?_)
          · refine zx_iload_n G d_Reader_sortOf_54 rfl ?_
            refine zx_bipush (v := 59) G d_Reader_sortOf_55 rfl ?_
            refine zx_icmp_ne (tgt := 64) G d_Reader_sortOf_57 rfl h (fun h => ?_) (fun h => ?_)
            · refine zx_iconst (v := 5) G d_Reader_sortOf_64 rfl ?_
              exact zx_iret G d_Reader_sortOf_65 rfl h
            · refine zx_iconst (v := 3) G d_Reader_sortOf_60 rfl ?_
              refine zx_goto (tgt := 65) G d_Reader_sortOf_61 rfl ?_
              exact zx_iret G d_Reader_sortOf_65 rfl h
          · refine zx_iconst (v := 4) G d_Reader_sortOf_52 rfl ?_
            exact zx_iret G d_Reader_sortOf_53 rfl h
      try dsimp only at h
      refine zx_icmp_lt (tgt := 40) G d_Reader_sortOf_29 rfl h (fun h => ?_) (fun h => ?_)
      · exact hk6 μ3 h
      · refine zx_iload_n G d_Reader_sortOf_32 rfl ?_
        refine zx_bipush (v := 57) G d_Reader_sortOf_33 rfl ?_
        refine zx_icmp_gt (tgt := 40) G d_Reader_sortOf_35 rfl h (fun h => ?_) (fun h => ?_)
        · exact hk6 μ3 h
        · refine zx_iconst (v := 2) G d_Reader_sortOf_38 rfl ?_
          exact zx_iret G d_Reader_sortOf_39 rfl h
    try dsimp only at h
    refine zx_icmp_lt (tgt := 26) G d_Reader_sortOf_15 rfl h (fun h => ?_) (fun h => ?_)
    · exact hk4 μ1 h
    · refine zx_iload_n G d_Reader_sortOf_18 rfl ?_
      refine zx_bipush (v := 90) G d_Reader_sortOf_19 rfl ?_
      refine zx_icmp_gt (tgt := 26) G d_Reader_sortOf_21 rfl h (fun h => ?_) (fun h => ?_)
      · exact hk4 μ1 h
      · refine zx_iconst (v := 1) G d_Reader_sortOf_24 rfl ?_
        exact zx_iret G d_Reader_sortOf_25 rfl h
  try dsimp only at h
  refine zx_icmp_lt (tgt := 12) G d_Reader_sortOf_3 rfl h (fun h => ?_) (fun h => ?_)
  · exact hk2 μ h
  · refine zx_iload_n G d_Reader_sortOf_6 rfl ?_
    refine zx_bipush (v := 122) G d_Reader_sortOf_7 rfl ?_
    refine zx_icmp_le (tgt := 24) G d_Reader_sortOf_9 rfl h (fun h => ?_) (fun h => ?_)
    · refine zx_iconst (v := 1) G d_Reader_sortOf_24 rfl ?_
      exact zx_iret G d_Reader_sortOf_25 rfl h
    · exact hk2 μ h
set_option maxHeartbeats 4000000 in
set_option maxRecDepth 20000 in
theorem tf_Reader_advance_l8_0 {g : ZG} {E : ZE} {N : Nat} {rr : Unit × ZMem} {kx54 : ZMem → Option (Unit × ZMem)} (G : zGa g K_Reader_advance 1 E) (hl0 : (2, 0) ∈ zids) (hkx54 : ∀  (μ : ZMem), kx54 μ = some rr → zX g K_Reader_advance 1 E (none, rr.2) μ 54 [some (.ref (g.2.1 2 0)), none] []) : ∀ (n8 : Nat) (μ2 : ZMem), f_Reader_advance_l8 N kx54 n8  μ2 = some rr → zX g K_Reader_advance 1 E (none, rr.2) μ2 8 [some (.ref (g.2.1 2 0)), none] [] := by
  intro n8
  induction n8 with
  | zero => intro  μ2 h; cases h
  | succ n8 ih8 =>
    intro  μ2 h
    simp only [f_Reader_advance_l8] at h
    refine zx_aload_n G d_Reader_advance_8 rfl ?_
    refine zx_getI G d_Reader_advance_9 zf_Reader_105 zc_2_4 hl0 ?_
    refine zx_aload_n G d_Reader_advance_12 rfl ?_
    refine zx_getR G d_Reader_advance_13 zf_Reader_18 zc_2_0 hl0 ?_
    refine zx_getI G d_Reader_advance_16 zf_Reader_108 zc_1_1 (zi_2_0 hl0) ?_
    refine zx_icmp_ge (tgt := 54) G d_Reader_advance_19 rfl h (fun h => ?_) (fun h => ?_)
    · exact hkx54 μ2 h
    · refine zx_aload_n G d_Reader_advance_22 rfl ?_
      refine zx_getR G d_Reader_advance_23 zf_Reader_18 zc_2_0 hl0 ?_
      refine zx_getR G d_Reader_advance_26 zf_Reader_113 zc_1_0 (zi_2_0 hl0) ?_
      refine zx_aload_n G d_Reader_advance_29 rfl ?_
      refine zx_getI G d_Reader_advance_30 zf_Reader_105 zc_2_4 hl0 ?_
      refine zx_bald G d_Reader_advance_33 za_20 (zi_1_0 (zi_2_0 hl0)) h (fun h => ?_)
      obtain ⟨r4, μ3, hc, h⟩ := zbnd_of h
      refine zx_callSI (r := r4) (μ2 := μ3) G d_Reader_advance_34 zm_Reader_117 (fun l => t_Reader_sortOf  hc) rfl rfl (Nat.le_of_ble_eq_true rfl) (Nat.le_of_ble_eq_true rfl) ?_
      refine zx_iconst (v := 4) G d_Reader_advance_37 rfl ?_
      refine zx_icmp_ne (tgt := 54) G d_Reader_advance_38 rfl h (fun h => ?_) (fun h => ?_)
      · exact hkx54 μ3 h
      · refine zx_aload_n G d_Reader_advance_41 rfl ?_
        refine zx_dup G d_Reader_advance_42 rfl ?_
        refine zx_getI G d_Reader_advance_43 zf_Reader_105 zc_2_4 hl0 ?_
        refine zx_iconst (v := 1) G d_Reader_advance_46 rfl ?_
        refine zx_iadd G d_Reader_advance_47 ?_
        refine zx_putI G d_Reader_advance_48 zq_Reader_105 zp_2_4 hl0 h (fun μ5 h => ?_)
        refine zx_goto (tgt := 8) G d_Reader_advance_51 rfl ?_
        exact ih8 μ5 h
set_option maxHeartbeats 4000000 in
set_option maxRecDepth 20000 in
theorem tf_Reader_advance_l8 {g : ZG} {E : ZE} {N n8 : Nat} {rr : Unit × ZMem} {kx54 : ZMem → Option (Unit × ZMem)} {μ2 : ZMem} (G : zGa g K_Reader_advance 1 E) (hl0 : (2, 0) ∈ zids) (h : f_Reader_advance_l8 N kx54 n8  μ2 = some rr) (hkx54 : ∀  (μ : ZMem), kx54 μ = some rr → zX g K_Reader_advance 1 E (none, rr.2) μ 54 [some (.ref (g.2.1 2 0)), none] []) : zX g K_Reader_advance 1 E (none, rr.2) μ2 8 [some (.ref (g.2.1 2 0)), none] [] := tf_Reader_advance_l8_0 G hl0 hkx54 n8  μ2 h
set_option maxHeartbeats 4000000 in
set_option maxRecDepth 20000 in
theorem tf_Reader_advance_l137_0 {g : ZG} {E : ZE} {N : Nat} {rr : Unit × ZMem} {x18 : Int32} (G : zGa g K_Reader_advance 1 E) (hl0 : (2, 0) ∈ zids) : ∀ (n137 : Nat) (μ19 : ZMem), f_Reader_advance_l137 N x18 n137  μ19 = some rr → zX g K_Reader_advance 1 E (none, rr.2) μ19 137 [some (.ref (g.2.1 2 0)), some (.int x18)] [] := by
  intro n137
  induction n137 with
  | zero => intro  μ19 h; cases h
  | succ n137 ih137 =>
    intro  μ19 h
    simp only [f_Reader_advance_l137] at h
    refine zx_iload_n G d_Reader_advance_137 rfl ?_
    refine zx_if_eq (tgt := 190) G d_Reader_advance_138 rfl h (fun h => ?_) (fun h => ?_)
    · exact zx_vret G d_Reader_advance_190 rfl h
    · refine zx_aload_n G d_Reader_advance_141 rfl ?_
      refine zx_getI G d_Reader_advance_142 zf_Reader_22 zc_2_5 hl0 ?_
      refine zx_aload_n G d_Reader_advance_145 rfl ?_
      refine zx_getR G d_Reader_advance_146 zf_Reader_18 zc_2_0 hl0 ?_
      refine zx_getI G d_Reader_advance_149 zf_Reader_108 zc_1_1 (zi_2_0 hl0) ?_
      refine zx_icmp_ge (tgt := 190) G d_Reader_advance_152 rfl h (fun h => ?_) (fun h => ?_)
      · exact zx_vret G d_Reader_advance_190 rfl h
      · refine zx_aload_n G d_Reader_advance_155 rfl ?_
        refine zx_getR G d_Reader_advance_156 zf_Reader_18 zc_2_0 hl0 ?_
        refine zx_getR G d_Reader_advance_159 zf_Reader_113 zc_1_0 (zi_2_0 hl0) ?_
        refine zx_aload_n G d_Reader_advance_162 rfl ?_
        refine zx_getI G d_Reader_advance_163 zf_Reader_22 zc_2_5 hl0 ?_
        refine zx_bald G d_Reader_advance_166 za_20 (zi_1_0 (zi_2_0 hl0)) h (fun h => ?_)
        obtain ⟨r21, μ20, hc, h⟩ := zbnd_of h
        refine zx_callSI (r := r21) (μ2 := μ20) G d_Reader_advance_167 zm_Reader_117 (fun l => t_Reader_sortOf  hc) rfl rfl (Nat.le_of_ble_eq_true rfl) (Nat.le_of_ble_eq_true rfl) ?_
        refine zx_aload_n G d_Reader_advance_170 rfl ?_
        refine zx_getI G d_Reader_advance_171 zf_Reader_33 zc_2_3 hl0 ?_
        refine zx_icmp_ne (tgt := 190) G d_Reader_advance_174 rfl h (fun h => ?_) (fun h => ?_)
        · exact zx_vret G d_Reader_advance_190 rfl h
        · refine zx_aload_n G d_Reader_advance_177 rfl ?_
          refine zx_dup G d_Reader_advance_178 rfl ?_
          refine zx_getI G d_Reader_advance_179 zf_Reader_22 zc_2_5 hl0 ?_
          refine zx_iconst (v := 1) G d_Reader_advance_182 rfl ?_
          refine zx_iadd G d_Reader_advance_183 ?_
          refine zx_putI G d_Reader_advance_184 zq_Reader_22 zp_2_5 hl0 h (fun μ22 h => ?_)
          refine zx_goto (tgt := 137) G d_Reader_advance_187 rfl ?_
          exact ih137 μ22 h
set_option maxHeartbeats 4000000 in
set_option maxRecDepth 20000 in
theorem tf_Reader_advance_l137 {g : ZG} {E : ZE} {N n137 : Nat} {rr : Unit × ZMem} {x18 : Int32} {μ19 : ZMem} (G : zGa g K_Reader_advance 1 E) (hl0 : (2, 0) ∈ zids) (h : f_Reader_advance_l137 N x18 n137  μ19 = some rr) : zX g K_Reader_advance 1 E (none, rr.2) μ19 137 [some (.ref (g.2.1 2 0)), some (.int x18)] [] := tf_Reader_advance_l137_0 G hl0 n137  μ19 h
set_option maxHeartbeats 4000000 in
set_option maxRecDepth 20000 in
theorem t_Reader_advance {g : ZG} {l : Launch} {N : Nat} {μ : ZMem} {rr : Unit × ZMem} (h : f_Reader_advance N μ = some rr) : zT g l 1 K_Reader_advance [.ref (g.2.1 2 0)] μ (none, rr.2) := by
  refine zT_of (by decide +kernel) (Nat.le_of_ble_eq_true rfl) (fun E G => ?_)
  show zX g K_Reader_advance 1 E (none, rr.2) μ 0 [some (.ref (g.2.1 2 0)), none] []
  unfold f_Reader_advance at h
  refine zx_aload_n G d_Reader_advance_0 rfl ?_
  refine zx_aload_n G d_Reader_advance_1 rfl ?_
  refine zx_getI G d_Reader_advance_2 zf_Reader_22 zc_2_5 (zids_of 2 (Nat.le_of_ble_eq_true rfl) 0 (Nat.le_of_ble_eq_true rfl)) ?_
  refine zx_putI G d_Reader_advance_5 zq_Reader_105 zp_2_4 (zids_of 2 (Nat.le_of_ble_eq_true rfl) 0 (Nat.le_of_ble_eq_true rfl)) h (fun μ1 h => ?_)
  refine tf_Reader_advance_l8 G (zids_of 2 (Nat.le_of_ble_eq_true rfl) 0 (Nat.le_of_ble_eq_true rfl)) h (fun μ6 h => ?_)
  · try dsimp only at h
    refine zx_aload_n G d_Reader_advance_54 rfl ?_
    refine zx_aload_n G d_Reader_advance_55 rfl ?_
    refine zx_getI G d_Reader_advance_56 zf_Reader_105 zc_2_4 (zids_of 2 (Nat.le_of_ble_eq_true rfl) 0 (Nat.le_of_ble_eq_true rfl)) ?_
    refine zx_aload_n G d_Reader_advance_59 rfl ?_
    refine zx_getR G d_Reader_advance_60 zf_Reader_18 zc_2_0 (zids_of 2 (Nat.le_of_ble_eq_true rfl) 0 (Nat.le_of_ble_eq_true rfl)) ?_
    refine zx_getI G d_Reader_advance_63 zf_Reader_108 zc_1_1 (zi_2_0 (zids_of 2 (Nat.le_of_ble_eq_true rfl) 0 (Nat.le_of_ble_eq_true rfl))) ?_
    refine zx_join (P := fun k => ∀ (y7 : Int32) (μ8 : ZMem), k y7 μ8 = some rr → zX g K_Reader_advance 1 E (none, rr.2) μ8 88 [some (.ref (g.2.1 2 0)), none] [.int y7, .ref (g.2.1 2 0)]) h (fun y7 μ8 h => ?_) (fun k9 hk9 h => ?_)
    · try dsimp only at h
      refine zx_putI G d_Reader_advance_88 zq_Reader_33 zp_2_3 (zids_of 2 (Nat.le_of_ble_eq_true rfl) 0 (Nat.le_of_ble_eq_true rfl)) h (fun μ10 h => ?_)
      refine zx_aload_n G d_Reader_advance_91 rfl ?_
      refine zx_aload_n G d_Reader_advance_92 rfl ?_
      refine zx_getI G d_Reader_advance_93 zf_Reader_33 zc_2_3 (zids_of 2 (Nat.le_of_ble_eq_true rfl) 0 (Nat.le_of_ble_eq_true rfl)) ?_
      refine zx_join (P := fun k => ∀ (y11 : Int32) (μ12 : ZMem), k y11 μ12 = some rr → zX g K_Reader_advance 1 E (none, rr.2) μ12 112 [some (.ref (g.2.1 2 0)), none] [.int y11, .ref (g.2.1 2 0)]) h (fun y11 μ12 h => ?_) (fun k13 hk13 h => ?_)
      · try dsimp only at h
        refine zx_putI G d_Reader_advance_112 zq_Reader_22 zp_2_5 (zids_of 2 (Nat.le_of_ble_eq_true rfl) 0 (Nat.le_of_ble_eq_true rfl)) h (fun μ14 h => ?_)
        refine zx_aload_n G d_Reader_advance_115 rfl ?_
        refine zx_getI G d_Reader_advance_116 zf_Reader_33 zc_2_3 (zids_of 2 (Nat.le_of_ble_eq_true rfl) 0 (Nat.le_of_ble_eq_true rfl)) ?_
        refine zx_iconst (v := 1) G d_Reader_advance_119 rfl ?_
        refine zx_join (P := fun k => ∀ (y15 : Int32) (μ16 : ZMem), k y15 μ16 = some rr → zX g K_Reader_advance 1 E (none, rr.2) μ16 136 [some (.ref (g.2.1 2 0)), none] [.int y15]) h (fun y15 μ16 h => ?_) (fun k17 hk17 h => ?_)
        · try dsimp only at h
          refine zx_istore_n (lf := fun y => [_, some (.int y)]) G d_Reader_advance_136 (Nat.le_of_ble_eq_true rfl) (fun _ => rfl) h (fun x18 h => ?_)
          refine tf_Reader_advance_l137 G (zids_of 2 (Nat.le_of_ble_eq_true rfl) 0 (Nat.le_of_ble_eq_true rfl)) h
        try dsimp only at h
        refine zx_join (P := fun k => ∀ (μ23 : ZMem), k μ23 = some rr → zX g K_Reader_advance 1 E (none, rr.2) μ23 131 [some (.ref (g.2.1 2 0)), none] []) h (fun μ23 h => ?_) (fun k24 hk24 h => ?_)
        · try dsimp only at h
          refine zx_iconst (v := 1) G d_Reader_advance_131 rfl ?_
          refine zx_goto (tgt := 136) G d_Reader_advance_132 rfl ?_
          exact hk17 (1 : Int32) μ23 h
        try dsimp only at h
        refine zx_icmp_eq (tgt := 131) G d_Reader_advance_120 rfl h (fun h => ?_) (fun h => ?_)
        · exact hk24 μ14 h
        · refine zx_aload_n G d_Reader_advance_123 rfl ?_
          refine zx_getI G d_Reader_advance_124 zf_Reader_33 zc_2_3 (zids_of 2 (Nat.le_of_ble_eq_true rfl) 0 (Nat.le_of_ble_eq_true rfl)) ?_
          refine zx_iconst (v := 2) G d_Reader_advance_127 rfl ?_
          refine zx_icmp_ne (tgt := 135) G d_Reader_advance_128 rfl h (fun h => ?_) (fun h => ?_)
          · refine zx_iconst (v := 0) G d_Reader_advance_135 rfl ?_
            exact hk17 (0 : Int32) μ14 h
          · exact hk24 μ14 h
      try dsimp only at h
      refine zx_if_ne (tgt := 106) G d_Reader_advance_96 rfl h (fun h => ?_) (fun h => ?_)
      · refine zx_aload_n G d_Reader_advance_106 rfl ?_
        refine zx_getI G d_Reader_advance_107 zf_Reader_105 zc_2_4 (zids_of 2 (Nat.le_of_ble_eq_true rfl) 0 (Nat.le_of_ble_eq_true rfl)) ?_
        refine zx_iconst (v := 1) G d_Reader_advance_110 rfl ?_
        refine zx_iadd G d_Reader_advance_111 ?_
        exact hk13 ((μ10.1 2 0 4) + (1 : Int32)) μ10 h
      · refine zx_aload_n G d_Reader_advance_99 rfl ?_
        refine zx_getI G d_Reader_advance_100 zf_Reader_105 zc_2_4 (zids_of 2 (Nat.le_of_ble_eq_true rfl) 0 (Nat.le_of_ble_eq_true rfl)) ?_
        refine zx_goto (tgt := 112) G d_Reader_advance_103 rfl ?_
        exact hk13 (μ10.1 2 0 4) μ10 h
    try dsimp only at h
    refine zx_icmp_ge (tgt := 87) G d_Reader_advance_66 rfl h (fun h => ?_) (fun h => ?_)
    · refine zx_iconst (v := 0) G d_Reader_advance_87 rfl ?_
      exact hk9 (0 : Int32) μ6 h
    · refine zx_aload_n G d_Reader_advance_69 rfl ?_
      refine zx_getR G d_Reader_advance_70 zf_Reader_18 zc_2_0 (zids_of 2 (Nat.le_of_ble_eq_true rfl) 0 (Nat.le_of_ble_eq_true rfl)) ?_
      refine zx_getR G d_Reader_advance_73 zf_Reader_113 zc_1_0 (zi_2_0 (zids_of 2 (Nat.le_of_ble_eq_true rfl) 0 (Nat.le_of_ble_eq_true rfl))) ?_
      refine zx_aload_n G d_Reader_advance_76 rfl ?_
      refine zx_getI G d_Reader_advance_77 zf_Reader_105 zc_2_4 (zids_of 2 (Nat.le_of_ble_eq_true rfl) 0 (Nat.le_of_ble_eq_true rfl)) ?_
      refine zx_bald G d_Reader_advance_80 za_20 (zi_1_0 (zi_2_0 (zids_of 2 (Nat.le_of_ble_eq_true rfl) 0 (Nat.le_of_ble_eq_true rfl)))) h (fun h => ?_)
      obtain ⟨r26, μ25, hc, h⟩ := zbnd_of h
      refine zx_callSI (r := r26) (μ2 := μ25) G d_Reader_advance_81 zm_Reader_117 (fun l => t_Reader_sortOf  hc) rfl rfl (Nat.le_of_ble_eq_true rfl) (Nat.le_of_ble_eq_true rfl) ?_
      refine zx_goto (tgt := 88) G d_Reader_advance_84 rfl ?_
      exact hk9 r26 μ25 h
set_option maxHeartbeats 4000000 in
set_option maxRecDepth 20000 in
theorem t_Reader_wordOf {g : ZG} {l : Launch} {N : Nat} {μ : ZMem} {p0 : Int32} {rr : Nat × ZMem} (h : f_Reader_wordOf N μ p0 = some rr) : zT g l 0 K_Reader_wordOf [.int p0] μ (some (.ref (g.2.1 60 rr.1)), rr.2) := by
  refine zT_of (by decide +kernel) (Nat.le_of_ble_eq_true rfl) (fun E G => ?_)
  show zX g K_Reader_wordOf 0 E (some (.ref (g.2.1 60 rr.1)), rr.2) μ 0 [some (.int p0)] []
  unfold f_Reader_wordOf at h
  refine zx_iload_n G d_Reader_wordOf_0 rfl ?_
  refine zx_if h (fun c1 h => ?_) (fun c1 h => ?_)
  · refine zx_sw (tgt := 56) G d_Reader_wordOf_1 c1 (by decide) (by decide) rfl rfl ?_
    refine zx_ldcS (i := 0) G d_Reader_wordOf_56 rfl (Nat.le_of_ble_eq_true rfl) rfl ?_
    exact zx_aretR G d_Reader_wordOf_58 rfl h
  · skip
    refine zx_if h (fun c2 h => ?_) (fun c2 h => ?_)
    · refine zx_sw (tgt := 59) G d_Reader_wordOf_1 c2 (by decide) (by decide) rfl rfl ?_
      refine zx_ldcS (i := 1) G d_Reader_wordOf_59 rfl (Nat.le_of_ble_eq_true rfl) rfl ?_
      exact zx_aretR G d_Reader_wordOf_61 rfl h
    · skip
      refine zx_if h (fun c3 h => ?_) (fun c3 h => ?_)
      · refine zx_sw (tgt := 62) G d_Reader_wordOf_1 c3 (by decide) (by decide) rfl rfl ?_
        refine zx_ldcS (i := 2) G d_Reader_wordOf_62 rfl (Nat.le_of_ble_eq_true rfl) rfl ?_
        exact zx_aretR G d_Reader_wordOf_64 rfl h
      · skip
        refine zx_if h (fun c4 h => ?_) (fun c4 h => ?_)
        · refine zx_sw (tgt := 65) G d_Reader_wordOf_1 c4 (by decide) (by decide) rfl rfl ?_
          refine zx_ldcS (i := 3) G d_Reader_wordOf_65 rfl (Nat.le_of_ble_eq_true rfl) rfl ?_
          exact zx_aretR G d_Reader_wordOf_67 rfl h
        · skip
          refine zx_if h (fun c5 h => ?_) (fun c5 h => ?_)
          · refine zx_sw (tgt := 68) G d_Reader_wordOf_1 c5 (by decide) (by decide) rfl rfl ?_
            refine zx_ldcS (i := 4) G d_Reader_wordOf_68 rfl (Nat.le_of_ble_eq_true rfl) rfl ?_
            exact zx_aretR G d_Reader_wordOf_70 rfl h
          · skip
            refine zx_if h (fun c6 h => ?_) (fun c6 h => ?_)
            · refine zx_sw (tgt := 71) G d_Reader_wordOf_1 c6 (by decide) (by decide) rfl rfl ?_
              refine zx_ldcS (i := 5) G d_Reader_wordOf_71 rfl (Nat.le_of_ble_eq_true rfl) rfl ?_
              exact zx_aretR G d_Reader_wordOf_73 rfl h
            · skip
              refine zx_if h (fun c7 h => ?_) (fun c7 h => ?_)
              · refine zx_sw (tgt := 74) G d_Reader_wordOf_1 c7 (by decide) (by decide) rfl rfl ?_
                refine zx_ldcS (i := 6) G d_Reader_wordOf_74 rfl (Nat.le_of_ble_eq_true rfl) rfl ?_
                exact zx_aretR G d_Reader_wordOf_76 rfl h
              · skip
                refine zx_if h (fun c8 h => ?_) (fun c8 h => ?_)
                · refine zx_sw (tgt := 77) G d_Reader_wordOf_1 c8 (by decide) (by decide) rfl rfl ?_
                  refine zx_ldcS (i := 7) G d_Reader_wordOf_77 rfl (Nat.le_of_ble_eq_true rfl) rfl ?_
                  exact zx_aretR G d_Reader_wordOf_79 rfl h
                · skip
                  refine zx_if h (fun c9 h => ?_) (fun c9 h => ?_)
                  · refine zx_sw (tgt := 80) G d_Reader_wordOf_1 c9 (by decide) (by decide) rfl rfl ?_
                    refine zx_ldcS (i := 8) G d_Reader_wordOf_80 rfl (Nat.le_of_ble_eq_true rfl) rfl ?_
                    exact zx_aretR G d_Reader_wordOf_82 rfl h
                  · skip
                    refine zx_if h (fun c10 h => ?_) (fun c10 h => ?_)
                    · refine zx_sw (tgt := 83) G d_Reader_wordOf_1 c10 (by decide) (by decide) rfl rfl ?_
                      refine zx_ldcS (i := 9) G d_Reader_wordOf_83 rfl (Nat.le_of_ble_eq_true rfl) rfl ?_
                      exact zx_aretR G d_Reader_wordOf_85 rfl h
                    · skip
                      have c1 := lv_neT c1 (a := 0) rfl
                      have c2 := lv_neT c2 (a := 1) rfl
                      have c3 := lv_neT c3 (a := 2) rfl
                      have c4 := lv_neT c4 (a := 3) rfl
                      have c5 := lv_neT c5 (a := 4) rfl
                      have c6 := lv_neT c6 (a := 5) rfl
                      have c7 := lv_neT c7 (a := 6) rfl
                      have c8 := lv_neT c8 (a := 7) rfl
                      have c9 := lv_neT c9 (a := 8) rfl
                      have c10 := lv_neT c10 (a := 9) rfl
                      refine zx_swOut (tgt := 86) G d_Reader_wordOf_1 (by omega) rfl ?_
                      refine zx_ldcS (i := 10) G d_Reader_wordOf_86 rfl (Nat.le_of_ble_eq_true rfl) rfl ?_
                      exact zx_aretR G d_Reader_wordOf_88 rfl h
set_option maxHeartbeats 4000000 in
set_option maxRecDepth 20000 in
theorem t_JStr_coder {g : ZG} {l : Launch} {N : Nat} {μ : ZMem} {o : Nat} (ho : o < 13) {rr : Int32 × ZMem} (h : f_JStr_coder N μ o = some rr) : zT g l 0 K_JStr_coder [.ref (g.2.1 60 o)] μ (some (.int rr.1), rr.2) := by
  refine zT_of (by decide +kernel) (Nat.le_of_ble_eq_true rfl) (fun E G => ?_)
  show zX g K_JStr_coder 0 E (some (.int rr.1), rr.2) μ 0 [some (.ref (g.2.1 60 o))] []
  unfold f_JStr_coder at h
  refine zx_compact G d_JStr_coder_0 zw_JStr_38 ?_
  refine zx_if_eq (tgt := 13) G d_JStr_coder_3 rfl h (fun h => ?_) (fun h => ?_)
  · refine zx_iconst (v := 1) G d_JStr_coder_13 rfl ?_
    exact zx_zret G d_JStr_coder_14 rfl h
  · refine zx_aload_n G d_JStr_coder_6 rfl ?_
    refine zx_coder G d_JStr_coder_7 zw_JStr_15 ho ?_
    refine zx_goto (tgt := 14) G d_JStr_coder_10 rfl ?_
    exact zx_zret G d_JStr_coder_14 rfl h
set_option maxHeartbeats 4000000 in
set_option maxRecDepth 20000 in
theorem t_JStr_length {g : ZG} {l : Launch} {N : Nat} {μ : ZMem} {o : Nat} (ho : o < 13) {rr : Int32 × ZMem} (h : f_JStr_length N μ o = some rr) : zT g l 1 K_JStr_length [.ref (g.2.1 60 o)] μ (some (.int rr.1), rr.2) := by
  refine zT_of (by decide +kernel) (Nat.le_of_ble_eq_true rfl) (fun E G => ?_)
  show zX g K_JStr_length 1 E (some (.int rr.1), rr.2) μ 0 [some (.ref (g.2.1 60 o))] []
  unfold f_JStr_length at h
  refine zx_aload_n G d_JStr_length_0 rfl ?_
  refine zx_svalue G d_JStr_length_1 zw_JStr_9 ho ?_
  refine zx_slen G d_JStr_length_4 ho ?_
  refine zx_aload_n G d_JStr_length_5 rfl ?_
  obtain ⟨r2, μ1, hc, h⟩ := zbnd_of h
  refine zx_callVI (r := r2) (μ2 := μ1) G d_JStr_length_6 zm_JStr_335 (fun l => t_JStr_coder ho hc) rfl rfl (Nat.le_of_ble_eq_true rfl) (Nat.le_of_ble_eq_true rfl) (zrecvS ho) ?_
  refine zx_ishr G d_JStr_length_9 ?_
  exact zx_iret G d_JStr_length_10 rfl h
set_option maxHeartbeats 4000000 in
set_option maxRecDepth 20000 in
theorem t_JStr_isLatin1 {g : ZG} {l : Launch} {N : Nat} {μ : ZMem} {o : Nat} (ho : o < 13) {rr : Int32 × ZMem} (h : f_JStr_isLatin1 N μ o = some rr) : zT g l 0 K_JStr_isLatin1 [.ref (g.2.1 60 o)] μ (some (.int rr.1), rr.2) := by
  refine zT_of (by decide +kernel) (Nat.le_of_ble_eq_true rfl) (fun E G => ?_)
  show zX g K_JStr_isLatin1 0 E (some (.int rr.1), rr.2) μ 0 [some (.ref (g.2.1 60 o))] []
  unfold f_JStr_isLatin1 at h
  refine zx_compact G d_JStr_isLatin1_0 zw_JStr_38 ?_
  refine zx_if_eq (tgt := 17) G d_JStr_isLatin1_3 rfl h (fun h => ?_) (fun h => ?_)
  · refine zx_iconst (v := 0) G d_JStr_isLatin1_17 rfl ?_
    exact zx_zretK G d_JStr_isLatin1_18 rfl (by decide) h
  · refine zx_aload_n G d_JStr_isLatin1_6 rfl ?_
    refine zx_coder G d_JStr_isLatin1_7 zw_JStr_15 ho ?_
    refine zx_if_ne (tgt := 17) G d_JStr_isLatin1_10 rfl h (fun h => ?_) (fun h => ?_)
    · refine zx_iconst (v := 0) G d_JStr_isLatin1_17 rfl ?_
      exact zx_zretK G d_JStr_isLatin1_18 rfl (by decide) h
    · refine zx_iconst (v := 1) G d_JStr_isLatin1_13 rfl ?_
      refine zx_goto (tgt := 18) G d_JStr_isLatin1_14 rfl ?_
      exact zx_zretK G d_JStr_isLatin1_18 rfl (by decide) h
set_option maxHeartbeats 4000000 in
set_option maxRecDepth 20000 in
theorem t_JStr_checkIndex {g : ZG} {l : Launch} {N : Nat} {μ : ZMem} {p0 p1 : Int32} {rr : Unit × ZMem} (h : f_JStr_checkIndex N μ p0 p1 = some rr) : zT g l 1 K_JStr_checkIndex [.int p0, .int p1] μ (none, rr.2) := by
  refine zT_of (by decide +kernel) (Nat.le_of_ble_eq_true rfl) (fun E G => ?_)
  show zX g K_JStr_checkIndex 1 E (none, rr.2) μ 0 [some (.int p0), some (.int p1)] []
  unfold f_JStr_checkIndex at h
  obtain ⟨r1, μ1, hc, h⟩ := zbnd_of h
  refine zx_iload_n G d_JStr_checkIndex_0 rfl ?_
  refine zx_iload_n G d_JStr_checkIndex_1 rfl ?_
  refine zx_sioobe G d_JStr_checkIndex_2 zw_JStr_1053 ?_ (fun t => ?_)
  · refine zx_callSI (r := r1) (μ2 := μ1) G d_JStr_checkIndex_5 zm_JStr_1059 (fun l => t_JPre_checkIndexN hc) rfl rfl (Nat.le_of_ble_eq_true rfl) (Nat.le_of_ble_eq_true rfl) ?_
    refine zx_pop G d_JStr_checkIndex_8 rfl ?_
    exact zx_vret G d_JStr_checkIndex_9 rfl h
  · refine zx_callSI (r := r1) (μ2 := μ1) G d_JStr_checkIndex_5 zm_JStr_1059 (fun l => t_JPre_checkIndexA hc) rfl rfl (Nat.le_of_ble_eq_true rfl) (Nat.le_of_ble_eq_true rfl) ?_
    refine zx_pop G d_JStr_checkIndex_8 rfl ?_
    exact zx_vret G d_JStr_checkIndex_9 rfl h
set_option maxHeartbeats 4000000 in
set_option maxRecDepth 20000 in
theorem t_JLat_charAt {g : ZG} {l : Launch} {N : Nat} {μ : ZMem} {p0 : Nat} {p1 : Int32} (hp0 : p0 < 13) {rr : Int32 × ZMem} (h : f_JLat_charAt N μ p0 p1 = some rr) : zT g l 2 K_JLat_charAt [.ref (g.2.1 61 p0), .int p1] μ (some (.int rr.1), rr.2) := by
  refine zT_of (by decide +kernel) (Nat.le_of_ble_eq_true rfl) (fun E G => ?_)
  show zX g K_JLat_charAt 2 E (some (.int rr.1), rr.2) μ 0 [some (.ref (g.2.1 61 p0)), some (.int p1)] []
  unfold f_JLat_charAt at h
  refine zx_iload_n G d_JLat_charAt_0 rfl ?_
  refine zx_aload_n G d_JLat_charAt_1 rfl ?_
  refine zx_slen G d_JLat_charAt_2 hp0 ?_
  obtain ⟨u9, μ1, hc, h⟩ := zbnd_of h
  refine zx_callSV  (μ2 := μ1) G d_JLat_charAt_3 zm_JLat_9 (fun l => t_JStr_checkIndex  hc) rfl rfl (Nat.le_of_ble_eq_true rfl) (Nat.le_of_ble_eq_true rfl) ?_
  refine zx_aload_n G d_JLat_charAt_6 rfl ?_
  refine zx_iload_n G d_JLat_charAt_7 rfl ?_
  refine zx_sald G d_JLat_charAt_8 hp0 h (fun h => ?_)
  refine zx_sipush (v := 255) G d_JLat_charAt_9 rfl ?_
  refine zx_iand G d_JLat_charAt_12 ?_
  refine zx_i2c G d_JLat_charAt_13 ?_
  exact zx_zret G d_JLat_charAt_14 rfl h
set_option maxHeartbeats 4000000 in
set_option maxRecDepth 20000 in
theorem t_JStr_charAt {g : ZG} {l : Launch} {N : Nat} {μ : ZMem} {o : Nat} {p0 : Int32} (ho : o < 13) {rr : Int32 × ZMem} (h : f_JStr_charAt N μ o p0 = some rr) : zT g l 3 K_JStr_charAt [.ref (g.2.1 60 o), .int p0] μ (some (.int rr.1), rr.2) := by
  refine zT_of (by decide +kernel) (Nat.le_of_ble_eq_true rfl) (fun E G => ?_)
  show zX g K_JStr_charAt 3 E (some (.int rr.1), rr.2) μ 0 [some (.ref (g.2.1 60 o)), some (.int p0)] []
  unfold f_JStr_charAt at h
  refine zx_aload_n G d_JStr_charAt_0 rfl ?_
  obtain ⟨r2, μ1, hc, h⟩ := zbnd_of h
  refine zx_callVI (r := r2) (μ2 := μ1) G d_JStr_charAt_1 zm_JStr_492 (fun l => t_JStr_isLatin1 ho hc) rfl rfl (Nat.le_of_ble_eq_true rfl) (Nat.le_of_ble_eq_true rfl) (zrecvS ho) ?_
  refine zx_if_eq (tgt := 16) G d_JStr_charAt_4 rfl h (fun h => ?_) (fun h => ?_)
  · refine zx_aload_n G d_JStr_charAt_16 rfl ?_
    refine zx_svalue G d_JStr_charAt_17 zw_JStr_9 ho ?_
    refine zx_iload_n G d_JStr_charAt_20 rfl ?_
    cases h
  · refine zx_aload_n G d_JStr_charAt_7 rfl ?_
    refine zx_svalue G d_JStr_charAt_8 zw_JStr_9 ho ?_
    refine zx_iload_n G d_JStr_charAt_11 rfl ?_
    obtain ⟨r4, μ3, hc, h⟩ := zbnd_of h
    refine zx_callSI (r := r4) (μ2 := μ3) G d_JStr_charAt_12 zm_JStr_495 (fun l => t_JLat_charAt ho hc) rfl rfl (Nat.le_of_ble_eq_true rfl) (Nat.le_of_ble_eq_true rfl) ?_
    exact zx_zret G d_JStr_charAt_15 rfl h
set_option maxHeartbeats 4000000 in
set_option maxRecDepth 20000 in
theorem tf_Reader_spells_l20_0 {g : ZG} {E : ZE} {N : Nat} {rr : Int32 × ZMem} {p0 : Nat} (G : zGa g K_Reader_spells 4 E) (hl0 : (2, 0) ∈ zids) (hl1 : p0 < 13) : ∀ (n20 : Nat) (z4 : Int32) (μ5 : ZMem), f_Reader_spells_l20 N p0 n20 z4 μ5 = some rr → zX g K_Reader_spells 4 E (some (.int rr.1), rr.2) μ5 20 [some (.ref (g.2.1 2 0)), some (.ref (g.2.1 60 p0)), some (.int z4)] [] := by
  intro n20
  induction n20 with
  | zero => intro z4 μ5 h; cases h
  | succ n20 ih20 =>
    intro z4 μ5 h
    simp only [f_Reader_spells_l20] at h
    refine zx_iload_n G d_Reader_spells_20 rfl ?_
    refine zx_aload_n G d_Reader_spells_21 rfl ?_
    obtain ⟨r7, μ6, hc, h⟩ := zbnd_of h
    refine zx_callVI (r := r7) (μ2 := μ6) G d_Reader_spells_22 zm_Reader_128 (fun l => t_JStr_length hl1 hc) rfl rfl (Nat.le_of_ble_eq_true rfl) (Nat.le_of_ble_eq_true rfl) (zrecvS hl1) ?_
    refine zx_icmp_ge (tgt := 58) G d_Reader_spells_25 rfl h (fun h => ?_) (fun h => ?_)
    · refine zx_iconst (v := 1) G d_Reader_spells_58 rfl ?_
      exact zx_zretK G d_Reader_spells_59 rfl (by decide) h
    · refine zx_aload_n G d_Reader_spells_28 rfl ?_
      refine zx_getR G d_Reader_spells_29 zf_Reader_18 zc_2_0 hl0 ?_
      refine zx_getR G d_Reader_spells_32 zf_Reader_113 zc_1_0 (zi_2_0 hl0) ?_
      refine zx_aload_n G d_Reader_spells_35 rfl ?_
      refine zx_getI G d_Reader_spells_36 zf_Reader_105 zc_2_4 hl0 ?_
      refine zx_iload_n G d_Reader_spells_39 rfl ?_
      refine zx_iadd G d_Reader_spells_40 ?_
      refine zx_bald G d_Reader_spells_41 za_20 (zi_1_0 (zi_2_0 hl0)) h (fun h => ?_)
      refine zx_aload_n G d_Reader_spells_42 rfl ?_
      refine zx_iload_n G d_Reader_spells_43 rfl ?_
      obtain ⟨r9, μ8, hc, h⟩ := zbnd_of h
      refine zx_callVI (r := r9) (μ2 := μ8) G d_Reader_spells_44 zm_Reader_132 (fun l => t_JStr_charAt hl1 hc) rfl rfl (Nat.le_of_ble_eq_true rfl) (Nat.le_of_ble_eq_true rfl) (zrecvS hl1) ?_
      refine zx_icmp_eq (tgt := 52) G d_Reader_spells_47 rfl h (fun h => ?_) (fun h => ?_)
      · refine zx_iinc (v := 1) (lf := fun y => [_, _, some (.int y)]) G d_Reader_spells_52 (Nat.le_of_ble_eq_true rfl) rfl rfl (fun _ => rfl) h (fun x10 h => ?_)
        refine zx_goto (tgt := 20) G d_Reader_spells_55 rfl ?_
        exact ih20 x10 μ8 h
      · refine zx_iconst (v := 0) G d_Reader_spells_50 rfl ?_
        exact zx_zretK G d_Reader_spells_51 rfl (by decide) h
set_option maxHeartbeats 4000000 in
set_option maxRecDepth 20000 in
theorem tf_Reader_spells_l20 {g : ZG} {E : ZE} {N n20 : Nat} {rr : Int32 × ZMem} {p0 : Nat} {z4 : Int32} {μ5 : ZMem} (G : zGa g K_Reader_spells 4 E) (hl0 : (2, 0) ∈ zids) (hl1 : p0 < 13) (h : f_Reader_spells_l20 N p0 n20 z4 μ5 = some rr) : zX g K_Reader_spells 4 E (some (.int rr.1), rr.2) μ5 20 [some (.ref (g.2.1 2 0)), some (.ref (g.2.1 60 p0)), some (.int z4)] [] := tf_Reader_spells_l20_0 G hl0 hl1 n20 z4 μ5 h
set_option maxHeartbeats 4000000 in
set_option maxRecDepth 20000 in
theorem t_Reader_spells {g : ZG} {l : Launch} {N : Nat} {μ : ZMem} {p0 : Nat} (hp0 : p0 < 13) {rr : Int32 × ZMem} (h : f_Reader_spells N μ p0 = some rr) : zT g l 4 K_Reader_spells [.ref (g.2.1 2 0), .ref (g.2.1 60 p0)] μ (some (.int rr.1), rr.2) := by
  refine zT_of (by decide +kernel) (Nat.le_of_ble_eq_true rfl) (fun E G => ?_)
  show zX g K_Reader_spells 4 E (some (.int rr.1), rr.2) μ 0 [some (.ref (g.2.1 2 0)), some (.ref (g.2.1 60 p0)), none] []
  unfold f_Reader_spells at h
  refine zx_aload_n G d_Reader_spells_0 rfl ?_
  refine zx_getI G d_Reader_spells_1 zf_Reader_22 zc_2_5 (zids_of 2 (Nat.le_of_ble_eq_true rfl) 0 (Nat.le_of_ble_eq_true rfl)) ?_
  refine zx_aload_n G d_Reader_spells_4 rfl ?_
  refine zx_getI G d_Reader_spells_5 zf_Reader_105 zc_2_4 (zids_of 2 (Nat.le_of_ble_eq_true rfl) 0 (Nat.le_of_ble_eq_true rfl)) ?_
  refine zx_isub G d_Reader_spells_8 ?_
  refine zx_aload_n G d_Reader_spells_9 rfl ?_
  obtain ⟨r2, μ1, hc, h⟩ := zbnd_of h
  refine zx_callVI (r := r2) (μ2 := μ1) G d_Reader_spells_10 zm_Reader_128 (fun l => t_JStr_length hp0 hc) rfl rfl (Nat.le_of_ble_eq_true rfl) (Nat.le_of_ble_eq_true rfl) (zrecvS hp0) ?_
  refine zx_icmp_eq (tgt := 18) G d_Reader_spells_13 rfl h (fun h => ?_) (fun h => ?_)
  · refine zx_iconst (v := 0) G d_Reader_spells_18 rfl ?_
    refine zx_istore_n (lf := fun y => [_, _, some (.int y)]) G d_Reader_spells_19 (Nat.le_of_ble_eq_true rfl) (fun _ => rfl) h (fun x3 h => ?_)
    refine tf_Reader_spells_l20 G (zids_of 2 (Nat.le_of_ble_eq_true rfl) 0 (Nat.le_of_ble_eq_true rfl)) hp0 h
  · refine zx_iconst (v := 0) G d_Reader_spells_16 rfl ?_
    exact zx_zretK G d_Reader_spells_17 rfl (by decide) h
set_option maxHeartbeats 4000000 in
set_option maxRecDepth 20000 in
theorem tf_Reader_kindOfWord_l12_0 {g : ZG} {E : ZE} {N : Nat} {rr : Int32 × ZMem} (G : zGa g K_Reader_kindOfWord 5 E) (hl0 : (2, 0) ∈ zids) : ∀ (n12 : Nat) (z2 : Int32) (μ3 : ZMem), f_Reader_kindOfWord_l12 N n12 z2 μ3 = some rr → zX g K_Reader_kindOfWord 5 E (some (.int rr.1), rr.2) μ3 12 [some (.ref (g.2.1 2 0)), some (.int z2)] [] := by
  intro n12
  induction n12 with
  | zero => intro z2 μ3 h; cases h
  | succ n12 ih12 =>
    intro z2 μ3 h
    simp only [f_Reader_kindOfWord_l12] at h
    refine zx_iload_n G d_Reader_kindOfWord_12 rfl ?_
    refine zx_bipush (v := 10) G d_Reader_kindOfWord_13 rfl ?_
    refine zx_icmp_gt (tgt := 37) G d_Reader_kindOfWord_15 rfl h (fun h => ?_) (fun h => ?_)
    · refine zx_iconst (v := -1) G d_Reader_kindOfWord_37 rfl ?_
      exact zx_iret G d_Reader_kindOfWord_38 rfl h
    · refine zx_aload_n G d_Reader_kindOfWord_18 rfl ?_
      refine zx_iload_n G d_Reader_kindOfWord_19 rfl ?_
      obtain ⟨r5, μ4, hc, h⟩ := zbnd_of h
      obtain ⟨hz6, h⟩ := zchk_of h
      refine zx_callSR (k := 60) (r := r5) (μ2 := μ4) G d_Reader_kindOfWord_20 zm_Reader_121 (fun l => t_Reader_wordOf  hc) rfl rfl (Nat.le_of_ble_eq_true rfl) (Nat.le_of_ble_eq_true rfl) ?_
      obtain ⟨r8, μ7, hc, h⟩ := zbnd_of h
      refine zx_callVI (r := r8) (μ2 := μ7) G d_Reader_kindOfWord_23 zm_Reader_102 (fun l => t_Reader_spells hz6 hc) rfl rfl (Nat.le_of_ble_eq_true rfl) (Nat.le_of_ble_eq_true rfl) (zrecv zo_2 hl0) ?_
      refine zx_if_eq (tgt := 31) G d_Reader_kindOfWord_26 rfl h (fun h => ?_) (fun h => ?_)
      · refine zx_iinc (v := 1) (lf := fun y => [_, some (.int y)]) G d_Reader_kindOfWord_31 (Nat.le_of_ble_eq_true rfl) rfl rfl (fun _ => rfl) h (fun x9 h => ?_)
        refine zx_goto (tgt := 12) G d_Reader_kindOfWord_34 rfl ?_
        exact ih12 x9 μ7 h
      · refine zx_iload_n G d_Reader_kindOfWord_29 rfl ?_
        exact zx_iret G d_Reader_kindOfWord_30 rfl h
set_option maxHeartbeats 4000000 in
set_option maxRecDepth 20000 in
theorem tf_Reader_kindOfWord_l12 {g : ZG} {E : ZE} {N n12 : Nat} {rr : Int32 × ZMem} {z2 : Int32} {μ3 : ZMem} (G : zGa g K_Reader_kindOfWord 5 E) (hl0 : (2, 0) ∈ zids) (h : f_Reader_kindOfWord_l12 N n12 z2 μ3 = some rr) : zX g K_Reader_kindOfWord 5 E (some (.int rr.1), rr.2) μ3 12 [some (.ref (g.2.1 2 0)), some (.int z2)] [] := tf_Reader_kindOfWord_l12_0 G hl0 n12 z2 μ3 h
set_option maxHeartbeats 4000000 in
set_option maxRecDepth 20000 in
theorem t_Reader_kindOfWord {g : ZG} {l : Launch} {N : Nat} {μ : ZMem} {rr : Int32 × ZMem} (h : f_Reader_kindOfWord N μ = some rr) : zT g l 5 K_Reader_kindOfWord [.ref (g.2.1 2 0)] μ (some (.int rr.1), rr.2) := by
  refine zT_of (by decide +kernel) (Nat.le_of_ble_eq_true rfl) (fun E G => ?_)
  show zX g K_Reader_kindOfWord 5 E (some (.int rr.1), rr.2) μ 0 [some (.ref (g.2.1 2 0)), none] []
  unfold f_Reader_kindOfWord at h
  refine zx_aload_n G d_Reader_kindOfWord_0 rfl ?_
  refine zx_getI G d_Reader_kindOfWord_1 zf_Reader_33 zc_2_3 (zids_of 2 (Nat.le_of_ble_eq_true rfl) 0 (Nat.le_of_ble_eq_true rfl)) ?_
  refine zx_iconst (v := 1) G d_Reader_kindOfWord_4 rfl ?_
  refine zx_icmp_eq (tgt := 10) G d_Reader_kindOfWord_5 rfl h (fun h => ?_) (fun h => ?_)
  · refine zx_iconst (v := 0) G d_Reader_kindOfWord_10 rfl ?_
    refine zx_istore_n (lf := fun y => [_, some (.int y)]) G d_Reader_kindOfWord_11 (Nat.le_of_ble_eq_true rfl) (fun _ => rfl) h (fun x1 h => ?_)
    refine tf_Reader_kindOfWord_l12 G (zids_of 2 (Nat.le_of_ble_eq_true rfl) 0 (Nat.le_of_ble_eq_true rfl)) h
  · refine zx_iconst (v := -1) G d_Reader_kindOfWord_8 rfl ?_
    exact zx_iret G d_Reader_kindOfWord_9 rfl h
set_option maxHeartbeats 4000000 in
set_option maxRecDepth 20000 in
theorem tf_Reader_numberOfDigits_l7_0 {g : ZG} {E : ZE} {N : Nat} {rr : Int32 × ZMem} (G : zGa g K_Reader_numberOfDigits 0 E) (hl0 : (2, 0) ∈ zids) : ∀ (n7 : Nat) (z3 : Int32) (z4 : Int32) (μ5 : ZMem), f_Reader_numberOfDigits_l7 N n7 z3 z4 μ5 = some rr → zX g K_Reader_numberOfDigits 0 E (some (.int rr.1), rr.2) μ5 7 [some (.ref (g.2.1 2 0)), some (.int z3), some (.int z4)] [] := by
  intro n7
  induction n7 with
  | zero => intro z3 z4 μ5 h; cases h
  | succ n7 ih7 =>
    intro z3 z4 μ5 h
    simp only [f_Reader_numberOfDigits_l7] at h
    refine zx_iload_n G d_Reader_numberOfDigits_7 rfl ?_
    refine zx_aload_n G d_Reader_numberOfDigits_8 rfl ?_
    refine zx_getI G d_Reader_numberOfDigits_9 zf_Reader_22 zc_2_5 hl0 ?_
    refine zx_icmp_ge (tgt := 46) G d_Reader_numberOfDigits_12 rfl h (fun h => ?_) (fun h => ?_)
    · refine zx_iload_n G d_Reader_numberOfDigits_46 rfl ?_
      exact zx_iret G d_Reader_numberOfDigits_47 rfl h
    · refine zx_iload_n G d_Reader_numberOfDigits_15 rfl ?_
      refine zx_sipush (v := 9999) G d_Reader_numberOfDigits_16 rfl ?_
      refine zx_icmp_gt (tgt := 46) G d_Reader_numberOfDigits_19 rfl h (fun h => ?_) (fun h => ?_)
      · refine zx_iload_n G d_Reader_numberOfDigits_46 rfl ?_
        exact zx_iret G d_Reader_numberOfDigits_47 rfl h
      · refine zx_iload_n G d_Reader_numberOfDigits_22 rfl ?_
        refine zx_bipush (v := 10) G d_Reader_numberOfDigits_23 rfl ?_
        refine zx_imul G d_Reader_numberOfDigits_25 ?_
        refine zx_aload_n G d_Reader_numberOfDigits_26 rfl ?_
        refine zx_getR G d_Reader_numberOfDigits_27 zf_Reader_18 zc_2_0 hl0 ?_
        refine zx_getR G d_Reader_numberOfDigits_30 zf_Reader_113 zc_1_0 (zi_2_0 hl0) ?_
        refine zx_iload_n G d_Reader_numberOfDigits_33 rfl ?_
        refine zx_bald G d_Reader_numberOfDigits_34 za_20 (zi_1_0 (zi_2_0 hl0)) h (fun h => ?_)
        refine zx_iadd G d_Reader_numberOfDigits_35 ?_
        refine zx_bipush (v := 48) G d_Reader_numberOfDigits_36 rfl ?_
        refine zx_isub G d_Reader_numberOfDigits_38 ?_
        refine zx_istore_n (lf := fun y => [_, some (.int y), _]) G d_Reader_numberOfDigits_39 (Nat.le_of_ble_eq_true rfl) (fun _ => rfl) h (fun x6 h => ?_)
        refine zx_iinc (v := 1) (lf := fun y => [_, _, some (.int y)]) G d_Reader_numberOfDigits_40 (Nat.le_of_ble_eq_true rfl) rfl rfl (fun _ => rfl) h (fun x7 h => ?_)
        refine zx_goto (tgt := 7) G d_Reader_numberOfDigits_43 rfl ?_
        exact ih7 x6 x7 μ5 h
set_option maxHeartbeats 4000000 in
set_option maxRecDepth 20000 in
theorem tf_Reader_numberOfDigits_l7 {g : ZG} {E : ZE} {N n7 : Nat} {rr : Int32 × ZMem} {z3 : Int32} {z4 : Int32} {μ5 : ZMem} (G : zGa g K_Reader_numberOfDigits 0 E) (hl0 : (2, 0) ∈ zids) (h : f_Reader_numberOfDigits_l7 N n7 z3 z4 μ5 = some rr) : zX g K_Reader_numberOfDigits 0 E (some (.int rr.1), rr.2) μ5 7 [some (.ref (g.2.1 2 0)), some (.int z3), some (.int z4)] [] := tf_Reader_numberOfDigits_l7_0 G hl0 n7 z3 z4 μ5 h
set_option maxHeartbeats 4000000 in
set_option maxRecDepth 20000 in
theorem t_Reader_numberOfDigits {g : ZG} {l : Launch} {N : Nat} {μ : ZMem} {rr : Int32 × ZMem} (h : f_Reader_numberOfDigits N μ = some rr) : zT g l 0 K_Reader_numberOfDigits [.ref (g.2.1 2 0)] μ (some (.int rr.1), rr.2) := by
  refine zT_of (by decide +kernel) (Nat.le_of_ble_eq_true rfl) (fun E G => ?_)
  show zX g K_Reader_numberOfDigits 0 E (some (.int rr.1), rr.2) μ 0 [some (.ref (g.2.1 2 0)), none, none] []
  unfold f_Reader_numberOfDigits at h
  refine zx_iconst (v := 0) G d_Reader_numberOfDigits_0 rfl ?_
  refine zx_istore_n (lf := fun y => [_, some (.int y), none]) G d_Reader_numberOfDigits_1 (Nat.le_of_ble_eq_true rfl) (fun _ => rfl) h (fun x1 h => ?_)
  refine zx_aload_n G d_Reader_numberOfDigits_2 rfl ?_
  refine zx_getI G d_Reader_numberOfDigits_3 zf_Reader_105 zc_2_4 (zids_of 2 (Nat.le_of_ble_eq_true rfl) 0 (Nat.le_of_ble_eq_true rfl)) ?_
  refine zx_istore_n (lf := fun y => [_, _, some (.int y)]) G d_Reader_numberOfDigits_6 (Nat.le_of_ble_eq_true rfl) (fun _ => rfl) h (fun x2 h => ?_)
  refine tf_Reader_numberOfDigits_l7 G (zids_of 2 (Nat.le_of_ble_eq_true rfl) 0 (Nat.le_of_ble_eq_true rfl)) h
set_option maxHeartbeats 4000000 in
set_option maxRecDepth 20000 in
theorem t_Reader_refuse {g : ZG} {l : Launch} {N : Nat} {μ : ZMem} {p0 : Int32} {rr : Int32 × ZMem} (h : f_Reader_refuse N μ p0 = some rr) : zT g l 0 K_Reader_refuse [.ref (g.2.1 2 0), .int p0] μ (some (.int rr.1), rr.2) := by
  refine zT_of (by decide +kernel) (Nat.le_of_ble_eq_true rfl) (fun E G => ?_)
  show zX g K_Reader_refuse 0 E (some (.int rr.1), rr.2) μ 0 [some (.ref (g.2.1 2 0)), some (.int p0)] []
  unfold f_Reader_refuse at h
  refine zx_aload_n G d_Reader_refuse_0 rfl ?_
  refine zx_iload_n G d_Reader_refuse_1 rfl ?_
  refine zx_putI G d_Reader_refuse_2 zq_Reader_9 zp_2_1 (zids_of 2 (Nat.le_of_ble_eq_true rfl) 0 (Nat.le_of_ble_eq_true rfl)) h (fun μ1 h => ?_)
  refine zx_aload_n G d_Reader_refuse_5 rfl ?_
  refine zx_aload_n G d_Reader_refuse_6 rfl ?_
  refine zx_getI G d_Reader_refuse_7 zf_Reader_105 zc_2_4 (zids_of 2 (Nat.le_of_ble_eq_true rfl) 0 (Nat.le_of_ble_eq_true rfl)) ?_
  refine zx_putI G d_Reader_refuse_10 zq_Reader_15 zp_2_2 (zids_of 2 (Nat.le_of_ble_eq_true rfl) 0 (Nat.le_of_ble_eq_true rfl)) h (fun μ2 h => ?_)
  refine zx_iconst (v := 0) G d_Reader_refuse_13 rfl ?_
  exact zx_zretK G d_Reader_refuse_14 rfl (by decide) h
set_option maxHeartbeats 4000000 in
set_option maxRecDepth 20000 in
theorem t_Reader_readNumber {g : ZG} {l : Launch} {N : Nat} {μ : ZMem} {p0 : Int32} {p1 : Int32} {rr : Int32 × ZMem} (h : f_Reader_readNumber N μ p0 p1 = some rr) : zT g l 2 K_Reader_readNumber [.ref (g.2.1 2 0), .int p0, .int p1] μ (some (.int rr.1), rr.2) := by
  refine zT_of (by decide +kernel) (Nat.le_of_ble_eq_true rfl) (fun E G => ?_)
  show zX g K_Reader_readNumber 2 E (some (.int rr.1), rr.2) μ 0 [some (.ref (g.2.1 2 0)), some (.int p0), some (.int p1)] []
  unfold f_Reader_readNumber at h
  refine zx_aload_n G d_Reader_readNumber_0 rfl ?_
  obtain ⟨u9, μ1, hc, h⟩ := zbnd_of h
  refine zx_callVV  (μ2 := μ1) G d_Reader_readNumber_1 zm_Reader_30 (fun l => t_Reader_advance  hc) rfl rfl (Nat.le_of_ble_eq_true rfl) (Nat.le_of_ble_eq_true rfl) (zrecv zo_2 (zids_of 2 (Nat.le_of_ble_eq_true rfl) 0 (Nat.le_of_ble_eq_true rfl))) ?_
  refine zx_aload_n G d_Reader_readNumber_4 rfl ?_
  refine zx_getI G d_Reader_readNumber_5 zf_Reader_33 zc_2_3 (zids_of 2 (Nat.le_of_ble_eq_true rfl) 0 (Nat.le_of_ble_eq_true rfl)) ?_
  refine zx_iconst (v := 2) G d_Reader_readNumber_8 rfl ?_
  refine zx_icmp_eq (tgt := 18) G d_Reader_readNumber_9 rfl h (fun h => ?_) (fun h => ?_)
  · refine zx_aload_n G d_Reader_readNumber_18 rfl ?_
    refine zx_aload_n G d_Reader_readNumber_19 rfl ?_
    obtain ⟨r3, μ2, hc, h⟩ := zbnd_of h
    refine zx_callVI (r := r3) (μ2 := μ2) G d_Reader_readNumber_20 zm_Reader_99 (fun l => t_Reader_numberOfDigits  hc) rfl rfl (Nat.le_of_ble_eq_true rfl) (Nat.le_of_ble_eq_true rfl) (zrecv zo_2 (zids_of 2 (Nat.le_of_ble_eq_true rfl) 0 (Nat.le_of_ble_eq_true rfl))) ?_
    refine zx_putI G d_Reader_readNumber_23 zq_Reader_63 zp_2_6 (zids_of 2 (Nat.le_of_ble_eq_true rfl) 0 (Nat.le_of_ble_eq_true rfl)) h (fun μ4 h => ?_)
    refine zx_aload_n G d_Reader_readNumber_26 rfl ?_
    refine zx_getI G d_Reader_readNumber_27 zf_Reader_63 zc_2_6 (zids_of 2 (Nat.le_of_ble_eq_true rfl) 0 (Nat.le_of_ble_eq_true rfl)) ?_
    refine zx_iload_n G d_Reader_readNumber_30 rfl ?_
    refine zx_join (P := fun k => ∀ (μ5 : ZMem), k μ5 = some rr → zX g K_Reader_readNumber 2 E (some (.int rr.1), rr.2) μ5 50 [none, none, none] []) h (fun μ5 h => ?_) (fun k6 hk6 h => ?_)
    · try dsimp only at h
      refine zx_iconst (v := 1) G d_Reader_readNumber_50 rfl ?_
      refine zx_goto (tgt := 55) G d_Reader_readNumber_51 rfl ?_
      exact zx_zretK G d_Reader_readNumber_55 rfl (by decide) h
    try dsimp only at h
    refine zx_join (P := fun k => ∀ (μ7 : ZMem), k μ7 = some rr → zX g K_Reader_readNumber 2 E (some (.int rr.1), rr.2) μ7 42 [some (.ref (g.2.1 2 0)), none, none] []) h (fun μ7 h => ?_) (fun k8 hk8 h => ?_)
    · try dsimp only at h
      refine zx_aload_n G d_Reader_readNumber_42 rfl ?_
      refine zx_iconst (v := 2) G d_Reader_readNumber_43 rfl ?_
      obtain ⟨r10, μ9, hc, h⟩ := zbnd_of h
      refine zx_callVI (r := r10) (μ2 := μ9) G d_Reader_readNumber_44 zm_Reader_44 (fun l => t_Reader_refuse  hc) rfl rfl (Nat.le_of_ble_eq_true rfl) (Nat.le_of_ble_eq_true rfl) (zrecv zo_2 (zids_of 2 (Nat.le_of_ble_eq_true rfl) 0 (Nat.le_of_ble_eq_true rfl))) ?_
      refine zx_if_eq (tgt := 54) G d_Reader_readNumber_47 rfl h (fun h => ?_) (fun h => ?_)
      · refine zx_iconst (v := 0) G d_Reader_readNumber_54 rfl ?_
        exact zx_zretK G d_Reader_readNumber_55 rfl (by decide) h
      · refine zx_weak [false, false, false] (lv2 := [none, none, none]) rfl ?_
        exact hk6 μ9 h
    try dsimp only at h
    refine zx_icmp_lt (tgt := 42) G d_Reader_readNumber_31 rfl h (fun h => ?_) (fun h => ?_)
    · refine zx_weak [true, false, false] (lv2 := [_, none, none]) rfl ?_
      exact hk8 μ4 h
    · refine zx_aload_n G d_Reader_readNumber_34 rfl ?_
      refine zx_getI G d_Reader_readNumber_35 zf_Reader_63 zc_2_6 (zids_of 2 (Nat.le_of_ble_eq_true rfl) 0 (Nat.le_of_ble_eq_true rfl)) ?_
      refine zx_iload_n G d_Reader_readNumber_38 rfl ?_
      refine zx_icmp_le (tgt := 50) G d_Reader_readNumber_39 rfl h (fun h => ?_) (fun h => ?_)
      · refine zx_weak [false, false, false] (lv2 := [none, none, none]) rfl ?_
        exact hk6 μ4 h
      · refine zx_weak [true, false, false] (lv2 := [_, none, none]) rfl ?_
        exact hk8 μ4 h
  · refine zx_aload_n G d_Reader_readNumber_12 rfl ?_
    refine zx_iconst (v := 1) G d_Reader_readNumber_13 rfl ?_
    obtain ⟨r12, μ11, hc, h⟩ := zbnd_of h
    refine zx_callVI (r := r12) (μ2 := μ11) G d_Reader_readNumber_14 zm_Reader_44 (fun l => t_Reader_refuse  hc) rfl rfl (Nat.le_of_ble_eq_true rfl) (Nat.le_of_ble_eq_true rfl) (zrecv zo_2 (zids_of 2 (Nat.le_of_ble_eq_true rfl) 0 (Nat.le_of_ble_eq_true rfl))) ?_
    exact zx_zret G d_Reader_readNumber_17 rfl h
set_option maxHeartbeats 4000000 in
set_option maxRecDepth 20000 in
theorem t_A_isLetter {g : ZG} {l : Launch} {N : Nat} {μ : ZMem} {p0 : Int32} {rr : Int32 × ZMem} (h : f_A_isLetter N μ p0 = some rr) : zT g l 0 K_A_isLetter [.int p0] μ (some (.int rr.1), rr.2) := by
  refine zT_of (by decide +kernel) (Nat.le_of_ble_eq_true rfl) (fun E G => ?_)
  show zX g K_A_isLetter 0 E (some (.int rr.1), rr.2) μ 0 [some (.int p0)] []
  unfold f_A_isLetter at h
  refine zx_iload_n G d_A_isLetter_0 rfl ?_
  refine zx_if_lt (tgt := 13) G d_A_isLetter_1 rfl h (fun h => ?_) (fun h => ?_)
  · refine zx_iconst (v := 0) G d_A_isLetter_13 rfl ?_
    exact zx_zretK G d_A_isLetter_14 rfl (by decide) h
  · refine zx_iload_n G d_A_isLetter_4 rfl ?_
    refine zx_iconst (v := 4) G d_A_isLetter_5 rfl ?_
    refine zx_icmp_ge (tgt := 13) G d_A_isLetter_6 rfl h (fun h => ?_) (fun h => ?_)
    · refine zx_iconst (v := 0) G d_A_isLetter_13 rfl ?_
      exact zx_zretK G d_A_isLetter_14 rfl (by decide) h
    · refine zx_iconst (v := 1) G d_A_isLetter_9 rfl ?_
      refine zx_goto (tgt := 14) G d_A_isLetter_10 rfl ?_
      exact zx_zretK G d_A_isLetter_14 rfl (by decide) h
set_option maxHeartbeats 4000000 in
set_option maxRecDepth 20000 in
theorem t_Reader_letterOfWord {g : ZG} {l : Launch} {N : Nat} {μ : ZMem} {rr : Int32 × ZMem} (h : f_Reader_letterOfWord N μ = some rr) : zT g l 1 K_Reader_letterOfWord [.ref (g.2.1 2 0)] μ (some (.int rr.1), rr.2) := by
  refine zT_of (by decide +kernel) (Nat.le_of_ble_eq_true rfl) (fun E G => ?_)
  show zX g K_Reader_letterOfWord 1 E (some (.int rr.1), rr.2) μ 0 [some (.ref (g.2.1 2 0)), none] []
  unfold f_Reader_letterOfWord at h
  refine zx_aload_n G d_Reader_letterOfWord_0 rfl ?_
  refine zx_getI G d_Reader_letterOfWord_1 zf_Reader_33 zc_2_3 (zids_of 2 (Nat.le_of_ble_eq_true rfl) 0 (Nat.le_of_ble_eq_true rfl)) ?_
  refine zx_iconst (v := 1) G d_Reader_letterOfWord_4 rfl ?_
  refine zx_icmp_ne (tgt := 21) G d_Reader_letterOfWord_5 rfl h (fun h => ?_) (fun h => ?_)
  · refine zx_iconst (v := -1) G d_Reader_letterOfWord_21 rfl ?_
    exact zx_iret G d_Reader_letterOfWord_22 rfl h
  · refine zx_aload_n G d_Reader_letterOfWord_8 rfl ?_
    refine zx_getI G d_Reader_letterOfWord_9 zf_Reader_22 zc_2_5 (zids_of 2 (Nat.le_of_ble_eq_true rfl) 0 (Nat.le_of_ble_eq_true rfl)) ?_
    refine zx_aload_n G d_Reader_letterOfWord_12 rfl ?_
    refine zx_getI G d_Reader_letterOfWord_13 zf_Reader_105 zc_2_4 (zids_of 2 (Nat.le_of_ble_eq_true rfl) 0 (Nat.le_of_ble_eq_true rfl)) ?_
    refine zx_isub G d_Reader_letterOfWord_16 ?_
    refine zx_iconst (v := 1) G d_Reader_letterOfWord_17 rfl ?_
    refine zx_icmp_eq (tgt := 23) G d_Reader_letterOfWord_18 rfl h (fun h => ?_) (fun h => ?_)
    · refine zx_aload_n G d_Reader_letterOfWord_23 rfl ?_
      refine zx_getR G d_Reader_letterOfWord_24 zf_Reader_18 zc_2_0 (zids_of 2 (Nat.le_of_ble_eq_true rfl) 0 (Nat.le_of_ble_eq_true rfl)) ?_
      refine zx_getR G d_Reader_letterOfWord_27 zf_Reader_113 zc_1_0 (zi_2_0 (zids_of 2 (Nat.le_of_ble_eq_true rfl) 0 (Nat.le_of_ble_eq_true rfl))) ?_
      refine zx_aload_n G d_Reader_letterOfWord_30 rfl ?_
      refine zx_getI G d_Reader_letterOfWord_31 zf_Reader_105 zc_2_4 (zids_of 2 (Nat.le_of_ble_eq_true rfl) 0 (Nat.le_of_ble_eq_true rfl)) ?_
      refine zx_bald G d_Reader_letterOfWord_34 za_20 (zi_1_0 (zi_2_0 (zids_of 2 (Nat.le_of_ble_eq_true rfl) 0 (Nat.le_of_ble_eq_true rfl)))) h (fun h => ?_)
      refine zx_bipush (v := 97) G d_Reader_letterOfWord_35 rfl ?_
      refine zx_isub G d_Reader_letterOfWord_37 ?_
      refine zx_istore_n (lf := fun y => [_, some (.int y)]) G d_Reader_letterOfWord_38 (Nat.le_of_ble_eq_true rfl) (fun _ => rfl) h (fun x1 h => ?_)
      refine zx_iload_n G d_Reader_letterOfWord_39 rfl ?_
      obtain ⟨r3, μ2, hc, h⟩ := zbnd_of h
      refine zx_callSI (r := r3) (μ2 := μ2) G d_Reader_letterOfWord_40 zm_Reader_125 (fun l => t_A_isLetter  hc) rfl rfl (Nat.le_of_ble_eq_true rfl) (Nat.le_of_ble_eq_true rfl) ?_
      refine zx_if_eq (tgt := 50) G d_Reader_letterOfWord_43 rfl h (fun h => ?_) (fun h => ?_)
      · refine zx_iconst (v := -1) G d_Reader_letterOfWord_50 rfl ?_
        exact zx_iret G d_Reader_letterOfWord_51 rfl h
      · refine zx_iload_n G d_Reader_letterOfWord_46 rfl ?_
        refine zx_goto (tgt := 51) G d_Reader_letterOfWord_47 rfl ?_
        exact zx_iret G d_Reader_letterOfWord_51 rfl h
    · refine zx_iconst (v := -1) G d_Reader_letterOfWord_21 rfl ?_
      exact zx_iret G d_Reader_letterOfWord_22 rfl h
set_option maxHeartbeats 4000000 in
set_option maxRecDepth 20000 in
theorem t_Table_isHidden {g : ZG} {l : Launch} {N : Nat} {μ : ZMem} {o : Nat} {p0 : Int32} (ho : (3, o) ∈ zids) {rr : Int32 × ZMem} (h : f_Table_isHidden N μ o p0 = some rr) : zT g l 1 K_Table_isHidden [.ref (g.2.1 3 o), .int p0] μ (some (.int rr.1), rr.2) := by
  refine zT_of (by decide +kernel) (Nat.le_of_ble_eq_true rfl) (fun E G => ?_)
  show zX g K_Table_isHidden 1 E (some (.int rr.1), rr.2) μ 0 [some (.ref (g.2.1 3 o)), some (.int p0)] []
  unfold f_Table_isHidden at h
  refine zx_iload_n G d_Table_isHidden_0 rfl ?_
  obtain ⟨r2, μ1, hc, h⟩ := zbnd_of h
  refine zx_callSI (r := r2) (μ2 := μ1) G d_Table_isHidden_1 zm_Table_37 (fun l => t_A_isLetter  hc) rfl rfl (Nat.le_of_ble_eq_true rfl) (Nat.le_of_ble_eq_true rfl) ?_
  refine zx_if_eq (tgt := 21) G d_Table_isHidden_4 rfl h (fun h => ?_) (fun h => ?_)
  · refine zx_iconst (v := 0) G d_Table_isHidden_21 rfl ?_
    exact zx_zretK G d_Table_isHidden_22 rfl (by decide) h
  · refine zx_aload_n G d_Table_isHidden_7 rfl ?_
    refine zx_getR G d_Table_isHidden_8 zf_Table_20 zc_3_1 ho ?_
    refine zx_iload_n G d_Table_isHidden_11 rfl ?_
    refine zx_iald G d_Table_isHidden_12 za_24 (zi_3_1 ho) h (fun h => ?_)
    refine zx_iconst (v := -1) G d_Table_isHidden_13 rfl ?_
    refine zx_icmp_eq (tgt := 21) G d_Table_isHidden_14 rfl h (fun h => ?_) (fun h => ?_)
    · refine zx_iconst (v := 0) G d_Table_isHidden_21 rfl ?_
      exact zx_zretK G d_Table_isHidden_22 rfl (by decide) h
    · refine zx_iconst (v := 1) G d_Table_isHidden_17 rfl ?_
      refine zx_goto (tgt := 22) G d_Table_isHidden_18 rfl ?_
      exact zx_zretK G d_Table_isHidden_22 rfl (by decide) h
set_option maxHeartbeats 4000000 in
set_option maxRecDepth 20000 in
theorem t_Reader_readX {g : ZG} {l : Launch} {N : Nat} {μ : ZMem} {p0 : Nat} (hp0 : (3, p0) ∈ zids) {rr : Int32 × ZMem} (h : f_Reader_readX N μ p0 = some rr) : zT g l 2 K_Reader_readX [.ref (g.2.1 2 0), .ref (g.2.1 3 p0)] μ (some (.int rr.1), rr.2) := by
  refine zT_of (by decide +kernel) (Nat.le_of_ble_eq_true rfl) (fun E G => ?_)
  show zX g K_Reader_readX 2 E (some (.int rr.1), rr.2) μ 0 [some (.ref (g.2.1 2 0)), some (.ref (g.2.1 3 p0)), none] []
  unfold f_Reader_readX at h
  refine zx_aload_n G d_Reader_readX_0 rfl ?_
  obtain ⟨u9, μ1, hc, h⟩ := zbnd_of h
  refine zx_callVV  (μ2 := μ1) G d_Reader_readX_1 zm_Reader_30 (fun l => t_Reader_advance  hc) rfl rfl (Nat.le_of_ble_eq_true rfl) (Nat.le_of_ble_eq_true rfl) (zrecv zo_2 (zids_of 2 (Nat.le_of_ble_eq_true rfl) 0 (Nat.le_of_ble_eq_true rfl))) ?_
  refine zx_aload_n G d_Reader_readX_4 rfl ?_
  refine zx_getI G d_Reader_readX_5 zf_Reader_33 zc_2_3 (zids_of 2 (Nat.le_of_ble_eq_true rfl) 0 (Nat.le_of_ble_eq_true rfl)) ?_
  refine zx_iconst (v := 2) G d_Reader_readX_8 rfl ?_
  refine zx_icmp_ne (tgt := 44) G d_Reader_readX_9 rfl h (fun h => ?_) (fun h => ?_)
  · refine zx_aload_n G d_Reader_readX_44 rfl ?_
    obtain ⟨r3, μ2, hc, h⟩ := zbnd_of h
    refine zx_callVI (r := r3) (μ2 := μ2) G d_Reader_readX_45 zm_Reader_72 (fun l => t_Reader_letterOfWord  hc) rfl rfl (Nat.le_of_ble_eq_true rfl) (Nat.le_of_ble_eq_true rfl) (zrecv zo_2 (zids_of 2 (Nat.le_of_ble_eq_true rfl) 0 (Nat.le_of_ble_eq_true rfl))) ?_
    refine zx_istore_n (lf := fun y => [_, _, some (.int y)]) G d_Reader_readX_48 (Nat.le_of_ble_eq_true rfl) (fun _ => rfl) h (fun x4 h => ?_)
    refine zx_iload_n G d_Reader_readX_49 rfl ?_
    refine zx_iconst (v := -1) G d_Reader_readX_50 rfl ?_
    refine zx_icmp_ne (tgt := 60) G d_Reader_readX_51 rfl h (fun h => ?_) (fun h => ?_)
    · refine zx_aload_n G d_Reader_readX_60 rfl ?_
      refine zx_sipush (v := 10000) G d_Reader_readX_61 rfl ?_
      refine zx_iload_n G d_Reader_readX_64 rfl ?_
      refine zx_iadd G d_Reader_readX_65 ?_
      refine zx_putI G d_Reader_readX_66 zq_Reader_63 zp_2_6 (zids_of 2 (Nat.le_of_ble_eq_true rfl) 0 (Nat.le_of_ble_eq_true rfl)) h (fun μ5 h => ?_)
      refine zx_aload_n G d_Reader_readX_69 rfl ?_
      refine zx_iload_n G d_Reader_readX_70 rfl ?_
      obtain ⟨r7, μ6, hc, h⟩ := zbnd_of h
      refine zx_callVI (r := r7) (μ2 := μ6) G d_Reader_readX_71 zm_Reader_75 (fun l => t_Table_isHidden hp0 hc) rfl rfl (Nat.le_of_ble_eq_true rfl) (Nat.le_of_ble_eq_true rfl) (zrecv zo_3 hp0) ?_
      refine zx_join (P := fun k => ∀ (μ8 : ZMem), k μ8 = some rr → zX g K_Reader_readX 2 E (some (.int rr.1), rr.2) μ8 85 [none, none, none] []) h (fun μ8 h => ?_) (fun k9 hk9 h => ?_)
      · try dsimp only at h
        refine zx_iconst (v := 1) G d_Reader_readX_85 rfl ?_
        refine zx_goto (tgt := 90) G d_Reader_readX_86 rfl ?_
        exact zx_zretK G d_Reader_readX_90 rfl (by decide) h
      try dsimp only at h
      refine zx_if_ne (tgt := 85) G d_Reader_readX_74 rfl h (fun h => ?_) (fun h => ?_)
      · refine zx_weak [false, false, false] (lv2 := [none, none, none]) rfl ?_
        exact hk9 μ6 h
      · refine zx_aload_n G d_Reader_readX_77 rfl ?_
        refine zx_iconst (v := 4) G d_Reader_readX_78 rfl ?_
        obtain ⟨r11, μ10, hc, h⟩ := zbnd_of h
        refine zx_callVI (r := r11) (μ2 := μ10) G d_Reader_readX_79 zm_Reader_44 (fun l => t_Reader_refuse  hc) rfl rfl (Nat.le_of_ble_eq_true rfl) (Nat.le_of_ble_eq_true rfl) (zrecv zo_2 (zids_of 2 (Nat.le_of_ble_eq_true rfl) 0 (Nat.le_of_ble_eq_true rfl))) ?_
        refine zx_if_eq (tgt := 89) G d_Reader_readX_82 rfl h (fun h => ?_) (fun h => ?_)
        · refine zx_iconst (v := 0) G d_Reader_readX_89 rfl ?_
          exact zx_zretK G d_Reader_readX_90 rfl (by decide) h
        · refine zx_weak [false, false, false] (lv2 := [none, none, none]) rfl ?_
          exact hk9 μ10 h
    · refine zx_aload_n G d_Reader_readX_54 rfl ?_
      refine zx_iconst (v := 1) G d_Reader_readX_55 rfl ?_
      obtain ⟨r13, μ12, hc, h⟩ := zbnd_of h
      refine zx_callVI (r := r13) (μ2 := μ12) G d_Reader_readX_56 zm_Reader_44 (fun l => t_Reader_refuse  hc) rfl rfl (Nat.le_of_ble_eq_true rfl) (Nat.le_of_ble_eq_true rfl) (zrecv zo_2 (zids_of 2 (Nat.le_of_ble_eq_true rfl) 0 (Nat.le_of_ble_eq_true rfl))) ?_
      exact zx_zret G d_Reader_readX_59 rfl h
  · refine zx_aload_n G d_Reader_readX_12 rfl ?_
    refine zx_aload_n G d_Reader_readX_13 rfl ?_
    obtain ⟨r15, μ14, hc, h⟩ := zbnd_of h
    refine zx_callVI (r := r15) (μ2 := μ14) G d_Reader_readX_14 zm_Reader_99 (fun l => t_Reader_numberOfDigits  hc) rfl rfl (Nat.le_of_ble_eq_true rfl) (Nat.le_of_ble_eq_true rfl) (zrecv zo_2 (zids_of 2 (Nat.le_of_ble_eq_true rfl) 0 (Nat.le_of_ble_eq_true rfl))) ?_
    refine zx_putI G d_Reader_readX_17 zq_Reader_63 zp_2_6 (zids_of 2 (Nat.le_of_ble_eq_true rfl) 0 (Nat.le_of_ble_eq_true rfl)) h (fun μ16 h => ?_)
    refine zx_aload_n G d_Reader_readX_20 rfl ?_
    refine zx_getI G d_Reader_readX_21 zf_Reader_63 zc_2_6 (zids_of 2 (Nat.le_of_ble_eq_true rfl) 0 (Nat.le_of_ble_eq_true rfl)) ?_
    refine zx_sipush (v := 9999) G d_Reader_readX_24 rfl ?_
    refine zx_join (P := fun k => ∀ (μ17 : ZMem), k μ17 = some rr → zX g K_Reader_readX 2 E (some (.int rr.1), rr.2) μ17 38 [none, none, none] []) h (fun μ17 h => ?_) (fun k18 hk18 h => ?_)
    · try dsimp only at h
      refine zx_iconst (v := 1) G d_Reader_readX_38 rfl ?_
      refine zx_goto (tgt := 43) G d_Reader_readX_39 rfl ?_
      exact zx_zretK G d_Reader_readX_43 rfl (by decide) h
    try dsimp only at h
    refine zx_icmp_le (tgt := 38) G d_Reader_readX_27 rfl h (fun h => ?_) (fun h => ?_)
    · refine zx_weak [false, false, false] (lv2 := [none, none, none]) rfl ?_
      exact hk18 μ16 h
    · refine zx_aload_n G d_Reader_readX_30 rfl ?_
      refine zx_iconst (v := 2) G d_Reader_readX_31 rfl ?_
      obtain ⟨r20, μ19, hc, h⟩ := zbnd_of h
      refine zx_callVI (r := r20) (μ2 := μ19) G d_Reader_readX_32 zm_Reader_44 (fun l => t_Reader_refuse  hc) rfl rfl (Nat.le_of_ble_eq_true rfl) (Nat.le_of_ble_eq_true rfl) (zrecv zo_2 (zids_of 2 (Nat.le_of_ble_eq_true rfl) 0 (Nat.le_of_ble_eq_true rfl))) ?_
      refine zx_if_eq (tgt := 42) G d_Reader_readX_35 rfl h (fun h => ?_) (fun h => ?_)
      · refine zx_iconst (v := 0) G d_Reader_readX_42 rfl ?_
        exact zx_zretK G d_Reader_readX_43 rfl (by decide) h
      · refine zx_weak [false, false, false] (lv2 := [none, none, none]) rfl ?_
        exact hk18 μ19 h
set_option maxHeartbeats 4000000 in
set_option maxRecDepth 20000 in
theorem t_Reader_readArgument {g : ZG} {l : Launch} {N : Nat} {μ : ZMem} {p0 : Nat} {p1 : Int32} (hp0 : (3, p0) ∈ zids) {rr : Int32 × ZMem} (h : f_Reader_readArgument N μ p0 p1 = some rr) : zT g l 3 K_Reader_readArgument [.ref (g.2.1 2 0), .ref (g.2.1 3 p0), .int p1] μ (some (.int rr.1), rr.2) := by
  refine zT_of (by decide +kernel) (Nat.le_of_ble_eq_true rfl) (fun E G => ?_)
  show zX g K_Reader_readArgument 3 E (some (.int rr.1), rr.2) μ 0 [some (.ref (g.2.1 2 0)), some (.ref (g.2.1 3 p0)), some (.int p1)] []
  unfold f_Reader_readArgument at h
  refine zx_aload_n G d_Reader_readArgument_0 rfl ?_
  refine zx_iconst (v := 0) G d_Reader_readArgument_1 rfl ?_
  refine zx_putI G d_Reader_readArgument_2 zq_Reader_63 zp_2_6 (zids_of 2 (Nat.le_of_ble_eq_true rfl) 0 (Nat.le_of_ble_eq_true rfl)) h (fun μ1 h => ?_)
  refine zx_iload_n G d_Reader_readArgument_5 rfl ?_
  refine zx_bipush (v := 6) G d_Reader_readArgument_6 rfl ?_
  refine zx_icmp_ge (tgt := 17) G d_Reader_readArgument_8 rfl h (fun h => ?_) (fun h => ?_)
  · refine zx_iload_n G d_Reader_readArgument_17 rfl ?_
    refine zx_bipush (v := 8) G d_Reader_readArgument_18 rfl ?_
    refine zx_join (P := fun k => ∀ (μ2 : ZMem), k μ2 = some rr → zX g K_Reader_readArgument 3 E (some (.int rr.1), rr.2) μ2 33 [none, none, none] []) h (fun μ2 h => ?_) (fun k3 hk3 h => ?_)
    · try dsimp only at h
      refine zx_iconst (v := 1) G d_Reader_readArgument_33 rfl ?_
      refine zx_goto (tgt := 38) G d_Reader_readArgument_34 rfl ?_
      exact zx_zretK G d_Reader_readArgument_38 rfl (by decide) h
    try dsimp only at h
    refine zx_icmp_ne (tgt := 33) G d_Reader_readArgument_20 rfl h (fun h => ?_) (fun h => ?_)
    · refine zx_weak [false, false, false] (lv2 := [none, none, none]) rfl ?_
      exact hk3 μ1 h
    · refine zx_aload_n G d_Reader_readArgument_23 rfl ?_
      refine zx_iconst (v := 1) G d_Reader_readArgument_24 rfl ?_
      refine zx_bipush (v := 9) G d_Reader_readArgument_25 rfl ?_
      obtain ⟨r5, μ4, hc, h⟩ := zbnd_of h
      refine zx_callVI (r := r5) (μ2 := μ4) G d_Reader_readArgument_27 zm_Reader_84 (fun l => t_Reader_readNumber  hc) rfl rfl (Nat.le_of_ble_eq_true rfl) (Nat.le_of_ble_eq_true rfl) (zrecv zo_2 (zids_of 2 (Nat.le_of_ble_eq_true rfl) 0 (Nat.le_of_ble_eq_true rfl))) ?_
      refine zx_if_eq (tgt := 37) G d_Reader_readArgument_30 rfl h (fun h => ?_) (fun h => ?_)
      · refine zx_iconst (v := 0) G d_Reader_readArgument_37 rfl ?_
        exact zx_zretK G d_Reader_readArgument_38 rfl (by decide) h
      · refine zx_weak [false, false, false] (lv2 := [none, none, none]) rfl ?_
        exact hk3 μ4 h
  · refine zx_aload_n G d_Reader_readArgument_11 rfl ?_
    refine zx_aload_n G d_Reader_readArgument_12 rfl ?_
    obtain ⟨r7, μ6, hc, h⟩ := zbnd_of h
    refine zx_callVI (r := r7) (μ2 := μ6) G d_Reader_readArgument_13 zm_Reader_96 (fun l => t_Reader_readX hp0 hc) rfl rfl (Nat.le_of_ble_eq_true rfl) (Nat.le_of_ble_eq_true rfl) (zrecv zo_2 (zids_of 2 (Nat.le_of_ble_eq_true rfl) 0 (Nat.le_of_ble_eq_true rfl))) ?_
    exact zx_zret G d_Reader_readArgument_16 rfl h
set_option maxHeartbeats 4000000 in
set_option maxRecDepth 20000 in
theorem t_Reader_readSemicolon {g : ZG} {l : Launch} {N : Nat} {μ : ZMem} {rr : Int32 × ZMem} (h : f_Reader_readSemicolon N μ = some rr) : zT g l 2 K_Reader_readSemicolon [.ref (g.2.1 2 0)] μ (some (.int rr.1), rr.2) := by
  refine zT_of (by decide +kernel) (Nat.le_of_ble_eq_true rfl) (fun E G => ?_)
  show zX g K_Reader_readSemicolon 2 E (some (.int rr.1), rr.2) μ 0 [some (.ref (g.2.1 2 0))] []
  unfold f_Reader_readSemicolon at h
  refine zx_aload_n G d_Reader_readSemicolon_0 rfl ?_
  obtain ⟨u9, μ1, hc, h⟩ := zbnd_of h
  refine zx_callVV  (μ2 := μ1) G d_Reader_readSemicolon_1 zm_Reader_30 (fun l => t_Reader_advance  hc) rfl rfl (Nat.le_of_ble_eq_true rfl) (Nat.le_of_ble_eq_true rfl) (zrecv zo_2 (zids_of 2 (Nat.le_of_ble_eq_true rfl) 0 (Nat.le_of_ble_eq_true rfl))) ?_
  refine zx_aload_n G d_Reader_readSemicolon_4 rfl ?_
  refine zx_getI G d_Reader_readSemicolon_5 zf_Reader_33 zc_2_3 (zids_of 2 (Nat.le_of_ble_eq_true rfl) 0 (Nat.le_of_ble_eq_true rfl)) ?_
  refine zx_iconst (v := 3) G d_Reader_readSemicolon_8 rfl ?_
  refine zx_join (P := fun k => ∀ (μ2 : ZMem), k μ2 = some rr → zX g K_Reader_readSemicolon 2 E (some (.int rr.1), rr.2) μ2 20 [none] []) h (fun μ2 h => ?_) (fun k3 hk3 h => ?_)
  · try dsimp only at h
    refine zx_iconst (v := 1) G d_Reader_readSemicolon_20 rfl ?_
    refine zx_goto (tgt := 25) G d_Reader_readSemicolon_21 rfl ?_
    exact zx_zretK G d_Reader_readSemicolon_25 rfl (by decide) h
  try dsimp only at h
  refine zx_icmp_eq (tgt := 20) G d_Reader_readSemicolon_9 rfl h (fun h => ?_) (fun h => ?_)
  · refine zx_weak [false] (lv2 := [none]) rfl ?_
    exact hk3 μ1 h
  · refine zx_aload_n G d_Reader_readSemicolon_12 rfl ?_
    refine zx_iconst (v := 1) G d_Reader_readSemicolon_13 rfl ?_
    obtain ⟨r5, μ4, hc, h⟩ := zbnd_of h
    refine zx_callVI (r := r5) (μ2 := μ4) G d_Reader_readSemicolon_14 zm_Reader_44 (fun l => t_Reader_refuse  hc) rfl rfl (Nat.le_of_ble_eq_true rfl) (Nat.le_of_ble_eq_true rfl) (zrecv zo_2 (zids_of 2 (Nat.le_of_ble_eq_true rfl) 0 (Nat.le_of_ble_eq_true rfl))) ?_
    refine zx_if_eq (tgt := 24) G d_Reader_readSemicolon_17 rfl h (fun h => ?_) (fun h => ?_)
    · refine zx_iconst (v := 0) G d_Reader_readSemicolon_24 rfl ?_
      exact zx_zretK G d_Reader_readSemicolon_25 rfl (by decide) h
    · refine zx_weak [false] (lv2 := [none]) rfl ?_
      exact hk3 μ4 h
set_option maxHeartbeats 4000000 in
set_option maxRecDepth 20000 in
theorem t_Orders_add {g : ZG} {l : Launch} {N : Nat} {μ : ZMem} {o : Nat} {p0 : Int32} {p1 : Int32} (ho : (4, o) ∈ zids) {rr : Int32 × ZMem} (h : f_Orders_add N μ o p0 p1 = some rr) : zT g l 0 K_Orders_add [.ref (g.2.1 4 o), .int p0, .int p1] μ (some (.int rr.1), rr.2) := by
  refine zT_of (by decide +kernel) (Nat.le_of_ble_eq_true rfl) (fun E G => ?_)
  show zX g K_Orders_add 0 E (some (.int rr.1), rr.2) μ 0 [some (.ref (g.2.1 4 o)), some (.int p0), some (.int p1)] []
  unfold f_Orders_add at h
  refine zx_aload_n G d_Orders_add_0 rfl ?_
  refine zx_getI G d_Orders_add_1 zf_Orders_18 zc_4_2 ho ?_
  refine zx_aload_n G d_Orders_add_4 rfl ?_
  refine zx_getR G d_Orders_add_5 zf_Orders_9 zc_4_0 ho ?_
  refine zx_alenI G d_Orders_add_8 za_22 (zi_4_0 ho) ?_
  refine zx_icmp_lt (tgt := 14) G d_Orders_add_9 rfl h (fun h => ?_) (fun h => ?_)
  · refine zx_aload_n G d_Orders_add_14 rfl ?_
    refine zx_getR G d_Orders_add_15 zf_Orders_9 zc_4_0 ho ?_
    refine zx_aload_n G d_Orders_add_18 rfl ?_
    refine zx_getI G d_Orders_add_19 zf_Orders_18 zc_4_2 ho ?_
    refine zx_iload_n G d_Orders_add_22 rfl ?_
    refine zx_iast G d_Orders_add_23 za_22 (zi_4_0 ho) h (fun μ1 h => ?_)
    refine zx_aload_n G d_Orders_add_24 rfl ?_
    refine zx_getR G d_Orders_add_25 zf_Orders_15 zc_4_1 ho ?_
    refine zx_aload_n G d_Orders_add_28 rfl ?_
    refine zx_getI G d_Orders_add_29 zf_Orders_18 zc_4_2 ho ?_
    refine zx_iload_n G d_Orders_add_32 rfl ?_
    refine zx_iast G d_Orders_add_33 za_23 (zi_4_1 ho) h (fun μ2 h => ?_)
    refine zx_aload_n G d_Orders_add_34 rfl ?_
    refine zx_dup G d_Orders_add_35 rfl ?_
    refine zx_getI G d_Orders_add_36 zf_Orders_18 zc_4_2 ho ?_
    refine zx_iconst (v := 1) G d_Orders_add_39 rfl ?_
    refine zx_iadd G d_Orders_add_40 ?_
    refine zx_putI G d_Orders_add_41 zq_Orders_18 zp_4_2 ho h (fun μ3 h => ?_)
    refine zx_iconst (v := 1) G d_Orders_add_44 rfl ?_
    exact zx_zretK G d_Orders_add_45 rfl (by decide) h
  · refine zx_iconst (v := 0) G d_Orders_add_12 rfl ?_
    exact zx_zretK G d_Orders_add_13 rfl (by decide) h
set_option maxHeartbeats 4000000 in
set_option maxRecDepth 20000 in
theorem t_Reader_readWord {g : ZG} {l : Launch} {N : Nat} {μ : ZMem} {p0 : Nat} (hp0 : p0 < 13) {rr : Int32 × ZMem} (h : f_Reader_readWord N μ p0 = some rr) : zT g l 5 K_Reader_readWord [.ref (g.2.1 2 0), .ref (g.2.1 60 p0)] μ (some (.int rr.1), rr.2) := by
  refine zT_of (by decide +kernel) (Nat.le_of_ble_eq_true rfl) (fun E G => ?_)
  show zX g K_Reader_readWord 5 E (some (.int rr.1), rr.2) μ 0 [some (.ref (g.2.1 2 0)), some (.ref (g.2.1 60 p0))] []
  unfold f_Reader_readWord at h
  refine zx_aload_n G d_Reader_readWord_0 rfl ?_
  obtain ⟨u9, μ1, hc, h⟩ := zbnd_of h
  refine zx_callVV  (μ2 := μ1) G d_Reader_readWord_1 zm_Reader_30 (fun l => t_Reader_advance  hc) rfl rfl (Nat.le_of_ble_eq_true rfl) (Nat.le_of_ble_eq_true rfl) (zrecv zo_2 (zids_of 2 (Nat.le_of_ble_eq_true rfl) 0 (Nat.le_of_ble_eq_true rfl))) ?_
  refine zx_aload_n G d_Reader_readWord_4 rfl ?_
  refine zx_getI G d_Reader_readWord_5 zf_Reader_33 zc_2_3 (zids_of 2 (Nat.le_of_ble_eq_true rfl) 0 (Nat.le_of_ble_eq_true rfl)) ?_
  refine zx_iconst (v := 1) G d_Reader_readWord_8 rfl ?_
  refine zx_join (P := fun k => ∀ (μ2 : ZMem), k μ2 = some rr → zX g K_Reader_readWord 5 E (some (.int rr.1), rr.2) μ2 28 [none, none] []) h (fun μ2 h => ?_) (fun k3 hk3 h => ?_)
  · try dsimp only at h
    refine zx_iconst (v := 1) G d_Reader_readWord_28 rfl ?_
    refine zx_goto (tgt := 33) G d_Reader_readWord_29 rfl ?_
    exact zx_zretK G d_Reader_readWord_33 rfl (by decide) h
  try dsimp only at h
  refine zx_join (P := fun k => ∀ (μ4 : ZMem), k μ4 = some rr → zX g K_Reader_readWord 5 E (some (.int rr.1), rr.2) μ4 20 [some (.ref (g.2.1 2 0)), none] []) h (fun μ4 h => ?_) (fun k5 hk5 h => ?_)
  · try dsimp only at h
    refine zx_aload_n G d_Reader_readWord_20 rfl ?_
    refine zx_iconst (v := 1) G d_Reader_readWord_21 rfl ?_
    obtain ⟨r7, μ6, hc, h⟩ := zbnd_of h
    refine zx_callVI (r := r7) (μ2 := μ6) G d_Reader_readWord_22 zm_Reader_44 (fun l => t_Reader_refuse  hc) rfl rfl (Nat.le_of_ble_eq_true rfl) (Nat.le_of_ble_eq_true rfl) (zrecv zo_2 (zids_of 2 (Nat.le_of_ble_eq_true rfl) 0 (Nat.le_of_ble_eq_true rfl))) ?_
    refine zx_if_eq (tgt := 32) G d_Reader_readWord_25 rfl h (fun h => ?_) (fun h => ?_)
    · refine zx_iconst (v := 0) G d_Reader_readWord_32 rfl ?_
      exact zx_zretK G d_Reader_readWord_33 rfl (by decide) h
    · refine zx_weak [false, false] (lv2 := [none, none]) rfl ?_
      exact hk3 μ6 h
  try dsimp only at h
  refine zx_icmp_ne (tgt := 20) G d_Reader_readWord_9 rfl h (fun h => ?_) (fun h => ?_)
  · refine zx_weak [true, false] (lv2 := [_, none]) rfl ?_
    exact hk5 μ1 h
  · refine zx_aload_n G d_Reader_readWord_12 rfl ?_
    refine zx_aload_n G d_Reader_readWord_13 rfl ?_
    obtain ⟨r9, μ8, hc, h⟩ := zbnd_of h
    refine zx_callVI (r := r9) (μ2 := μ8) G d_Reader_readWord_14 zm_Reader_102 (fun l => t_Reader_spells hp0 hc) rfl rfl (Nat.le_of_ble_eq_true rfl) (Nat.le_of_ble_eq_true rfl) (zrecv zo_2 (zids_of 2 (Nat.le_of_ble_eq_true rfl) 0 (Nat.le_of_ble_eq_true rfl))) ?_
    refine zx_if_ne (tgt := 28) G d_Reader_readWord_17 rfl h (fun h => ?_) (fun h => ?_)
    · refine zx_weak [false, false] (lv2 := [none, none]) rfl ?_
      exact hk3 μ8 h
    · refine zx_weak [true, false] (lv2 := [_, none]) rfl ?_
      exact hk5 μ8 h
set_option maxHeartbeats 4000000 in
set_option maxRecDepth 20000 in
theorem t_Reader_readHide {g : ZG} {l : Launch} {N : Nat} {μ : ZMem} {p0 : Nat} (hp0 : (3, p0) ∈ zids) {rr : Int32 × ZMem} (h : f_Reader_readHide N μ p0 = some rr) : zT g l 6 K_Reader_readHide [.ref (g.2.1 2 0), .ref (g.2.1 3 p0)] μ (some (.int rr.1), rr.2) := by
  refine zT_of (by decide +kernel) (Nat.le_of_ble_eq_true rfl) (fun E G => ?_)
  show zX g K_Reader_readHide 6 E (some (.int rr.1), rr.2) μ 0 [some (.ref (g.2.1 2 0)), some (.ref (g.2.1 3 p0)), none, none] []
  unfold f_Reader_readHide at h
  refine zx_aload_n G d_Reader_readHide_0 rfl ?_
  obtain ⟨u9, μ1, hc, h⟩ := zbnd_of h
  refine zx_callVV  (μ2 := μ1) G d_Reader_readHide_1 zm_Reader_30 (fun l => t_Reader_advance  hc) rfl rfl (Nat.le_of_ble_eq_true rfl) (Nat.le_of_ble_eq_true rfl) (zrecv zo_2 (zids_of 2 (Nat.le_of_ble_eq_true rfl) 0 (Nat.le_of_ble_eq_true rfl))) ?_
  refine zx_aload_n G d_Reader_readHide_4 rfl ?_
  obtain ⟨r3, μ2, hc, h⟩ := zbnd_of h
  refine zx_callVI (r := r3) (μ2 := μ2) G d_Reader_readHide_5 zm_Reader_72 (fun l => t_Reader_letterOfWord  hc) rfl rfl (Nat.le_of_ble_eq_true rfl) (Nat.le_of_ble_eq_true rfl) (zrecv zo_2 (zids_of 2 (Nat.le_of_ble_eq_true rfl) 0 (Nat.le_of_ble_eq_true rfl))) ?_
  refine zx_istore_n (lf := fun y => [_, _, some (.int y), none]) G d_Reader_readHide_8 (Nat.le_of_ble_eq_true rfl) (fun _ => rfl) h (fun x4 h => ?_)
  refine zx_iload_n G d_Reader_readHide_9 rfl ?_
  refine zx_iconst (v := -1) G d_Reader_readHide_10 rfl ?_
  refine zx_icmp_ne (tgt := 20) G d_Reader_readHide_11 rfl h (fun h => ?_) (fun h => ?_)
  · refine zx_aload_n G d_Reader_readHide_20 rfl ?_
    refine zx_iload_n G d_Reader_readHide_21 rfl ?_
    obtain ⟨r6, μ5, hc, h⟩ := zbnd_of h
    refine zx_callVI (r := r6) (μ2 := μ5) G d_Reader_readHide_22 zm_Reader_75 (fun l => t_Table_isHidden hp0 hc) rfl rfl (Nat.le_of_ble_eq_true rfl) (Nat.le_of_ble_eq_true rfl) (zrecv zo_3 hp0) ?_
    refine zx_if_eq (tgt := 34) G d_Reader_readHide_25 rfl h (fun h => ?_) (fun h => ?_)
    · refine zx_aload_n G d_Reader_readHide_34 rfl ?_
      refine zx_ldcS (i := 11) G d_Reader_readHide_35 rfl (Nat.le_of_ble_eq_true rfl) rfl ?_
      obtain ⟨r8, μ7, hc, h⟩ := zbnd_of h
      refine zx_callVI (r := r8) (μ2 := μ7) G d_Reader_readHide_37 zm_Reader_80 (fun l => t_Reader_readWord (Nat.le_of_ble_eq_true rfl) hc) rfl rfl (Nat.le_of_ble_eq_true rfl) (Nat.le_of_ble_eq_true rfl) (zrecv zo_2 (zids_of 2 (Nat.le_of_ble_eq_true rfl) 0 (Nat.le_of_ble_eq_true rfl))) ?_
      refine zx_if_eq (tgt := 54) G d_Reader_readHide_40 rfl h (fun h => ?_) (fun h => ?_)
      · refine zx_iconst (v := 0) G d_Reader_readHide_54 rfl ?_
        exact zx_zretK G d_Reader_readHide_55 rfl (by decide) h
      · refine zx_aload_n G d_Reader_readHide_43 rfl ?_
        refine zx_iconst (v := 0) G d_Reader_readHide_44 rfl ?_
        refine zx_sipush (v := 9999) G d_Reader_readHide_45 rfl ?_
        obtain ⟨r10, μ9, hc, h⟩ := zbnd_of h
        refine zx_callVI (r := r10) (μ2 := μ9) G d_Reader_readHide_48 zm_Reader_84 (fun l => t_Reader_readNumber  hc) rfl rfl (Nat.le_of_ble_eq_true rfl) (Nat.le_of_ble_eq_true rfl) (zrecv zo_2 (zids_of 2 (Nat.le_of_ble_eq_true rfl) 0 (Nat.le_of_ble_eq_true rfl))) ?_
        refine zx_if_ne (tgt := 56) G d_Reader_readHide_51 rfl h (fun h => ?_) (fun h => ?_)
        · refine zx_aload_n G d_Reader_readHide_56 rfl ?_
          refine zx_getI G d_Reader_readHide_57 zf_Reader_63 zc_2_6 (zids_of 2 (Nat.le_of_ble_eq_true rfl) 0 (Nat.le_of_ble_eq_true rfl)) ?_
          refine zx_istore_n (lf := fun y => [_, _, _, some (.int y)]) G d_Reader_readHide_60 (Nat.le_of_ble_eq_true rfl) (fun _ => rfl) h (fun x11 h => ?_)
          refine zx_aload_n G d_Reader_readHide_61 rfl ?_
          refine zx_ldcS (i := 12) G d_Reader_readHide_62 rfl (Nat.le_of_ble_eq_true rfl) rfl ?_
          obtain ⟨r13, μ12, hc, h⟩ := zbnd_of h
          refine zx_callVI (r := r13) (μ2 := μ12) G d_Reader_readHide_64 zm_Reader_80 (fun l => t_Reader_readWord (Nat.le_of_ble_eq_true rfl) hc) rfl rfl (Nat.le_of_ble_eq_true rfl) (Nat.le_of_ble_eq_true rfl) (zrecv zo_2 (zids_of 2 (Nat.le_of_ble_eq_true rfl) 0 (Nat.le_of_ble_eq_true rfl))) ?_
          refine zx_if_eq (tgt := 81) G d_Reader_readHide_67 rfl h (fun h => ?_) (fun h => ?_)
          · refine zx_iconst (v := 0) G d_Reader_readHide_81 rfl ?_
            exact zx_zretK G d_Reader_readHide_82 rfl (by decide) h
          · refine zx_aload_n G d_Reader_readHide_70 rfl ?_
            refine zx_iconst (v := 0) G d_Reader_readHide_71 rfl ?_
            refine zx_sipush (v := 9999) G d_Reader_readHide_72 rfl ?_
            obtain ⟨r15, μ14, hc, h⟩ := zbnd_of h
            refine zx_callVI (r := r15) (μ2 := μ14) G d_Reader_readHide_75 zm_Reader_84 (fun l => t_Reader_readNumber  hc) rfl rfl (Nat.le_of_ble_eq_true rfl) (Nat.le_of_ble_eq_true rfl) (zrecv zo_2 (zids_of 2 (Nat.le_of_ble_eq_true rfl) 0 (Nat.le_of_ble_eq_true rfl))) ?_
            refine zx_if_ne (tgt := 83) G d_Reader_readHide_78 rfl h (fun h => ?_) (fun h => ?_)
            · refine zx_aload_n G d_Reader_readHide_83 rfl ?_
              refine zx_getI G d_Reader_readHide_84 zf_Reader_63 zc_2_6 (zids_of 2 (Nat.le_of_ble_eq_true rfl) 0 (Nat.le_of_ble_eq_true rfl)) ?_
              refine zx_iload_n G d_Reader_readHide_87 rfl ?_
              refine zx_icmp_ge (tgt := 97) G d_Reader_readHide_88 rfl h (fun h => ?_) (fun h => ?_)
              · refine zx_aload_n G d_Reader_readHide_97 rfl ?_
                refine zx_getR G d_Reader_readHide_98 zf_Reader_89 zc_3_1 hp0 ?_
                refine zx_iload_n G d_Reader_readHide_101 rfl ?_
                refine zx_iload_n G d_Reader_readHide_102 rfl ?_
                refine zx_iast G d_Reader_readHide_103 za_24 (zi_3_1 hp0) h (fun μ16 h => ?_)
                refine zx_aload_n G d_Reader_readHide_104 rfl ?_
                refine zx_getR G d_Reader_readHide_105 zf_Reader_93 zc_3_2 hp0 ?_
                refine zx_iload_n G d_Reader_readHide_108 rfl ?_
                refine zx_aload_n G d_Reader_readHide_109 rfl ?_
                refine zx_getI G d_Reader_readHide_110 zf_Reader_63 zc_2_6 (zids_of 2 (Nat.le_of_ble_eq_true rfl) 0 (Nat.le_of_ble_eq_true rfl)) ?_
                refine zx_iast G d_Reader_readHide_113 za_25 (zi_3_2 hp0) h (fun μ17 h => ?_)
                refine zx_aload_n G d_Reader_readHide_114 rfl ?_
                obtain ⟨r19, μ18, hc, h⟩ := zbnd_of h
                refine zx_callVI (r := r19) (μ2 := μ18) G d_Reader_readHide_115 zm_Reader_55 (fun l => t_Reader_readSemicolon  hc) rfl rfl (Nat.le_of_ble_eq_true rfl) (Nat.le_of_ble_eq_true rfl) (zrecv zo_2 (zids_of 2 (Nat.le_of_ble_eq_true rfl) 0 (Nat.le_of_ble_eq_true rfl))) ?_
                exact zx_zret G d_Reader_readHide_118 rfl h
              · refine zx_aload_n G d_Reader_readHide_91 rfl ?_
                refine zx_iconst (v := 5) G d_Reader_readHide_92 rfl ?_
                obtain ⟨r21, μ20, hc, h⟩ := zbnd_of h
                refine zx_callVI (r := r21) (μ2 := μ20) G d_Reader_readHide_93 zm_Reader_44 (fun l => t_Reader_refuse  hc) rfl rfl (Nat.le_of_ble_eq_true rfl) (Nat.le_of_ble_eq_true rfl) (zrecv zo_2 (zids_of 2 (Nat.le_of_ble_eq_true rfl) 0 (Nat.le_of_ble_eq_true rfl))) ?_
                exact zx_zret G d_Reader_readHide_96 rfl h
            · refine zx_iconst (v := 0) G d_Reader_readHide_81 rfl ?_
              exact zx_zretK G d_Reader_readHide_82 rfl (by decide) h
        · refine zx_iconst (v := 0) G d_Reader_readHide_54 rfl ?_
          exact zx_zretK G d_Reader_readHide_55 rfl (by decide) h
    · refine zx_aload_n G d_Reader_readHide_28 rfl ?_
      refine zx_iconst (v := 3) G d_Reader_readHide_29 rfl ?_
      obtain ⟨r23, μ22, hc, h⟩ := zbnd_of h
      refine zx_callVI (r := r23) (μ2 := μ22) G d_Reader_readHide_30 zm_Reader_44 (fun l => t_Reader_refuse  hc) rfl rfl (Nat.le_of_ble_eq_true rfl) (Nat.le_of_ble_eq_true rfl) (zrecv zo_2 (zids_of 2 (Nat.le_of_ble_eq_true rfl) 0 (Nat.le_of_ble_eq_true rfl))) ?_
      exact zx_zret G d_Reader_readHide_33 rfl h
  · refine zx_aload_n G d_Reader_readHide_14 rfl ?_
    refine zx_iconst (v := 1) G d_Reader_readHide_15 rfl ?_
    obtain ⟨r25, μ24, hc, h⟩ := zbnd_of h
    refine zx_callVI (r := r25) (μ2 := μ24) G d_Reader_readHide_16 zm_Reader_44 (fun l => t_Reader_refuse  hc) rfl rfl (Nat.le_of_ble_eq_true rfl) (Nat.le_of_ble_eq_true rfl) (zrecv zo_2 (zids_of 2 (Nat.le_of_ble_eq_true rfl) 0 (Nat.le_of_ble_eq_true rfl))) ?_
    exact zx_zret G d_Reader_readHide_19 rfl h
set_option maxHeartbeats 4000000 in
set_option maxRecDepth 20000 in
theorem t_Reader_readClause {g : ZG} {l : Launch} {N : Nat} {μ : ZMem} {p0 : Nat} {p1 : Int32} (hp0 : (3, p0) ∈ zids) {rr : Int32 × ZMem} (h : f_Reader_readClause N μ p0 p1 = some rr) : zT g l 7 K_Reader_readClause [.ref (g.2.1 2 0), .ref (g.2.1 3 p0), .int p1] μ (some (.int rr.1), rr.2) := by
  refine zT_of (by decide +kernel) (Nat.le_of_ble_eq_true rfl) (fun E G => ?_)
  show zX g K_Reader_readClause 7 E (some (.int rr.1), rr.2) μ 0 [some (.ref (g.2.1 2 0)), some (.ref (g.2.1 3 p0)), some (.int p1), none] []
  unfold f_Reader_readClause at h
  refine zx_aload_n G d_Reader_readClause_0 rfl ?_
  obtain ⟨r2, μ1, hc, h⟩ := zbnd_of h
  refine zx_callVI (r := r2) (μ2 := μ1) G d_Reader_readClause_1 zm_Reader_40 (fun l => t_Reader_kindOfWord  hc) rfl rfl (Nat.le_of_ble_eq_true rfl) (Nat.le_of_ble_eq_true rfl) (zrecv zo_2 (zids_of 2 (Nat.le_of_ble_eq_true rfl) 0 (Nat.le_of_ble_eq_true rfl))) ?_
  refine zx_istore_n (lf := fun y => [_, _, _, some (.int y)]) G d_Reader_readClause_4 (Nat.le_of_ble_eq_true rfl) (fun _ => rfl) h (fun x3 h => ?_)
  refine zx_iload_n G d_Reader_readClause_5 rfl ?_
  refine zx_iconst (v := -1) G d_Reader_readClause_6 rfl ?_
  refine zx_icmp_ne (tgt := 16) G d_Reader_readClause_7 rfl h (fun h => ?_) (fun h => ?_)
  · refine zx_iload_n G d_Reader_readClause_16 rfl ?_
    refine zx_bipush (v := 24) G d_Reader_readClause_17 rfl ?_
    refine zx_icmp_lt (tgt := 29) G d_Reader_readClause_19 rfl h (fun h => ?_) (fun h => ?_)
    · refine zx_iload_n G d_Reader_readClause_29 rfl ?_
      refine zx_bipush (v := 10) G d_Reader_readClause_30 rfl ?_
      refine zx_icmp_ne (tgt := 41) G d_Reader_readClause_32 rfl h (fun h => ?_) (fun h => ?_)
      · refine zx_aload_n G d_Reader_readClause_41 rfl ?_
        refine zx_aload_n G d_Reader_readClause_42 rfl ?_
        refine zx_iload_n G d_Reader_readClause_43 rfl ?_
        obtain ⟨r5, μ4, hc, h⟩ := zbnd_of h
        refine zx_callVI (r := r5) (μ2 := μ4) G d_Reader_readClause_44 zm_Reader_52 (fun l => t_Reader_readArgument hp0 hc) rfl rfl (Nat.le_of_ble_eq_true rfl) (Nat.le_of_ble_eq_true rfl) (zrecv zo_2 (zids_of 2 (Nat.le_of_ble_eq_true rfl) 0 (Nat.le_of_ble_eq_true rfl))) ?_
        refine zx_if_ne (tgt := 52) G d_Reader_readClause_47 rfl h (fun h => ?_) (fun h => ?_)
        · refine zx_aload_n G d_Reader_readClause_52 rfl ?_
          obtain ⟨r7, μ6, hc, h⟩ := zbnd_of h
          refine zx_callVI (r := r7) (μ2 := μ6) G d_Reader_readClause_53 zm_Reader_55 (fun l => t_Reader_readSemicolon  hc) rfl rfl (Nat.le_of_ble_eq_true rfl) (Nat.le_of_ble_eq_true rfl) (zrecv zo_2 (zids_of 2 (Nat.le_of_ble_eq_true rfl) 0 (Nat.le_of_ble_eq_true rfl))) ?_
          refine zx_if_eq (tgt := 78) G d_Reader_readClause_56 rfl h (fun h => ?_) (fun h => ?_)
          · refine zx_iconst (v := 0) G d_Reader_readClause_78 rfl ?_
            exact zx_zretK G d_Reader_readClause_79 rfl (by decide) h
          · refine zx_aload_n G d_Reader_readClause_59 rfl ?_
            refine zx_getR G d_Reader_readClause_60 zf_Reader_59 zc_3_0 hp0 ?_
            refine zx_iload_n G d_Reader_readClause_63 rfl ?_
            refine zx_aload_n G d_Reader_readClause_64 rfl ?_
            refine zx_getI G d_Reader_readClause_65 zf_Reader_63 zc_2_6 (zids_of 2 (Nat.le_of_ble_eq_true rfl) 0 (Nat.le_of_ble_eq_true rfl)) ?_
            obtain ⟨r9, μ8, hc, h⟩ := zbnd_of h
            refine zx_callVI (r := r9) (μ2 := μ8) G d_Reader_readClause_68 zm_Reader_66 (fun l => t_Orders_add (zi_3_0 hp0) hc) rfl rfl (Nat.le_of_ble_eq_true rfl) (Nat.le_of_ble_eq_true rfl) (zrecv zo_4 (zi_3_0 hp0)) ?_
            refine zx_if_eq (tgt := 78) G d_Reader_readClause_71 rfl h (fun h => ?_) (fun h => ?_)
            · refine zx_iconst (v := 0) G d_Reader_readClause_78 rfl ?_
              exact zx_zretK G d_Reader_readClause_79 rfl (by decide) h
            · refine zx_iconst (v := 1) G d_Reader_readClause_74 rfl ?_
              refine zx_goto (tgt := 79) G d_Reader_readClause_75 rfl ?_
              exact zx_zretK G d_Reader_readClause_79 rfl (by decide) h
        · refine zx_iconst (v := 0) G d_Reader_readClause_50 rfl ?_
          exact zx_zretK G d_Reader_readClause_51 rfl (by decide) h
      · refine zx_aload_n G d_Reader_readClause_35 rfl ?_
        refine zx_aload_n G d_Reader_readClause_36 rfl ?_
        obtain ⟨r11, μ10, hc, h⟩ := zbnd_of h
        refine zx_callVI (r := r11) (μ2 := μ10) G d_Reader_readClause_37 zm_Reader_48 (fun l => t_Reader_readHide hp0 hc) rfl rfl (Nat.le_of_ble_eq_true rfl) (Nat.le_of_ble_eq_true rfl) (zrecv zo_2 (zids_of 2 (Nat.le_of_ble_eq_true rfl) 0 (Nat.le_of_ble_eq_true rfl))) ?_
        exact zx_zret G d_Reader_readClause_40 rfl h
    · refine zx_aload_n G d_Reader_readClause_22 rfl ?_
      refine zx_bipush (v := 6) G d_Reader_readClause_23 rfl ?_
      obtain ⟨r13, μ12, hc, h⟩ := zbnd_of h
      refine zx_callVI (r := r13) (μ2 := μ12) G d_Reader_readClause_25 zm_Reader_44 (fun l => t_Reader_refuse  hc) rfl rfl (Nat.le_of_ble_eq_true rfl) (Nat.le_of_ble_eq_true rfl) (zrecv zo_2 (zids_of 2 (Nat.le_of_ble_eq_true rfl) 0 (Nat.le_of_ble_eq_true rfl))) ?_
      exact zx_zret G d_Reader_readClause_28 rfl h
  · refine zx_aload_n G d_Reader_readClause_10 rfl ?_
    refine zx_iconst (v := 1) G d_Reader_readClause_11 rfl ?_
    obtain ⟨r15, μ14, hc, h⟩ := zbnd_of h
    refine zx_callVI (r := r15) (μ2 := μ14) G d_Reader_readClause_12 zm_Reader_44 (fun l => t_Reader_refuse  hc) rfl rfl (Nat.le_of_ble_eq_true rfl) (Nat.le_of_ble_eq_true rfl) (zrecv zo_2 (zids_of 2 (Nat.le_of_ble_eq_true rfl) 0 (Nat.le_of_ble_eq_true rfl))) ?_
    exact zx_zret G d_Reader_readClause_15 rfl h
set_option maxHeartbeats 4000000 in
set_option maxRecDepth 20000 in
theorem tf_Reader_read_l21_0 {g : ZG} {E : ZE} {N : Nat} {rr : Int32 × ZMem} {p0 : Nat} (G : zGa g K_Reader_read 8 E) (hl0 : (2, 0) ∈ zids) (hl1 : (3, p0) ∈ zids) : ∀ (n21 : Nat) (z6 : Int32) (μ7 : ZMem), f_Reader_read_l21 N p0 n21 z6 μ7 = some rr → zX g K_Reader_read 8 E (some (.int rr.1), rr.2) μ7 21 [some (.ref (g.2.1 2 0)), some (.ref (g.2.1 3 p0)), some (.int z6)] [] := by
  intro n21
  induction n21 with
  | zero => intro z6 μ7 h; cases h
  | succ n21 ih21 =>
    intro z6 μ7 h
    simp only [f_Reader_read_l21] at h
    refine zx_iload_n G d_Reader_read_21 rfl ?_
    refine zx_bipush (v := 24) G d_Reader_read_22 rfl ?_
    refine zx_icmp_gt (tgt := 57) G d_Reader_read_24 rfl h (fun h => ?_) (fun h => ?_)
    · refine zx_iconst (v := 0) G d_Reader_read_57 rfl ?_
      exact zx_zretK G d_Reader_read_58 rfl (by decide) h
    · refine zx_aload_n G d_Reader_read_27 rfl ?_
      obtain ⟨u9, μ8, hc, h⟩ := zbnd_of h
      refine zx_callVV  (μ2 := μ8) G d_Reader_read_28 zm_Reader_30 (fun l => t_Reader_advance  hc) rfl rfl (Nat.le_of_ble_eq_true rfl) (Nat.le_of_ble_eq_true rfl) (zrecv zo_2 hl0) ?_
      refine zx_aload_n G d_Reader_read_31 rfl ?_
      refine zx_getI G d_Reader_read_32 zf_Reader_33 zc_2_3 hl0 ?_
      refine zx_if_ne (tgt := 40) G d_Reader_read_35 rfl h (fun h => ?_) (fun h => ?_)
      · refine zx_aload_n G d_Reader_read_40 rfl ?_
        refine zx_aload_n G d_Reader_read_41 rfl ?_
        refine zx_iload_n G d_Reader_read_42 rfl ?_
        obtain ⟨r10, μ9, hc, h⟩ := zbnd_of h
        refine zx_callVI (r := r10) (μ2 := μ9) G d_Reader_read_43 zm_Reader_36 (fun l => t_Reader_readClause hl1 hc) rfl rfl (Nat.le_of_ble_eq_true rfl) (Nat.le_of_ble_eq_true rfl) (zrecv zo_2 hl0) ?_
        refine zx_if_ne (tgt := 51) G d_Reader_read_46 rfl h (fun h => ?_) (fun h => ?_)
        · refine zx_iinc (v := 1) (lf := fun y => [_, _, some (.int y)]) G d_Reader_read_51 (Nat.le_of_ble_eq_true rfl) rfl rfl (fun _ => rfl) h (fun x11 h => ?_)
          refine zx_goto (tgt := 21) G d_Reader_read_54 rfl ?_
          exact ih21 x11 μ9 h
        · refine zx_iconst (v := 0) G d_Reader_read_49 rfl ?_
          exact zx_zretK G d_Reader_read_50 rfl (by decide) h
      · refine zx_iconst (v := 1) G d_Reader_read_38 rfl ?_
        exact zx_zretK G d_Reader_read_39 rfl (by decide) h
set_option maxHeartbeats 4000000 in
set_option maxRecDepth 20000 in
theorem tf_Reader_read_l21 {g : ZG} {E : ZE} {N n21 : Nat} {rr : Int32 × ZMem} {p0 : Nat} {z6 : Int32} {μ7 : ZMem} (G : zGa g K_Reader_read 8 E) (hl0 : (2, 0) ∈ zids) (hl1 : (3, p0) ∈ zids) (h : f_Reader_read_l21 N p0 n21 z6 μ7 = some rr) : zX g K_Reader_read 8 E (some (.int rr.1), rr.2) μ7 21 [some (.ref (g.2.1 2 0)), some (.ref (g.2.1 3 p0)), some (.int z6)] [] := tf_Reader_read_l21_0 G hl0 hl1 n21 z6 μ7 h
set_option maxHeartbeats 4000000 in
set_option maxRecDepth 20000 in
theorem t_Reader_read {g : ZG} {l : Launch} {N : Nat} {μ : ZMem} {p0 : Nat} (hp0 : (3, p0) ∈ zids) {rr : Int32 × ZMem} (h : f_Reader_read N μ p0 = some rr) : zT g l 8 K_Reader_read [.ref (g.2.1 2 0), .ref (g.2.1 3 p0)] μ (some (.int rr.1), rr.2) := by
  refine zT_of (by decide +kernel) (Nat.le_of_ble_eq_true rfl) (fun E G => ?_)
  show zX g K_Reader_read 8 E (some (.int rr.1), rr.2) μ 0 [some (.ref (g.2.1 2 0)), some (.ref (g.2.1 3 p0)), none] []
  unfold f_Reader_read at h
  refine zx_aload_n G d_Reader_read_0 rfl ?_
  refine zx_iconst (v := 0) G d_Reader_read_1 rfl ?_
  refine zx_putI G d_Reader_read_2 zq_Reader_9 zp_2_1 (zids_of 2 (Nat.le_of_ble_eq_true rfl) 0 (Nat.le_of_ble_eq_true rfl)) h (fun μ1 h => ?_)
  refine zx_aload_n G d_Reader_read_5 rfl ?_
  refine zx_iconst (v := -1) G d_Reader_read_6 rfl ?_
  refine zx_putI G d_Reader_read_7 zq_Reader_15 zp_2_2 (zids_of 2 (Nat.le_of_ble_eq_true rfl) 0 (Nat.le_of_ble_eq_true rfl)) h (fun μ2 h => ?_)
  refine zx_aload_n G d_Reader_read_10 rfl ?_
  refine zx_iconst (v := 0) G d_Reader_read_11 rfl ?_
  refine zx_putI G d_Reader_read_12 zq_Reader_22 zp_2_5 (zids_of 2 (Nat.le_of_ble_eq_true rfl) 0 (Nat.le_of_ble_eq_true rfl)) h (fun μ3 h => ?_)
  refine zx_aload_n G d_Reader_read_15 rfl ?_
  obtain ⟨u9, μ4, hc, h⟩ := zbnd_of h
  refine zx_callVV  (μ2 := μ4) G d_Reader_read_16 zm_Reader_25 (fun l => t_Table_clear hp0 hc) rfl rfl (Nat.le_of_ble_eq_true rfl) (Nat.le_of_ble_eq_true rfl) (zrecv zo_3 hp0) ?_
  refine zx_iconst (v := 0) G d_Reader_read_19 rfl ?_
  refine zx_istore_n (lf := fun y => [_, _, some (.int y)]) G d_Reader_read_20 (Nat.le_of_ble_eq_true rfl) (fun _ => rfl) h (fun x5 h => ?_)
  refine tf_Reader_read_l21 G (zids_of 2 (Nat.le_of_ble_eq_true rfl) 0 (Nat.le_of_ble_eq_true rfl)) hp0 h
