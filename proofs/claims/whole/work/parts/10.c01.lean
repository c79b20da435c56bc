/-! contracts: each method does what its function says (by program: wip/whole/gen.py) -/
set_option maxHeartbeats 4000000 in
set_option maxRecDepth 20000 in
theorem t_A_table {g : ZG} {l : Launch} {N : Nat} {μ : ZMem} {rr : Int32 × ZMem} (h : f_A_table N μ = some rr) : zT g l 9 K_A_table [.ref (g.2.1 0 0)] μ (some (.int rr.1), rr.2) := by
  refine zT_of (by decide +kernel) (Nat.le_of_ble_eq_true rfl) (fun E G => ?_)
  show zX g K_A_table 9 E (some (.int rr.1), rr.2) μ 0 [some (.ref (g.2.1 0 0)), none, none] []
  unfold f_A_table at h
  refine zx_aload_n G d_A_table_0 rfl ?_
  refine zx_getR G d_A_table_1 zf_A_35 zc_0_3 (zids_of 0 (Nat.le_of_ble_eq_true rfl) 0 (Nat.le_of_ble_eq_true rfl)) ?_
  refine zx_getI G d_A_table_4 zf_A_103 zc_5_0 (zi_0_3 (zids_of 0 (Nat.le_of_ble_eq_true rfl) 0 (Nat.le_of_ble_eq_true rfl))) ?_
  refine zx_istore_n (lf := fun y => [_, some (.int y), none]) G d_A_table_7 (Nat.le_of_ble_eq_true rfl) (fun _ => rfl) h (fun x1 h => ?_)
  refine zx_iload_n G d_A_table_8 rfl ?_
  refine zx_iconst (v := 4) G d_A_table_9 rfl ?_
  refine zx_icmp_lt (tgt := 15) G d_A_table_10 rfl h (fun h => ?_) (fun h => ?_)
  · refine zx_aload_n G d_A_table_15 rfl ?_
    refine zx_getR G d_A_table_16 zf_A_21 zc_0_1 (zids_of 0 (Nat.le_of_ble_eq_true rfl) 0 (Nat.le_of_ble_eq_true rfl)) ?_
    refine zx_aload_n G d_A_table_19 rfl ?_
    refine zx_getR G d_A_table_20 zf_A_27 zc_0_2 (zids_of 0 (Nat.le_of_ble_eq_true rfl) 0 (Nat.le_of_ble_eq_true rfl)) ?_
    refine zx_iload_n G d_A_table_23 rfl ?_
    refine zx_aald21 G d_A_table_24 h (fun hz2 h => ?_)
    obtain ⟨r4, μ3, hc, h⟩ := zbnd_of h
    refine zx_callVI (r := r4) (μ2 := μ3) G d_A_table_25 zm_A_105 (fun l => t_Reader_read (zidt (zin_lt hz2)) hc) rfl rfl (Nat.le_of_ble_eq_true rfl) (Nat.le_of_ble_eq_true rfl) (zrecv zo_2 (zi_0_1 (zids_of 0 (Nat.le_of_ble_eq_true rfl) 0 (Nat.le_of_ble_eq_true rfl)))) ?_
    refine zx_istore_n (lf := fun y => [_, _, some (.int y)]) G d_A_table_28 (Nat.le_of_ble_eq_true rfl) (fun _ => rfl) h (fun x5 h => ?_)
    refine zx_aload_n G d_A_table_29 rfl ?_
    refine zx_getR G d_A_table_30 zf_A_10 zc_0_0 (zids_of 0 (Nat.le_of_ble_eq_true rfl) 0 (Nat.le_of_ble_eq_true rfl)) ?_
    refine zx_iconst (v := 0) G d_A_table_33 rfl ?_
    refine zx_putI G d_A_table_34 zq_A_99 zp_1_1 (zi_0_0 (zids_of 0 (Nat.le_of_ble_eq_true rfl) 0 (Nat.le_of_ble_eq_true rfl))) h (fun μ6 h => ?_)
    refine zx_iload_n G d_A_table_37 rfl ?_
    refine zx_if_ne (tgt := 43) G d_A_table_38 rfl h (fun h => ?_) (fun h => ?_)
    · refine zx_aload_n G d_A_table_43 rfl ?_
      refine zx_getR G d_A_table_44 zf_A_35 zc_0_3 (zids_of 0 (Nat.le_of_ble_eq_true rfl) 0 (Nat.le_of_ble_eq_true rfl)) ?_
      refine zx_iload_n G d_A_table_47 rfl ?_
      refine zx_iconst (v := 1) G d_A_table_48 rfl ?_
      refine zx_iadd G d_A_table_49 ?_
      refine zx_putI G d_A_table_50 zq_A_103 zp_5_0 (zi_0_3 (zids_of 0 (Nat.le_of_ble_eq_true rfl) 0 (Nat.le_of_ble_eq_true rfl))) h (fun μ7 h => ?_)
      refine zx_iload_n G d_A_table_53 rfl ?_
      exact zx_iret G d_A_table_54 rfl h
    · refine zx_iconst (v := -1) G d_A_table_41 rfl ?_
      exact zx_iret G d_A_table_42 rfl h
  · refine zx_iconst (v := -1) G d_A_table_13 rfl ?_
    exact zx_iret G d_A_table_14 rfl h
set_option maxHeartbeats 4000000 in
set_option maxRecDepth 20000 in
theorem t_A_fault {g : ZG} {l : Launch} {N : Nat} {μ : ZMem} {p0 : Int32} {rr : Int32 × ZMem} (h : f_A_fault N μ p0 = some rr) : zT g l 0 K_A_fault [.ref (g.2.1 0 0), .int p0] μ (some (.int rr.1), rr.2) := by
  refine zT_of (by decide +kernel) (Nat.le_of_ble_eq_true rfl) (fun E G => ?_)
  show zX g K_A_fault 0 E (some (.int rr.1), rr.2) μ 0 [some (.ref (g.2.1 0 0)), some (.int p0)] []
  unfold f_A_fault at h
  refine zx_iload_n G d_A_fault_0 rfl ?_
  refine zx_if_ne (tgt := 12) G d_A_fault_1 rfl h (fun h => ?_) (fun h => ?_)
  · refine zx_iload_n G d_A_fault_12 rfl ?_
    refine zx_iconst (v := 1) G d_A_fault_13 rfl ?_
    refine zx_icmp_ne (tgt := 27) G d_A_fault_14 rfl h (fun h => ?_) (fun h => ?_)
    · refine zx_iconst (v := -1) G d_A_fault_27 rfl ?_
      exact zx_iret G d_A_fault_28 rfl h
    · refine zx_aload_n G d_A_fault_17 rfl ?_
      refine zx_getR G d_A_fault_18 zf_A_21 zc_0_1 (zids_of 0 (Nat.le_of_ble_eq_true rfl) 0 (Nat.le_of_ble_eq_true rfl)) ?_
      refine zx_getI G d_A_fault_21 zf_A_112 zc_2_2 (zi_0_1 (zids_of 0 (Nat.le_of_ble_eq_true rfl) 0 (Nat.le_of_ble_eq_true rfl))) ?_
      refine zx_goto (tgt := 28) G d_A_fault_24 rfl ?_
      exact zx_iret G d_A_fault_28 rfl h
  · refine zx_aload_n G d_A_fault_4 rfl ?_
    refine zx_getR G d_A_fault_5 zf_A_21 zc_0_1 (zids_of 0 (Nat.le_of_ble_eq_true rfl) 0 (Nat.le_of_ble_eq_true rfl)) ?_
    refine zx_getI G d_A_fault_8 zf_A_109 zc_2_1 (zi_0_1 (zids_of 0 (Nat.le_of_ble_eq_true rfl) 0 (Nat.le_of_ble_eq_true rfl))) ?_
    exact zx_iret G d_A_fault_11 rfl h
set_option maxHeartbeats 4000000 in
set_option maxRecDepth 20000 in
theorem t_A_find {g : ZG} {l : Launch} {N : Nat} {μ : ZMem} {p0 : Int32} {rr : Option Nat × ZMem} (h : f_A_find N μ p0 = some rr) : zT g l 0 K_A_find [.ref (g.2.1 0 0), .int p0] μ (some (zrv g 3 rr.1), rr.2) := by
  refine zT_of (by decide +kernel) (Nat.le_of_ble_eq_true rfl) (fun E G => ?_)
  show zX g K_A_find 0 E (some (zrv g 3 rr.1), rr.2) μ 0 [some (.ref (g.2.1 0 0)), some (.int p0)] []
  unfold f_A_find at h
  refine zx_iload_n G d_A_find_0 rfl ?_
  refine zx_if_lt (tgt := 29) G d_A_find_1 rfl h (fun h => ?_) (fun h => ?_)
  · refine zx_null G d_A_find_29 ?_
    exact zx_aret (k := 3) (v := none) G d_A_find_30 rfl h
  · refine zx_iload_n G d_A_find_4 rfl ?_
    refine zx_aload_n G d_A_find_5 rfl ?_
    refine zx_getR G d_A_find_6 zf_A_35 zc_0_3 (zids_of 0 (Nat.le_of_ble_eq_true rfl) 0 (Nat.le_of_ble_eq_true rfl)) ?_
    refine zx_getI G d_A_find_9 zf_A_103 zc_5_0 (zi_0_3 (zids_of 0 (Nat.le_of_ble_eq_true rfl) 0 (Nat.le_of_ble_eq_true rfl))) ?_
    refine zx_icmp_ge (tgt := 29) G d_A_find_12 rfl h (fun h => ?_) (fun h => ?_)
    · refine zx_null G d_A_find_29 ?_
      exact zx_aret (k := 3) (v := none) G d_A_find_30 rfl h
    · refine zx_iload_n G d_A_find_15 rfl ?_
      refine zx_iconst (v := 4) G d_A_find_16 rfl ?_
      refine zx_icmp_ge (tgt := 29) G d_A_find_17 rfl h (fun h => ?_) (fun h => ?_)
      · refine zx_null G d_A_find_29 ?_
        exact zx_aret (k := 3) (v := none) G d_A_find_30 rfl h
      · refine zx_aload_n G d_A_find_20 rfl ?_
        refine zx_getR G d_A_find_21 zf_A_27 zc_0_2 (zids_of 0 (Nat.le_of_ble_eq_true rfl) 0 (Nat.le_of_ble_eq_true rfl)) ?_
        refine zx_iload_n G d_A_find_24 rfl ?_
        refine zx_aald21 G d_A_find_25 h (fun hz1 h => ?_)
        refine zx_goto (tgt := 30) G d_A_find_26 rfl ?_
        exact zx_aret (k := 3) (v := some p0.toNatClampNeg) G d_A_find_30 rfl h
set_option maxHeartbeats 4000000 in
set_option maxRecDepth 20000 in
theorem t_Orders_has {g : ZG} {l : Launch} {N : Nat} {μ : ZMem} {o : Nat} {p0 : Int32} (ho : (4, o) ∈ zids) {rr : Int32 × ZMem} (h : f_Orders_has N μ o p0 = some rr) : zT g l 0 K_Orders_has [.ref (g.2.1 4 o), .int p0] μ (some (.int rr.1), rr.2) := by
  refine zT_of (by decide +kernel) (Nat.le_of_ble_eq_true rfl) (fun E G => ?_)
  show zX g K_Orders_has 0 E (some (.int rr.1), rr.2) μ 0 [some (.ref (g.2.1 4 o)), some (.int p0)] []
  unfold f_Orders_has at h
  refine zx_iload_n G d_Orders_has_0 rfl ?_
  refine zx_if_lt (tgt := 16) G d_Orders_has_1 rfl h (fun h => ?_) (fun h => ?_)
  · refine zx_iconst (v := 0) G d_Orders_has_16 rfl ?_
    exact zx_zretK G d_Orders_has_17 rfl (by decide) h
  · refine zx_iload_n G d_Orders_has_4 rfl ?_
    refine zx_aload_n G d_Orders_has_5 rfl ?_
    refine zx_getI G d_Orders_has_6 zf_Orders_18 zc_4_2 ho ?_
    refine zx_icmp_ge (tgt := 16) G d_Orders_has_9 rfl h (fun h => ?_) (fun h => ?_)
    · refine zx_iconst (v := 0) G d_Orders_has_16 rfl ?_
      exact zx_zretK G d_Orders_has_17 rfl (by decide) h
    · refine zx_iconst (v := 1) G d_Orders_has_12 rfl ?_
      refine zx_goto (tgt := 17) G d_Orders_has_13 rfl ?_
      exact zx_zretK G d_Orders_has_17 rfl (by decide) h
set_option maxHeartbeats 4000000 in
set_option maxRecDepth 20000 in
theorem t_A_order {g : ZG} {l : Launch} {N : Nat} {μ : ZMem} {p0 : Int32} {p1 : Int32} {p2 : Int32} {rr : Int32 × ZMem} (h : f_A_order N μ p0 p1 p2 = some rr) : zT g l 1 K_A_order [.ref (g.2.1 0 0), .int p0, .int p1, .int p2] μ (some (.int rr.1), rr.2) := by
  refine zT_of (by decide +kernel) (Nat.le_of_ble_eq_true rfl) (fun E G => ?_)
  show zX g K_A_order 1 E (some (.int rr.1), rr.2) μ 0 [some (.ref (g.2.1 0 0)), some (.int p0), some (.int p1), some (.int p2), none] []
  unfold f_A_order at h
  refine zx_aload_n G d_A_order_0 rfl ?_
  refine zx_iload_n G d_A_order_1 rfl ?_
  rcases zbrf_of h with ⟨μ1, hc, h⟩ | ⟨t2, μ1, hc, h⟩
  · refine zx_callVN (k := 3) (μ2 := μ1) G d_A_order_2 zm_A_115 (fun l => t_A_find  hc) rfl rfl (Nat.le_of_ble_eq_true rfl) (Nat.le_of_ble_eq_true rfl) (zrecv zo_0 (zids_of 0 (Nat.le_of_ble_eq_true rfl) 0 (Nat.le_of_ble_eq_true rfl))) ?_
    refine zx_astoreN (lv2 := [_, _, _, _, _]) G d_A_order_5 (Nat.le_of_ble_eq_true rfl) rfl ?_
    refine zx_aloadN G d_A_order_7 rfl ?_
    refine zx_ifnonnullN G d_A_order_9 ?_
    refine zx_iconst (v := -1) G d_A_order_12 rfl ?_
    exact zx_iret G d_A_order_13 rfl h
  · obtain ⟨hz3, h⟩ := zchk_of h
    refine zx_callVP (k := 3) (r := t2) (μ2 := μ1) G d_A_order_2 zm_A_115 (fun l => t_A_find  hc) rfl rfl (Nat.le_of_ble_eq_true rfl) (Nat.le_of_ble_eq_true rfl) (zrecv zo_0 (zids_of 0 (Nat.le_of_ble_eq_true rfl) 0 (Nat.le_of_ble_eq_true rfl))) ?_
    refine zx_astore (lv2 := [_, _, _, _, _]) G d_A_order_5 (Nat.le_of_ble_eq_true rfl) rfl ?_
    refine zx_aload G d_A_order_7 rfl ?_
    refine zx_ifnonnull (tgt := 14) G d_A_order_9 rfl ?_
    refine zx_iload_n G d_A_order_14 rfl ?_
    refine zx_iconst (v := -1) G d_A_order_15 rfl ?_
    refine zx_icmp_ne (tgt := 28) G d_A_order_16 rfl h (fun h => ?_) (fun h => ?_)
    · refine zx_aload G d_A_order_28 rfl ?_
      refine zx_getR G d_A_order_30 zf_A_119 zc_3_0 (zidt hz3) ?_
      refine zx_iload_n G d_A_order_33 rfl ?_
      obtain ⟨r5, μ4, hc, h⟩ := zbnd_of h
      refine zx_callVI (r := r5) (μ2 := μ4) G d_A_order_34 zm_A_128 (fun l => t_Orders_has (zi_3_0 (zidt hz3)) hc) rfl rfl (Nat.le_of_ble_eq_true rfl) (Nat.le_of_ble_eq_true rfl) (zrecv zo_4 (zi_3_0 (zidt hz3))) ?_
      refine zx_if_ne (tgt := 42) G d_A_order_37 rfl h (fun h => ?_) (fun h => ?_)
      · refine zx_iload_n G d_A_order_42 rfl ?_
        refine zx_if_eq (tgt := 59) G d_A_order_43 rfl h (fun h => ?_) (fun h => ?_)
        · refine zx_aload G d_A_order_59 rfl ?_
          refine zx_getR G d_A_order_61 zf_A_119 zc_3_0 (zidt hz3) ?_
          refine zx_getR G d_A_order_64 zf_A_134 zc_4_0 (zi_3_0 (zidt hz3)) ?_
          refine zx_iload_n G d_A_order_67 rfl ?_
          refine zx_iald G d_A_order_68 za_22 (zi_4_0 (zi_3_0 (zidt hz3))) h (fun h => ?_)
          exact zx_iret G d_A_order_69 rfl h
        · refine zx_aload G d_A_order_46 rfl ?_
          refine zx_getR G d_A_order_48 zf_A_119 zc_3_0 (zidt hz3) ?_
          refine zx_getR G d_A_order_51 zf_A_131 zc_4_1 (zi_3_0 (zidt hz3)) ?_
          refine zx_iload_n G d_A_order_54 rfl ?_
          refine zx_iald G d_A_order_55 za_23 (zi_4_1 (zi_3_0 (zidt hz3))) h (fun h => ?_)
          refine zx_goto (tgt := 69) G d_A_order_56 rfl ?_
          exact zx_iret G d_A_order_69 rfl h
      · refine zx_iconst (v := -1) G d_A_order_40 rfl ?_
        exact zx_iret G d_A_order_41 rfl h
    · refine zx_aload G d_A_order_19 rfl ?_
      refine zx_getR G d_A_order_21 zf_A_119 zc_3_0 (zidt hz3) ?_
      refine zx_getI G d_A_order_24 zf_A_123 zc_4_2 (zi_3_0 (zidt hz3)) ?_
      exact zx_iret G d_A_order_27 rfl h
set_option maxHeartbeats 4000000 in
set_option maxRecDepth 20000 in
theorem t_A_span {g : ZG} {l : Launch} {N : Nat} {μ : ZMem} {p0 : Int32} {p1 : Int32} {p2 : Int32} {rr : Int32 × ZMem} (h : f_A_span N μ p0 p1 p2 = some rr) : zT g l 1 K_A_span [.ref (g.2.1 0 0), .int p0, .int p1, .int p2] μ (some (.int rr.1), rr.2) := by
  refine zT_of (by decide +kernel) (Nat.le_of_ble_eq_true rfl) (fun E G => ?_)
  show zX g K_A_span 1 E (some (.int rr.1), rr.2) μ 0 [some (.ref (g.2.1 0 0)), some (.int p0), some (.int p1), some (.int p2), none] []
  unfold f_A_span at h
  refine zx_aload_n G d_A_span_0 rfl ?_
  refine zx_iload_n G d_A_span_1 rfl ?_
  rcases zbrf_of h with ⟨μ1, hc, h⟩ | ⟨t2, μ1, hc, h⟩
  · refine zx_callVN (k := 3) (μ2 := μ1) G d_A_span_2 zm_A_115 (fun l => t_A_find  hc) rfl rfl (Nat.le_of_ble_eq_true rfl) (Nat.le_of_ble_eq_true rfl) (zrecv zo_0 (zids_of 0 (Nat.le_of_ble_eq_true rfl) 0 (Nat.le_of_ble_eq_true rfl))) ?_
    refine zx_astoreN (lv2 := [_, _, _, _, _]) G d_A_span_5 (Nat.le_of_ble_eq_true rfl) rfl ?_
    refine zx_aloadN G d_A_span_7 rfl ?_
    refine zx_ifnullN (tgt := 19) G d_A_span_9 rfl ?_
    refine zx_iconst (v := -1) G d_A_span_19 rfl ?_
    exact zx_iret G d_A_span_20 rfl h
  · obtain ⟨hz3, h⟩ := zchk_of h
    refine zx_callVP (k := 3) (r := t2) (μ2 := μ1) G d_A_span_2 zm_A_115 (fun l => t_A_find  hc) rfl rfl (Nat.le_of_ble_eq_true rfl) (Nat.le_of_ble_eq_true rfl) (zrecv zo_0 (zids_of 0 (Nat.le_of_ble_eq_true rfl) 0 (Nat.le_of_ble_eq_true rfl))) ?_
    refine zx_astore (lv2 := [_, _, _, _, _]) G d_A_span_5 (Nat.le_of_ble_eq_true rfl) rfl ?_
    refine zx_aload G d_A_span_7 rfl ?_
    refine zx_ifnull G d_A_span_9 ?_
    refine zx_iload_n G d_A_span_12 rfl ?_
    obtain ⟨r5, μ4, hc, h⟩ := zbnd_of h
    refine zx_callSI (r := r5) (μ2 := μ4) G d_A_span_13 zm_A_137 (fun l => t_A_isLetter  hc) rfl rfl (Nat.le_of_ble_eq_true rfl) (Nat.le_of_ble_eq_true rfl) ?_
    refine zx_if_ne (tgt := 21) G d_A_span_16 rfl h (fun h => ?_) (fun h => ?_)
    · refine zx_iload_n G d_A_span_21 rfl ?_
      refine zx_if_eq (tgt := 35) G d_A_span_22 rfl h (fun h => ?_) (fun h => ?_)
      · refine zx_aload G d_A_span_35 rfl ?_
        refine zx_getR G d_A_span_37 zf_A_143 zc_3_1 (zidt hz3) ?_
        refine zx_iload_n G d_A_span_40 rfl ?_
        refine zx_iald G d_A_span_41 za_24 (zi_3_1 (zidt hz3)) h (fun h => ?_)
        exact zx_iret G d_A_span_42 rfl h
      · refine zx_aload G d_A_span_25 rfl ?_
        refine zx_getR G d_A_span_27 zf_A_140 zc_3_2 (zidt hz3) ?_
        refine zx_iload_n G d_A_span_30 rfl ?_
        refine zx_iald G d_A_span_31 za_25 (zi_3_2 (zidt hz3)) h (fun h => ?_)
        refine zx_goto (tgt := 42) G d_A_span_32 rfl ?_
        exact zx_iret G d_A_span_42 rfl h
    · refine zx_iconst (v := -1) G d_A_span_19 rfl ?_
      exact zx_iret G d_A_span_20 rfl h
set_option maxHeartbeats 4000000 in
set_option maxRecDepth 20000 in
theorem t_Value_setWhole {g : ZG} {l : Launch} {N : Nat} {μ : ZMem} {o : Nat} {p0 : Int64} (ho : (7, o) ∈ zids) {rr : Unit × ZMem} (h : f_Value_setWhole N μ o p0 = some rr) : zT g l 0 K_Value_setWhole [.ref (g.2.1 7 o), .long p0] μ (none, rr.2) := by
  refine zT_of (by decide +kernel) (Nat.le_of_ble_eq_true rfl) (fun E G => ?_)
  show zX g K_Value_setWhole 0 E (none, rr.2) μ 0 [some (.ref (g.2.1 7 o)), some (.long p0), none] []
  unfold f_Value_setWhole at h
  refine zx_aload_n G d_Value_setWhole_0 rfl ?_
  refine zx_lload_n G d_Value_setWhole_1 rfl ?_
  refine zx_putJ G d_Value_setWhole_2 zq_Value_15 zp_7_0 ho h (fun μ1 h => ?_)
  refine zx_aload_n G d_Value_setWhole_5 rfl ?_
  refine zx_lconst (v := 1) G d_Value_setWhole_6 rfl ?_
  refine zx_putJ G d_Value_setWhole_7 zq_Value_9 zp_7_1 ho h (fun μ2 h => ?_)
  exact zx_vret G d_Value_setWhole_10 rfl h
set_option maxHeartbeats 4000000 in
set_option maxRecDepth 20000 in
theorem t_Table_begin {g : ZG} {l : Launch} {N : Nat} {μ : ZMem} {o : Nat} {p0 : Nat} {p1 : Nat} (ho : (3, o) ∈ zids) (hp0 : (7, p0) ∈ zids) (hp1 : (26, p1) ∈ zids) {rr : Unit × ZMem} (h : f_Table_begin N μ o p0 p1 = some rr) : zT g l 2 K_Table_begin [.ref (g.2.1 3 o), .ref (g.2.1 7 p0), .ref (g.2.1 26 p1)] μ (none, rr.2) := by
  refine zT_of (by decide +kernel) (Nat.le_of_ble_eq_true rfl) (fun E G => ?_)
  show zX g K_Table_begin 2 E (none, rr.2) μ 0 [some (.ref (g.2.1 3 o)), some (.ref (g.2.1 7 p0)), some (.ref (g.2.1 26 p1))] []
  unfold f_Table_begin at h
  refine zx_aload_n G d_Table_begin_0 rfl ?_
  refine zx_aload_n G d_Table_begin_1 rfl ?_
  refine zx_iconst (v := 0) G d_Table_begin_2 rfl ?_
  obtain ⟨r2, μ1, hc, h⟩ := zbnd_of h
  refine zx_callVI (r := r2) (μ2 := μ1) G d_Table_begin_3 zm_Table_41 (fun l => t_Table_isHidden ho hc) rfl rfl (Nat.le_of_ble_eq_true rfl) (Nat.le_of_ble_eq_true rfl) (zrecv zo_3 ho) ?_
  refine zx_join (P := fun k => ∀ (y3 : Int64) (μ4 : ZMem), k y3 μ4 = some rr → zX g K_Table_begin 2 E (none, rr.2) μ4 17 [none, none, none] [.long y3, .ref (g.2.1 7 p0)]) h (fun y3 μ4 h => ?_) (fun k5 hk5 h => ?_)
  · try dsimp only at h
    obtain ⟨u9, μ6, hc, h⟩ := zbnd_of h
    refine zx_callVV  (μ2 := μ6) G d_Table_begin_17 zm_Table_44 (fun l => t_Value_setWhole hp0 hc) rfl rfl (Nat.le_of_ble_eq_true rfl) (Nat.le_of_ble_eq_true rfl) (zrecv zo_7 hp0) ?_
    exact zx_vret G d_Table_begin_20 rfl h
  try dsimp only at h
  refine zx_if_eq (tgt := 16) G d_Table_begin_6 rfl h (fun h => ?_) (fun h => ?_)
  · refine zx_lconst (v := 0) G d_Table_begin_16 rfl ?_
    refine zx_weak [false, false, false] (lv2 := [none, none, none]) rfl ?_
    exact hk5 (0 : Int64) μ1 h
  · refine zx_aload_n G d_Table_begin_9 rfl ?_
    refine zx_iconst (v := 0) G d_Table_begin_10 rfl ?_
    refine zx_iald G d_Table_begin_11 za_26 hp1 h (fun h => ?_)
    refine zx_i2l G d_Table_begin_12 ?_
    refine zx_goto (tgt := 17) G d_Table_begin_13 rfl ?_
    refine zx_weak [false, false, false] (lv2 := [none, none, none]) rfl ?_
    exact hk5 ((μ1.1 26 p1 (0 : Int32).toNatClampNeg).toInt64) μ1 h
set_option maxHeartbeats 4000000 in
set_option maxRecDepth 20000 in
theorem t_Orders_amount {g : ZG} {l : Launch} {N : Nat} {μ : ZMem} {o : Nat} {p0 : Int32} {p1 : Nat} (ho : (4, o) ∈ zids) (hp1 : (26, p1) ∈ zids) {rr : Int32 × ZMem} (h : f_Orders_amount N μ o p0 p1 = some rr) : zT g l 1 K_Orders_amount [.ref (g.2.1 4 o), .int p0, .ref (g.2.1 26 p1)] μ (some (.int rr.1), rr.2) := by
  refine zT_of (by decide +kernel) (Nat.le_of_ble_eq_true rfl) (fun E G => ?_)
  show zX g K_Orders_amount 1 E (some (.int rr.1), rr.2) μ 0 [some (.ref (g.2.1 4 o)), some (.int p0), some (.ref (g.2.1 26 p1)), none] []
  unfold f_Orders_amount at h
  refine zx_aload_n G d_Orders_amount_0 rfl ?_
  refine zx_getR G d_Orders_amount_1 zf_Orders_15 zc_4_1 ho ?_
  refine zx_iload_n G d_Orders_amount_4 rfl ?_
  refine zx_iald G d_Orders_amount_5 za_23 (zi_4_1 ho) h (fun h => ?_)
  refine zx_sipush (v := 10000) G d_Orders_amount_6 rfl ?_
  refine zx_isub G d_Orders_amount_9 ?_
  refine zx_istore_n (lf := fun y => [_, _, _, some (.int y)]) G d_Orders_amount_10 (Nat.le_of_ble_eq_true rfl) (fun _ => rfl) h (fun x1 h => ?_)
  refine zx_iload_n G d_Orders_amount_11 rfl ?_
  obtain ⟨r3, μ2, hc, h⟩ := zbnd_of h
  refine zx_callSI (r := r3) (μ2 := μ2) G d_Orders_amount_12 zm_Orders_22 (fun l => t_A_isLetter  hc) rfl rfl (Nat.le_of_ble_eq_true rfl) (Nat.le_of_ble_eq_true rfl) ?_
  refine zx_if_eq (tgt := 24) G d_Orders_amount_15 rfl h (fun h => ?_) (fun h => ?_)
  · refine zx_aload_n G d_Orders_amount_24 rfl ?_
    refine zx_getR G d_Orders_amount_25 zf_Orders_15 zc_4_1 ho ?_
    refine zx_iload_n G d_Orders_amount_28 rfl ?_
    refine zx_iald G d_Orders_amount_29 za_23 (zi_4_1 ho) h (fun h => ?_)
    exact zx_iret G d_Orders_amount_30 rfl h
  · refine zx_aload_n G d_Orders_amount_18 rfl ?_
    refine zx_iload_n G d_Orders_amount_19 rfl ?_
    refine zx_iald G d_Orders_amount_20 za_26 hp1 h (fun h => ?_)
    refine zx_goto (tgt := 30) G d_Orders_amount_21 rfl ?_
    exact zx_iret G d_Orders_amount_30 rfl h
set_option maxHeartbeats 4000000 in
set_option maxRecDepth 20000 in
theorem tf_A_commonMeasure_l15_0 {g : ZG} {E : ZE} {N : Nat} {rr : Int64 × ZMem} (G : zGa g K_A_commonMeasure 1 E) : ∀ (n15 : Nat) (z4 : Int64) (z5 : Int64) (z6 : Int32) (μ7 : ZMem), f_A_commonMeasure_l15 N n15 z4 z5 z6 μ7 = some rr → zX g K_A_commonMeasure 1 E (some (.long rr.1), rr.2) μ7 15 [none, none, none, none, some (.long z4), none, some (.long z5), none, some (.int z6), none, none] [] := by
  intro n15
  induction n15 with
  | zero => intro z4 z5 z6 μ7 h; cases h
  | succ n15 ih15 =>
    intro z4 z5 z6 μ7 h
    simp only [f_A_commonMeasure_l15] at h
    refine zx_iload G d_A_commonMeasure_15 rfl ?_
    refine zx_bipush (v := 100) G d_A_commonMeasure_17 rfl ?_
    refine zx_icmp_ge (tgt := 50) G d_A_commonMeasure_19 rfl h (fun h => ?_) (fun h => ?_)
    · refine zx_lload G d_A_commonMeasure_50 rfl ?_
      exact zx_lret G d_A_commonMeasure_52 rfl h
    · refine zx_lload G d_A_commonMeasure_22 rfl ?_
      refine zx_lconst (v := 0) G d_A_commonMeasure_24 rfl ?_
      refine zx_lcmp G d_A_commonMeasure_25 ?_
      refine zx_if_eq (tgt := 50) G d_A_commonMeasure_26 rfl h (fun h => ?_) (fun h => ?_)
      · refine zx_lload G d_A_commonMeasure_50 rfl ?_
        exact zx_lret G d_A_commonMeasure_52 rfl h
      · refine zx_lload G d_A_commonMeasure_29 rfl ?_
        refine zx_lload G d_A_commonMeasure_31 rfl ?_
        refine zx_lrem G d_A_commonMeasure_33 h (fun h => ?_)
        refine zx_lstore (lf := fun y => [none, none, none, none, _, none, _, none, _, some (.long y), none]) G d_A_commonMeasure_34 (Nat.le_of_ble_eq_true rfl) (fun _ => rfl) h (fun x8 h => ?_)
        refine zx_lload G d_A_commonMeasure_36 rfl ?_
        refine zx_lstore (lf := fun y => [none, none, none, none, some (.long y), none, _, none, _, _, none]) G d_A_commonMeasure_38 (Nat.le_of_ble_eq_true rfl) (fun _ => rfl) h (fun x9 h => ?_)
        refine zx_lload G d_A_commonMeasure_40 rfl ?_
        refine zx_lstore (lf := fun y => [none, none, none, none, _, none, some (.long y), none, _, _, none]) G d_A_commonMeasure_42 (Nat.le_of_ble_eq_true rfl) (fun _ => rfl) h (fun x10 h => ?_)
        refine zx_iinc (v := 1) (lf := fun y => [none, none, none, none, _, none, _, none, some (.int y), _, none]) G d_A_commonMeasure_44 (Nat.le_of_ble_eq_true rfl) rfl rfl (fun _ => rfl) h (fun x11 h => ?_)
        refine zx_goto (tgt := 15) G d_A_commonMeasure_47 rfl ?_
        refine zx_weak [false, false, false, false, true, false, true, false, true, false, false] (lv2 := [none, none, none, none, _, none, _, none, _, none, none]) rfl ?_
        exact ih15 x9 x10 x11 μ7 h
set_option maxHeartbeats 4000000 in
set_option maxRecDepth 20000 in
theorem tf_A_commonMeasure_l15 {g : ZG} {E : ZE} {N n15 : Nat} {rr : Int64 × ZMem} {z4 : Int64} {z5 : Int64} {z6 : Int32} {μ7 : ZMem} (G : zGa g K_A_commonMeasure 1 E) (h : f_A_commonMeasure_l15 N n15 z4 z5 z6 μ7 = some rr) : zX g K_A_commonMeasure 1 E (some (.long rr.1), rr.2) μ7 15 [none, none, none, none, some (.long z4), none, some (.long z5), none, some (.int z6), none, none] [] := tf_A_commonMeasure_l15_0 G n15 z4 z5 z6 μ7 h
set_option maxHeartbeats 4000000 in
set_option maxRecDepth 20000 in
theorem t_A_commonMeasure {g : ZG} {l : Launch} {N : Nat} {μ : ZMem} {p0 : Int64} {p1 : Int64} {rr : Int64 × ZMem} (h : f_A_commonMeasure N μ p0 p1 = some rr) : zT g l 1 K_A_commonMeasure [.long p0, .long p1] μ (some (.long rr.1), rr.2) := by
  refine zT_of (by decide +kernel) (Nat.le_of_ble_eq_true rfl) (fun E G => ?_)
  show zX g K_A_commonMeasure 1 E (some (.long rr.1), rr.2) μ 0 [some (.long p0), none, some (.long p1), none, none, none, none, none, none, none, none] []
  unfold f_A_commonMeasure at h
  refine zx_lload_n G d_A_commonMeasure_0 rfl ?_
  refine zx_mabs G d_A_commonMeasure_1 zm_A_334 zMs_abs zMi zMy_abs (Nat.le_of_ble_eq_true rfl) (Nat.le_of_ble_eq_true rfl) ?_
  refine zx_lstore (lf := fun y => [_, none, _, none, some (.long y), none, none, none, none, none, none]) G d_A_commonMeasure_4 (Nat.le_of_ble_eq_true rfl) (fun _ => rfl) h (fun x1 h => ?_)
  refine zx_lload_n G d_A_commonMeasure_6 rfl ?_
  refine zx_mabs G d_A_commonMeasure_7 zm_A_334 zMs_abs zMi zMy_abs (Nat.le_of_ble_eq_true rfl) (Nat.le_of_ble_eq_true rfl) ?_
  refine zx_lstore (lf := fun y => [_, none, _, none, _, none, some (.long y), none, none, none, none]) G d_A_commonMeasure_10 (Nat.le_of_ble_eq_true rfl) (fun _ => rfl) h (fun x2 h => ?_)
  refine zx_iconst (v := 0) G d_A_commonMeasure_12 rfl ?_
  refine zx_istore (lf := fun y => [_, none, _, none, _, none, _, none, some (.int y), none, none]) G d_A_commonMeasure_13 (Nat.le_of_ble_eq_true rfl) (fun _ => rfl) h (fun x3 h => ?_)
  refine zx_weak [false, false, false, false, true, false, true, false, true, false, false] (lv2 := [none, none, none, none, _, none, _, none, _, none, none]) rfl ?_
  refine tf_A_commonMeasure_l15 G h
set_option maxHeartbeats 4000000 in
set_option maxRecDepth 20000 in
theorem t_Value_put {g : ZG} {l : Launch} {N : Nat} {μ : ZMem} {o : Nat} {p0 : Int64} {p1 : Int64} (ho : (7, o) ∈ zids) {rr : Int32 × ZMem} (h : f_Value_put N μ o p0 p1 = some rr) : zT g l 2 K_Value_put [.ref (g.2.1 7 o), .long p0, .long p1] μ (some (.int rr.1), rr.2) := by
  refine zT_of (by decide +kernel) (Nat.le_of_ble_eq_true rfl) (fun E G => ?_)
  show zX g K_Value_put 2 E (some (.int rr.1), rr.2) μ 0 [some (.ref (g.2.1 7 o)), some (.long p0), none, some (.long p1), none, none, none, none, none, none, none] []
  unfold f_Value_put at h
  refine zx_lload_n G d_Value_put_0 rfl ?_
  refine zx_lstore (lf := fun y => [_, _, none, _, none, some (.long y), none, none, none, none, none]) G d_Value_put_1 (Nat.le_of_ble_eq_true rfl) (fun _ => rfl) h (fun x1 h => ?_)
  refine zx_lload_n G d_Value_put_3 rfl ?_
  refine zx_lstore (lf := fun y => [_, _, none, _, none, _, none, some (.long y), none, none, none]) G d_Value_put_4 (Nat.le_of_ble_eq_true rfl) (fun _ => rfl) h (fun x2 h => ?_)
  refine zx_lload G d_Value_put_6 rfl ?_
  refine zx_lconst (v := 1) G d_Value_put_8 rfl ?_
  refine zx_lcmp G d_Value_put_9 ?_
  refine zx_join (P := fun k => ∀ (y3 : Int64) (μ4 : ZMem), k y3 μ4 = some rr → zX g K_Value_put 2 E (some (.int rr.1), rr.2) μ4 24 [some (.ref (g.2.1 7 o)), none, none, none, none, some (.long x1), none, some (.long x2), none, none, none] [.long y3]) h (fun y3 μ4 h => ?_) (fun k5 hk5 h => ?_)
  · try dsimp only at h
    refine zx_lstore (lf := fun y => [_, none, none, none, none, _, none, _, none, some (.long y), none]) G d_Value_put_24 (Nat.le_of_ble_eq_true rfl) (fun _ => rfl) h (fun x6 h => ?_)
    refine zx_lload G d_Value_put_26 rfl ?_
    refine zx_lconst (v := 1) G d_Value_put_28 rfl ?_
    refine zx_lcmp G d_Value_put_29 ?_
    refine zx_join (P := fun k => ∀ (y7 : Int64) (y8 : Int64) (μ9 : ZMem), k y7 y8 μ9 = some rr → zX g K_Value_put 2 E (some (.int rr.1), rr.2) μ9 47 [some (.ref (g.2.1 7 o)), none, none, none, none, some (.long y7), none, some (.long y8), none, none, none] []) h (fun y7 y8 μ9 h => ?_) (fun k10 hk10 h => ?_)
    · try dsimp only at h
      refine zx_lload G d_Value_put_47 rfl ?_
      refine zx_ldc2 (v := 1000000000000) G d_Value_put_49 zk_Value_22 ?_
      refine zx_lcmp G d_Value_put_52 ?_
      refine zx_if_gt (tgt := 74) G d_Value_put_53 rfl h (fun h => ?_) (fun h => ?_)
      · refine zx_iconst (v := 0) G d_Value_put_74 rfl ?_
        exact zx_zretK G d_Value_put_75 rfl (by decide) h
      · refine zx_lload G d_Value_put_56 rfl ?_
        refine zx_ldc2 (v := -1000000000000) G d_Value_put_58 zk_Value_24 ?_
        refine zx_lcmp G d_Value_put_61 ?_
        refine zx_if_lt (tgt := 74) G d_Value_put_62 rfl h (fun h => ?_) (fun h => ?_)
        · refine zx_iconst (v := 0) G d_Value_put_74 rfl ?_
          exact zx_zretK G d_Value_put_75 rfl (by decide) h
        · refine zx_lload G d_Value_put_65 rfl ?_
          refine zx_ldc2 (v := 1000000) G d_Value_put_67 zk_Value_26 ?_
          refine zx_lcmp G d_Value_put_70 ?_
          refine zx_if_le (tgt := 76) G d_Value_put_71 rfl h (fun h => ?_) (fun h => ?_)
          · refine zx_aload_n G d_Value_put_76 rfl ?_
            refine zx_lload G d_Value_put_77 rfl ?_
            refine zx_putJ G d_Value_put_79 zq_Value_15 zp_7_0 ho h (fun μ11 h => ?_)
            refine zx_aload_n G d_Value_put_82 rfl ?_
            refine zx_lload G d_Value_put_83 rfl ?_
            refine zx_putJ G d_Value_put_85 zq_Value_9 zp_7_1 ho h (fun μ12 h => ?_)
            refine zx_iconst (v := 1) G d_Value_put_88 rfl ?_
            exact zx_zretK G d_Value_put_89 rfl (by decide) h
          · refine zx_iconst (v := 0) G d_Value_put_74 rfl ?_
            exact zx_zretK G d_Value_put_75 rfl (by decide) h
    try dsimp only at h
    refine zx_if_le (tgt := 47) G d_Value_put_30 rfl h (fun h => ?_) (fun h => ?_)
    · refine zx_weak [true, false, false, false, false, true, false, true, false, false, false] (lv2 := [_, none, none, none, none, _, none, _, none, none, none]) rfl ?_
      exact hk10 x1 x2 μ4 h
    · refine zx_lload G d_Value_put_33 rfl ?_
      refine zx_lload G d_Value_put_35 rfl ?_
      refine zx_ldiv G d_Value_put_37 h (fun h => ?_)
      refine zx_lstore (lf := fun y => [_, none, none, none, none, some (.long y), none, _, none, _, none]) G d_Value_put_38 (Nat.le_of_ble_eq_true rfl) (fun _ => rfl) h (fun x13 h => ?_)
      refine zx_lload G d_Value_put_40 rfl ?_
      refine zx_lload G d_Value_put_42 rfl ?_
      refine zx_ldiv G d_Value_put_44 h (fun h => ?_)
      refine zx_lstore (lf := fun y => [_, none, none, none, none, _, none, some (.long y), none, _, none]) G d_Value_put_45 (Nat.le_of_ble_eq_true rfl) (fun _ => rfl) h (fun x14 h => ?_)
      refine zx_weak [true, false, false, false, false, true, false, true, false, false, false] (lv2 := [_, none, none, none, none, _, none, _, none, none, none]) rfl ?_
      exact hk10 x13 x14 μ4 h
  try dsimp only at h
  refine zx_if_ne (tgt := 17) G d_Value_put_10 rfl h (fun h => ?_) (fun h => ?_)
  · refine zx_lload G d_Value_put_17 rfl ?_
    refine zx_lload G d_Value_put_19 rfl ?_
    obtain ⟨r16, μ15, hc, h⟩ := zbnd_of h
    refine zx_callSJ (r := r16) (μ2 := μ15) G d_Value_put_21 zm_Value_18 (fun l => t_A_commonMeasure  hc) rfl rfl (Nat.le_of_ble_eq_true rfl) (Nat.le_of_ble_eq_true rfl) ?_
    refine zx_weak [true, false, false, false, false, true, false, true, false, false, false] (lv2 := [_, none, none, none, none, _, none, _, none, none, none]) rfl ?_
    exact hk5 r16 μ15 h
  · refine zx_lconst (v := 1) G d_Value_put_13 rfl ?_
    refine zx_goto (tgt := 24) G d_Value_put_14 rfl ?_
    refine zx_weak [true, false, false, false, false, true, false, true, false, false, false] (lv2 := [_, none, none, none, none, _, none, _, none, none, none]) rfl ?_
    exact hk5 (1 : Int64) μ h
set_option maxHeartbeats 4000000 in
set_option maxRecDepth 20000 in
theorem tf_A_figuresOf_l2_0 {g : ZG} {E : ZE} {N : Nat} {rr : Int32 × ZMem} {p0 : Int64} (G : zGa g K_A_figuresOf 0 E) : ∀ (n2 : Nat) (z2 : Int32) (μ3 : ZMem), f_A_figuresOf_l2 N p0 n2 z2 μ3 = some rr → zX g K_A_figuresOf 0 E (some (.int rr.1), rr.2) μ3 2 [some (.long p0), none, some (.int z2)] [] := by
  intro n2
  induction n2 with
  | zero => intro z2 μ3 h; cases h
  | succ n2 ih2 =>
    intro z2 μ3 h
    simp only [f_A_figuresOf_l2] at h
    refine zx_iload_n G d_A_figuresOf_2 rfl ?_
    refine zx_tens G d_A_figuresOf_3 (Or.inl zw_A_338) ?_
    refine zx_tlen G d_A_figuresOf_6 ?_
    refine zx_icmp_ge (tgt := 28) G d_A_figuresOf_7 rfl h (fun h => ?_) (fun h => ?_)
    · refine zx_tens G d_A_figuresOf_28 (Or.inl zw_A_338) ?_
      refine zx_tlen G d_A_figuresOf_31 ?_
      exact zx_iret G d_A_figuresOf_32 rfl h
    · refine zx_lload_n G d_A_figuresOf_10 rfl ?_
      refine zx_tens G d_A_figuresOf_11 (Or.inl zw_A_338) ?_
      refine zx_iload_n G d_A_figuresOf_14 rfl ?_
      refine zx_tald G d_A_figuresOf_15 h (fun h => ?_)
      refine zx_lcmp G d_A_figuresOf_16 ?_
      refine zx_if_ge (tgt := 22) G d_A_figuresOf_17 rfl h (fun h => ?_) (fun h => ?_)
      · refine zx_iinc (v := 1) (lf := fun y => [_, none, some (.int y)]) G d_A_figuresOf_22 (Nat.le_of_ble_eq_true rfl) rfl rfl (fun _ => rfl) h (fun x4 h => ?_)
        refine zx_goto (tgt := 2) G d_A_figuresOf_25 rfl ?_
        exact ih2 x4 μ3 h
      · refine zx_iload_n G d_A_figuresOf_20 rfl ?_
        exact zx_iret G d_A_figuresOf_21 rfl h
set_option maxHeartbeats 4000000 in
set_option maxRecDepth 20000 in
theorem tf_A_figuresOf_l2 {g : ZG} {E : ZE} {N n2 : Nat} {rr : Int32 × ZMem} {p0 : Int64} {z2 : Int32} {μ3 : ZMem} (G : zGa g K_A_figuresOf 0 E) (h : f_A_figuresOf_l2 N p0 n2 z2 μ3 = some rr) : zX g K_A_figuresOf 0 E (some (.int rr.1), rr.2) μ3 2 [some (.long p0), none, some (.int z2)] [] := tf_A_figuresOf_l2_0 G n2 z2 μ3 h
set_option maxHeartbeats 4000000 in
set_option maxRecDepth 20000 in
theorem t_A_figuresOf {g : ZG} {l : Launch} {N : Nat} {μ : ZMem} {p0 : Int64} {rr : Int32 × ZMem} (h : f_A_figuresOf N μ p0 = some rr) : zT g l 0 K_A_figuresOf [.long p0] μ (some (.int rr.1), rr.2) := by
  refine zT_of (by decide +kernel) (Nat.le_of_ble_eq_true rfl) (fun E G => ?_)
  show zX g K_A_figuresOf 0 E (some (.int rr.1), rr.2) μ 0 [some (.long p0), none, none] []
  unfold f_A_figuresOf at h
  refine zx_iconst (v := 1) G d_A_figuresOf_0 rfl ?_
  refine zx_istore_n (lf := fun y => [_, none, some (.int y)]) G d_A_figuresOf_1 (Nat.le_of_ble_eq_true rfl) (fun _ => rfl) h (fun x1 h => ?_)
  refine tf_A_figuresOf_l2 G h
set_option maxHeartbeats 4000000 in
set_option maxRecDepth 20000 in
theorem tf_Value_turned_l16_0 {g : ZG} {E : ZE} {N : Nat} {rr : Int64 × ZMem} (G : zGa g K_Value_turned 1 E) : ∀ (n16 : Nat) (z6 : Int64) (z7 : Int64) (z8 : Int32) (μ9 : ZMem), f_Value_turned_l16 N n16 z6 z7 z8 μ9 = some rr → zX g K_Value_turned 1 E (some (.long rr.1), rr.2) μ9 16 [none, some (.long z6), none, some (.long z7), none, some (.int z8)] [] := by
  intro n16
  induction n16 with
  | zero => intro z6 z7 z8 μ9 h; cases h
  | succ n16 ih16 =>
    intro z6 z7 z8 μ9 h
    simp only [f_Value_turned_l16] at h
    refine zx_iload G d_Value_turned_16 rfl ?_
    refine zx_if_le (tgt := 45) G d_Value_turned_18 rfl h (fun h => ?_) (fun h => ?_)
    · refine zx_lload_n G d_Value_turned_45 rfl ?_
      exact zx_lret G d_Value_turned_46 rfl h
    · refine zx_lload_n G d_Value_turned_21 rfl ?_
      refine zx_ldc2 (v := 10) G d_Value_turned_22 zk_Value_55 ?_
      refine zx_lmul G d_Value_turned_25 ?_
      refine zx_lload_n G d_Value_turned_26 rfl ?_
      refine zx_ldc2 (v := 10) G d_Value_turned_27 zk_Value_55 ?_
      refine zx_lrem G d_Value_turned_30 h (fun h => ?_)
      refine zx_ladd G d_Value_turned_31 ?_
      refine zx_lstore_n (lf := fun y => [none, _, none, some (.long y), none, _]) G d_Value_turned_32 (Nat.le_of_ble_eq_true rfl) (fun _ => rfl) h (fun x10 h => ?_)
      refine zx_lload_n G d_Value_turned_33 rfl ?_
      refine zx_ldc2 (v := 10) G d_Value_turned_34 zk_Value_55 ?_
      refine zx_ldiv G d_Value_turned_37 h (fun h => ?_)
      refine zx_lstore_n (lf := fun y => [none, some (.long y), none, _, none, _]) G d_Value_turned_38 (Nat.le_of_ble_eq_true rfl) (fun _ => rfl) h (fun x11 h => ?_)
      refine zx_iinc (v := -1) (lf := fun y => [none, _, none, _, none, some (.int y)]) G d_Value_turned_39 (Nat.le_of_ble_eq_true rfl) rfl rfl (fun _ => rfl) h (fun x12 h => ?_)
      refine zx_goto (tgt := 16) G d_Value_turned_42 rfl ?_
      exact ih16 x11 x10 x12 μ9 h
set_option maxHeartbeats 4000000 in
set_option maxRecDepth 20000 in
theorem tf_Value_turned_l16 {g : ZG} {E : ZE} {N n16 : Nat} {rr : Int64 × ZMem} {z6 : Int64} {z7 : Int64} {z8 : Int32} {μ9 : ZMem} (G : zGa g K_Value_turned 1 E) (h : f_Value_turned_l16 N n16 z6 z7 z8 μ9 = some rr) : zX g K_Value_turned 1 E (some (.long rr.1), rr.2) μ9 16 [none, some (.long z6), none, some (.long z7), none, some (.int z8)] [] := tf_Value_turned_l16_0 G n16 z6 z7 z8 μ9 h
set_option maxHeartbeats 4000000 in
set_option maxRecDepth 20000 in
theorem t_Value_turned {g : ZG} {l : Launch} {N : Nat} {μ : ZMem} {o : Nat} (ho : (7, o) ∈ zids) {rr : Int64 × ZMem} (h : f_Value_turned N μ o = some rr) : zT g l 1 K_Value_turned [.ref (g.2.1 7 o)] μ (some (.long rr.1), rr.2) := by
  refine zT_of (by decide +kernel) (Nat.le_of_ble_eq_true rfl) (fun E G => ?_)
  show zX g K_Value_turned 1 E (some (.long rr.1), rr.2) μ 0 [some (.ref (g.2.1 7 o)), none, none, none, none, none] []
  unfold f_Value_turned at h
  refine zx_aload_n G d_Value_turned_0 rfl ?_
  refine zx_getJ G d_Value_turned_1 zf_Value_15 zc_7_0 ho ?_
  refine zx_lstore_n (lf := fun y => [_, some (.long y), none, none, none, none]) G d_Value_turned_4 (Nat.le_of_ble_eq_true rfl) (fun _ => rfl) h (fun x1 h => ?_)
  refine zx_lconst (v := 0) G d_Value_turned_5 rfl ?_
  refine zx_lstore_n (lf := fun y => [_, _, none, some (.long y), none, none]) G d_Value_turned_6 (Nat.le_of_ble_eq_true rfl) (fun _ => rfl) h (fun x2 h => ?_)
  refine zx_aload_n G d_Value_turned_7 rfl ?_
  refine zx_getJ G d_Value_turned_8 zf_Value_15 zc_7_0 ho ?_
  obtain ⟨r4, μ3, hc, h⟩ := zbnd_of h
  refine zx_callSI (r := r4) (μ2 := μ3) G d_Value_turned_11 zm_Value_40 (fun l => t_A_figuresOf  hc) rfl rfl (Nat.le_of_ble_eq_true rfl) (Nat.le_of_ble_eq_true rfl) ?_
  refine zx_istore (lf := fun y => [_, _, none, _, none, some (.int y)]) G d_Value_turned_14 (Nat.le_of_ble_eq_true rfl) (fun _ => rfl) h (fun x5 h => ?_)
  refine zx_weak [false, true, false, true, false, true] (lv2 := [none, _, none, _, none, _]) rfl ?_
  refine tf_Value_turned_l16 G h
set_option maxHeartbeats 4000000 in
set_option maxRecDepth 20000 in
theorem tf_Value_across_l16_0 {g : ZG} {E : ZE} {N : Nat} {rr : Int64 × ZMem} (G : zGa g K_Value_across 1 E) : ∀ (n16 : Nat) (z6 : Int64) (z7 : Int64) (z8 : Int32) (μ9 : ZMem), f_Value_across_l16 N n16 z6 z7 z8 μ9 = some rr → zX g K_Value_across 1 E (some (.long rr.1), rr.2) μ9 16 [none, some (.long z6), none, some (.long z7), none, some (.int z8)] [] := by
  intro n16
  induction n16 with
  | zero => intro z6 z7 z8 μ9 h; cases h
  | succ n16 ih16 =>
    intro z6 z7 z8 μ9 h
    simp only [f_Value_across_l16] at h
    refine zx_iload G d_Value_across_16 rfl ?_
    refine zx_if_le (tgt := 41) G d_Value_across_18 rfl h (fun h => ?_) (fun h => ?_)
    · refine zx_lload_n G d_Value_across_41 rfl ?_
      exact zx_lret G d_Value_across_42 rfl h
    · refine zx_lload_n G d_Value_across_21 rfl ?_
      refine zx_lload_n G d_Value_across_22 rfl ?_
      refine zx_ldc2 (v := 10) G d_Value_across_23 zk_Value_55 ?_
      refine zx_lrem G d_Value_across_26 h (fun h => ?_)
      refine zx_ladd G d_Value_across_27 ?_
      refine zx_lstore_n (lf := fun y => [none, _, none, some (.long y), none, _]) G d_Value_across_28 (Nat.le_of_ble_eq_true rfl) (fun _ => rfl) h (fun x10 h => ?_)
      refine zx_lload_n G d_Value_across_29 rfl ?_
      refine zx_ldc2 (v := 10) G d_Value_across_30 zk_Value_55 ?_
      refine zx_ldiv G d_Value_across_33 h (fun h => ?_)
      refine zx_lstore_n (lf := fun y => [none, some (.long y), none, _, none, _]) G d_Value_across_34 (Nat.le_of_ble_eq_true rfl) (fun _ => rfl) h (fun x11 h => ?_)
      refine zx_iinc (v := -1) (lf := fun y => [none, _, none, _, none, some (.int y)]) G d_Value_across_35 (Nat.le_of_ble_eq_true rfl) rfl rfl (fun _ => rfl) h (fun x12 h => ?_)
      refine zx_goto (tgt := 16) G d_Value_across_38 rfl ?_
      exact ih16 x11 x10 x12 μ9 h
set_option maxHeartbeats 4000000 in
set_option maxRecDepth 20000 in
theorem tf_Value_across_l16 {g : ZG} {E : ZE} {N n16 : Nat} {rr : Int64 × ZMem} {z6 : Int64} {z7 : Int64} {z8 : Int32} {μ9 : ZMem} (G : zGa g K_Value_across 1 E) (h : f_Value_across_l16 N n16 z6 z7 z8 μ9 = some rr) : zX g K_Value_across 1 E (some (.long rr.1), rr.2) μ9 16 [none, some (.long z6), none, some (.long z7), none, some (.int z8)] [] := tf_Value_across_l16_0 G n16 z6 z7 z8 μ9 h
set_option maxHeartbeats 4000000 in
set_option maxRecDepth 20000 in
theorem t_Value_across {g : ZG} {l : Launch} {N : Nat} {μ : ZMem} {o : Nat} (ho : (7, o) ∈ zids) {rr : Int64 × ZMem} (h : f_Value_across N μ o = some rr) : zT g l 1 K_Value_across [.ref (g.2.1 7 o)] μ (some (.long rr.1), rr.2) := by
  refine zT_of (by decide +kernel) (Nat.le_of_ble_eq_true rfl) (fun E G => ?_)
  show zX g K_Value_across 1 E (some (.long rr.1), rr.2) μ 0 [some (.ref (g.2.1 7 o)), none, none, none, none, none] []
  unfold f_Value_across at h
  refine zx_aload_n G d_Value_across_0 rfl ?_
  refine zx_getJ G d_Value_across_1 zf_Value_15 zc_7_0 ho ?_
  refine zx_lstore_n (lf := fun y => [_, some (.long y), none, none, none, none]) G d_Value_across_4 (Nat.le_of_ble_eq_true rfl) (fun _ => rfl) h (fun x1 h => ?_)
  refine zx_lconst (v := 0) G d_Value_across_5 rfl ?_
  refine zx_lstore_n (lf := fun y => [_, _, none, some (.long y), none, none]) G d_Value_across_6 (Nat.le_of_ble_eq_true rfl) (fun _ => rfl) h (fun x2 h => ?_)
  refine zx_aload_n G d_Value_across_7 rfl ?_
  refine zx_getJ G d_Value_across_8 zf_Value_15 zc_7_0 ho ?_
  obtain ⟨r4, μ3, hc, h⟩ := zbnd_of h
  refine zx_callSI (r := r4) (μ2 := μ3) G d_Value_across_11 zm_Value_40 (fun l => t_A_figuresOf  hc) rfl rfl (Nat.le_of_ble_eq_true rfl) (Nat.le_of_ble_eq_true rfl) ?_
  refine zx_istore (lf := fun y => [_, _, none, _, none, some (.int y)]) G d_Value_across_14 (Nat.le_of_ble_eq_true rfl) (fun _ => rfl) h (fun x5 h => ?_)
  refine zx_weak [false, true, false, true, false, true] (lv2 := [none, _, none, _, none, _]) rfl ?_
  refine tf_Value_across_l16 G h
set_option maxHeartbeats 4000000 in
set_option maxRecDepth 20000 in
theorem t_Value_without {g : ZG} {l : Launch} {N : Nat} {μ : ZMem} {o : Nat} {p0 : Int32} (ho : (7, o) ∈ zids) {rr : Int64 × ZMem} (h : f_Value_without N μ o p0 = some rr) : zT g l 1 K_Value_without [.ref (g.2.1 7 o), .int p0] μ (some (.long rr.1), rr.2) := by
  refine zT_of (by decide +kernel) (Nat.le_of_ble_eq_true rfl) (fun E G => ?_)
  show zX g K_Value_without 1 E (some (.long rr.1), rr.2) μ 0 [some (.ref (g.2.1 7 o)), some (.int p0), none, none, none] []
  unfold f_Value_without at h
  refine zx_aload_n G d_Value_without_0 rfl ?_
  refine zx_getJ G d_Value_without_1 zf_Value_15 zc_7_0 ho ?_
  obtain ⟨r2, μ1, hc, h⟩ := zbnd_of h
  refine zx_callSI (r := r2) (μ2 := μ1) G d_Value_without_4 zm_Value_40 (fun l => t_A_figuresOf  hc) rfl rfl (Nat.le_of_ble_eq_true rfl) (Nat.le_of_ble_eq_true rfl) ?_
  refine zx_iload_n G d_Value_without_7 rfl ?_
  refine zx_isub G d_Value_without_8 ?_
  refine zx_istore_n (lf := fun y => [_, _, some (.int y), none, none]) G d_Value_without_9 (Nat.le_of_ble_eq_true rfl) (fun _ => rfl) h (fun x3 h => ?_)
  refine zx_iload_n G d_Value_without_10 rfl ?_
  refine zx_if_lt (tgt := 22) G d_Value_without_11 rfl h (fun h => ?_) (fun h => ?_)
  · refine zx_aload_n G d_Value_without_22 rfl ?_
    refine zx_getJ G d_Value_without_23 zf_Value_15 zc_7_0 ho ?_
    exact zx_lret G d_Value_without_26 rfl h
  · refine zx_iload_n G d_Value_without_14 rfl ?_
    refine zx_tens G d_Value_without_15 (Or.inr zw_Value_36) ?_
    refine zx_tlen G d_Value_without_18 ?_
    refine zx_icmp_lt (tgt := 27) G d_Value_without_19 rfl h (fun h => ?_) (fun h => ?_)
    · refine zx_tens G d_Value_without_27 (Or.inr zw_Value_36) ?_
      refine zx_iload_n G d_Value_without_30 rfl ?_
      refine zx_tald G d_Value_without_31 h (fun h => ?_)
      refine zx_lstore_n (lf := fun y => [_, _, _, some (.long y), none]) G d_Value_without_32 (Nat.le_of_ble_eq_true rfl) (fun _ => rfl) h (fun x4 h => ?_)
      refine zx_lload_n G d_Value_without_33 rfl ?_
      refine zx_lconst (v := 0) G d_Value_without_34 rfl ?_
      refine zx_lcmp G d_Value_without_35 ?_
      refine zx_if_le (tgt := 61) G d_Value_without_36 rfl h (fun h => ?_) (fun h => ?_)
      · refine zx_aload_n G d_Value_without_61 rfl ?_
        refine zx_getJ G d_Value_without_62 zf_Value_15 zc_7_0 ho ?_
        exact zx_lret G d_Value_without_65 rfl h
      · refine zx_aload_n G d_Value_without_39 rfl ?_
        refine zx_getJ G d_Value_without_40 zf_Value_15 zc_7_0 ho ?_
        refine zx_lload_n G d_Value_without_43 rfl ?_
        refine zx_ldiv G d_Value_without_44 h (fun h => ?_)
        refine zx_ldc2 (v := 10) G d_Value_without_45 zk_Value_55 ?_
        refine zx_ldiv G d_Value_without_48 h (fun h => ?_)
        refine zx_lload_n G d_Value_without_49 rfl ?_
        refine zx_lmul G d_Value_without_50 ?_
        refine zx_aload_n G d_Value_without_51 rfl ?_
        refine zx_getJ G d_Value_without_52 zf_Value_15 zc_7_0 ho ?_
        refine zx_lload_n G d_Value_without_55 rfl ?_
        refine zx_lrem G d_Value_without_56 h (fun h => ?_)
        refine zx_ladd G d_Value_without_57 ?_
        refine zx_goto (tgt := 65) G d_Value_without_58 rfl ?_
        exact zx_lret G d_Value_without_65 rfl h
    · refine zx_aload_n G d_Value_without_22 rfl ?_
      refine zx_getJ G d_Value_without_23 zf_Value_15 zc_7_0 ho ?_
      exact zx_lret G d_Value_without_26 rfl h
set_option maxHeartbeats 4000000 in
set_option maxRecDepth 20000 in
theorem t_Value_obey {g : ZG} {l : Launch} {N : Nat} {μ : ZMem} {o : Nat} {p0 : Int32} {p1 : Int32} (ho : (7, o) ∈ zids) {rr : Int32 × ZMem} (h : f_Value_obey N μ o p0 p1 = some rr) : zT g l 3 K_Value_obey [.ref (g.2.1 7 o), .int p0, .int p1] μ (some (.int rr.1), rr.2) := by
  refine zT_of (by decide +kernel) (Nat.le_of_ble_eq_true rfl) (fun E G => ?_)
  show zX g K_Value_obey 3 E (some (.int rr.1), rr.2) μ 0 [some (.ref (g.2.1 7 o)), some (.int p0), some (.int p1), none] []
  unfold f_Value_obey at h
  refine zx_aload_n G d_Value_obey_0 rfl ?_
  refine zx_getJ G d_Value_obey_1 zf_Value_9 zc_7_1 ho ?_
  refine zx_lconst (v := 1) G d_Value_obey_4 rfl ?_
  refine zx_lcmp G d_Value_obey_5 ?_
  refine zx_join (P := fun k => ∀ (y1 : Int32) (μ2 : ZMem), k y1 μ2 = some rr → zX g K_Value_obey 3 E (some (.int rr.1), rr.2) μ2 23 [some (.ref (g.2.1 7 o)), some (.int p0), some (.int p1), none] [.int y1]) h (fun y1 μ2 h => ?_) (fun k3 hk3 h => ?_)
  · try dsimp only at h
    refine zx_istore_n (lf := fun y => [_, _, _, some (.int y)]) G d_Value_obey_23 (Nat.le_of_ble_eq_true rfl) (fun _ => rfl) h (fun x4 h => ?_)
    refine zx_iload_n G d_Value_obey_24 rfl ?_
    refine zx_if h (fun c5 h => ?_) (fun c5 h => ?_)
    · refine zx_sw (tgt := 76) G d_Value_obey_25 c5 (by decide) (by decide) rfl rfl ?_
      refine zx_aload_n G d_Value_obey_76 rfl ?_
      refine zx_aload_n G d_Value_obey_77 rfl ?_
      refine zx_getJ G d_Value_obey_78 zf_Value_15 zc_7_0 ho ?_
      refine zx_iload_n G d_Value_obey_81 rfl ?_
      refine zx_i2l G d_Value_obey_82 ?_
      refine zx_aload_n G d_Value_obey_83 rfl ?_
      refine zx_getJ G d_Value_obey_84 zf_Value_9 zc_7_1 ho ?_
      refine zx_lmul G d_Value_obey_87 ?_
      refine zx_ladd G d_Value_obey_88 ?_
      refine zx_aload_n G d_Value_obey_89 rfl ?_
      refine zx_getJ G d_Value_obey_90 zf_Value_9 zc_7_1 ho ?_
      obtain ⟨r7, μ6, hc, h⟩ := zbnd_of h
      refine zx_callVI (r := r7) (μ2 := μ6) G d_Value_obey_93 zm_Value_28 (fun l => t_Value_put ho hc) rfl rfl (Nat.le_of_ble_eq_true rfl) (Nat.le_of_ble_eq_true rfl) (zrecv zo_7 ho) ?_
      exact zx_zret G d_Value_obey_96 rfl h
    · skip
      refine zx_if h (fun c8 h => ?_) (fun c8 h => ?_)
      · refine zx_sw (tgt := 97) G d_Value_obey_25 c8 (by decide) (by decide) rfl rfl ?_
        refine zx_aload_n G d_Value_obey_97 rfl ?_
        refine zx_aload_n G d_Value_obey_98 rfl ?_
        refine zx_getJ G d_Value_obey_99 zf_Value_15 zc_7_0 ho ?_
        refine zx_iload_n G d_Value_obey_102 rfl ?_
        refine zx_i2l G d_Value_obey_103 ?_
        refine zx_aload_n G d_Value_obey_104 rfl ?_
        refine zx_getJ G d_Value_obey_105 zf_Value_9 zc_7_1 ho ?_
        refine zx_lmul G d_Value_obey_108 ?_
        refine zx_lsub G d_Value_obey_109 ?_
        refine zx_aload_n G d_Value_obey_110 rfl ?_
        refine zx_getJ G d_Value_obey_111 zf_Value_9 zc_7_1 ho ?_
        obtain ⟨r10, μ9, hc, h⟩ := zbnd_of h
        refine zx_callVI (r := r10) (μ2 := μ9) G d_Value_obey_114 zm_Value_28 (fun l => t_Value_put ho hc) rfl rfl (Nat.le_of_ble_eq_true rfl) (Nat.le_of_ble_eq_true rfl) (zrecv zo_7 ho) ?_
        exact zx_zret G d_Value_obey_117 rfl h
      · skip
        refine zx_if h (fun c11 h => ?_) (fun c11 h => ?_)
        · refine zx_sw (tgt := 118) G d_Value_obey_25 c11 (by decide) (by decide) rfl rfl ?_
          refine zx_aload_n G d_Value_obey_118 rfl ?_
          refine zx_aload_n G d_Value_obey_119 rfl ?_
          refine zx_getJ G d_Value_obey_120 zf_Value_15 zc_7_0 ho ?_
          refine zx_iload_n G d_Value_obey_123 rfl ?_
          refine zx_i2l G d_Value_obey_124 ?_
          refine zx_lmul G d_Value_obey_125 ?_
          refine zx_aload_n G d_Value_obey_126 rfl ?_
          refine zx_getJ G d_Value_obey_127 zf_Value_9 zc_7_1 ho ?_
          obtain ⟨r13, μ12, hc, h⟩ := zbnd_of h
          refine zx_callVI (r := r13) (μ2 := μ12) G d_Value_obey_130 zm_Value_28 (fun l => t_Value_put ho hc) rfl rfl (Nat.le_of_ble_eq_true rfl) (Nat.le_of_ble_eq_true rfl) (zrecv zo_7 ho) ?_
          exact zx_zret G d_Value_obey_133 rfl h
        · skip
          refine zx_if h (fun c14 h => ?_) (fun c14 h => ?_)
          · refine zx_sw (tgt := 134) G d_Value_obey_25 c14 (by decide) (by decide) rfl rfl ?_
            refine zx_iload_n G d_Value_obey_134 rfl ?_
            refine zx_if_le (tgt := 160) G d_Value_obey_135 rfl h (fun h => ?_) (fun h => ?_)
            · refine zx_iconst (v := 0) G d_Value_obey_160 rfl ?_
              exact zx_zretK G d_Value_obey_161 rfl (by decide) h
            · refine zx_aload_n G d_Value_obey_138 rfl ?_
              refine zx_aload_n G d_Value_obey_139 rfl ?_
              refine zx_getJ G d_Value_obey_140 zf_Value_15 zc_7_0 ho ?_
              refine zx_aload_n G d_Value_obey_143 rfl ?_
              refine zx_getJ G d_Value_obey_144 zf_Value_9 zc_7_1 ho ?_
              refine zx_iload_n G d_Value_obey_147 rfl ?_
              refine zx_i2l G d_Value_obey_148 ?_
              refine zx_lmul G d_Value_obey_149 ?_
              obtain ⟨r16, μ15, hc, h⟩ := zbnd_of h
              refine zx_callVI (r := r16) (μ2 := μ15) G d_Value_obey_150 zm_Value_28 (fun l => t_Value_put ho hc) rfl rfl (Nat.le_of_ble_eq_true rfl) (Nat.le_of_ble_eq_true rfl) (zrecv zo_7 ho) ?_
              refine zx_if_eq (tgt := 160) G d_Value_obey_153 rfl h (fun h => ?_) (fun h => ?_)
              · refine zx_iconst (v := 0) G d_Value_obey_160 rfl ?_
                exact zx_zretK G d_Value_obey_161 rfl (by decide) h
              · refine zx_iconst (v := 1) G d_Value_obey_156 rfl ?_
                refine zx_goto (tgt := 161) G d_Value_obey_157 rfl ?_
                exact zx_zretK G d_Value_obey_161 rfl (by decide) h
          · skip
            refine zx_if h (fun c17 h => ?_) (fun c17 h => ?_)
            · refine zx_sw (tgt := 162) G d_Value_obey_25 c17 (by decide) (by decide) rfl rfl ?_
              refine zx_iload_n G d_Value_obey_162 rfl ?_
              refine zx_if_eq (tgt := 189) G d_Value_obey_163 rfl h (fun h => ?_) (fun h => ?_)
              · refine zx_iconst (v := 0) G d_Value_obey_189 rfl ?_
                exact zx_zretK G d_Value_obey_190 rfl (by decide) h
              · refine zx_iload_n G d_Value_obey_166 rfl ?_
                refine zx_if_le (tgt := 189) G d_Value_obey_167 rfl h (fun h => ?_) (fun h => ?_)
                · refine zx_iconst (v := 0) G d_Value_obey_189 rfl ?_
                  exact zx_zretK G d_Value_obey_190 rfl (by decide) h
                · refine zx_aload_n G d_Value_obey_170 rfl ?_
                  refine zx_aload_n G d_Value_obey_171 rfl ?_
                  refine zx_getJ G d_Value_obey_172 zf_Value_15 zc_7_0 ho ?_
                  refine zx_iload_n G d_Value_obey_175 rfl ?_
                  refine zx_i2l G d_Value_obey_176 ?_
                  refine zx_lrem G d_Value_obey_177 h (fun h => ?_)
                  refine zx_lconst (v := 1) G d_Value_obey_178 rfl ?_
                  obtain ⟨r19, μ18, hc, h⟩ := zbnd_of h
                  refine zx_callVI (r := r19) (μ2 := μ18) G d_Value_obey_179 zm_Value_28 (fun l => t_Value_put ho hc) rfl rfl (Nat.le_of_ble_eq_true rfl) (Nat.le_of_ble_eq_true rfl) (zrecv zo_7 ho) ?_
                  refine zx_if_eq (tgt := 189) G d_Value_obey_182 rfl h (fun h => ?_) (fun h => ?_)
                  · refine zx_iconst (v := 0) G d_Value_obey_189 rfl ?_
                    exact zx_zretK G d_Value_obey_190 rfl (by decide) h
                  · refine zx_iconst (v := 1) G d_Value_obey_185 rfl ?_
                    refine zx_goto (tgt := 190) G d_Value_obey_186 rfl ?_
                    exact zx_zretK G d_Value_obey_190 rfl (by decide) h
            · skip
              refine zx_if h (fun c20 h => ?_) (fun c20 h => ?_)
              · refine zx_sw (tgt := 191) G d_Value_obey_25 c20 (by decide) (by decide) rfl rfl ?_
                refine zx_iload_n G d_Value_obey_191 rfl ?_
                refine zx_if_eq (tgt := 231) G d_Value_obey_192 rfl h (fun h => ?_) (fun h => ?_)
                · refine zx_iconst (v := 0) G d_Value_obey_231 rfl ?_
                  exact zx_zretK G d_Value_obey_232 rfl (by decide) h
                · refine zx_iload_n G d_Value_obey_195 rfl ?_
                  obtain ⟨r22, μ21, hc, h⟩ := zbnd_of h
                  refine zx_callSI (r := r22) (μ2 := μ21) G d_Value_obey_196 zm_Value_32 (fun l => t_A_isNumber  hc) rfl rfl (Nat.le_of_ble_eq_true rfl) (Nat.le_of_ble_eq_true rfl) ?_
                  refine zx_if_eq (tgt := 231) G d_Value_obey_199 rfl h (fun h => ?_) (fun h => ?_)
                  · refine zx_iconst (v := 0) G d_Value_obey_231 rfl ?_
                    exact zx_zretK G d_Value_obey_232 rfl (by decide) h
                  · refine zx_aload_n G d_Value_obey_202 rfl ?_
                    refine zx_aload_n G d_Value_obey_203 rfl ?_
                    refine zx_getJ G d_Value_obey_204 zf_Value_15 zc_7_0 ho ?_
                    refine zx_tens G d_Value_obey_207 (Or.inr zw_Value_36) ?_
                    refine zx_iload_n G d_Value_obey_210 rfl ?_
                    refine zx_i2l G d_Value_obey_211 ?_
                    obtain ⟨r24, μ23, hc, h⟩ := zbnd_of h
                    refine zx_callSI (r := r24) (μ2 := μ23) G d_Value_obey_212 zm_Value_40 (fun l => t_A_figuresOf  hc) rfl rfl (Nat.le_of_ble_eq_true rfl) (Nat.le_of_ble_eq_true rfl) ?_
                    refine zx_tald G d_Value_obey_215 h (fun h => ?_)
                    refine zx_lmul G d_Value_obey_216 ?_
                    refine zx_iload_n G d_Value_obey_217 rfl ?_
                    refine zx_i2l G d_Value_obey_218 ?_
                    refine zx_ladd G d_Value_obey_219 ?_
                    refine zx_lconst (v := 1) G d_Value_obey_220 rfl ?_
                    obtain ⟨r26, μ25, hc, h⟩ := zbnd_of h
                    refine zx_callVI (r := r26) (μ2 := μ25) G d_Value_obey_221 zm_Value_28 (fun l => t_Value_put ho hc) rfl rfl (Nat.le_of_ble_eq_true rfl) (Nat.le_of_ble_eq_true rfl) (zrecv zo_7 ho) ?_
                    refine zx_if_eq (tgt := 231) G d_Value_obey_224 rfl h (fun h => ?_) (fun h => ?_)
                    · refine zx_iconst (v := 0) G d_Value_obey_231 rfl ?_
                      exact zx_zretK G d_Value_obey_232 rfl (by decide) h
                    · refine zx_iconst (v := 1) G d_Value_obey_227 rfl ?_
                      refine zx_goto (tgt := 232) G d_Value_obey_228 rfl ?_
                      exact zx_zretK G d_Value_obey_232 rfl (by decide) h
              · skip
                refine zx_if h (fun c27 h => ?_) (fun c27 h => ?_)
                · refine zx_sw (tgt := 233) G d_Value_obey_25 c27 (by decide) (by decide) rfl rfl ?_
                  refine zx_iload_n G d_Value_obey_233 rfl ?_
                  refine zx_if_eq (tgt := 253) G d_Value_obey_234 rfl h (fun h => ?_) (fun h => ?_)
                  · refine zx_iconst (v := 0) G d_Value_obey_253 rfl ?_
                    exact zx_zretK G d_Value_obey_254 rfl (by decide) h
                  · refine zx_aload_n G d_Value_obey_237 rfl ?_
                    refine zx_aload_n G d_Value_obey_238 rfl ?_
                    obtain ⟨r29, μ28, hc, h⟩ := zbnd_of h
                    refine zx_callVJ (r := r29) (μ2 := μ28) G d_Value_obey_239 zm_Value_44 (fun l => t_Value_turned ho hc) rfl rfl (Nat.le_of_ble_eq_true rfl) (Nat.le_of_ble_eq_true rfl) (zrecv zo_7 ho) ?_
                    refine zx_lconst (v := 1) G d_Value_obey_242 rfl ?_
                    obtain ⟨r31, μ30, hc, h⟩ := zbnd_of h
                    refine zx_callVI (r := r31) (μ2 := μ30) G d_Value_obey_243 zm_Value_28 (fun l => t_Value_put ho hc) rfl rfl (Nat.le_of_ble_eq_true rfl) (Nat.le_of_ble_eq_true rfl) (zrecv zo_7 ho) ?_
                    refine zx_if_eq (tgt := 253) G d_Value_obey_246 rfl h (fun h => ?_) (fun h => ?_)
                    · refine zx_iconst (v := 0) G d_Value_obey_253 rfl ?_
                      exact zx_zretK G d_Value_obey_254 rfl (by decide) h
                    · refine zx_iconst (v := 1) G d_Value_obey_249 rfl ?_
                      refine zx_goto (tgt := 254) G d_Value_obey_250 rfl ?_
                      exact zx_zretK G d_Value_obey_254 rfl (by decide) h
                · skip
                  refine zx_if h (fun c32 h => ?_) (fun c32 h => ?_)
                  · refine zx_sw (tgt := 255) G d_Value_obey_25 c32 (by decide) (by decide) rfl rfl ?_
                    refine zx_iload_n G d_Value_obey_255 rfl ?_
                    refine zx_if_eq (tgt := 275) G d_Value_obey_256 rfl h (fun h => ?_) (fun h => ?_)
                    · refine zx_iconst (v := 0) G d_Value_obey_275 rfl ?_
                      exact zx_zretK G d_Value_obey_276 rfl (by decide) h
                    · refine zx_aload_n G d_Value_obey_259 rfl ?_
                      refine zx_aload_n G d_Value_obey_260 rfl ?_
                      obtain ⟨r34, μ33, hc, h⟩ := zbnd_of h
                      refine zx_callVJ (r := r34) (μ2 := μ33) G d_Value_obey_261 zm_Value_48 (fun l => t_Value_across ho hc) rfl rfl (Nat.le_of_ble_eq_true rfl) (Nat.le_of_ble_eq_true rfl) (zrecv zo_7 ho) ?_
                      refine zx_lconst (v := 1) G d_Value_obey_264 rfl ?_
                      obtain ⟨r36, μ35, hc, h⟩ := zbnd_of h
                      refine zx_callVI (r := r36) (μ2 := μ35) G d_Value_obey_265 zm_Value_28 (fun l => t_Value_put ho hc) rfl rfl (Nat.le_of_ble_eq_true rfl) (Nat.le_of_ble_eq_true rfl) (zrecv zo_7 ho) ?_
                      refine zx_if_eq (tgt := 275) G d_Value_obey_268 rfl h (fun h => ?_) (fun h => ?_)
                      · refine zx_iconst (v := 0) G d_Value_obey_275 rfl ?_
                        exact zx_zretK G d_Value_obey_276 rfl (by decide) h
                      · refine zx_iconst (v := 1) G d_Value_obey_271 rfl ?_
                        refine zx_goto (tgt := 276) G d_Value_obey_272 rfl ?_
                        exact zx_zretK G d_Value_obey_276 rfl (by decide) h
                  · skip
                    refine zx_if h (fun c37 h => ?_) (fun c37 h => ?_)
                    · refine zx_sw (tgt := 277) G d_Value_obey_25 c37 (by decide) (by decide) rfl rfl ?_
                      refine zx_iload_n G d_Value_obey_277 rfl ?_
                      refine zx_if_eq (tgt := 313) G d_Value_obey_278 rfl h (fun h => ?_) (fun h => ?_)
                      · refine zx_iconst (v := 0) G d_Value_obey_313 rfl ?_
                        exact zx_zretK G d_Value_obey_314 rfl (by decide) h
                      · refine zx_iload_n G d_Value_obey_281 rfl ?_
                        refine zx_if_le (tgt := 313) G d_Value_obey_282 rfl h (fun h => ?_) (fun h => ?_)
                        · refine zx_iconst (v := 0) G d_Value_obey_313 rfl ?_
                          exact zx_zretK G d_Value_obey_314 rfl (by decide) h
                        · refine zx_iload_n G d_Value_obey_285 rfl ?_
                          refine zx_aload_n G d_Value_obey_286 rfl ?_
                          refine zx_getJ G d_Value_obey_287 zf_Value_15 zc_7_0 ho ?_
                          obtain ⟨r39, μ38, hc, h⟩ := zbnd_of h
                          refine zx_callSI (r := r39) (μ2 := μ38) G d_Value_obey_290 zm_Value_40 (fun l => t_A_figuresOf  hc) rfl rfl (Nat.le_of_ble_eq_true rfl) (Nat.le_of_ble_eq_true rfl) ?_
                          refine zx_icmp_gt (tgt := 313) G d_Value_obey_293 rfl h (fun h => ?_) (fun h => ?_)
                          · refine zx_iconst (v := 0) G d_Value_obey_313 rfl ?_
                            exact zx_zretK G d_Value_obey_314 rfl (by decide) h
                          · refine zx_aload_n G d_Value_obey_296 rfl ?_
                            refine zx_aload_n G d_Value_obey_297 rfl ?_
                            refine zx_iload_n G d_Value_obey_298 rfl ?_
                            obtain ⟨r41, μ40, hc, h⟩ := zbnd_of h
                            refine zx_callVJ (r := r41) (μ2 := μ40) G d_Value_obey_299 zm_Value_51 (fun l => t_Value_without ho hc) rfl rfl (Nat.le_of_ble_eq_true rfl) (Nat.le_of_ble_eq_true rfl) (zrecv zo_7 ho) ?_
                            refine zx_lconst (v := 1) G d_Value_obey_302 rfl ?_
                            obtain ⟨r43, μ42, hc, h⟩ := zbnd_of h
                            refine zx_callVI (r := r43) (μ2 := μ42) G d_Value_obey_303 zm_Value_28 (fun l => t_Value_put ho hc) rfl rfl (Nat.le_of_ble_eq_true rfl) (Nat.le_of_ble_eq_true rfl) (zrecv zo_7 ho) ?_
                            refine zx_if_eq (tgt := 313) G d_Value_obey_306 rfl h (fun h => ?_) (fun h => ?_)
                            · refine zx_iconst (v := 0) G d_Value_obey_313 rfl ?_
                              exact zx_zretK G d_Value_obey_314 rfl (by decide) h
                            · refine zx_iconst (v := 1) G d_Value_obey_309 rfl ?_
                              refine zx_goto (tgt := 314) G d_Value_obey_310 rfl ?_
                              exact zx_zretK G d_Value_obey_314 rfl (by decide) h
                    · skip
                      have c5 := lv_neT c5 (a := 0) rfl
                      have c8 := lv_neT c8 (a := 1) rfl
                      have c11 := lv_neT c11 (a := 2) rfl
                      have c14 := lv_neT c14 (a := 3) rfl
                      have c17 := lv_neT c17 (a := 4) rfl
                      have c20 := lv_neT c20 (a := 5) rfl
                      have c27 := lv_neT c27 (a := 6) rfl
                      have c32 := lv_neT c32 (a := 7) rfl
                      have c37 := lv_neT c37 (a := 8) rfl
                      refine zx_swOut (tgt := 315) G d_Value_obey_25 (by omega) rfl ?_
                      refine zx_iload_n G d_Value_obey_315 rfl ?_
                      refine zx_bipush (v := 9) G d_Value_obey_316 rfl ?_
                      refine zx_icmp_ne (tgt := 325) G d_Value_obey_318 rfl h (fun h => ?_) (fun h => ?_)
                      · refine zx_iconst (v := 0) G d_Value_obey_325 rfl ?_
                        exact zx_zretK G d_Value_obey_326 rfl (by decide) h
                      · refine zx_iconst (v := 1) G d_Value_obey_321 rfl ?_
                        refine zx_goto (tgt := 326) G d_Value_obey_322 rfl ?_
                        exact zx_zretK G d_Value_obey_326 rfl (by decide) h
  try dsimp only at h
  refine zx_join (P := fun k => ∀ (μ44 : ZMem), k μ44 = some rr → zX g K_Value_obey 3 E (some (.int rr.1), rr.2) μ44 22 [some (.ref (g.2.1 7 o)), some (.int p0), some (.int p1), none] []) h (fun μ44 h => ?_) (fun k45 hk45 h => ?_)
  · try dsimp only at h
    refine zx_iconst (v := 0) G d_Value_obey_22 rfl ?_
    exact hk3 (0 : Int32) μ44 h
  try dsimp only at h
  refine zx_if_ne (tgt := 22) G d_Value_obey_6 rfl h (fun h => ?_) (fun h => ?_)
  · exact hk45 μ h
  · refine zx_aload_n G d_Value_obey_9 rfl ?_
    refine zx_getJ G d_Value_obey_10 zf_Value_15 zc_7_0 ho ?_
    refine zx_lconst (v := 0) G d_Value_obey_13 rfl ?_
    refine zx_lcmp G d_Value_obey_14 ?_
    refine zx_if_lt (tgt := 22) G d_Value_obey_15 rfl h (fun h => ?_) (fun h => ?_)
    · exact hk45 μ h
    · refine zx_iconst (v := 1) G d_Value_obey_18 rfl ?_
      refine zx_goto (tgt := 23) G d_Value_obey_19 rfl ?_
      exact hk3 (1 : Int32) μ h
set_option maxHeartbeats 4000000 in
set_option maxRecDepth 20000 in
theorem tf_Table_run_l22_0 {g : ZG} {E : ZE} {N : Nat} {rr : Int32 × ZMem} {o : Nat} {p1 : Nat} {p2 : Nat} {x1 : Int32} (G : zGa g K_Table_run 4 E) (hl0 : (3, o) ∈ zids) (hl2 : (26, p1) ∈ zids) (hl3 : (7, p2) ∈ zids) : ∀ (n22 : Nat) (z4 : Int32) (μ5 : ZMem), f_Table_run_l22 N o p1 p2 x1 n22 z4 μ5 = some rr → zX g K_Table_run 4 E (some (.int rr.1), rr.2) μ5 22 [some (.ref (g.2.1 3 o)), none, some (.ref (g.2.1 26 p1)), some (.ref (g.2.1 7 p2)), some (.int x1), some (.int z4)] [] := by
  intro n22
  induction n22 with
  | zero => intro z4 μ5 h; cases h
  | succ n22 ih22 =>
    intro z4 μ5 h
    simp only [f_Table_run_l22] at h
    refine zx_iload G d_Table_run_22 rfl ?_
    refine zx_iload G d_Table_run_24 rfl ?_
    refine zx_icmp_ge (tgt := 65) G d_Table_run_26 rfl h (fun h => ?_) (fun h => ?_)
    · refine zx_iload G d_Table_run_65 rfl ?_
      exact zx_iret G d_Table_run_67 rfl h
    · refine zx_aload_n G d_Table_run_29 rfl ?_
      refine zx_aload_n G d_Table_run_30 rfl ?_
      refine zx_getR G d_Table_run_31 zf_Table_14 zc_3_0 hl0 ?_
      refine zx_getR G d_Table_run_34 zf_Table_60 zc_4_0 (zi_3_0 hl0) ?_
      refine zx_iload G d_Table_run_37 rfl ?_
      refine zx_iald G d_Table_run_39 za_22 (zi_4_0 (zi_3_0 hl0)) h (fun h => ?_)
      refine zx_aload_n G d_Table_run_40 rfl ?_
      refine zx_getR G d_Table_run_41 zf_Table_14 zc_3_0 hl0 ?_
      refine zx_iload G d_Table_run_44 rfl ?_
      refine zx_aload_n G d_Table_run_46 rfl ?_
      obtain ⟨r7, μ6, hc, h⟩ := zbnd_of h
      refine zx_callVI (r := r7) (μ2 := μ6) G d_Table_run_47 zm_Table_63 (fun l => t_Orders_amount (zi_3_0 hl0) hl2 hc) rfl rfl (Nat.le_of_ble_eq_true rfl) (Nat.le_of_ble_eq_true rfl) (zrecv zo_4 (zi_3_0 hl0)) ?_
      obtain ⟨r9, μ8, hc, h⟩ := zbnd_of h
      refine zx_callVI (r := r9) (μ2 := μ8) G d_Table_run_50 zm_Table_67 (fun l => t_Value_obey hl3 hc) rfl rfl (Nat.le_of_ble_eq_true rfl) (Nat.le_of_ble_eq_true rfl) (zrecv zo_7 hl3) ?_
      refine zx_if_ne (tgt := 59) G d_Table_run_53 rfl h (fun h => ?_) (fun h => ?_)
      · refine zx_iinc (v := 1) (lf := fun y => [_, none, _, _, _, some (.int y)]) G d_Table_run_59 (Nat.le_of_ble_eq_true rfl) rfl rfl (fun _ => rfl) h (fun x10 h => ?_)
        refine zx_goto (tgt := 22) G d_Table_run_62 rfl ?_
        exact ih22 x10 μ8 h
      · refine zx_iload G d_Table_run_56 rfl ?_
        exact zx_iret G d_Table_run_58 rfl h
set_option maxHeartbeats 4000000 in
set_option maxRecDepth 20000 in
theorem tf_Table_run_l22 {g : ZG} {E : ZE} {N n22 : Nat} {rr : Int32 × ZMem} {o : Nat} {p1 : Nat} {p2 : Nat} {x1 : Int32} {z4 : Int32} {μ5 : ZMem} (G : zGa g K_Table_run 4 E) (hl0 : (3, o) ∈ zids) (hl2 : (26, p1) ∈ zids) (hl3 : (7, p2) ∈ zids) (h : f_Table_run_l22 N o p1 p2 x1 n22 z4 μ5 = some rr) : zX g K_Table_run 4 E (some (.int rr.1), rr.2) μ5 22 [some (.ref (g.2.1 3 o)), none, some (.ref (g.2.1 26 p1)), some (.ref (g.2.1 7 p2)), some (.int x1), some (.int z4)] [] := tf_Table_run_l22_0 G hl0 hl2 hl3 n22 z4 μ5 h
set_option maxHeartbeats 4000000 in
set_option maxRecDepth 20000 in
theorem t_Table_run {g : ZG} {l : Launch} {N : Nat} {μ : ZMem} {o : Nat} {p0 : Int32} {p1 : Nat} {p2 : Nat} (ho : (3, o) ∈ zids) (hp1 : (26, p1) ∈ zids) (hp2 : (7, p2) ∈ zids) {rr : Int32 × ZMem} (h : f_Table_run N μ o p0 p1 p2 = some rr) : zT g l 4 K_Table_run [.ref (g.2.1 3 o), .int p0, .ref (g.2.1 26 p1), .ref (g.2.1 7 p2)] μ (some (.int rr.1), rr.2) := by
  refine zT_of (by decide +kernel) (Nat.le_of_ble_eq_true rfl) (fun E G => ?_)
  show zX g K_Table_run 4 E (some (.int rr.1), rr.2) μ 0 [some (.ref (g.2.1 3 o)), some (.int p0), some (.ref (g.2.1 26 p1)), some (.ref (g.2.1 7 p2)), none, none] []
  unfold f_Table_run at h
  refine zx_iload_n G d_Table_run_0 rfl ?_
  refine zx_aload_n G d_Table_run_1 rfl ?_
  refine zx_getR G d_Table_run_2 zf_Table_14 zc_3_0 ho ?_
  refine zx_getI G d_Table_run_5 zf_Table_27 zc_4_2 (zi_3_0 ho) ?_
  refine zx_mmin G d_Table_run_8 zm_Table_50 zMs_min zMi zMy_min (Nat.le_of_ble_eq_true rfl) (Nat.le_of_ble_eq_true rfl) ?_
  refine zx_istore (lf := fun y => [_, _, _, _, some (.int y), none]) G d_Table_run_11 (Nat.le_of_ble_eq_true rfl) (fun _ => rfl) h (fun x1 h => ?_)
  refine zx_aload_n G d_Table_run_13 rfl ?_
  refine zx_aload_n G d_Table_run_14 rfl ?_
  refine zx_aload_n G d_Table_run_15 rfl ?_
  obtain ⟨u9, μ2, hc, h⟩ := zbnd_of h
  refine zx_callVV  (μ2 := μ2) G d_Table_run_16 zm_Table_56 (fun l => t_Table_begin ho hp2 hp1 hc) rfl rfl (Nat.le_of_ble_eq_true rfl) (Nat.le_of_ble_eq_true rfl) (zrecv zo_3 ho) ?_
  refine zx_iconst (v := 0) G d_Table_run_19 rfl ?_
  refine zx_istore (lf := fun y => [_, _, _, _, _, some (.int y)]) G d_Table_run_20 (Nat.le_of_ble_eq_true rfl) (fun _ => rfl) h (fun x3 h => ?_)
  refine zx_weak [true, false, true, true, true, true] (lv2 := [_, none, _, _, _, _]) rfl ?_
  refine tf_Table_run_l22 G ho hp1 hp2 h
set_option maxHeartbeats 4000000 in
set_option maxRecDepth 20000 in
theorem t_Value_part {g : ZG} {l : Launch} {N : Nat} {μ : ZMem} {o : Nat} {p0 : Int32} (ho : (7, o) ∈ zids) {rr : Int64 × ZMem} (h : f_Value_part N μ o p0 = some rr) : zT g l 0 K_Value_part [.ref (g.2.1 7 o), .int p0] μ (some (.long rr.1), rr.2) := by
  refine zT_of (by decide +kernel) (Nat.le_of_ble_eq_true rfl) (fun E G => ?_)
  show zX g K_Value_part 0 E (some (.long rr.1), rr.2) μ 0 [some (.ref (g.2.1 7 o)), some (.int p0)] []
  unfold f_Value_part at h
  refine zx_iload_n G d_Value_part_0 rfl ?_
  refine zx_if_eq (tgt := 11) G d_Value_part_1 rfl h (fun h => ?_) (fun h => ?_)
  · refine zx_aload_n G d_Value_part_11 rfl ?_
    refine zx_getJ G d_Value_part_12 zf_Value_15 zc_7_0 ho ?_
    exact zx_lret G d_Value_part_15 rfl h
  · refine zx_aload_n G d_Value_part_4 rfl ?_
    refine zx_getJ G d_Value_part_5 zf_Value_9 zc_7_1 ho ?_
    refine zx_goto (tgt := 15) G d_Value_part_8 rfl ?_
    exact zx_lret G d_Value_part_15 rfl h
set_option maxHeartbeats 4000000 in
set_option maxRecDepth 20000 in
theorem t_A_comes {g : ZG} {l : Launch} {N : Nat} {μ : ZMem} {p0 : Int32} {p1 : Int32} {p2 : Int32} {rr : Int64 × ZMem} (h : f_A_comes N μ p0 p1 p2 = some rr) : zT g l 5 K_A_comes [.ref (g.2.1 0 0), .int p0, .int p1, .int p2] μ (some (.long rr.1), rr.2) := by
  refine zT_of (by decide +kernel) (Nat.le_of_ble_eq_true rfl) (fun E G => ?_)
  show zX g K_A_comes 5 E (some (.long rr.1), rr.2) μ 0 [some (.ref (g.2.1 0 0)), some (.int p0), some (.int p1), some (.int p2), none, none] []
  unfold f_A_comes at h
  refine zx_aload_n G d_A_comes_0 rfl ?_
  refine zx_iload_n G d_A_comes_1 rfl ?_
  rcases zbrf_of h with ⟨μ1, hc, h⟩ | ⟨t2, μ1, hc, h⟩
  · refine zx_callVN (k := 3) (μ2 := μ1) G d_A_comes_2 zm_A_115 (fun l => t_A_find  hc) rfl rfl (Nat.le_of_ble_eq_true rfl) (Nat.le_of_ble_eq_true rfl) (zrecv zo_0 (zids_of 0 (Nat.le_of_ble_eq_true rfl) 0 (Nat.le_of_ble_eq_true rfl))) ?_
    refine zx_astoreN (lv2 := [_, _, _, _, _, none]) G d_A_comes_5 (Nat.le_of_ble_eq_true rfl) rfl ?_
    refine zx_aloadN G d_A_comes_7 rfl ?_
    refine zx_ifnullN (tgt := 29) G d_A_comes_9 rfl ?_
    refine zx_ldc2 (v := -10000000000000) G d_A_comes_29 zk_A_146 ?_
    exact zx_lret G d_A_comes_32 rfl h
  · obtain ⟨hz3, h⟩ := zchk_of h
    refine zx_callVP (k := 3) (r := t2) (μ2 := μ1) G d_A_comes_2 zm_A_115 (fun l => t_A_find  hc) rfl rfl (Nat.le_of_ble_eq_true rfl) (Nat.le_of_ble_eq_true rfl) (zrecv zo_0 (zids_of 0 (Nat.le_of_ble_eq_true rfl) 0 (Nat.le_of_ble_eq_true rfl))) ?_
    refine zx_astore (lv2 := [_, _, _, _, _, none]) G d_A_comes_5 (Nat.le_of_ble_eq_true rfl) rfl ?_
    refine zx_aload G d_A_comes_7 rfl ?_
    refine zx_ifnull G d_A_comes_9 ?_
    refine zx_iload_n G d_A_comes_12 rfl ?_
    refine zx_iconst (v := -1) G d_A_comes_13 rfl ?_
    refine zx_join (P := fun k => ∀ (μ4 : ZMem), k μ4 = some rr → zX g K_A_comes 5 E (some (.long rr.1), rr.2) μ4 33 [some (.ref (g.2.1 0 0)), none, some (.int p1), some (.int p2), some (.ref (g.2.1 3 t2)), none] []) h (fun μ4 h => ?_) (fun k5 hk5 h => ?_)
    · try dsimp only at h
      refine zx_iload_n G d_A_comes_33 rfl ?_
      refine zx_iconst (v := 1) G d_A_comes_34 rfl ?_
      refine zx_iadd G d_A_comes_35 ?_
      refine zx_istore (lf := fun y => [_, none, _, _, _, some (.int y)]) G d_A_comes_36 (Nat.le_of_ble_eq_true rfl) (fun _ => rfl) h (fun x6 h => ?_)
      refine zx_aload G d_A_comes_38 rfl ?_
      refine zx_iload G d_A_comes_40 rfl ?_
      refine zx_aload_n G d_A_comes_42 rfl ?_
      refine zx_getR G d_A_comes_43 zf_A_35 zc_0_3 (zids_of 0 (Nat.le_of_ble_eq_true rfl) 0 (Nat.le_of_ble_eq_true rfl)) ?_
      refine zx_getR G d_A_comes_46 zf_A_88 zc_5_1 (zi_0_3 (zids_of 0 (Nat.le_of_ble_eq_true rfl) 0 (Nat.le_of_ble_eq_true rfl))) ?_
      refine zx_aload_n G d_A_comes_49 rfl ?_
      refine zx_getR G d_A_comes_50 zf_A_45 zc_0_5 (zids_of 0 (Nat.le_of_ble_eq_true rfl) 0 (Nat.le_of_ble_eq_true rfl)) ?_
      obtain ⟨r8, μ7, hc, h⟩ := zbnd_of h
      refine zx_callVI (r := r8) (μ2 := μ7) G d_A_comes_53 zm_A_148 (fun l => t_Table_run (zidt hz3) (zi_5_1 (zi_0_3 (zids_of 0 (Nat.le_of_ble_eq_true rfl) 0 (Nat.le_of_ble_eq_true rfl)))) (zi_0_5 (zids_of 0 (Nat.le_of_ble_eq_true rfl) 0 (Nat.le_of_ble_eq_true rfl))) hc) rfl rfl (Nat.le_of_ble_eq_true rfl) (Nat.le_of_ble_eq_true rfl) (zrecv zo_3 (zidt hz3)) ?_
      refine zx_iload G d_A_comes_56 rfl ?_
      refine zx_icmp_ne (tgt := 72) G d_A_comes_58 rfl h (fun h => ?_) (fun h => ?_)
      · refine zx_ldc2 (v := -10000000000000) G d_A_comes_72 zk_A_146 ?_
        exact zx_lret G d_A_comes_75 rfl h
      · refine zx_aload_n G d_A_comes_61 rfl ?_
        refine zx_getR G d_A_comes_62 zf_A_45 zc_0_5 (zids_of 0 (Nat.le_of_ble_eq_true rfl) 0 (Nat.le_of_ble_eq_true rfl)) ?_
        refine zx_iload_n G d_A_comes_65 rfl ?_
        obtain ⟨r10, μ9, hc, h⟩ := zbnd_of h
        refine zx_callVJ (r := r10) (μ2 := μ9) G d_A_comes_66 zm_A_152 (fun l => t_Value_part (zi_0_5 (zids_of 0 (Nat.le_of_ble_eq_true rfl) 0 (Nat.le_of_ble_eq_true rfl))) hc) rfl rfl (Nat.le_of_ble_eq_true rfl) (Nat.le_of_ble_eq_true rfl) (zrecv zo_7 (zi_0_5 (zids_of 0 (Nat.le_of_ble_eq_true rfl) 0 (Nat.le_of_ble_eq_true rfl)))) ?_
        refine zx_goto (tgt := 75) G d_A_comes_69 rfl ?_
        exact zx_lret G d_A_comes_75 rfl h
    try dsimp only at h
    refine zx_icmp_eq (tgt := 33) G d_A_comes_14 rfl h (fun h => ?_) (fun h => ?_)
    · refine zx_weak [true, false, true, true, true, false] (lv2 := [_, none, _, _, _, none]) rfl ?_
      exact hk5 μ1 h
    · refine zx_aload G d_A_comes_17 rfl ?_
      refine zx_getR G d_A_comes_19 zf_A_119 zc_3_0 (zidt hz3) ?_
      refine zx_iload_n G d_A_comes_22 rfl ?_
      obtain ⟨r12, μ11, hc, h⟩ := zbnd_of h
      refine zx_callVI (r := r12) (μ2 := μ11) G d_A_comes_23 zm_A_128 (fun l => t_Orders_has (zi_3_0 (zidt hz3)) hc) rfl rfl (Nat.le_of_ble_eq_true rfl) (Nat.le_of_ble_eq_true rfl) (zrecv zo_4 (zi_3_0 (zidt hz3))) ?_
      refine zx_if_ne (tgt := 33) G d_A_comes_26 rfl h (fun h => ?_) (fun h => ?_)
      · refine zx_weak [true, false, true, true, true, false] (lv2 := [_, none, _, _, _, none]) rfl ?_
        exact hk5 μ11 h
      · refine zx_ldc2 (v := -10000000000000) G d_A_comes_29 zk_A_146 ?_
        exact zx_lret G d_A_comes_32 rfl h
set_option maxHeartbeats 4000000 in
set_option maxRecDepth 20000 in
theorem t_A_fails {g : ZG} {l : Launch} {N : Nat} {μ : ZMem} {p0 : Int32} {rr : Int32 × ZMem} (h : f_A_fails N μ p0 = some rr) : zT g l 5 K_A_fails [.ref (g.2.1 0 0), .int p0] μ (some (.int rr.1), rr.2) := by
  refine zT_of (by decide +kernel) (Nat.le_of_ble_eq_true rfl) (fun E G => ?_)
  show zX g K_A_fails 5 E (some (.int rr.1), rr.2) μ 0 [some (.ref (g.2.1 0 0)), some (.int p0), none, none] []
  unfold f_A_fails at h
  refine zx_aload_n G d_A_fails_0 rfl ?_
  refine zx_iload_n G d_A_fails_1 rfl ?_
  rcases zbrf_of h with ⟨μ1, hc, h⟩ | ⟨t2, μ1, hc, h⟩
  · refine zx_callVN (k := 3) (μ2 := μ1) G d_A_fails_2 zm_A_115 (fun l => t_A_find  hc) rfl rfl (Nat.le_of_ble_eq_true rfl) (Nat.le_of_ble_eq_true rfl) (zrecv zo_0 (zids_of 0 (Nat.le_of_ble_eq_true rfl) 0 (Nat.le_of_ble_eq_true rfl))) ?_
    refine zx_astore_nN (lv2 := [_, _, _, none]) G d_A_fails_5 (Nat.le_of_ble_eq_true rfl) rfl ?_
    refine zx_aload_nN G d_A_fails_6 rfl ?_
    refine zx_ifnonnullN G d_A_fails_7 ?_
    refine zx_bipush (v := -2) G d_A_fails_10 rfl ?_
    exact zx_iret G d_A_fails_12 rfl h
  · obtain ⟨hz3, h⟩ := zchk_of h
    refine zx_callVP (k := 3) (r := t2) (μ2 := μ1) G d_A_fails_2 zm_A_115 (fun l => t_A_find  hc) rfl rfl (Nat.le_of_ble_eq_true rfl) (Nat.le_of_ble_eq_true rfl) (zrecv zo_0 (zids_of 0 (Nat.le_of_ble_eq_true rfl) 0 (Nat.le_of_ble_eq_true rfl))) ?_
    refine zx_astore_n (lv2 := [_, _, _, none]) G d_A_fails_5 (Nat.le_of_ble_eq_true rfl) rfl ?_
    refine zx_aload_n G d_A_fails_6 rfl ?_
    refine zx_ifnonnull (tgt := 13) G d_A_fails_7 rfl ?_
    refine zx_aload_n G d_A_fails_13 rfl ?_
    refine zx_aload_n G d_A_fails_14 rfl ?_
    refine zx_getR G d_A_fails_15 zf_A_119 zc_3_0 (zidt hz3) ?_
    refine zx_getI G d_A_fails_18 zf_A_123 zc_4_2 (zi_3_0 (zidt hz3)) ?_
    refine zx_aload_n G d_A_fails_21 rfl ?_
    refine zx_getR G d_A_fails_22 zf_A_35 zc_0_3 (zids_of 0 (Nat.le_of_ble_eq_true rfl) 0 (Nat.le_of_ble_eq_true rfl)) ?_
    refine zx_getR G d_A_fails_25 zf_A_88 zc_5_1 (zi_0_3 (zids_of 0 (Nat.le_of_ble_eq_true rfl) 0 (Nat.le_of_ble_eq_true rfl))) ?_
    refine zx_aload_n G d_A_fails_28 rfl ?_
    refine zx_getR G d_A_fails_29 zf_A_45 zc_0_5 (zids_of 0 (Nat.le_of_ble_eq_true rfl) 0 (Nat.le_of_ble_eq_true rfl)) ?_
    obtain ⟨r5, μ4, hc, h⟩ := zbnd_of h
    refine zx_callVI (r := r5) (μ2 := μ4) G d_A_fails_32 zm_A_148 (fun l => t_Table_run (zidt hz3) (zi_5_1 (zi_0_3 (zids_of 0 (Nat.le_of_ble_eq_true rfl) 0 (Nat.le_of_ble_eq_true rfl)))) (zi_0_5 (zids_of 0 (Nat.le_of_ble_eq_true rfl) 0 (Nat.le_of_ble_eq_true rfl))) hc) rfl rfl (Nat.le_of_ble_eq_true rfl) (Nat.le_of_ble_eq_true rfl) (zrecv zo_3 (zidt hz3)) ?_
    refine zx_istore_n (lf := fun y => [_, _, _, some (.int y)]) G d_A_fails_35 (Nat.le_of_ble_eq_true rfl) (fun _ => rfl) h (fun x6 h => ?_)
    refine zx_iload_n G d_A_fails_36 rfl ?_
    refine zx_aload_n G d_A_fails_37 rfl ?_
    refine zx_getR G d_A_fails_38 zf_A_119 zc_3_0 (zidt hz3) ?_
    refine zx_getI G d_A_fails_41 zf_A_123 zc_4_2 (zi_3_0 (zidt hz3)) ?_
    refine zx_icmp_ge (tgt := 51) G d_A_fails_44 rfl h (fun h => ?_) (fun h => ?_)
    · refine zx_iconst (v := -1) G d_A_fails_51 rfl ?_
      exact zx_iret G d_A_fails_52 rfl h
    · refine zx_iload_n G d_A_fails_47 rfl ?_
      refine zx_goto (tgt := 52) G d_A_fails_48 rfl ?_
      exact zx_iret G d_A_fails_52 rfl h
set_option maxHeartbeats 4000000 in
set_option maxRecDepth 20000 in
theorem tf_A_said_l42_0 {g : ZG} {E : ZE} {N : Nat} {rr : Int64 × ZMem} {p1 : Int32} {p2 : Int32} {t2 : Nat} {kx114 : ZMem → Option (Int64 × ZMem)} (G : zGa g K_A_said 4 E) (hl0 : (0, 0) ∈ zids) (hl4 : (3, t2) ∈ zids) (hkx114 : ∀  (μ : ZMem), kx114 μ = some rr → zX g K_A_said 4 E (some (.long rr.1), rr.2) μ 114 [some (.ref (g.2.1 0 0)), none, none, some (.int p2), none, none, none, none] []) : ∀ (n42 : Nat) (z7 : Int32) (z8 : Int32) (μ9 : ZMem), f_A_said_l42 N p1 p2 t2 kx114 n42 z7 z8 μ9 = some rr → zX g K_A_said 4 E (some (.long rr.1), rr.2) μ9 42 [some (.ref (g.2.1 0 0)), none, some (.int p1), some (.int p2), some (.ref (g.2.1 3 t2)), some (.int z7), some (.int z8), none] [] := by
  intro n42
  induction n42 with
  | zero => intro z7 z8 μ9 h; cases h
  | succ n42 ih42 =>
    intro z7 z8 μ9 h
    simp only [f_A_said_l42] at h
    refine zx_iload G d_A_said_42 rfl ?_
    refine zx_aload G d_A_said_44 rfl ?_
    refine zx_getR G d_A_said_46 zf_A_119 zc_3_0 hl4 ?_
    refine zx_getI G d_A_said_49 zf_A_123 zc_4_2 (zi_3_0 hl4) ?_
    refine zx_icmp_ge (tgt := 132) G d_A_said_52 rfl h (fun h => ?_) (fun h => ?_)
    · refine zx_ldc2 (v := -10000000000000) G d_A_said_132 zk_A_146 ?_
      exact zx_lret G d_A_said_135 rfl h
    · refine zx_aload G d_A_said_55 rfl ?_
      refine zx_getR G d_A_said_57 zf_A_119 zc_3_0 hl4 ?_
      refine zx_getR G d_A_said_60 zf_A_134 zc_4_0 (zi_3_0 hl4) ?_
      refine zx_iload G d_A_said_63 rfl ?_
      refine zx_iald G d_A_said_65 za_22 (zi_4_0 (zi_3_0 hl4)) h (fun h => ?_)
      refine zx_istore (lf := fun y => [_, none, _, _, _, _, _, some (.int y)]) G d_A_said_66 (Nat.le_of_ble_eq_true rfl) (fun _ => rfl) h (fun x10 h => ?_)
      refine zx_aload_n G d_A_said_68 rfl ?_
      refine zx_getR G d_A_said_69 zf_A_45 zc_0_5 hl0 ?_
      refine zx_iload G d_A_said_72 rfl ?_
      refine zx_aload G d_A_said_74 rfl ?_
      refine zx_getR G d_A_said_76 zf_A_119 zc_3_0 hl4 ?_
      refine zx_iload G d_A_said_79 rfl ?_
      refine zx_aload_n G d_A_said_81 rfl ?_
      refine zx_getR G d_A_said_82 zf_A_35 zc_0_3 hl0 ?_
      refine zx_getR G d_A_said_85 zf_A_88 zc_5_1 (zi_0_3 hl0) ?_
      obtain ⟨r12, μ11, hc, h⟩ := zbnd_of h
      refine zx_callVI (r := r12) (μ2 := μ11) G d_A_said_88 zm_A_160 (fun l => t_Orders_amount (zi_3_0 hl4) (zi_5_1 (zi_0_3 hl0)) hc) rfl rfl (Nat.le_of_ble_eq_true rfl) (Nat.le_of_ble_eq_true rfl) (zrecv zo_4 (zi_3_0 hl4)) ?_
      obtain ⟨r14, μ13, hc, h⟩ := zbnd_of h
      refine zx_callVI (r := r14) (μ2 := μ13) G d_A_said_91 zm_A_164 (fun l => t_Value_obey (zi_0_5 hl0) hc) rfl rfl (Nat.le_of_ble_eq_true rfl) (Nat.le_of_ble_eq_true rfl) (zrecv zo_7 (zi_0_5 hl0)) ?_
      refine zx_if_ne (tgt := 101) G d_A_said_94 rfl h (fun h => ?_) (fun h => ?_)
      · refine zx_iload G d_A_said_101 rfl ?_
        refine zx_bipush (v := 9) G d_A_said_103 rfl ?_
        refine zx_join (P := fun k => ∀ (y15 : Int32) (μ16 : ZMem), k y15 μ16 = some rr → zX g K_A_said 4 E (some (.long rr.1), rr.2) μ16 126 [some (.ref (g.2.1 0 0)), none, some (.int p1), some (.int p2), some (.ref (g.2.1 3 t2)), some (.int y15), some (.int z8), none] []) h (fun y15 μ16 h => ?_) (fun k17 hk17 h => ?_)
        · try dsimp only at h
          refine zx_iinc (v := 1) (lf := fun y => [_, none, _, _, _, _, some (.int y), none]) G d_A_said_126 (Nat.le_of_ble_eq_true rfl) rfl rfl (fun _ => rfl) h (fun x18 h => ?_)
          refine zx_goto (tgt := 42) G d_A_said_129 rfl ?_
          exact ih42 y15 x18 μ16 h
        try dsimp only at h
        refine zx_icmp_ne (tgt := 126) G d_A_said_105 rfl h (fun h => ?_) (fun h => ?_)
        · refine zx_weak [true, false, true, true, true, true, true, false] (lv2 := [_, none, _, _, _, _, _, none]) rfl ?_
          exact hk17 z7 μ13 h
        · refine zx_iload G d_A_said_108 rfl ?_
          refine zx_iload_n G d_A_said_110 rfl ?_
          refine zx_icmp_ne (tgt := 123) G d_A_said_111 rfl h (fun h => ?_) (fun h => ?_)
          · refine zx_iinc (v := 1) (lf := fun y => [_, none, _, _, _, some (.int y), _, _]) G d_A_said_123 (Nat.le_of_ble_eq_true rfl) rfl rfl (fun _ => rfl) h (fun x19 h => ?_)
            refine zx_weak [true, false, true, true, true, true, true, false] (lv2 := [_, none, _, _, _, _, _, none]) rfl ?_
            exact hk17 x19 μ13 h
          · refine zx_weak [true, false, false, true, false, false, false, false] (lv2 := [_, none, none, _, none, none, none, none]) rfl ?_
            exact hkx114 μ13 h
      · refine zx_ldc2 (v := -10000000000000) G d_A_said_97 zk_A_146 ?_
        exact zx_lret G d_A_said_100 rfl h
set_option maxHeartbeats 4000000 in
set_option maxRecDepth 20000 in
theorem tf_A_said_l42 {g : ZG} {E : ZE} {N n42 : Nat} {rr : Int64 × ZMem} {p1 : Int32} {p2 : Int32} {t2 : Nat} {kx114 : ZMem → Option (Int64 × ZMem)} {z7 : Int32} {z8 : Int32} {μ9 : ZMem} (G : zGa g K_A_said 4 E) (hl0 : (0, 0) ∈ zids) (hl4 : (3, t2) ∈ zids) (h : f_A_said_l42 N p1 p2 t2 kx114 n42 z7 z8 μ9 = some rr) (hkx114 : ∀  (μ : ZMem), kx114 μ = some rr → zX g K_A_said 4 E (some (.long rr.1), rr.2) μ 114 [some (.ref (g.2.1 0 0)), none, none, some (.int p2), none, none, none, none] []) : zX g K_A_said 4 E (some (.long rr.1), rr.2) μ9 42 [some (.ref (g.2.1 0 0)), none, some (.int p1), some (.int p2), some (.ref (g.2.1 3 t2)), some (.int z7), some (.int z8), none] [] := tf_A_said_l42_0 G hl0 hl4 hkx114 n42 z7 z8 μ9 h
set_option maxHeartbeats 4000000 in
set_option maxRecDepth 20000 in
theorem t_A_said {g : ZG} {l : Launch} {N : Nat} {μ : ZMem} {p0 : Int32} {p1 : Int32} {p2 : Int32} {rr : Int64 × ZMem} (h : f_A_said N μ p0 p1 p2 = some rr) : zT g l 4 K_A_said [.ref (g.2.1 0 0), .int p0, .int p1, .int p2] μ (some (.long rr.1), rr.2) := by
  refine zT_of (by decide +kernel) (Nat.le_of_ble_eq_true rfl) (fun E G => ?_)
  show zX g K_A_said 4 E (some (.long rr.1), rr.2) μ 0 [some (.ref (g.2.1 0 0)), some (.int p0), some (.int p1), some (.int p2), none, none, none, none] []
  unfold f_A_said at h
  refine zx_aload_n G d_A_said_0 rfl ?_
  refine zx_iload_n G d_A_said_1 rfl ?_
  rcases zbrf_of h with ⟨μ1, hc, h⟩ | ⟨t2, μ1, hc, h⟩
  · refine zx_callVN (k := 3) (μ2 := μ1) G d_A_said_2 zm_A_115 (fun l => t_A_find  hc) rfl rfl (Nat.le_of_ble_eq_true rfl) (Nat.le_of_ble_eq_true rfl) (zrecv zo_0 (zids_of 0 (Nat.le_of_ble_eq_true rfl) 0 (Nat.le_of_ble_eq_true rfl))) ?_
    refine zx_astoreN (lv2 := [_, _, _, _, _, none, none, none]) G d_A_said_5 (Nat.le_of_ble_eq_true rfl) rfl ?_
    refine zx_aloadN G d_A_said_7 rfl ?_
    refine zx_ifnullN (tgt := 16) G d_A_said_9 rfl ?_
    refine zx_ldc2 (v := -10000000000000) G d_A_said_16 zk_A_146 ?_
    exact zx_lret G d_A_said_19 rfl h
  · obtain ⟨hz3, h⟩ := zchk_of h
    refine zx_callVP (k := 3) (r := t2) (μ2 := μ1) G d_A_said_2 zm_A_115 (fun l => t_A_find  hc) rfl rfl (Nat.le_of_ble_eq_true rfl) (Nat.le_of_ble_eq_true rfl) (zrecv zo_0 (zids_of 0 (Nat.le_of_ble_eq_true rfl) 0 (Nat.le_of_ble_eq_true rfl))) ?_
    refine zx_astore (lv2 := [_, _, _, _, _, none, none, none]) G d_A_said_5 (Nat.le_of_ble_eq_true rfl) rfl ?_
    refine zx_aload G d_A_said_7 rfl ?_
    refine zx_ifnull G d_A_said_9 ?_
    refine zx_iload_n G d_A_said_12 rfl ?_
    refine zx_if_ge (tgt := 20) G d_A_said_13 rfl h (fun h => ?_) (fun h => ?_)
    · refine zx_iconst (v := 0) G d_A_said_20 rfl ?_
      refine zx_istore (lf := fun y => [_, _, _, _, _, some (.int y), none, none]) G d_A_said_21 (Nat.le_of_ble_eq_true rfl) (fun _ => rfl) h (fun x4 h => ?_)
      refine zx_aload G d_A_said_23 rfl ?_
      refine zx_aload_n G d_A_said_25 rfl ?_
      refine zx_getR G d_A_said_26 zf_A_45 zc_0_5 (zids_of 0 (Nat.le_of_ble_eq_true rfl) 0 (Nat.le_of_ble_eq_true rfl)) ?_
      refine zx_aload_n G d_A_said_29 rfl ?_
      refine zx_getR G d_A_said_30 zf_A_35 zc_0_3 (zids_of 0 (Nat.le_of_ble_eq_true rfl) 0 (Nat.le_of_ble_eq_true rfl)) ?_
      refine zx_getR G d_A_said_33 zf_A_88 zc_5_1 (zi_0_3 (zids_of 0 (Nat.le_of_ble_eq_true rfl) 0 (Nat.le_of_ble_eq_true rfl))) ?_
      obtain ⟨u9, μ5, hc, h⟩ := zbnd_of h
      refine zx_callVV  (μ2 := μ5) G d_A_said_36 zm_A_156 (fun l => t_Table_begin (zidt hz3) (zi_0_5 (zids_of 0 (Nat.le_of_ble_eq_true rfl) 0 (Nat.le_of_ble_eq_true rfl))) (zi_5_1 (zi_0_3 (zids_of 0 (Nat.le_of_ble_eq_true rfl) 0 (Nat.le_of_ble_eq_true rfl)))) hc) rfl rfl (Nat.le_of_ble_eq_true rfl) (Nat.le_of_ble_eq_true rfl) (zrecv zo_3 (zidt hz3)) ?_
      refine zx_iconst (v := 0) G d_A_said_39 rfl ?_
      refine zx_istore (lf := fun y => [_, _, _, _, _, _, some (.int y), none]) G d_A_said_40 (Nat.le_of_ble_eq_true rfl) (fun _ => rfl) h (fun x6 h => ?_)
      refine zx_weak [true, false, true, true, true, true, true, false] (lv2 := [_, none, _, _, _, _, _, none]) rfl ?_
      refine tf_A_said_l42 G (zids_of 0 (Nat.le_of_ble_eq_true rfl) 0 (Nat.le_of_ble_eq_true rfl)) (zidt hz3) h (fun μ20 h => ?_)
      · try dsimp only at h
        refine zx_aload_n G d_A_said_114 rfl ?_
        refine zx_getR G d_A_said_115 zf_A_45 zc_0_5 (zids_of 0 (Nat.le_of_ble_eq_true rfl) 0 (Nat.le_of_ble_eq_true rfl)) ?_
        refine zx_iload_n G d_A_said_118 rfl ?_
        obtain ⟨r22, μ21, hc, h⟩ := zbnd_of h
        refine zx_callVJ (r := r22) (μ2 := μ21) G d_A_said_119 zm_A_152 (fun l => t_Value_part (zi_0_5 (zids_of 0 (Nat.le_of_ble_eq_true rfl) 0 (Nat.le_of_ble_eq_true rfl))) hc) rfl rfl (Nat.le_of_ble_eq_true rfl) (Nat.le_of_ble_eq_true rfl) (zrecv zo_7 (zi_0_5 (zids_of 0 (Nat.le_of_ble_eq_true rfl) 0 (Nat.le_of_ble_eq_true rfl)))) ?_
        exact zx_lret G d_A_said_122 rfl h
    · refine zx_ldc2 (v := -10000000000000) G d_A_said_16 zk_A_146 ?_
      exact zx_lret G d_A_said_19 rfl h
set_option maxHeartbeats 4000000 in
set_option maxRecDepth 20000 in
theorem t_A_isTold {g : ZG} {l : Launch} {N : Nat} {μ : ZMem} {p0 : Int32} {p1 : Int32} {rr : Int32 × ZMem} (h : f_A_isTold N μ p0 p1 = some rr) : zT g l 0 K_A_isTold [.int p0, .int p1] μ (some (.int rr.1), rr.2) := by
  refine zT_of (by decide +kernel) (Nat.le_of_ble_eq_true rfl) (fun E G => ?_)
  show zX g K_A_isTold 0 E (some (.int rr.1), rr.2) μ 0 [some (.int p0), some (.int p1)] []
  unfold f_A_isTold at h
  refine zx_iload_n G d_A_isTold_0 rfl ?_
  refine zx_ldcw (v := -1000000000) G d_A_isTold_1 zk_A_331 ?_
  refine zx_icmp_lt (tgt := 30) G d_A_isTold_4 rfl h (fun h => ?_) (fun h => ?_)
  · refine zx_iconst (v := 0) G d_A_isTold_30 rfl ?_
    exact zx_zretK G d_A_isTold_31 rfl (by decide) h
  · refine zx_iload_n G d_A_isTold_7 rfl ?_
    refine zx_ldcw (v := 1000000000) G d_A_isTold_8 zk_A_332 ?_
    refine zx_icmp_gt (tgt := 30) G d_A_isTold_11 rfl h (fun h => ?_) (fun h => ?_)
    · refine zx_iconst (v := 0) G d_A_isTold_30 rfl ?_
      exact zx_zretK G d_A_isTold_31 rfl (by decide) h
    · refine zx_iload_n G d_A_isTold_14 rfl ?_
      refine zx_iconst (v := 1) G d_A_isTold_15 rfl ?_
      refine zx_icmp_lt (tgt := 30) G d_A_isTold_16 rfl h (fun h => ?_) (fun h => ?_)
      · refine zx_iconst (v := 0) G d_A_isTold_30 rfl ?_
        exact zx_zretK G d_A_isTold_31 rfl (by decide) h
      · refine zx_iload_n G d_A_isTold_19 rfl ?_
        refine zx_ldcw (v := 1000000) G d_A_isTold_20 zk_A_333 ?_
        refine zx_icmp_gt (tgt := 30) G d_A_isTold_23 rfl h (fun h => ?_) (fun h => ?_)
        · refine zx_iconst (v := 0) G d_A_isTold_30 rfl ?_
          exact zx_zretK G d_A_isTold_31 rfl (by decide) h
        · refine zx_iconst (v := 1) G d_A_isTold_26 rfl ?_
          refine zx_goto (tgt := 31) G d_A_isTold_27 rfl ?_
          exact zx_zretK G d_A_isTold_31 rfl (by decide) h
set_option maxHeartbeats 4000000 in
set_option maxRecDepth 20000 in
theorem t_Values_append {g : ZG} {l : Launch} {N : Nat} {μ : ZMem} {o : Nat} {p0 : Nat} (ho : (6, o) ∈ zids) (hp0 : (7, p0) ∈ zids) {rr : Int32 × ZMem} (h : f_Values_append N μ o p0 = some rr) : zT g l 0 K_Values_append [.ref (g.2.1 6 o), .ref (g.2.1 7 p0)] μ (some (.int rr.1), rr.2) := by
  refine zT_of (by decide +kernel) (Nat.le_of_ble_eq_true rfl) (fun E G => ?_)
  show zX g K_Values_append 0 E (some (.int rr.1), rr.2) μ 0 [some (.ref (g.2.1 6 o)), some (.ref (g.2.1 7 p0))] []
  unfold f_Values_append at h
  refine zx_aload_n G d_Values_append_0 rfl ?_
  refine zx_getI G d_Values_append_1 zf_Values_18 zc_6_2 ho ?_
  refine zx_aload_n G d_Values_append_4 rfl ?_
  refine zx_getR G d_Values_append_5 zf_Values_9 zc_6_0 ho ?_
  refine zx_alenJ G d_Values_append_8 za_28 (zi_6_0 ho) ?_
  refine zx_icmp_lt (tgt := 14) G d_Values_append_9 rfl h (fun h => ?_) (fun h => ?_)
  · refine zx_aload_n G d_Values_append_14 rfl ?_
    refine zx_getR G d_Values_append_15 zf_Values_9 zc_6_0 ho ?_
    refine zx_aload_n G d_Values_append_18 rfl ?_
    refine zx_getI G d_Values_append_19 zf_Values_18 zc_6_2 ho ?_
    refine zx_aload_n G d_Values_append_22 rfl ?_
    refine zx_getJ G d_Values_append_23 zf_Values_36 zc_7_0 hp0 ?_
    refine zx_last G d_Values_append_26 za_28 (zi_6_0 ho) h (fun μ1 h => ?_)
    refine zx_aload_n G d_Values_append_27 rfl ?_
    refine zx_getR G d_Values_append_28 zf_Values_15 zc_6_1 ho ?_
    refine zx_aload_n G d_Values_append_31 rfl ?_
    refine zx_getI G d_Values_append_32 zf_Values_18 zc_6_2 ho ?_
    refine zx_aload_n G d_Values_append_35 rfl ?_
    refine zx_getJ G d_Values_append_36 zf_Values_40 zc_7_1 hp0 ?_
    refine zx_last G d_Values_append_39 za_29 (zi_6_1 ho) h (fun μ2 h => ?_)
    refine zx_aload_n G d_Values_append_40 rfl ?_
    refine zx_dup G d_Values_append_41 rfl ?_
    refine zx_getI G d_Values_append_42 zf_Values_18 zc_6_2 ho ?_
    refine zx_iconst (v := 1) G d_Values_append_45 rfl ?_
    refine zx_iadd G d_Values_append_46 ?_
    refine zx_putI G d_Values_append_47 zq_Values_18 zp_6_2 ho h (fun μ3 h => ?_)
    refine zx_iconst (v := 1) G d_Values_append_50 rfl ?_
    exact zx_zretK G d_Values_append_51 rfl (by decide) h
  · refine zx_iconst (v := 0) G d_Values_append_12 rfl ?_
    exact zx_zretK G d_Values_append_13 rfl (by decide) h
set_option maxHeartbeats 4000000 in
set_option maxRecDepth 20000 in
theorem t_Values_tell {g : ZG} {l : Launch} {N : Nat} {μ : ZMem} {o : Nat} {p0 : Int32} {p1 : Int32} {p2 : Nat} (ho : (6, o) ∈ zids) (hp2 : (7, p2) ∈ zids) {rr : Int32 × ZMem} (h : f_Values_tell N μ o p0 p1 p2 = some rr) : zT g l 3 K_Values_tell [.ref (g.2.1 6 o), .int p0, .int p1, .ref (g.2.1 7 p2)] μ (some (.int rr.1), rr.2) := by
  refine zT_of (by decide +kernel) (Nat.le_of_ble_eq_true rfl) (fun E G => ?_)
  show zX g K_Values_tell 3 E (some (.int rr.1), rr.2) μ 0 [some (.ref (g.2.1 6 o)), some (.int p0), some (.int p1), some (.ref (g.2.1 7 p2))] []
  unfold f_Values_tell at h
  refine zx_iload_n G d_Values_tell_0 rfl ?_
  refine zx_if_ne (tgt := 11) G d_Values_tell_1 rfl h (fun h => ?_) (fun h => ?_)
  · refine zx_iload_n G d_Values_tell_11 rfl ?_
    refine zx_iload_n G d_Values_tell_12 rfl ?_
    obtain ⟨r2, μ1, hc, h⟩ := zbnd_of h
    refine zx_callSI (r := r2) (μ2 := μ1) G d_Values_tell_13 zm_Values_22 (fun l => t_A_isTold  hc) rfl rfl (Nat.le_of_ble_eq_true rfl) (Nat.le_of_ble_eq_true rfl) ?_
    refine zx_if_ne (tgt := 21) G d_Values_tell_16 rfl h (fun h => ?_) (fun h => ?_)
    · refine zx_aload_n G d_Values_tell_21 rfl ?_
      refine zx_iload_n G d_Values_tell_22 rfl ?_
      refine zx_i2l G d_Values_tell_23 ?_
      refine zx_iload_n G d_Values_tell_24 rfl ?_
      refine zx_i2l G d_Values_tell_25 ?_
      obtain ⟨r4, μ3, hc, h⟩ := zbnd_of h
      refine zx_callVI (r := r4) (μ2 := μ3) G d_Values_tell_26 zm_Values_26 (fun l => t_Value_put hp2 hc) rfl rfl (Nat.le_of_ble_eq_true rfl) (Nat.le_of_ble_eq_true rfl) (zrecv zo_7 hp2) ?_
      refine zx_pop G d_Values_tell_29 rfl ?_
      refine zx_aload_n G d_Values_tell_30 rfl ?_
      refine zx_aload_n G d_Values_tell_31 rfl ?_
      obtain ⟨r6, μ5, hc, h⟩ := zbnd_of h
      refine zx_callVI (r := r6) (μ2 := μ5) G d_Values_tell_32 zm_Values_32 (fun l => t_Values_append ho hp2 hc) rfl rfl (Nat.le_of_ble_eq_true rfl) (Nat.le_of_ble_eq_true rfl) (zrecv zo_6 ho) ?_
      refine zx_if_eq (tgt := 45) G d_Values_tell_35 rfl h (fun h => ?_) (fun h => ?_)
      · refine zx_iconst (v := -1) G d_Values_tell_45 rfl ?_
        exact zx_iret G d_Values_tell_46 rfl h
      · refine zx_aload_n G d_Values_tell_38 rfl ?_
        refine zx_getI G d_Values_tell_39 zf_Values_18 zc_6_2 ho ?_
        refine zx_goto (tgt := 46) G d_Values_tell_42 rfl ?_
        exact zx_iret G d_Values_tell_46 rfl h
    · refine zx_iconst (v := -1) G d_Values_tell_19 rfl ?_
      exact zx_iret G d_Values_tell_20 rfl h
  · refine zx_aload_n G d_Values_tell_4 rfl ?_
    refine zx_iconst (v := 0) G d_Values_tell_5 rfl ?_
    refine zx_putI G d_Values_tell_6 zq_Values_18 zp_6_2 ho h (fun μ7 h => ?_)
    refine zx_iconst (v := 0) G d_Values_tell_9 rfl ?_
    exact zx_iret G d_Values_tell_10 rfl h
set_option maxHeartbeats 4000000 in
set_option maxRecDepth 20000 in
theorem t_A_claim {g : ZG} {l : Launch} {N : Nat} {μ : ZMem} {p0 : Int32} {p1 : Int32} {rr : Int32 × ZMem} (h : f_A_claim N μ p0 p1 = some rr) : zT g l 4 K_A_claim [.ref (g.2.1 0 0), .int p0, .int p1] μ (some (.int rr.1), rr.2) := by
  refine zT_of (by decide +kernel) (Nat.le_of_ble_eq_true rfl) (fun E G => ?_)
  show zX g K_A_claim 4 E (some (.int rr.1), rr.2) μ 0 [some (.ref (g.2.1 0 0)), some (.int p0), some (.int p1)] []
  unfold f_A_claim at h
  refine zx_aload_n G d_A_claim_0 rfl ?_
  refine zx_getR G d_A_claim_1 zf_A_35 zc_0_3 (zids_of 0 (Nat.le_of_ble_eq_true rfl) 0 (Nat.le_of_ble_eq_true rfl)) ?_
  refine zx_getR G d_A_claim_4 zf_A_168 zc_5_2 (zi_0_3 (zids_of 0 (Nat.le_of_ble_eq_true rfl) 0 (Nat.le_of_ble_eq_true rfl))) ?_
  refine zx_iload_n G d_A_claim_7 rfl ?_
  refine zx_iload_n G d_A_claim_8 rfl ?_
  refine zx_aload_n G d_A_claim_9 rfl ?_
  refine zx_getR G d_A_claim_10 zf_A_45 zc_0_5 (zids_of 0 (Nat.le_of_ble_eq_true rfl) 0 (Nat.le_of_ble_eq_true rfl)) ?_
  obtain ⟨r2, μ1, hc, h⟩ := zbnd_of h
  refine zx_callVI (r := r2) (μ2 := μ1) G d_A_claim_13 zm_A_172 (fun l => t_Values_tell (zi_5_2 (zi_0_3 (zids_of 0 (Nat.le_of_ble_eq_true rfl) 0 (Nat.le_of_ble_eq_true rfl)))) (zi_0_5 (zids_of 0 (Nat.le_of_ble_eq_true rfl) 0 (Nat.le_of_ble_eq_true rfl))) hc) rfl rfl (Nat.le_of_ble_eq_true rfl) (Nat.le_of_ble_eq_true rfl) (zrecv zo_6 (zi_5_2 (zi_0_3 (zids_of 0 (Nat.le_of_ble_eq_true rfl) 0 (Nat.le_of_ble_eq_true rfl))))) ?_
  exact zx_iret G d_A_claim_16 rfl h
set_option maxHeartbeats 4000000 in
set_option maxRecDepth 20000 in
theorem t_Value_is {g : ZG} {l : Launch} {N : Nat} {μ : ZMem} {o : Nat} {p0 : Int64} {p1 : Int64} (ho : (7, o) ∈ zids) {rr : Int32 × ZMem} (h : f_Value_is N μ o p0 p1 = some rr) : zT g l 0 K_Value_is [.ref (g.2.1 7 o), .long p0, .long p1] μ (some (.int rr.1), rr.2) := by
  refine zT_of (by decide +kernel) (Nat.le_of_ble_eq_true rfl) (fun E G => ?_)
  show zX g K_Value_is 0 E (some (.int rr.1), rr.2) μ 0 [some (.ref (g.2.1 7 o)), some (.long p0), none, some (.long p1), none] []
  unfold f_Value_is at h
  refine zx_aload_n G d_Value_is_0 rfl ?_
  refine zx_getJ G d_Value_is_1 zf_Value_15 zc_7_0 ho ?_
  refine zx_lload_n G d_Value_is_4 rfl ?_
  refine zx_lcmp G d_Value_is_5 ?_
  refine zx_if_ne (tgt := 22) G d_Value_is_6 rfl h (fun h => ?_) (fun h => ?_)
  · refine zx_iconst (v := 0) G d_Value_is_22 rfl ?_
    exact zx_zretK G d_Value_is_23 rfl (by decide) h
  · refine zx_aload_n G d_Value_is_9 rfl ?_
    refine zx_getJ G d_Value_is_10 zf_Value_9 zc_7_1 ho ?_
    refine zx_lload_n G d_Value_is_13 rfl ?_
    refine zx_lcmp G d_Value_is_14 ?_
    refine zx_if_ne (tgt := 22) G d_Value_is_15 rfl h (fun h => ?_) (fun h => ?_)
    · refine zx_iconst (v := 0) G d_Value_is_22 rfl ?_
      exact zx_zretK G d_Value_is_23 rfl (by decide) h
    · refine zx_iconst (v := 1) G d_Value_is_18 rfl ?_
      refine zx_goto (tgt := 23) G d_Value_is_19 rfl ?_
      exact zx_zretK G d_Value_is_23 rfl (by decide) h
set_option maxHeartbeats 4000000 in
set_option maxRecDepth 20000 in
theorem t_Values_holds {g : ZG} {l : Launch} {N : Nat} {μ : ZMem} {o : Nat} {p0 : Int32} {p1 : Nat} (ho : (6, o) ∈ zids) (hp1 : (7, p1) ∈ zids) {rr : Int32 × ZMem} (h : f_Values_holds N μ o p0 p1 = some rr) : zT g l 1 K_Values_holds [.ref (g.2.1 6 o), .int p0, .ref (g.2.1 7 p1)] μ (some (.int rr.1), rr.2) := by
  refine zT_of (by decide +kernel) (Nat.le_of_ble_eq_true rfl) (fun E G => ?_)
  show zX g K_Values_holds 1 E (some (.int rr.1), rr.2) μ 0 [some (.ref (g.2.1 6 o)), some (.int p0), some (.ref (g.2.1 7 p1))] []
  unfold f_Values_holds at h
  refine zx_iload_n G d_Values_holds_0 rfl ?_
  refine zx_if_lt (tgt := 35) G d_Values_holds_1 rfl h (fun h => ?_) (fun h => ?_)
  · refine zx_iconst (v := 0) G d_Values_holds_35 rfl ?_
    exact zx_zretK G d_Values_holds_36 rfl (by decide) h
  · refine zx_iload_n G d_Values_holds_4 rfl ?_
    refine zx_aload_n G d_Values_holds_5 rfl ?_
    refine zx_getI G d_Values_holds_6 zf_Values_18 zc_6_2 ho ?_
    refine zx_icmp_ge (tgt := 35) G d_Values_holds_9 rfl h (fun h => ?_) (fun h => ?_)
    · refine zx_iconst (v := 0) G d_Values_holds_35 rfl ?_
      exact zx_zretK G d_Values_holds_36 rfl (by decide) h
    · refine zx_aload_n G d_Values_holds_12 rfl ?_
      refine zx_aload_n G d_Values_holds_13 rfl ?_
      refine zx_getR G d_Values_holds_14 zf_Values_9 zc_6_0 ho ?_
      refine zx_iload_n G d_Values_holds_17 rfl ?_
      refine zx_lald G d_Values_holds_18 za_28 (zi_6_0 ho) h (fun h => ?_)
      refine zx_aload_n G d_Values_holds_19 rfl ?_
      refine zx_getR G d_Values_holds_20 zf_Values_15 zc_6_1 ho ?_
      refine zx_iload_n G d_Values_holds_23 rfl ?_
      refine zx_lald G d_Values_holds_24 za_29 (zi_6_1 ho) h (fun h => ?_)
      obtain ⟨r2, μ1, hc, h⟩ := zbnd_of h
      refine zx_callVI (r := r2) (μ2 := μ1) G d_Values_holds_25 zm_Values_47 (fun l => t_Value_is hp1 hc) rfl rfl (Nat.le_of_ble_eq_true rfl) (Nat.le_of_ble_eq_true rfl) (zrecv zo_7 hp1) ?_
      refine zx_if_eq (tgt := 35) G d_Values_holds_28 rfl h (fun h => ?_) (fun h => ?_)
      · refine zx_iconst (v := 0) G d_Values_holds_35 rfl ?_
        exact zx_zretK G d_Values_holds_36 rfl (by decide) h
      · refine zx_iconst (v := 1) G d_Values_holds_31 rfl ?_
        refine zx_goto (tgt := 36) G d_Values_holds_32 rfl ?_
        exact zx_zretK G d_Values_holds_36 rfl (by decide) h
set_option maxHeartbeats 4000000 in
set_option maxRecDepth 20000 in
theorem tf_A_judge_l52_0 {g : ZG} {E : ZE} {N : Nat} {rr : Int32 × ZMem} {t2 : Nat} {x4 : Int32} (G : zGa g K_A_judge 4 E) (hl0 : (0, 0) ∈ zids) (hl2 : (3, t2) ∈ zids) : ∀ (n52 : Nat) (z7 : Int32) (μ8 : ZMem), f_A_judge_l52 N t2 x4 n52 z7 μ8 = some rr → zX g K_A_judge 4 E (some (.int rr.1), rr.2) μ8 52 [some (.ref (g.2.1 0 0)), none, some (.ref (g.2.1 3 t2)), some (.int x4), some (.int z7), none] [] := by
  intro n52
  induction n52 with
  | zero => intro z7 μ8 h; cases h
  | succ n52 ih52 =>
    intro z7 μ8 h
    simp only [f_A_judge_l52] at h
    refine zx_iload G d_A_judge_52 rfl ?_
    refine zx_iload_n G d_A_judge_54 rfl ?_
    refine zx_icmp_ge (tgt := 126) G d_A_judge_55 rfl h (fun h => ?_) (fun h => ?_)
    · refine zx_iconst (v := -1) G d_A_judge_126 rfl ?_
      exact zx_iret G d_A_judge_127 rfl h
    · refine zx_aload_n G d_A_judge_58 rfl ?_
      refine zx_getR G d_A_judge_59 zf_A_45 zc_0_5 hl0 ?_
      refine zx_aload_n G d_A_judge_62 rfl ?_
      refine zx_getR G d_A_judge_63 zf_A_119 zc_3_0 hl2 ?_
      refine zx_getR G d_A_judge_66 zf_A_134 zc_4_0 (zi_3_0 hl2) ?_
      refine zx_iload G d_A_judge_69 rfl ?_
      refine zx_iald G d_A_judge_71 za_22 (zi_4_0 (zi_3_0 hl2)) h (fun h => ?_)
      refine zx_aload_n G d_A_judge_72 rfl ?_
      refine zx_getR G d_A_judge_73 zf_A_119 zc_3_0 hl2 ?_
      refine zx_iload G d_A_judge_76 rfl ?_
      refine zx_aload_n G d_A_judge_78 rfl ?_
      refine zx_getR G d_A_judge_79 zf_A_35 zc_0_3 hl0 ?_
      refine zx_getR G d_A_judge_82 zf_A_88 zc_5_1 (zi_0_3 hl0) ?_
      obtain ⟨r10, μ9, hc, h⟩ := zbnd_of h
      refine zx_callVI (r := r10) (μ2 := μ9) G d_A_judge_85 zm_A_160 (fun l => t_Orders_amount (zi_3_0 hl2) (zi_5_1 (zi_0_3 hl0)) hc) rfl rfl (Nat.le_of_ble_eq_true rfl) (Nat.le_of_ble_eq_true rfl) (zrecv zo_4 (zi_3_0 hl2)) ?_
      obtain ⟨r12, μ11, hc, h⟩ := zbnd_of h
      refine zx_callVI (r := r12) (μ2 := μ11) G d_A_judge_88 zm_A_164 (fun l => t_Value_obey (zi_0_5 hl0) hc) rfl rfl (Nat.le_of_ble_eq_true rfl) (Nat.le_of_ble_eq_true rfl) (zrecv zo_7 (zi_0_5 hl0)) ?_
      refine zx_istore (lf := fun y => [_, none, _, _, _, some (.int y)]) G d_A_judge_91 (Nat.le_of_ble_eq_true rfl) (fun _ => rfl) h (fun x13 h => ?_)
      refine zx_iload G d_A_judge_93 rfl ?_
      refine zx_if_eq (tgt := 117) G d_A_judge_95 rfl h (fun h => ?_) (fun h => ?_)
      · refine zx_iload G d_A_judge_117 rfl ?_
        exact zx_iret G d_A_judge_119 rfl h
      · refine zx_aload_n G d_A_judge_98 rfl ?_
        refine zx_getR G d_A_judge_99 zf_A_35 zc_0_3 hl0 ?_
        refine zx_getR G d_A_judge_102 zf_A_168 zc_5_2 (zi_0_3 hl0) ?_
        refine zx_iload G d_A_judge_105 rfl ?_
        refine zx_aload_n G d_A_judge_107 rfl ?_
        refine zx_getR G d_A_judge_108 zf_A_45 zc_0_5 hl0 ?_
        obtain ⟨r15, μ14, hc, h⟩ := zbnd_of h
        refine zx_callVI (r := r15) (μ2 := μ14) G d_A_judge_111 zm_A_185 (fun l => t_Values_holds (zi_5_2 (zi_0_3 hl0)) (zi_0_5 hl0) hc) rfl rfl (Nat.le_of_ble_eq_true rfl) (Nat.le_of_ble_eq_true rfl) (zrecv zo_6 (zi_5_2 (zi_0_3 hl0))) ?_
        refine zx_if_ne (tgt := 120) G d_A_judge_114 rfl h (fun h => ?_) (fun h => ?_)
        · refine zx_iinc (v := 1) (lf := fun y => [_, none, _, _, some (.int y), _]) G d_A_judge_120 (Nat.le_of_ble_eq_true rfl) rfl rfl (fun _ => rfl) h (fun x16 h => ?_)
          refine zx_goto (tgt := 52) G d_A_judge_123 rfl ?_
          refine zx_weak [true, false, true, true, true, false] (lv2 := [_, none, _, _, _, none]) rfl ?_
          exact ih52 x16 μ14 h
        · refine zx_iload G d_A_judge_117 rfl ?_
          exact zx_iret G d_A_judge_119 rfl h
set_option maxHeartbeats 4000000 in
set_option maxRecDepth 20000 in
theorem tf_A_judge_l52 {g : ZG} {E : ZE} {N n52 : Nat} {rr : Int32 × ZMem} {t2 : Nat} {x4 : Int32} {z7 : Int32} {μ8 : ZMem} (G : zGa g K_A_judge 4 E) (hl0 : (0, 0) ∈ zids) (hl2 : (3, t2) ∈ zids) (h : f_A_judge_l52 N t2 x4 n52 z7 μ8 = some rr) : zX g K_A_judge 4 E (some (.int rr.1), rr.2) μ8 52 [some (.ref (g.2.1 0 0)), none, some (.ref (g.2.1 3 t2)), some (.int x4), some (.int z7), none] [] := tf_A_judge_l52_0 G hl0 hl2 n52 z7 μ8 h
set_option maxHeartbeats 4000000 in
set_option maxRecDepth 20000 in
theorem t_A_judge {g : ZG} {l : Launch} {N : Nat} {μ : ZMem} {p0 : Int32} {rr : Int32 × ZMem} (h : f_A_judge N μ p0 = some rr) : zT g l 4 K_A_judge [.ref (g.2.1 0 0), .int p0] μ (some (.int rr.1), rr.2) := by
  refine zT_of (by decide +kernel) (Nat.le_of_ble_eq_true rfl) (fun E G => ?_)
  show zX g K_A_judge 4 E (some (.int rr.1), rr.2) μ 0 [some (.ref (g.2.1 0 0)), some (.int p0), none, none, none, none] []
  unfold f_A_judge at h
  refine zx_aload_n G d_A_judge_0 rfl ?_
  refine zx_iload_n G d_A_judge_1 rfl ?_
  rcases zbrf_of h with ⟨μ1, hc, h⟩ | ⟨t2, μ1, hc, h⟩
  · refine zx_callVN (k := 3) (μ2 := μ1) G d_A_judge_2 zm_A_115 (fun l => t_A_find  hc) rfl rfl (Nat.le_of_ble_eq_true rfl) (Nat.le_of_ble_eq_true rfl) (zrecv zo_0 (zids_of 0 (Nat.le_of_ble_eq_true rfl) 0 (Nat.le_of_ble_eq_true rfl))) ?_
    refine zx_astore_nN (lv2 := [_, _, _, none, none, none]) G d_A_judge_5 (Nat.le_of_ble_eq_true rfl) rfl ?_
    refine zx_aload_nN G d_A_judge_6 rfl ?_
    refine zx_ifnonnullN G d_A_judge_7 ?_
    refine zx_bipush (v := -2) G d_A_judge_10 rfl ?_
    exact zx_iret G d_A_judge_12 rfl h
  · obtain ⟨hz3, h⟩ := zchk_of h
    refine zx_callVP (k := 3) (r := t2) (μ2 := μ1) G d_A_judge_2 zm_A_115 (fun l => t_A_find  hc) rfl rfl (Nat.le_of_ble_eq_true rfl) (Nat.le_of_ble_eq_true rfl) (zrecv zo_0 (zids_of 0 (Nat.le_of_ble_eq_true rfl) 0 (Nat.le_of_ble_eq_true rfl))) ?_
    refine zx_astore_n (lv2 := [_, _, _, none, none, none]) G d_A_judge_5 (Nat.le_of_ble_eq_true rfl) rfl ?_
    refine zx_aload_n G d_A_judge_6 rfl ?_
    refine zx_ifnonnull (tgt := 13) G d_A_judge_7 rfl ?_
    refine zx_aload_n G d_A_judge_13 rfl ?_
    refine zx_getR G d_A_judge_14 zf_A_119 zc_3_0 (zidt hz3) ?_
    refine zx_getI G d_A_judge_17 zf_A_123 zc_4_2 (zi_3_0 (zidt hz3)) ?_
    refine zx_aload_n G d_A_judge_20 rfl ?_
    refine zx_getR G d_A_judge_21 zf_A_35 zc_0_3 (zids_of 0 (Nat.le_of_ble_eq_true rfl) 0 (Nat.le_of_ble_eq_true rfl)) ?_
    refine zx_getR G d_A_judge_24 zf_A_168 zc_5_2 (zi_0_3 (zids_of 0 (Nat.le_of_ble_eq_true rfl) 0 (Nat.le_of_ble_eq_true rfl))) ?_
    refine zx_getI G d_A_judge_27 zf_A_178 zc_6_2 (zi_5_2 (zi_0_3 (zids_of 0 (Nat.le_of_ble_eq_true rfl) 0 (Nat.le_of_ble_eq_true rfl)))) ?_
    refine zx_mmin G d_A_judge_30 zm_A_179 zMs_min zMi zMy_min (Nat.le_of_ble_eq_true rfl) (Nat.le_of_ble_eq_true rfl) ?_
    refine zx_istore_n (lf := fun y => [_, _, _, some (.int y), none, none]) G d_A_judge_33 (Nat.le_of_ble_eq_true rfl) (fun _ => rfl) h (fun x4 h => ?_)
    refine zx_aload_n G d_A_judge_34 rfl ?_
    refine zx_aload_n G d_A_judge_35 rfl ?_
    refine zx_getR G d_A_judge_36 zf_A_45 zc_0_5 (zids_of 0 (Nat.le_of_ble_eq_true rfl) 0 (Nat.le_of_ble_eq_true rfl)) ?_
    refine zx_aload_n G d_A_judge_39 rfl ?_
    refine zx_getR G d_A_judge_40 zf_A_35 zc_0_3 (zids_of 0 (Nat.le_of_ble_eq_true rfl) 0 (Nat.le_of_ble_eq_true rfl)) ?_
    refine zx_getR G d_A_judge_43 zf_A_88 zc_5_1 (zi_0_3 (zids_of 0 (Nat.le_of_ble_eq_true rfl) 0 (Nat.le_of_ble_eq_true rfl))) ?_
    obtain ⟨u9, μ5, hc, h⟩ := zbnd_of h
    refine zx_callVV  (μ2 := μ5) G d_A_judge_46 zm_A_156 (fun l => t_Table_begin (zidt hz3) (zi_0_5 (zids_of 0 (Nat.le_of_ble_eq_true rfl) 0 (Nat.le_of_ble_eq_true rfl))) (zi_5_1 (zi_0_3 (zids_of 0 (Nat.le_of_ble_eq_true rfl) 0 (Nat.le_of_ble_eq_true rfl)))) hc) rfl rfl (Nat.le_of_ble_eq_true rfl) (Nat.le_of_ble_eq_true rfl) (zrecv zo_3 (zidt hz3)) ?_
    refine zx_iconst (v := 0) G d_A_judge_49 rfl ?_
    refine zx_istore (lf := fun y => [_, _, _, _, some (.int y), none]) G d_A_judge_50 (Nat.le_of_ble_eq_true rfl) (fun _ => rfl) h (fun x6 h => ?_)
    refine zx_weak [true, false, true, true, true, false] (lv2 := [_, none, _, _, _, none]) rfl ?_
    refine tf_A_judge_l52 G (zids_of 0 (Nat.le_of_ble_eq_true rfl) 0 (Nat.le_of_ble_eq_true rfl)) (zidt hz3) h
set_option maxHeartbeats 4000000 in
set_option maxRecDepth 20000 in
theorem tf_Table_countAll_l4_0 {g : ZG} {E : ZE} {N : Nat} {rr : Int64 × ZMem} {o : Nat} (G : zGa g K_Table_countAll 2 E) (hl0 : (3, o) ∈ zids) : ∀ (n4 : Nat) (z3 : Int64) (z4 : Int32) (μ5 : ZMem), f_Table_countAll_l4 N o n4 z3 z4 μ5 = some rr → zX g K_Table_countAll 2 E (some (.long rr.1), rr.2) μ5 4 [some (.ref (g.2.1 3 o)), some (.long z3), none, some (.int z4)] [] := by
  intro n4
  induction n4 with
  | zero => intro z3 z4 μ5 h; cases h
  | succ n4 ih4 =>
    intro z3 z4 μ5 h
    simp only [f_Table_countAll_l4] at h
    refine zx_iload_n G d_Table_countAll_4 rfl ?_
    refine zx_iconst (v := 4) G d_Table_countAll_5 rfl ?_
    refine zx_icmp_ge (tgt := 42) G d_Table_countAll_6 rfl h (fun h => ?_) (fun h => ?_)
    · refine zx_lload_n G d_Table_countAll_42 rfl ?_
      exact zx_lret G d_Table_countAll_43 rfl h
    · refine zx_aload_n G d_Table_countAll_9 rfl ?_
      refine zx_iload_n G d_Table_countAll_10 rfl ?_
      obtain ⟨r7, μ6, hc, h⟩ := zbnd_of h
      refine zx_callVI (r := r7) (μ2 := μ6) G d_Table_countAll_11 zm_Table_41 (fun l => t_Table_isHidden hl0 hc) rfl rfl (Nat.le_of_ble_eq_true rfl) (Nat.le_of_ble_eq_true rfl) (zrecv zo_3 hl0) ?_
      refine zx_join (P := fun k => ∀ (y8 : Int64) (μ9 : ZMem), k y8 μ9 = some rr → zX g K_Table_countAll 2 E (some (.long rr.1), rr.2) μ9 36 [some (.ref (g.2.1 3 o)), some (.long y8), none, some (.int z4)] []) h (fun y8 μ9 h => ?_) (fun k10 hk10 h => ?_)
      · try dsimp only at h
        refine zx_iinc (v := 1) (lf := fun y => [_, _, none, some (.int y)]) G d_Table_countAll_36 (Nat.le_of_ble_eq_true rfl) rfl rfl (fun _ => rfl) h (fun x11 h => ?_)
        refine zx_goto (tgt := 4) G d_Table_countAll_39 rfl ?_
        exact ih4 y8 x11 μ9 h
      try dsimp only at h
      refine zx_if_eq (tgt := 36) G d_Table_countAll_14 rfl h (fun h => ?_) (fun h => ?_)
      · exact hk10 z3 μ6 h
      · refine zx_lload_n G d_Table_countAll_17 rfl ?_
        refine zx_aload_n G d_Table_countAll_18 rfl ?_
        refine zx_getR G d_Table_countAll_19 zf_Table_24 zc_3_2 hl0 ?_
        refine zx_iload_n G d_Table_countAll_22 rfl ?_
        refine zx_iald G d_Table_countAll_23 za_25 (zi_3_2 hl0) h (fun h => ?_)
        refine zx_aload_n G d_Table_countAll_24 rfl ?_
        refine zx_getR G d_Table_countAll_25 zf_Table_20 zc_3_1 hl0 ?_
        refine zx_iload_n G d_Table_countAll_28 rfl ?_
        refine zx_iald G d_Table_countAll_29 za_24 (zi_3_1 hl0) h (fun h => ?_)
        refine zx_isub G d_Table_countAll_30 ?_
        refine zx_iconst (v := 1) G d_Table_countAll_31 rfl ?_
        refine zx_iadd G d_Table_countAll_32 ?_
        refine zx_i2l G d_Table_countAll_33 ?_
        refine zx_lmul G d_Table_countAll_34 ?_
        refine zx_lstore_n (lf := fun y => [_, some (.long y), none, _]) G d_Table_countAll_35 (Nat.le_of_ble_eq_true rfl) (fun _ => rfl) h (fun x12 h => ?_)
        exact hk10 x12 μ6 h
set_option maxHeartbeats 4000000 in
set_option maxRecDepth 20000 in
theorem tf_Table_countAll_l4 {g : ZG} {E : ZE} {N n4 : Nat} {rr : Int64 × ZMem} {o : Nat} {z3 : Int64} {z4 : Int32} {μ5 : ZMem} (G : zGa g K_Table_countAll 2 E) (hl0 : (3, o) ∈ zids) (h : f_Table_countAll_l4 N o n4 z3 z4 μ5 = some rr) : zX g K_Table_countAll 2 E (some (.long rr.1), rr.2) μ5 4 [some (.ref (g.2.1 3 o)), some (.long z3), none, some (.int z4)] [] := tf_Table_countAll_l4_0 G hl0 n4 z3 z4 μ5 h
set_option maxHeartbeats 4000000 in
set_option maxRecDepth 20000 in
theorem t_Table_countAll {g : ZG} {l : Launch} {N : Nat} {μ : ZMem} {o : Nat} (ho : (3, o) ∈ zids) {rr : Int64 × ZMem} (h : f_Table_countAll N μ o = some rr) : zT g l 2 K_Table_countAll [.ref (g.2.1 3 o)] μ (some (.long rr.1), rr.2) := by
  refine zT_of (by decide +kernel) (Nat.le_of_ble_eq_true rfl) (fun E G => ?_)
  show zX g K_Table_countAll 2 E (some (.long rr.1), rr.2) μ 0 [some (.ref (g.2.1 3 o)), none, none, none] []
  unfold f_Table_countAll at h
  refine zx_lconst (v := 1) G d_Table_countAll_0 rfl ?_
  refine zx_lstore_n (lf := fun y => [_, some (.long y), none, none]) G d_Table_countAll_1 (Nat.le_of_ble_eq_true rfl) (fun _ => rfl) h (fun x1 h => ?_)
  refine zx_iconst (v := 0) G d_Table_countAll_2 rfl ?_
  refine zx_istore_n (lf := fun y => [_, _, none, some (.int y)]) G d_Table_countAll_3 (Nat.le_of_ble_eq_true rfl) (fun _ => rfl) h (fun x2 h => ?_)
  refine tf_Table_countAll_l4 G ho h
