/-! contracts: each method does what its function says (by program: wip/whole/gen.py) -/
set_option maxHeartbeats 4000000 in
set_option maxRecDepth 20000 in
theorem t_M_value {g : ZG} {l : Launch} {N : Nat} {μ : ZMem} {p0 : Int32} {rr : Int64 × ZMem} (h : f_M_value N μ p0 = some rr) : zT g l 0 K_M_value [.ref (g.2.1 12 0), .int p0] μ (some (.long rr.1), rr.2) := by
  refine zT_of (by decide +kernel) (Nat.le_of_ble_eq_true rfl) (fun E G => ?_)
  show zX g K_M_value 0 E (some (.long rr.1), rr.2) μ 0 [some (.ref (g.2.1 12 0)), some (.int p0)] []
  unfold f_M_value at h
  refine zx_aload_n G d_M_value_0 rfl ?_
  refine zx_getR G d_M_value_1 zf_M_16 zc_12_2 (zids_of 12 (Nat.le_of_ble_eq_true rfl) 0 (Nat.le_of_ble_eq_true rfl)) ?_
  refine zx_iload_n G d_M_value_4 rfl ?_
  refine zx_if_eq (tgt := 13) G d_M_value_5 rfl h (fun h => ?_) (fun h => ?_)
  · refine zx_bipush (v := 60) G d_M_value_13 rfl ?_
    refine zx_lald G d_M_value_15 za_41 (zi_12_2 (zids_of 12 (Nat.le_of_ble_eq_true rfl) 0 (Nat.le_of_ble_eq_true rfl))) h (fun h => ?_)
    exact zx_lret G d_M_value_16 rfl h
  · refine zx_bipush (v := 61) G d_M_value_8 rfl ?_
    refine zx_goto (tgt := 15) G d_M_value_10 rfl ?_
    refine zx_lald G d_M_value_15 za_41 (zi_12_2 (zids_of 12 (Nat.le_of_ble_eq_true rfl) 0 (Nat.le_of_ble_eq_true rfl))) h (fun h => ?_)
    exact zx_lret G d_M_value_16 rfl h
set_option maxHeartbeats 4000000 in
set_option maxRecDepth 20000 in
theorem t_M_image {g : ZG} {l : Launch} {N : Nat} {μ : ZMem} {rr : Int32 × ZMem} (h : f_M_image N μ = some rr) : zT g l 1 K_M_image [.ref (g.2.1 12 0)] μ (some (.int rr.1), rr.2) := by
  refine zT_of (by decide +kernel) (Nat.le_of_ble_eq_true rfl) (fun E G => ?_)
  show zX g K_M_image 1 E (some (.int rr.1), rr.2) μ 0 [some (.ref (g.2.1 12 0))] []
  unfold f_M_image at h
  refine zx_aload_n G d_M_image_0 rfl ?_
  refine zx_getR G d_M_image_1 zf_M_7 zc_12_0 (zids_of 12 (Nat.le_of_ble_eq_true rfl) 0 (Nat.le_of_ble_eq_true rfl)) ?_
  refine zx_aload_n G d_M_image_4 rfl ?_
  refine zx_getR G d_M_image_5 zf_M_16 zc_12_2 (zids_of 12 (Nat.le_of_ble_eq_true rfl) 0 (Nat.le_of_ble_eq_true rfl)) ?_
  refine zx_aload_n G d_M_image_8 rfl ?_
  refine zx_getR G d_M_image_9 zf_M_13 zc_12_1 (zids_of 12 (Nat.le_of_ble_eq_true rfl) 0 (Nat.le_of_ble_eq_true rfl)) ?_
  refine zx_aload_n G d_M_image_12 rfl ?_
  refine zx_getR G d_M_image_13 zf_M_20 zc_12_3 (zids_of 12 (Nat.le_of_ble_eq_true rfl) 0 (Nat.le_of_ble_eq_true rfl)) ?_
  obtain ⟨u9, μ1, hc, h⟩ := zbnd_of h
  refine zx_callSV  (μ2 := μ1) G d_M_image_16 zm_M_64 (fun l => t_M_copyAll (zi_12_0 (zids_of 12 (Nat.le_of_ble_eq_true rfl) 0 (Nat.le_of_ble_eq_true rfl))) (zi_12_2 (zids_of 12 (Nat.le_of_ble_eq_true rfl) 0 (Nat.le_of_ble_eq_true rfl))) (zi_12_1 (zids_of 12 (Nat.le_of_ble_eq_true rfl) 0 (Nat.le_of_ble_eq_true rfl))) (zi_12_3 (zids_of 12 (Nat.le_of_ble_eq_true rfl) 0 (Nat.le_of_ble_eq_true rfl))) hc) rfl rfl (Nat.le_of_ble_eq_true rfl) (Nat.le_of_ble_eq_true rfl) ?_
  refine zx_aload_n G d_M_image_19 rfl ?_
  refine zx_getR G d_M_image_20 zf_M_7 zc_12_0 (zids_of 12 (Nat.le_of_ble_eq_true rfl) 0 (Nat.le_of_ble_eq_true rfl)) ?_
  refine zx_iconst (v := 2) G d_M_image_23 rfl ?_
  refine zx_iald G d_M_image_24 za_40 (zi_12_0 (zids_of 12 (Nat.le_of_ble_eq_true rfl) 0 (Nat.le_of_ble_eq_true rfl))) h (fun h => ?_)
  exact zx_iret G d_M_image_25 rfl h
set_option maxHeartbeats 4000000 in
set_option maxRecDepth 20000 in
theorem t_M_back {g : ZG} {l : Launch} {N : Nat} {μ : ZMem} {rr : Int32 × ZMem} (h : f_M_back N μ = some rr) : zT g l 1 K_M_back [.ref (g.2.1 12 0)] μ (some (.int rr.1), rr.2) := by
  refine zT_of (by decide +kernel) (Nat.le_of_ble_eq_true rfl) (fun E G => ?_)
  show zX g K_M_back 1 E (some (.int rr.1), rr.2) μ 0 [some (.ref (g.2.1 12 0))] []
  unfold f_M_back at h
  refine zx_aload_n G d_M_back_0 rfl ?_
  refine zx_getR G d_M_back_1 zf_M_13 zc_12_1 (zids_of 12 (Nat.le_of_ble_eq_true rfl) 0 (Nat.le_of_ble_eq_true rfl)) ?_
  refine zx_aload_n G d_M_back_4 rfl ?_
  refine zx_getR G d_M_back_5 zf_M_20 zc_12_3 (zids_of 12 (Nat.le_of_ble_eq_true rfl) 0 (Nat.le_of_ble_eq_true rfl)) ?_
  refine zx_aload_n G d_M_back_8 rfl ?_
  refine zx_getR G d_M_back_9 zf_M_7 zc_12_0 (zids_of 12 (Nat.le_of_ble_eq_true rfl) 0 (Nat.le_of_ble_eq_true rfl)) ?_
  refine zx_aload_n G d_M_back_12 rfl ?_
  refine zx_getR G d_M_back_13 zf_M_16 zc_12_2 (zids_of 12 (Nat.le_of_ble_eq_true rfl) 0 (Nat.le_of_ble_eq_true rfl)) ?_
  obtain ⟨u9, μ1, hc, h⟩ := zbnd_of h
  refine zx_callSV  (μ2 := μ1) G d_M_back_16 zm_M_64 (fun l => t_M_copyAll (zi_12_1 (zids_of 12 (Nat.le_of_ble_eq_true rfl) 0 (Nat.le_of_ble_eq_true rfl))) (zi_12_3 (zids_of 12 (Nat.le_of_ble_eq_true rfl) 0 (Nat.le_of_ble_eq_true rfl))) (zi_12_0 (zids_of 12 (Nat.le_of_ble_eq_true rfl) 0 (Nat.le_of_ble_eq_true rfl))) (zi_12_2 (zids_of 12 (Nat.le_of_ble_eq_true rfl) 0 (Nat.le_of_ble_eq_true rfl))) hc) rfl rfl (Nat.le_of_ble_eq_true rfl) (Nat.le_of_ble_eq_true rfl) ?_
  refine zx_aload_n G d_M_back_19 rfl ?_
  refine zx_getR G d_M_back_20 zf_M_7 zc_12_0 (zids_of 12 (Nat.le_of_ble_eq_true rfl) 0 (Nat.le_of_ble_eq_true rfl)) ?_
  refine zx_iconst (v := 2) G d_M_back_23 rfl ?_
  refine zx_iald G d_M_back_24 za_40 (zi_12_0 (zids_of 12 (Nat.le_of_ble_eq_true rfl) 0 (Nat.le_of_ble_eq_true rfl))) h (fun h => ?_)
  exact zx_iret G d_M_back_25 rfl h
set_option maxHeartbeats 4000000 in
set_option maxRecDepth 20000 in
theorem t_M_about {g : ZG} {l : Launch} {N : Nat} {μ : ZMem} {p0 : Int32} {rr : Int32 × ZMem} (h : f_M_about N μ p0 = some rr) : zT g l 1 K_M_about [.ref (g.2.1 12 0), .int p0] μ (some (.int rr.1), rr.2) := by
  refine zT_of (by decide +kernel) (Nat.le_of_ble_eq_true rfl) (fun E G => ?_)
  show zX g K_M_about 1 E (some (.int rr.1), rr.2) μ 0 [some (.ref (g.2.1 12 0)), some (.int p0)] []
  unfold f_M_about at h
  refine zx_iload_n G d_M_about_0 rfl ?_
  refine zx_bipush (v := 10) G d_M_about_1 rfl ?_
  refine zx_bipush (v := 13) G d_M_about_3 rfl ?_
  obtain ⟨r2, μ1, hc, h⟩ := zbnd_of h
  refine zx_callSI (r := r2) (μ2 := μ1) G d_M_about_5 zm_M_68 (fun l => t_M_isIn  hc) rfl rfl (Nat.le_of_ble_eq_true rfl) (Nat.le_of_ble_eq_true rfl) ?_
  refine zx_if_eq (tgt := 24) G d_M_about_8 rfl h (fun h => ?_) (fun h => ?_)
  · refine zx_iload_n G d_M_about_24 rfl ?_
    refine zx_iconst (v := 0) G d_M_about_25 rfl ?_
    refine zx_bipush (v := 7) G d_M_about_26 rfl ?_
    obtain ⟨r4, μ3, hc, h⟩ := zbnd_of h
    refine zx_callSI (r := r4) (μ2 := μ3) G d_M_about_28 zm_M_68 (fun l => t_M_isIn  hc) rfl rfl (Nat.le_of_ble_eq_true rfl) (Nat.le_of_ble_eq_true rfl) ?_
    refine zx_if_eq (tgt := 43) G d_M_about_31 rfl h (fun h => ?_) (fun h => ?_)
    · refine zx_iload_n G d_M_about_43 rfl ?_
      refine zx_bipush (v := 8) G d_M_about_44 rfl ?_
      refine zx_icmp_ne (tgt := 56) G d_M_about_46 rfl h (fun h => ?_) (fun h => ?_)
      · refine zx_bipush (v := -2) G d_M_about_56 rfl ?_
        exact zx_iret G d_M_about_58 rfl h
      · refine zx_aload_n G d_M_about_49 rfl ?_
        refine zx_getI G d_M_about_50 zf_M_76 zc_12_6 (zids_of 12 (Nat.le_of_ble_eq_true rfl) 0 (Nat.le_of_ble_eq_true rfl)) ?_
        refine zx_goto (tgt := 58) G d_M_about_53 rfl ?_
        exact zx_iret G d_M_about_58 rfl h
    · refine zx_aload_n G d_M_about_34 rfl ?_
      refine zx_getR G d_M_about_35 zf_M_7 zc_12_0 (zids_of 12 (Nat.le_of_ble_eq_true rfl) 0 (Nat.le_of_ble_eq_true rfl)) ?_
      refine zx_iload_n G d_M_about_38 rfl ?_
      refine zx_iald G d_M_about_39 za_40 (zi_12_0 (zids_of 12 (Nat.le_of_ble_eq_true rfl) 0 (Nat.le_of_ble_eq_true rfl))) h (fun h => ?_)
      refine zx_goto (tgt := 58) G d_M_about_40 rfl ?_
      exact zx_iret G d_M_about_58 rfl h
  · refine zx_aload_n G d_M_about_11 rfl ?_
    refine zx_getR G d_M_about_12 zf_M_7 zc_12_0 (zids_of 12 (Nat.le_of_ble_eq_true rfl) 0 (Nat.le_of_ble_eq_true rfl)) ?_
    refine zx_bipush (v := 8) G d_M_about_15 rfl ?_
    refine zx_iload_n G d_M_about_17 rfl ?_
    refine zx_iadd G d_M_about_18 ?_
    refine zx_bipush (v := 10) G d_M_about_19 rfl ?_
    refine zx_isub G d_M_about_21 ?_
    refine zx_iald G d_M_about_22 za_40 (zi_12_0 (zids_of 12 (Nat.le_of_ble_eq_true rfl) 0 (Nat.le_of_ble_eq_true rfl))) h (fun h => ?_)
    exact zx_iret G d_M_about_23 rfl h
