/-! contracts: each method does what its function says (by program: wip/whole/gen.py) -/
set_option maxHeartbeats 4000000 in
set_option maxRecDepth 20000 in
theorem tf_M_made_l86_0 {g : ZG} {E : ZE} {N : Nat} {rr : Int32 × ZMem} {p0 : Int32} {p1 : Int32} {p2 : Int32} {p3 : Int32} {p4 : Int32} {kx105 : Int32 → ZMem → Option (Int32 × ZMem)} (G : zGa g K_M_made 7 E) (hl0 : (12, 0) ∈ zids) (hkx105 : ∀ (w6 : Int32) (μ : ZMem), kx105 w6 μ = some rr → zX g K_M_made 7 E (some (.int rr.1), rr.2) μ 105 [some (.ref (g.2.1 12 0)), none, none, none, none, some (.int p4), some (.int w6)] []) : ∀ (n86 : Nat) (z12 : Int32) (μ13 : ZMem), f_M_made_l86 N p0 p1 p2 p3 p4 kx105 n86 z12 μ13 = some rr → zX g K_M_made 7 E (some (.int rr.1), rr.2) μ13 86 [some (.ref (g.2.1 12 0)), some (.int p0), some (.int p1), some (.int p2), some (.int p3), some (.int p4), some (.int z12)] [] := by
  intro n86
  induction n86 with
  | zero => intro z12 μ13 h; cases h
  | succ n86 ih86 =>
    intro z12 μ13 h
    simp only [f_M_made_l86] at h
    refine zx_iload G d_M_made_86 rfl ?_
    refine zx_iload G d_M_made_88 rfl ?_
    refine zx_icmp_gt (tgt := 142) G d_M_made_90 rfl h (fun h => ?_) (fun h => ?_)
    · refine zx_bipush (v := -2) G d_M_made_142 rfl ?_
      exact zx_iret G d_M_made_144 rfl h
    · refine zx_aload_n G d_M_made_93 rfl ?_
      refine zx_iload_n G d_M_made_94 rfl ?_
      refine zx_iload_n G d_M_made_95 rfl ?_
      refine zx_iload_n G d_M_made_96 rfl ?_
      refine zx_iload G d_M_made_97 rfl ?_
      obtain ⟨r15, μ14, hc, h⟩ := zbnd_of h
      refine zx_callVI (r := r15) (μ2 := μ14) G d_M_made_99 zm_M_315 (fun l => t_M_isMade  hc) rfl rfl (Nat.le_of_ble_eq_true rfl) (Nat.le_of_ble_eq_true rfl) (zrecv zo_12 hl0) ?_
      refine zx_if_eq (tgt := 136) G d_M_made_102 rfl h (fun h => ?_) (fun h => ?_)
      · refine zx_iinc (v := 1) (lf := fun y => [_, _, _, _, _, _, some (.int y)]) G d_M_made_136 (Nat.le_of_ble_eq_true rfl) rfl rfl (fun _ => rfl) h (fun x16 h => ?_)
        refine zx_goto (tgt := 86) G d_M_made_139 rfl ?_
        exact ih86 x16 μ14 h
      · refine zx_weak [true, false, false, false, false, true, true] (lv2 := [_, none, none, none, none, _, _]) rfl ?_
        exact hkx105 z12 μ14 h
set_option maxHeartbeats 4000000 in
set_option maxRecDepth 20000 in
theorem tf_M_made_l86 {g : ZG} {E : ZE} {N n86 : Nat} {rr : Int32 × ZMem} {p0 : Int32} {p1 : Int32} {p2 : Int32} {p3 : Int32} {p4 : Int32} {kx105 : Int32 → ZMem → Option (Int32 × ZMem)} {z12 : Int32} {μ13 : ZMem} (G : zGa g K_M_made 7 E) (hl0 : (12, 0) ∈ zids) (h : f_M_made_l86 N p0 p1 p2 p3 p4 kx105 n86 z12 μ13 = some rr) (hkx105 : ∀ (w6 : Int32) (μ : ZMem), kx105 w6 μ = some rr → zX g K_M_made 7 E (some (.int rr.1), rr.2) μ 105 [some (.ref (g.2.1 12 0)), none, none, none, none, some (.int p4), some (.int w6)] []) : zX g K_M_made 7 E (some (.int rr.1), rr.2) μ13 86 [some (.ref (g.2.1 12 0)), some (.int p0), some (.int p1), some (.int p2), some (.int p3), some (.int p4), some (.int z12)] [] := tf_M_made_l86_0 G hl0 hkx105 n86 z12 μ13 h
set_option maxHeartbeats 4000000 in
set_option maxRecDepth 20000 in
theorem t_M_made {g : ZG} {l : Launch} {N : Nat} {μ : ZMem} {p0 : Int32} {p1 : Int32} {p2 : Int32} {p3 : Int32} {p4 : Int32} {rr : Int32 × ZMem} (h : f_M_made N μ p0 p1 p2 p3 p4 = some rr) : zT g l 7 K_M_made [.ref (g.2.1 12 0), .int p0, .int p1, .int p2, .int p3, .int p4] μ (some (.int rr.1), rr.2) := by
  refine zT_of (by decide +kernel) (Nat.le_of_ble_eq_true rfl) (fun E G => ?_)
  show zX g K_M_made 7 E (some (.int rr.1), rr.2) μ 0 [some (.ref (g.2.1 12 0)), some (.int p0), some (.int p1), some (.int p2), some (.int p3), some (.int p4), none] []
  unfold f_M_made at h
  refine zx_iload_n G d_M_made_0 rfl ?_
  refine zx_iconst (v := 0) G d_M_made_1 rfl ?_
  refine zx_sipush (v := 9999) G d_M_made_2 rfl ?_
  obtain ⟨r2, μ1, hc, h⟩ := zbnd_of h
  refine zx_callSI (r := r2) (μ2 := μ1) G d_M_made_5 zm_M_68 (fun l => t_M_isIn  hc) rfl rfl (Nat.le_of_ble_eq_true rfl) (Nat.le_of_ble_eq_true rfl) ?_
  refine zx_if_eq (tgt := 57) G d_M_made_8 rfl h (fun h => ?_) (fun h => ?_)
  · refine zx_bipush (v := -2) G d_M_made_57 rfl ?_
    exact zx_iret G d_M_made_59 rfl h
  · refine zx_iload_n G d_M_made_11 rfl ?_
    refine zx_iload_n G d_M_made_12 rfl ?_
    refine zx_sipush (v := 9999) G d_M_made_13 rfl ?_
    obtain ⟨r4, μ3, hc, h⟩ := zbnd_of h
    refine zx_callSI (r := r4) (μ2 := μ3) G d_M_made_16 zm_M_68 (fun l => t_M_isIn  hc) rfl rfl (Nat.le_of_ble_eq_true rfl) (Nat.le_of_ble_eq_true rfl) ?_
    refine zx_if_eq (tgt := 57) G d_M_made_19 rfl h (fun h => ?_) (fun h => ?_)
    · refine zx_bipush (v := -2) G d_M_made_57 rfl ?_
      exact zx_iret G d_M_made_59 rfl h
    · refine zx_iload_n G d_M_made_22 rfl ?_
      refine zx_iload_n G d_M_made_23 rfl ?_
      refine zx_isub G d_M_made_24 ?_
      refine zx_bipush (v := 99) G d_M_made_25 rfl ?_
      refine zx_icmp_gt (tgt := 57) G d_M_made_27 rfl h (fun h => ?_) (fun h => ?_)
      · refine zx_bipush (v := -2) G d_M_made_57 rfl ?_
        exact zx_iret G d_M_made_59 rfl h
      · refine zx_iload_n G d_M_made_30 rfl ?_
        refine zx_iconst (v := 0) G d_M_made_31 rfl ?_
        refine zx_sipush (v := 9999) G d_M_made_32 rfl ?_
        obtain ⟨r6, μ5, hc, h⟩ := zbnd_of h
        refine zx_callSI (r := r6) (μ2 := μ5) G d_M_made_35 zm_M_68 (fun l => t_M_isIn  hc) rfl rfl (Nat.le_of_ble_eq_true rfl) (Nat.le_of_ble_eq_true rfl) ?_
        refine zx_if_eq (tgt := 57) G d_M_made_38 rfl h (fun h => ?_) (fun h => ?_)
        · refine zx_bipush (v := -2) G d_M_made_57 rfl ?_
          exact zx_iret G d_M_made_59 rfl h
        · refine zx_iload G d_M_made_41 rfl ?_
          refine zx_iconst (v := 1) G d_M_made_43 rfl ?_
          refine zx_iconst (v := 5) G d_M_made_44 rfl ?_
          obtain ⟨r8, μ7, hc, h⟩ := zbnd_of h
          refine zx_callSI (r := r8) (μ2 := μ7) G d_M_made_45 zm_M_68 (fun l => t_M_isIn  hc) rfl rfl (Nat.le_of_ble_eq_true rfl) (Nat.le_of_ble_eq_true rfl) ?_
          refine zx_if_eq (tgt := 57) G d_M_made_48 rfl h (fun h => ?_) (fun h => ?_)
          · refine zx_bipush (v := -2) G d_M_made_57 rfl ?_
            exact zx_iret G d_M_made_59 rfl h
          · refine zx_iload G d_M_made_51 rfl ?_
            refine zx_iconst (v := -1) G d_M_made_53 rfl ?_
            refine zx_icmp_ge (tgt := 60) G d_M_made_54 rfl h (fun h => ?_) (fun h => ?_)
            · refine zx_iload_n G d_M_made_60 rfl ?_
              refine zx_iload_n G d_M_made_61 rfl ?_
              refine zx_join (P := fun k => ∀ (μ9 : ZMem), k μ9 = some rr → zX g K_M_made 7 E (some (.int rr.1), rr.2) μ9 83 [some (.ref (g.2.1 12 0)), some (.int p0), some (.int p1), some (.int p2), some (.int p3), some (.int p4), none] []) h (fun μ9 h => ?_) (fun k10 hk10 h => ?_)
              · try dsimp only at h
                refine zx_iconst (v := 1) G d_M_made_83 rfl ?_
                refine zx_istore (lf := fun y => [_, _, _, _, _, _, some (.int y)]) G d_M_made_84 (Nat.le_of_ble_eq_true rfl) (fun _ => rfl) h (fun x11 h => ?_)
                refine tf_M_made_l86 G (zids_of 12 (Nat.le_of_ble_eq_true rfl) 0 (Nat.le_of_ble_eq_true rfl)) h (fun x17 μ18 h => ?_)
                · try dsimp only at h
                  refine zx_iload G d_M_made_105 rfl ?_
                  refine zx_iconst (v := -1) G d_M_made_107 rfl ?_
                  refine zx_icmp_ne (tgt := 116) G d_M_made_108 rfl h (fun h => ?_) (fun h => ?_)
                  · refine zx_iload G d_M_made_116 rfl ?_
                    refine zx_iload G d_M_made_118 rfl ?_
                    refine zx_icmp_ge (tgt := 133) G d_M_made_120 rfl h (fun h => ?_) (fun h => ?_)
                    · refine zx_bipush (v := -2) G d_M_made_133 rfl ?_
                      exact zx_iret G d_M_made_135 rfl h
                    · refine zx_aload_n G d_M_made_123 rfl ?_
                      refine zx_getR G d_M_made_124 zf_M_58 zc_12_24 (zids_of 12 (Nat.le_of_ble_eq_true rfl) 0 (Nat.le_of_ble_eq_true rfl)) ?_
                      refine zx_iload G d_M_made_127 rfl ?_
                      refine zx_iald G d_M_made_129 za_51 (zi_12_24 (zids_of 12 (Nat.le_of_ble_eq_true rfl) 0 (Nat.le_of_ble_eq_true rfl))) h (fun h => ?_)
                      refine zx_goto (tgt := 135) G d_M_made_130 rfl ?_
                      exact zx_iret G d_M_made_135 rfl h
                  · refine zx_iload G d_M_made_111 rfl ?_
                    refine zx_goto (tgt := 135) G d_M_made_113 rfl ?_
                    exact zx_iret G d_M_made_135 rfl h
              try dsimp only at h
              refine zx_icmp_ne (tgt := 83) G d_M_made_62 rfl h (fun h => ?_) (fun h => ?_)
              · exact hk10 μ7 h
              · refine zx_iload_n G d_M_made_65 rfl ?_
                refine zx_iload_n G d_M_made_66 rfl ?_
                refine zx_icmp_ne (tgt := 83) G d_M_made_67 rfl h (fun h => ?_) (fun h => ?_)
                · exact hk10 μ7 h
                · refine zx_iload G d_M_made_70 rfl ?_
                  refine zx_iconst (v := -1) G d_M_made_72 rfl ?_
                  refine zx_icmp_ne (tgt := 80) G d_M_made_73 rfl h (fun h => ?_) (fun h => ?_)
                  · refine zx_bipush (v := -2) G d_M_made_80 rfl ?_
                    exact zx_iret G d_M_made_82 rfl h
                  · refine zx_iconst (v := 0) G d_M_made_76 rfl ?_
                    refine zx_goto (tgt := 82) G d_M_made_77 rfl ?_
                    exact zx_iret G d_M_made_82 rfl h
            · refine zx_bipush (v := -2) G d_M_made_57 rfl ?_
              exact zx_iret G d_M_made_59 rfl h
set_option maxHeartbeats 4000000 in
set_option maxRecDepth 20000 in
theorem t_M_turnedRound {g : ZG} {l : Launch} {N : Nat} {μ : ZMem} {p0 : Int32} {rr : Int32 × ZMem} (h : f_M_turnedRound N μ p0 = some rr) : zT g l 0 K_M_turnedRound [.int p0] μ (some (.int rr.1), rr.2) := by
  refine zT_of (by decide +kernel) (Nat.le_of_ble_eq_true rfl) (fun E G => ?_)
  show zX g K_M_turnedRound 0 E (some (.int rr.1), rr.2) μ 0 [some (.int p0)] []
  unfold f_M_turnedRound at h
  refine zx_iload_n G d_M_turnedRound_0 rfl ?_
  refine zx_if_ne (tgt := 8) G d_M_turnedRound_1 rfl h (fun h => ?_) (fun h => ?_)
  · refine zx_iload_n G d_M_turnedRound_8 rfl ?_
    refine zx_iconst (v := 1) G d_M_turnedRound_9 rfl ?_
    refine zx_icmp_ne (tgt := 17) G d_M_turnedRound_10 rfl h (fun h => ?_) (fun h => ?_)
    · refine zx_iload_n G d_M_turnedRound_17 rfl ?_
      refine zx_iconst (v := 2) G d_M_turnedRound_18 rfl ?_
      refine zx_icmp_ne (tgt := 26) G d_M_turnedRound_19 rfl h (fun h => ?_) (fun h => ?_)
      · refine zx_iconst (v := 2) G d_M_turnedRound_26 rfl ?_
        exact zx_iret G d_M_turnedRound_27 rfl h
      · refine zx_iconst (v := 3) G d_M_turnedRound_22 rfl ?_
        refine zx_goto (tgt := 27) G d_M_turnedRound_23 rfl ?_
        exact zx_iret G d_M_turnedRound_27 rfl h
    · refine zx_iconst (v := 0) G d_M_turnedRound_13 rfl ?_
      refine zx_goto (tgt := 27) G d_M_turnedRound_14 rfl ?_
      exact zx_iret G d_M_turnedRound_27 rfl h
  · refine zx_iconst (v := 1) G d_M_turnedRound_4 rfl ?_
    refine zx_goto (tgt := 27) G d_M_turnedRound_5 rfl ?_
    exact zx_iret G d_M_turnedRound_27 rfl h
set_option maxHeartbeats 4000000 in
set_option maxRecDepth 20000 in
theorem t_M_slips {g : ZG} {l : Launch} {N : Nat} {μ : ZMem} {p0 : Int32} {p1 : Int32} {p2 : Int32} {rr : Int32 × ZMem} (h : f_M_slips N μ p0 p1 p2 = some rr) : zT g l 4 K_M_slips [.ref (g.2.1 12 0), .int p0, .int p1, .int p2] μ (some (.int rr.1), rr.2) := by
  refine zT_of (by decide +kernel) (Nat.le_of_ble_eq_true rfl) (fun E G => ?_)
  show zX g K_M_slips 4 E (some (.int rr.1), rr.2) μ 0 [some (.ref (g.2.1 12 0)), some (.int p0), some (.int p1), some (.int p2)] []
  unfold f_M_slips at h
  refine zx_iload_n G d_M_slips_0 rfl ?_
  refine zx_if_ne (tgt := 6) G d_M_slips_1 rfl h (fun h => ?_) (fun h => ?_)
  · refine zx_iload_n G d_M_slips_6 rfl ?_
    refine zx_iconst (v := 2) G d_M_slips_7 rfl ?_
    refine zx_icmp_ne (tgt := 21) G d_M_slips_8 rfl h (fun h => ?_) (fun h => ?_)
    · refine zx_aload_n G d_M_slips_21 rfl ?_
      refine zx_iload_n G d_M_slips_22 rfl ?_
      refine zx_iload_n G d_M_slips_23 rfl ?_
      obtain ⟨r2, μ1, hc, h⟩ := zbnd_of h
      refine zx_callVI (r := r2) (μ2 := μ1) G d_M_slips_24 zm_M_230 (fun l => t_M_does  hc) rfl rfl (Nat.le_of_ble_eq_true rfl) (Nat.le_of_ble_eq_true rfl) (zrecv zo_12 (zids_of 12 (Nat.le_of_ble_eq_true rfl) 0 (Nat.le_of_ble_eq_true rfl))) ?_
      refine zx_if_eq (tgt := 48) G d_M_slips_27 rfl h (fun h => ?_) (fun h => ?_)
      · refine zx_iconst (v := 0) G d_M_slips_48 rfl ?_
        exact zx_zretK G d_M_slips_49 rfl (by decide) h
      · refine zx_iload_n G d_M_slips_30 rfl ?_
        refine zx_iconst (v := 1) G d_M_slips_31 rfl ?_
        refine zx_join (P := fun k => ∀ (μ3 : ZMem), k μ3 = some rr → zX g K_M_slips 4 E (some (.int rr.1), rr.2) μ3 44 [none, none, none, none] []) h (fun μ3 h => ?_) (fun k4 hk4 h => ?_)
        · try dsimp only at h
          refine zx_iconst (v := 1) G d_M_slips_44 rfl ?_
          refine zx_goto (tgt := 49) G d_M_slips_45 rfl ?_
          exact zx_zretK G d_M_slips_49 rfl (by decide) h
        try dsimp only at h
        refine zx_icmp_ne (tgt := 44) G d_M_slips_32 rfl h (fun h => ?_) (fun h => ?_)
        · refine zx_weak [false, false, false, false] (lv2 := [none, none, none, none]) rfl ?_
          exact hk4 μ1 h
        · refine zx_aload_n G d_M_slips_35 rfl ?_
          refine zx_iload_n G d_M_slips_36 rfl ?_
          refine zx_iload_n G d_M_slips_37 rfl ?_
          obtain ⟨r6, μ5, hc, h⟩ := zbnd_of h
          refine zx_callVI (r := r6) (μ2 := μ5) G d_M_slips_38 zm_M_230 (fun l => t_M_does  hc) rfl rfl (Nat.le_of_ble_eq_true rfl) (Nat.le_of_ble_eq_true rfl) (zrecv zo_12 (zids_of 12 (Nat.le_of_ble_eq_true rfl) 0 (Nat.le_of_ble_eq_true rfl))) ?_
          refine zx_if_eq (tgt := 48) G d_M_slips_41 rfl h (fun h => ?_) (fun h => ?_)
          · refine zx_iconst (v := 0) G d_M_slips_48 rfl ?_
            exact zx_zretK G d_M_slips_49 rfl (by decide) h
          · refine zx_weak [false, false, false, false] (lv2 := [none, none, none, none]) rfl ?_
            exact hk4 μ5 h
    · refine zx_aload_n G d_M_slips_11 rfl ?_
      refine zx_iload_n G d_M_slips_12 rfl ?_
      obtain ⟨r8, μ7, hc, h⟩ := zbnd_of h
      refine zx_callSI (r := r8) (μ2 := μ7) G d_M_slips_13 zm_M_318 (fun l => t_M_turnedRound  hc) rfl rfl (Nat.le_of_ble_eq_true rfl) (Nat.le_of_ble_eq_true rfl) ?_
      refine zx_iload_n G d_M_slips_16 rfl ?_
      obtain ⟨r10, μ9, hc, h⟩ := zbnd_of h
      refine zx_callVI (r := r10) (μ2 := μ9) G d_M_slips_17 zm_M_230 (fun l => t_M_does  hc) rfl rfl (Nat.le_of_ble_eq_true rfl) (Nat.le_of_ble_eq_true rfl) (zrecv zo_12 (zids_of 12 (Nat.le_of_ble_eq_true rfl) 0 (Nat.le_of_ble_eq_true rfl))) ?_
      exact zx_zret G d_M_slips_20 rfl h
  · refine zx_iconst (v := 1) G d_M_slips_4 rfl ?_
    exact zx_zretK G d_M_slips_5 rfl (by decide) h
set_option maxHeartbeats 4000000 in
set_option maxRecDepth 20000 in
theorem tf_M_isSlip_l25_0 {g : ZG} {E : ZE} {N : Nat} {rr : Int32 × ZMem} {p0 : Int32} {p1 : Int32} {p2 : Int32} {p3 : Int64} {p4 : Int64} {kx75 : ZMem → Option (Int32 × ZMem)} (G : zGa g K_M_isSlip 5 E) (hl0 : (12, 0) ∈ zids) (hkx75 : ∀  (μ : ZMem), kx75 μ = some rr → zX g K_M_isSlip 5 E (some (.int rr.1), rr.2) μ 75 [some (.ref (g.2.1 12 0)), none, none, none, some (.long p3), none, some (.long p4), none, none] []) : ∀ (n25 : Nat) (z5 : Int32) (μ6 : ZMem), f_M_isSlip_l25 N p0 p1 p2 p3 p4 kx75 n25 z5 μ6 = some rr → zX g K_M_isSlip 5 E (some (.int rr.1), rr.2) μ6 25 [some (.ref (g.2.1 12 0)), some (.int p0), some (.int p1), some (.int p2), some (.long p3), none, some (.long p4), none, some (.int z5)] [] := by
  intro n25
  induction n25 with
  | zero => intro z5 μ6 h; cases h
  | succ n25 ih25 =>
    intro z5 μ6 h
    simp only [f_M_isSlip_l25] at h
    refine zx_iload G d_M_isSlip_25 rfl ?_
    refine zx_aload_n G d_M_isSlip_27 rfl ?_
    refine zx_iload_n G d_M_isSlip_28 rfl ?_
    obtain ⟨r8, μ7, hc, h⟩ := zbnd_of h
    refine zx_callVI (r := r8) (μ2 := μ7) G d_M_isSlip_29 zm_M_172 (fun l => t_M_ordersOf  hc) rfl rfl (Nat.le_of_ble_eq_true rfl) (Nat.le_of_ble_eq_true rfl) (zrecv zo_12 hl0) ?_
    refine zx_icmp_ge (tgt := 75) G d_M_isSlip_32 rfl h (fun h => ?_) (fun h => ?_)
    · refine zx_weak [true, false, false, false, true, false, true, false, false] (lv2 := [_, none, none, none, _, none, _, none, none]) rfl ?_
      exact hkx75 μ7 h
    · refine zx_aload_n G d_M_isSlip_35 rfl ?_
      refine zx_aload_n G d_M_isSlip_36 rfl ?_
      refine zx_iload_n G d_M_isSlip_37 rfl ?_
      refine zx_iload G d_M_isSlip_38 rfl ?_
      obtain ⟨r10, μ9, hc, h⟩ := zbnd_of h
      refine zx_callVI (r := r10) (μ2 := μ9) G d_M_isSlip_40 zm_M_179 (fun l => t_M_kindOf  hc) rfl rfl (Nat.le_of_ble_eq_true rfl) (Nat.le_of_ble_eq_true rfl) (zrecv zo_12 hl0) ?_
      refine zx_aload_n G d_M_isSlip_43 rfl ?_
      refine zx_iload_n G d_M_isSlip_44 rfl ?_
      refine zx_iload G d_M_isSlip_45 rfl ?_
      obtain ⟨r12, μ11, hc, h⟩ := zbnd_of h
      refine zx_callVI (r := r12) (μ2 := μ11) G d_M_isSlip_47 zm_M_175 (fun l => t_M_xOf  hc) rfl rfl (Nat.le_of_ble_eq_true rfl) (Nat.le_of_ble_eq_true rfl) (zrecv zo_12 hl0) ?_
      refine zx_iload G d_M_isSlip_50 rfl ?_
      refine zx_iload_n G d_M_isSlip_52 rfl ?_
      refine zx_join (P := fun k => ∀ (y13 : Int32) (μ14 : ZMem), k y13 μ14 = some rr → zX g K_M_isSlip 5 E (some (.int rr.1), rr.2) μ14 61 [some (.ref (g.2.1 12 0)), some (.int p0), some (.int p1), some (.int p2), some (.long p3), none, some (.long p4), none, some (.int z5)] [.int y13, .int r12, .int r10, .ref (g.2.1 12 0)]) h (fun y13 μ14 h => ?_) (fun k15 hk15 h => ?_)
      · try dsimp only at h
        obtain ⟨r17, μ16, hc, h⟩ := zbnd_of h
        refine zx_callVI (r := r17) (μ2 := μ16) G d_M_isSlip_61 zm_M_321 (fun l => t_M_slips  hc) rfl rfl (Nat.le_of_ble_eq_true rfl) (Nat.le_of_ble_eq_true rfl) (zrecv zo_12 hl0) ?_
        refine zx_if_ne (tgt := 69) G d_M_isSlip_64 rfl h (fun h => ?_) (fun h => ?_)
        · refine zx_iinc (v := 1) (lf := fun y => [_, _, _, _, _, none, _, none, some (.int y)]) G d_M_isSlip_69 (Nat.le_of_ble_eq_true rfl) rfl rfl (fun _ => rfl) h (fun x18 h => ?_)
          refine zx_goto (tgt := 25) G d_M_isSlip_72 rfl ?_
          exact ih25 x18 μ16 h
        · refine zx_iconst (v := 0) G d_M_isSlip_67 rfl ?_
          exact zx_zretK G d_M_isSlip_68 rfl (by decide) h
      try dsimp only at h
      refine zx_icmp_ne (tgt := 60) G d_M_isSlip_53 rfl h (fun h => ?_) (fun h => ?_)
      · refine zx_iconst (v := -1) G d_M_isSlip_60 rfl ?_
        exact hk15 (-1 : Int32) μ11 h
      · refine zx_iload_n G d_M_isSlip_56 rfl ?_
        refine zx_goto (tgt := 61) G d_M_isSlip_57 rfl ?_
        exact hk15 p2 μ11 h
set_option maxHeartbeats 4000000 in
set_option maxRecDepth 20000 in
theorem tf_M_isSlip_l25 {g : ZG} {E : ZE} {N n25 : Nat} {rr : Int32 × ZMem} {p0 : Int32} {p1 : Int32} {p2 : Int32} {p3 : Int64} {p4 : Int64} {kx75 : ZMem → Option (Int32 × ZMem)} {z5 : Int32} {μ6 : ZMem} (G : zGa g K_M_isSlip 5 E) (hl0 : (12, 0) ∈ zids) (h : f_M_isSlip_l25 N p0 p1 p2 p3 p4 kx75 n25 z5 μ6 = some rr) (hkx75 : ∀  (μ : ZMem), kx75 μ = some rr → zX g K_M_isSlip 5 E (some (.int rr.1), rr.2) μ 75 [some (.ref (g.2.1 12 0)), none, none, none, some (.long p3), none, some (.long p4), none, none] []) : zX g K_M_isSlip 5 E (some (.int rr.1), rr.2) μ6 25 [some (.ref (g.2.1 12 0)), some (.int p0), some (.int p1), some (.int p2), some (.long p3), none, some (.long p4), none, some (.int z5)] [] := tf_M_isSlip_l25_0 G hl0 hkx75 n25 z5 μ6 h
set_option maxHeartbeats 4000000 in
set_option maxRecDepth 20000 in
theorem t_M_isSlip {g : ZG} {l : Launch} {N : Nat} {μ : ZMem} {p0 : Int32} {p1 : Int32} {p2 : Int32} {p3 : Int64} {p4 : Int64} {rr : Int32 × ZMem} (h : f_M_isSlip N μ p0 p1 p2 p3 p4 = some rr) : zT g l 5 K_M_isSlip [.ref (g.2.1 12 0), .int p0, .int p1, .int p2, .long p3, .long p4] μ (some (.int rr.1), rr.2) := by
  refine zT_of (by decide +kernel) (Nat.le_of_ble_eq_true rfl) (fun E G => ?_)
  show zX g K_M_isSlip 5 E (some (.int rr.1), rr.2) μ 0 [some (.ref (g.2.1 12 0)), some (.int p0), some (.int p1), some (.int p2), some (.long p3), none, some (.long p4), none, none] []
  unfold f_M_isSlip at h
  refine zx_iload_n G d_M_isSlip_0 rfl ?_
  refine zx_iconst (v := 2) G d_M_isSlip_1 rfl ?_
  refine zx_join (P := fun k => ∀ (μ1 : ZMem), k μ1 = some rr → zX g K_M_isSlip 5 E (some (.int rr.1), rr.2) μ1 17 [some (.ref (g.2.1 12 0)), some (.int p0), some (.int p1), some (.int p2), some (.long p3), none, some (.long p4), none, none] []) h (fun μ1 h => ?_) (fun k2 hk2 h => ?_)
  · try dsimp only at h
    refine zx_aload_n G d_M_isSlip_17 rfl ?_
    refine zx_iload_n G d_M_isSlip_18 rfl ?_
    obtain ⟨u9, μ3, hc, h⟩ := zbnd_of h
    refine zx_callVV  (μ2 := μ3) G d_M_isSlip_19 zm_M_227 (fun l => t_M_begin  hc) rfl rfl (Nat.le_of_ble_eq_true rfl) (Nat.le_of_ble_eq_true rfl) (zrecv zo_12 (zids_of 12 (Nat.le_of_ble_eq_true rfl) 0 (Nat.le_of_ble_eq_true rfl))) ?_
    refine zx_iconst (v := 0) G d_M_isSlip_22 rfl ?_
    refine zx_istore (lf := fun y => [_, _, _, _, _, none, _, none, some (.int y)]) G d_M_isSlip_23 (Nat.le_of_ble_eq_true rfl) (fun _ => rfl) h (fun x4 h => ?_)
    refine tf_M_isSlip_l25 G (zids_of 12 (Nat.le_of_ble_eq_true rfl) 0 (Nat.le_of_ble_eq_true rfl)) h (fun μ19 h => ?_)
    · try dsimp only at h
      refine zx_aload_n G d_M_isSlip_75 rfl ?_
      refine zx_getJ G d_M_isSlip_76 zf_M_196 zc_12_15 (zids_of 12 (Nat.le_of_ble_eq_true rfl) 0 (Nat.le_of_ble_eq_true rfl)) ?_
      refine zx_lload G d_M_isSlip_79 rfl ?_
      refine zx_lcmp G d_M_isSlip_81 ?_
      refine zx_if_ne (tgt := 99) G d_M_isSlip_82 rfl h (fun h => ?_) (fun h => ?_)
      · refine zx_iconst (v := 0) G d_M_isSlip_99 rfl ?_
        exact zx_zretK G d_M_isSlip_100 rfl (by decide) h
      · refine zx_aload_n G d_M_isSlip_85 rfl ?_
        refine zx_getJ G d_M_isSlip_86 zf_M_199 zc_12_16 (zids_of 12 (Nat.le_of_ble_eq_true rfl) 0 (Nat.le_of_ble_eq_true rfl)) ?_
        refine zx_lload G d_M_isSlip_89 rfl ?_
        refine zx_lcmp G d_M_isSlip_91 ?_
        refine zx_if_ne (tgt := 99) G d_M_isSlip_92 rfl h (fun h => ?_) (fun h => ?_)
        · refine zx_iconst (v := 0) G d_M_isSlip_99 rfl ?_
          exact zx_zretK G d_M_isSlip_100 rfl (by decide) h
        · refine zx_iconst (v := 1) G d_M_isSlip_95 rfl ?_
          refine zx_goto (tgt := 100) G d_M_isSlip_96 rfl ?_
          exact zx_zretK G d_M_isSlip_100 rfl (by decide) h
  try dsimp only at h
  refine zx_icmp_ne (tgt := 17) G d_M_isSlip_2 rfl h (fun h => ?_) (fun h => ?_)
  · exact hk2 μ h
  · refine zx_aload_n G d_M_isSlip_5 rfl ?_
    refine zx_iload_n G d_M_isSlip_6 rfl ?_
    refine zx_iload_n G d_M_isSlip_7 rfl ?_
    obtain ⟨r21, μ20, hc, h⟩ := zbnd_of h
    refine zx_callVI (r := r21) (μ2 := μ20) G d_M_isSlip_8 zm_M_179 (fun l => t_M_kindOf  hc) rfl rfl (Nat.le_of_ble_eq_true rfl) (Nat.le_of_ble_eq_true rfl) (zrecv zo_12 (zids_of 12 (Nat.le_of_ble_eq_true rfl) 0 (Nat.le_of_ble_eq_true rfl))) ?_
    refine zx_iconst (v := 3) G d_M_isSlip_11 rfl ?_
    refine zx_icmp_le (tgt := 17) G d_M_isSlip_12 rfl h (fun h => ?_) (fun h => ?_)
    · exact hk2 μ20 h
    · refine zx_iconst (v := 0) G d_M_isSlip_15 rfl ?_
      exact zx_zretK G d_M_isSlip_16 rfl (by decide) h
set_option maxHeartbeats 4000000 in
set_option maxRecDepth 20000 in
theorem tf_M_slip_l43_0 {g : ZG} {E : ZE} {N : Nat} {rr : Int32 × ZMem} {p0 : Int32} {p1 : Int32} {p2 : Int32} {p3 : Int32} {x8 : Int64} {kx103 : Int32 → ZMem → Option (Int32 × ZMem)} (G : zGa g K_M_slip 6 E) (hl0 : (12, 0) ∈ zids) (hkx103 : ∀ (w7 : Int32) (μ : ZMem), kx103 w7 μ = some rr → zX g K_M_slip 6 E (some (.int rr.1), rr.2) μ 103 [none, none, none, none, some (.int p3), none, none, some (.int w7), none] []) : ∀ (n43 : Nat) (z11 : Int32) (z12 : Int32) (μ13 : ZMem), f_M_slip_l43 N p0 p1 p2 p3 x8 kx103 n43 z11 z12 μ13 = some rr → zX g K_M_slip 6 E (some (.int rr.1), rr.2) μ13 43 [some (.ref (g.2.1 12 0)), some (.int p0), some (.int p1), some (.int p2), some (.int p3), some (.long x8), none, some (.int z11), some (.int z12)] [] := by
  intro n43
  induction n43 with
  | zero => intro z11 z12 μ13 h; cases h
  | succ n43 ih43 =>
    intro z11 z12 μ13 h
    simp only [f_M_slip_l43] at h
    refine zx_iload G d_M_slip_43 rfl ?_
    refine zx_iconst (v := 3) G d_M_slip_45 rfl ?_
    refine zx_aload_n G d_M_slip_46 rfl ?_
    refine zx_iload_n G d_M_slip_47 rfl ?_
    obtain ⟨r15, μ14, hc, h⟩ := zbnd_of h
    refine zx_callVI (r := r15) (μ2 := μ14) G d_M_slip_48 zm_M_172 (fun l => t_M_ordersOf  hc) rfl rfl (Nat.le_of_ble_eq_true rfl) (Nat.le_of_ble_eq_true rfl) (zrecv zo_12 hl0) ?_
    refine zx_imul G d_M_slip_51 ?_
    refine zx_icmp_ge (tgt := 103) G d_M_slip_52 rfl h (fun h => ?_) (fun h => ?_)
    · refine zx_weak [false, false, false, false, true, false, false, true, false] (lv2 := [none, none, none, none, _, none, none, _, none]) rfl ?_
      exact hkx103 z11 μ14 h
    · refine zx_aload_n G d_M_slip_55 rfl ?_
      refine zx_iload_n G d_M_slip_56 rfl ?_
      refine zx_iload G d_M_slip_57 rfl ?_
      refine zx_iconst (v := 3) G d_M_slip_59 rfl ?_
      refine zx_idiv G d_M_slip_60 h (fun h => ?_)
      refine zx_iload G d_M_slip_61 rfl ?_
      refine zx_iconst (v := 3) G d_M_slip_63 rfl ?_
      refine zx_irem G d_M_slip_64 h (fun h => ?_)
      refine zx_iload_n G d_M_slip_65 rfl ?_
      refine zx_i2l G d_M_slip_66 ?_
      refine zx_lload G d_M_slip_67 rfl ?_
      refine zx_ldiv G d_M_slip_69 h (fun h => ?_)
      refine zx_iload_n G d_M_slip_70 rfl ?_
      refine zx_i2l G d_M_slip_71 ?_
      refine zx_lload G d_M_slip_72 rfl ?_
      refine zx_ldiv G d_M_slip_74 h (fun h => ?_)
      obtain ⟨r17, μ16, hc, h⟩ := zbnd_of h
      refine zx_callVI (r := r17) (μ2 := μ16) G d_M_slip_75 zm_M_324 (fun l => t_M_isSlip  hc) rfl rfl (Nat.le_of_ble_eq_true rfl) (Nat.le_of_ble_eq_true rfl) (zrecv zo_12 hl0) ?_
      refine zx_join (P := fun k => ∀ (y18 : Int32) (μ19 : ZMem), k y18 μ19 = some rr → zX g K_M_slip 6 E (some (.int rr.1), rr.2) μ19 97 [some (.ref (g.2.1 12 0)), some (.int p0), some (.int p1), some (.int p2), some (.int p3), some (.long x8), none, some (.int y18), some (.int z12)] []) h (fun y18 μ19 h => ?_) (fun k20 hk20 h => ?_)
      · try dsimp only at h
        refine zx_iinc (v := 1) (lf := fun y => [_, _, _, _, _, _, none, _, some (.int y)]) G d_M_slip_97 (Nat.le_of_ble_eq_true rfl) rfl rfl (fun _ => rfl) h (fun x21 h => ?_)
        refine zx_goto (tgt := 43) G d_M_slip_100 rfl ?_
        exact ih43 y18 x21 μ19 h
      try dsimp only at h
      refine zx_if_ne (tgt := 84) G d_M_slip_78 rfl h (fun h => ?_) (fun h => ?_)
      · refine zx_iload G d_M_slip_84 rfl ?_
        refine zx_iload G d_M_slip_86 rfl ?_
        refine zx_icmp_ne (tgt := 94) G d_M_slip_88 rfl h (fun h => ?_) (fun h => ?_)
        · refine zx_iinc (v := 1) (lf := fun y => [_, _, _, _, _, _, none, some (.int y), _]) G d_M_slip_94 (Nat.le_of_ble_eq_true rfl) rfl rfl (fun _ => rfl) h (fun x22 h => ?_)
          exact hk20 x22 μ16 h
        · refine zx_iload G d_M_slip_91 rfl ?_
          exact zx_iret G d_M_slip_93 rfl h
      · refine zx_goto (tgt := 97) G d_M_slip_81 rfl ?_
        exact hk20 z11 μ16 h
set_option maxHeartbeats 4000000 in
set_option maxRecDepth 20000 in
theorem tf_M_slip_l43 {g : ZG} {E : ZE} {N n43 : Nat} {rr : Int32 × ZMem} {p0 : Int32} {p1 : Int32} {p2 : Int32} {p3 : Int32} {x8 : Int64} {kx103 : Int32 → ZMem → Option (Int32 × ZMem)} {z11 : Int32} {z12 : Int32} {μ13 : ZMem} (G : zGa g K_M_slip 6 E) (hl0 : (12, 0) ∈ zids) (h : f_M_slip_l43 N p0 p1 p2 p3 x8 kx103 n43 z11 z12 μ13 = some rr) (hkx103 : ∀ (w7 : Int32) (μ : ZMem), kx103 w7 μ = some rr → zX g K_M_slip 6 E (some (.int rr.1), rr.2) μ 103 [none, none, none, none, some (.int p3), none, none, some (.int w7), none] []) : zX g K_M_slip 6 E (some (.int rr.1), rr.2) μ13 43 [some (.ref (g.2.1 12 0)), some (.int p0), some (.int p1), some (.int p2), some (.int p3), some (.long x8), none, some (.int z11), some (.int z12)] [] := tf_M_slip_l43_0 G hl0 hkx103 n43 z11 z12 μ13 h
set_option maxHeartbeats 4000000 in
set_option maxRecDepth 20000 in
theorem t_M_slip {g : ZG} {l : Launch} {N : Nat} {μ : ZMem} {p0 : Int32} {p1 : Int32} {p2 : Int32} {p3 : Int32} {rr : Int32 × ZMem} (h : f_M_slip N μ p0 p1 p2 p3 = some rr) : zT g l 6 K_M_slip [.ref (g.2.1 12 0), .int p0, .int p1, .int p2, .int p3] μ (some (.int rr.1), rr.2) := by
  refine zT_of (by decide +kernel) (Nat.le_of_ble_eq_true rfl) (fun E G => ?_)
  show zX g K_M_slip 6 E (some (.int rr.1), rr.2) μ 0 [some (.ref (g.2.1 12 0)), some (.int p0), some (.int p1), some (.int p2), some (.int p3), none, none, none, none] []
  unfold f_M_slip at h
  refine zx_aload_n G d_M_slip_0 rfl ?_
  refine zx_iload_n G d_M_slip_1 rfl ?_
  obtain ⟨r2, μ1, hc, h⟩ := zbnd_of h
  refine zx_callVI (r := r2) (μ2 := μ1) G d_M_slip_2 zm_M_169 (fun l => t_M_isTable  hc) rfl rfl (Nat.le_of_ble_eq_true rfl) (Nat.le_of_ble_eq_true rfl) (zrecv zo_12 (zids_of 12 (Nat.le_of_ble_eq_true rfl) 0 (Nat.le_of_ble_eq_true rfl))) ?_
  refine zx_if_eq (tgt := 22) G d_M_slip_5 rfl h (fun h => ?_) (fun h => ?_)
  · refine zx_iconst (v := -1) G d_M_slip_22 rfl ?_
    exact zx_iret G d_M_slip_23 rfl h
  · refine zx_iload_n G d_M_slip_8 rfl ?_
    refine zx_iload_n G d_M_slip_9 rfl ?_
    obtain ⟨r4, μ3, hc, h⟩ := zbnd_of h
    refine zx_callSI (r := r4) (μ2 := μ3) G d_M_slip_10 zm_M_244 (fun l => t_M_isFraction  hc) rfl rfl (Nat.le_of_ble_eq_true rfl) (Nat.le_of_ble_eq_true rfl) ?_
    refine zx_if_eq (tgt := 22) G d_M_slip_13 rfl h (fun h => ?_) (fun h => ?_)
    · refine zx_iconst (v := -1) G d_M_slip_22 rfl ?_
      exact zx_iret G d_M_slip_23 rfl h
    · refine zx_iload G d_M_slip_16 rfl ?_
      refine zx_iconst (v := -1) G d_M_slip_18 rfl ?_
      refine zx_icmp_ge (tgt := 24) G d_M_slip_19 rfl h (fun h => ?_) (fun h => ?_)
      · refine zx_aload_n G d_M_slip_24 rfl ?_
        obtain ⟨u9, μ5, hc, h⟩ := zbnd_of h
        refine zx_callVV  (μ2 := μ5) G d_M_slip_25 zm_M_235 (fun l => t_M_thinkNow  hc) rfl rfl (Nat.le_of_ble_eq_true rfl) (Nat.le_of_ble_eq_true rfl) (zrecv zo_12 (zids_of 12 (Nat.le_of_ble_eq_true rfl) 0 (Nat.le_of_ble_eq_true rfl))) ?_
        refine zx_iload_n G d_M_slip_28 rfl ?_
        refine zx_i2l G d_M_slip_29 ?_
        refine zx_iload_n G d_M_slip_30 rfl ?_
        refine zx_i2l G d_M_slip_31 ?_
        obtain ⟨r7, μ6, hc, h⟩ := zbnd_of h
        refine zx_callSJ (r := r7) (μ2 := μ6) G d_M_slip_32 zm_M_186 (fun l => t_M_common  hc) rfl rfl (Nat.le_of_ble_eq_true rfl) (Nat.le_of_ble_eq_true rfl) ?_
        refine zx_lstore (lf := fun y => [_, _, _, _, _, some (.long y), none, none, none]) G d_M_slip_35 (Nat.le_of_ble_eq_true rfl) (fun _ => rfl) h (fun x8 h => ?_)
        refine zx_iconst (v := 0) G d_M_slip_37 rfl ?_
        refine zx_istore (lf := fun y => [_, _, _, _, _, _, none, some (.int y), none]) G d_M_slip_38 (Nat.le_of_ble_eq_true rfl) (fun _ => rfl) h (fun x9 h => ?_)
        refine zx_iconst (v := 0) G d_M_slip_40 rfl ?_
        refine zx_istore (lf := fun y => [_, _, _, _, _, _, none, _, some (.int y)]) G d_M_slip_41 (Nat.le_of_ble_eq_true rfl) (fun _ => rfl) h (fun x10 h => ?_)
        refine tf_M_slip_l43 G (zids_of 12 (Nat.le_of_ble_eq_true rfl) 0 (Nat.le_of_ble_eq_true rfl)) h (fun x23 μ24 h => ?_)
        · try dsimp only at h
          refine zx_iload G d_M_slip_103 rfl ?_
          refine zx_iconst (v := -1) G d_M_slip_105 rfl ?_
          refine zx_icmp_ne (tgt := 114) G d_M_slip_106 rfl h (fun h => ?_) (fun h => ?_)
          · refine zx_iconst (v := -1) G d_M_slip_114 rfl ?_
            exact zx_iret G d_M_slip_115 rfl h
          · refine zx_iload G d_M_slip_109 rfl ?_
            refine zx_goto (tgt := 115) G d_M_slip_111 rfl ?_
            exact zx_iret G d_M_slip_115 rfl h
      · refine zx_iconst (v := -1) G d_M_slip_22 rfl ?_
        exact zx_iret G d_M_slip_23 rfl h
set_option maxHeartbeats 4000000 in
set_option maxRecDepth 20000 in
theorem t_M_ask {g : ZG} {l : Launch} {N : Nat} {μ : ZMem} {p0 : Int32} {rr : Int32 × ZMem} (h : f_M_ask N μ p0 = some rr) : zT g l 1 K_M_ask [.ref (g.2.1 12 0), .int p0] μ (some (.int rr.1), rr.2) := by
  refine zT_of (by decide +kernel) (Nat.le_of_ble_eq_true rfl) (fun E G => ?_)
  show zX g K_M_ask 1 E (some (.int rr.1), rr.2) μ 0 [some (.ref (g.2.1 12 0)), some (.int p0)] []
  unfold f_M_ask at h
  refine zx_iload_n G d_M_ask_0 rfl ?_
  refine zx_if_ne (tgt := 14) G d_M_ask_1 rfl h (fun h => ?_) (fun h => ?_)
  · refine zx_iload_n G d_M_ask_14 rfl ?_
    refine zx_iconst (v := 2) G d_M_ask_15 rfl ?_
    refine zx_bipush (v := 30) G d_M_ask_16 rfl ?_
    obtain ⟨r2, μ1, hc, h⟩ := zbnd_of h
    refine zx_callSI (r := r2) (μ2 := μ1) G d_M_ask_18 zm_M_68 (fun l => t_M_isIn  hc) rfl rfl (Nat.le_of_ble_eq_true rfl) (Nat.le_of_ble_eq_true rfl) ?_
    refine zx_if_eq (tgt := 36) G d_M_ask_21 rfl h (fun h => ?_) (fun h => ?_)
    · refine zx_iconst (v := -1) G d_M_ask_36 rfl ?_
      exact zx_iret G d_M_ask_37 rfl h
    · refine zx_aload_n G d_M_ask_24 rfl ?_
      refine zx_getR G d_M_ask_25 zf_M_7 zc_12_0 (zids_of 12 (Nat.le_of_ble_eq_true rfl) 0 (Nat.le_of_ble_eq_true rfl)) ?_
      refine zx_bipush (v := 7) G d_M_ask_28 rfl ?_
      refine zx_iald G d_M_ask_30 za_40 (zi_12_0 (zids_of 12 (Nat.le_of_ble_eq_true rfl) 0 (Nat.le_of_ble_eq_true rfl))) h (fun h => ?_)
      refine zx_bipush (v := 6) G d_M_ask_31 rfl ?_
      refine zx_icmp_ne (tgt := 38) G d_M_ask_33 rfl h (fun h => ?_) (fun h => ?_)
      · refine zx_aload_n G d_M_ask_38 rfl ?_
        refine zx_getR G d_M_ask_39 zf_M_7 zc_12_0 (zids_of 12 (Nat.le_of_ble_eq_true rfl) 0 (Nat.le_of_ble_eq_true rfl)) ?_
        refine zx_bipush (v := 24) G d_M_ask_42 rfl ?_
        refine zx_aload_n G d_M_ask_44 rfl ?_
        refine zx_getR G d_M_ask_45 zf_M_7 zc_12_0 (zids_of 12 (Nat.le_of_ble_eq_true rfl) 0 (Nat.le_of_ble_eq_true rfl)) ?_
        refine zx_bipush (v := 7) G d_M_ask_48 rfl ?_
        refine zx_iald G d_M_ask_50 za_40 (zi_12_0 (zids_of 12 (Nat.le_of_ble_eq_true rfl) 0 (Nat.le_of_ble_eq_true rfl))) h (fun h => ?_)
        refine zx_iadd G d_M_ask_51 ?_
        refine zx_iload_n G d_M_ask_52 rfl ?_
        refine zx_iast G d_M_ask_53 za_40 (zi_12_0 (zids_of 12 (Nat.le_of_ble_eq_true rfl) 0 (Nat.le_of_ble_eq_true rfl))) h (fun μ3 h => ?_)
        refine zx_aload_n G d_M_ask_54 rfl ?_
        refine zx_getR G d_M_ask_55 zf_M_7 zc_12_0 (zids_of 12 (Nat.le_of_ble_eq_true rfl) 0 (Nat.le_of_ble_eq_true rfl)) ?_
        refine zx_bipush (v := 7) G d_M_ask_58 rfl ?_
        refine zx_dup2_11 G d_M_ask_60 rfl rfl ?_
        refine zx_iald G d_M_ask_61 za_40 (zi_12_0 (zids_of 12 (Nat.le_of_ble_eq_true rfl) 0 (Nat.le_of_ble_eq_true rfl))) h (fun h => ?_)
        refine zx_iconst (v := 1) G d_M_ask_62 rfl ?_
        refine zx_iadd G d_M_ask_63 ?_
        refine zx_iast G d_M_ask_64 za_40 (zi_12_0 (zids_of 12 (Nat.le_of_ble_eq_true rfl) 0 (Nat.le_of_ble_eq_true rfl))) h (fun μ4 h => ?_)
        refine zx_aload_n G d_M_ask_65 rfl ?_
        refine zx_getR G d_M_ask_66 zf_M_7 zc_12_0 (zids_of 12 (Nat.le_of_ble_eq_true rfl) 0 (Nat.le_of_ble_eq_true rfl)) ?_
        refine zx_bipush (v := 7) G d_M_ask_69 rfl ?_
        refine zx_iald G d_M_ask_71 za_40 (zi_12_0 (zids_of 12 (Nat.le_of_ble_eq_true rfl) 0 (Nat.le_of_ble_eq_true rfl))) h (fun h => ?_)
        exact zx_iret G d_M_ask_72 rfl h
      · refine zx_iconst (v := -1) G d_M_ask_36 rfl ?_
        exact zx_iret G d_M_ask_37 rfl h
  · refine zx_aload_n G d_M_ask_4 rfl ?_
    refine zx_getR G d_M_ask_5 zf_M_7 zc_12_0 (zids_of 12 (Nat.le_of_ble_eq_true rfl) 0 (Nat.le_of_ble_eq_true rfl)) ?_
    refine zx_bipush (v := 7) G d_M_ask_8 rfl ?_
    refine zx_iconst (v := 0) G d_M_ask_10 rfl ?_
    refine zx_iast G d_M_ask_11 za_40 (zi_12_0 (zids_of 12 (Nat.le_of_ble_eq_true rfl) 0 (Nat.le_of_ble_eq_true rfl))) h (fun μ5 h => ?_)
    refine zx_iconst (v := 0) G d_M_ask_12 rfl ?_
    exact zx_iret G d_M_ask_13 rfl h
set_option maxHeartbeats 4000000 in
set_option maxRecDepth 20000 in
theorem t_M_has {g : ZG} {l : Launch} {N : Nat} {μ : ZMem} {p0 : Int32} {p1 : Int32} {rr : Int32 × ZMem} (h : f_M_has N μ p0 p1 = some rr) : zT g l 0 K_M_has [.int p0, .int p1] μ (some (.int rr.1), rr.2) := by
  refine zT_of (by decide +kernel) (Nat.le_of_ble_eq_true rfl) (fun E G => ?_)
  show zX g K_M_has 0 E (some (.int rr.1), rr.2) μ 0 [some (.int p0), some (.int p1)] []
  unfold f_M_has at h
  refine zx_iload_n G d_M_has_0 rfl ?_
  refine zx_iload_n G d_M_has_1 rfl ?_
  refine zx_ishr G d_M_has_2 ?_
  refine zx_iconst (v := 1) G d_M_has_3 rfl ?_
  refine zx_iand G d_M_has_4 ?_
  refine zx_iconst (v := 1) G d_M_has_5 rfl ?_
  refine zx_icmp_ne (tgt := 13) G d_M_has_6 rfl h (fun h => ?_) (fun h => ?_)
  · refine zx_iconst (v := 0) G d_M_has_13 rfl ?_
    exact zx_zretK G d_M_has_14 rfl (by decide) h
  · refine zx_iconst (v := 1) G d_M_has_9 rfl ?_
    refine zx_goto (tgt := 14) G d_M_has_10 rfl ?_
    exact zx_zretK G d_M_has_14 rfl (by decide) h
set_option maxHeartbeats 4000000 in
set_option maxRecDepth 20000 in
theorem tf_M_isLike_l3_0 {g : ZG} {E : ZE} {N : Nat} {rr : Int32 × ZMem} {p0 : Int32} {p1 : Int32} {p2 : Int32} (G : zGa g K_M_isLike 1 E) (hl0 : (12, 0) ∈ zids) : ∀ (n3 : Nat) (z2 : Int32) (μ3 : ZMem), f_M_isLike_l3 N p0 p1 p2 n3 z2 μ3 = some rr → zX g K_M_isLike 1 E (some (.int rr.1), rr.2) μ3 3 [some (.ref (g.2.1 12 0)), some (.int p0), some (.int p1), some (.int p2), some (.int z2)] [] := by
  intro n3
  induction n3 with
  | zero => intro z2 μ3 h; cases h
  | succ n3 ih3 =>
    intro z2 μ3 h
    simp only [f_M_isLike_l3] at h
    refine zx_iload G d_M_isLike_3 rfl ?_
    refine zx_aload_n G d_M_isLike_5 rfl ?_
    refine zx_getR G d_M_isLike_6 zf_M_7 zc_12_0 hl0 ?_
    refine zx_bipush (v := 7) G d_M_isLike_9 rfl ?_
    refine zx_iald G d_M_isLike_11 za_40 (zi_12_0 hl0) h (fun h => ?_)
    refine zx_icmp_ge (tgt := 59) G d_M_isLike_12 rfl h (fun h => ?_) (fun h => ?_)
    · refine zx_iconst (v := 1) G d_M_isLike_59 rfl ?_
      exact zx_zretK G d_M_isLike_60 rfl (by decide) h
    · refine zx_iload_n G d_M_isLike_15 rfl ?_
      refine zx_iload G d_M_isLike_16 rfl ?_
      obtain ⟨r5, μ4, hc, h⟩ := zbnd_of h
      refine zx_callSI (r := r5) (μ2 := μ4) G d_M_isLike_18 zm_M_328 (fun l => t_M_has  hc) rfl rfl (Nat.le_of_ble_eq_true rfl) (Nat.le_of_ble_eq_true rfl) ?_
      refine zx_join (P := fun k => ∀ (μ6 : ZMem), k μ6 = some rr → zX g K_M_isLike 1 E (some (.int rr.1), rr.2) μ6 53 [some (.ref (g.2.1 12 0)), some (.int p0), some (.int p1), some (.int p2), some (.int z2)] []) h (fun μ6 h => ?_) (fun k7 hk7 h => ?_)
      · try dsimp only at h
        refine zx_iinc (v := 1) (lf := fun y => [_, _, _, _, some (.int y)]) G d_M_isLike_53 (Nat.le_of_ble_eq_true rfl) rfl rfl (fun _ => rfl) h (fun x8 h => ?_)
        refine zx_goto (tgt := 3) G d_M_isLike_56 rfl ?_
        exact ih3 x8 μ6 h
      try dsimp only at h
      refine zx_if_eq (tgt := 53) G d_M_isLike_21 rfl h (fun h => ?_) (fun h => ?_)
      · exact hk7 μ4 h
      · refine zx_iload_n G d_M_isLike_24 rfl ?_
        refine zx_aload_n G d_M_isLike_25 rfl ?_
        refine zx_getR G d_M_isLike_26 zf_M_7 zc_12_0 hl0 ?_
        refine zx_bipush (v := 24) G d_M_isLike_29 rfl ?_
        refine zx_iload G d_M_isLike_31 rfl ?_
        refine zx_iadd G d_M_isLike_33 ?_
        refine zx_iald G d_M_isLike_34 za_40 (zi_12_0 hl0) h (fun h => ?_)
        refine zx_irem G d_M_isLike_35 h (fun h => ?_)
        refine zx_iload_n G d_M_isLike_36 rfl ?_
        refine zx_aload_n G d_M_isLike_37 rfl ?_
        refine zx_getR G d_M_isLike_38 zf_M_7 zc_12_0 hl0 ?_
        refine zx_bipush (v := 24) G d_M_isLike_41 rfl ?_
        refine zx_iload G d_M_isLike_43 rfl ?_
        refine zx_iadd G d_M_isLike_45 ?_
        refine zx_iald G d_M_isLike_46 za_40 (zi_12_0 hl0) h (fun h => ?_)
        refine zx_irem G d_M_isLike_47 h (fun h => ?_)
        refine zx_icmp_eq (tgt := 53) G d_M_isLike_48 rfl h (fun h => ?_) (fun h => ?_)
        · exact hk7 μ4 h
        · refine zx_iconst (v := 0) G d_M_isLike_51 rfl ?_
          exact zx_zretK G d_M_isLike_52 rfl (by decide) h
set_option maxHeartbeats 4000000 in
set_option maxRecDepth 20000 in
theorem tf_M_isLike_l3 {g : ZG} {E : ZE} {N n3 : Nat} {rr : Int32 × ZMem} {p0 : Int32} {p1 : Int32} {p2 : Int32} {z2 : Int32} {μ3 : ZMem} (G : zGa g K_M_isLike 1 E) (hl0 : (12, 0) ∈ zids) (h : f_M_isLike_l3 N p0 p1 p2 n3 z2 μ3 = some rr) : zX g K_M_isLike 1 E (some (.int rr.1), rr.2) μ3 3 [some (.ref (g.2.1 12 0)), some (.int p0), some (.int p1), some (.int p2), some (.int z2)] [] := tf_M_isLike_l3_0 G hl0 n3 z2 μ3 h
set_option maxHeartbeats 4000000 in
set_option maxRecDepth 20000 in
theorem t_M_isLike {g : ZG} {l : Launch} {N : Nat} {μ : ZMem} {p0 : Int32} {p1 : Int32} {p2 : Int32} {rr : Int32 × ZMem} (h : f_M_isLike N μ p0 p1 p2 = some rr) : zT g l 1 K_M_isLike [.ref (g.2.1 12 0), .int p0, .int p1, .int p2] μ (some (.int rr.1), rr.2) := by
  refine zT_of (by decide +kernel) (Nat.le_of_ble_eq_true rfl) (fun E G => ?_)
  show zX g K_M_isLike 1 E (some (.int rr.1), rr.2) μ 0 [some (.ref (g.2.1 12 0)), some (.int p0), some (.int p1), some (.int p2), none] []
  unfold f_M_isLike at h
  refine zx_iconst (v := 0) G d_M_isLike_0 rfl ?_
  refine zx_istore (lf := fun y => [_, _, _, _, some (.int y)]) G d_M_isLike_1 (Nat.le_of_ble_eq_true rfl) (fun _ => rfl) h (fun x1 h => ?_)
  refine tf_M_isLike_l3 G (zids_of 12 (Nat.le_of_ble_eq_true rfl) 0 (Nat.le_of_ble_eq_true rfl)) h
set_option maxHeartbeats 4000000 in
set_option maxRecDepth 20000 in
theorem tf_M_takesBy_l6_0 {g : ZG} {E : ZE} {N : Nat} {rr : Int32 × ZMem} {p0 : Int32} {p1 : Int32} {p2 : Int32} {p3 : Int32} (G : zGa g K_M_takesBy 2 E) (hl0 : (12, 0) ∈ zids) : ∀ (n6 : Nat) (z3 : Int32) (z4 : Int32) (μ5 : ZMem), f_M_takesBy_l6 N p0 p1 p2 p3 n6 z3 z4 μ5 = some rr → zX g K_M_takesBy 2 E (some (.int rr.1), rr.2) μ5 6 [some (.ref (g.2.1 12 0)), some (.int p0), some (.int p1), some (.int p2), some (.int p3), some (.int z3), some (.int z4)] [] := by
  intro n6
  induction n6 with
  | zero => intro z3 z4 μ5 h; cases h
  | succ n6 ih6 =>
    intro z3 z4 μ5 h
    simp only [f_M_takesBy_l6] at h
    refine zx_iload G d_M_takesBy_6 rfl ?_
    refine zx_iload G d_M_takesBy_8 rfl ?_
    refine zx_icmp_ge (tgt := 69) G d_M_takesBy_10 rfl h (fun h => ?_) (fun h => ?_)
    · refine zx_iload G d_M_takesBy_69 rfl ?_
      refine zx_iconst (v := 1) G d_M_takesBy_71 rfl ?_
      refine zx_iadd G d_M_takesBy_72 ?_
      exact zx_iret G d_M_takesBy_73 rfl h
    · refine zx_aload_n G d_M_takesBy_13 rfl ?_
      refine zx_iload_n G d_M_takesBy_14 rfl ?_
      refine zx_iload_n G d_M_takesBy_15 rfl ?_
      refine zx_iload G d_M_takesBy_16 rfl ?_
      obtain ⟨r7, μ6, hc, h⟩ := zbnd_of h
      refine zx_callVI (r := r7) (μ2 := μ6) G d_M_takesBy_18 zm_M_331 (fun l => t_M_isLike  hc) rfl rfl (Nat.le_of_ble_eq_true rfl) (Nat.le_of_ble_eq_true rfl) (zrecv zo_12 hl0) ?_
      refine zx_join (P := fun k => ∀ (y8 : Int32) (μ9 : ZMem), k y8 μ9 = some rr → zX g K_M_takesBy 2 E (some (.int rr.1), rr.2) μ9 63 [some (.ref (g.2.1 12 0)), some (.int p0), some (.int p1), some (.int p2), some (.int p3), some (.int y8), some (.int z4)] []) h (fun y8 μ9 h => ?_) (fun k10 hk10 h => ?_)
      · try dsimp only at h
        refine zx_iinc (v := 1) (lf := fun y => [_, _, _, _, _, _, some (.int y)]) G d_M_takesBy_63 (Nat.le_of_ble_eq_true rfl) rfl rfl (fun _ => rfl) h (fun x11 h => ?_)
        refine zx_goto (tgt := 6) G d_M_takesBy_66 rfl ?_
        exact ih6 y8 x11 μ9 h
      try dsimp only at h
      refine zx_if_eq (tgt := 63) G d_M_takesBy_21 rfl h (fun h => ?_) (fun h => ?_)
      · exact hk10 z3 μ6 h
      · refine zx_aload_n G d_M_takesBy_24 rfl ?_
        refine zx_getR G d_M_takesBy_25 zf_M_61 zc_12_25 hl0 ?_
        refine zx_bipush (v := 24) G d_M_takesBy_28 rfl ?_
        refine zx_iload_n G d_M_takesBy_30 rfl ?_
        refine zx_iconst (v := 1) G d_M_takesBy_31 rfl ?_
        refine zx_iload_n G d_M_takesBy_32 rfl ?_
        refine zx_ishl G d_M_takesBy_33 ?_
        refine zx_ior G d_M_takesBy_34 ?_
        refine zx_imul G d_M_takesBy_35 ?_
        refine zx_iload G d_M_takesBy_36 rfl ?_
        refine zx_iadd G d_M_takesBy_38 ?_
        refine zx_iald G d_M_takesBy_39 za_52 (zi_12_25 hl0) h (fun h => ?_)
        refine zx_iload G d_M_takesBy_40 rfl ?_
        refine zx_icmp_le (tgt := 63) G d_M_takesBy_42 rfl h (fun h => ?_) (fun h => ?_)
        · exact hk10 z3 μ6 h
        · refine zx_aload_n G d_M_takesBy_45 rfl ?_
          refine zx_getR G d_M_takesBy_46 zf_M_61 zc_12_25 hl0 ?_
          refine zx_bipush (v := 24) G d_M_takesBy_49 rfl ?_
          refine zx_iload_n G d_M_takesBy_51 rfl ?_
          refine zx_iconst (v := 1) G d_M_takesBy_52 rfl ?_
          refine zx_iload_n G d_M_takesBy_53 rfl ?_
          refine zx_ishl G d_M_takesBy_54 ?_
          refine zx_ior G d_M_takesBy_55 ?_
          refine zx_imul G d_M_takesBy_56 ?_
          refine zx_iload G d_M_takesBy_57 rfl ?_
          refine zx_iadd G d_M_takesBy_59 ?_
          refine zx_iald G d_M_takesBy_60 za_52 (zi_12_25 hl0) h (fun h => ?_)
          refine zx_istore (lf := fun y => [_, _, _, _, _, some (.int y), _]) G d_M_takesBy_61 (Nat.le_of_ble_eq_true rfl) (fun _ => rfl) h (fun x12 h => ?_)
          exact hk10 x12 μ6 h
set_option maxHeartbeats 4000000 in
set_option maxRecDepth 20000 in
theorem tf_M_takesBy_l6 {g : ZG} {E : ZE} {N n6 : Nat} {rr : Int32 × ZMem} {p0 : Int32} {p1 : Int32} {p2 : Int32} {p3 : Int32} {z3 : Int32} {z4 : Int32} {μ5 : ZMem} (G : zGa g K_M_takesBy 2 E) (hl0 : (12, 0) ∈ zids) (h : f_M_takesBy_l6 N p0 p1 p2 p3 n6 z3 z4 μ5 = some rr) : zX g K_M_takesBy 2 E (some (.int rr.1), rr.2) μ5 6 [some (.ref (g.2.1 12 0)), some (.int p0), some (.int p1), some (.int p2), some (.int p3), some (.int z3), some (.int z4)] [] := tf_M_takesBy_l6_0 G hl0 n6 z3 z4 μ5 h
set_option maxHeartbeats 4000000 in
set_option maxRecDepth 20000 in
theorem t_M_takesBy {g : ZG} {l : Launch} {N : Nat} {μ : ZMem} {p0 : Int32} {p1 : Int32} {p2 : Int32} {p3 : Int32} {rr : Int32 × ZMem} (h : f_M_takesBy N μ p0 p1 p2 p3 = some rr) : zT g l 2 K_M_takesBy [.ref (g.2.1 12 0), .int p0, .int p1, .int p2, .int p3] μ (some (.int rr.1), rr.2) := by
  refine zT_of (by decide +kernel) (Nat.le_of_ble_eq_true rfl) (fun E G => ?_)
  show zX g K_M_takesBy 2 E (some (.int rr.1), rr.2) μ 0 [some (.ref (g.2.1 12 0)), some (.int p0), some (.int p1), some (.int p2), some (.int p3), none, none] []
  unfold f_M_takesBy at h
  refine zx_iconst (v := 0) G d_M_takesBy_0 rfl ?_
  refine zx_istore (lf := fun y => [_, _, _, _, _, some (.int y), none]) G d_M_takesBy_1 (Nat.le_of_ble_eq_true rfl) (fun _ => rfl) h (fun x1 h => ?_)
  refine zx_iconst (v := 0) G d_M_takesBy_3 rfl ?_
  refine zx_istore (lf := fun y => [_, _, _, _, _, _, some (.int y)]) G d_M_takesBy_4 (Nat.le_of_ble_eq_true rfl) (fun _ => rfl) h (fun x2 h => ?_)
  refine tf_M_takesBy_l6 G (zids_of 12 (Nat.le_of_ble_eq_true rfl) 0 (Nat.le_of_ble_eq_true rfl)) h
set_option maxHeartbeats 4000000 in
set_option maxRecDepth 20000 in
theorem tf_M_reckon_l6_0 {g : ZG} {E : ZE} {N : Nat} {rr : Int32 × ZMem} {p0 : Int32} {p1 : Int32} {p2 : Int32} {kx47 : Int32 → ZMem → Option (Int32 × ZMem)} (G : zGa g K_M_reckon 3 E) (hl0 : (12, 0) ∈ zids) (hkx47 : ∀ (w4 : Int32) (μ : ZMem), kx47 w4 μ = some rr → zX g K_M_reckon 3 E (some (.int rr.1), rr.2) μ 47 [some (.ref (g.2.1 12 0)), some (.int p0), some (.int p1), some (.int p2), some (.int w4), none, none, none] []) : ∀ (n6 : Nat) (z3 : Int32) (z4 : Int32) (μ5 : ZMem), f_M_reckon_l6 N p0 p1 p2 kx47 n6 z3 z4 μ5 = some rr → zX g K_M_reckon 3 E (some (.int rr.1), rr.2) μ5 6 [some (.ref (g.2.1 12 0)), some (.int p0), some (.int p1), some (.int p2), some (.int z3), some (.int z4), none, none] [] := by
  intro n6
  induction n6 with
  | zero => intro z3 z4 μ5 h; cases h
  | succ n6 ih6 =>
    intro z3 z4 μ5 h
    simp only [f_M_reckon_l6] at h
    refine zx_iload G d_M_reckon_6 rfl ?_
    refine zx_iload_n G d_M_reckon_8 rfl ?_
    refine zx_icmp_ge (tgt := 47) G d_M_reckon_9 rfl h (fun h => ?_) (fun h => ?_)
    · refine zx_weak [true, true, true, true, true, false, false, false] (lv2 := [_, _, _, _, _, none, none, none]) rfl ?_
      exact hkx47 z3 μ5 h
    · refine zx_iload G d_M_reckon_12 rfl ?_
      refine zx_join (P := fun k => ∀ (y6 : Int32) (μ7 : ZMem), k y6 μ7 = some rr → zX g K_M_reckon 3 E (some (.int rr.1), rr.2) μ7 39 [some (.ref (g.2.1 12 0)), some (.int p0), some (.int p1), some (.int p2), none, some (.int z4), none, none] [.int y6]) h (fun y6 μ7 h => ?_) (fun k8 hk8 h => ?_)
      · try dsimp only at h
        refine zx_istore (lf := fun y => [_, _, _, _, some (.int y), _, none, none]) G d_M_reckon_39 (Nat.le_of_ble_eq_true rfl) (fun _ => rfl) h (fun x9 h => ?_)
        refine zx_iinc (v := 1) (lf := fun y => [_, _, _, _, _, some (.int y), none, none]) G d_M_reckon_41 (Nat.le_of_ble_eq_true rfl) rfl rfl (fun _ => rfl) h (fun x10 h => ?_)
        refine zx_goto (tgt := 6) G d_M_reckon_44 rfl ?_
        exact ih6 x9 x10 μ7 h
      try dsimp only at h
      refine zx_join (P := fun k => ∀ (μ11 : ZMem), k μ11 = some rr → zX g K_M_reckon 3 E (some (.int rr.1), rr.2) μ11 38 [some (.ref (g.2.1 12 0)), some (.int p0), some (.int p1), some (.int p2), none, some (.int z4), none, none] []) h (fun μ11 h => ?_) (fun k12 hk12 h => ?_)
      · try dsimp only at h
        refine zx_iconst (v := 0) G d_M_reckon_38 rfl ?_
        exact hk8 (0 : Int32) μ11 h
      try dsimp only at h
      refine zx_if_eq (tgt := 38) G d_M_reckon_14 rfl h (fun h => ?_) (fun h => ?_)
      · refine zx_weak [true, true, true, true, false, true, false, false] (lv2 := [_, _, _, _, none, _, none, none]) rfl ?_
        exact hk12 μ5 h
      · refine zx_iload G d_M_reckon_17 rfl ?_
        refine zx_iload_n G d_M_reckon_19 rfl ?_
        refine zx_join (P := fun k => ∀ (μ13 : ZMem), k μ13 = some rr → zX g K_M_reckon 3 E (some (.int rr.1), rr.2) μ13 34 [some (.ref (g.2.1 12 0)), some (.int p0), some (.int p1), some (.int p2), none, some (.int z4), none, none] []) h (fun μ13 h => ?_) (fun k14 hk14 h => ?_)
        · try dsimp only at h
          refine zx_iconst (v := 1) G d_M_reckon_34 rfl ?_
          refine zx_goto (tgt := 39) G d_M_reckon_35 rfl ?_
          exact hk8 (1 : Int32) μ13 h
        try dsimp only at h
        refine zx_icmp_eq (tgt := 34) G d_M_reckon_20 rfl h (fun h => ?_) (fun h => ?_)
        · refine zx_weak [true, true, true, true, false, true, false, false] (lv2 := [_, _, _, _, none, _, none, none]) rfl ?_
          exact hk14 μ5 h
        · refine zx_aload_n G d_M_reckon_23 rfl ?_
          refine zx_iload_n G d_M_reckon_24 rfl ?_
          refine zx_iload_n G d_M_reckon_25 rfl ?_
          refine zx_iload G d_M_reckon_26 rfl ?_
          obtain ⟨r16, μ15, hc, h⟩ := zbnd_of h
          refine zx_callVI (r := r16) (μ2 := μ15) G d_M_reckon_28 zm_M_331 (fun l => t_M_isLike  hc) rfl rfl (Nat.le_of_ble_eq_true rfl) (Nat.le_of_ble_eq_true rfl) (zrecv zo_12 hl0) ?_
          refine zx_if_ne (tgt := 38) G d_M_reckon_31 rfl h (fun h => ?_) (fun h => ?_)
          · refine zx_weak [true, true, true, true, false, true, false, false] (lv2 := [_, _, _, _, none, _, none, none]) rfl ?_
            exact hk12 μ15 h
          · refine zx_weak [true, true, true, true, false, true, false, false] (lv2 := [_, _, _, _, none, _, none, none]) rfl ?_
            exact hk14 μ15 h
set_option maxHeartbeats 4000000 in
set_option maxRecDepth 20000 in
theorem tf_M_reckon_l6 {g : ZG} {E : ZE} {N n6 : Nat} {rr : Int32 × ZMem} {p0 : Int32} {p1 : Int32} {p2 : Int32} {kx47 : Int32 → ZMem → Option (Int32 × ZMem)} {z3 : Int32} {z4 : Int32} {μ5 : ZMem} (G : zGa g K_M_reckon 3 E) (hl0 : (12, 0) ∈ zids) (h : f_M_reckon_l6 N p0 p1 p2 kx47 n6 z3 z4 μ5 = some rr) (hkx47 : ∀ (w4 : Int32) (μ : ZMem), kx47 w4 μ = some rr → zX g K_M_reckon 3 E (some (.int rr.1), rr.2) μ 47 [some (.ref (g.2.1 12 0)), some (.int p0), some (.int p1), some (.int p2), some (.int w4), none, none, none] []) : zX g K_M_reckon 3 E (some (.int rr.1), rr.2) μ5 6 [some (.ref (g.2.1 12 0)), some (.int p0), some (.int p1), some (.int p2), some (.int z3), some (.int z4), none, none] [] := tf_M_reckon_l6_0 G hl0 hkx47 n6 z3 z4 μ5 h
set_option maxHeartbeats 4000000 in
set_option maxRecDepth 20000 in
theorem tf_M_reckon_l61_0 {g : ZG} {E : ZE} {N : Nat} {rr : Int32 × ZMem} {p0 : Int32} {p1 : Int32} {p2 : Int32} (G : zGa g K_M_reckon 3 E) (hl0 : (12, 0) ∈ zids) : ∀ (n61 : Nat) (z21 : Int32) (z22 : Int32) (μ23 : ZMem), f_M_reckon_l61 N p0 p1 p2 n61 z21 z22 μ23 = some rr → zX g K_M_reckon 3 E (some (.int rr.1), rr.2) μ23 61 [some (.ref (g.2.1 12 0)), some (.int p0), some (.int p1), some (.int p2), none, some (.int z21), some (.int z22), none] [] := by
  intro n61
  induction n61 with
  | zero => intro z21 z22 μ23 h; cases h
  | succ n61 ih61 =>
    intro z21 z22 μ23 h
    simp only [f_M_reckon_l61] at h
    refine zx_iload G d_M_reckon_61 rfl ?_
    refine zx_aload_n G d_M_reckon_63 rfl ?_
    refine zx_getR G d_M_reckon_64 zf_M_7 zc_12_0 hl0 ?_
    refine zx_bipush (v := 7) G d_M_reckon_67 rfl ?_
    refine zx_iald G d_M_reckon_69 za_40 (zi_12_0 hl0) h (fun h => ?_)
    refine zx_icmp_ge (tgt := 118) G d_M_reckon_70 rfl h (fun h => ?_) (fun h => ?_)
    · refine zx_iload G d_M_reckon_118 rfl ?_
      exact zx_iret G d_M_reckon_120 rfl h
    · refine zx_iload_n G d_M_reckon_73 rfl ?_
      refine zx_iload G d_M_reckon_74 rfl ?_
      obtain ⟨r25, μ24, hc, h⟩ := zbnd_of h
      refine zx_callSI (r := r25) (μ2 := μ24) G d_M_reckon_76 zm_M_328 (fun l => t_M_has  hc) rfl rfl (Nat.le_of_ble_eq_true rfl) (Nat.le_of_ble_eq_true rfl) ?_
      refine zx_join (P := fun k => ∀ (y26 : Int32) (μ27 : ZMem), k y26 μ27 = some rr → zX g K_M_reckon 3 E (some (.int rr.1), rr.2) μ27 112 [some (.ref (g.2.1 12 0)), some (.int p0), some (.int p1), some (.int p2), none, some (.int y26), some (.int z22), none] []) h (fun y26 μ27 h => ?_) (fun k28 hk28 h => ?_)
      · try dsimp only at h
        refine zx_iinc (v := 1) (lf := fun y => [_, _, _, _, none, _, some (.int y), none]) G d_M_reckon_112 (Nat.le_of_ble_eq_true rfl) rfl rfl (fun _ => rfl) h (fun x29 h => ?_)
        refine zx_goto (tgt := 61) G d_M_reckon_115 rfl ?_
        exact ih61 y26 x29 μ27 h
      try dsimp only at h
      refine zx_if_eq (tgt := 85) G d_M_reckon_79 rfl h (fun h => ?_) (fun h => ?_)
      · refine zx_aload_n G d_M_reckon_85 rfl ?_
        refine zx_iload_n G d_M_reckon_86 rfl ?_
        refine zx_iload_n G d_M_reckon_87 rfl ?_
        refine zx_iload G d_M_reckon_88 rfl ?_
        refine zx_iload_n G d_M_reckon_90 rfl ?_
        obtain ⟨r31, μ30, hc, h⟩ := zbnd_of h
        refine zx_callVI (r := r31) (μ2 := μ30) G d_M_reckon_91 zm_M_334 (fun l => t_M_takesBy  hc) rfl rfl (Nat.le_of_ble_eq_true rfl) (Nat.le_of_ble_eq_true rfl) (zrecv zo_12 hl0) ?_
        refine zx_istore (lf := fun y => [_, _, _, _, none, _, _, some (.int y)]) G d_M_reckon_94 (Nat.le_of_ble_eq_true rfl) (fun _ => rfl) h (fun x32 h => ?_)
        refine zx_iload G d_M_reckon_96 rfl ?_
        refine zx_iload G d_M_reckon_98 rfl ?_
        refine zx_join (P := fun k => ∀ (y33 : Int32) (μ34 : ZMem), k y33 μ34 = some rr → zX g K_M_reckon 3 E (some (.int rr.1), rr.2) μ34 110 [some (.ref (g.2.1 12 0)), some (.int p0), some (.int p1), some (.int p2), none, none, some (.int z22), none] [.int y33]) h (fun y33 μ34 h => ?_) (fun k35 hk35 h => ?_)
        · try dsimp only at h
          refine zx_istore (lf := fun y => [_, _, _, _, none, some (.int y), _, none]) G d_M_reckon_110 (Nat.le_of_ble_eq_true rfl) (fun _ => rfl) h (fun x36 h => ?_)
          exact hk28 x36 μ34 h
        try dsimp only at h
        refine zx_icmp_ge (tgt := 108) G d_M_reckon_100 rfl h (fun h => ?_) (fun h => ?_)
        · refine zx_iload G d_M_reckon_108 rfl ?_
          refine zx_weak [true, true, true, true, false, false, true, false] (lv2 := [_, _, _, _, none, none, _, none]) rfl ?_
          exact hk35 z21 μ30 h
        · refine zx_iload G d_M_reckon_103 rfl ?_
          refine zx_goto (tgt := 110) G d_M_reckon_105 rfl ?_
          refine zx_weak [true, true, true, true, false, false, true, false] (lv2 := [_, _, _, _, none, none, _, none]) rfl ?_
          exact hk35 x32 μ30 h
      · refine zx_goto (tgt := 112) G d_M_reckon_82 rfl ?_
        exact hk28 z21 μ24 h
set_option maxHeartbeats 4000000 in
set_option maxRecDepth 20000 in
theorem tf_M_reckon_l61 {g : ZG} {E : ZE} {N n61 : Nat} {rr : Int32 × ZMem} {p0 : Int32} {p1 : Int32} {p2 : Int32} {z21 : Int32} {z22 : Int32} {μ23 : ZMem} (G : zGa g K_M_reckon 3 E) (hl0 : (12, 0) ∈ zids) (h : f_M_reckon_l61 N p0 p1 p2 n61 z21 z22 μ23 = some rr) : zX g K_M_reckon 3 E (some (.int rr.1), rr.2) μ23 61 [some (.ref (g.2.1 12 0)), some (.int p0), some (.int p1), some (.int p2), none, some (.int z21), some (.int z22), none] [] := tf_M_reckon_l61_0 G hl0 n61 z21 z22 μ23 h
set_option maxHeartbeats 4000000 in
set_option maxRecDepth 20000 in
theorem t_M_reckon {g : ZG} {l : Launch} {N : Nat} {μ : ZMem} {p0 : Int32} {p1 : Int32} {p2 : Int32} {rr : Int32 × ZMem} (h : f_M_reckon N μ p0 p1 p2 = some rr) : zT g l 3 K_M_reckon [.ref (g.2.1 12 0), .int p0, .int p1, .int p2] μ (some (.int rr.1), rr.2) := by
  refine zT_of (by decide +kernel) (Nat.le_of_ble_eq_true rfl) (fun E G => ?_)
  show zX g K_M_reckon 3 E (some (.int rr.1), rr.2) μ 0 [some (.ref (g.2.1 12 0)), some (.int p0), some (.int p1), some (.int p2), none, none, none, none] []
  unfold f_M_reckon at h
  refine zx_iconst (v := 1) G d_M_reckon_0 rfl ?_
  refine zx_istore (lf := fun y => [_, _, _, _, some (.int y), none, none, none]) G d_M_reckon_1 (Nat.le_of_ble_eq_true rfl) (fun _ => rfl) h (fun x1 h => ?_)
  refine zx_iconst (v := 0) G d_M_reckon_3 rfl ?_
  refine zx_istore (lf := fun y => [_, _, _, _, _, some (.int y), none, none]) G d_M_reckon_4 (Nat.le_of_ble_eq_true rfl) (fun _ => rfl) h (fun x2 h => ?_)
  refine tf_M_reckon_l6 G (zids_of 12 (Nat.le_of_ble_eq_true rfl) 0 (Nat.le_of_ble_eq_true rfl)) h (fun x17 μ18 h => ?_)
  · try dsimp only at h
    refine zx_iload G d_M_reckon_47 rfl ?_
    refine zx_if_eq (tgt := 54) G d_M_reckon_49 rfl h (fun h => ?_) (fun h => ?_)
    · refine zx_bipush (v := 100) G d_M_reckon_54 rfl ?_
      refine zx_istore (lf := fun y => [_, _, _, _, _, some (.int y), none, none]) G d_M_reckon_56 (Nat.le_of_ble_eq_true rfl) (fun _ => rfl) h (fun x19 h => ?_)
      refine zx_iconst (v := 0) G d_M_reckon_58 rfl ?_
      refine zx_istore (lf := fun y => [_, _, _, _, _, _, some (.int y), none]) G d_M_reckon_59 (Nat.le_of_ble_eq_true rfl) (fun _ => rfl) h (fun x20 h => ?_)
      refine zx_weak [true, true, true, true, false, true, true, false] (lv2 := [_, _, _, _, none, _, _, none]) rfl ?_
      refine tf_M_reckon_l61 G (zids_of 12 (Nat.le_of_ble_eq_true rfl) 0 (Nat.le_of_ble_eq_true rfl)) h
    · refine zx_iconst (v := 0) G d_M_reckon_52 rfl ?_
      exact zx_iret G d_M_reckon_53 rfl h
set_option maxHeartbeats 4000000 in
set_option maxRecDepth 20000 in
theorem tf_M_known_l31_0 {g : ZG} {E : ZE} {N : Nat} {rr : Int32 × ZMem} {p0 : Int32} {p1 : Int32} {z4 : Int32} {kx63 : ZMem → Option (Int32 × ZMem)} (G : zGa g K_M_known 4 E) (hl0 : (12, 0) ∈ zids) (hkx63 : ∀  (μ : ZMem), kx63 μ = some rr → zX g K_M_known 4 E (some (.int rr.1), rr.2) μ 63 [some (.ref (g.2.1 12 0)), some (.int p0), some (.int p1), some (.int z4), none] []) : ∀ (n31 : Nat) (z7 : Int32) (μ8 : ZMem), f_M_known_l31 N p0 p1 z4 kx63 n31 z7 μ8 = some rr → zX g K_M_known 4 E (some (.int rr.1), rr.2) μ8 31 [some (.ref (g.2.1 12 0)), some (.int p0), some (.int p1), some (.int z4), some (.int z7)] [] := by
  intro n31
  induction n31 with
  | zero => intro z7 μ8 h; cases h
  | succ n31 ih31 =>
    intro z7 μ8 h
    simp only [f_M_known_l31] at h
    refine zx_iload G d_M_known_31 rfl ?_
    refine zx_iload_n G d_M_known_33 rfl ?_
    refine zx_icmp_ge (tgt := 63) G d_M_known_34 rfl h (fun h => ?_) (fun h => ?_)
    · refine zx_weak [true, true, true, true, false] (lv2 := [_, _, _, _, none]) rfl ?_
      exact hkx63 μ8 h
    · refine zx_aload_n G d_M_known_37 rfl ?_
      refine zx_getR G d_M_known_38 zf_M_61 zc_12_25 hl0 ?_
      refine zx_bipush (v := 24) G d_M_known_41 rfl ?_
      refine zx_iload_n G d_M_known_43 rfl ?_
      refine zx_imul G d_M_known_44 ?_
      refine zx_iload G d_M_known_45 rfl ?_
      refine zx_iadd G d_M_known_47 ?_
      refine zx_aload_n G d_M_known_48 rfl ?_
      refine zx_iload_n G d_M_known_49 rfl ?_
      refine zx_iload G d_M_known_50 rfl ?_
      refine zx_iload_n G d_M_known_52 rfl ?_
      obtain ⟨r10, μ9, hc, h⟩ := zbnd_of h
      refine zx_callVI (r := r10) (μ2 := μ9) G d_M_known_53 zm_M_338 (fun l => t_M_reckon  hc) rfl rfl (Nat.le_of_ble_eq_true rfl) (Nat.le_of_ble_eq_true rfl) (zrecv zo_12 hl0) ?_
      refine zx_iast G d_M_known_56 za_52 (zi_12_25 hl0) h (fun μ11 h => ?_)
      refine zx_iinc (v := 1) (lf := fun y => [_, _, _, _, some (.int y)]) G d_M_known_57 (Nat.le_of_ble_eq_true rfl) rfl rfl (fun _ => rfl) h (fun x12 h => ?_)
      refine zx_goto (tgt := 31) G d_M_known_60 rfl ?_
      exact ih31 x12 μ11 h
set_option maxHeartbeats 4000000 in
set_option maxRecDepth 20000 in
theorem tf_M_known_l31 {g : ZG} {E : ZE} {N n31 : Nat} {rr : Int32 × ZMem} {p0 : Int32} {p1 : Int32} {z4 : Int32} {kx63 : ZMem → Option (Int32 × ZMem)} {z7 : Int32} {μ8 : ZMem} (G : zGa g K_M_known 4 E) (hl0 : (12, 0) ∈ zids) (h : f_M_known_l31 N p0 p1 z4 kx63 n31 z7 μ8 = some rr) (hkx63 : ∀  (μ : ZMem), kx63 μ = some rr → zX g K_M_known 4 E (some (.int rr.1), rr.2) μ 63 [some (.ref (g.2.1 12 0)), some (.int p0), some (.int p1), some (.int z4), none] []) : zX g K_M_known 4 E (some (.int rr.1), rr.2) μ8 31 [some (.ref (g.2.1 12 0)), some (.int p0), some (.int p1), some (.int z4), some (.int z7)] [] := tf_M_known_l31_0 G hl0 hkx63 n31 z7 μ8 h
set_option maxHeartbeats 4000000 in
set_option maxRecDepth 20000 in
theorem tf_M_known_l24_0 {g : ZG} {E : ZE} {N : Nat} {rr : Int32 × ZMem} {p0 : Int32} {p1 : Int32} {kx69 : ZMem → Option (Int32 × ZMem)} (G : zGa g K_M_known 4 E) (hl0 : (12, 0) ∈ zids) (hkx69 : ∀  (μ : ZMem), kx69 μ = some rr → zX g K_M_known 4 E (some (.int rr.1), rr.2) μ 69 [some (.ref (g.2.1 12 0)), some (.int p0), some (.int p1), none, none] []) : ∀ (n24 : Nat) (z4 : Int32) (μ5 : ZMem), f_M_known_l24 N p0 p1 kx69 n24 z4 μ5 = some rr → zX g K_M_known 4 E (some (.int rr.1), rr.2) μ5 24 [some (.ref (g.2.1 12 0)), some (.int p0), some (.int p1), some (.int z4), none] [] := by
  intro n24
  induction n24 with
  | zero => intro z4 μ5 h; cases h
  | succ n24 ih24 =>
    intro z4 μ5 h
    simp only [f_M_known_l24] at h
    refine zx_iload_n G d_M_known_24 rfl ?_
    refine zx_if_lt (tgt := 69) G d_M_known_25 rfl h (fun h => ?_) (fun h => ?_)
    · refine zx_weak [true, true, true, false, false] (lv2 := [_, _, _, none, none]) rfl ?_
      exact hkx69 μ5 h
    · refine zx_iconst (v := 0) G d_M_known_28 rfl ?_
      refine zx_istore (lf := fun y => [_, _, _, _, some (.int y)]) G d_M_known_29 (Nat.le_of_ble_eq_true rfl) (fun _ => rfl) h (fun x6 h => ?_)
      refine tf_M_known_l31 G hl0 h (fun μ13 h => ?_)
      · try dsimp only at h
        refine zx_iinc (v := -1) (lf := fun y => [_, _, _, some (.int y), none]) G d_M_known_63 (Nat.le_of_ble_eq_true rfl) rfl rfl (fun _ => rfl) h (fun x14 h => ?_)
        refine zx_goto (tgt := 24) G d_M_known_66 rfl ?_
        exact ih24 x14 μ13 h
set_option maxHeartbeats 4000000 in
set_option maxRecDepth 20000 in
theorem tf_M_known_l24 {g : ZG} {E : ZE} {N n24 : Nat} {rr : Int32 × ZMem} {p0 : Int32} {p1 : Int32} {kx69 : ZMem → Option (Int32 × ZMem)} {z4 : Int32} {μ5 : ZMem} (G : zGa g K_M_known 4 E) (hl0 : (12, 0) ∈ zids) (h : f_M_known_l24 N p0 p1 kx69 n24 z4 μ5 = some rr) (hkx69 : ∀  (μ : ZMem), kx69 μ = some rr → zX g K_M_known 4 E (some (.int rr.1), rr.2) μ 69 [some (.ref (g.2.1 12 0)), some (.int p0), some (.int p1), none, none] []) : zX g K_M_known 4 E (some (.int rr.1), rr.2) μ5 24 [some (.ref (g.2.1 12 0)), some (.int p0), some (.int p1), some (.int z4), none] [] := tf_M_known_l24_0 G hl0 hkx69 n24 z4 μ5 h
set_option maxHeartbeats 4000000 in
set_option maxRecDepth 20000 in
theorem tf_M_known_l95_0 {g : ZG} {E : ZE} {N : Nat} {rr : Int32 × ZMem} {p0 : Int32} (G : zGa g K_M_known 4 E) (hl0 : (12, 0) ∈ zids) : ∀ (n95 : Nat) (z17 : Int32) (μ18 : ZMem), f_M_known_l95 N p0 n95 z17 μ18 = some rr → zX g K_M_known 4 E (some (.int rr.1), rr.2) μ18 95 [some (.ref (g.2.1 12 0)), some (.int p0), none, some (.int z17), none] [] := by
  intro n95
  induction n95 with
  | zero => intro z17 μ18 h; cases h
  | succ n95 ih95 =>
    intro z17 μ18 h
    simp only [f_M_known_l95] at h
    refine zx_iload_n G d_M_known_95 rfl ?_
    refine zx_aload_n G d_M_known_96 rfl ?_
    refine zx_getR G d_M_known_97 zf_M_7 zc_12_0 hl0 ?_
    refine zx_bipush (v := 7) G d_M_known_100 rfl ?_
    refine zx_iald G d_M_known_102 za_40 (zi_12_0 hl0) h (fun h => ?_)
    refine zx_icmp_ge (tgt := 140) G d_M_known_103 rfl h (fun h => ?_) (fun h => ?_)
    · refine zx_iconst (v := -1) G d_M_known_140 rfl ?_
      exact zx_iret G d_M_known_141 rfl h
    · refine zx_aload_n G d_M_known_106 rfl ?_
      refine zx_getR G d_M_known_107 zf_M_61 zc_12_25 hl0 ?_
      refine zx_iconst (v := 0) G d_M_known_110 rfl ?_
      refine zx_iald G d_M_known_111 za_52 (zi_12_25 hl0) h (fun h => ?_)
      refine zx_if_le (tgt := 140) G d_M_known_112 rfl h (fun h => ?_) (fun h => ?_)
      · refine zx_iconst (v := -1) G d_M_known_140 rfl ?_
        exact zx_iret G d_M_known_141 rfl h
      · refine zx_aload_n G d_M_known_115 rfl ?_
        refine zx_iconst (v := 0) G d_M_known_116 rfl ?_
        refine zx_iconst (v := 0) G d_M_known_117 rfl ?_
        refine zx_iload_n G d_M_known_118 rfl ?_
        refine zx_iload_n G d_M_known_119 rfl ?_
        obtain ⟨r20, μ19, hc, h⟩ := zbnd_of h
        refine zx_callVI (r := r20) (μ2 := μ19) G d_M_known_120 zm_M_334 (fun l => t_M_takesBy  hc) rfl rfl (Nat.le_of_ble_eq_true rfl) (Nat.le_of_ble_eq_true rfl) (zrecv zo_12 hl0) ?_
        refine zx_aload_n G d_M_known_123 rfl ?_
        refine zx_getR G d_M_known_124 zf_M_61 zc_12_25 hl0 ?_
        refine zx_iconst (v := 0) G d_M_known_127 rfl ?_
        refine zx_iald G d_M_known_128 za_52 (zi_12_25 hl0) h (fun h => ?_)
        refine zx_icmp_ne (tgt := 134) G d_M_known_129 rfl h (fun h => ?_) (fun h => ?_)
        · refine zx_iinc (v := 1) (lf := fun y => [_, _, none, some (.int y), none]) G d_M_known_134 (Nat.le_of_ble_eq_true rfl) rfl rfl (fun _ => rfl) h (fun x21 h => ?_)
          refine zx_goto (tgt := 95) G d_M_known_137 rfl ?_
          exact ih95 x21 μ19 h
        · refine zx_iload_n G d_M_known_132 rfl ?_
          exact zx_iret G d_M_known_133 rfl h
set_option maxHeartbeats 4000000 in
set_option maxRecDepth 20000 in
theorem tf_M_known_l95 {g : ZG} {E : ZE} {N n95 : Nat} {rr : Int32 × ZMem} {p0 : Int32} {z17 : Int32} {μ18 : ZMem} (G : zGa g K_M_known 4 E) (hl0 : (12, 0) ∈ zids) (h : f_M_known_l95 N p0 n95 z17 μ18 = some rr) : zX g K_M_known 4 E (some (.int rr.1), rr.2) μ18 95 [some (.ref (g.2.1 12 0)), some (.int p0), none, some (.int z17), none] [] := tf_M_known_l95_0 G hl0 n95 z17 μ18 h
set_option maxHeartbeats 4000000 in
set_option maxRecDepth 20000 in
theorem t_M_known {g : ZG} {l : Launch} {N : Nat} {μ : ZMem} {p0 : Int32} {p1 : Int32} {rr : Int32 × ZMem} (h : f_M_known N μ p0 p1 = some rr) : zT g l 4 K_M_known [.ref (g.2.1 12 0), .int p0, .int p1] μ (some (.int rr.1), rr.2) := by
  refine zT_of (by decide +kernel) (Nat.le_of_ble_eq_true rfl) (fun E G => ?_)
  show zX g K_M_known 4 E (some (.int rr.1), rr.2) μ 0 [some (.ref (g.2.1 12 0)), some (.int p0), some (.int p1), none, none] []
  unfold f_M_known at h
  refine zx_iload_n G d_M_known_0 rfl ?_
  refine zx_iconst (v := 1) G d_M_known_1 rfl ?_
  refine zx_bipush (v := 24) G d_M_known_2 rfl ?_
  obtain ⟨r2, μ1, hc, h⟩ := zbnd_of h
  refine zx_callSI (r := r2) (μ2 := μ1) G d_M_known_4 zm_M_68 (fun l => t_M_isIn  hc) rfl rfl (Nat.le_of_ble_eq_true rfl) (Nat.le_of_ble_eq_true rfl) ?_
  refine zx_if_ne (tgt := 12) G d_M_known_7 rfl h (fun h => ?_) (fun h => ?_)
  · refine zx_iconst (v := 1) G d_M_known_12 rfl ?_
    refine zx_aload_n G d_M_known_13 rfl ?_
    refine zx_getR G d_M_known_14 zf_M_7 zc_12_0 (zids_of 12 (Nat.le_of_ble_eq_true rfl) 0 (Nat.le_of_ble_eq_true rfl)) ?_
    refine zx_bipush (v := 7) G d_M_known_17 rfl ?_
    refine zx_iald G d_M_known_19 za_40 (zi_12_0 (zids_of 12 (Nat.le_of_ble_eq_true rfl) 0 (Nat.le_of_ble_eq_true rfl))) h (fun h => ?_)
    refine zx_ishl G d_M_known_20 ?_
    refine zx_iconst (v := 1) G d_M_known_21 rfl ?_
    refine zx_isub G d_M_known_22 ?_
    refine zx_istore_n (lf := fun y => [_, _, _, some (.int y), none]) G d_M_known_23 (Nat.le_of_ble_eq_true rfl) (fun _ => rfl) h (fun x3 h => ?_)
    refine tf_M_known_l24 G (zids_of 12 (Nat.le_of_ble_eq_true rfl) 0 (Nat.le_of_ble_eq_true rfl)) h (fun μ15 h => ?_)
    · try dsimp only at h
      refine zx_aload_n G d_M_known_69 rfl ?_
      refine zx_getR G d_M_known_70 zf_M_61 zc_12_25 (zids_of 12 (Nat.le_of_ble_eq_true rfl) 0 (Nat.le_of_ble_eq_true rfl)) ?_
      refine zx_iconst (v := 0) G d_M_known_73 rfl ?_
      refine zx_iald G d_M_known_74 za_52 (zi_12_25 (zids_of 12 (Nat.le_of_ble_eq_true rfl) 0 (Nat.le_of_ble_eq_true rfl))) h (fun h => ?_)
      refine zx_bipush (v := 100) G d_M_known_75 rfl ?_
      refine zx_icmp_lt (tgt := 82) G d_M_known_77 rfl h (fun h => ?_) (fun h => ?_)
      · refine zx_iload_n G d_M_known_82 rfl ?_
        refine zx_if_ne (tgt := 93) G d_M_known_83 rfl h (fun h => ?_) (fun h => ?_)
        · refine zx_iconst (v := 0) G d_M_known_93 rfl ?_
          refine zx_istore_n (lf := fun y => [_, _, _, some (.int y), none]) G d_M_known_94 (Nat.le_of_ble_eq_true rfl) (fun _ => rfl) h (fun x16 h => ?_)
          refine zx_weak [true, true, false, true, false] (lv2 := [_, _, none, _, none]) rfl ?_
          refine tf_M_known_l95 G (zids_of 12 (Nat.le_of_ble_eq_true rfl) 0 (Nat.le_of_ble_eq_true rfl)) h
        · refine zx_aload_n G d_M_known_86 rfl ?_
          refine zx_getR G d_M_known_87 zf_M_61 zc_12_25 (zids_of 12 (Nat.le_of_ble_eq_true rfl) 0 (Nat.le_of_ble_eq_true rfl)) ?_
          refine zx_iconst (v := 0) G d_M_known_90 rfl ?_
          refine zx_iald G d_M_known_91 za_52 (zi_12_25 (zids_of 12 (Nat.le_of_ble_eq_true rfl) 0 (Nat.le_of_ble_eq_true rfl))) h (fun h => ?_)
          exact zx_iret G d_M_known_92 rfl h
      · refine zx_iconst (v := -1) G d_M_known_80 rfl ?_
        exact zx_iret G d_M_known_81 rfl h
  · refine zx_iconst (v := -1) G d_M_known_10 rfl ?_
    exact zx_iret G d_M_known_11 rfl h
set_option maxHeartbeats 4000000 in
set_option maxRecDepth 20000 in
theorem tf_M_hidden_l4_0 {g : ZG} {E : ZE} {N : Nat} {rr : Int32 × ZMem} {kx49 : Int32 → ZMem → Option (Int32 × ZMem)} (G : zGa g K_M_hidden 1 E) (hl0 : (12, 0) ∈ zids) (hkx49 : ∀ (w1 : Int32) (μ : ZMem), kx49 w1 μ = some rr → zX g K_M_hidden 1 E (some (.int rr.1), rr.2) μ 49 [some (.ref (g.2.1 12 0)), some (.int w1), none] []) : ∀ (n4 : Nat) (z3 : Int32) (z4 : Int32) (μ5 : ZMem), f_M_hidden_l4 N kx49 n4 z3 z4 μ5 = some rr → zX g K_M_hidden 1 E (some (.int rr.1), rr.2) μ5 4 [some (.ref (g.2.1 12 0)), some (.int z3), some (.int z4)] [] := by
  intro n4
  induction n4 with
  | zero => intro z3 z4 μ5 h; cases h
  | succ n4 ih4 =>
    intro z3 z4 μ5 h
    simp only [f_M_hidden_l4] at h
    refine zx_iload_n G d_M_hidden_4 rfl ?_
    refine zx_aload_n G d_M_hidden_5 rfl ?_
    refine zx_getI G d_M_hidden_6 zf_M_76 zc_12_6 hl0 ?_
    refine zx_icmp_ge (tgt := 49) G d_M_hidden_9 rfl h (fun h => ?_) (fun h => ?_)
    · refine zx_weak [true, true, false] (lv2 := [_, _, none]) rfl ?_
      exact hkx49 z3 μ5 h
    · refine zx_aload_n G d_M_hidden_12 rfl ?_
      refine zx_getR G d_M_hidden_13 zf_M_26 zc_12_5 hl0 ?_
      refine zx_iload_n G d_M_hidden_16 rfl ?_
      refine zx_iald G d_M_hidden_17 za_43 (zi_12_5 hl0) h (fun h => ?_)
      refine zx_bipush (v := 63) G d_M_hidden_18 rfl ?_
      refine zx_join (P := fun k => ∀ (y6 : Int32) (μ7 : ZMem), k y6 μ7 = some rr → zX g K_M_hidden 1 E (some (.int rr.1), rr.2) μ7 43 [some (.ref (g.2.1 12 0)), some (.int y6), some (.int z4)] []) h (fun y6 μ7 h => ?_) (fun k8 hk8 h => ?_)
      · try dsimp only at h
        refine zx_iinc (v := 1) (lf := fun y => [_, _, some (.int y)]) G d_M_hidden_43 (Nat.le_of_ble_eq_true rfl) rfl rfl (fun _ => rfl) h (fun x9 h => ?_)
        refine zx_goto (tgt := 4) G d_M_hidden_46 rfl ?_
        exact ih4 y6 x9 μ7 h
      try dsimp only at h
      refine zx_icmp_ne (tgt := 29) G d_M_hidden_20 rfl h (fun h => ?_) (fun h => ?_)
      · refine zx_aload_n G d_M_hidden_29 rfl ?_
        refine zx_getR G d_M_hidden_30 zf_M_26 zc_12_5 hl0 ?_
        refine zx_iload_n G d_M_hidden_33 rfl ?_
        refine zx_iald G d_M_hidden_34 za_43 (zi_12_5 hl0) h (fun h => ?_)
        obtain ⟨r11, μ10, hc, h⟩ := zbnd_of h
        refine zx_callSI (r := r11) (μ2 := μ10) G d_M_hidden_35 zm_M_96 (fun l => t_M_isFigure  hc) rfl rfl (Nat.le_of_ble_eq_true rfl) (Nat.le_of_ble_eq_true rfl) ?_
        refine zx_if_ne (tgt := 43) G d_M_hidden_38 rfl h (fun h => ?_) (fun h => ?_)
        · exact hk8 z3 μ10 h
        · refine zx_iconst (v := -1) G d_M_hidden_41 rfl ?_
          exact zx_iret G d_M_hidden_42 rfl h
      · refine zx_iinc (v := 1) (lf := fun y => [_, some (.int y), _]) G d_M_hidden_23 (Nat.le_of_ble_eq_true rfl) rfl rfl (fun _ => rfl) h (fun x12 h => ?_)
        refine zx_goto (tgt := 43) G d_M_hidden_26 rfl ?_
        exact hk8 x12 μ5 h
set_option maxHeartbeats 4000000 in
set_option maxRecDepth 20000 in
theorem tf_M_hidden_l4 {g : ZG} {E : ZE} {N n4 : Nat} {rr : Int32 × ZMem} {kx49 : Int32 → ZMem → Option (Int32 × ZMem)} {z3 : Int32} {z4 : Int32} {μ5 : ZMem} (G : zGa g K_M_hidden 1 E) (hl0 : (12, 0) ∈ zids) (h : f_M_hidden_l4 N kx49 n4 z3 z4 μ5 = some rr) (hkx49 : ∀ (w1 : Int32) (μ : ZMem), kx49 w1 μ = some rr → zX g K_M_hidden 1 E (some (.int rr.1), rr.2) μ 49 [some (.ref (g.2.1 12 0)), some (.int w1), none] []) : zX g K_M_hidden 1 E (some (.int rr.1), rr.2) μ5 4 [some (.ref (g.2.1 12 0)), some (.int z3), some (.int z4)] [] := tf_M_hidden_l4_0 G hl0 hkx49 n4 z3 z4 μ5 h
set_option maxHeartbeats 4000000 in
set_option maxRecDepth 20000 in
theorem t_M_hidden {g : ZG} {l : Launch} {N : Nat} {μ : ZMem} {rr : Int32 × ZMem} (h : f_M_hidden N μ = some rr) : zT g l 1 K_M_hidden [.ref (g.2.1 12 0)] μ (some (.int rr.1), rr.2) := by
  refine zT_of (by decide +kernel) (Nat.le_of_ble_eq_true rfl) (fun E G => ?_)
  show zX g K_M_hidden 1 E (some (.int rr.1), rr.2) μ 0 [some (.ref (g.2.1 12 0)), none, none] []
  unfold f_M_hidden at h
  refine zx_iconst (v := 0) G d_M_hidden_0 rfl ?_
  refine zx_istore_n (lf := fun y => [_, some (.int y), none]) G d_M_hidden_1 (Nat.le_of_ble_eq_true rfl) (fun _ => rfl) h (fun x1 h => ?_)
  refine zx_iconst (v := 0) G d_M_hidden_2 rfl ?_
  refine zx_istore_n (lf := fun y => [_, _, some (.int y)]) G d_M_hidden_3 (Nat.le_of_ble_eq_true rfl) (fun _ => rfl) h (fun x2 h => ?_)
  refine tf_M_hidden_l4 G (zids_of 12 (Nat.le_of_ble_eq_true rfl) 0 (Nat.le_of_ble_eq_true rfl)) h (fun x13 μ14 h => ?_)
  · try dsimp only at h
    refine zx_aload_n G d_M_hidden_49 rfl ?_
    refine zx_getI G d_M_hidden_50 zf_M_76 zc_12_6 (zids_of 12 (Nat.le_of_ble_eq_true rfl) 0 (Nat.le_of_ble_eq_true rfl)) ?_
    refine zx_join (P := fun k => ∀ (μ15 : ZMem), k μ15 = some rr → zX g K_M_hidden 1 E (some (.int rr.1), rr.2) μ15 61 [none, none, none] []) h (fun μ15 h => ?_) (fun k16 hk16 h => ?_)
    · try dsimp only at h
      refine zx_iconst (v := -1) G d_M_hidden_61 rfl ?_
      refine zx_goto (tgt := 66) G d_M_hidden_62 rfl ?_
      exact zx_iret G d_M_hidden_66 rfl h
    try dsimp only at h
    refine zx_if_eq (tgt := 61) G d_M_hidden_53 rfl h (fun h => ?_) (fun h => ?_)
    · refine zx_weak [false, false, false] (lv2 := [none, none, none]) rfl ?_
      exact hk16 μ14 h
    · refine zx_iload_n G d_M_hidden_56 rfl ?_
      refine zx_iconst (v := 1) G d_M_hidden_57 rfl ?_
      refine zx_icmp_le (tgt := 65) G d_M_hidden_58 rfl h (fun h => ?_) (fun h => ?_)
      · refine zx_iload_n G d_M_hidden_65 rfl ?_
        exact zx_iret G d_M_hidden_66 rfl h
      · refine zx_weak [false, false, false] (lv2 := [none, none, none]) rfl ?_
        exact hk16 μ14 h
set_option maxHeartbeats 4000000 in
set_option maxRecDepth 20000 in
theorem tf_M_restBy_l5_0 {g : ZG} {E : ZE} {N : Nat} {rr : Int32 × ZMem} {p0 : Int32} {p1 : Int32} (G : zGa g K_M_restBy 0 E) (hl0 : (12, 0) ∈ zids) : ∀ (n5 : Nat) (z3 : Int32) (z4 : Int32) (μ5 : ZMem), f_M_restBy_l5 N p0 p1 n5 z3 z4 μ5 = some rr → zX g K_M_restBy 0 E (some (.int rr.1), rr.2) μ5 5 [some (.ref (g.2.1 12 0)), some (.int p0), some (.int p1), some (.int z3), some (.int z4)] [] := by
  intro n5
  induction n5 with
  | zero => intro z3 z4 μ5 h; cases h
  | succ n5 ih5 =>
    intro z3 z4 μ5 h
    simp only [f_M_restBy_l5] at h
    refine zx_iload G d_M_restBy_5 rfl ?_
    refine zx_aload_n G d_M_restBy_7 rfl ?_
    refine zx_getI G d_M_restBy_8 zf_M_76 zc_12_6 hl0 ?_
    refine zx_icmp_ge (tgt := 54) G d_M_restBy_11 rfl h (fun h => ?_) (fun h => ?_)
    · refine zx_iload_n G d_M_restBy_54 rfl ?_
      exact zx_iret G d_M_restBy_55 rfl h
    · refine zx_bipush (v := 10) G d_M_restBy_14 rfl ?_
      refine zx_iload_n G d_M_restBy_16 rfl ?_
      refine zx_imul G d_M_restBy_17 ?_
      refine zx_aload_n G d_M_restBy_18 rfl ?_
      refine zx_getR G d_M_restBy_19 zf_M_26 zc_12_5 hl0 ?_
      refine zx_iload G d_M_restBy_22 rfl ?_
      refine zx_iald G d_M_restBy_24 za_43 (zi_12_5 hl0) h (fun h => ?_)
      refine zx_bipush (v := 63) G d_M_restBy_25 rfl ?_
      refine zx_join (P := fun k => ∀ (y6 : Int32) (μ7 : ZMem), k y6 μ7 = some rr → zX g K_M_restBy 0 E (some (.int rr.1), rr.2) μ7 44 [some (.ref (g.2.1 12 0)), some (.int p0), some (.int p1), none, some (.int z4)] [.int y6, .int ((10 : Int32) * z3)]) h (fun y6 μ7 h => ?_) (fun k8 hk8 h => ?_)
      · try dsimp only at h
        refine zx_iadd G d_M_restBy_44 ?_
        refine zx_iload_n G d_M_restBy_45 rfl ?_
        refine zx_irem G d_M_restBy_46 h (fun h => ?_)
        refine zx_istore_n (lf := fun y => [_, _, _, some (.int y), _]) G d_M_restBy_47 (Nat.le_of_ble_eq_true rfl) (fun _ => rfl) h (fun x9 h => ?_)
        refine zx_iinc (v := 1) (lf := fun y => [_, _, _, _, some (.int y)]) G d_M_restBy_48 (Nat.le_of_ble_eq_true rfl) rfl rfl (fun _ => rfl) h (fun x10 h => ?_)
        refine zx_goto (tgt := 5) G d_M_restBy_51 rfl ?_
        exact ih5 x9 x10 μ7 h
      try dsimp only at h
      refine zx_icmp_ne (tgt := 34) G d_M_restBy_27 rfl h (fun h => ?_) (fun h => ?_)
      · refine zx_aload_n G d_M_restBy_34 rfl ?_
        refine zx_getR G d_M_restBy_35 zf_M_26 zc_12_5 hl0 ?_
        refine zx_iload G d_M_restBy_38 rfl ?_
        refine zx_iald G d_M_restBy_40 za_43 (zi_12_5 hl0) h (fun h => ?_)
        refine zx_bipush (v := 48) G d_M_restBy_41 rfl ?_
        refine zx_isub G d_M_restBy_43 ?_
        refine zx_weak [true, true, true, false, true] (lv2 := [_, _, _, none, _]) rfl ?_
        exact hk8 ((μ5.1 43 0 z4.toNatClampNeg) - (48 : Int32)) μ5 h
      · refine zx_iload_n G d_M_restBy_30 rfl ?_
        refine zx_goto (tgt := 44) G d_M_restBy_31 rfl ?_
        refine zx_weak [true, true, true, false, true] (lv2 := [_, _, _, none, _]) rfl ?_
        exact hk8 p1 μ5 h
set_option maxHeartbeats 4000000 in
set_option maxRecDepth 20000 in
theorem tf_M_restBy_l5 {g : ZG} {E : ZE} {N n5 : Nat} {rr : Int32 × ZMem} {p0 : Int32} {p1 : Int32} {z3 : Int32} {z4 : Int32} {μ5 : ZMem} (G : zGa g K_M_restBy 0 E) (hl0 : (12, 0) ∈ zids) (h : f_M_restBy_l5 N p0 p1 n5 z3 z4 μ5 = some rr) : zX g K_M_restBy 0 E (some (.int rr.1), rr.2) μ5 5 [some (.ref (g.2.1 12 0)), some (.int p0), some (.int p1), some (.int z3), some (.int z4)] [] := tf_M_restBy_l5_0 G hl0 n5 z3 z4 μ5 h
set_option maxHeartbeats 4000000 in
set_option maxRecDepth 20000 in
theorem t_M_restBy {g : ZG} {l : Launch} {N : Nat} {μ : ZMem} {p0 : Int32} {p1 : Int32} {rr : Int32 × ZMem} (h : f_M_restBy N μ p0 p1 = some rr) : zT g l 0 K_M_restBy [.ref (g.2.1 12 0), .int p0, .int p1] μ (some (.int rr.1), rr.2) := by
  refine zT_of (by decide +kernel) (Nat.le_of_ble_eq_true rfl) (fun E G => ?_)
  show zX g K_M_restBy 0 E (some (.int rr.1), rr.2) μ 0 [some (.ref (g.2.1 12 0)), some (.int p0), some (.int p1), none, none] []
  unfold f_M_restBy at h
  refine zx_iconst (v := 0) G d_M_restBy_0 rfl ?_
  refine zx_istore_n (lf := fun y => [_, _, _, some (.int y), none]) G d_M_restBy_1 (Nat.le_of_ble_eq_true rfl) (fun _ => rfl) h (fun x1 h => ?_)
  refine zx_iconst (v := 0) G d_M_restBy_2 rfl ?_
  refine zx_istore (lf := fun y => [_, _, _, _, some (.int y)]) G d_M_restBy_3 (Nat.le_of_ble_eq_true rfl) (fun _ => rfl) h (fun x2 h => ?_)
  refine tf_M_restBy_l5 G (zids_of 12 (Nat.le_of_ble_eq_true rfl) 0 (Nat.le_of_ble_eq_true rfl)) h
set_option maxHeartbeats 4000000 in
set_option maxRecDepth 20000 in
theorem t_M_rest {g : ZG} {l : Launch} {N : Nat} {μ : ZMem} {p0 : Int32} {rr : Int32 × ZMem} (h : f_M_rest N μ p0 = some rr) : zT g l 2 K_M_rest [.ref (g.2.1 12 0), .int p0] μ (some (.int rr.1), rr.2) := by
  refine zT_of (by decide +kernel) (Nat.le_of_ble_eq_true rfl) (fun E G => ?_)
  show zX g K_M_rest 2 E (some (.int rr.1), rr.2) μ 0 [some (.ref (g.2.1 12 0)), some (.int p0)] []
  unfold f_M_rest at h
  refine zx_iload_n G d_M_rest_0 rfl ?_
  refine zx_iconst (v := 1) G d_M_rest_1 rfl ?_
  refine zx_sipush (v := 9999) G d_M_rest_2 rfl ?_
  obtain ⟨r2, μ1, hc, h⟩ := zbnd_of h
  refine zx_callSI (r := r2) (μ2 := μ1) G d_M_rest_5 zm_M_68 (fun l => t_M_isIn  hc) rfl rfl (Nat.le_of_ble_eq_true rfl) (Nat.le_of_ble_eq_true rfl) ?_
  refine zx_if_eq (tgt := 27) G d_M_rest_8 rfl h (fun h => ?_) (fun h => ?_)
  · refine zx_iconst (v := -1) G d_M_rest_27 rfl ?_
    exact zx_iret G d_M_rest_28 rfl h
  · refine zx_aload_n G d_M_rest_11 rfl ?_
    obtain ⟨r4, μ3, hc, h⟩ := zbnd_of h
    refine zx_callVI (r := r4) (μ2 := μ3) G d_M_rest_12 zm_M_341 (fun l => t_M_hidden  hc) rfl rfl (Nat.le_of_ble_eq_true rfl) (Nat.le_of_ble_eq_true rfl) (zrecv zo_12 (zids_of 12 (Nat.le_of_ble_eq_true rfl) 0 (Nat.le_of_ble_eq_true rfl))) ?_
    refine zx_if_ne (tgt := 27) G d_M_rest_15 rfl h (fun h => ?_) (fun h => ?_)
    · refine zx_iconst (v := -1) G d_M_rest_27 rfl ?_
      exact zx_iret G d_M_rest_28 rfl h
    · refine zx_aload_n G d_M_rest_18 rfl ?_
      refine zx_iload_n G d_M_rest_19 rfl ?_
      refine zx_iconst (v := 0) G d_M_rest_20 rfl ?_
      obtain ⟨r6, μ5, hc, h⟩ := zbnd_of h
      refine zx_callVI (r := r6) (μ2 := μ5) G d_M_rest_21 zm_M_344 (fun l => t_M_restBy  hc) rfl rfl (Nat.le_of_ble_eq_true rfl) (Nat.le_of_ble_eq_true rfl) (zrecv zo_12 (zids_of 12 (Nat.le_of_ble_eq_true rfl) 0 (Nat.le_of_ble_eq_true rfl))) ?_
      refine zx_goto (tgt := 28) G d_M_rest_24 rfl ?_
      exact zx_iret G d_M_rest_28 rfl h
set_option maxHeartbeats 4000000 in
set_option maxRecDepth 20000 in
theorem tf_M_struck_l25_0 {g : ZG} {E : ZE} {N : Nat} {rr : Int32 × ZMem} {p0 : Int32} (G : zGa g K_M_struck 2 E) (hl0 : (12, 0) ∈ zids) : ∀ (n25 : Nat) (z7 : Int32) (z8 : Int32) (μ9 : ZMem), f_M_struck_l25 N p0 n25 z7 z8 μ9 = some rr → zX g K_M_struck 2 E (some (.int rr.1), rr.2) μ9 25 [some (.ref (g.2.1 12 0)), some (.int p0), some (.int z7), some (.int z8)] [] := by
  intro n25
  induction n25 with
  | zero => intro z7 z8 μ9 h; cases h
  | succ n25 ih25 =>
    intro z7 z8 μ9 h
    simp only [f_M_struck_l25] at h
    refine zx_iload_n G d_M_struck_25 rfl ?_
    refine zx_bipush (v := 10) G d_M_struck_26 rfl ?_
    refine zx_icmp_ge (tgt := 56) G d_M_struck_28 rfl h (fun h => ?_) (fun h => ?_)
    · refine zx_iload_n G d_M_struck_56 rfl ?_
      exact zx_iret G d_M_struck_57 rfl h
    · refine zx_iload_n G d_M_struck_31 rfl ?_
      refine zx_aload_n G d_M_struck_32 rfl ?_
      refine zx_iload_n G d_M_struck_33 rfl ?_
      refine zx_iload_n G d_M_struck_34 rfl ?_
      obtain ⟨r11, μ10, hc, h⟩ := zbnd_of h
      refine zx_callVI (r := r11) (μ2 := μ10) G d_M_struck_35 zm_M_344 (fun l => t_M_restBy  hc) rfl rfl (Nat.le_of_ble_eq_true rfl) (Nat.le_of_ble_eq_true rfl) (zrecv zo_12 hl0) ?_
      refine zx_join (P := fun k => ∀ (y12 : Int32) (μ13 : ZMem), k y12 μ13 = some rr → zX g K_M_struck 2 E (some (.int rr.1), rr.2) μ13 48 [some (.ref (g.2.1 12 0)), some (.int p0), none, some (.int z8)] [.int y12, .int z7]) h (fun y12 μ13 h => ?_) (fun k14 hk14 h => ?_)
      · try dsimp only at h
        refine zx_ior G d_M_struck_48 ?_
        refine zx_istore_n (lf := fun y => [_, _, some (.int y), _]) G d_M_struck_49 (Nat.le_of_ble_eq_true rfl) (fun _ => rfl) h (fun x15 h => ?_)
        refine zx_iinc (v := 1) (lf := fun y => [_, _, _, some (.int y)]) G d_M_struck_50 (Nat.le_of_ble_eq_true rfl) rfl rfl (fun _ => rfl) h (fun x16 h => ?_)
        refine zx_goto (tgt := 25) G d_M_struck_53 rfl ?_
        exact ih25 x15 x16 μ13 h
      try dsimp only at h
      refine zx_if_ne (tgt := 47) G d_M_struck_38 rfl h (fun h => ?_) (fun h => ?_)
      · refine zx_iconst (v := 0) G d_M_struck_47 rfl ?_
        refine zx_weak [true, true, false, true] (lv2 := [_, _, none, _]) rfl ?_
        exact hk14 (0 : Int32) μ10 h
      · refine zx_iconst (v := 1) G d_M_struck_41 rfl ?_
        refine zx_iload_n G d_M_struck_42 rfl ?_
        refine zx_ishl G d_M_struck_43 ?_
        refine zx_goto (tgt := 48) G d_M_struck_44 rfl ?_
        refine zx_weak [true, true, false, true] (lv2 := [_, _, none, _]) rfl ?_
        exact hk14 (zshlI (1 : Int32) z8) μ10 h
set_option maxHeartbeats 4000000 in
set_option maxRecDepth 20000 in
theorem tf_M_struck_l25 {g : ZG} {E : ZE} {N n25 : Nat} {rr : Int32 × ZMem} {p0 : Int32} {z7 : Int32} {z8 : Int32} {μ9 : ZMem} (G : zGa g K_M_struck 2 E) (hl0 : (12, 0) ∈ zids) (h : f_M_struck_l25 N p0 n25 z7 z8 μ9 = some rr) : zX g K_M_struck 2 E (some (.int rr.1), rr.2) μ9 25 [some (.ref (g.2.1 12 0)), some (.int p0), some (.int z7), some (.int z8)] [] := tf_M_struck_l25_0 G hl0 n25 z7 z8 μ9 h
set_option maxHeartbeats 4000000 in
set_option maxRecDepth 20000 in
theorem t_M_struck {g : ZG} {l : Launch} {N : Nat} {μ : ZMem} {p0 : Int32} {rr : Int32 × ZMem} (h : f_M_struck N μ p0 = some rr) : zT g l 2 K_M_struck [.ref (g.2.1 12 0), .int p0] μ (some (.int rr.1), rr.2) := by
  refine zT_of (by decide +kernel) (Nat.le_of_ble_eq_true rfl) (fun E G => ?_)
  show zX g K_M_struck 2 E (some (.int rr.1), rr.2) μ 0 [some (.ref (g.2.1 12 0)), some (.int p0), none, none] []
  unfold f_M_struck at h
  refine zx_iload_n G d_M_struck_0 rfl ?_
  refine zx_iconst (v := 1) G d_M_struck_1 rfl ?_
  refine zx_sipush (v := 9999) G d_M_struck_2 rfl ?_
  obtain ⟨r2, μ1, hc, h⟩ := zbnd_of h
  refine zx_callSI (r := r2) (μ2 := μ1) G d_M_struck_5 zm_M_68 (fun l => t_M_isIn  hc) rfl rfl (Nat.le_of_ble_eq_true rfl) (Nat.le_of_ble_eq_true rfl) ?_
  refine zx_if_eq (tgt := 19) G d_M_struck_8 rfl h (fun h => ?_) (fun h => ?_)
  · refine zx_iconst (v := -1) G d_M_struck_19 rfl ?_
    exact zx_iret G d_M_struck_20 rfl h
  · refine zx_aload_n G d_M_struck_11 rfl ?_
    obtain ⟨r4, μ3, hc, h⟩ := zbnd_of h
    refine zx_callVI (r := r4) (μ2 := μ3) G d_M_struck_12 zm_M_341 (fun l => t_M_hidden  hc) rfl rfl (Nat.le_of_ble_eq_true rfl) (Nat.le_of_ble_eq_true rfl) (zrecv zo_12 (zids_of 12 (Nat.le_of_ble_eq_true rfl) 0 (Nat.le_of_ble_eq_true rfl))) ?_
    refine zx_iconst (v := 1) G d_M_struck_15 rfl ?_
    refine zx_icmp_eq (tgt := 21) G d_M_struck_16 rfl h (fun h => ?_) (fun h => ?_)
    · refine zx_iconst (v := 0) G d_M_struck_21 rfl ?_
      refine zx_istore_n (lf := fun y => [_, _, some (.int y), none]) G d_M_struck_22 (Nat.le_of_ble_eq_true rfl) (fun _ => rfl) h (fun x5 h => ?_)
      refine zx_iconst (v := 0) G d_M_struck_23 rfl ?_
      refine zx_istore_n (lf := fun y => [_, _, _, some (.int y)]) G d_M_struck_24 (Nat.le_of_ble_eq_true rfl) (fun _ => rfl) h (fun x6 h => ?_)
      refine tf_M_struck_l25 G (zids_of 12 (Nat.le_of_ble_eq_true rfl) 0 (Nat.le_of_ble_eq_true rfl)) h
    · refine zx_iconst (v := -1) G d_M_struck_19 rfl ?_
      exact zx_iret G d_M_struck_20 rfl h
set_option maxHeartbeats 4000000 in
set_option maxRecDepth 20000 in
theorem t_M_play {g : ZG} {l : Launch} {N : Nat} {μ : ZMem} {p0 : Int32} {rr : Int32 × ZMem} (h : f_M_play N μ p0 = some rr) : zT g l 3 K_M_play [.ref (g.2.1 12 0), .int p0] μ (some (.int rr.1), rr.2) := by
  refine zT_of (by decide +kernel) (Nat.le_of_ble_eq_true rfl) (fun E G => ?_)
  show zX g K_M_play 3 E (some (.int rr.1), rr.2) μ 0 [some (.ref (g.2.1 12 0)), some (.int p0)] []
  unfold f_M_play at h
  refine zx_aload_n G d_M_play_0 rfl ?_
  refine zx_iload_n G d_M_play_1 rfl ?_
  obtain ⟨r2, μ1, hc, h⟩ := zbnd_of h
  refine zx_callVI (r := r2) (μ2 := μ1) G d_M_play_2 zm_M_169 (fun l => t_M_isTable  hc) rfl rfl (Nat.le_of_ble_eq_true rfl) (Nat.le_of_ble_eq_true rfl) (zrecv zo_12 (zids_of 12 (Nat.le_of_ble_eq_true rfl) 0 (Nat.le_of_ble_eq_true rfl))) ?_
  refine zx_if_ne (tgt := 10) G d_M_play_5 rfl h (fun h => ?_) (fun h => ?_)
  · refine zx_aload_n G d_M_play_10 rfl ?_
    obtain ⟨u9, μ3, hc, h⟩ := zbnd_of h
    refine zx_callVV  (μ2 := μ3) G d_M_play_11 zm_M_235 (fun l => t_M_thinkNow  hc) rfl rfl (Nat.le_of_ble_eq_true rfl) (Nat.le_of_ble_eq_true rfl) (zrecv zo_12 (zids_of 12 (Nat.le_of_ble_eq_true rfl) 0 (Nat.le_of_ble_eq_true rfl))) ?_
    refine zx_aload_n G d_M_play_14 rfl ?_
    refine zx_iload_n G d_M_play_15 rfl ?_
    obtain ⟨u9, μ4, hc, h⟩ := zbnd_of h
    refine zx_callVV  (μ2 := μ4) G d_M_play_16 zm_M_227 (fun l => t_M_begin  hc) rfl rfl (Nat.le_of_ble_eq_true rfl) (Nat.le_of_ble_eq_true rfl) (zrecv zo_12 (zids_of 12 (Nat.le_of_ble_eq_true rfl) 0 (Nat.le_of_ble_eq_true rfl))) ?_
    refine zx_aload_n G d_M_play_19 rfl ?_
    refine zx_getR G d_M_play_20 zf_M_7 zc_12_0 (zids_of 12 (Nat.le_of_ble_eq_true rfl) 0 (Nat.le_of_ble_eq_true rfl)) ?_
    refine zx_iconst (v := 1) G d_M_play_23 rfl ?_
    refine zx_iload_n G d_M_play_24 rfl ?_
    refine zx_iast G d_M_play_25 za_40 (zi_12_0 (zids_of 12 (Nat.le_of_ble_eq_true rfl) 0 (Nat.le_of_ble_eq_true rfl))) h (fun μ5 h => ?_)
    refine zx_aload_n G d_M_play_26 rfl ?_
    refine zx_getR G d_M_play_27 zf_M_7 zc_12_0 (zids_of 12 (Nat.le_of_ble_eq_true rfl) 0 (Nat.le_of_ble_eq_true rfl)) ?_
    refine zx_iconst (v := 2) G d_M_play_30 rfl ?_
    refine zx_iconst (v := 0) G d_M_play_31 rfl ?_
    refine zx_iast G d_M_play_32 za_40 (zi_12_0 (zids_of 12 (Nat.le_of_ble_eq_true rfl) 0 (Nat.le_of_ble_eq_true rfl))) h (fun μ6 h => ?_)
    refine zx_aload_n G d_M_play_33 rfl ?_
    refine zx_getR G d_M_play_34 zf_M_7 zc_12_0 (zids_of 12 (Nat.le_of_ble_eq_true rfl) 0 (Nat.le_of_ble_eq_true rfl)) ?_
    refine zx_iconst (v := 3) G d_M_play_37 rfl ?_
    refine zx_iconst (v := 0) G d_M_play_38 rfl ?_
    refine zx_iast G d_M_play_39 za_40 (zi_12_0 (zids_of 12 (Nat.le_of_ble_eq_true rfl) 0 (Nat.le_of_ble_eq_true rfl))) h (fun μ7 h => ?_)
    refine zx_aload_n G d_M_play_40 rfl ?_
    refine zx_getR G d_M_play_41 zf_M_16 zc_12_2 (zids_of 12 (Nat.le_of_ble_eq_true rfl) 0 (Nat.le_of_ble_eq_true rfl)) ?_
    refine zx_bipush (v := 60) G d_M_play_44 rfl ?_
    refine zx_aload_n G d_M_play_46 rfl ?_
    refine zx_getJ G d_M_play_47 zf_M_196 zc_12_15 (zids_of 12 (Nat.le_of_ble_eq_true rfl) 0 (Nat.le_of_ble_eq_true rfl)) ?_
    refine zx_last G d_M_play_50 za_41 (zi_12_2 (zids_of 12 (Nat.le_of_ble_eq_true rfl) 0 (Nat.le_of_ble_eq_true rfl))) h (fun μ8 h => ?_)
    refine zx_aload_n G d_M_play_51 rfl ?_
    refine zx_getR G d_M_play_52 zf_M_16 zc_12_2 (zids_of 12 (Nat.le_of_ble_eq_true rfl) 0 (Nat.le_of_ble_eq_true rfl)) ?_
    refine zx_bipush (v := 61) G d_M_play_55 rfl ?_
    refine zx_aload_n G d_M_play_57 rfl ?_
    refine zx_getJ G d_M_play_58 zf_M_199 zc_12_16 (zids_of 12 (Nat.le_of_ble_eq_true rfl) 0 (Nat.le_of_ble_eq_true rfl)) ?_
    refine zx_last G d_M_play_61 za_41 (zi_12_2 (zids_of 12 (Nat.le_of_ble_eq_true rfl) 0 (Nat.le_of_ble_eq_true rfl))) h (fun μ9 h => ?_)
    refine zx_aload_n G d_M_play_62 rfl ?_
    refine zx_iload_n G d_M_play_63 rfl ?_
    obtain ⟨r11, μ10, hc, h⟩ := zbnd_of h
    refine zx_callVI (r := r11) (μ2 := μ10) G d_M_play_64 zm_M_172 (fun l => t_M_ordersOf  hc) rfl rfl (Nat.le_of_ble_eq_true rfl) (Nat.le_of_ble_eq_true rfl) (zrecv zo_12 (zids_of 12 (Nat.le_of_ble_eq_true rfl) 0 (Nat.le_of_ble_eq_true rfl))) ?_
    exact zx_iret G d_M_play_67 rfl h
  · refine zx_iconst (v := -1) G d_M_play_8 rfl ?_
    exact zx_iret G d_M_play_9 rfl h
set_option maxHeartbeats 4000000 in
set_option maxRecDepth 20000 in
theorem tf_M_keep_l13_0 {g : ZG} {E : ZE} {N : Nat} {rr : Unit × ZMem} {kx45 : ZMem → Option (Unit × ZMem)} (G : zGa g K_M_keep 0 E) (hl0 : (12, 0) ∈ zids) (hkx45 : ∀  (μ : ZMem), kx45 μ = some rr → zX g K_M_keep 0 E (none, rr.2) μ 45 [some (.ref (g.2.1 12 0)), none] []) : ∀ (n13 : Nat) (z7 : Int32) (μ8 : ZMem), f_M_keep_l13 N kx45 n13 z7 μ8 = some rr → zX g K_M_keep 0 E (none, rr.2) μ8 13 [some (.ref (g.2.1 12 0)), some (.int z7)] [] := by
  intro n13
  induction n13 with
  | zero => intro z7 μ8 h; cases h
  | succ n13 ih13 =>
    intro z7 μ8 h
    simp only [f_M_keep_l13] at h
    refine zx_iload_n G d_M_keep_13 rfl ?_
    refine zx_bipush (v := 58) G d_M_keep_14 rfl ?_
    refine zx_icmp_ge (tgt := 45) G d_M_keep_16 rfl h (fun h => ?_) (fun h => ?_)
    · refine zx_weak [true, false] (lv2 := [_, none]) rfl ?_
      exact hkx45 μ8 h
    · refine zx_aload_n G d_M_keep_19 rfl ?_
      refine zx_getR G d_M_keep_20 zf_M_16 zc_12_2 hl0 ?_
      refine zx_bipush (v := 62) G d_M_keep_23 rfl ?_
      refine zx_iload_n G d_M_keep_25 rfl ?_
      refine zx_iadd G d_M_keep_26 ?_
      refine zx_aload_n G d_M_keep_27 rfl ?_
      refine zx_getR G d_M_keep_28 zf_M_16 zc_12_2 hl0 ?_
      refine zx_bipush (v := 62) G d_M_keep_31 rfl ?_
      refine zx_iload_n G d_M_keep_33 rfl ?_
      refine zx_iadd G d_M_keep_34 ?_
      refine zx_iconst (v := 2) G d_M_keep_35 rfl ?_
      refine zx_iadd G d_M_keep_36 ?_
      refine zx_lald G d_M_keep_37 za_41 (zi_12_2 hl0) h (fun h => ?_)
      refine zx_last G d_M_keep_38 za_41 (zi_12_2 hl0) h (fun μ9 h => ?_)
      refine zx_iinc (v := 1) (lf := fun y => [_, some (.int y)]) G d_M_keep_39 (Nat.le_of_ble_eq_true rfl) rfl rfl (fun _ => rfl) h (fun x10 h => ?_)
      refine zx_goto (tgt := 13) G d_M_keep_42 rfl ?_
      exact ih13 x10 μ9 h
set_option maxHeartbeats 4000000 in
set_option maxRecDepth 20000 in
theorem tf_M_keep_l13 {g : ZG} {E : ZE} {N n13 : Nat} {rr : Unit × ZMem} {kx45 : ZMem → Option (Unit × ZMem)} {z7 : Int32} {μ8 : ZMem} (G : zGa g K_M_keep 0 E) (hl0 : (12, 0) ∈ zids) (h : f_M_keep_l13 N kx45 n13 z7 μ8 = some rr) (hkx45 : ∀  (μ : ZMem), kx45 μ = some rr → zX g K_M_keep 0 E (none, rr.2) μ 45 [some (.ref (g.2.1 12 0)), none] []) : zX g K_M_keep 0 E (none, rr.2) μ8 13 [some (.ref (g.2.1 12 0)), some (.int z7)] [] := tf_M_keep_l13_0 G hl0 hkx45 n13 z7 μ8 h
set_option maxHeartbeats 4000000 in
set_option maxRecDepth 20000 in
theorem t_M_keep {g : ZG} {l : Launch} {N : Nat} {μ : ZMem} {rr : Unit × ZMem} (h : f_M_keep N μ = some rr) : zT g l 0 K_M_keep [.ref (g.2.1 12 0)] μ (none, rr.2) := by
  refine zT_of (by decide +kernel) (Nat.le_of_ble_eq_true rfl) (fun E G => ?_)
  show zX g K_M_keep 0 E (none, rr.2) μ 0 [some (.ref (g.2.1 12 0)), none] []
  unfold f_M_keep at h
  refine zx_aload_n G d_M_keep_0 rfl ?_
  refine zx_getR G d_M_keep_1 zf_M_7 zc_12_0 (zids_of 12 (Nat.le_of_ble_eq_true rfl) 0 (Nat.le_of_ble_eq_true rfl)) ?_
  refine zx_iconst (v := 3) G d_M_keep_4 rfl ?_
  refine zx_iald G d_M_keep_5 za_40 (zi_12_0 (zids_of 12 (Nat.le_of_ble_eq_true rfl) 0 (Nat.le_of_ble_eq_true rfl))) h (fun h => ?_)
  refine zx_bipush (v := 30) G d_M_keep_6 rfl ?_
  refine zx_join (P := fun k => ∀ (μ1 : ZMem), k μ1 = some rr → zX g K_M_keep 0 E (none, rr.2) μ1 55 [some (.ref (g.2.1 12 0)), none] []) h (fun μ1 h => ?_) (fun k2 hk2 h => ?_)
  · try dsimp only at h
    refine zx_aload_n G d_M_keep_55 rfl ?_
    refine zx_getR G d_M_keep_56 zf_M_16 zc_12_2 (zids_of 12 (Nat.le_of_ble_eq_true rfl) 0 (Nat.le_of_ble_eq_true rfl)) ?_
    refine zx_bipush (v := 62) G d_M_keep_59 rfl ?_
    refine zx_iconst (v := 2) G d_M_keep_61 rfl ?_
    refine zx_aload_n G d_M_keep_62 rfl ?_
    refine zx_getR G d_M_keep_63 zf_M_7 zc_12_0 (zids_of 12 (Nat.le_of_ble_eq_true rfl) 0 (Nat.le_of_ble_eq_true rfl)) ?_
    refine zx_iconst (v := 3) G d_M_keep_66 rfl ?_
    refine zx_iald G d_M_keep_67 za_40 (zi_12_0 (zids_of 12 (Nat.le_of_ble_eq_true rfl) 0 (Nat.le_of_ble_eq_true rfl))) h (fun h => ?_)
    refine zx_imul G d_M_keep_68 ?_
    refine zx_iadd G d_M_keep_69 ?_
    refine zx_aload_n G d_M_keep_70 rfl ?_
    refine zx_getR G d_M_keep_71 zf_M_16 zc_12_2 (zids_of 12 (Nat.le_of_ble_eq_true rfl) 0 (Nat.le_of_ble_eq_true rfl)) ?_
    refine zx_bipush (v := 60) G d_M_keep_74 rfl ?_
    refine zx_lald G d_M_keep_76 za_41 (zi_12_2 (zids_of 12 (Nat.le_of_ble_eq_true rfl) 0 (Nat.le_of_ble_eq_true rfl))) h (fun h => ?_)
    refine zx_last G d_M_keep_77 za_41 (zi_12_2 (zids_of 12 (Nat.le_of_ble_eq_true rfl) 0 (Nat.le_of_ble_eq_true rfl))) h (fun μ3 h => ?_)
    refine zx_aload_n G d_M_keep_78 rfl ?_
    refine zx_getR G d_M_keep_79 zf_M_16 zc_12_2 (zids_of 12 (Nat.le_of_ble_eq_true rfl) 0 (Nat.le_of_ble_eq_true rfl)) ?_
    refine zx_bipush (v := 62) G d_M_keep_82 rfl ?_
    refine zx_iconst (v := 2) G d_M_keep_84 rfl ?_
    refine zx_aload_n G d_M_keep_85 rfl ?_
    refine zx_getR G d_M_keep_86 zf_M_7 zc_12_0 (zids_of 12 (Nat.le_of_ble_eq_true rfl) 0 (Nat.le_of_ble_eq_true rfl)) ?_
    refine zx_iconst (v := 3) G d_M_keep_89 rfl ?_
    refine zx_iald G d_M_keep_90 za_40 (zi_12_0 (zids_of 12 (Nat.le_of_ble_eq_true rfl) 0 (Nat.le_of_ble_eq_true rfl))) h (fun h => ?_)
    refine zx_imul G d_M_keep_91 ?_
    refine zx_iadd G d_M_keep_92 ?_
    refine zx_iconst (v := 1) G d_M_keep_93 rfl ?_
    refine zx_iadd G d_M_keep_94 ?_
    refine zx_aload_n G d_M_keep_95 rfl ?_
    refine zx_getR G d_M_keep_96 zf_M_16 zc_12_2 (zids_of 12 (Nat.le_of_ble_eq_true rfl) 0 (Nat.le_of_ble_eq_true rfl)) ?_
    refine zx_bipush (v := 61) G d_M_keep_99 rfl ?_
    refine zx_lald G d_M_keep_101 za_41 (zi_12_2 (zids_of 12 (Nat.le_of_ble_eq_true rfl) 0 (Nat.le_of_ble_eq_true rfl))) h (fun h => ?_)
    refine zx_last G d_M_keep_102 za_41 (zi_12_2 (zids_of 12 (Nat.le_of_ble_eq_true rfl) 0 (Nat.le_of_ble_eq_true rfl))) h (fun μ4 h => ?_)
    refine zx_aload_n G d_M_keep_103 rfl ?_
    refine zx_getR G d_M_keep_104 zf_M_7 zc_12_0 (zids_of 12 (Nat.le_of_ble_eq_true rfl) 0 (Nat.le_of_ble_eq_true rfl)) ?_
    refine zx_iconst (v := 3) G d_M_keep_107 rfl ?_
    refine zx_dup2_11 G d_M_keep_108 rfl rfl ?_
    refine zx_iald G d_M_keep_109 za_40 (zi_12_0 (zids_of 12 (Nat.le_of_ble_eq_true rfl) 0 (Nat.le_of_ble_eq_true rfl))) h (fun h => ?_)
    refine zx_iconst (v := 1) G d_M_keep_110 rfl ?_
    refine zx_iadd G d_M_keep_111 ?_
    refine zx_iast G d_M_keep_112 za_40 (zi_12_0 (zids_of 12 (Nat.le_of_ble_eq_true rfl) 0 (Nat.le_of_ble_eq_true rfl))) h (fun μ5 h => ?_)
    exact zx_vret G d_M_keep_113 rfl h
  try dsimp only at h
  refine zx_icmp_ne (tgt := 55) G d_M_keep_8 rfl h (fun h => ?_) (fun h => ?_)
  · exact hk2 μ h
  · refine zx_iconst (v := 0) G d_M_keep_11 rfl ?_
    refine zx_istore_n (lf := fun y => [_, some (.int y)]) G d_M_keep_12 (Nat.le_of_ble_eq_true rfl) (fun _ => rfl) h (fun x6 h => ?_)
    refine tf_M_keep_l13 G (zids_of 12 (Nat.le_of_ble_eq_true rfl) 0 (Nat.le_of_ble_eq_true rfl)) h (fun μ11 h => ?_)
    · try dsimp only at h
      refine zx_aload_n G d_M_keep_45 rfl ?_
      refine zx_getR G d_M_keep_46 zf_M_7 zc_12_0 (zids_of 12 (Nat.le_of_ble_eq_true rfl) 0 (Nat.le_of_ble_eq_true rfl)) ?_
      refine zx_iconst (v := 3) G d_M_keep_49 rfl ?_
      refine zx_dup2_11 G d_M_keep_50 rfl rfl ?_
      refine zx_iald G d_M_keep_51 za_40 (zi_12_0 (zids_of 12 (Nat.le_of_ble_eq_true rfl) 0 (Nat.le_of_ble_eq_true rfl))) h (fun h => ?_)
      refine zx_iconst (v := 1) G d_M_keep_52 rfl ?_
      refine zx_isub G d_M_keep_53 ?_
      refine zx_iast G d_M_keep_54 za_40 (zi_12_0 (zids_of 12 (Nat.le_of_ble_eq_true rfl) 0 (Nat.le_of_ble_eq_true rfl))) h (fun μ12 h => ?_)
      exact hk2 μ12 h
set_option maxHeartbeats 4000000 in
set_option maxRecDepth 20000 in
theorem t_M_go {g : ZG} {l : Launch} {N : Nat} {μ : ZMem} {rr : Int32 × ZMem} (h : f_M_go N μ = some rr) : zT g l 4 K_M_go [.ref (g.2.1 12 0)] μ (some (.int rr.1), rr.2) := by
  refine zT_of (by decide +kernel) (Nat.le_of_ble_eq_true rfl) (fun E G => ?_)
  show zX g K_M_go 4 E (some (.int rr.1), rr.2) μ 0 [some (.ref (g.2.1 12 0))] []
  unfold f_M_go at h
  refine zx_aload_n G d_M_go_0 rfl ?_
  refine zx_getR G d_M_go_1 zf_M_7 zc_12_0 (zids_of 12 (Nat.le_of_ble_eq_true rfl) 0 (Nat.le_of_ble_eq_true rfl)) ?_
  refine zx_iconst (v := 1) G d_M_go_4 rfl ?_
  refine zx_iald G d_M_go_5 za_40 (zi_12_0 (zids_of 12 (Nat.le_of_ble_eq_true rfl) 0 (Nat.le_of_ble_eq_true rfl))) h (fun h => ?_)
  refine zx_iconst (v := -1) G d_M_go_6 rfl ?_
  refine zx_icmp_eq (tgt := 29) G d_M_go_7 rfl h (fun h => ?_) (fun h => ?_)
  · refine zx_iconst (v := -1) G d_M_go_29 rfl ?_
    exact zx_iret G d_M_go_30 rfl h
  · refine zx_aload_n G d_M_go_10 rfl ?_
    refine zx_getR G d_M_go_11 zf_M_7 zc_12_0 (zids_of 12 (Nat.le_of_ble_eq_true rfl) 0 (Nat.le_of_ble_eq_true rfl)) ?_
    refine zx_iconst (v := 2) G d_M_go_14 rfl ?_
    refine zx_iald G d_M_go_15 za_40 (zi_12_0 (zids_of 12 (Nat.le_of_ble_eq_true rfl) 0 (Nat.le_of_ble_eq_true rfl))) h (fun h => ?_)
    refine zx_aload_n G d_M_go_16 rfl ?_
    refine zx_aload_n G d_M_go_17 rfl ?_
    refine zx_getR G d_M_go_18 zf_M_7 zc_12_0 (zids_of 12 (Nat.le_of_ble_eq_true rfl) 0 (Nat.le_of_ble_eq_true rfl)) ?_
    refine zx_iconst (v := 1) G d_M_go_21 rfl ?_
    refine zx_iald G d_M_go_22 za_40 (zi_12_0 (zids_of 12 (Nat.le_of_ble_eq_true rfl) 0 (Nat.le_of_ble_eq_true rfl))) h (fun h => ?_)
    obtain ⟨r2, μ1, hc, h⟩ := zbnd_of h
    refine zx_callVI (r := r2) (μ2 := μ1) G d_M_go_23 zm_M_172 (fun l => t_M_ordersOf  hc) rfl rfl (Nat.le_of_ble_eq_true rfl) (Nat.le_of_ble_eq_true rfl) (zrecv zo_12 (zids_of 12 (Nat.le_of_ble_eq_true rfl) 0 (Nat.le_of_ble_eq_true rfl))) ?_
    refine zx_icmp_ne (tgt := 31) G d_M_go_26 rfl h (fun h => ?_) (fun h => ?_)
    · refine zx_aload_n G d_M_go_31 rfl ?_
      obtain ⟨u9, μ3, hc, h⟩ := zbnd_of h
      refine zx_callVV  (μ2 := μ3) G d_M_go_32 zm_M_235 (fun l => t_M_thinkNow  hc) rfl rfl (Nat.le_of_ble_eq_true rfl) (Nat.le_of_ble_eq_true rfl) (zrecv zo_12 (zids_of 12 (Nat.le_of_ble_eq_true rfl) 0 (Nat.le_of_ble_eq_true rfl))) ?_
      refine zx_aload_n G d_M_go_35 rfl ?_
      refine zx_aload_n G d_M_go_36 rfl ?_
      refine zx_getR G d_M_go_37 zf_M_16 zc_12_2 (zids_of 12 (Nat.le_of_ble_eq_true rfl) 0 (Nat.le_of_ble_eq_true rfl)) ?_
      refine zx_bipush (v := 60) G d_M_go_40 rfl ?_
      refine zx_lald G d_M_go_42 za_41 (zi_12_2 (zids_of 12 (Nat.le_of_ble_eq_true rfl) 0 (Nat.le_of_ble_eq_true rfl))) h (fun h => ?_)
      refine zx_putJ G d_M_go_43 zq_M_196 zp_12_15 (zids_of 12 (Nat.le_of_ble_eq_true rfl) 0 (Nat.le_of_ble_eq_true rfl)) h (fun μ4 h => ?_)
      refine zx_aload_n G d_M_go_46 rfl ?_
      refine zx_aload_n G d_M_go_47 rfl ?_
      refine zx_getR G d_M_go_48 zf_M_16 zc_12_2 (zids_of 12 (Nat.le_of_ble_eq_true rfl) 0 (Nat.le_of_ble_eq_true rfl)) ?_
      refine zx_bipush (v := 61) G d_M_go_51 rfl ?_
      refine zx_lald G d_M_go_53 za_41 (zi_12_2 (zids_of 12 (Nat.le_of_ble_eq_true rfl) 0 (Nat.le_of_ble_eq_true rfl))) h (fun h => ?_)
      refine zx_putJ G d_M_go_54 zq_M_199 zp_12_16 (zids_of 12 (Nat.le_of_ble_eq_true rfl) 0 (Nat.le_of_ble_eq_true rfl)) h (fun μ5 h => ?_)
      refine zx_aload_n G d_M_go_57 rfl ?_
      refine zx_aload_n G d_M_go_58 rfl ?_
      refine zx_aload_n G d_M_go_59 rfl ?_
      refine zx_getR G d_M_go_60 zf_M_7 zc_12_0 (zids_of 12 (Nat.le_of_ble_eq_true rfl) 0 (Nat.le_of_ble_eq_true rfl)) ?_
      refine zx_iconst (v := 1) G d_M_go_63 rfl ?_
      refine zx_iald G d_M_go_64 za_40 (zi_12_0 (zids_of 12 (Nat.le_of_ble_eq_true rfl) 0 (Nat.le_of_ble_eq_true rfl))) h (fun h => ?_)
      refine zx_aload_n G d_M_go_65 rfl ?_
      refine zx_getR G d_M_go_66 zf_M_7 zc_12_0 (zids_of 12 (Nat.le_of_ble_eq_true rfl) 0 (Nat.le_of_ble_eq_true rfl)) ?_
      refine zx_iconst (v := 2) G d_M_go_69 rfl ?_
      refine zx_iald G d_M_go_70 za_40 (zi_12_0 (zids_of 12 (Nat.le_of_ble_eq_true rfl) 0 (Nat.le_of_ble_eq_true rfl))) h (fun h => ?_)
      obtain ⟨r7, μ6, hc, h⟩ := zbnd_of h
      refine zx_callVI (r := r7) (μ2 := μ6) G d_M_go_71 zm_M_179 (fun l => t_M_kindOf  hc) rfl rfl (Nat.le_of_ble_eq_true rfl) (Nat.le_of_ble_eq_true rfl) (zrecv zo_12 (zids_of 12 (Nat.le_of_ble_eq_true rfl) 0 (Nat.le_of_ble_eq_true rfl))) ?_
      refine zx_aload_n G d_M_go_74 rfl ?_
      refine zx_aload_n G d_M_go_75 rfl ?_
      refine zx_getR G d_M_go_76 zf_M_7 zc_12_0 (zids_of 12 (Nat.le_of_ble_eq_true rfl) 0 (Nat.le_of_ble_eq_true rfl)) ?_
      refine zx_iconst (v := 1) G d_M_go_79 rfl ?_
      refine zx_iald G d_M_go_80 za_40 (zi_12_0 (zids_of 12 (Nat.le_of_ble_eq_true rfl) 0 (Nat.le_of_ble_eq_true rfl))) h (fun h => ?_)
      refine zx_aload_n G d_M_go_81 rfl ?_
      refine zx_getR G d_M_go_82 zf_M_7 zc_12_0 (zids_of 12 (Nat.le_of_ble_eq_true rfl) 0 (Nat.le_of_ble_eq_true rfl)) ?_
      refine zx_iconst (v := 2) G d_M_go_85 rfl ?_
      refine zx_iald G d_M_go_86 za_40 (zi_12_0 (zids_of 12 (Nat.le_of_ble_eq_true rfl) 0 (Nat.le_of_ble_eq_true rfl))) h (fun h => ?_)
      obtain ⟨r9, μ8, hc, h⟩ := zbnd_of h
      refine zx_callVI (r := r9) (μ2 := μ8) G d_M_go_87 zm_M_175 (fun l => t_M_xOf  hc) rfl rfl (Nat.le_of_ble_eq_true rfl) (Nat.le_of_ble_eq_true rfl) (zrecv zo_12 (zids_of 12 (Nat.le_of_ble_eq_true rfl) 0 (Nat.le_of_ble_eq_true rfl))) ?_
      obtain ⟨r11, μ10, hc, h⟩ := zbnd_of h
      refine zx_callVI (r := r11) (μ2 := μ10) G d_M_go_90 zm_M_230 (fun l => t_M_does  hc) rfl rfl (Nat.le_of_ble_eq_true rfl) (Nat.le_of_ble_eq_true rfl) (zrecv zo_12 (zids_of 12 (Nat.le_of_ble_eq_true rfl) 0 (Nat.le_of_ble_eq_true rfl))) ?_
      refine zx_if_ne (tgt := 98) G d_M_go_93 rfl h (fun h => ?_) (fun h => ?_)
      · refine zx_aload_n G d_M_go_98 rfl ?_
        obtain ⟨u9, μ12, hc, h⟩ := zbnd_of h
        refine zx_callVV  (μ2 := μ12) G d_M_go_99 zm_M_347 (fun l => t_M_keep  hc) rfl rfl (Nat.le_of_ble_eq_true rfl) (Nat.le_of_ble_eq_true rfl) (zrecv zo_12 (zids_of 12 (Nat.le_of_ble_eq_true rfl) 0 (Nat.le_of_ble_eq_true rfl))) ?_
        refine zx_aload_n G d_M_go_102 rfl ?_
        refine zx_getR G d_M_go_103 zf_M_16 zc_12_2 (zids_of 12 (Nat.le_of_ble_eq_true rfl) 0 (Nat.le_of_ble_eq_true rfl)) ?_
        refine zx_bipush (v := 60) G d_M_go_106 rfl ?_
        refine zx_aload_n G d_M_go_108 rfl ?_
        refine zx_getJ G d_M_go_109 zf_M_196 zc_12_15 (zids_of 12 (Nat.le_of_ble_eq_true rfl) 0 (Nat.le_of_ble_eq_true rfl)) ?_
        refine zx_last G d_M_go_112 za_41 (zi_12_2 (zids_of 12 (Nat.le_of_ble_eq_true rfl) 0 (Nat.le_of_ble_eq_true rfl))) h (fun μ13 h => ?_)
        refine zx_aload_n G d_M_go_113 rfl ?_
        refine zx_getR G d_M_go_114 zf_M_16 zc_12_2 (zids_of 12 (Nat.le_of_ble_eq_true rfl) 0 (Nat.le_of_ble_eq_true rfl)) ?_
        refine zx_bipush (v := 61) G d_M_go_117 rfl ?_
        refine zx_aload_n G d_M_go_119 rfl ?_
        refine zx_getJ G d_M_go_120 zf_M_199 zc_12_16 (zids_of 12 (Nat.le_of_ble_eq_true rfl) 0 (Nat.le_of_ble_eq_true rfl)) ?_
        refine zx_last G d_M_go_123 za_41 (zi_12_2 (zids_of 12 (Nat.le_of_ble_eq_true rfl) 0 (Nat.le_of_ble_eq_true rfl))) h (fun μ14 h => ?_)
        refine zx_aload_n G d_M_go_124 rfl ?_
        refine zx_getR G d_M_go_125 zf_M_7 zc_12_0 (zids_of 12 (Nat.le_of_ble_eq_true rfl) 0 (Nat.le_of_ble_eq_true rfl)) ?_
        refine zx_iconst (v := 2) G d_M_go_128 rfl ?_
        refine zx_dup2_11 G d_M_go_129 rfl rfl ?_
        refine zx_iald G d_M_go_130 za_40 (zi_12_0 (zids_of 12 (Nat.le_of_ble_eq_true rfl) 0 (Nat.le_of_ble_eq_true rfl))) h (fun h => ?_)
        refine zx_iconst (v := 1) G d_M_go_131 rfl ?_
        refine zx_iadd G d_M_go_132 ?_
        refine zx_iast G d_M_go_133 za_40 (zi_12_0 (zids_of 12 (Nat.le_of_ble_eq_true rfl) 0 (Nat.le_of_ble_eq_true rfl))) h (fun μ15 h => ?_)
        refine zx_aload_n G d_M_go_134 rfl ?_
        refine zx_getR G d_M_go_135 zf_M_7 zc_12_0 (zids_of 12 (Nat.le_of_ble_eq_true rfl) 0 (Nat.le_of_ble_eq_true rfl)) ?_
        refine zx_iconst (v := 2) G d_M_go_138 rfl ?_
        refine zx_iald G d_M_go_139 za_40 (zi_12_0 (zids_of 12 (Nat.le_of_ble_eq_true rfl) 0 (Nat.le_of_ble_eq_true rfl))) h (fun h => ?_)
        refine zx_iconst (v := 1) G d_M_go_140 rfl ?_
        refine zx_isub G d_M_go_141 ?_
        exact zx_iret G d_M_go_142 rfl h
      · refine zx_iconst (v := -1) G d_M_go_96 rfl ?_
        exact zx_iret G d_M_go_97 rfl h
    · refine zx_iconst (v := -1) G d_M_go_29 rfl ?_
      exact zx_iret G d_M_go_30 rfl h
set_option maxHeartbeats 4000000 in
set_option maxRecDepth 20000 in
theorem t_M_undo {g : ZG} {l : Launch} {N : Nat} {μ : ZMem} {rr : Int32 × ZMem} (h : f_M_undo N μ = some rr) : zT g l 0 K_M_undo [.ref (g.2.1 12 0)] μ (some (.int rr.1), rr.2) := by
  refine zT_of (by decide +kernel) (Nat.le_of_ble_eq_true rfl) (fun E G => ?_)
  show zX g K_M_undo 0 E (some (.int rr.1), rr.2) μ 0 [some (.ref (g.2.1 12 0))] []
  unfold f_M_undo at h
  refine zx_aload_n G d_M_undo_0 rfl ?_
  refine zx_getR G d_M_undo_1 zf_M_7 zc_12_0 (zids_of 12 (Nat.le_of_ble_eq_true rfl) 0 (Nat.le_of_ble_eq_true rfl)) ?_
  refine zx_iconst (v := 3) G d_M_undo_4 rfl ?_
  refine zx_iald G d_M_undo_5 za_40 (zi_12_0 (zids_of 12 (Nat.le_of_ble_eq_true rfl) 0 (Nat.le_of_ble_eq_true rfl))) h (fun h => ?_)
  refine zx_if_ne (tgt := 11) G d_M_undo_6 rfl h (fun h => ?_) (fun h => ?_)
  · refine zx_aload_n G d_M_undo_11 rfl ?_
    refine zx_getR G d_M_undo_12 zf_M_7 zc_12_0 (zids_of 12 (Nat.le_of_ble_eq_true rfl) 0 (Nat.le_of_ble_eq_true rfl)) ?_
    refine zx_iconst (v := 3) G d_M_undo_15 rfl ?_
    refine zx_dup2_11 G d_M_undo_16 rfl rfl ?_
    refine zx_iald G d_M_undo_17 za_40 (zi_12_0 (zids_of 12 (Nat.le_of_ble_eq_true rfl) 0 (Nat.le_of_ble_eq_true rfl))) h (fun h => ?_)
    refine zx_iconst (v := 1) G d_M_undo_18 rfl ?_
    refine zx_isub G d_M_undo_19 ?_
    refine zx_iast G d_M_undo_20 za_40 (zi_12_0 (zids_of 12 (Nat.le_of_ble_eq_true rfl) 0 (Nat.le_of_ble_eq_true rfl))) h (fun μ1 h => ?_)
    refine zx_aload_n G d_M_undo_21 rfl ?_
    refine zx_getR G d_M_undo_22 zf_M_7 zc_12_0 (zids_of 12 (Nat.le_of_ble_eq_true rfl) 0 (Nat.le_of_ble_eq_true rfl)) ?_
    refine zx_iconst (v := 2) G d_M_undo_25 rfl ?_
    refine zx_dup2_11 G d_M_undo_26 rfl rfl ?_
    refine zx_iald G d_M_undo_27 za_40 (zi_12_0 (zids_of 12 (Nat.le_of_ble_eq_true rfl) 0 (Nat.le_of_ble_eq_true rfl))) h (fun h => ?_)
    refine zx_iconst (v := 1) G d_M_undo_28 rfl ?_
    refine zx_isub G d_M_undo_29 ?_
    refine zx_iast G d_M_undo_30 za_40 (zi_12_0 (zids_of 12 (Nat.le_of_ble_eq_true rfl) 0 (Nat.le_of_ble_eq_true rfl))) h (fun μ2 h => ?_)
    refine zx_aload_n G d_M_undo_31 rfl ?_
    refine zx_getR G d_M_undo_32 zf_M_16 zc_12_2 (zids_of 12 (Nat.le_of_ble_eq_true rfl) 0 (Nat.le_of_ble_eq_true rfl)) ?_
    refine zx_bipush (v := 60) G d_M_undo_35 rfl ?_
    refine zx_aload_n G d_M_undo_37 rfl ?_
    refine zx_getR G d_M_undo_38 zf_M_16 zc_12_2 (zids_of 12 (Nat.le_of_ble_eq_true rfl) 0 (Nat.le_of_ble_eq_true rfl)) ?_
    refine zx_bipush (v := 62) G d_M_undo_41 rfl ?_
    refine zx_iconst (v := 2) G d_M_undo_43 rfl ?_
    refine zx_aload_n G d_M_undo_44 rfl ?_
    refine zx_getR G d_M_undo_45 zf_M_7 zc_12_0 (zids_of 12 (Nat.le_of_ble_eq_true rfl) 0 (Nat.le_of_ble_eq_true rfl)) ?_
    refine zx_iconst (v := 3) G d_M_undo_48 rfl ?_
    refine zx_iald G d_M_undo_49 za_40 (zi_12_0 (zids_of 12 (Nat.le_of_ble_eq_true rfl) 0 (Nat.le_of_ble_eq_true rfl))) h (fun h => ?_)
    refine zx_imul G d_M_undo_50 ?_
    refine zx_iadd G d_M_undo_51 ?_
    refine zx_lald G d_M_undo_52 za_41 (zi_12_2 (zids_of 12 (Nat.le_of_ble_eq_true rfl) 0 (Nat.le_of_ble_eq_true rfl))) h (fun h => ?_)
    refine zx_last G d_M_undo_53 za_41 (zi_12_2 (zids_of 12 (Nat.le_of_ble_eq_true rfl) 0 (Nat.le_of_ble_eq_true rfl))) h (fun μ3 h => ?_)
    refine zx_aload_n G d_M_undo_54 rfl ?_
    refine zx_getR G d_M_undo_55 zf_M_16 zc_12_2 (zids_of 12 (Nat.le_of_ble_eq_true rfl) 0 (Nat.le_of_ble_eq_true rfl)) ?_
    refine zx_bipush (v := 61) G d_M_undo_58 rfl ?_
    refine zx_aload_n G d_M_undo_60 rfl ?_
    refine zx_getR G d_M_undo_61 zf_M_16 zc_12_2 (zids_of 12 (Nat.le_of_ble_eq_true rfl) 0 (Nat.le_of_ble_eq_true rfl)) ?_
    refine zx_bipush (v := 62) G d_M_undo_64 rfl ?_
    refine zx_iconst (v := 2) G d_M_undo_66 rfl ?_
    refine zx_aload_n G d_M_undo_67 rfl ?_
    refine zx_getR G d_M_undo_68 zf_M_7 zc_12_0 (zids_of 12 (Nat.le_of_ble_eq_true rfl) 0 (Nat.le_of_ble_eq_true rfl)) ?_
    refine zx_iconst (v := 3) G d_M_undo_71 rfl ?_
    refine zx_iald G d_M_undo_72 za_40 (zi_12_0 (zids_of 12 (Nat.le_of_ble_eq_true rfl) 0 (Nat.le_of_ble_eq_true rfl))) h (fun h => ?_)
    refine zx_imul G d_M_undo_73 ?_
    refine zx_iadd G d_M_undo_74 ?_
    refine zx_iconst (v := 1) G d_M_undo_75 rfl ?_
    refine zx_iadd G d_M_undo_76 ?_
    refine zx_lald G d_M_undo_77 za_41 (zi_12_2 (zids_of 12 (Nat.le_of_ble_eq_true rfl) 0 (Nat.le_of_ble_eq_true rfl))) h (fun h => ?_)
    refine zx_last G d_M_undo_78 za_41 (zi_12_2 (zids_of 12 (Nat.le_of_ble_eq_true rfl) 0 (Nat.le_of_ble_eq_true rfl))) h (fun μ4 h => ?_)
    refine zx_aload_n G d_M_undo_79 rfl ?_
    refine zx_getR G d_M_undo_80 zf_M_7 zc_12_0 (zids_of 12 (Nat.le_of_ble_eq_true rfl) 0 (Nat.le_of_ble_eq_true rfl)) ?_
    refine zx_iconst (v := 3) G d_M_undo_83 rfl ?_
    refine zx_iald G d_M_undo_84 za_40 (zi_12_0 (zids_of 12 (Nat.le_of_ble_eq_true rfl) 0 (Nat.le_of_ble_eq_true rfl))) h (fun h => ?_)
    exact zx_iret G d_M_undo_85 rfl h
  · refine zx_iconst (v := -1) G d_M_undo_9 rfl ?_
    exact zx_iret G d_M_undo_10 rfl h
