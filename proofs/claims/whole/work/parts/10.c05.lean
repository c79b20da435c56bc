/-! contracts: each method does what its function says (by program: wip/whole/gen.py) -/
set_option maxHeartbeats 4000000 in
set_option maxRecDepth 20000 in
theorem t_M_isFigure {g : ZG} {l : Launch} {N : Nat} {μ : ZMem} {p0 : Int32} {rr : Int32 × ZMem} (h : f_M_isFigure N μ p0 = some rr) : zT g l 0 K_M_isFigure [.int p0] μ (some (.int rr.1), rr.2) := by
  refine zT_of (by decide +kernel) (Nat.le_of_ble_eq_true rfl) (fun E G => ?_)
  show zX g K_M_isFigure 0 E (some (.int rr.1), rr.2) μ 0 [some (.int p0)] []
  unfold f_M_isFigure at h
  refine zx_iload_n G d_M_isFigure_0 rfl ?_
  refine zx_bipush (v := 48) G d_M_isFigure_1 rfl ?_
  refine zx_icmp_lt (tgt := 16) G d_M_isFigure_3 rfl h (fun h => ?_) (fun h => ?_)
  · refine zx_iconst (v := 0) G d_M_isFigure_16 rfl ?_
    exact zx_zretK G d_M_isFigure_17 rfl (by decide) h
  · refine zx_iload_n G d_M_isFigure_6 rfl ?_
    refine zx_bipush (v := 57) G d_M_isFigure_7 rfl ?_
    refine zx_icmp_gt (tgt := 16) G d_M_isFigure_9 rfl h (fun h => ?_) (fun h => ?_)
    · refine zx_iconst (v := 0) G d_M_isFigure_16 rfl ?_
      exact zx_zretK G d_M_isFigure_17 rfl (by decide) h
    · refine zx_iconst (v := 1) G d_M_isFigure_12 rfl ?_
      refine zx_goto (tgt := 17) G d_M_isFigure_13 rfl ?_
      exact zx_zretK G d_M_isFigure_17 rfl (by decide) h
set_option maxHeartbeats 4000000 in
set_option maxRecDepth 20000 in
theorem t_M_isLetterByte {g : ZG} {l : Launch} {N : Nat} {μ : ZMem} {p0 : Int32} {rr : Int32 × ZMem} (h : f_M_isLetterByte N μ p0 = some rr) : zT g l 0 K_M_isLetterByte [.int p0] μ (some (.int rr.1), rr.2) := by
  refine zT_of (by decide +kernel) (Nat.le_of_ble_eq_true rfl) (fun E G => ?_)
  show zX g K_M_isLetterByte 0 E (some (.int rr.1), rr.2) μ 0 [some (.int p0)] []
  unfold f_M_isLetterByte at h
  refine zx_iload_n G d_M_isLetterByte_0 rfl ?_
  refine zx_bipush (v := 97) G d_M_isLetterByte_1 rfl ?_
  refine zx_join (P := fun k => ∀ (μ1 : ZMem), k μ1 = some rr → zX g K_M_isLetterByte 0 E (some (.int rr.1), rr.2) μ1 24 [none] []) h (fun μ1 h => ?_) (fun k2 hk2 h => ?_)
  · try dsimp only at h
    refine zx_iconst (v := 1) G d_M_isLetterByte_24 rfl ?_
    refine zx_goto (tgt := 29) G d_M_isLetterByte_25 rfl ?_
    exact zx_zretK G d_M_isLetterByte_29 rfl (by decide) h
  try dsimp only at h
  refine zx_join (P := fun k => ∀ (μ3 : ZMem), k μ3 = some rr → zX g K_M_isLetterByte 0 E (some (.int rr.1), rr.2) μ3 12 [some (.int p0)] []) h (fun μ3 h => ?_) (fun k4 hk4 h => ?_)
  · try dsimp only at h
    refine zx_iload_n G d_M_isLetterByte_12 rfl ?_
    refine zx_bipush (v := 65) G d_M_isLetterByte_13 rfl ?_
    refine zx_icmp_lt (tgt := 28) G d_M_isLetterByte_15 rfl h (fun h => ?_) (fun h => ?_)
    · refine zx_iconst (v := 0) G d_M_isLetterByte_28 rfl ?_
      exact zx_zretK G d_M_isLetterByte_29 rfl (by decide) h
    · refine zx_iload_n G d_M_isLetterByte_18 rfl ?_
      refine zx_bipush (v := 90) G d_M_isLetterByte_19 rfl ?_
      refine zx_icmp_gt (tgt := 28) G d_M_isLetterByte_21 rfl h (fun h => ?_) (fun h => ?_)
      · refine zx_iconst (v := 0) G d_M_isLetterByte_28 rfl ?_
        exact zx_zretK G d_M_isLetterByte_29 rfl (by decide) h
      · refine zx_weak [false] (lv2 := [none]) rfl ?_
        exact hk2 μ3 h
  try dsimp only at h
  refine zx_icmp_lt (tgt := 12) G d_M_isLetterByte_3 rfl h (fun h => ?_) (fun h => ?_)
  · exact hk4 μ h
  · refine zx_iload_n G d_M_isLetterByte_6 rfl ?_
    refine zx_bipush (v := 122) G d_M_isLetterByte_7 rfl ?_
    refine zx_icmp_le (tgt := 24) G d_M_isLetterByte_9 rfl h (fun h => ?_) (fun h => ?_)
    · refine zx_weak [false] (lv2 := [none]) rfl ?_
      exact hk2 μ h
    · exact hk4 μ h
set_option maxHeartbeats 4000000 in
set_option maxRecDepth 20000 in
theorem tf_M_nextToken_l0_0 {g : ZG} {E : ZE} {N : Nat} {rr : Unit × ZMem} {kx39 : ZMem → Option (Unit × ZMem)} (G : zGa g K_M_nextToken 1 E) (hl0 : (12, 0) ∈ zids) (hkx39 : ∀  (μ : ZMem), kx39 μ = some rr → zX g K_M_nextToken 1 E (none, rr.2) μ 39 [some (.ref (g.2.1 12 0)), none] []) : ∀ (n0 : Nat) (μ1 : ZMem), f_M_nextToken_l0 N kx39 n0  μ1 = some rr → zX g K_M_nextToken 1 E (none, rr.2) μ1 0 [some (.ref (g.2.1 12 0)), none] [] := by
  intro n0
  induction n0 with
  | zero => intro  μ1 h; cases h
  | succ n0 ih0 =>
    intro  μ1 h
    simp only [f_M_nextToken_l0] at h
    refine zx_aload_n G d_M_nextToken_0 rfl ?_
    refine zx_aload_n G d_M_nextToken_1 rfl ?_
    refine zx_getI G d_M_nextToken_2 zf_M_83 zc_12_9 hl0 ?_
    obtain ⟨r3, μ2, hc, h⟩ := zbnd_of h
    refine zx_callVI (r := r3) (μ2 := μ2) G d_M_nextToken_5 zm_M_86 (fun l => t_M_byteAt  hc) rfl rfl (Nat.le_of_ble_eq_true rfl) (Nat.le_of_ble_eq_true rfl) (zrecv zo_12 hl0) ?_
    refine zx_bipush (v := 32) G d_M_nextToken_8 rfl ?_
    refine zx_join (P := fun k => ∀ (μ4 : ZMem), k μ4 = some rr → zX g K_M_nextToken 1 E (none, rr.2) μ4 26 [some (.ref (g.2.1 12 0)), none] []) h (fun μ4 h => ?_) (fun k5 hk5 h => ?_)
    · try dsimp only at h
      refine zx_aload_n G d_M_nextToken_26 rfl ?_
      refine zx_dup G d_M_nextToken_27 rfl ?_
      refine zx_getI G d_M_nextToken_28 zf_M_83 zc_12_9 hl0 ?_
      refine zx_iconst (v := 1) G d_M_nextToken_31 rfl ?_
      refine zx_iadd G d_M_nextToken_32 ?_
      refine zx_putI G d_M_nextToken_33 zq_M_83 zp_12_9 hl0 h (fun μ6 h => ?_)
      refine zx_goto (tgt := 0) G d_M_nextToken_36 rfl ?_
      exact ih0 μ6 h
    try dsimp only at h
    refine zx_icmp_eq (tgt := 26) G d_M_nextToken_10 rfl h (fun h => ?_) (fun h => ?_)
    · exact hk5 μ2 h
    · refine zx_aload_n G d_M_nextToken_13 rfl ?_
      refine zx_aload_n G d_M_nextToken_14 rfl ?_
      refine zx_getI G d_M_nextToken_15 zf_M_83 zc_12_9 hl0 ?_
      obtain ⟨r8, μ7, hc, h⟩ := zbnd_of h
      refine zx_callVI (r := r8) (μ2 := μ7) G d_M_nextToken_18 zm_M_86 (fun l => t_M_byteAt  hc) rfl rfl (Nat.le_of_ble_eq_true rfl) (Nat.le_of_ble_eq_true rfl) (zrecv zo_12 hl0) ?_
      refine zx_bipush (v := 10) G d_M_nextToken_21 rfl ?_
      refine zx_icmp_ne (tgt := 39) G d_M_nextToken_23 rfl h (fun h => ?_) (fun h => ?_)
      · exact hkx39 μ7 h
      · exact hk5 μ7 h
set_option maxHeartbeats 4000000 in
set_option maxRecDepth 20000 in
theorem tf_M_nextToken_l0 {g : ZG} {E : ZE} {N n0 : Nat} {rr : Unit × ZMem} {kx39 : ZMem → Option (Unit × ZMem)} {μ1 : ZMem} (G : zGa g K_M_nextToken 1 E) (hl0 : (12, 0) ∈ zids) (h : f_M_nextToken_l0 N kx39 n0  μ1 = some rr) (hkx39 : ∀  (μ : ZMem), kx39 μ = some rr → zX g K_M_nextToken 1 E (none, rr.2) μ 39 [some (.ref (g.2.1 12 0)), none] []) : zX g K_M_nextToken 1 E (none, rr.2) μ1 0 [some (.ref (g.2.1 12 0)), none] [] := tf_M_nextToken_l0_0 G hl0 hkx39 n0  μ1 h
set_option maxHeartbeats 4000000 in
set_option maxRecDepth 20000 in
theorem tf_M_nextToken_l180_0 {g : ZG} {E : ZE} {N : Nat} {rr : Unit × ZMem} (G : zGa g K_M_nextToken 1 E) (hl0 : (12, 0) ∈ zids) : ∀ (n180 : Nat) (μ25 : ZMem), f_M_nextToken_l180 N n180  μ25 = some rr → zX g K_M_nextToken 1 E (none, rr.2) μ25 180 [some (.ref (g.2.1 12 0)), none] [] := by
  intro n180
  induction n180 with
  | zero => intro  μ25 h; cases h
  | succ n180 ih180 =>
    intro  μ25 h
    simp only [f_M_nextToken_l180] at h
    refine zx_aload_n G d_M_nextToken_180 rfl ?_
    refine zx_aload_n G d_M_nextToken_181 rfl ?_
    refine zx_getI G d_M_nextToken_182 zf_M_83 zc_12_9 hl0 ?_
    obtain ⟨r27, μ26, hc, h⟩ := zbnd_of h
    refine zx_callVI (r := r27) (μ2 := μ26) G d_M_nextToken_185 zm_M_86 (fun l => t_M_byteAt  hc) rfl rfl (Nat.le_of_ble_eq_true rfl) (Nat.le_of_ble_eq_true rfl) (zrecv zo_12 hl0) ?_
    obtain ⟨r29, μ28, hc, h⟩ := zbnd_of h
    refine zx_callSI (r := r29) (μ2 := μ28) G d_M_nextToken_188 zm_M_104 (fun l => t_M_isLetterByte  hc) rfl rfl (Nat.le_of_ble_eq_true rfl) (Nat.le_of_ble_eq_true rfl) ?_
    refine zx_if_eq (tgt := 260) G d_M_nextToken_191 rfl h (fun h => ?_) (fun h => ?_)
    · exact zx_vret G d_M_nextToken_260 rfl h
    · refine zx_aload_n G d_M_nextToken_194 rfl ?_
      refine zx_aload_n G d_M_nextToken_195 rfl ?_
      refine zx_getJ G d_M_nextToken_196 zf_M_107 zc_12_14 hl0 ?_
      refine zx_bipush (v := 48) G d_M_nextToken_199 rfl ?_
      refine zx_lshr G d_M_nextToken_201 ?_
      refine zx_lconst (v := 0) G d_M_nextToken_202 rfl ?_
      refine zx_lcmp G d_M_nextToken_203 ?_
      refine zx_join (P := fun k => ∀ (y30 : Int64) (μ31 : ZMem), k y30 μ31 = some rr → zX g K_M_nextToken 1 E (none, rr.2) μ31 230 [some (.ref (g.2.1 12 0)), none] [.long y30, .ref (g.2.1 12 0)]) h (fun y30 μ31 h => ?_) (fun k32 hk32 h => ?_)
      · try dsimp only at h
        refine zx_putJ G d_M_nextToken_230 zq_M_107 zp_12_14 hl0 h (fun μ33 h => ?_)
        refine zx_aload_n G d_M_nextToken_233 rfl ?_
        refine zx_dup G d_M_nextToken_234 rfl ?_
        refine zx_getI G d_M_nextToken_235 zf_M_83 zc_12_9 hl0 ?_
        refine zx_iconst (v := 1) G d_M_nextToken_238 rfl ?_
        refine zx_iadd G d_M_nextToken_239 ?_
        refine zx_putI G d_M_nextToken_240 zq_M_83 zp_12_9 hl0 h (fun μ34 h => ?_)
        refine zx_goto (tgt := 180) G d_M_nextToken_243 rfl ?_
        exact ih180 μ34 h
      try dsimp only at h
      refine zx_if_eq (tgt := 213) G d_M_nextToken_204 rfl h (fun h => ?_) (fun h => ?_)
      · refine zx_aload_n G d_M_nextToken_213 rfl ?_
        refine zx_getJ G d_M_nextToken_214 zf_M_107 zc_12_14 hl0 ?_
        refine zx_bipush (v := 8) G d_M_nextToken_217 rfl ?_
        refine zx_lshl G d_M_nextToken_219 ?_
        refine zx_aload_n G d_M_nextToken_220 rfl ?_
        refine zx_aload_n G d_M_nextToken_221 rfl ?_
        refine zx_getI G d_M_nextToken_222 zf_M_83 zc_12_9 hl0 ?_
        obtain ⟨r36, μ35, hc, h⟩ := zbnd_of h
        refine zx_callVI (r := r36) (μ2 := μ35) G d_M_nextToken_225 zm_M_86 (fun l => t_M_byteAt  hc) rfl rfl (Nat.le_of_ble_eq_true rfl) (Nat.le_of_ble_eq_true rfl) (zrecv zo_12 hl0) ?_
        refine zx_i2l G d_M_nextToken_228 ?_
        refine zx_lor G d_M_nextToken_229 ?_
        exact hk32 ((zshlJ (μ28.2 12 0 14) (8 : Int32)) ||| r36.toInt64) μ35 h
      · refine zx_ldc2 (v := 1152921504606846976) G d_M_nextToken_207 zk_M_111 ?_
        refine zx_goto (tgt := 230) G d_M_nextToken_210 rfl ?_
        exact hk32 (1152921504606846976 : Int64) μ28 h
set_option maxHeartbeats 4000000 in
set_option maxRecDepth 20000 in
theorem tf_M_nextToken_l180 {g : ZG} {E : ZE} {N n180 : Nat} {rr : Unit × ZMem} {μ25 : ZMem} (G : zGa g K_M_nextToken 1 E) (hl0 : (12, 0) ∈ zids) (h : f_M_nextToken_l180 N n180  μ25 = some rr) : zX g K_M_nextToken 1 E (none, rr.2) μ25 180 [some (.ref (g.2.1 12 0)), none] [] := tf_M_nextToken_l180_0 G hl0 n180  μ25 h
set_option maxHeartbeats 4000000 in
set_option maxRecDepth 20000 in
theorem tf_M_nextToken_l97_0 {g : ZG} {E : ZE} {N : Nat} {rr : Unit × ZMem} (G : zGa g K_M_nextToken 1 E) (hl0 : (12, 0) ∈ zids) : ∀ (n97 : Nat) (μ39 : ZMem), f_M_nextToken_l97 N n97  μ39 = some rr → zX g K_M_nextToken 1 E (none, rr.2) μ39 97 [some (.ref (g.2.1 12 0)), none] [] := by
  intro n97
  induction n97 with
  | zero => intro  μ39 h; cases h
  | succ n97 ih97 =>
    intro  μ39 h
    simp only [f_M_nextToken_l97] at h
    refine zx_aload_n G d_M_nextToken_97 rfl ?_
    refine zx_aload_n G d_M_nextToken_98 rfl ?_
    refine zx_getI G d_M_nextToken_99 zf_M_83 zc_12_9 hl0 ?_
    obtain ⟨r41, μ40, hc, h⟩ := zbnd_of h
    refine zx_callVI (r := r41) (μ2 := μ40) G d_M_nextToken_102 zm_M_86 (fun l => t_M_byteAt  hc) rfl rfl (Nat.le_of_ble_eq_true rfl) (Nat.le_of_ble_eq_true rfl) (zrecv zo_12 hl0) ?_
    obtain ⟨r43, μ42, hc, h⟩ := zbnd_of h
    refine zx_callSI (r := r43) (μ2 := μ42) G d_M_nextToken_105 zm_M_96 (fun l => t_M_isFigure  hc) rfl rfl (Nat.le_of_ble_eq_true rfl) (Nat.le_of_ble_eq_true rfl) ?_
    refine zx_if_eq (tgt := 260) G d_M_nextToken_108 rfl h (fun h => ?_) (fun h => ?_)
    · exact zx_vret G d_M_nextToken_260 rfl h
    · refine zx_aload_n G d_M_nextToken_111 rfl ?_
      refine zx_aload_n G d_M_nextToken_112 rfl ?_
      refine zx_getI G d_M_nextToken_113 zf_M_100 zc_12_12 hl0 ?_
      refine zx_ldc (v := 99999) G d_M_nextToken_116 zk_M_103 ?_
      refine zx_join (P := fun k => ∀ (y44 : Int32) (μ45 : ZMem), k y44 μ45 = some rr → zX g K_M_nextToken 1 E (none, rr.2) μ45 147 [some (.ref (g.2.1 12 0)), none] [.int y44, .ref (g.2.1 12 0)]) h (fun y44 μ45 h => ?_) (fun k46 hk46 h => ?_)
      · try dsimp only at h
        refine zx_putI G d_M_nextToken_147 zq_M_100 zp_12_12 hl0 h (fun μ47 h => ?_)
        refine zx_aload_n G d_M_nextToken_150 rfl ?_
        refine zx_dup G d_M_nextToken_151 rfl ?_
        refine zx_getI G d_M_nextToken_152 zf_M_83 zc_12_9 hl0 ?_
        refine zx_iconst (v := 1) G d_M_nextToken_155 rfl ?_
        refine zx_iadd G d_M_nextToken_156 ?_
        refine zx_putI G d_M_nextToken_157 zq_M_83 zp_12_9 hl0 h (fun μ48 h => ?_)
        refine zx_goto (tgt := 97) G d_M_nextToken_160 rfl ?_
        exact ih97 μ48 h
      try dsimp only at h
      refine zx_icmp_le (tgt := 128) G d_M_nextToken_118 rfl h (fun h => ?_) (fun h => ?_)
      · refine zx_bipush (v := 10) G d_M_nextToken_128 rfl ?_
        refine zx_aload_n G d_M_nextToken_130 rfl ?_
        refine zx_getI G d_M_nextToken_131 zf_M_100 zc_12_12 hl0 ?_
        refine zx_imul G d_M_nextToken_134 ?_
        refine zx_aload_n G d_M_nextToken_135 rfl ?_
        refine zx_aload_n G d_M_nextToken_136 rfl ?_
        refine zx_getI G d_M_nextToken_137 zf_M_83 zc_12_9 hl0 ?_
        obtain ⟨r50, μ49, hc, h⟩ := zbnd_of h
        refine zx_callVI (r := r50) (μ2 := μ49) G d_M_nextToken_140 zm_M_86 (fun l => t_M_byteAt  hc) rfl rfl (Nat.le_of_ble_eq_true rfl) (Nat.le_of_ble_eq_true rfl) (zrecv zo_12 hl0) ?_
        refine zx_iadd G d_M_nextToken_143 ?_
        refine zx_bipush (v := 48) G d_M_nextToken_144 rfl ?_
        refine zx_isub G d_M_nextToken_146 ?_
        exact hk46 ((((10 : Int32) * (μ42.1 12 0 12)) + r50) - (48 : Int32)) μ49 h
      · refine zx_aload_n G d_M_nextToken_121 rfl ?_
        refine zx_getI G d_M_nextToken_122 zf_M_100 zc_12_12 hl0 ?_
        refine zx_goto (tgt := 147) G d_M_nextToken_125 rfl ?_
        exact hk46 (μ42.1 12 0 12) μ42 h
set_option maxHeartbeats 4000000 in
set_option maxRecDepth 20000 in
theorem tf_M_nextToken_l97 {g : ZG} {E : ZE} {N n97 : Nat} {rr : Unit × ZMem} {μ39 : ZMem} (G : zGa g K_M_nextToken 1 E) (hl0 : (12, 0) ∈ zids) (h : f_M_nextToken_l97 N n97  μ39 = some rr) : zX g K_M_nextToken 1 E (none, rr.2) μ39 97 [some (.ref (g.2.1 12 0)), none] [] := tf_M_nextToken_l97_0 G hl0 n97  μ39 h
set_option maxHeartbeats 4000000 in
set_option maxRecDepth 20000 in
theorem t_M_nextToken {g : ZG} {l : Launch} {N : Nat} {μ : ZMem} {rr : Unit × ZMem} (h : f_M_nextToken N μ = some rr) : zT g l 1 K_M_nextToken [.ref (g.2.1 12 0)] μ (none, rr.2) := by
  refine zT_of (by decide +kernel) (Nat.le_of_ble_eq_true rfl) (fun E G => ?_)
  show zX g K_M_nextToken 1 E (none, rr.2) μ 0 [some (.ref (g.2.1 12 0)), none] []
  unfold f_M_nextToken at h
  refine tf_M_nextToken_l0 G (zids_of 12 (Nat.le_of_ble_eq_true rfl) 0 (Nat.le_of_ble_eq_true rfl)) h (fun μ9 h => ?_)
  · try dsimp only at h
    refine zx_aload_n G d_M_nextToken_39 rfl ?_
    refine zx_aload_n G d_M_nextToken_40 rfl ?_
    refine zx_getI G d_M_nextToken_41 zf_M_83 zc_12_9 (zids_of 12 (Nat.le_of_ble_eq_true rfl) 0 (Nat.le_of_ble_eq_true rfl)) ?_
    refine zx_putI G d_M_nextToken_44 zq_M_90 zp_12_10 (zids_of 12 (Nat.le_of_ble_eq_true rfl) 0 (Nat.le_of_ble_eq_true rfl)) h (fun μ10 h => ?_)
    refine zx_aload_n G d_M_nextToken_47 rfl ?_
    refine zx_aload_n G d_M_nextToken_48 rfl ?_
    refine zx_getI G d_M_nextToken_49 zf_M_83 zc_12_9 (zids_of 12 (Nat.le_of_ble_eq_true rfl) 0 (Nat.le_of_ble_eq_true rfl)) ?_
    obtain ⟨r12, μ11, hc, h⟩ := zbnd_of h
    refine zx_callVI (r := r12) (μ2 := μ11) G d_M_nextToken_52 zm_M_86 (fun l => t_M_byteAt  hc) rfl rfl (Nat.le_of_ble_eq_true rfl) (Nat.le_of_ble_eq_true rfl) (zrecv zo_12 (zids_of 12 (Nat.le_of_ble_eq_true rfl) 0 (Nat.le_of_ble_eq_true rfl))) ?_
    refine zx_istore_n (lf := fun y => [_, some (.int y)]) G d_M_nextToken_55 (Nat.le_of_ble_eq_true rfl) (fun _ => rfl) h (fun x13 h => ?_)
    refine zx_aload_n G d_M_nextToken_56 rfl ?_
    refine zx_iload_n G d_M_nextToken_57 rfl ?_
    refine zx_join (P := fun k => ∀ (y14 : Int32) (μ15 : ZMem), k y14 μ15 = some rr → zX g K_M_nextToken 1 E (none, rr.2) μ15 77 [some (.ref (g.2.1 12 0)), some (.int x13)] [.int y14, .ref (g.2.1 12 0)]) h (fun y14 μ15 h => ?_) (fun k16 hk16 h => ?_)
    · try dsimp only at h
      refine zx_putI G d_M_nextToken_77 zq_M_93 zp_12_11 (zids_of 12 (Nat.le_of_ble_eq_true rfl) 0 (Nat.le_of_ble_eq_true rfl)) h (fun μ17 h => ?_)
      refine zx_iload_n G d_M_nextToken_80 rfl ?_
      obtain ⟨r19, μ18, hc, h⟩ := zbnd_of h
      refine zx_callSI (r := r19) (μ2 := μ18) G d_M_nextToken_81 zm_M_96 (fun l => t_M_isFigure  hc) rfl rfl (Nat.le_of_ble_eq_true rfl) (Nat.le_of_ble_eq_true rfl) ?_
      refine zx_if_eq (tgt := 163) G d_M_nextToken_84 rfl h (fun h => ?_) (fun h => ?_)
      · refine zx_iload_n G d_M_nextToken_163 rfl ?_
        obtain ⟨r21, μ20, hc, h⟩ := zbnd_of h
        refine zx_callSI (r := r21) (μ2 := μ20) G d_M_nextToken_164 zm_M_104 (fun l => t_M_isLetterByte  hc) rfl rfl (Nat.le_of_ble_eq_true rfl) (Nat.le_of_ble_eq_true rfl) ?_
        refine zx_if_eq (tgt := 246) G d_M_nextToken_167 rfl h (fun h => ?_) (fun h => ?_)
        · refine zx_iload_n G d_M_nextToken_246 rfl ?_
          refine zx_if_lt (tgt := 260) G d_M_nextToken_247 rfl h (fun h => ?_) (fun h => ?_)
          · exact zx_vret G d_M_nextToken_260 rfl h
          · refine zx_aload_n G d_M_nextToken_250 rfl ?_
            refine zx_dup G d_M_nextToken_251 rfl ?_
            refine zx_getI G d_M_nextToken_252 zf_M_83 zc_12_9 (zids_of 12 (Nat.le_of_ble_eq_true rfl) 0 (Nat.le_of_ble_eq_true rfl)) ?_
            refine zx_iconst (v := 1) G d_M_nextToken_255 rfl ?_
            refine zx_iadd G d_M_nextToken_256 ?_
            refine zx_putI G d_M_nextToken_257 zq_M_83 zp_12_9 (zids_of 12 (Nat.le_of_ble_eq_true rfl) 0 (Nat.le_of_ble_eq_true rfl)) h (fun μ22 h => ?_)
            exact zx_vret G d_M_nextToken_260 rfl h
        · refine zx_aload_n G d_M_nextToken_170 rfl ?_
          refine zx_iconst (v := 2) G d_M_nextToken_171 rfl ?_
          refine zx_putI G d_M_nextToken_172 zq_M_93 zp_12_11 (zids_of 12 (Nat.le_of_ble_eq_true rfl) 0 (Nat.le_of_ble_eq_true rfl)) h (fun μ23 h => ?_)
          refine zx_aload_n G d_M_nextToken_175 rfl ?_
          refine zx_lconst (v := 0) G d_M_nextToken_176 rfl ?_
          refine zx_putJ G d_M_nextToken_177 zq_M_107 zp_12_14 (zids_of 12 (Nat.le_of_ble_eq_true rfl) 0 (Nat.le_of_ble_eq_true rfl)) h (fun μ24 h => ?_)
          refine zx_weak [true, false] (lv2 := [_, none]) rfl ?_
          refine tf_M_nextToken_l180 G (zids_of 12 (Nat.le_of_ble_eq_true rfl) 0 (Nat.le_of_ble_eq_true rfl)) h
      · refine zx_aload_n G d_M_nextToken_87 rfl ?_
        refine zx_iconst (v := 1) G d_M_nextToken_88 rfl ?_
        refine zx_putI G d_M_nextToken_89 zq_M_93 zp_12_11 (zids_of 12 (Nat.le_of_ble_eq_true rfl) 0 (Nat.le_of_ble_eq_true rfl)) h (fun μ37 h => ?_)
        refine zx_aload_n G d_M_nextToken_92 rfl ?_
        refine zx_iconst (v := 0) G d_M_nextToken_93 rfl ?_
        refine zx_putI G d_M_nextToken_94 zq_M_100 zp_12_12 (zids_of 12 (Nat.le_of_ble_eq_true rfl) 0 (Nat.le_of_ble_eq_true rfl)) h (fun μ38 h => ?_)
        refine zx_weak [true, false] (lv2 := [_, none]) rfl ?_
        refine tf_M_nextToken_l97 G (zids_of 12 (Nat.le_of_ble_eq_true rfl) 0 (Nat.le_of_ble_eq_true rfl)) h
    try dsimp only at h
    refine zx_if_ge (tgt := 65) G d_M_nextToken_58 rfl h (fun h => ?_) (fun h => ?_)
    · refine zx_iload_n G d_M_nextToken_65 rfl ?_
      refine zx_bipush (v := 59) G d_M_nextToken_66 rfl ?_
      refine zx_icmp_ne (tgt := 76) G d_M_nextToken_68 rfl h (fun h => ?_) (fun h => ?_)
      · refine zx_iconst (v := 3) G d_M_nextToken_76 rfl ?_
        exact hk16 (3 : Int32) μ11 h
      · refine zx_bipush (v := 59) G d_M_nextToken_71 rfl ?_
        refine zx_goto (tgt := 77) G d_M_nextToken_73 rfl ?_
        exact hk16 (59 : Int32) μ11 h
    · refine zx_iconst (v := 0) G d_M_nextToken_61 rfl ?_
      refine zx_goto (tgt := 77) G d_M_nextToken_62 rfl ?_
      exact hk16 (0 : Int32) μ11 h
set_option maxHeartbeats 4000000 in
set_option maxRecDepth 20000 in
theorem t_M_w3 {g : ZG} {l : Launch} {N : Nat} {μ : ZMem} {p0 : Int32} {p1 : Int32} {p2 : Int32} {rr : Int64 × ZMem} (h : f_M_w3 N μ p0 p1 p2 = some rr) : zT g l 0 K_M_w3 [.int p0, .int p1, .int p2] μ (some (.long rr.1), rr.2) := by
  refine zT_of (by decide +kernel) (Nat.le_of_ble_eq_true rfl) (fun E G => ?_)
  show zX g K_M_w3 0 E (some (.long rr.1), rr.2) μ 0 [some (.int p0), some (.int p1), some (.int p2)] []
  unfold f_M_w3 at h
  refine zx_iload_n G d_M_w3_0 rfl ?_
  refine zx_i2l G d_M_w3_1 ?_
  refine zx_bipush (v := 16) G d_M_w3_2 rfl ?_
  refine zx_lshl G d_M_w3_4 ?_
  refine zx_iload_n G d_M_w3_5 rfl ?_
  refine zx_bipush (v := 8) G d_M_w3_6 rfl ?_
  refine zx_ishl G d_M_w3_8 ?_
  refine zx_i2l G d_M_w3_9 ?_
  refine zx_lor G d_M_w3_10 ?_
  refine zx_iload_n G d_M_w3_11 rfl ?_
  refine zx_i2l G d_M_w3_12 ?_
  refine zx_lor G d_M_w3_13 ?_
  exact zx_lret G d_M_w3_14 rfl h
set_option maxHeartbeats 4000000 in
set_option maxRecDepth 20000 in
theorem t_M_isWord {g : ZG} {l : Launch} {N : Nat} {μ : ZMem} {p0 : Int64} {rr : Int32 × ZMem} (h : f_M_isWord N μ p0 = some rr) : zT g l 0 K_M_isWord [.ref (g.2.1 12 0), .long p0] μ (some (.int rr.1), rr.2) := by
  refine zT_of (by decide +kernel) (Nat.le_of_ble_eq_true rfl) (fun E G => ?_)
  show zX g K_M_isWord 0 E (some (.int rr.1), rr.2) μ 0 [some (.ref (g.2.1 12 0)), some (.long p0), none] []
  unfold f_M_isWord at h
  refine zx_aload_n G d_M_isWord_0 rfl ?_
  refine zx_getI G d_M_isWord_1 zf_M_93 zc_12_11 (zids_of 12 (Nat.le_of_ble_eq_true rfl) 0 (Nat.le_of_ble_eq_true rfl)) ?_
  refine zx_iconst (v := 2) G d_M_isWord_4 rfl ?_
  refine zx_icmp_ne (tgt := 21) G d_M_isWord_5 rfl h (fun h => ?_) (fun h => ?_)
  · refine zx_iconst (v := 0) G d_M_isWord_21 rfl ?_
    exact zx_zretK G d_M_isWord_22 rfl (by decide) h
  · refine zx_aload_n G d_M_isWord_8 rfl ?_
    refine zx_getJ G d_M_isWord_9 zf_M_107 zc_12_14 (zids_of 12 (Nat.le_of_ble_eq_true rfl) 0 (Nat.le_of_ble_eq_true rfl)) ?_
    refine zx_lload_n G d_M_isWord_12 rfl ?_
    refine zx_lcmp G d_M_isWord_13 ?_
    refine zx_if_ne (tgt := 21) G d_M_isWord_14 rfl h (fun h => ?_) (fun h => ?_)
    · refine zx_iconst (v := 0) G d_M_isWord_21 rfl ?_
      exact zx_zretK G d_M_isWord_22 rfl (by decide) h
    · refine zx_iconst (v := 1) G d_M_isWord_17 rfl ?_
      refine zx_goto (tgt := 22) G d_M_isWord_18 rfl ?_
      exact zx_zretK G d_M_isWord_22 rfl (by decide) h
set_option maxHeartbeats 4000000 in
set_option maxRecDepth 20000 in
theorem t_M_w4 {g : ZG} {l : Launch} {N : Nat} {μ : ZMem} {p0 : Int32} {p1 : Int32} {p2 : Int32} {p3 : Int32} {rr : Int64 × ZMem} (h : f_M_w4 N μ p0 p1 p2 p3 = some rr) : zT g l 1 K_M_w4 [.int p0, .int p1, .int p2, .int p3] μ (some (.long rr.1), rr.2) := by
  refine zT_of (by decide +kernel) (Nat.le_of_ble_eq_true rfl) (fun E G => ?_)
  show zX g K_M_w4 1 E (some (.long rr.1), rr.2) μ 0 [some (.int p0), some (.int p1), some (.int p2), some (.int p3)] []
  unfold f_M_w4 at h
  refine zx_iload_n G d_M_w4_0 rfl ?_
  refine zx_iload_n G d_M_w4_1 rfl ?_
  refine zx_iload_n G d_M_w4_2 rfl ?_
  obtain ⟨r2, μ1, hc, h⟩ := zbnd_of h
  refine zx_callSJ (r := r2) (μ2 := μ1) G d_M_w4_3 zm_M_113 (fun l => t_M_w3  hc) rfl rfl (Nat.le_of_ble_eq_true rfl) (Nat.le_of_ble_eq_true rfl) ?_
  refine zx_bipush (v := 8) G d_M_w4_6 rfl ?_
  refine zx_lshl G d_M_w4_8 ?_
  refine zx_iload_n G d_M_w4_9 rfl ?_
  refine zx_i2l G d_M_w4_10 ?_
  refine zx_lor G d_M_w4_11 ?_
  exact zx_lret G d_M_w4_12 rfl h
set_option maxHeartbeats 4000000 in
set_option maxRecDepth 20000 in
theorem t_M_w5 {g : ZG} {l : Launch} {N : Nat} {μ : ZMem} {p0 : Int32} {p1 : Int32} {p2 : Int32} {p3 : Int32} {p4 : Int32} {rr : Int64 × ZMem} (h : f_M_w5 N μ p0 p1 p2 p3 p4 = some rr) : zT g l 2 K_M_w5 [.int p0, .int p1, .int p2, .int p3, .int p4] μ (some (.long rr.1), rr.2) := by
  refine zT_of (by decide +kernel) (Nat.le_of_ble_eq_true rfl) (fun E G => ?_)
  show zX g K_M_w5 2 E (some (.long rr.1), rr.2) μ 0 [some (.int p0), some (.int p1), some (.int p2), some (.int p3), some (.int p4)] []
  unfold f_M_w5 at h
  refine zx_iload_n G d_M_w5_0 rfl ?_
  refine zx_iload_n G d_M_w5_1 rfl ?_
  refine zx_iload_n G d_M_w5_2 rfl ?_
  refine zx_iload_n G d_M_w5_3 rfl ?_
  obtain ⟨r2, μ1, hc, h⟩ := zbnd_of h
  refine zx_callSJ (r := r2) (μ2 := μ1) G d_M_w5_4 zm_M_117 (fun l => t_M_w4  hc) rfl rfl (Nat.le_of_ble_eq_true rfl) (Nat.le_of_ble_eq_true rfl) ?_
  refine zx_bipush (v := 8) G d_M_w5_7 rfl ?_
  refine zx_lshl G d_M_w5_9 ?_
  refine zx_iload G d_M_w5_10 rfl ?_
  refine zx_i2l G d_M_w5_12 ?_
  refine zx_lor G d_M_w5_13 ?_
  exact zx_lret G d_M_w5_14 rfl h
set_option maxHeartbeats 4000000 in
set_option maxRecDepth 20000 in
theorem t_M_w6 {g : ZG} {l : Launch} {N : Nat} {μ : ZMem} {p0 : Int32} {p1 : Int32} {p2 : Int32} {p3 : Int32} {p4 : Int32} {p5 : Int32} {rr : Int64 × ZMem} (h : f_M_w6 N μ p0 p1 p2 p3 p4 p5 = some rr) : zT g l 3 K_M_w6 [.int p0, .int p1, .int p2, .int p3, .int p4, .int p5] μ (some (.long rr.1), rr.2) := by
  refine zT_of (by decide +kernel) (Nat.le_of_ble_eq_true rfl) (fun E G => ?_)
  show zX g K_M_w6 3 E (some (.long rr.1), rr.2) μ 0 [some (.int p0), some (.int p1), some (.int p2), some (.int p3), some (.int p4), some (.int p5)] []
  unfold f_M_w6 at h
  refine zx_iload_n G d_M_w6_0 rfl ?_
  refine zx_iload_n G d_M_w6_1 rfl ?_
  refine zx_iload_n G d_M_w6_2 rfl ?_
  refine zx_iload_n G d_M_w6_3 rfl ?_
  refine zx_iload G d_M_w6_4 rfl ?_
  obtain ⟨r2, μ1, hc, h⟩ := zbnd_of h
  refine zx_callSJ (r := r2) (μ2 := μ1) G d_M_w6_6 zm_M_121 (fun l => t_M_w5  hc) rfl rfl (Nat.le_of_ble_eq_true rfl) (Nat.le_of_ble_eq_true rfl) ?_
  refine zx_bipush (v := 8) G d_M_w6_9 rfl ?_
  refine zx_lshl G d_M_w6_11 ?_
  refine zx_iload G d_M_w6_12 rfl ?_
  refine zx_i2l G d_M_w6_14 ?_
  refine zx_lor G d_M_w6_15 ?_
  exact zx_lret G d_M_w6_16 rfl h
set_option maxHeartbeats 4000000 in
set_option maxRecDepth 20000 in
theorem t_M_kindAt {g : ZG} {l : Launch} {N : Nat} {μ : ZMem} {rr : Int32 × ZMem} (h : f_M_kindAt N μ = some rr) : zT g l 4 K_M_kindAt [.ref (g.2.1 12 0)] μ (some (.int rr.1), rr.2) := by
  refine zT_of (by decide +kernel) (Nat.le_of_ble_eq_true rfl) (fun E G => ?_)
  show zX g K_M_kindAt 4 E (some (.int rr.1), rr.2) μ 0 [some (.ref (g.2.1 12 0))] []
  unfold f_M_kindAt at h
  refine zx_aload_n G d_M_kindAt_0 rfl ?_
  refine zx_bipush (v := 97) G d_M_kindAt_1 rfl ?_
  refine zx_bipush (v := 100) G d_M_kindAt_3 rfl ?_
  refine zx_bipush (v := 100) G d_M_kindAt_5 rfl ?_
  obtain ⟨r2, μ1, hc, h⟩ := zbnd_of h
  refine zx_callSJ (r := r2) (μ2 := μ1) G d_M_kindAt_7 zm_M_113 (fun l => t_M_w3  hc) rfl rfl (Nat.le_of_ble_eq_true rfl) (Nat.le_of_ble_eq_true rfl) ?_
  obtain ⟨r4, μ3, hc, h⟩ := zbnd_of h
  refine zx_callVI (r := r4) (μ2 := μ3) G d_M_kindAt_10 zm_M_125 (fun l => t_M_isWord  hc) rfl rfl (Nat.le_of_ble_eq_true rfl) (Nat.le_of_ble_eq_true rfl) (zrecv zo_12 (zids_of 12 (Nat.le_of_ble_eq_true rfl) 0 (Nat.le_of_ble_eq_true rfl))) ?_
  refine zx_if_eq (tgt := 18) G d_M_kindAt_13 rfl h (fun h => ?_) (fun h => ?_)
  · refine zx_aload_n G d_M_kindAt_18 rfl ?_
    refine zx_bipush (v := 116) G d_M_kindAt_19 rfl ?_
    refine zx_bipush (v := 97) G d_M_kindAt_21 rfl ?_
    refine zx_bipush (v := 107) G d_M_kindAt_23 rfl ?_
    refine zx_bipush (v := 101) G d_M_kindAt_25 rfl ?_
    obtain ⟨r6, μ5, hc, h⟩ := zbnd_of h
    refine zx_callSJ (r := r6) (μ2 := μ5) G d_M_kindAt_27 zm_M_117 (fun l => t_M_w4  hc) rfl rfl (Nat.le_of_ble_eq_true rfl) (Nat.le_of_ble_eq_true rfl) ?_
    obtain ⟨r8, μ7, hc, h⟩ := zbnd_of h
    refine zx_callVI (r := r8) (μ2 := μ7) G d_M_kindAt_30 zm_M_125 (fun l => t_M_isWord  hc) rfl rfl (Nat.le_of_ble_eq_true rfl) (Nat.le_of_ble_eq_true rfl) (zrecv zo_12 (zids_of 12 (Nat.le_of_ble_eq_true rfl) 0 (Nat.le_of_ble_eq_true rfl))) ?_
    refine zx_if_eq (tgt := 38) G d_M_kindAt_33 rfl h (fun h => ?_) (fun h => ?_)
    · refine zx_aload_n G d_M_kindAt_38 rfl ?_
      refine zx_bipush (v := 116) G d_M_kindAt_39 rfl ?_
      refine zx_bipush (v := 105) G d_M_kindAt_41 rfl ?_
      refine zx_bipush (v := 109) G d_M_kindAt_43 rfl ?_
      refine zx_bipush (v := 101) G d_M_kindAt_45 rfl ?_
      refine zx_bipush (v := 115) G d_M_kindAt_47 rfl ?_
      obtain ⟨r10, μ9, hc, h⟩ := zbnd_of h
      refine zx_callSJ (r := r10) (μ2 := μ9) G d_M_kindAt_49 zm_M_121 (fun l => t_M_w5  hc) rfl rfl (Nat.le_of_ble_eq_true rfl) (Nat.le_of_ble_eq_true rfl) ?_
      obtain ⟨r12, μ11, hc, h⟩ := zbnd_of h
      refine zx_callVI (r := r12) (μ2 := μ11) G d_M_kindAt_52 zm_M_125 (fun l => t_M_isWord  hc) rfl rfl (Nat.le_of_ble_eq_true rfl) (Nat.le_of_ble_eq_true rfl) (zrecv zo_12 (zids_of 12 (Nat.le_of_ble_eq_true rfl) 0 (Nat.le_of_ble_eq_true rfl))) ?_
      refine zx_if_eq (tgt := 60) G d_M_kindAt_55 rfl h (fun h => ?_) (fun h => ?_)
      · refine zx_aload_n G d_M_kindAt_60 rfl ?_
        refine zx_ldc2 (v := 25209) G d_M_kindAt_61 zk_M_129 ?_
        obtain ⟨r14, μ13, hc, h⟩ := zbnd_of h
        refine zx_callVI (r := r14) (μ2 := μ13) G d_M_kindAt_64 zm_M_125 (fun l => t_M_isWord  hc) rfl rfl (Nat.le_of_ble_eq_true rfl) (Nat.le_of_ble_eq_true rfl) (zrecv zo_12 (zids_of 12 (Nat.le_of_ble_eq_true rfl) 0 (Nat.le_of_ble_eq_true rfl))) ?_
        refine zx_if_eq (tgt := 72) G d_M_kindAt_67 rfl h (fun h => ?_) (fun h => ?_)
        · refine zx_aload_n G d_M_kindAt_72 rfl ?_
          refine zx_bipush (v := 114) G d_M_kindAt_73 rfl ?_
          refine zx_bipush (v := 101) G d_M_kindAt_75 rfl ?_
          refine zx_bipush (v := 115) G d_M_kindAt_77 rfl ?_
          refine zx_bipush (v := 116) G d_M_kindAt_79 rfl ?_
          obtain ⟨r16, μ15, hc, h⟩ := zbnd_of h
          refine zx_callSJ (r := r16) (μ2 := μ15) G d_M_kindAt_81 zm_M_117 (fun l => t_M_w4  hc) rfl rfl (Nat.le_of_ble_eq_true rfl) (Nat.le_of_ble_eq_true rfl) ?_
          obtain ⟨r18, μ17, hc, h⟩ := zbnd_of h
          refine zx_callVI (r := r18) (μ2 := μ17) G d_M_kindAt_84 zm_M_125 (fun l => t_M_isWord  hc) rfl rfl (Nat.le_of_ble_eq_true rfl) (Nat.le_of_ble_eq_true rfl) (zrecv zo_12 (zids_of 12 (Nat.le_of_ble_eq_true rfl) 0 (Nat.le_of_ble_eq_true rfl))) ?_
          refine zx_if_eq (tgt := 92) G d_M_kindAt_87 rfl h (fun h => ?_) (fun h => ?_)
          · refine zx_aload_n G d_M_kindAt_92 rfl ?_
            refine zx_bipush (v := 106) G d_M_kindAt_93 rfl ?_
            refine zx_bipush (v := 111) G d_M_kindAt_95 rfl ?_
            refine zx_bipush (v := 105) G d_M_kindAt_97 rfl ?_
            refine zx_bipush (v := 110) G d_M_kindAt_99 rfl ?_
            obtain ⟨r20, μ19, hc, h⟩ := zbnd_of h
            refine zx_callSJ (r := r20) (μ2 := μ19) G d_M_kindAt_101 zm_M_117 (fun l => t_M_w4  hc) rfl rfl (Nat.le_of_ble_eq_true rfl) (Nat.le_of_ble_eq_true rfl) ?_
            obtain ⟨r22, μ21, hc, h⟩ := zbnd_of h
            refine zx_callVI (r := r22) (μ2 := μ21) G d_M_kindAt_104 zm_M_125 (fun l => t_M_isWord  hc) rfl rfl (Nat.le_of_ble_eq_true rfl) (Nat.le_of_ble_eq_true rfl) (zrecv zo_12 (zids_of 12 (Nat.le_of_ble_eq_true rfl) 0 (Nat.le_of_ble_eq_true rfl))) ?_
            refine zx_if_eq (tgt := 112) G d_M_kindAt_107 rfl h (fun h => ?_) (fun h => ?_)
            · refine zx_aload_n G d_M_kindAt_112 rfl ?_
              refine zx_bipush (v := 116) G d_M_kindAt_113 rfl ?_
              refine zx_bipush (v := 117) G d_M_kindAt_115 rfl ?_
              refine zx_bipush (v := 114) G d_M_kindAt_117 rfl ?_
              refine zx_bipush (v := 110) G d_M_kindAt_119 rfl ?_
              obtain ⟨r24, μ23, hc, h⟩ := zbnd_of h
              refine zx_callSJ (r := r24) (μ2 := μ23) G d_M_kindAt_121 zm_M_117 (fun l => t_M_w4  hc) rfl rfl (Nat.le_of_ble_eq_true rfl) (Nat.le_of_ble_eq_true rfl) ?_
              obtain ⟨r26, μ25, hc, h⟩ := zbnd_of h
              refine zx_callVI (r := r26) (μ2 := μ25) G d_M_kindAt_124 zm_M_125 (fun l => t_M_isWord  hc) rfl rfl (Nat.le_of_ble_eq_true rfl) (Nat.le_of_ble_eq_true rfl) (zrecv zo_12 (zids_of 12 (Nat.le_of_ble_eq_true rfl) 0 (Nat.le_of_ble_eq_true rfl))) ?_
              refine zx_if_eq (tgt := 133) G d_M_kindAt_127 rfl h (fun h => ?_) (fun h => ?_)
              · refine zx_aload_n G d_M_kindAt_133 rfl ?_
                refine zx_bipush (v := 97) G d_M_kindAt_134 rfl ?_
                refine zx_bipush (v := 99) G d_M_kindAt_136 rfl ?_
                refine zx_bipush (v := 114) G d_M_kindAt_138 rfl ?_
                refine zx_bipush (v := 111) G d_M_kindAt_140 rfl ?_
                refine zx_bipush (v := 115) G d_M_kindAt_142 rfl ?_
                refine zx_bipush (v := 115) G d_M_kindAt_144 rfl ?_
                obtain ⟨r28, μ27, hc, h⟩ := zbnd_of h
                refine zx_callSJ (r := r28) (μ2 := μ27) G d_M_kindAt_146 zm_M_131 (fun l => t_M_w6  hc) rfl rfl (Nat.le_of_ble_eq_true rfl) (Nat.le_of_ble_eq_true rfl) ?_
                obtain ⟨r30, μ29, hc, h⟩ := zbnd_of h
                refine zx_callVI (r := r30) (μ2 := μ29) G d_M_kindAt_149 zm_M_125 (fun l => t_M_isWord  hc) rfl rfl (Nat.le_of_ble_eq_true rfl) (Nat.le_of_ble_eq_true rfl) (zrecv zo_12 (zids_of 12 (Nat.le_of_ble_eq_true rfl) 0 (Nat.le_of_ble_eq_true rfl))) ?_
                refine zx_if_eq (tgt := 158) G d_M_kindAt_152 rfl h (fun h => ?_) (fun h => ?_)
                · refine zx_aload_n G d_M_kindAt_158 rfl ?_
                  refine zx_bipush (v := 115) G d_M_kindAt_159 rfl ?_
                  refine zx_bipush (v := 116) G d_M_kindAt_161 rfl ?_
                  refine zx_bipush (v := 114) G d_M_kindAt_163 rfl ?_
                  refine zx_bipush (v := 105) G d_M_kindAt_165 rfl ?_
                  refine zx_bipush (v := 107) G d_M_kindAt_167 rfl ?_
                  refine zx_bipush (v := 101) G d_M_kindAt_169 rfl ?_
                  obtain ⟨r32, μ31, hc, h⟩ := zbnd_of h
                  refine zx_callSJ (r := r32) (μ2 := μ31) G d_M_kindAt_171 zm_M_131 (fun l => t_M_w6  hc) rfl rfl (Nat.le_of_ble_eq_true rfl) (Nat.le_of_ble_eq_true rfl) ?_
                  obtain ⟨r34, μ33, hc, h⟩ := zbnd_of h
                  refine zx_callVI (r := r34) (μ2 := μ33) G d_M_kindAt_174 zm_M_125 (fun l => t_M_isWord  hc) rfl rfl (Nat.le_of_ble_eq_true rfl) (Nat.le_of_ble_eq_true rfl) (zrecv zo_12 (zids_of 12 (Nat.le_of_ble_eq_true rfl) 0 (Nat.le_of_ble_eq_true rfl))) ?_
                  refine zx_if_eq (tgt := 183) G d_M_kindAt_177 rfl h (fun h => ?_) (fun h => ?_)
                  · refine zx_aload_n G d_M_kindAt_183 rfl ?_
                    refine zx_bipush (v := 115) G d_M_kindAt_184 rfl ?_
                    refine zx_bipush (v := 97) G d_M_kindAt_186 rfl ?_
                    refine zx_bipush (v := 121) G d_M_kindAt_188 rfl ?_
                    obtain ⟨r36, μ35, hc, h⟩ := zbnd_of h
                    refine zx_callSJ (r := r36) (μ2 := μ35) G d_M_kindAt_190 zm_M_113 (fun l => t_M_w3  hc) rfl rfl (Nat.le_of_ble_eq_true rfl) (Nat.le_of_ble_eq_true rfl) ?_
                    obtain ⟨r38, μ37, hc, h⟩ := zbnd_of h
                    refine zx_callVI (r := r38) (μ2 := μ37) G d_M_kindAt_193 zm_M_125 (fun l => t_M_isWord  hc) rfl rfl (Nat.le_of_ble_eq_true rfl) (Nat.le_of_ble_eq_true rfl) (zrecv zo_12 (zids_of 12 (Nat.le_of_ble_eq_true rfl) 0 (Nat.le_of_ble_eq_true rfl))) ?_
                    refine zx_if_eq (tgt := 204) G d_M_kindAt_196 rfl h (fun h => ?_) (fun h => ?_)
                    · refine zx_aload_n G d_M_kindAt_204 rfl ?_
                      refine zx_bipush (v := 104) G d_M_kindAt_205 rfl ?_
                      refine zx_bipush (v := 105) G d_M_kindAt_207 rfl ?_
                      refine zx_bipush (v := 100) G d_M_kindAt_209 rfl ?_
                      refine zx_bipush (v := 101) G d_M_kindAt_211 rfl ?_
                      obtain ⟨r40, μ39, hc, h⟩ := zbnd_of h
                      refine zx_callSJ (r := r40) (μ2 := μ39) G d_M_kindAt_213 zm_M_117 (fun l => t_M_w4  hc) rfl rfl (Nat.le_of_ble_eq_true rfl) (Nat.le_of_ble_eq_true rfl) ?_
                      obtain ⟨r42, μ41, hc, h⟩ := zbnd_of h
                      refine zx_callVI (r := r42) (μ2 := μ41) G d_M_kindAt_216 zm_M_125 (fun l => t_M_isWord  hc) rfl rfl (Nat.le_of_ble_eq_true rfl) (Nat.le_of_ble_eq_true rfl) (zrecv zo_12 (zids_of 12 (Nat.le_of_ble_eq_true rfl) 0 (Nat.le_of_ble_eq_true rfl))) ?_
                      refine zx_if_eq (tgt := 227) G d_M_kindAt_219 rfl h (fun h => ?_) (fun h => ?_)
                      · refine zx_iconst (v := -1) G d_M_kindAt_227 rfl ?_
                        exact zx_iret G d_M_kindAt_228 rfl h
                      · refine zx_bipush (v := 10) G d_M_kindAt_222 rfl ?_
                        refine zx_goto (tgt := 228) G d_M_kindAt_224 rfl ?_
                        exact zx_iret G d_M_kindAt_228 rfl h
                    · refine zx_bipush (v := 9) G d_M_kindAt_199 rfl ?_
                      refine zx_goto (tgt := 228) G d_M_kindAt_201 rfl ?_
                      exact zx_iret G d_M_kindAt_228 rfl h
                  · refine zx_bipush (v := 8) G d_M_kindAt_180 rfl ?_
                    exact zx_iret G d_M_kindAt_182 rfl h
                · refine zx_bipush (v := 7) G d_M_kindAt_155 rfl ?_
                  exact zx_iret G d_M_kindAt_157 rfl h
              · refine zx_bipush (v := 6) G d_M_kindAt_130 rfl ?_
                exact zx_iret G d_M_kindAt_132 rfl h
            · refine zx_iconst (v := 5) G d_M_kindAt_110 rfl ?_
              exact zx_iret G d_M_kindAt_111 rfl h
          · refine zx_iconst (v := 4) G d_M_kindAt_90 rfl ?_
            exact zx_iret G d_M_kindAt_91 rfl h
        · refine zx_iconst (v := 3) G d_M_kindAt_70 rfl ?_
          exact zx_iret G d_M_kindAt_71 rfl h
      · refine zx_iconst (v := 2) G d_M_kindAt_58 rfl ?_
        exact zx_iret G d_M_kindAt_59 rfl h
    · refine zx_iconst (v := 1) G d_M_kindAt_36 rfl ?_
      exact zx_iret G d_M_kindAt_37 rfl h
  · refine zx_iconst (v := 0) G d_M_kindAt_16 rfl ?_
    exact zx_iret G d_M_kindAt_17 rfl h
set_option maxHeartbeats 4000000 in
set_option maxRecDepth 20000 in
theorem t_M_numberAt {g : ZG} {l : Launch} {N : Nat} {μ : ZMem} {p0 : Int32} {p1 : Int32} {p2 : Int32} {rr : Int32 × ZMem} (h : f_M_numberAt N μ p0 p1 p2 = some rr) : zT g l 2 K_M_numberAt [.ref (g.2.1 12 0), .int p0, .int p1, .int p2] μ (some (.int rr.1), rr.2) := by
  refine zT_of (by decide +kernel) (Nat.le_of_ble_eq_true rfl) (fun E G => ?_)
  show zX g K_M_numberAt 2 E (some (.int rr.1), rr.2) μ 0 [some (.ref (g.2.1 12 0)), some (.int p0), some (.int p1), some (.int p2)] []
  unfold f_M_numberAt at h
  refine zx_aload_n G d_M_numberAt_0 rfl ?_
  refine zx_getI G d_M_numberAt_1 zf_M_93 zc_12_11 (zids_of 12 (Nat.le_of_ble_eq_true rfl) 0 (Nat.le_of_ble_eq_true rfl)) ?_
  refine zx_iconst (v := 1) G d_M_numberAt_4 rfl ?_
  refine zx_icmp_eq (tgt := 10) G d_M_numberAt_5 rfl h (fun h => ?_) (fun h => ?_)
  · refine zx_aload_n G d_M_numberAt_10 rfl ?_
    refine zx_getI G d_M_numberAt_11 zf_M_100 zc_12_12 (zids_of 12 (Nat.le_of_ble_eq_true rfl) 0 (Nat.le_of_ble_eq_true rfl)) ?_
    refine zx_iload_n G d_M_numberAt_14 rfl ?_
    refine zx_iload_n G d_M_numberAt_15 rfl ?_
    obtain ⟨r2, μ1, hc, h⟩ := zbnd_of h
    refine zx_callSI (r := r2) (μ2 := μ1) G d_M_numberAt_16 zm_M_68 (fun l => t_M_isIn  hc) rfl rfl (Nat.le_of_ble_eq_true rfl) (Nat.le_of_ble_eq_true rfl) ?_
    refine zx_if_ne (tgt := 24) G d_M_numberAt_19 rfl h (fun h => ?_) (fun h => ?_)
    · refine zx_aload_n G d_M_numberAt_24 rfl ?_
      refine zx_getR G d_M_numberAt_25 zf_M_23 zc_12_4 (zids_of 12 (Nat.le_of_ble_eq_true rfl) 0 (Nat.le_of_ble_eq_true rfl)) ?_
      refine zx_iload_n G d_M_numberAt_28 rfl ?_
      refine zx_aload_n G d_M_numberAt_29 rfl ?_
      refine zx_getI G d_M_numberAt_30 zf_M_100 zc_12_12 (zids_of 12 (Nat.le_of_ble_eq_true rfl) 0 (Nat.le_of_ble_eq_true rfl)) ?_
      refine zx_iast G d_M_numberAt_33 za_42 (zi_12_4 (zids_of 12 (Nat.le_of_ble_eq_true rfl) 0 (Nat.le_of_ble_eq_true rfl))) h (fun μ3 h => ?_)
      refine zx_aload_n G d_M_numberAt_34 rfl ?_
      obtain ⟨u9, μ4, hc, h⟩ := zbnd_of h
      refine zx_callVV  (μ2 := μ4) G d_M_numberAt_35 zm_M_139 (fun l => t_M_nextToken  hc) rfl rfl (Nat.le_of_ble_eq_true rfl) (Nat.le_of_ble_eq_true rfl) (zrecv zo_12 (zids_of 12 (Nat.le_of_ble_eq_true rfl) 0 (Nat.le_of_ble_eq_true rfl))) ?_
      refine zx_iconst (v := 0) G d_M_numberAt_38 rfl ?_
      exact zx_iret G d_M_numberAt_39 rfl h
    · refine zx_iconst (v := 2) G d_M_numberAt_22 rfl ?_
      exact zx_iret G d_M_numberAt_23 rfl h
  · refine zx_iconst (v := 1) G d_M_numberAt_8 rfl ?_
    exact zx_iret G d_M_numberAt_9 rfl h
set_option maxHeartbeats 4000000 in
set_option maxRecDepth 20000 in
theorem t_M_letterAt {g : ZG} {l : Launch} {N : Nat} {μ : ZMem} {rr : Int32 × ZMem} (h : f_M_letterAt N μ = some rr) : zT g l 0 K_M_letterAt [.ref (g.2.1 12 0)] μ (some (.int rr.1), rr.2) := by
  refine zT_of (by decide +kernel) (Nat.le_of_ble_eq_true rfl) (fun E G => ?_)
  show zX g K_M_letterAt 0 E (some (.int rr.1), rr.2) μ 0 [some (.ref (g.2.1 12 0))] []
  unfold f_M_letterAt at h
  refine zx_aload_n G d_M_letterAt_0 rfl ?_
  refine zx_getI G d_M_letterAt_1 zf_M_93 zc_12_11 (zids_of 12 (Nat.le_of_ble_eq_true rfl) 0 (Nat.le_of_ble_eq_true rfl)) ?_
  refine zx_iconst (v := 2) G d_M_letterAt_4 rfl ?_
  refine zx_icmp_ne (tgt := 41) G d_M_letterAt_5 rfl h (fun h => ?_) (fun h => ?_)
  · refine zx_iconst (v := -1) G d_M_letterAt_41 rfl ?_
    exact zx_iret G d_M_letterAt_42 rfl h
  · refine zx_aload_n G d_M_letterAt_8 rfl ?_
    refine zx_getJ G d_M_letterAt_9 zf_M_107 zc_12_14 (zids_of 12 (Nat.le_of_ble_eq_true rfl) 0 (Nat.le_of_ble_eq_true rfl)) ?_
    refine zx_ldc2 (v := 97) G d_M_letterAt_12 zk_M_135 ?_
    refine zx_lcmp G d_M_letterAt_15 ?_
    refine zx_if_lt (tgt := 41) G d_M_letterAt_16 rfl h (fun h => ?_) (fun h => ?_)
    · refine zx_iconst (v := -1) G d_M_letterAt_41 rfl ?_
      exact zx_iret G d_M_letterAt_42 rfl h
    · refine zx_aload_n G d_M_letterAt_19 rfl ?_
      refine zx_getJ G d_M_letterAt_20 zf_M_107 zc_12_14 (zids_of 12 (Nat.le_of_ble_eq_true rfl) 0 (Nat.le_of_ble_eq_true rfl)) ?_
      refine zx_ldc2 (v := 100) G d_M_letterAt_23 zk_M_137 ?_
      refine zx_lcmp G d_M_letterAt_26 ?_
      refine zx_if_gt (tgt := 41) G d_M_letterAt_27 rfl h (fun h => ?_) (fun h => ?_)
      · refine zx_iconst (v := -1) G d_M_letterAt_41 rfl ?_
        exact zx_iret G d_M_letterAt_42 rfl h
      · refine zx_aload_n G d_M_letterAt_30 rfl ?_
        refine zx_getJ G d_M_letterAt_31 zf_M_107 zc_12_14 (zids_of 12 (Nat.le_of_ble_eq_true rfl) 0 (Nat.le_of_ble_eq_true rfl)) ?_
        refine zx_l2i G d_M_letterAt_34 ?_
        refine zx_bipush (v := 97) G d_M_letterAt_35 rfl ?_
        refine zx_isub G d_M_letterAt_37 ?_
        refine zx_goto (tgt := 42) G d_M_letterAt_38 rfl ?_
        exact zx_iret G d_M_letterAt_42 rfl h
set_option maxHeartbeats 4000000 in
set_option maxRecDepth 20000 in
theorem t_M_xAt {g : ZG} {l : Launch} {N : Nat} {μ : ZMem} {p0 : Int32} {rr : Int32 × ZMem} (h : f_M_xAt N μ p0 = some rr) : zT g l 3 K_M_xAt [.ref (g.2.1 12 0), .int p0] μ (some (.int rr.1), rr.2) := by
  refine zT_of (by decide +kernel) (Nat.le_of_ble_eq_true rfl) (fun E G => ?_)
  show zX g K_M_xAt 3 E (some (.int rr.1), rr.2) μ 0 [some (.ref (g.2.1 12 0)), some (.int p0), none] []
  unfold f_M_xAt at h
  refine zx_aload_n G d_M_xAt_0 rfl ?_
  obtain ⟨r2, μ1, hc, h⟩ := zbnd_of h
  refine zx_callVI (r := r2) (μ2 := μ1) G d_M_xAt_1 zm_M_142 (fun l => t_M_letterAt  hc) rfl rfl (Nat.le_of_ble_eq_true rfl) (Nat.le_of_ble_eq_true rfl) (zrecv zo_12 (zids_of 12 (Nat.le_of_ble_eq_true rfl) 0 (Nat.le_of_ble_eq_true rfl))) ?_
  refine zx_istore_n (lf := fun y => [_, _, some (.int y)]) G d_M_xAt_4 (Nat.le_of_ble_eq_true rfl) (fun _ => rfl) h (fun x3 h => ?_)
  refine zx_iload_n G d_M_xAt_5 rfl ?_
  refine zx_if_ge (tgt := 19) G d_M_xAt_6 rfl h (fun h => ?_) (fun h => ?_)
  · refine zx_aload_n G d_M_xAt_19 rfl ?_
    refine zx_getR G d_M_xAt_20 zf_M_23 zc_12_4 (zids_of 12 (Nat.le_of_ble_eq_true rfl) 0 (Nat.le_of_ble_eq_true rfl)) ?_
    refine zx_aload_n G d_M_xAt_23 rfl ?_
    refine zx_getI G d_M_xAt_24 zf_M_146 zc_12_13 (zids_of 12 (Nat.le_of_ble_eq_true rfl) 0 (Nat.le_of_ble_eq_true rfl)) ?_
    refine zx_bipush (v := 49) G d_M_xAt_27 rfl ?_
    refine zx_iadd G d_M_xAt_29 ?_
    refine zx_iconst (v := 3) G d_M_xAt_30 rfl ?_
    refine zx_iload_n G d_M_xAt_31 rfl ?_
    refine zx_imul G d_M_xAt_32 ?_
    refine zx_iadd G d_M_xAt_33 ?_
    refine zx_iald G d_M_xAt_34 za_42 (zi_12_4 (zids_of 12 (Nat.le_of_ble_eq_true rfl) 0 (Nat.le_of_ble_eq_true rfl))) h (fun h => ?_)
    refine zx_if_ne (tgt := 40) G d_M_xAt_35 rfl h (fun h => ?_) (fun h => ?_)
    · refine zx_aload_n G d_M_xAt_40 rfl ?_
      refine zx_getR G d_M_xAt_41 zf_M_23 zc_12_4 (zids_of 12 (Nat.le_of_ble_eq_true rfl) 0 (Nat.le_of_ble_eq_true rfl)) ?_
      refine zx_iload_n G d_M_xAt_44 rfl ?_
      refine zx_sipush (v := 10000) G d_M_xAt_45 rfl ?_
      refine zx_iload_n G d_M_xAt_48 rfl ?_
      refine zx_iadd G d_M_xAt_49 ?_
      refine zx_iast G d_M_xAt_50 za_42 (zi_12_4 (zids_of 12 (Nat.le_of_ble_eq_true rfl) 0 (Nat.le_of_ble_eq_true rfl))) h (fun μ4 h => ?_)
      refine zx_aload_n G d_M_xAt_51 rfl ?_
      obtain ⟨u9, μ5, hc, h⟩ := zbnd_of h
      refine zx_callVV  (μ2 := μ5) G d_M_xAt_52 zm_M_139 (fun l => t_M_nextToken  hc) rfl rfl (Nat.le_of_ble_eq_true rfl) (Nat.le_of_ble_eq_true rfl) (zrecv zo_12 (zids_of 12 (Nat.le_of_ble_eq_true rfl) 0 (Nat.le_of_ble_eq_true rfl))) ?_
      refine zx_iconst (v := 0) G d_M_xAt_55 rfl ?_
      exact zx_iret G d_M_xAt_56 rfl h
    · refine zx_iconst (v := 4) G d_M_xAt_38 rfl ?_
      exact zx_iret G d_M_xAt_39 rfl h
  · refine zx_aload_n G d_M_xAt_9 rfl ?_
    refine zx_iconst (v := 0) G d_M_xAt_10 rfl ?_
    refine zx_sipush (v := 9999) G d_M_xAt_11 rfl ?_
    refine zx_iload_n G d_M_xAt_14 rfl ?_
    obtain ⟨r7, μ6, hc, h⟩ := zbnd_of h
    refine zx_callVI (r := r7) (μ2 := μ6) G d_M_xAt_15 zm_M_149 (fun l => t_M_numberAt  hc) rfl rfl (Nat.le_of_ble_eq_true rfl) (Nat.le_of_ble_eq_true rfl) (zrecv zo_12 (zids_of 12 (Nat.le_of_ble_eq_true rfl) 0 (Nat.le_of_ble_eq_true rfl))) ?_
    exact zx_iret G d_M_xAt_18 rfl h
set_option maxHeartbeats 4000000 in
set_option maxRecDepth 20000 in
theorem t_M_order0 {g : ZG} {l : Launch} {N : Nat} {μ : ZMem} {p0 : Int32} {rr : Int32 × ZMem} (h : f_M_order0 N μ p0 = some rr) : zT g l 4 K_M_order0 [.ref (g.2.1 12 0), .int p0] μ (some (.int rr.1), rr.2) := by
  refine zT_of (by decide +kernel) (Nat.le_of_ble_eq_true rfl) (fun E G => ?_)
  show zX g K_M_order0 4 E (some (.int rr.1), rr.2) μ 0 [some (.ref (g.2.1 12 0)), some (.int p0), none, none, none] []
  unfold f_M_order0 at h
  refine zx_aload_n G d_M_order0_0 rfl ?_
  refine zx_getR G d_M_order0_1 zf_M_23 zc_12_4 (zids_of 12 (Nat.le_of_ble_eq_true rfl) 0 (Nat.le_of_ble_eq_true rfl)) ?_
  refine zx_aload_n G d_M_order0_4 rfl ?_
  refine zx_getI G d_M_order0_5 zf_M_146 zc_12_13 (zids_of 12 (Nat.le_of_ble_eq_true rfl) 0 (Nat.le_of_ble_eq_true rfl)) ?_
  refine zx_iald G d_M_order0_8 za_42 (zi_12_4 (zids_of 12 (Nat.le_of_ble_eq_true rfl) 0 (Nat.le_of_ble_eq_true rfl))) h (fun h => ?_)
  refine zx_istore_n (lf := fun y => [_, _, some (.int y), none, none]) G d_M_order0_9 (Nat.le_of_ble_eq_true rfl) (fun _ => rfl) h (fun x1 h => ?_)
  refine zx_aload_n G d_M_order0_10 rfl ?_
  refine zx_getI G d_M_order0_11 zf_M_146 zc_12_13 (zids_of 12 (Nat.le_of_ble_eq_true rfl) 0 (Nat.le_of_ble_eq_true rfl)) ?_
  refine zx_iconst (v := 1) G d_M_order0_14 rfl ?_
  refine zx_iadd G d_M_order0_15 ?_
  refine zx_iconst (v := 2) G d_M_order0_16 rfl ?_
  refine zx_iload_n G d_M_order0_17 rfl ?_
  refine zx_imul G d_M_order0_18 ?_
  refine zx_iadd G d_M_order0_19 ?_
  refine zx_istore_n (lf := fun y => [_, _, _, some (.int y), none]) G d_M_order0_20 (Nat.le_of_ble_eq_true rfl) (fun _ => rfl) h (fun x2 h => ?_)
  refine zx_aload_n G d_M_order0_21 rfl ?_
  refine zx_getR G d_M_order0_22 zf_M_23 zc_12_4 (zids_of 12 (Nat.le_of_ble_eq_true rfl) 0 (Nat.le_of_ble_eq_true rfl)) ?_
  refine zx_iload_n G d_M_order0_25 rfl ?_
  refine zx_iload_n G d_M_order0_26 rfl ?_
  refine zx_iast G d_M_order0_27 za_42 (zi_12_4 (zids_of 12 (Nat.le_of_ble_eq_true rfl) 0 (Nat.le_of_ble_eq_true rfl))) h (fun μ3 h => ?_)
  refine zx_aload_n G d_M_order0_28 rfl ?_
  refine zx_getR G d_M_order0_29 zf_M_23 zc_12_4 (zids_of 12 (Nat.le_of_ble_eq_true rfl) 0 (Nat.le_of_ble_eq_true rfl)) ?_
  refine zx_iload_n G d_M_order0_32 rfl ?_
  refine zx_iconst (v := 1) G d_M_order0_33 rfl ?_
  refine zx_iadd G d_M_order0_34 ?_
  refine zx_iconst (v := 0) G d_M_order0_35 rfl ?_
  refine zx_iast G d_M_order0_36 za_42 (zi_12_4 (zids_of 12 (Nat.le_of_ble_eq_true rfl) 0 (Nat.le_of_ble_eq_true rfl))) h (fun μ4 h => ?_)
  refine zx_iload_n G d_M_order0_37 rfl ?_
  refine zx_bipush (v := 6) G d_M_order0_38 rfl ?_
  refine zx_join (P := fun k => ∀ (y5 : Int32) (μ6 : ZMem), k y5 μ6 = some rr → zX g K_M_order0 4 E (some (.int rr.1), rr.2) μ6 73 [some (.ref (g.2.1 12 0)), none, none, none, none] [.int y5]) h (fun y5 μ6 h => ?_) (fun k7 hk7 h => ?_)
  · try dsimp only at h
    refine zx_istore (lf := fun y => [_, none, none, none, some (.int y)]) G d_M_order0_73 (Nat.le_of_ble_eq_true rfl) (fun _ => rfl) h (fun x8 h => ?_)
    refine zx_iload G d_M_order0_75 rfl ?_
    refine zx_if_ne (tgt := 93) G d_M_order0_77 rfl h (fun h => ?_) (fun h => ?_)
    · refine zx_iload G d_M_order0_93 rfl ?_
      exact zx_iret G d_M_order0_95 rfl h
    · refine zx_aload_n G d_M_order0_80 rfl ?_
      refine zx_getR G d_M_order0_81 zf_M_23 zc_12_4 (zids_of 12 (Nat.le_of_ble_eq_true rfl) 0 (Nat.le_of_ble_eq_true rfl)) ?_
      refine zx_aload_n G d_M_order0_84 rfl ?_
      refine zx_getI G d_M_order0_85 zf_M_146 zc_12_13 (zids_of 12 (Nat.le_of_ble_eq_true rfl) 0 (Nat.le_of_ble_eq_true rfl)) ?_
      refine zx_dup2_11 G d_M_order0_88 rfl rfl ?_
      refine zx_iald G d_M_order0_89 za_42 (zi_12_4 (zids_of 12 (Nat.le_of_ble_eq_true rfl) 0 (Nat.le_of_ble_eq_true rfl))) h (fun h => ?_)
      refine zx_iconst (v := 1) G d_M_order0_90 rfl ?_
      refine zx_iadd G d_M_order0_91 ?_
      refine zx_iast G d_M_order0_92 za_42 (zi_12_4 (zids_of 12 (Nat.le_of_ble_eq_true rfl) 0 (Nat.le_of_ble_eq_true rfl))) h (fun μ9 h => ?_)
      refine zx_iload G d_M_order0_93 rfl ?_
      exact zx_iret G d_M_order0_95 rfl h
  try dsimp only at h
  refine zx_icmp_ge (tgt := 53) G d_M_order0_40 rfl h (fun h => ?_) (fun h => ?_)
  · refine zx_iload_n G d_M_order0_53 rfl ?_
    refine zx_bipush (v := 8) G d_M_order0_54 rfl ?_
    refine zx_icmp_ne (tgt := 72) G d_M_order0_56 rfl h (fun h => ?_) (fun h => ?_)
    · refine zx_iconst (v := 0) G d_M_order0_72 rfl ?_
      refine zx_weak [true, false, false, false, false] (lv2 := [_, none, none, none, none]) rfl ?_
      exact hk7 (0 : Int32) μ4 h
    · refine zx_aload_n G d_M_order0_59 rfl ?_
      refine zx_iconst (v := 1) G d_M_order0_60 rfl ?_
      refine zx_bipush (v := 9) G d_M_order0_61 rfl ?_
      refine zx_iload_n G d_M_order0_63 rfl ?_
      refine zx_iconst (v := 1) G d_M_order0_64 rfl ?_
      refine zx_iadd G d_M_order0_65 ?_
      obtain ⟨r11, μ10, hc, h⟩ := zbnd_of h
      refine zx_callVI (r := r11) (μ2 := μ10) G d_M_order0_66 zm_M_149 (fun l => t_M_numberAt  hc) rfl rfl (Nat.le_of_ble_eq_true rfl) (Nat.le_of_ble_eq_true rfl) (zrecv zo_12 (zids_of 12 (Nat.le_of_ble_eq_true rfl) 0 (Nat.le_of_ble_eq_true rfl))) ?_
      refine zx_goto (tgt := 73) G d_M_order0_69 rfl ?_
      refine zx_weak [true, false, false, false, false] (lv2 := [_, none, none, none, none]) rfl ?_
      exact hk7 r11 μ10 h
  · refine zx_aload_n G d_M_order0_43 rfl ?_
    refine zx_iload_n G d_M_order0_44 rfl ?_
    refine zx_iconst (v := 1) G d_M_order0_45 rfl ?_
    refine zx_iadd G d_M_order0_46 ?_
    obtain ⟨r13, μ12, hc, h⟩ := zbnd_of h
    refine zx_callVI (r := r13) (μ2 := μ12) G d_M_order0_47 zm_M_154 (fun l => t_M_xAt  hc) rfl rfl (Nat.le_of_ble_eq_true rfl) (Nat.le_of_ble_eq_true rfl) (zrecv zo_12 (zids_of 12 (Nat.le_of_ble_eq_true rfl) 0 (Nat.le_of_ble_eq_true rfl))) ?_
    refine zx_goto (tgt := 73) G d_M_order0_50 rfl ?_
    refine zx_weak [true, false, false, false, false] (lv2 := [_, none, none, none, none]) rfl ?_
    exact hk7 r13 μ12 h
set_option maxHeartbeats 4000000 in
set_option maxRecDepth 20000 in
theorem t_M_hide {g : ZG} {l : Launch} {N : Nat} {μ : ZMem} {rr : Int32 × ZMem} (h : f_M_hide N μ = some rr) : zT g l 3 K_M_hide [.ref (g.2.1 12 0)] μ (some (.int rr.1), rr.2) := by
  refine zT_of (by decide +kernel) (Nat.le_of_ble_eq_true rfl) (fun E G => ?_)
  show zX g K_M_hide 3 E (some (.int rr.1), rr.2) μ 0 [some (.ref (g.2.1 12 0)), none, none, none] []
  unfold f_M_hide at h
  refine zx_aload_n G d_M_hide_0 rfl ?_
  obtain ⟨r2, μ1, hc, h⟩ := zbnd_of h
  refine zx_callVI (r := r2) (μ2 := μ1) G d_M_hide_1 zm_M_142 (fun l => t_M_letterAt  hc) rfl rfl (Nat.le_of_ble_eq_true rfl) (Nat.le_of_ble_eq_true rfl) (zrecv zo_12 (zids_of 12 (Nat.le_of_ble_eq_true rfl) 0 (Nat.le_of_ble_eq_true rfl))) ?_
  refine zx_istore_n (lf := fun y => [_, some (.int y), none, none]) G d_M_hide_4 (Nat.le_of_ble_eq_true rfl) (fun _ => rfl) h (fun x3 h => ?_)
  refine zx_iload_n G d_M_hide_5 rfl ?_
  refine zx_if_ge (tgt := 11) G d_M_hide_6 rfl h (fun h => ?_) (fun h => ?_)
  · refine zx_aload_n G d_M_hide_11 rfl ?_
    refine zx_getI G d_M_hide_12 zf_M_146 zc_12_13 (zids_of 12 (Nat.le_of_ble_eq_true rfl) 0 (Nat.le_of_ble_eq_true rfl)) ?_
    refine zx_bipush (v := 49) G d_M_hide_15 rfl ?_
    refine zx_iadd G d_M_hide_17 ?_
    refine zx_iconst (v := 3) G d_M_hide_18 rfl ?_
    refine zx_iload_n G d_M_hide_19 rfl ?_
    refine zx_imul G d_M_hide_20 ?_
    refine zx_iadd G d_M_hide_21 ?_
    refine zx_istore_n (lf := fun y => [_, _, some (.int y), none]) G d_M_hide_22 (Nat.le_of_ble_eq_true rfl) (fun _ => rfl) h (fun x4 h => ?_)
    refine zx_aload_n G d_M_hide_23 rfl ?_
    refine zx_getR G d_M_hide_24 zf_M_23 zc_12_4 (zids_of 12 (Nat.le_of_ble_eq_true rfl) 0 (Nat.le_of_ble_eq_true rfl)) ?_
    refine zx_iload_n G d_M_hide_27 rfl ?_
    refine zx_iald G d_M_hide_28 za_42 (zi_12_4 (zids_of 12 (Nat.le_of_ble_eq_true rfl) 0 (Nat.le_of_ble_eq_true rfl))) h (fun h => ?_)
    refine zx_iconst (v := 1) G d_M_hide_29 rfl ?_
    refine zx_icmp_ne (tgt := 35) G d_M_hide_30 rfl h (fun h => ?_) (fun h => ?_)
    · refine zx_aload_n G d_M_hide_35 rfl ?_
      obtain ⟨u9, μ5, hc, h⟩ := zbnd_of h
      refine zx_callVV  (μ2 := μ5) G d_M_hide_36 zm_M_139 (fun l => t_M_nextToken  hc) rfl rfl (Nat.le_of_ble_eq_true rfl) (Nat.le_of_ble_eq_true rfl) (zrecv zo_12 (zids_of 12 (Nat.le_of_ble_eq_true rfl) 0 (Nat.le_of_ble_eq_true rfl))) ?_
      refine zx_aload_n G d_M_hide_39 rfl ?_
      refine zx_bipush (v := 102) G d_M_hide_40 rfl ?_
      refine zx_bipush (v := 114) G d_M_hide_42 rfl ?_
      refine zx_bipush (v := 111) G d_M_hide_44 rfl ?_
      refine zx_bipush (v := 109) G d_M_hide_46 rfl ?_
      obtain ⟨r7, μ6, hc, h⟩ := zbnd_of h
      refine zx_callSJ (r := r7) (μ2 := μ6) G d_M_hide_48 zm_M_117 (fun l => t_M_w4  hc) rfl rfl (Nat.le_of_ble_eq_true rfl) (Nat.le_of_ble_eq_true rfl) ?_
      obtain ⟨r9, μ8, hc, h⟩ := zbnd_of h
      refine zx_callVI (r := r9) (μ2 := μ8) G d_M_hide_51 zm_M_125 (fun l => t_M_isWord  hc) rfl rfl (Nat.le_of_ble_eq_true rfl) (Nat.le_of_ble_eq_true rfl) (zrecv zo_12 (zids_of 12 (Nat.le_of_ble_eq_true rfl) 0 (Nat.le_of_ble_eq_true rfl))) ?_
      refine zx_if_ne (tgt := 59) G d_M_hide_54 rfl h (fun h => ?_) (fun h => ?_)
      · refine zx_aload_n G d_M_hide_59 rfl ?_
        obtain ⟨u9, μ10, hc, h⟩ := zbnd_of h
        refine zx_callVV  (μ2 := μ10) G d_M_hide_60 zm_M_139 (fun l => t_M_nextToken  hc) rfl rfl (Nat.le_of_ble_eq_true rfl) (Nat.le_of_ble_eq_true rfl) (zrecv zo_12 (zids_of 12 (Nat.le_of_ble_eq_true rfl) 0 (Nat.le_of_ble_eq_true rfl))) ?_
        refine zx_aload_n G d_M_hide_63 rfl ?_
        refine zx_iconst (v := 0) G d_M_hide_64 rfl ?_
        refine zx_sipush (v := 9999) G d_M_hide_65 rfl ?_
        refine zx_iload_n G d_M_hide_68 rfl ?_
        refine zx_iconst (v := 1) G d_M_hide_69 rfl ?_
        refine zx_iadd G d_M_hide_70 ?_
        obtain ⟨r12, μ11, hc, h⟩ := zbnd_of h
        refine zx_callVI (r := r12) (μ2 := μ11) G d_M_hide_71 zm_M_149 (fun l => t_M_numberAt  hc) rfl rfl (Nat.le_of_ble_eq_true rfl) (Nat.le_of_ble_eq_true rfl) (zrecv zo_12 (zids_of 12 (Nat.le_of_ble_eq_true rfl) 0 (Nat.le_of_ble_eq_true rfl))) ?_
        refine zx_istore_n (lf := fun y => [_, _, _, some (.int y)]) G d_M_hide_74 (Nat.le_of_ble_eq_true rfl) (fun _ => rfl) h (fun x13 h => ?_)
        refine zx_iload_n G d_M_hide_75 rfl ?_
        refine zx_if_eq (tgt := 81) G d_M_hide_76 rfl h (fun h => ?_) (fun h => ?_)
        · refine zx_aload_n G d_M_hide_81 rfl ?_
          refine zx_ldc2 (v := 29807) G d_M_hide_82 zk_M_152 ?_
          obtain ⟨r15, μ14, hc, h⟩ := zbnd_of h
          refine zx_callVI (r := r15) (μ2 := μ14) G d_M_hide_85 zm_M_125 (fun l => t_M_isWord  hc) rfl rfl (Nat.le_of_ble_eq_true rfl) (Nat.le_of_ble_eq_true rfl) (zrecv zo_12 (zids_of 12 (Nat.le_of_ble_eq_true rfl) 0 (Nat.le_of_ble_eq_true rfl))) ?_
          refine zx_if_ne (tgt := 93) G d_M_hide_88 rfl h (fun h => ?_) (fun h => ?_)
          · refine zx_aload_n G d_M_hide_93 rfl ?_
            obtain ⟨u9, μ16, hc, h⟩ := zbnd_of h
            refine zx_callVV  (μ2 := μ16) G d_M_hide_94 zm_M_139 (fun l => t_M_nextToken  hc) rfl rfl (Nat.le_of_ble_eq_true rfl) (Nat.le_of_ble_eq_true rfl) (zrecv zo_12 (zids_of 12 (Nat.le_of_ble_eq_true rfl) 0 (Nat.le_of_ble_eq_true rfl))) ?_
            refine zx_aload_n G d_M_hide_97 rfl ?_
            refine zx_getI G d_M_hide_98 zf_M_93 zc_12_11 (zids_of 12 (Nat.le_of_ble_eq_true rfl) 0 (Nat.le_of_ble_eq_true rfl)) ?_
            refine zx_iconst (v := 1) G d_M_hide_101 rfl ?_
            refine zx_join (P := fun k => ∀ (μ17 : ZMem), k μ17 = some rr → zX g K_M_hide 3 E (some (.int rr.1), rr.2) μ17 132 [some (.ref (g.2.1 12 0)), none, some (.int x4), none] []) h (fun μ17 h => ?_) (fun k18 hk18 h => ?_)
            · try dsimp only at h
              refine zx_aload_n G d_M_hide_132 rfl ?_
              refine zx_iconst (v := 0) G d_M_hide_133 rfl ?_
              refine zx_sipush (v := 9999) G d_M_hide_134 rfl ?_
              refine zx_iload_n G d_M_hide_137 rfl ?_
              refine zx_iconst (v := 2) G d_M_hide_138 rfl ?_
              refine zx_iadd G d_M_hide_139 ?_
              obtain ⟨r20, μ19, hc, h⟩ := zbnd_of h
              refine zx_callVI (r := r20) (μ2 := μ19) G d_M_hide_140 zm_M_149 (fun l => t_M_numberAt  hc) rfl rfl (Nat.le_of_ble_eq_true rfl) (Nat.le_of_ble_eq_true rfl) (zrecv zo_12 (zids_of 12 (Nat.le_of_ble_eq_true rfl) 0 (Nat.le_of_ble_eq_true rfl))) ?_
              refine zx_istore_n (lf := fun y => [_, none, _, some (.int y)]) G d_M_hide_143 (Nat.le_of_ble_eq_true rfl) (fun _ => rfl) h (fun x21 h => ?_)
              refine zx_iload_n G d_M_hide_144 rfl ?_
              refine zx_if_ne (tgt := 155) G d_M_hide_145 rfl h (fun h => ?_) (fun h => ?_)
              · refine zx_iload_n G d_M_hide_155 rfl ?_
                exact zx_iret G d_M_hide_156 rfl h
              · refine zx_aload_n G d_M_hide_148 rfl ?_
                refine zx_getR G d_M_hide_149 zf_M_23 zc_12_4 (zids_of 12 (Nat.le_of_ble_eq_true rfl) 0 (Nat.le_of_ble_eq_true rfl)) ?_
                refine zx_iload_n G d_M_hide_152 rfl ?_
                refine zx_iconst (v := 1) G d_M_hide_153 rfl ?_
                refine zx_iast G d_M_hide_154 za_42 (zi_12_4 (zids_of 12 (Nat.le_of_ble_eq_true rfl) 0 (Nat.le_of_ble_eq_true rfl))) h (fun μ22 h => ?_)
                refine zx_iload_n G d_M_hide_155 rfl ?_
                exact zx_iret G d_M_hide_156 rfl h
            try dsimp only at h
            refine zx_icmp_ne (tgt := 132) G d_M_hide_102 rfl h (fun h => ?_) (fun h => ?_)
            · refine zx_weak [true, false, true, false] (lv2 := [_, none, _, none]) rfl ?_
              exact hk18 μ16 h
            · refine zx_aload_n G d_M_hide_105 rfl ?_
              refine zx_getI G d_M_hide_106 zf_M_100 zc_12_12 (zids_of 12 (Nat.le_of_ble_eq_true rfl) 0 (Nat.le_of_ble_eq_true rfl)) ?_
              refine zx_sipush (v := 9999) G d_M_hide_109 rfl ?_
              refine zx_icmp_gt (tgt := 132) G d_M_hide_112 rfl h (fun h => ?_) (fun h => ?_)
              · refine zx_weak [true, false, true, false] (lv2 := [_, none, _, none]) rfl ?_
                exact hk18 μ16 h
              · refine zx_aload_n G d_M_hide_115 rfl ?_
                refine zx_getI G d_M_hide_116 zf_M_100 zc_12_12 (zids_of 12 (Nat.le_of_ble_eq_true rfl) 0 (Nat.le_of_ble_eq_true rfl)) ?_
                refine zx_aload_n G d_M_hide_119 rfl ?_
                refine zx_getR G d_M_hide_120 zf_M_23 zc_12_4 (zids_of 12 (Nat.le_of_ble_eq_true rfl) 0 (Nat.le_of_ble_eq_true rfl)) ?_
                refine zx_iload_n G d_M_hide_123 rfl ?_
                refine zx_iconst (v := 1) G d_M_hide_124 rfl ?_
                refine zx_iadd G d_M_hide_125 ?_
                refine zx_iald G d_M_hide_126 za_42 (zi_12_4 (zids_of 12 (Nat.le_of_ble_eq_true rfl) 0 (Nat.le_of_ble_eq_true rfl))) h (fun h => ?_)
                refine zx_icmp_ge (tgt := 132) G d_M_hide_127 rfl h (fun h => ?_) (fun h => ?_)
                · refine zx_weak [true, false, true, false] (lv2 := [_, none, _, none]) rfl ?_
                  exact hk18 μ16 h
                · refine zx_iconst (v := 5) G d_M_hide_130 rfl ?_
                  exact zx_iret G d_M_hide_131 rfl h
          · refine zx_iconst (v := 1) G d_M_hide_91 rfl ?_
            exact zx_iret G d_M_hide_92 rfl h
        · refine zx_iload_n G d_M_hide_79 rfl ?_
          exact zx_iret G d_M_hide_80 rfl h
      · refine zx_iconst (v := 1) G d_M_hide_57 rfl ?_
        exact zx_iret G d_M_hide_58 rfl h
    · refine zx_iconst (v := 3) G d_M_hide_33 rfl ?_
      exact zx_iret G d_M_hide_34 rfl h
  · refine zx_iconst (v := 1) G d_M_hide_9 rfl ?_
    exact zx_iret G d_M_hide_10 rfl h
set_option maxHeartbeats 4000000 in
set_option maxRecDepth 20000 in
theorem tf_M_readTable_l15_0 {g : ZG} {E : ZE} {N : Nat} {rr : Int32 × ZMem} {kx39 : ZMem → Option (Int32 × ZMem)} (G : zGa g K_M_readTable 5 E) (hl0 : (12, 0) ∈ zids) (hkx39 : ∀  (μ : ZMem), kx39 μ = some rr → zX g K_M_readTable 5 E (some (.int rr.1), rr.2) μ 39 [some (.ref (g.2.1 12 0)), none, none, none] []) : ∀ (n15 : Nat) (z3 : Int32) (μ4 : ZMem), f_M_readTable_l15 N kx39 n15 z3 μ4 = some rr → zX g K_M_readTable 5 E (some (.int rr.1), rr.2) μ4 15 [some (.ref (g.2.1 12 0)), some (.int z3), none, none] [] := by
  intro n15
  induction n15 with
  | zero => intro z3 μ4 h; cases h
  | succ n15 ih15 =>
    intro z3 μ4 h
    simp only [f_M_readTable_l15] at h
    refine zx_iload_n G d_M_readTable_15 rfl ?_
    refine zx_bipush (v := 61) G d_M_readTable_16 rfl ?_
    refine zx_icmp_ge (tgt := 39) G d_M_readTable_18 rfl h (fun h => ?_) (fun h => ?_)
    · refine zx_weak [true, false, false, false] (lv2 := [_, none, none, none]) rfl ?_
      exact hkx39 μ4 h
    · refine zx_aload_n G d_M_readTable_21 rfl ?_
      refine zx_getR G d_M_readTable_22 zf_M_23 zc_12_4 hl0 ?_
      refine zx_aload_n G d_M_readTable_25 rfl ?_
      refine zx_getI G d_M_readTable_26 zf_M_146 zc_12_13 hl0 ?_
      refine zx_iload_n G d_M_readTable_29 rfl ?_
      refine zx_iadd G d_M_readTable_30 ?_
      refine zx_iconst (v := 0) G d_M_readTable_31 rfl ?_
      refine zx_iast G d_M_readTable_32 za_42 (zi_12_4 hl0) h (fun μ5 h => ?_)
      refine zx_iinc (v := 1) (lf := fun y => [_, some (.int y), none, none]) G d_M_readTable_33 (Nat.le_of_ble_eq_true rfl) rfl rfl (fun _ => rfl) h (fun x6 h => ?_)
      refine zx_goto (tgt := 15) G d_M_readTable_36 rfl ?_
      exact ih15 x6 μ5 h
set_option maxHeartbeats 4000000 in
set_option maxRecDepth 20000 in
theorem tf_M_readTable_l15 {g : ZG} {E : ZE} {N n15 : Nat} {rr : Int32 × ZMem} {kx39 : ZMem → Option (Int32 × ZMem)} {z3 : Int32} {μ4 : ZMem} (G : zGa g K_M_readTable 5 E) (hl0 : (12, 0) ∈ zids) (h : f_M_readTable_l15 N kx39 n15 z3 μ4 = some rr) (hkx39 : ∀  (μ : ZMem), kx39 μ = some rr → zX g K_M_readTable 5 E (some (.int rr.1), rr.2) μ 39 [some (.ref (g.2.1 12 0)), none, none, none] []) : zX g K_M_readTable 5 E (some (.int rr.1), rr.2) μ4 15 [some (.ref (g.2.1 12 0)), some (.int z3), none, none] [] := tf_M_readTable_l15_0 G hl0 hkx39 n15 z3 μ4 h
set_option maxHeartbeats 4000000 in
set_option maxRecDepth 20000 in
theorem tf_M_readTable_l50_0 {g : ZG} {E : ZE} {N : Nat} {rr : Int32 × ZMem} (G : zGa g K_M_readTable 5 E) (hl0 : (12, 0) ∈ zids) : ∀ (n50 : Nat) (z11 : Int32) (μ12 : ZMem), f_M_readTable_l50 N n50 z11 μ12 = some rr → zX g K_M_readTable 5 E (some (.int rr.1), rr.2) μ12 50 [some (.ref (g.2.1 12 0)), some (.int z11), none, none] [] := by
  intro n50
  induction n50 with
  | zero => intro z11 μ12 h; cases h
  | succ n50 ih50 =>
    intro z11 μ12 h
    simp only [f_M_readTable_l50] at h
    refine zx_aload_n G d_M_readTable_50 rfl ?_
    refine zx_getI G d_M_readTable_51 zf_M_93 zc_12_11 hl0 ?_
    refine zx_if_eq (tgt := 127) G d_M_readTable_54 rfl h (fun h => ?_) (fun h => ?_)
    · refine zx_iconst (v := 0) G d_M_readTable_127 rfl ?_
      exact zx_iret G d_M_readTable_128 rfl h
    · refine zx_aload_n G d_M_readTable_57 rfl ?_
      obtain ⟨r14, μ13, hc, h⟩ := zbnd_of h
      refine zx_callVI (r := r14) (μ2 := μ13) G d_M_readTable_58 zm_M_157 (fun l => t_M_kindAt  hc) rfl rfl (Nat.le_of_ble_eq_true rfl) (Nat.le_of_ble_eq_true rfl) (zrecv zo_12 hl0) ?_
      refine zx_istore_n (lf := fun y => [_, _, some (.int y), none]) G d_M_readTable_61 (Nat.le_of_ble_eq_true rfl) (fun _ => rfl) h (fun x15 h => ?_)
      refine zx_iload_n G d_M_readTable_62 rfl ?_
      refine zx_if_ge (tgt := 68) G d_M_readTable_63 rfl h (fun h => ?_) (fun h => ?_)
      · refine zx_iload_n G d_M_readTable_68 rfl ?_
        refine zx_bipush (v := 24) G d_M_readTable_69 rfl ?_
        refine zx_icmp_ne (tgt := 77) G d_M_readTable_71 rfl h (fun h => ?_) (fun h => ?_)
        · refine zx_iinc (v := 1) (lf := fun y => [_, some (.int y), _, none]) G d_M_readTable_77 (Nat.le_of_ble_eq_true rfl) rfl rfl (fun _ => rfl) h (fun x16 h => ?_)
          refine zx_aload_n G d_M_readTable_80 rfl ?_
          obtain ⟨u9, μ17, hc, h⟩ := zbnd_of h
          refine zx_callVV  (μ2 := μ17) G d_M_readTable_81 zm_M_139 (fun l => t_M_nextToken  hc) rfl rfl (Nat.le_of_ble_eq_true rfl) (Nat.le_of_ble_eq_true rfl) (zrecv zo_12 hl0) ?_
          refine zx_iload_n G d_M_readTable_84 rfl ?_
          refine zx_bipush (v := 10) G d_M_readTable_85 rfl ?_
          refine zx_join (P := fun k => ∀ (y18 : Int32) (μ19 : ZMem), k y18 μ19 = some rr → zX g K_M_readTable 5 E (some (.int rr.1), rr.2) μ19 102 [some (.ref (g.2.1 12 0)), some (.int x16), none, none] [.int y18]) h (fun y18 μ19 h => ?_) (fun k20 hk20 h => ?_)
          · try dsimp only at h
            refine zx_istore_n (lf := fun y => [_, _, none, some (.int y)]) G d_M_readTable_102 (Nat.le_of_ble_eq_true rfl) (fun _ => rfl) h (fun x21 h => ?_)
            refine zx_iload_n G d_M_readTable_103 rfl ?_
            refine zx_if_eq (tgt := 109) G d_M_readTable_104 rfl h (fun h => ?_) (fun h => ?_)
            · refine zx_aload_n G d_M_readTable_109 rfl ?_
              refine zx_getI G d_M_readTable_110 zf_M_93 zc_12_11 hl0 ?_
              refine zx_bipush (v := 59) G d_M_readTable_113 rfl ?_
              refine zx_icmp_eq (tgt := 120) G d_M_readTable_115 rfl h (fun h => ?_) (fun h => ?_)
              · refine zx_aload_n G d_M_readTable_120 rfl ?_
                obtain ⟨u9, μ22, hc, h⟩ := zbnd_of h
                refine zx_callVV  (μ2 := μ22) G d_M_readTable_121 zm_M_139 (fun l => t_M_nextToken  hc) rfl rfl (Nat.le_of_ble_eq_true rfl) (Nat.le_of_ble_eq_true rfl) (zrecv zo_12 hl0) ?_
                refine zx_goto (tgt := 50) G d_M_readTable_124 rfl ?_
                refine zx_weak [true, true, false, false] (lv2 := [_, _, none, none]) rfl ?_
                exact ih50 x16 μ22 h
              · refine zx_iconst (v := 1) G d_M_readTable_118 rfl ?_
                exact zx_iret G d_M_readTable_119 rfl h
            · refine zx_iload_n G d_M_readTable_107 rfl ?_
              exact zx_iret G d_M_readTable_108 rfl h
          try dsimp only at h
          refine zx_icmp_ne (tgt := 97) G d_M_readTable_87 rfl h (fun h => ?_) (fun h => ?_)
          · refine zx_aload_n G d_M_readTable_97 rfl ?_
            refine zx_iload_n G d_M_readTable_98 rfl ?_
            obtain ⟨r24, μ23, hc, h⟩ := zbnd_of h
            refine zx_callVI (r := r24) (μ2 := μ23) G d_M_readTable_99 zm_M_163 (fun l => t_M_order0  hc) rfl rfl (Nat.le_of_ble_eq_true rfl) (Nat.le_of_ble_eq_true rfl) (zrecv zo_12 hl0) ?_
            refine zx_weak [true, true, false, false] (lv2 := [_, _, none, none]) rfl ?_
            exact hk20 r24 μ23 h
          · refine zx_aload_n G d_M_readTable_90 rfl ?_
            obtain ⟨r26, μ25, hc, h⟩ := zbnd_of h
            refine zx_callVI (r := r26) (μ2 := μ25) G d_M_readTable_91 zm_M_160 (fun l => t_M_hide  hc) rfl rfl (Nat.le_of_ble_eq_true rfl) (Nat.le_of_ble_eq_true rfl) (zrecv zo_12 hl0) ?_
            refine zx_goto (tgt := 102) G d_M_readTable_94 rfl ?_
            refine zx_weak [true, true, false, false] (lv2 := [_, _, none, none]) rfl ?_
            exact hk20 r26 μ25 h
        · refine zx_bipush (v := 6) G d_M_readTable_74 rfl ?_
          exact zx_iret G d_M_readTable_76 rfl h
      · refine zx_iconst (v := 1) G d_M_readTable_66 rfl ?_
        exact zx_iret G d_M_readTable_67 rfl h
set_option maxHeartbeats 4000000 in
set_option maxRecDepth 20000 in
theorem tf_M_readTable_l50 {g : ZG} {E : ZE} {N n50 : Nat} {rr : Int32 × ZMem} {z11 : Int32} {μ12 : ZMem} (G : zGa g K_M_readTable 5 E) (hl0 : (12, 0) ∈ zids) (h : f_M_readTable_l50 N n50 z11 μ12 = some rr) : zX g K_M_readTable 5 E (some (.int rr.1), rr.2) μ12 50 [some (.ref (g.2.1 12 0)), some (.int z11), none, none] [] := tf_M_readTable_l50_0 G hl0 n50 z11 μ12 h
set_option maxHeartbeats 4000000 in
set_option maxRecDepth 20000 in
theorem t_M_readTable {g : ZG} {l : Launch} {N : Nat} {μ : ZMem} {rr : Int32 × ZMem} (h : f_M_readTable N μ = some rr) : zT g l 5 K_M_readTable [.ref (g.2.1 12 0)] μ (some (.int rr.1), rr.2) := by
  refine zT_of (by decide +kernel) (Nat.le_of_ble_eq_true rfl) (fun E G => ?_)
  show zX g K_M_readTable 5 E (some (.int rr.1), rr.2) μ 0 [some (.ref (g.2.1 12 0)), none, none, none] []
  unfold f_M_readTable at h
  refine zx_aload_n G d_M_readTable_0 rfl ?_
  refine zx_bipush (v := 61) G d_M_readTable_1 rfl ?_
  refine zx_aload_n G d_M_readTable_3 rfl ?_
  refine zx_getR G d_M_readTable_4 zf_M_7 zc_12_0 (zids_of 12 (Nat.le_of_ble_eq_true rfl) 0 (Nat.le_of_ble_eq_true rfl)) ?_
  refine zx_iconst (v := 0) G d_M_readTable_7 rfl ?_
  refine zx_iald G d_M_readTable_8 za_40 (zi_12_0 (zids_of 12 (Nat.le_of_ble_eq_true rfl) 0 (Nat.le_of_ble_eq_true rfl))) h (fun h => ?_)
  refine zx_imul G d_M_readTable_9 ?_
  refine zx_putI G d_M_readTable_10 zq_M_146 zp_12_13 (zids_of 12 (Nat.le_of_ble_eq_true rfl) 0 (Nat.le_of_ble_eq_true rfl)) h (fun μ1 h => ?_)
  refine zx_iconst (v := 0) G d_M_readTable_13 rfl ?_
  refine zx_istore_n (lf := fun y => [_, some (.int y), none, none]) G d_M_readTable_14 (Nat.le_of_ble_eq_true rfl) (fun _ => rfl) h (fun x2 h => ?_)
  refine tf_M_readTable_l15 G (zids_of 12 (Nat.le_of_ble_eq_true rfl) 0 (Nat.le_of_ble_eq_true rfl)) h (fun μ7 h => ?_)
  · try dsimp only at h
    refine zx_aload_n G d_M_readTable_39 rfl ?_
    refine zx_iconst (v := 0) G d_M_readTable_40 rfl ?_
    refine zx_putI G d_M_readTable_41 zq_M_83 zp_12_9 (zids_of 12 (Nat.le_of_ble_eq_true rfl) 0 (Nat.le_of_ble_eq_true rfl)) h (fun μ8 h => ?_)
    refine zx_aload_n G d_M_readTable_44 rfl ?_
    obtain ⟨u9, μ9, hc, h⟩ := zbnd_of h
    refine zx_callVV  (μ2 := μ9) G d_M_readTable_45 zm_M_139 (fun l => t_M_nextToken  hc) rfl rfl (Nat.le_of_ble_eq_true rfl) (Nat.le_of_ble_eq_true rfl) (zrecv zo_12 (zids_of 12 (Nat.le_of_ble_eq_true rfl) 0 (Nat.le_of_ble_eq_true rfl))) ?_
    refine zx_iconst (v := 0) G d_M_readTable_48 rfl ?_
    refine zx_istore_n (lf := fun y => [_, some (.int y), none, none]) G d_M_readTable_49 (Nat.le_of_ble_eq_true rfl) (fun _ => rfl) h (fun x10 h => ?_)
    refine tf_M_readTable_l50 G (zids_of 12 (Nat.le_of_ble_eq_true rfl) 0 (Nat.le_of_ble_eq_true rfl)) h
set_option maxHeartbeats 4000000 in
set_option maxRecDepth 20000 in
theorem t_M_table {g : ZG} {l : Launch} {N : Nat} {μ : ZMem} {rr : Int32 × ZMem} (h : f_M_table N μ = some rr) : zT g l 6 K_M_table [.ref (g.2.1 12 0)] μ (some (.int rr.1), rr.2) := by
  refine zT_of (by decide +kernel) (Nat.le_of_ble_eq_true rfl) (fun E G => ?_)
  show zX g K_M_table 6 E (some (.int rr.1), rr.2) μ 0 [some (.ref (g.2.1 12 0))] []
  unfold f_M_table at h
  refine zx_aload_n G d_M_table_0 rfl ?_
  refine zx_getR G d_M_table_1 zf_M_7 zc_12_0 (zids_of 12 (Nat.le_of_ble_eq_true rfl) 0 (Nat.le_of_ble_eq_true rfl)) ?_
  refine zx_iconst (v := 0) G d_M_table_4 rfl ?_
  refine zx_iald G d_M_table_5 za_40 (zi_12_0 (zids_of 12 (Nat.le_of_ble_eq_true rfl) 0 (Nat.le_of_ble_eq_true rfl))) h (fun h => ?_)
  refine zx_iconst (v := 4) G d_M_table_6 rfl ?_
  refine zx_icmp_ne (tgt := 12) G d_M_table_7 rfl h (fun h => ?_) (fun h => ?_)
  · refine zx_aload_n G d_M_table_12 rfl ?_
    refine zx_aload_n G d_M_table_13 rfl ?_
    obtain ⟨r2, μ1, hc, h⟩ := zbnd_of h
    refine zx_callVI (r := r2) (μ2 := μ1) G d_M_table_14 zm_M_166 (fun l => t_M_readTable  hc) rfl rfl (Nat.le_of_ble_eq_true rfl) (Nat.le_of_ble_eq_true rfl) (zrecv zo_12 (zids_of 12 (Nat.le_of_ble_eq_true rfl) 0 (Nat.le_of_ble_eq_true rfl))) ?_
    refine zx_putI G d_M_table_17 zq_M_29 zp_12_7 (zids_of 12 (Nat.le_of_ble_eq_true rfl) 0 (Nat.le_of_ble_eq_true rfl)) h (fun μ3 h => ?_)
    refine zx_aload_n G d_M_table_20 rfl ?_
    refine zx_aload_n G d_M_table_21 rfl ?_
    refine zx_getI G d_M_table_22 zf_M_29 zc_12_7 (zids_of 12 (Nat.le_of_ble_eq_true rfl) 0 (Nat.le_of_ble_eq_true rfl)) ?_
    refine zx_join (P := fun k => ∀ (y4 : Int32) (μ5 : ZMem), k y4 μ5 = some rr → zX g K_M_table 6 E (some (.int rr.1), rr.2) μ5 36 [some (.ref (g.2.1 12 0))] [.int y4, .ref (g.2.1 12 0)]) h (fun y4 μ5 h => ?_) (fun k6 hk6 h => ?_)
    · try dsimp only at h
      refine zx_putI G d_M_table_36 zq_M_33 zp_12_8 (zids_of 12 (Nat.le_of_ble_eq_true rfl) 0 (Nat.le_of_ble_eq_true rfl)) h (fun μ7 h => ?_)
      refine zx_aload_n G d_M_table_39 rfl ?_
      refine zx_iconst (v := 0) G d_M_table_40 rfl ?_
      refine zx_putI G d_M_table_41 zq_M_76 zp_12_6 (zids_of 12 (Nat.le_of_ble_eq_true rfl) 0 (Nat.le_of_ble_eq_true rfl)) h (fun μ8 h => ?_)
      refine zx_aload_n G d_M_table_44 rfl ?_
      refine zx_getI G d_M_table_45 zf_M_29 zc_12_7 (zids_of 12 (Nat.le_of_ble_eq_true rfl) 0 (Nat.le_of_ble_eq_true rfl)) ?_
      refine zx_if_eq (tgt := 53) G d_M_table_48 rfl h (fun h => ?_) (fun h => ?_)
      · refine zx_aload_n G d_M_table_53 rfl ?_
        refine zx_getR G d_M_table_54 zf_M_7 zc_12_0 (zids_of 12 (Nat.le_of_ble_eq_true rfl) 0 (Nat.le_of_ble_eq_true rfl)) ?_
        refine zx_iconst (v := 0) G d_M_table_57 rfl ?_
        refine zx_dup2_11 G d_M_table_58 rfl rfl ?_
        refine zx_iald G d_M_table_59 za_40 (zi_12_0 (zids_of 12 (Nat.le_of_ble_eq_true rfl) 0 (Nat.le_of_ble_eq_true rfl))) h (fun h => ?_)
        refine zx_iconst (v := 1) G d_M_table_60 rfl ?_
        refine zx_iadd G d_M_table_61 ?_
        refine zx_iast G d_M_table_62 za_40 (zi_12_0 (zids_of 12 (Nat.le_of_ble_eq_true rfl) 0 (Nat.le_of_ble_eq_true rfl))) h (fun μ9 h => ?_)
        refine zx_aload_n G d_M_table_63 rfl ?_
        refine zx_getR G d_M_table_64 zf_M_7 zc_12_0 (zids_of 12 (Nat.le_of_ble_eq_true rfl) 0 (Nat.le_of_ble_eq_true rfl)) ?_
        refine zx_iconst (v := 0) G d_M_table_67 rfl ?_
        refine zx_iald G d_M_table_68 za_40 (zi_12_0 (zids_of 12 (Nat.le_of_ble_eq_true rfl) 0 (Nat.le_of_ble_eq_true rfl))) h (fun h => ?_)
        refine zx_iconst (v := 1) G d_M_table_69 rfl ?_
        refine zx_isub G d_M_table_70 ?_
        exact zx_iret G d_M_table_71 rfl h
      · refine zx_iconst (v := -1) G d_M_table_51 rfl ?_
        exact zx_iret G d_M_table_52 rfl h
    try dsimp only at h
    refine zx_if_ne (tgt := 32) G d_M_table_25 rfl h (fun h => ?_) (fun h => ?_)
    · refine zx_aload_n G d_M_table_32 rfl ?_
      refine zx_getI G d_M_table_33 zf_M_90 zc_12_10 (zids_of 12 (Nat.le_of_ble_eq_true rfl) 0 (Nat.le_of_ble_eq_true rfl)) ?_
      exact hk6 (μ3.1 12 0 10) μ3 h
    · refine zx_iconst (v := -1) G d_M_table_28 rfl ?_
      refine zx_goto (tgt := 36) G d_M_table_29 rfl ?_
      exact hk6 (-1 : Int32) μ3 h
  · refine zx_iconst (v := -1) G d_M_table_10 rfl ?_
    exact zx_iret G d_M_table_11 rfl h
set_option maxHeartbeats 4000000 in
set_option maxRecDepth 20000 in
theorem t_M_fault {g : ZG} {l : Launch} {N : Nat} {μ : ZMem} {p0 : Int32} {rr : Int32 × ZMem} (h : f_M_fault N μ p0 = some rr) : zT g l 0 K_M_fault [.ref (g.2.1 12 0), .int p0] μ (some (.int rr.1), rr.2) := by
  refine zT_of (by decide +kernel) (Nat.le_of_ble_eq_true rfl) (fun E G => ?_)
  show zX g K_M_fault 0 E (some (.int rr.1), rr.2) μ 0 [some (.ref (g.2.1 12 0)), some (.int p0)] []
  unfold f_M_fault at h
  refine zx_iload_n G d_M_fault_0 rfl ?_
  refine zx_if_ne (tgt := 11) G d_M_fault_1 rfl h (fun h => ?_) (fun h => ?_)
  · refine zx_iload_n G d_M_fault_11 rfl ?_
    refine zx_iconst (v := 1) G d_M_fault_12 rfl ?_
    refine zx_icmp_ne (tgt := 23) G d_M_fault_13 rfl h (fun h => ?_) (fun h => ?_)
    · refine zx_iconst (v := -1) G d_M_fault_23 rfl ?_
      exact zx_iret G d_M_fault_24 rfl h
    · refine zx_aload_n G d_M_fault_16 rfl ?_
      refine zx_getI G d_M_fault_17 zf_M_33 zc_12_8 (zids_of 12 (Nat.le_of_ble_eq_true rfl) 0 (Nat.le_of_ble_eq_true rfl)) ?_
      refine zx_goto (tgt := 24) G d_M_fault_20 rfl ?_
      exact zx_iret G d_M_fault_24 rfl h
  · refine zx_aload_n G d_M_fault_4 rfl ?_
    refine zx_getI G d_M_fault_5 zf_M_29 zc_12_7 (zids_of 12 (Nat.le_of_ble_eq_true rfl) 0 (Nat.le_of_ble_eq_true rfl)) ?_
    refine zx_goto (tgt := 24) G d_M_fault_8 rfl ?_
    exact zx_iret G d_M_fault_24 rfl h
set_option maxHeartbeats 4000000 in
set_option maxRecDepth 20000 in
theorem t_M_isTable {g : ZG} {l : Launch} {N : Nat} {μ : ZMem} {p0 : Int32} {rr : Int32 × ZMem} (h : f_M_isTable N μ p0 = some rr) : zT g l 1 K_M_isTable [.ref (g.2.1 12 0), .int p0] μ (some (.int rr.1), rr.2) := by
  refine zT_of (by decide +kernel) (Nat.le_of_ble_eq_true rfl) (fun E G => ?_)
  show zX g K_M_isTable 1 E (some (.int rr.1), rr.2) μ 0 [some (.ref (g.2.1 12 0)), some (.int p0)] []
  unfold f_M_isTable at h
  refine zx_iload_n G d_M_isTable_0 rfl ?_
  refine zx_iconst (v := 0) G d_M_isTable_1 rfl ?_
  refine zx_aload_n G d_M_isTable_2 rfl ?_
  refine zx_getR G d_M_isTable_3 zf_M_7 zc_12_0 (zids_of 12 (Nat.le_of_ble_eq_true rfl) 0 (Nat.le_of_ble_eq_true rfl)) ?_
  refine zx_iconst (v := 0) G d_M_isTable_6 rfl ?_
  refine zx_iald G d_M_isTable_7 za_40 (zi_12_0 (zids_of 12 (Nat.le_of_ble_eq_true rfl) 0 (Nat.le_of_ble_eq_true rfl))) h (fun h => ?_)
  refine zx_iconst (v := 1) G d_M_isTable_8 rfl ?_
  refine zx_isub G d_M_isTable_9 ?_
  obtain ⟨r2, μ1, hc, h⟩ := zbnd_of h
  refine zx_callSI (r := r2) (μ2 := μ1) G d_M_isTable_10 zm_M_68 (fun l => t_M_isIn  hc) rfl rfl (Nat.le_of_ble_eq_true rfl) (Nat.le_of_ble_eq_true rfl) ?_
  exact zx_zret G d_M_isTable_13 rfl h
set_option maxHeartbeats 4000000 in
set_option maxRecDepth 20000 in
theorem t_M_ordersOf {g : ZG} {l : Launch} {N : Nat} {μ : ZMem} {p0 : Int32} {rr : Int32 × ZMem} (h : f_M_ordersOf N μ p0 = some rr) : zT g l 0 K_M_ordersOf [.ref (g.2.1 12 0), .int p0] μ (some (.int rr.1), rr.2) := by
  refine zT_of (by decide +kernel) (Nat.le_of_ble_eq_true rfl) (fun E G => ?_)
  show zX g K_M_ordersOf 0 E (some (.int rr.1), rr.2) μ 0 [some (.ref (g.2.1 12 0)), some (.int p0)] []
  unfold f_M_ordersOf at h
  refine zx_aload_n G d_M_ordersOf_0 rfl ?_
  refine zx_getR G d_M_ordersOf_1 zf_M_23 zc_12_4 (zids_of 12 (Nat.le_of_ble_eq_true rfl) 0 (Nat.le_of_ble_eq_true rfl)) ?_
  refine zx_bipush (v := 61) G d_M_ordersOf_4 rfl ?_
  refine zx_iload_n G d_M_ordersOf_6 rfl ?_
  refine zx_imul G d_M_ordersOf_7 ?_
  refine zx_iald G d_M_ordersOf_8 za_42 (zi_12_4 (zids_of 12 (Nat.le_of_ble_eq_true rfl) 0 (Nat.le_of_ble_eq_true rfl))) h (fun h => ?_)
  exact zx_iret G d_M_ordersOf_9 rfl h
set_option maxHeartbeats 4000000 in
set_option maxRecDepth 20000 in
theorem t_M_kindOf {g : ZG} {l : Launch} {N : Nat} {μ : ZMem} {p0 : Int32} {p1 : Int32} {rr : Int32 × ZMem} (h : f_M_kindOf N μ p0 p1 = some rr) : zT g l 0 K_M_kindOf [.ref (g.2.1 12 0), .int p0, .int p1] μ (some (.int rr.1), rr.2) := by
  refine zT_of (by decide +kernel) (Nat.le_of_ble_eq_true rfl) (fun E G => ?_)
  show zX g K_M_kindOf 0 E (some (.int rr.1), rr.2) μ 0 [some (.ref (g.2.1 12 0)), some (.int p0), some (.int p1)] []
  unfold f_M_kindOf at h
  refine zx_aload_n G d_M_kindOf_0 rfl ?_
  refine zx_getR G d_M_kindOf_1 zf_M_23 zc_12_4 (zids_of 12 (Nat.le_of_ble_eq_true rfl) 0 (Nat.le_of_ble_eq_true rfl)) ?_
  refine zx_bipush (v := 61) G d_M_kindOf_4 rfl ?_
  refine zx_iload_n G d_M_kindOf_6 rfl ?_
  refine zx_imul G d_M_kindOf_7 ?_
  refine zx_iconst (v := 1) G d_M_kindOf_8 rfl ?_
  refine zx_iadd G d_M_kindOf_9 ?_
  refine zx_iconst (v := 2) G d_M_kindOf_10 rfl ?_
  refine zx_iload_n G d_M_kindOf_11 rfl ?_
  refine zx_imul G d_M_kindOf_12 ?_
  refine zx_iadd G d_M_kindOf_13 ?_
  refine zx_iald G d_M_kindOf_14 za_42 (zi_12_4 (zids_of 12 (Nat.le_of_ble_eq_true rfl) 0 (Nat.le_of_ble_eq_true rfl))) h (fun h => ?_)
  exact zx_iret G d_M_kindOf_15 rfl h
set_option maxHeartbeats 4000000 in
set_option maxRecDepth 20000 in
theorem t_M_xOf {g : ZG} {l : Launch} {N : Nat} {μ : ZMem} {p0 : Int32} {p1 : Int32} {rr : Int32 × ZMem} (h : f_M_xOf N μ p0 p1 = some rr) : zT g l 0 K_M_xOf [.ref (g.2.1 12 0), .int p0, .int p1] μ (some (.int rr.1), rr.2) := by
  refine zT_of (by decide +kernel) (Nat.le_of_ble_eq_true rfl) (fun E G => ?_)
  show zX g K_M_xOf 0 E (some (.int rr.1), rr.2) μ 0 [some (.ref (g.2.1 12 0)), some (.int p0), some (.int p1)] []
  unfold f_M_xOf at h
  refine zx_aload_n G d_M_xOf_0 rfl ?_
  refine zx_getR G d_M_xOf_1 zf_M_23 zc_12_4 (zids_of 12 (Nat.le_of_ble_eq_true rfl) 0 (Nat.le_of_ble_eq_true rfl)) ?_
  refine zx_bipush (v := 61) G d_M_xOf_4 rfl ?_
  refine zx_iload_n G d_M_xOf_6 rfl ?_
  refine zx_imul G d_M_xOf_7 ?_
  refine zx_iconst (v := 2) G d_M_xOf_8 rfl ?_
  refine zx_iadd G d_M_xOf_9 ?_
  refine zx_iconst (v := 2) G d_M_xOf_10 rfl ?_
  refine zx_iload_n G d_M_xOf_11 rfl ?_
  refine zx_imul G d_M_xOf_12 ?_
  refine zx_iadd G d_M_xOf_13 ?_
  refine zx_iald G d_M_xOf_14 za_42 (zi_12_4 (zids_of 12 (Nat.le_of_ble_eq_true rfl) 0 (Nat.le_of_ble_eq_true rfl))) h (fun h => ?_)
  exact zx_iret G d_M_xOf_15 rfl h
set_option maxHeartbeats 4000000 in
set_option maxRecDepth 20000 in
theorem t_M_order {g : ZG} {l : Launch} {N : Nat} {μ : ZMem} {p0 : Int32} {p1 : Int32} {p2 : Int32} {rr : Int32 × ZMem} (h : f_M_order N μ p0 p1 p2 = some rr) : zT g l 2 K_M_order [.ref (g.2.1 12 0), .int p0, .int p1, .int p2] μ (some (.int rr.1), rr.2) := by
  refine zT_of (by decide +kernel) (Nat.le_of_ble_eq_true rfl) (fun E G => ?_)
  show zX g K_M_order 2 E (some (.int rr.1), rr.2) μ 0 [some (.ref (g.2.1 12 0)), some (.int p0), some (.int p1), some (.int p2)] []
  unfold f_M_order at h
  refine zx_aload_n G d_M_order_0 rfl ?_
  refine zx_iload_n G d_M_order_1 rfl ?_
  obtain ⟨r2, μ1, hc, h⟩ := zbnd_of h
  refine zx_callVI (r := r2) (μ2 := μ1) G d_M_order_2 zm_M_169 (fun l => t_M_isTable  hc) rfl rfl (Nat.le_of_ble_eq_true rfl) (Nat.le_of_ble_eq_true rfl) (zrecv zo_12 (zids_of 12 (Nat.le_of_ble_eq_true rfl) 0 (Nat.le_of_ble_eq_true rfl))) ?_
  refine zx_if_ne (tgt := 10) G d_M_order_5 rfl h (fun h => ?_) (fun h => ?_)
  · refine zx_iload_n G d_M_order_10 rfl ?_
    refine zx_iconst (v := -1) G d_M_order_11 rfl ?_
    refine zx_icmp_ne (tgt := 21) G d_M_order_12 rfl h (fun h => ?_) (fun h => ?_)
    · refine zx_iload_n G d_M_order_21 rfl ?_
      refine zx_iconst (v := 0) G d_M_order_22 rfl ?_
      refine zx_aload_n G d_M_order_23 rfl ?_
      refine zx_iload_n G d_M_order_24 rfl ?_
      obtain ⟨r4, μ3, hc, h⟩ := zbnd_of h
      refine zx_callVI (r := r4) (μ2 := μ3) G d_M_order_25 zm_M_172 (fun l => t_M_ordersOf  hc) rfl rfl (Nat.le_of_ble_eq_true rfl) (Nat.le_of_ble_eq_true rfl) (zrecv zo_12 (zids_of 12 (Nat.le_of_ble_eq_true rfl) 0 (Nat.le_of_ble_eq_true rfl))) ?_
      refine zx_iconst (v := 1) G d_M_order_28 rfl ?_
      refine zx_isub G d_M_order_29 ?_
      obtain ⟨r6, μ5, hc, h⟩ := zbnd_of h
      refine zx_callSI (r := r6) (μ2 := μ5) G d_M_order_30 zm_M_68 (fun l => t_M_isIn  hc) rfl rfl (Nat.le_of_ble_eq_true rfl) (Nat.le_of_ble_eq_true rfl) ?_
      refine zx_if_ne (tgt := 38) G d_M_order_33 rfl h (fun h => ?_) (fun h => ?_)
      · refine zx_iload_n G d_M_order_38 rfl ?_
        refine zx_if_eq (tgt := 51) G d_M_order_39 rfl h (fun h => ?_) (fun h => ?_)
        · refine zx_aload_n G d_M_order_51 rfl ?_
          refine zx_iload_n G d_M_order_52 rfl ?_
          refine zx_iload_n G d_M_order_53 rfl ?_
          obtain ⟨r8, μ7, hc, h⟩ := zbnd_of h
          refine zx_callVI (r := r8) (μ2 := μ7) G d_M_order_54 zm_M_179 (fun l => t_M_kindOf  hc) rfl rfl (Nat.le_of_ble_eq_true rfl) (Nat.le_of_ble_eq_true rfl) (zrecv zo_12 (zids_of 12 (Nat.le_of_ble_eq_true rfl) 0 (Nat.le_of_ble_eq_true rfl))) ?_
          exact zx_iret G d_M_order_57 rfl h
        · refine zx_aload_n G d_M_order_42 rfl ?_
          refine zx_iload_n G d_M_order_43 rfl ?_
          refine zx_iload_n G d_M_order_44 rfl ?_
          obtain ⟨r10, μ9, hc, h⟩ := zbnd_of h
          refine zx_callVI (r := r10) (μ2 := μ9) G d_M_order_45 zm_M_175 (fun l => t_M_xOf  hc) rfl rfl (Nat.le_of_ble_eq_true rfl) (Nat.le_of_ble_eq_true rfl) (zrecv zo_12 (zids_of 12 (Nat.le_of_ble_eq_true rfl) 0 (Nat.le_of_ble_eq_true rfl))) ?_
          refine zx_goto (tgt := 57) G d_M_order_48 rfl ?_
          exact zx_iret G d_M_order_57 rfl h
      · refine zx_iconst (v := -1) G d_M_order_36 rfl ?_
        exact zx_iret G d_M_order_37 rfl h
    · refine zx_aload_n G d_M_order_15 rfl ?_
      refine zx_iload_n G d_M_order_16 rfl ?_
      obtain ⟨r12, μ11, hc, h⟩ := zbnd_of h
      refine zx_callVI (r := r12) (μ2 := μ11) G d_M_order_17 zm_M_172 (fun l => t_M_ordersOf  hc) rfl rfl (Nat.le_of_ble_eq_true rfl) (Nat.le_of_ble_eq_true rfl) (zrecv zo_12 (zids_of 12 (Nat.le_of_ble_eq_true rfl) 0 (Nat.le_of_ble_eq_true rfl))) ?_
      exact zx_iret G d_M_order_20 rfl h
  · refine zx_iconst (v := -1) G d_M_order_8 rfl ?_
    exact zx_iret G d_M_order_9 rfl h
set_option maxHeartbeats 4000000 in
set_option maxRecDepth 20000 in
theorem t_M_spanOf {g : ZG} {l : Launch} {N : Nat} {μ : ZMem} {p0 : Int32} {p1 : Int32} {p2 : Int32} {rr : Int32 × ZMem} (h : f_M_spanOf N μ p0 p1 p2 = some rr) : zT g l 0 K_M_spanOf [.ref (g.2.1 12 0), .int p0, .int p1, .int p2] μ (some (.int rr.1), rr.2) := by
  refine zT_of (by decide +kernel) (Nat.le_of_ble_eq_true rfl) (fun E G => ?_)
  show zX g K_M_spanOf 0 E (some (.int rr.1), rr.2) μ 0 [some (.ref (g.2.1 12 0)), some (.int p0), some (.int p1), some (.int p2)] []
  unfold f_M_spanOf at h
  refine zx_aload_n G d_M_spanOf_0 rfl ?_
  refine zx_getR G d_M_spanOf_1 zf_M_23 zc_12_4 (zids_of 12 (Nat.le_of_ble_eq_true rfl) 0 (Nat.le_of_ble_eq_true rfl)) ?_
  refine zx_bipush (v := 61) G d_M_spanOf_4 rfl ?_
  refine zx_iload_n G d_M_spanOf_6 rfl ?_
  refine zx_imul G d_M_spanOf_7 ?_
  refine zx_bipush (v := 49) G d_M_spanOf_8 rfl ?_
  refine zx_iadd G d_M_spanOf_10 ?_
  refine zx_iconst (v := 3) G d_M_spanOf_11 rfl ?_
  refine zx_iload_n G d_M_spanOf_12 rfl ?_
  refine zx_imul G d_M_spanOf_13 ?_
  refine zx_iadd G d_M_spanOf_14 ?_
  refine zx_iload_n G d_M_spanOf_15 rfl ?_
  refine zx_iadd G d_M_spanOf_16 ?_
  refine zx_iald G d_M_spanOf_17 za_42 (zi_12_4 (zids_of 12 (Nat.le_of_ble_eq_true rfl) 0 (Nat.le_of_ble_eq_true rfl))) h (fun h => ?_)
  exact zx_iret G d_M_spanOf_18 rfl h
set_option maxHeartbeats 4000000 in
set_option maxRecDepth 20000 in
theorem t_M_isHidden {g : ZG} {l : Launch} {N : Nat} {μ : ZMem} {p0 : Int32} {p1 : Int32} {rr : Int32 × ZMem} (h : f_M_isHidden N μ p0 p1 = some rr) : zT g l 1 K_M_isHidden [.ref (g.2.1 12 0), .int p0, .int p1] μ (some (.int rr.1), rr.2) := by
  refine zT_of (by decide +kernel) (Nat.le_of_ble_eq_true rfl) (fun E G => ?_)
  show zX g K_M_isHidden 1 E (some (.int rr.1), rr.2) μ 0 [some (.ref (g.2.1 12 0)), some (.int p0), some (.int p1)] []
  unfold f_M_isHidden at h
  refine zx_aload_n G d_M_isHidden_0 rfl ?_
  refine zx_iload_n G d_M_isHidden_1 rfl ?_
  refine zx_iload_n G d_M_isHidden_2 rfl ?_
  refine zx_iconst (v := 0) G d_M_isHidden_3 rfl ?_
  obtain ⟨r2, μ1, hc, h⟩ := zbnd_of h
  refine zx_callVI (r := r2) (μ2 := μ1) G d_M_isHidden_4 zm_M_72 (fun l => t_M_spanOf  hc) rfl rfl (Nat.le_of_ble_eq_true rfl) (Nat.le_of_ble_eq_true rfl) (zrecv zo_12 (zids_of 12 (Nat.le_of_ble_eq_true rfl) 0 (Nat.le_of_ble_eq_true rfl))) ?_
  refine zx_iconst (v := 1) G d_M_isHidden_7 rfl ?_
  refine zx_icmp_ne (tgt := 15) G d_M_isHidden_8 rfl h (fun h => ?_) (fun h => ?_)
  · refine zx_iconst (v := 0) G d_M_isHidden_15 rfl ?_
    exact zx_zretK G d_M_isHidden_16 rfl (by decide) h
  · refine zx_iconst (v := 1) G d_M_isHidden_11 rfl ?_
    refine zx_goto (tgt := 16) G d_M_isHidden_12 rfl ?_
    exact zx_zretK G d_M_isHidden_16 rfl (by decide) h
set_option maxHeartbeats 4000000 in
set_option maxRecDepth 20000 in
theorem t_M_span {g : ZG} {l : Launch} {N : Nat} {μ : ZMem} {p0 : Int32} {p1 : Int32} {p2 : Int32} {rr : Int32 × ZMem} (h : f_M_span N μ p0 p1 p2 = some rr) : zT g l 2 K_M_span [.ref (g.2.1 12 0), .int p0, .int p1, .int p2] μ (some (.int rr.1), rr.2) := by
  refine zT_of (by decide +kernel) (Nat.le_of_ble_eq_true rfl) (fun E G => ?_)
  show zX g K_M_span 2 E (some (.int rr.1), rr.2) μ 0 [some (.ref (g.2.1 12 0)), some (.int p0), some (.int p1), some (.int p2)] []
  unfold f_M_span at h
  refine zx_aload_n G d_M_span_0 rfl ?_
  refine zx_iload_n G d_M_span_1 rfl ?_
  obtain ⟨r2, μ1, hc, h⟩ := zbnd_of h
  refine zx_callVI (r := r2) (μ2 := μ1) G d_M_span_2 zm_M_169 (fun l => t_M_isTable  hc) rfl rfl (Nat.le_of_ble_eq_true rfl) (Nat.le_of_ble_eq_true rfl) (zrecv zo_12 (zids_of 12 (Nat.le_of_ble_eq_true rfl) 0 (Nat.le_of_ble_eq_true rfl))) ?_
  refine zx_if_eq (tgt := 26) G d_M_span_5 rfl h (fun h => ?_) (fun h => ?_)
  · refine zx_iconst (v := -1) G d_M_span_26 rfl ?_
    exact zx_iret G d_M_span_27 rfl h
  · refine zx_iload_n G d_M_span_8 rfl ?_
    refine zx_iconst (v := 0) G d_M_span_9 rfl ?_
    refine zx_iconst (v := 3) G d_M_span_10 rfl ?_
    obtain ⟨r4, μ3, hc, h⟩ := zbnd_of h
    refine zx_callSI (r := r4) (μ2 := μ3) G d_M_span_11 zm_M_68 (fun l => t_M_isIn  hc) rfl rfl (Nat.le_of_ble_eq_true rfl) (Nat.le_of_ble_eq_true rfl) ?_
    refine zx_if_eq (tgt := 26) G d_M_span_14 rfl h (fun h => ?_) (fun h => ?_)
    · refine zx_iconst (v := -1) G d_M_span_26 rfl ?_
      exact zx_iret G d_M_span_27 rfl h
    · refine zx_aload_n G d_M_span_17 rfl ?_
      refine zx_iload_n G d_M_span_18 rfl ?_
      refine zx_iload_n G d_M_span_19 rfl ?_
      obtain ⟨r6, μ5, hc, h⟩ := zbnd_of h
      refine zx_callVI (r := r6) (μ2 := μ5) G d_M_span_20 zm_M_182 (fun l => t_M_isHidden  hc) rfl rfl (Nat.le_of_ble_eq_true rfl) (Nat.le_of_ble_eq_true rfl) (zrecv zo_12 (zids_of 12 (Nat.le_of_ble_eq_true rfl) 0 (Nat.le_of_ble_eq_true rfl))) ?_
      refine zx_if_ne (tgt := 28) G d_M_span_23 rfl h (fun h => ?_) (fun h => ?_)
      · refine zx_aload_n G d_M_span_28 rfl ?_
        refine zx_iload_n G d_M_span_29 rfl ?_
        refine zx_iload_n G d_M_span_30 rfl ?_
        refine zx_iload_n G d_M_span_31 rfl ?_
        refine zx_join (P := fun k => ∀ (y7 : Int32) (μ8 : ZMem), k y7 μ8 = some rr → zX g K_M_span 2 E (some (.int rr.1), rr.2) μ8 40 [none, none, none, none] [.int y7, .int p1, .int p0, .ref (g.2.1 12 0)]) h (fun y7 μ8 h => ?_) (fun k9 hk9 h => ?_)
        · try dsimp only at h
          obtain ⟨r11, μ10, hc, h⟩ := zbnd_of h
          refine zx_callVI (r := r11) (μ2 := μ10) G d_M_span_40 zm_M_72 (fun l => t_M_spanOf  hc) rfl rfl (Nat.le_of_ble_eq_true rfl) (Nat.le_of_ble_eq_true rfl) (zrecv zo_12 (zids_of 12 (Nat.le_of_ble_eq_true rfl) 0 (Nat.le_of_ble_eq_true rfl))) ?_
          exact zx_iret G d_M_span_43 rfl h
        try dsimp only at h
        refine zx_if_eq (tgt := 39) G d_M_span_32 rfl h (fun h => ?_) (fun h => ?_)
        · refine zx_iconst (v := 1) G d_M_span_39 rfl ?_
          refine zx_weak [false, false, false, false] (lv2 := [none, none, none, none]) rfl ?_
          exact hk9 (1 : Int32) μ5 h
        · refine zx_iconst (v := 2) G d_M_span_35 rfl ?_
          refine zx_goto (tgt := 40) G d_M_span_36 rfl ?_
          refine zx_weak [false, false, false, false] (lv2 := [none, none, none, none]) rfl ?_
          exact hk9 (2 : Int32) μ5 h
      · refine zx_iconst (v := -1) G d_M_span_26 rfl ?_
        exact zx_iret G d_M_span_27 rfl h
set_option maxHeartbeats 4000000 in
set_option maxRecDepth 20000 in
theorem tf_M_thinkNow_l2_0 {g : ZG} {E : ZE} {N : Nat} {rr : Unit × ZMem} (G : zGa g K_M_thinkNow 0 E) (hl0 : (12, 0) ∈ zids) : ∀ (n2 : Nat) (z2 : Int32) (μ3 : ZMem), f_M_thinkNow_l2 N n2 z2 μ3 = some rr → zX g K_M_thinkNow 0 E (none, rr.2) μ3 2 [some (.ref (g.2.1 12 0)), some (.int z2)] [] := by
  intro n2
  induction n2 with
  | zero => intro z2 μ3 h; cases h
  | succ n2 ih2 =>
    intro z2 μ3 h
    simp only [f_M_thinkNow_l2] at h
    refine zx_iload_n G d_M_thinkNow_2 rfl ?_
    refine zx_iconst (v := 4) G d_M_thinkNow_3 rfl ?_
    refine zx_icmp_ge (tgt := 28) G d_M_thinkNow_4 rfl h (fun h => ?_) (fun h => ?_)
    · exact zx_vret G d_M_thinkNow_28 rfl h
    · refine zx_aload_n G d_M_thinkNow_7 rfl ?_
      refine zx_getR G d_M_thinkNow_8 zf_M_36 zc_12_17 hl0 ?_
      refine zx_iload_n G d_M_thinkNow_11 rfl ?_
      refine zx_aload_n G d_M_thinkNow_12 rfl ?_
      refine zx_getR G d_M_thinkNow_13 zf_M_7 zc_12_0 hl0 ?_
      refine zx_bipush (v := 8) G d_M_thinkNow_16 rfl ?_
      refine zx_iload_n G d_M_thinkNow_18 rfl ?_
      refine zx_iadd G d_M_thinkNow_19 ?_
      refine zx_iald G d_M_thinkNow_20 za_40 (zi_12_0 hl0) h (fun h => ?_)
      refine zx_iast G d_M_thinkNow_21 za_44 (zi_12_17 hl0) h (fun μ4 h => ?_)
      refine zx_iinc (v := 1) (lf := fun y => [_, some (.int y)]) G d_M_thinkNow_22 (Nat.le_of_ble_eq_true rfl) rfl rfl (fun _ => rfl) h (fun x5 h => ?_)
      refine zx_goto (tgt := 2) G d_M_thinkNow_25 rfl ?_
      exact ih2 x5 μ4 h
set_option maxHeartbeats 4000000 in
set_option maxRecDepth 20000 in
theorem tf_M_thinkNow_l2 {g : ZG} {E : ZE} {N n2 : Nat} {rr : Unit × ZMem} {z2 : Int32} {μ3 : ZMem} (G : zGa g K_M_thinkNow 0 E) (hl0 : (12, 0) ∈ zids) (h : f_M_thinkNow_l2 N n2 z2 μ3 = some rr) : zX g K_M_thinkNow 0 E (none, rr.2) μ3 2 [some (.ref (g.2.1 12 0)), some (.int z2)] [] := tf_M_thinkNow_l2_0 G hl0 n2 z2 μ3 h
set_option maxHeartbeats 4000000 in
set_option maxRecDepth 20000 in
theorem t_M_thinkNow {g : ZG} {l : Launch} {N : Nat} {μ : ZMem} {rr : Unit × ZMem} (h : f_M_thinkNow N μ = some rr) : zT g l 0 K_M_thinkNow [.ref (g.2.1 12 0)] μ (none, rr.2) := by
  refine zT_of (by decide +kernel) (Nat.le_of_ble_eq_true rfl) (fun E G => ?_)
  show zX g K_M_thinkNow 0 E (none, rr.2) μ 0 [some (.ref (g.2.1 12 0)), none] []
  unfold f_M_thinkNow at h
  refine zx_iconst (v := 0) G d_M_thinkNow_0 rfl ?_
  refine zx_istore_n (lf := fun y => [_, some (.int y)]) G d_M_thinkNow_1 (Nat.le_of_ble_eq_true rfl) (fun _ => rfl) h (fun x1 h => ?_)
  refine tf_M_thinkNow_l2 G (zids_of 12 (Nat.le_of_ble_eq_true rfl) 0 (Nat.le_of_ble_eq_true rfl)) h
set_option maxHeartbeats 4000000 in
set_option maxRecDepth 20000 in
theorem t_M_begin {g : ZG} {l : Launch} {N : Nat} {μ : ZMem} {p0 : Int32} {rr : Unit × ZMem} (h : f_M_begin N μ p0 = some rr) : zT g l 2 K_M_begin [.ref (g.2.1 12 0), .int p0] μ (none, rr.2) := by
  refine zT_of (by decide +kernel) (Nat.le_of_ble_eq_true rfl) (fun E G => ?_)
  show zX g K_M_begin 2 E (none, rr.2) μ 0 [some (.ref (g.2.1 12 0)), some (.int p0)] []
  unfold f_M_begin at h
  refine zx_aload_n G d_M_begin_0 rfl ?_
  refine zx_aload_n G d_M_begin_1 rfl ?_
  refine zx_iload_n G d_M_begin_2 rfl ?_
  refine zx_iconst (v := 0) G d_M_begin_3 rfl ?_
  obtain ⟨r2, μ1, hc, h⟩ := zbnd_of h
  refine zx_callVI (r := r2) (μ2 := μ1) G d_M_begin_4 zm_M_182 (fun l => t_M_isHidden  hc) rfl rfl (Nat.le_of_ble_eq_true rfl) (Nat.le_of_ble_eq_true rfl) (zrecv zo_12 (zids_of 12 (Nat.le_of_ble_eq_true rfl) 0 (Nat.le_of_ble_eq_true rfl))) ?_
  refine zx_join (P := fun k => ∀ (y3 : Int64) (μ4 : ZMem), k y3 μ4 = some rr → zX g K_M_begin 2 E (none, rr.2) μ4 21 [some (.ref (g.2.1 12 0)), none] [.long y3, .ref (g.2.1 12 0)]) h (fun y3 μ4 h => ?_) (fun k5 hk5 h => ?_)
  · try dsimp only at h
    refine zx_putJ G d_M_begin_21 zq_M_196 zp_12_15 (zids_of 12 (Nat.le_of_ble_eq_true rfl) 0 (Nat.le_of_ble_eq_true rfl)) h (fun μ6 h => ?_)
    refine zx_aload_n G d_M_begin_24 rfl ?_
    refine zx_lconst (v := 1) G d_M_begin_25 rfl ?_
    refine zx_putJ G d_M_begin_26 zq_M_199 zp_12_16 (zids_of 12 (Nat.le_of_ble_eq_true rfl) 0 (Nat.le_of_ble_eq_true rfl)) h (fun μ7 h => ?_)
    exact zx_vret G d_M_begin_29 rfl h
  try dsimp only at h
  refine zx_if_eq (tgt := 20) G d_M_begin_7 rfl h (fun h => ?_) (fun h => ?_)
  · refine zx_lconst (v := 0) G d_M_begin_20 rfl ?_
    refine zx_weak [true, false] (lv2 := [_, none]) rfl ?_
    exact hk5 (0 : Int64) μ1 h
  · refine zx_aload_n G d_M_begin_10 rfl ?_
    refine zx_getR G d_M_begin_11 zf_M_36 zc_12_17 (zids_of 12 (Nat.le_of_ble_eq_true rfl) 0 (Nat.le_of_ble_eq_true rfl)) ?_
    refine zx_iconst (v := 0) G d_M_begin_14 rfl ?_
    refine zx_iald G d_M_begin_15 za_44 (zi_12_17 (zids_of 12 (Nat.le_of_ble_eq_true rfl) 0 (Nat.le_of_ble_eq_true rfl))) h (fun h => ?_)
    refine zx_i2l G d_M_begin_16 ?_
    refine zx_goto (tgt := 21) G d_M_begin_17 rfl ?_
    refine zx_weak [true, false] (lv2 := [_, none]) rfl ?_
    exact hk5 ((μ1.1 44 0 (0 : Int32).toNatClampNeg).toInt64) μ1 h
set_option maxHeartbeats 4000000 in
set_option maxRecDepth 20000 in
theorem tf_M_common_l17_0 {g : ZG} {E : ZE} {N : Nat} {rr : Int64 × ZMem} (G : zGa g K_M_common 0 E) : ∀ (n17 : Nat) (z6 : Int64) (z7 : Int64) (μ8 : ZMem), f_M_common_l17 N n17 z6 z7 μ8 = some rr → zX g K_M_common 0 E (some (.long rr.1), rr.2) μ8 17 [none, none, none, none, some (.long z6), none, some (.long z7), none, none, none] [] := by
  intro n17
  induction n17 with
  | zero => intro z6 z7 μ8 h; cases h
  | succ n17 ih17 =>
    intro z6 z7 μ8 h
    simp only [f_M_common_l17] at h
    refine zx_lload G d_M_common_17 rfl ?_
    refine zx_lconst (v := 0) G d_M_common_19 rfl ?_
    refine zx_lcmp G d_M_common_20 ?_
    refine zx_if_eq (tgt := 42) G d_M_common_21 rfl h (fun h => ?_) (fun h => ?_)
    · refine zx_lload G d_M_common_42 rfl ?_
      exact zx_lret G d_M_common_44 rfl h
    · refine zx_lload G d_M_common_24 rfl ?_
      refine zx_lload G d_M_common_26 rfl ?_
      refine zx_lrem G d_M_common_28 h (fun h => ?_)
      refine zx_lstore (lf := fun y => [none, none, none, none, _, none, _, none, some (.long y), none]) G d_M_common_29 (Nat.le_of_ble_eq_true rfl) (fun _ => rfl) h (fun x9 h => ?_)
      refine zx_lload G d_M_common_31 rfl ?_
      refine zx_lstore (lf := fun y => [none, none, none, none, some (.long y), none, _, none, _, none]) G d_M_common_33 (Nat.le_of_ble_eq_true rfl) (fun _ => rfl) h (fun x10 h => ?_)
      refine zx_lload G d_M_common_35 rfl ?_
      refine zx_lstore (lf := fun y => [none, none, none, none, _, none, some (.long y), none, _, none]) G d_M_common_37 (Nat.le_of_ble_eq_true rfl) (fun _ => rfl) h (fun x11 h => ?_)
      refine zx_goto (tgt := 17) G d_M_common_39 rfl ?_
      refine zx_weak [false, false, false, false, true, false, true, false, false, false] (lv2 := [none, none, none, none, _, none, _, none, none, none]) rfl ?_
      exact ih17 x10 x11 μ8 h
set_option maxHeartbeats 4000000 in
set_option maxRecDepth 20000 in
theorem tf_M_common_l17 {g : ZG} {E : ZE} {N n17 : Nat} {rr : Int64 × ZMem} {z6 : Int64} {z7 : Int64} {μ8 : ZMem} (G : zGa g K_M_common 0 E) (h : f_M_common_l17 N n17 z6 z7 μ8 = some rr) : zX g K_M_common 0 E (some (.long rr.1), rr.2) μ8 17 [none, none, none, none, some (.long z6), none, some (.long z7), none, none, none] [] := tf_M_common_l17_0 G n17 z6 z7 μ8 h
set_option maxHeartbeats 4000000 in
set_option maxRecDepth 20000 in
theorem t_M_common {g : ZG} {l : Launch} {N : Nat} {μ : ZMem} {p0 : Int64} {p1 : Int64} {rr : Int64 × ZMem} (h : f_M_common N μ p0 p1 = some rr) : zT g l 0 K_M_common [.long p0, .long p1] μ (some (.long rr.1), rr.2) := by
  refine zT_of (by decide +kernel) (Nat.le_of_ble_eq_true rfl) (fun E G => ?_)
  show zX g K_M_common 0 E (some (.long rr.1), rr.2) μ 0 [some (.long p0), none, some (.long p1), none, none, none, none, none, none, none] []
  unfold f_M_common at h
  refine zx_lload_n G d_M_common_0 rfl ?_
  refine zx_lconst (v := 0) G d_M_common_1 rfl ?_
  refine zx_lcmp G d_M_common_2 ?_
  refine zx_join (P := fun k => ∀ (y1 : Int64) (μ2 : ZMem), k y1 μ2 = some rr → zX g K_M_common 0 E (some (.long rr.1), rr.2) μ2 12 [none, none, some (.long p1), none, none, none, none, none, none, none] [.long y1]) h (fun y1 μ2 h => ?_) (fun k3 hk3 h => ?_)
  · try dsimp only at h
    refine zx_lstore (lf := fun y => [none, none, _, none, some (.long y), none, none, none, none, none]) G d_M_common_12 (Nat.le_of_ble_eq_true rfl) (fun _ => rfl) h (fun x4 h => ?_)
    refine zx_lload_n G d_M_common_14 rfl ?_
    refine zx_lstore (lf := fun y => [none, none, _, none, _, none, some (.long y), none, none, none]) G d_M_common_15 (Nat.le_of_ble_eq_true rfl) (fun _ => rfl) h (fun x5 h => ?_)
    refine zx_weak [false, false, false, false, true, false, true, false, false, false] (lv2 := [none, none, none, none, _, none, _, none, none, none]) rfl ?_
    refine tf_M_common_l17 G h
  try dsimp only at h
  refine zx_if_ge (tgt := 11) G d_M_common_3 rfl h (fun h => ?_) (fun h => ?_)
  · refine zx_lload_n G d_M_common_11 rfl ?_
    refine zx_weak [false, false, true, false, false, false, false, false, false, false] (lv2 := [none, none, _, none, none, none, none, none, none, none]) rfl ?_
    exact hk3 p0 μ h
  · refine zx_lload_n G d_M_common_6 rfl ?_
    refine zx_lneg G d_M_common_7 ?_
    refine zx_goto (tgt := 12) G d_M_common_8 rfl ?_
    refine zx_weak [false, false, true, false, false, false, false, false, false, false] (lv2 := [none, none, _, none, none, none, none, none, none, none]) rfl ?_
    exact hk3 (-p0) μ h
set_option maxHeartbeats 4000000 in
set_option maxRecDepth 20000 in
theorem t_M_lay {g : ZG} {l : Launch} {N : Nat} {μ : ZMem} {p0 : Int64} {p1 : Int64} {rr : Int32 × ZMem} (h : f_M_lay N μ p0 p1 = some rr) : zT g l 1 K_M_lay [.ref (g.2.1 12 0), .long p0, .long p1] μ (some (.int rr.1), rr.2) := by
  refine zT_of (by decide +kernel) (Nat.le_of_ble_eq_true rfl) (fun E G => ?_)
  show zX g K_M_lay 1 E (some (.int rr.1), rr.2) μ 0 [some (.ref (g.2.1 12 0)), some (.long p0), none, some (.long p1), none, none, none] []
  unfold f_M_lay at h
  refine zx_lload_n G d_M_lay_0 rfl ?_
  refine zx_lload_n G d_M_lay_1 rfl ?_
  obtain ⟨r2, μ1, hc, h⟩ := zbnd_of h
  refine zx_callSJ (r := r2) (μ2 := μ1) G d_M_lay_2 zm_M_186 (fun l => t_M_common  hc) rfl rfl (Nat.le_of_ble_eq_true rfl) (Nat.le_of_ble_eq_true rfl) ?_
  refine zx_lstore (lf := fun y => [_, _, none, _, none, some (.long y), none]) G d_M_lay_5 (Nat.le_of_ble_eq_true rfl) (fun _ => rfl) h (fun x3 h => ?_)
  refine zx_lload_n G d_M_lay_7 rfl ?_
  refine zx_lload G d_M_lay_8 rfl ?_
  refine zx_ldiv G d_M_lay_10 h (fun h => ?_)
  refine zx_ldc2 (v := 1000000000000) G d_M_lay_11 zk_M_190 ?_
  refine zx_lcmp G d_M_lay_14 ?_
  refine zx_if_gt (tgt := 40) G d_M_lay_15 rfl h (fun h => ?_) (fun h => ?_)
  · refine zx_iconst (v := 0) G d_M_lay_40 rfl ?_
    exact zx_zretK G d_M_lay_41 rfl (by decide) h
  · refine zx_lload_n G d_M_lay_18 rfl ?_
    refine zx_lload G d_M_lay_19 rfl ?_
    refine zx_ldiv G d_M_lay_21 h (fun h => ?_)
    refine zx_ldc2 (v := -1000000000000) G d_M_lay_22 zk_M_192 ?_
    refine zx_lcmp G d_M_lay_25 ?_
    refine zx_if_lt (tgt := 40) G d_M_lay_26 rfl h (fun h => ?_) (fun h => ?_)
    · refine zx_iconst (v := 0) G d_M_lay_40 rfl ?_
      exact zx_zretK G d_M_lay_41 rfl (by decide) h
    · refine zx_lload_n G d_M_lay_29 rfl ?_
      refine zx_lload G d_M_lay_30 rfl ?_
      refine zx_ldiv G d_M_lay_32 h (fun h => ?_)
      refine zx_ldc2 (v := 1000000) G d_M_lay_33 zk_M_194 ?_
      refine zx_lcmp G d_M_lay_36 ?_
      refine zx_if_le (tgt := 42) G d_M_lay_37 rfl h (fun h => ?_) (fun h => ?_)
      · refine zx_aload_n G d_M_lay_42 rfl ?_
        refine zx_lload_n G d_M_lay_43 rfl ?_
        refine zx_lload G d_M_lay_44 rfl ?_
        refine zx_ldiv G d_M_lay_46 h (fun h => ?_)
        refine zx_putJ G d_M_lay_47 zq_M_196 zp_12_15 (zids_of 12 (Nat.le_of_ble_eq_true rfl) 0 (Nat.le_of_ble_eq_true rfl)) h (fun μ4 h => ?_)
        refine zx_aload_n G d_M_lay_50 rfl ?_
        refine zx_lload_n G d_M_lay_51 rfl ?_
        refine zx_lload G d_M_lay_52 rfl ?_
        refine zx_ldiv G d_M_lay_54 h (fun h => ?_)
        refine zx_putJ G d_M_lay_55 zq_M_199 zp_12_16 (zids_of 12 (Nat.le_of_ble_eq_true rfl) 0 (Nat.le_of_ble_eq_true rfl)) h (fun μ5 h => ?_)
        refine zx_iconst (v := 1) G d_M_lay_58 rfl ?_
        exact zx_zretK G d_M_lay_59 rfl (by decide) h
      · refine zx_iconst (v := 0) G d_M_lay_40 rfl ?_
        exact zx_zretK G d_M_lay_41 rfl (by decide) h
set_option maxHeartbeats 4000000 in
set_option maxRecDepth 20000 in
theorem tf_M_figuresOf_l8_0 {g : ZG} {E : ZE} {N : Nat} {rr : Int32 × ZMem} (G : zGa g K_M_figuresOf 0 E) : ∀ (n8 : Nat) (z3 : Int32) (z4 : Int64) (μ5 : ZMem), f_M_figuresOf_l8 N n8 z3 z4 μ5 = some rr → zX g K_M_figuresOf 0 E (some (.int rr.1), rr.2) μ5 8 [none, none, some (.int z3), some (.long z4), none] [] := by
  intro n8
  induction n8 with
  | zero => intro z3 z4 μ5 h; cases h
  | succ n8 ih8 =>
    intro z3 z4 μ5 h
    simp only [f_M_figuresOf_l8] at h
    refine zx_lload_n G d_M_figuresOf_8 rfl ?_
    refine zx_lconst (v := 0) G d_M_figuresOf_9 rfl ?_
    refine zx_lcmp G d_M_figuresOf_10 ?_
    refine zx_if_le (tgt := 26) G d_M_figuresOf_11 rfl h (fun h => ?_) (fun h => ?_)
    · refine zx_iload_n G d_M_figuresOf_26 rfl ?_
      exact zx_iret G d_M_figuresOf_27 rfl h
    · refine zx_iinc (v := 1) (lf := fun y => [none, none, some (.int y), _, none]) G d_M_figuresOf_14 (Nat.le_of_ble_eq_true rfl) rfl rfl (fun _ => rfl) h (fun x6 h => ?_)
      refine zx_lload_n G d_M_figuresOf_17 rfl ?_
      refine zx_ldc2 (v := 10) G d_M_figuresOf_18 zk_M_202 ?_
      refine zx_ldiv G d_M_figuresOf_21 h (fun h => ?_)
      refine zx_lstore_n (lf := fun y => [none, none, _, some (.long y), none]) G d_M_figuresOf_22 (Nat.le_of_ble_eq_true rfl) (fun _ => rfl) h (fun x7 h => ?_)
      refine zx_goto (tgt := 8) G d_M_figuresOf_23 rfl ?_
      exact ih8 x6 x7 μ5 h
set_option maxHeartbeats 4000000 in
set_option maxRecDepth 20000 in
theorem tf_M_figuresOf_l8 {g : ZG} {E : ZE} {N n8 : Nat} {rr : Int32 × ZMem} {z3 : Int32} {z4 : Int64} {μ5 : ZMem} (G : zGa g K_M_figuresOf 0 E) (h : f_M_figuresOf_l8 N n8 z3 z4 μ5 = some rr) : zX g K_M_figuresOf 0 E (some (.int rr.1), rr.2) μ5 8 [none, none, some (.int z3), some (.long z4), none] [] := tf_M_figuresOf_l8_0 G n8 z3 z4 μ5 h
set_option maxHeartbeats 4000000 in
set_option maxRecDepth 20000 in
theorem t_M_figuresOf {g : ZG} {l : Launch} {N : Nat} {μ : ZMem} {p0 : Int64} {rr : Int32 × ZMem} (h : f_M_figuresOf N μ p0 = some rr) : zT g l 0 K_M_figuresOf [.long p0] μ (some (.int rr.1), rr.2) := by
  refine zT_of (by decide +kernel) (Nat.le_of_ble_eq_true rfl) (fun E G => ?_)
  show zX g K_M_figuresOf 0 E (some (.int rr.1), rr.2) μ 0 [some (.long p0), none, none, none, none] []
  unfold f_M_figuresOf at h
  refine zx_iconst (v := 1) G d_M_figuresOf_0 rfl ?_
  refine zx_istore_n (lf := fun y => [_, none, some (.int y), none, none]) G d_M_figuresOf_1 (Nat.le_of_ble_eq_true rfl) (fun _ => rfl) h (fun x1 h => ?_)
  refine zx_lload_n G d_M_figuresOf_2 rfl ?_
  refine zx_ldc2 (v := 10) G d_M_figuresOf_3 zk_M_202 ?_
  refine zx_ldiv G d_M_figuresOf_6 h (fun h => ?_)
  refine zx_lstore_n (lf := fun y => [_, none, _, some (.long y), none]) G d_M_figuresOf_7 (Nat.le_of_ble_eq_true rfl) (fun _ => rfl) h (fun x2 h => ?_)
  refine zx_weak [false, false, true, true, false] (lv2 := [none, none, _, _, none]) rfl ?_
  refine tf_M_figuresOf_l8 G h
set_option maxHeartbeats 4000000 in
set_option maxRecDepth 20000 in
theorem tf_M_tenTo_l4_0 {g : ZG} {E : ZE} {N : Nat} {rr : Int64 × ZMem} {p0 : Int32} (G : zGa g K_M_tenTo 0 E) : ∀ (n4 : Nat) (z3 : Int64) (z4 : Int32) (μ5 : ZMem), f_M_tenTo_l4 N p0 n4 z3 z4 μ5 = some rr → zX g K_M_tenTo 0 E (some (.long rr.1), rr.2) μ5 4 [some (.int p0), some (.long z3), none, some (.int z4)] [] := by
  intro n4
  induction n4 with
  | zero => intro z3 z4 μ5 h; cases h
  | succ n4 ih4 =>
    intro z3 z4 μ5 h
    simp only [f_M_tenTo_l4] at h
    refine zx_iload_n G d_M_tenTo_4 rfl ?_
    refine zx_iload_n G d_M_tenTo_5 rfl ?_
    refine zx_icmp_ge (tgt := 21) G d_M_tenTo_6 rfl h (fun h => ?_) (fun h => ?_)
    · refine zx_lload_n G d_M_tenTo_21 rfl ?_
      exact zx_lret G d_M_tenTo_22 rfl h
    · refine zx_lload_n G d_M_tenTo_9 rfl ?_
      refine zx_ldc2 (v := 10) G d_M_tenTo_10 zk_M_202 ?_
      refine zx_lmul G d_M_tenTo_13 ?_
      refine zx_lstore_n (lf := fun y => [_, some (.long y), none, _]) G d_M_tenTo_14 (Nat.le_of_ble_eq_true rfl) (fun _ => rfl) h (fun x6 h => ?_)
      refine zx_iinc (v := 1) (lf := fun y => [_, _, none, some (.int y)]) G d_M_tenTo_15 (Nat.le_of_ble_eq_true rfl) rfl rfl (fun _ => rfl) h (fun x7 h => ?_)
      refine zx_goto (tgt := 4) G d_M_tenTo_18 rfl ?_
      exact ih4 x6 x7 μ5 h
set_option maxHeartbeats 4000000 in
set_option maxRecDepth 20000 in
theorem tf_M_tenTo_l4 {g : ZG} {E : ZE} {N n4 : Nat} {rr : Int64 × ZMem} {p0 : Int32} {z3 : Int64} {z4 : Int32} {μ5 : ZMem} (G : zGa g K_M_tenTo 0 E) (h : f_M_tenTo_l4 N p0 n4 z3 z4 μ5 = some rr) : zX g K_M_tenTo 0 E (some (.long rr.1), rr.2) μ5 4 [some (.int p0), some (.long z3), none, some (.int z4)] [] := tf_M_tenTo_l4_0 G n4 z3 z4 μ5 h
set_option maxHeartbeats 4000000 in
set_option maxRecDepth 20000 in
theorem t_M_tenTo {g : ZG} {l : Launch} {N : Nat} {μ : ZMem} {p0 : Int32} {rr : Int64 × ZMem} (h : f_M_tenTo N μ p0 = some rr) : zT g l 0 K_M_tenTo [.int p0] μ (some (.long rr.1), rr.2) := by
  refine zT_of (by decide +kernel) (Nat.le_of_ble_eq_true rfl) (fun E G => ?_)
  show zX g K_M_tenTo 0 E (some (.long rr.1), rr.2) μ 0 [some (.int p0), none, none, none] []
  unfold f_M_tenTo at h
  refine zx_lconst (v := 1) G d_M_tenTo_0 rfl ?_
  refine zx_lstore_n (lf := fun y => [_, some (.long y), none, none]) G d_M_tenTo_1 (Nat.le_of_ble_eq_true rfl) (fun _ => rfl) h (fun x1 h => ?_)
  refine zx_iconst (v := 0) G d_M_tenTo_2 rfl ?_
  refine zx_istore_n (lf := fun y => [_, _, none, some (.int y)]) G d_M_tenTo_3 (Nat.le_of_ble_eq_true rfl) (fun _ => rfl) h (fun x2 h => ?_)
  refine tf_M_tenTo_l4 G h
