/-! the law's loop (by program: wip/whole/gen_law2.py) -/
section ZLD
variable {g : ZG} {A : Nat → Prop} {Q : ZE → State → Prop} {E : ZE} {b L : Nat} {xs : Nat → Int32}
theorem zvi {j k L : Nat} {v : Int32} (hv : v = iI k) (h : j + k < L) (hL : L ≤ 3072) : vp_in (iI j + v) L := by
  subst hv
  rw [iI_add]
  exact vp_in_iff.mpr (by rw [iI_toInt (by omega) (by omega)]; omega)
theorem zvi0 {j L : Nat} (h : j < L) (hL : L ≤ 3072) : vp_in (iI j) L := vp_in_iff.mpr (by rw [iI_toInt (by omega) (by omega)]; omega)
theorem zl_switch {μ : ZMem} {x i : Int32} {n : Nat} (G : zLG g A E) (hX : zSX b L xs E) (hI : Inv μ) (hn : n < 32) (hx : x = nI n) (h1 : vp_in (i + 1) L) (h2 : vp_in (i + 2) L) (h3 : vp_in (i + 3) L) (h4 : vp_in (i + 4) L) (h5 : vp_in (i + 5) L) (kk : ∀ μ2, Inv μ2 → zL g A Q E μ2 1262 [some (.ref b), some (.ref (g.2.1 0 0)), some (.ref (g.2.1 12 0)), some (.int i)] []) : zL g A Q E μ 33 [some (.ref b), some (.ref (g.2.1 0 0)), some (.ref (g.2.1 12 0)), some (.int i)] [.int x] := by
  have hh : n = 0 ∨ n = 1 ∨ n = 2 ∨ n = 3 ∨ n = 4 ∨ n = 5 ∨ n = 6 ∨ n = 7 ∨ n = 8 ∨ n = 9 ∨ n = 10 ∨ n = 11 ∨ n = 12 ∨ n = 13 ∨ n = 14 ∨ n = 15 ∨ n = 16 ∨ n = 17 ∨ n = 18 ∨ n = 19 ∨ n = 20 ∨ n = 21 ∨ n = 22 ∨ n = 23 ∨ n = 24 ∨ n = 25 ∨ n = 26 ∨ n = 27 ∨ n = 28 ∨ n = 29 ∨ n = 30 ∨ n = 31 := by omega
  rcases hh with rfl | rfl | rfl | rfl | rfl | rfl | rfl | rfl | rfl | rfl | rfl | rfl | rfl | rfl | rfl | rfl | rfl | rfl | rfl | rfl | rfl | rfl | rfl | rfl | rfl | rfl | rfl | rfl | rfl | rfl | rfl | rfl
  · exact zl_sw (c := nI 0) (off := 143) (tgt := 176) G dl_33 hx (by decide) (by decide) (by decide +kernel) rfl (zcase_0 G hX hI h1 h2 h3 h4 h5 kk)
  · exact zl_sw (c := nI 1) (off := 196) (tgt := 229) G dl_33 hx (by decide) (by decide) (by decide +kernel) rfl (zcase_1 G hX hI h1 h2 h3 h4 h5 kk)
  · exact zl_sw (c := nI 2) (off := 259) (tgt := 292) G dl_33 hx (by decide) (by decide) (by decide +kernel) rfl (zcase_2 G hX hI h1 h2 h3 h4 h5 kk)
  · exact zl_sw (c := nI 3) (off := 282) (tgt := 315) G dl_33 hx (by decide) (by decide) (by decide +kernel) rfl (zcase_3 G hX hI h1 h2 h3 h4 h5 kk)
  · exact zl_sw (c := nI 4) (off := 295) (tgt := 328) G dl_33 hx (by decide) (by decide) (by decide +kernel) rfl (zcase_4 G hX hI h1 h2 h3 h4 h5 kk)
  · exact zl_sw (c := nI 5) (off := 318) (tgt := 351) G dl_33 hx (by decide) (by decide) (by decide +kernel) rfl (zcase_5 G hX hI h1 h2 h3 h4 h5 kk)
  · exact zl_sw (c := nI 6) (off := 377) (tgt := 410) G dl_33 hx (by decide) (by decide) (by decide +kernel) rfl (zcase_6 G hX hI h1 h2 h3 h4 h5 kk)
  · exact zl_sw (c := nI 7) (off := 436) (tgt := 469) G dl_33 hx (by decide) (by decide) (by decide +kernel) rfl (zcase_7 G hX hI h1 h2 h3 h4 h5 kk)
  · exact zl_sw (c := nI 8) (off := 496) (tgt := 529) G dl_33 hx (by decide) (by decide) (by decide +kernel) rfl (zcase_8 G hX hI h1 h2 h3 h4 h5 kk)
  · exact zl_sw (c := nI 9) (off := 519) (tgt := 552) G dl_33 hx (by decide) (by decide) (by decide +kernel) rfl (zcase_9 G hX hI h1 h2 h3 h4 h5 kk)
  · exact zl_sw (c := nI 10) (off := 579) (tgt := 612) G dl_33 hx (by decide) (by decide) (by decide +kernel) rfl (zcase_10 G hX hI h1 h2 h3 h4 h5 kk)
  · exact zl_sw (c := nI 11) (off := 612) (tgt := 645) G dl_33 hx (by decide) (by decide) (by decide +kernel) rfl (zcase_11 G hX hI h1 h2 h3 h4 h5 kk)
  · exact zl_sw (c := nI 12) (off := 635) (tgt := 668) G dl_33 hx (by decide) (by decide) (by decide +kernel) rfl (zcase_12 G hX hI h1 h2 h3 h4 h5 kk)
  · exact zl_sw (c := nI 13) (off := 658) (tgt := 691) G dl_33 hx (by decide) (by decide) (by decide +kernel) rfl (zcase_13 G hX hI h1 h2 h3 h4 h5 kk)
  · exact zl_sw (c := nI 14) (off := 691) (tgt := 724) G dl_33 hx (by decide) (by decide) (by decide +kernel) rfl (zcase_14 G hX hI h1 h2 h3 h4 h5 kk)
  · exact zl_sw (c := nI 15) (off := 725) (tgt := 758) G dl_33 hx (by decide) (by decide) (by decide +kernel) rfl (zcase_15 G hX hI h1 h2 h3 h4 h5 kk)
  · exact zl_sw (c := nI 16) (off := 758) (tgt := 791) G dl_33 hx (by decide) (by decide) (by decide +kernel) rfl (zcase_16 G hX hI h1 h2 h3 h4 h5 kk)
  · exact zl_sw (c := nI 17) (off := 801) (tgt := 834) G dl_33 hx (by decide) (by decide) (by decide +kernel) rfl (zcase_17 G hX hI h1 h2 h3 h4 h5 kk)
  · exact zl_sw (c := nI 18) (off := 824) (tgt := 857) G dl_33 hx (by decide) (by decide) (by decide +kernel) rfl (zcase_18 G hX hI h1 h2 h3 h4 h5 kk)
  · exact zl_sw (c := nI 19) (off := 857) (tgt := 890) G dl_33 hx (by decide) (by decide) (by decide +kernel) rfl (zcase_19 G hX hI h1 h2 h3 h4 h5 kk)
  · exact zl_sw (c := nI 20) (off := 920) (tgt := 953) G dl_33 hx (by decide) (by decide) (by decide +kernel) rfl (zcase_20 G hX hI h1 h2 h3 h4 h5 kk)
  · exact zl_sw (c := nI 21) (off := 973) (tgt := 1006) G dl_33 hx (by decide) (by decide) (by decide +kernel) rfl (zcase_21 G hX hI h1 h2 h3 h4 h5 kk)
  · exact zl_sw (c := nI 22) (off := 996) (tgt := 1029) G dl_33 hx (by decide) (by decide) (by decide +kernel) rfl (zcase_22 G hX hI h1 h2 h3 h4 h5 kk)
  · exact zl_sw (c := nI 23) (off := 1045) (tgt := 1078) G dl_33 hx (by decide) (by decide) (by decide +kernel) rfl (zcase_23 G hX hI h1 h2 h3 h4 h5 kk)
  · exact zl_sw (c := nI 24) (off := 1068) (tgt := 1101) G dl_33 hx (by decide) (by decide) (by decide +kernel) rfl (zcase_24 G hX hI h1 h2 h3 h4 h5 kk)
  · exact zl_sw (c := nI 25) (off := 1091) (tgt := 1124) G dl_33 hx (by decide) (by decide) (by decide +kernel) rfl (zcase_25 G hX hI h1 h2 h3 h4 h5 kk)
  · exact zl_sw (c := nI 26) (off := 1114) (tgt := 1147) G dl_33 hx (by decide) (by decide) (by decide +kernel) rfl (zcase_26 G hX hI h1 h2 h3 h4 h5 kk)
  · exact zl_sw (c := nI 27) (off := 1127) (tgt := 1160) G dl_33 hx (by decide) (by decide) (by decide +kernel) rfl (zcase_27 G hX hI h1 h2 h3 h4 h5 kk)
  · exact zl_sw (c := nI 28) (off := 1140) (tgt := 1173) G dl_33 hx (by decide) (by decide) (by decide +kernel) rfl (zcase_28 G hX hI h1 h2 h3 h4 h5 kk)
  · exact zl_sw (c := nI 29) (off := 1180) (tgt := 1213) G dl_33 hx (by decide) (by decide) (by decide +kernel) rfl (zcase_29 G hX hI h1 h2 h3 h4 h5 kk)
  · exact zl_sw (c := nI 30) (off := 1193) (tgt := 1226) G dl_33 hx (by decide) (by decide) (by decide +kernel) rfl (zcase_30 G hX hI h1 h2 h3 h4 h5 kk)
  · exact zl_sw (c := nI 31) (off := 1206) (tgt := 1239) G dl_33 hx (by decide) (by decide) (by decide +kernel) rfl (zcase_31 G hX hI h1 h2 h3 h4 h5 kk)
theorem zl_loop (G : zLG g A E) (hX : zSX b L xs E) (hL : L ≤ 3072) (kend : ∀ (μ : ZMem) (lv : List (Option Value)), zL g A Q E μ 1268 lv []) : ∀ (n j : Nat) (μ : ZMem), Inv μ → L ≤ j + 6 * n → j ≤ 3078 → zL g A Q E μ 18 [some (.ref b), some (.ref (g.2.1 0 0)), some (.ref (g.2.1 12 0)), some (.int (iI j))] [] := by
  intro n
  induction n with
  | zero =>
    intro j μ hI hj hb
    refine zl_iload G dl_18 rfl (zl_aload G dl_19 rfl (zl_slen G hX dl_20 (zl_bipush (v := 6) G dl_21 rfl (zl_isub G dl_23 (zl_icmp_gt (tgt := 1268) G dl_24 rfl (fun _ => kend _ _) (fun hn => ?_))))))
    rw [show Int32.ofNat L - 6 = iI ((L : Int) - 6) from by rw [show Int32.ofNat L = iI L from nI_iI L, show (6 : Int32) = iI 6 from rfl, iI_sub], iI_lt (by omega) (by omega) (by omega) (by omega)] at hn
    omega
  | succ n ih =>
    intro j μ hI hj hb
    refine zl_iload G dl_18 rfl (zl_aload G dl_19 rfl (zl_slen G hX dl_20 (zl_bipush (v := 6) G dl_21 rfl (zl_isub G dl_23 (zl_icmp_gt (tgt := 1268) G dl_24 rfl (fun _ => kend _ _) (fun hn => ?_))))))
    rw [show Int32.ofNat L - 6 = iI ((L : Int) - 6) from by rw [show Int32.ofNat L = iI L from nI_iI L, show (6 : Int32) = iI 6 from rfl, iI_sub], iI_lt (by omega) (by omega) (by omega) (by omega)] at hn
    have hj6 : j + 6 ≤ L := by omega
    refine zl_aload G dl_27 rfl (zl_iload G dl_28 rfl (zl_sld G hX (zvi0 (by omega) hL) dl_29 (zl_bipush (v := 31) G dl_30 rfl (zl_iand G dl_32 ?_))))
    obtain ⟨c, hc, ec⟩ := vp_in_of (pk_andIn (xs (iI j).toNatClampNeg) (m := 31) 5 rfl (by omega)) (by omega)
    refine zl_switch G hX hI hc ec (zvi (k := 1) rfl (by omega) hL) (zvi (k := 2) rfl (by omega) hL) (zvi (k := 3) rfl (by omega) hL) (zvi (k := 4) rfl (by omega) hL) (zvi (k := 5) rfl (by omega) hL) (fun μ2 hI2 => ?_)
    have K := ih (j + 6) μ2 hI2 (by omega) (by omega)
    rw [show iI ((j + 6 : Nat) : Int) = iI j + 6 from by rw [show (6 : Int32) = iI 6 from rfl, iI_add]; rfl] at K
    exact zl_iinc (v := 6) G dl_1262 (by omega) rfl rfl rfl (zl_goto (tgt := 18) G dl_1265 rfl K)
end ZLD
