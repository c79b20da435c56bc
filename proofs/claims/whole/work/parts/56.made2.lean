/-! made: the calls -/
def RES (kd xs : Nat → Int) (low goal : Int) (n c p : Nat) (r : Int) (ch : Nat → Int32) : Prop := (r = -2 ∧ ∀ l', 1 ≤ l' → l' ≤ p → NO kd xs low goal n c l') ∨ ∃ (l : Nat) (q : Nat → Nat), r = (l : Int) ∧ 1 ≤ l ∧ l ≤ p ∧ MN kd xs low goal n c l q ∧ (∀ l', 1 ≤ l' → l' < l → NO kd xs low goal n c l') ∧ ∀ i, i < l → ch i = iI (q i)
theorem RES_uniq {kd xs : Nat → Int} {low goal : Int} {n c p : Nat} {r r' : Int} {ch ch' : Nat → Int32} (h : RES kd xs low goal n c p r ch) (h' : RES kd xs low goal n c p r' ch') : r = r' ∧ ∀ i : Nat, (i : Int) < r → ch i = ch' i := by
  rcases h with ⟨a1, a2⟩ | ⟨l, q, a1, a2, a3, a4, a5, a6⟩
  · rcases h' with ⟨b1, b2⟩ | ⟨l', q', b1, b2, b3, b4, b5, b6⟩
    · exact ⟨by omega, fun i h => by omega⟩
    · exact absurd b4.2.1 (a2 l' b2 b3 q' b4.1)
  · rcases h' with ⟨b1, b2⟩ | ⟨l', q', b1, b2, b3, b4, b5, b6⟩
    · exact absurd a4.2.1 (b2 l a2 a3 q a4.1)
    · have hl : l = l' := by
        by_cases c1 : l < l'
        · exact absurd a4.2.1 (b5 l a2 c1 q a4.1)
        · by_cases c2 : l' < l
          · exact absurd b4.2.1 (a5 l' b2 c2 q' b4.1)
          · omega
      subst hl
      refine ⟨by omega, fun i hi => ?_⟩
      rw [a6 i (by omega), b6 i (by omega), MN_uniq a4 b4 i (by omega)]
theorem fill_l {N : Nat} {p4 : Int32} {kx : ZMem → Option (Int32 × ZMem)} {n : Nat} {low : Int} (hl0 : 0 ≤ low) (hl1 : low + n ≤ 10000) (hn : n ≤ 100) : ∀ (f j fuel : Nat) (ν : ZMem), j + f = n → f < fuel → ν.1 11 0 4 = iI low → ν.1 11 0 5 = iI n → (∀ i, i < j → ν.2 38 0 i = lI (low + (i : Int))) → ∃ ν', f_Maker_fewest_l52 N 4 p4 kx fuel (iI j) ν = kx ν' ∧ ν'.1 = ν.1 ∧ (∀ k i x, k ≠ 38 → ν'.2 k i x = ν.2 k i x) ∧ ∀ i, i < n → ν'.2 38 0 i = lI (low + (i : Int))
  | 0, j, fuel, ν, e1, e2, h4, h5, hi => by
    obtain ⟨fu, rfl⟩ : ∃ q, fuel = q + 1 := ⟨fuel - 1, by omega⟩
    refine ⟨ν, ?_, rfl, fun _ _ _ _ => rfl, fun i h => hi i (by omega)⟩
    simp only [f_Maker_fewest_l52]
    rw [h5, zif_t (by rw [iI_le (by omega) (by omega) (by omega) (by omega)]; omega)]
  | f + 1, j, fuel, ν, e1, e2, h4, h5, hi => by
    obtain ⟨fu, rfl⟩ : ∃ q, fuel = q + 1 := ⟨fuel - 1, by omega⟩
    have e : iI (j : Int) + (1 : Int32) = iI ((j + 1 : Nat) : Int) := by rw [ilit, iI_add]; congr 1
    have z0 : zin (0 : Int32) 6 := by decide
    obtain ⟨ν', g1, g2, g3, g4⟩ := fill_l (N := N) (p4 := p4) (kx := kx) hl0 hl1 hn f (j + 1) fu (zsetJ ν 38 0 j (lI (low + (j : Int)))) (by omega) (by omega) h4 h5 (fun i h => by
      rw [rJ]
      by_cases c : i = j
      · rw [if_pos ⟨rfl, rfl, c⟩, c]
      · rw [if_neg (fun e => c e.2.2)]; exact hi i (by omega))
    refine ⟨ν', ?_, g2, fun k i x hk => by rw [g3 k i x hk, rJ, if_neg (fun e => hk e.1)], g4⟩
    simp only [f_Maker_fewest_l52]
    rw [h5, zif_f (by rw [iI_le (by omega) (by omega) (by omega) (by omega)]; omega), zchk_t z0, zchk_t (zin_k 100 rfl (by omega) (by omega) (by omega))]
    simp only [h4, iI_add, zlt_eq, e, iI_long (show -2147483648 ≤ low + (j : Int) by omega) (show low + (j : Int) < 2147483648 by omega), cl_nat (show j < 2147483648 by omega), show (0 : Int32).toNatClampNeg = 0 from rfl]
    exact g1
theorem few_l {N : Nat} {μ : ZMem} {c n p : Nat} {kd xs : Nat → Int} {low goal : Int} (hN : 30000 ≤ N) (hK : KM μ c kd xs low goal n) (hp : p ≤ 5) (h38 : ∀ j, j < n → μ.2 38 0 j = lI (low + (j : Int))) : ∀ (f l fuel : Nat) (ν : ZMem), l + f = p + 1 → 1 ≤ l → f < fuel → fqR 0 μ ν → (∀ l', 1 ≤ l' → l' < l → NO kd xs low goal n c l') → ∃ (r : Int) (ν' : ZMem), f_Maker_fewest_l87 N 4 (iI p) fuel (iI l) ν = some (iI r, ν') ∧ fqR 0 μ ν' ∧ RES kd xs low goal n c p r (ν'.1 39 0)
  | 0, l, fuel, ν, e1, e2, e3, hF, hi => by
    obtain ⟨fu, rfl⟩ : ∃ q, fuel = q + 1 := ⟨fuel - 1, by omega⟩
    refine ⟨-2, ν, ?_, hF, Or.inl ⟨rfl, fun l' h1 h2 => hi l' h1 (by omega)⟩⟩
    simp only [f_Maker_fewest_l87]
    rw [zif_t (by rw [iI_lt (by omega) (by omega) (by omega) (by omega)]; omega)]; rfl
  | f + 1, l, fuel, ν, e1, e2, e3, hF, hi => by
    obtain ⟨fu, rfl⟩ : ∃ q, fuel = q + 1 := ⟨fuel - 1, by omega⟩
    have e : iI (l : Int) + (1 : Int32) = iI ((l + 1 : Nat) : Int) := by rw [ilit, iI_add]; congr 1
    have hKν := hK.fr hF
    obtain ⟨⟨-, -, -, -, -, n100, l0, l1, -⟩, -⟩ := id hK
    obtain ⟨b, ν1, r1, r2, r3, r4⟩ := reach_ok (N := N) (by omega) l 8 (by omega) 0 ν c n kd xs low goal (fun j => low + (j : Int)) e2 (by omega) hKν (fun j hj => ⟨by rw [hF.2 38 0 j (by omega) (by omega)]; exact h38 j hj, by show 0 ≤ low + (j : Int); omega, by show low + (j : Int) ≤ _; omega⟩)
    rw [Nat.zero_add] at r1 r3 r4
    simp only [f_Maker_fewest_l87]
    rw [zif_f (by rw [iI_lt (by omega) (by omega) (by omega) (by omega)]; omega), zif_f (by rw [ilit, iI_lt (by omega) (by omega) (by omega) (by omega)]; omega), show (0 : Int32) = iI ((0 : Nat) : Int) from rfl, r1, zbnd_eq]
    cases hb : b with
    | false =>
      rw [zif_t (show bI false = iI ((0 : Nat) : Int) from rfl), zlt_eq, e]
      exact few_l hN hK hp h38 f (l + 1) fu ν1 (by omega) (by omega) (by omega) (hF.tr r2) (fun l' h1 h2 => by
        by_cases c' : l' = l
        · rw [c']; exact r4 hb
        · exact hi l' h1 (by omega))
    | true =>
      rw [zif_f (show ¬ bI true = iI ((0 : Nat) : Int) by decide)]
      obtain ⟨q, q1, q2, q3, q4⟩ := r3 hb
      exact ⟨(l : Int), ν1, rfl, hF.tr r2, Or.inr ⟨l, q, rfl, e2, by omega, ⟨q1, q2, q4⟩, hi, fun i h => q3 i (by omega) h⟩⟩
theorem madeM_l {N : Nat} {μ : ZMem} {c n p : Nat} {kd xs : Nat → Int} {low goal : Int} {p4 : Int32} {kx : Int32 → ZMem → Option (Int32 × ZMem)} (hN : 30000 ≤ N) (hK : KN μ c kd xs) (hn1 : 1 ≤ n) (hn : n ≤ 100) (hl0 : 0 ≤ low) (hl1 : low + n ≤ 10000) (hg0 : 0 ≤ goal) (hg : goal ≤ 9999) (hp : p ≤ 5) : ∀ (f l fuel : Nat) (ν : ZMem), l + f = p + 1 → 1 ≤ l → f < fuel → fqI μ ν → (∀ l', 1 ≤ l' → l' < l → NO kd xs low goal n c l') → ∃ (r : Int) (ν' : ZMem), (r = -2 → f_M_made_l86 N (iI low) (iI (low + (n : Int) - 1)) (iI goal) (iI p) p4 kx fuel (iI l) ν = some (-2, ν')) ∧ (r ≠ -2 → f_M_made_l86 N (iI low) (iI (low + (n : Int) - 1)) (iI goal) (iI p) p4 kx fuel (iI l) ν = kx (iI r) ν') ∧ fqI μ ν' ∧ RES kd xs low goal n c p r (ν'.1 51 0)
  | 0, l, fuel, ν, e1, e2, e3, hF, hi => by
    obtain ⟨fu, rfl⟩ : ∃ q, fuel = q + 1 := ⟨fuel - 1, by omega⟩
    refine ⟨-2, ν, fun _ => ?_, fun q => absurd rfl q, hF, Or.inl ⟨rfl, fun l' h1 h2 => hi l' h1 (by omega)⟩⟩
    simp only [f_M_made_l86]
    rw [zif_t (by rw [iI_lt (by omega) (by omega) (by omega) (by omega)]; omega)]; rfl
  | f + 1, l, fuel, ν, e1, e2, e3, hF, hi => by
    obtain ⟨fu, rfl⟩ : ∃ q, fuel = q + 1 := ⟨fuel - 1, by omega⟩
    have e : iI (l : Int) + (1 : Int32) = iI ((l + 1 : Nat) : Int) := by rw [ilit, iI_add]; congr 1
    have hK' : KN ν c kd xs := hK.fr (fun x => hF.1 40 0 x (by omega) (by omega))
    obtain ⟨b, ν1, r1, r2, r3, r4⟩ := s_isMade (N := N) (μ := ν) (c := c) (l := l) (n := n) (low := low) (goal := goal) hN hK' hn1 hn hl0 hl1 e2 (by omega) hg0 hg
    simp only [f_M_made_l86]
    rw [zif_f (by rw [iI_lt (by omega) (by omega) (by omega) (by omega)]; omega), r1, zbnd_eq]
    cases hb : b with
    | false =>
      rw [zif_t (show bI false = 0 from rfl), zlt_eq, e]
      exact madeM_l hN hK hn1 hn hl0 hl1 hg0 hg hp f (l + 1) fu ν1 (by omega) (by omega) (by omega) (hF.tr r2) (fun l' h1 h2 => by
        by_cases c' : l' = l
        · rw [c']; exact r4 hb
        · exact hi l' h1 (by omega))
    | true =>
      rw [zif_f (by decide)]
      obtain ⟨q, q1, q2⟩ := r3 hb
      exact ⟨(l : Int), ν1, fun h => by omega, fun _ => rfl, hF.tr r2, Or.inr ⟨l, q, rfl, e2, by omega, q1, hi, q2⟩⟩
def okM (a b g p : Int) : Prop := 0 ≤ a ∧ a ≤ b ∧ b ≤ 9999 ∧ b - a ≤ 99 ∧ 0 ≤ g ∧ g ≤ 9999 ∧ 1 ≤ p ∧ p ≤ 5
theorem A_made_eq {N : Nat} {μ : ZMem} {a b g p t : Int} (ha : -2147483648 ≤ a ∧ a < 2147483648) (hb : -2147483648 ≤ b ∧ b < 2147483648) (hg : -2147483648 ≤ g ∧ g < 2147483648) (hp : -2147483648 ≤ p ∧ p < 2147483648) : (¬ okM a b g p → f_A_made N μ (iI a) (iI b) (iI g) (iI p) (iI t) = some (-2, μ)) ∧ (okM a b g p → f_A_made N μ (iI a) (iI b) (iI g) (iI p) (iI t) = zbnd (f_Maker_fewest N μ 4 (iI a) (iI b) (iI g) (iI p)) (fun (r8 : Int32) (μ7 : ZMem) => zlt r8 (fun (x9 : Int32) => zif (iI t = (-1 : Int32)) (zret x9 μ7) (zif (iI t < 0) (zret (-2 : Int32) μ7) (zif (x9 ≤ iI t) (zret (-2 : Int32) μ7) (zchk (zin (iI t) (zlen 39 0)) (zret (μ7.1 39 0 (iI t).toNatClampNeg) μ7))))))) := by
  unfold f_A_made
  rw [s_A_isNumber ha.1 ha.2, zbnd_eq]
  by_cases c1 : 0 ≤ a ∧ a ≤ 9999
  · rw [if_pos c1, zif_f (by decide), s_A_isNumber hb.1 hb.2, zbnd_eq]
    by_cases c2 : 0 ≤ b ∧ b ≤ 9999
    · rw [if_pos c2, zif_f (by decide), s_A_isNumber hg.1 hg.2, zbnd_eq]
      by_cases c3 : 0 ≤ g ∧ g ≤ 9999
      · rw [if_pos c3, zif_f (by decide)]
        by_cases c4 : p < 1
        · rw [zif_t (by rw [ilit, iI_lt (by omega) (by omega) (by omega) (by omega)]; exact c4)]
          exact ⟨fun _ => rfl, fun q => by unfold okM at q; omega⟩
        · rw [zif_f (by rw [ilit, iI_lt (by omega) (by omega) (by omega) (by omega)]; exact c4)]
          by_cases c5 : p ≤ 5
          · rw [zif_t (by rw [ilit, iI_le (by omega) (by omega) (by omega) (by omega)]; exact c5)]
            by_cases c6 : b < a
            · rw [zif_t (by rw [iI_lt (by omega) (by omega) (by omega) (by omega)]; exact c6)]
              exact ⟨fun _ => rfl, fun q => by unfold okM at q; omega⟩
            · rw [zif_f (by rw [iI_lt (by omega) (by omega) (by omega) (by omega)]; exact c6), iI_sub]
              by_cases c7 : b - a < 100
              · rw [zif_t (by rw [ilit, iI_lt (by omega) (by omega) (by omega) (by omega)]; exact c7)]
                exact ⟨fun q => absurd (show okM a b g p by unfold okM; omega) q, fun _ => rfl⟩
              · rw [zif_f (by rw [ilit, iI_lt (by omega) (by omega) (by omega) (by omega)]; exact c7)]
                exact ⟨fun _ => rfl, fun q => by unfold okM at q; omega⟩
          · rw [zif_f (by rw [ilit, iI_le (by omega) (by omega) (by omega) (by omega)]; exact c5)]
            exact ⟨fun _ => rfl, fun q => by unfold okM at q; omega⟩
      · rw [if_neg c3, zif_t rfl]
        exact ⟨fun _ => rfl, fun q => by unfold okM at q; omega⟩
    · rw [if_neg c2, zif_t rfl]
      exact ⟨fun _ => rfl, fun q => by unfold okM at q; omega⟩
  · rw [if_neg c1, zif_t rfl]
    exact ⟨fun _ => rfl, fun q => by unfold okM at q; omega⟩
theorem M_made_eq {N : Nat} {μ : ZMem} {a b g p t : Int} (ha : -2147483648 ≤ a ∧ a < 2147483648) (hb : -2147483648 ≤ b ∧ b < 2147483648) (hg : -2147483648 ≤ g ∧ g < 2147483648) (hp : -2147483648 ≤ p ∧ p < 2147483648) (ht : -2147483648 ≤ t ∧ t < 2147483648) : (¬ (okM a b g p ∧ -1 ≤ t) → f_M_made N μ (iI a) (iI b) (iI g) (iI p) (iI t) = some (-2, μ)) ∧ (okM a b g p → -1 ≤ t → (a = b ∧ a = g → t = -1 → f_M_made N μ (iI a) (iI b) (iI g) (iI p) (iI t) = some (0, μ)) ∧ (a = b ∧ a = g → t ≠ -1 → f_M_made N μ (iI a) (iI b) (iI g) (iI p) (iI t) = some (-2, μ)) ∧ (¬ (a = b ∧ a = g) → f_M_made N μ (iI a) (iI b) (iI g) (iI p) (iI t) = f_M_made_l86 N (iI a) (iI b) (iI g) (iI p) (iI t) (fun (x17 : Int32) (μ18 : ZMem) => zif (iI t = (-1 : Int32)) (zret x17 μ18) (zif (x17 ≤ iI t) (zret (-2 : Int32) μ18) (zchk (zin (iI t) (zlen 51 0)) (zret (μ18.1 51 0 (iI t).toNatClampNeg) μ18)))) N (1 : Int32) μ)) := by
  unfold f_M_made
  have e1 : f_M_isIn N μ (iI a) 0 9999 = _ := s_M_isIn (a := 0) (b := 9999) ha.1 ha.2 (by omega) (by omega) (by omega) (by omega)
  have e3 : f_M_isIn N μ (iI g) 0 9999 = _ := s_M_isIn (a := 0) (b := 9999) hg.1 hg.2 (by omega) (by omega) (by omega) (by omega)
  have e4 : f_M_isIn N μ (iI p) 1 5 = _ := s_M_isIn (a := 1) (b := 5) hp.1 hp.2 (by omega) (by omega) (by omega) (by omega)
  rw [e1, zbnd_eq]
  by_cases c1 : 0 ≤ a ∧ a ≤ 9999
  · have e2 : f_M_isIn N μ (iI b) (iI a) 9999 = _ := s_M_isIn (a := a) (b := 9999) hb.1 hb.2 (by omega) (by omega) (by omega) (by omega)
    rw [if_pos c1, zif_f (by decide), e2, zbnd_eq]
    by_cases c2 : a ≤ b ∧ b ≤ 9999
    · rw [if_pos c2, zif_f (by decide), iI_sub]
      by_cases c7 : 99 < b - a
      · rw [zif_t (by rw [ilit, iI_lt (by omega) (by omega) (by omega) (by omega)]; exact c7)]
        exact ⟨fun _ => rfl, fun q => by unfold okM at q; omega⟩
      · rw [zif_f (by rw [ilit, iI_lt (by omega) (by omega) (by omega) (by omega)]; exact c7), e3, zbnd_eq]
        by_cases c3 : 0 ≤ g ∧ g ≤ 9999
        · rw [if_pos c3, zif_f (by decide), e4, zbnd_eq]
          by_cases c4 : 1 ≤ p ∧ p ≤ 5
          · rw [if_pos c4, zif_f (by decide)]
            have hok : okM a b g p := by unfold okM; omega
            by_cases c5 : -1 ≤ t
            · rw [zif_t (by rw [m1, iI_le (by omega) (by omega) (by omega) (by omega)]; exact c5)]
              simp only [zlt_eq]
              refine ⟨fun q => absurd ⟨hok, c5⟩ q, fun _ _ => ⟨fun h1 h2 => ?_, fun h1 h2 => ?_, fun h1 => ?_⟩⟩
              · rw [zif_t (by rw [h1.1]), zif_t (by rw [h1.2]), zif_t (by rw [h2]; decide)]; rfl
              · rw [zif_t (by rw [h1.1]), zif_t (by rw [h1.2]), zif_f (by rw [m1, iI_eq (by omega) (by omega) (by omega) (by omega)]; exact h2)]; rfl
              · by_cases c8 : a = b
                · rw [zif_t (by rw [c8]), zif_f (by rw [iI_eq (by omega) (by omega) (by omega) (by omega)]; exact fun e => h1 ⟨c8, e⟩)]
                · rw [zif_f (by rw [iI_eq (by omega) (by omega) (by omega) (by omega)]; exact c8)]
            · rw [zif_f (by rw [m1, iI_le (by omega) (by omega) (by omega) (by omega)]; exact c5)]
              exact ⟨fun _ => rfl, fun _ q => absurd q c5⟩
          · rw [if_neg c4, zif_t rfl]
            exact ⟨fun _ => rfl, fun q => by unfold okM at q; omega⟩
        · rw [if_neg c3, zif_t rfl]
          exact ⟨fun _ => rfl, fun q => by unfold okM at q; omega⟩
    · rw [if_neg c2, zif_t rfl]
      exact ⟨fun _ => rfl, fun q => by unfold okM at q; omega⟩
  · rw [if_neg c1, zif_t rfl]
    exact ⟨fun _ => rfl, fun q => by unfold okM at q; omega⟩
