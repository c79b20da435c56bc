/-! constructors (by program: wip/whole/gen_mk.py) -/
theorem zdf_0 : ∀ j, j < 12 → defaultValue (zY0 j) = vp_V [.null, .null, .null, .null, .null, .null, .null, .null, .null, .null, .null, .null] j := by
  intro j hj
  have : j = 0 ∨ j = 1 ∨ j = 2 ∨ j = 3 ∨ j = 4 ∨ j = 5 ∨ j = 6 ∨ j = 7 ∨ j = 8 ∨ j = 9 ∨ j = 10 ∨ j = 11 := by omega
  rcases this with rfl | rfl | rfl | rfl | rfl | rfl | rfl | rfl | rfl | rfl | rfl | rfl <;> rfl
theorem zdf_1 : ∀ j, j < 2 → defaultValue (zY1 j) = vp_V [.null, .int 0] j := by
  intro j hj
  have : j = 0 ∨ j = 1 := by omega
  rcases this with rfl | rfl <;> rfl
theorem zdf_2 : ∀ j, j < 7 → defaultValue (zY2 j) = vp_V [.null, .int 0, .int 0, .int 0, .int 0, .int 0, .int 0] j := by
  intro j hj
  have : j = 0 ∨ j = 1 ∨ j = 2 ∨ j = 3 ∨ j = 4 ∨ j = 5 ∨ j = 6 := by omega
  rcases this with rfl | rfl | rfl | rfl | rfl | rfl | rfl <;> rfl
theorem zdf_3 : ∀ j, j < 3 → defaultValue (zY3 j) = vp_V [.null, .null, .null] j := by
  intro j hj
  have : j = 0 ∨ j = 1 ∨ j = 2 := by omega
  rcases this with rfl | rfl | rfl <;> rfl
theorem zdf_4 : ∀ j, j < 3 → defaultValue (zY4 j) = vp_V [.null, .null, .int 0] j := by
  intro j hj
  have : j = 0 ∨ j = 1 ∨ j = 2 := by omega
  rcases this with rfl | rfl | rfl <;> rfl
theorem zdf_5 : ∀ j, j < 9 → defaultValue (zY5 j) = vp_V [.int 0, .null, .null, .null, .null, .null, .int 0, .int 0, .null] j := by
  intro j hj
  have : j = 0 ∨ j = 1 ∨ j = 2 ∨ j = 3 ∨ j = 4 ∨ j = 5 ∨ j = 6 ∨ j = 7 ∨ j = 8 := by omega
  rcases this with rfl | rfl | rfl | rfl | rfl | rfl | rfl | rfl | rfl <;> rfl
theorem zdf_6 : ∀ j, j < 3 → defaultValue (zY6 j) = vp_V [.null, .null, .int 0] j := by
  intro j hj
  have : j = 0 ∨ j = 1 ∨ j = 2 := by omega
  rcases this with rfl | rfl | rfl <;> rfl
theorem zdf_7 : ∀ j, j < 2 → defaultValue (zY7 j) = vp_V [.long 0, .long 0] j := by
  intro j hj
  have : j = 0 ∨ j = 1 := by omega
  rcases this with rfl | rfl <;> rfl
theorem zdf_8 : ∀ j, j < 5 → defaultValue (zY8 j) = vp_V [.null, .int 0, .int 0, .int 0, .int 0] j := by
  intro j hj
  have : j = 0 ∨ j = 1 ∨ j = 2 ∨ j = 3 ∨ j = 4 := by omega
  rcases this with rfl | rfl | rfl | rfl | rfl <;> rfl
theorem zdf_9 : ∀ j, j < 2 → defaultValue (zY9 j) = vp_V [.null, .long 0] j := by
  intro j hj
  have : j = 0 ∨ j = 1 := by omega
  rcases this with rfl | rfl <;> rfl
theorem zdf_10 : ∀ j, j < 6 → defaultValue (zY10 j) = vp_V [.null, .null, .null, .null, .null, .int 0] j := by
  intro j hj
  have : j = 0 ∨ j = 1 ∨ j = 2 ∨ j = 3 ∨ j = 4 ∨ j = 5 := by omega
  rcases this with rfl | rfl | rfl | rfl | rfl | rfl <;> rfl
theorem zdf_11 : ∀ j, j < 7 → defaultValue (zY11 j) = vp_V [.null, .null, .null, .null, .int 0, .int 0, .int 0] j := by
  intro j hj
  have : j = 0 ∨ j = 1 ∨ j = 2 ∨ j = 3 ∨ j = 4 ∨ j = 5 ∨ j = 6 := by omega
  rcases this with rfl | rfl | rfl | rfl | rfl | rfl | rfl <;> rfl
theorem zdf_12 : ∀ j, j < 26 → defaultValue (zY12 j) = vp_V [.null, .null, .null, .null, .null, .null, .int 0, .int 0, .int 0, .int 0, .int 0, .int 0, .int 0, .int 0, .long 0, .long 0, .long 0, .null, .null, .null, .null, .null, .null, .null, .null, .null] j := by
  intro j hj
  have : j = 0 ∨ j = 1 ∨ j = 2 ∨ j = 3 ∨ j = 4 ∨ j = 5 ∨ j = 6 ∨ j = 7 ∨ j = 8 ∨ j = 9 ∨ j = 10 ∨ j = 11 ∨ j = 12 ∨ j = 13 ∨ j = 14 ∨ j = 15 ∨ j = 16 ∨ j = 17 ∨ j = 18 ∨ j = 19 ∨ j = 20 ∨ j = 21 ∨ j = 22 ∨ j = 23 ∨ j = 24 ∨ j = 25 := by omega
  rcases this with rfl | rfl | rfl | rfl | rfl | rfl | rfl | rfl | rfl | rfl | rfl | rfl | rfl | rfl | rfl | rfl | rfl | rfl | rfl | rfl | rfl | rfl | rfl | rfl | rfl | rfl <;> rfl
def K_Orders_init : ZK := (⟨"ThinkNumber$Orders", "<init>", "(I)V"⟩, prog_3_method_1_code, 2, none)
def sh_Orders (g : ZG) (N : Nat) (h : Nat) (q : Nat → Nat) : va_W := [(h, .inr (4, [.ref (q 0), .ref (q 1), .int 0]))] ++ [sI g 0 N (q 0)] ++ [sI g 0 N (q 1)]
set_option maxRecDepth 20000 in
set_option maxHeartbeats 8000000 in
theorem c_Orders_init {g : ZG} {l : Launch} {h : Nat} {n : Int32} {N : Nat} (hn : ¬ n < 0) (hN : n.toNatClampNeg = N) (hby : N * 4 ≤ 536870912) : zC g l 1 2 (0 + N + N) K_Orders_init [.ref h, .int n] [(h, .inr (4, [.null, .null, .int 0]))] (fun w => ∃ q : Nat → Nat, w = sh_Orders g N h q) := by
  refine zC_of (by decide +kernel) (Nat.le_of_ble_eq_true rfl) (fun E A G => ?_)
  show zV g K_Orders_init A _ E [(h, .inr (4, [.null, .null, .int 0]))] 0 0 0 [some (.ref h), some (.int n)] []
  refine zv_aload G (show decode prog_3_method_1_code 0 = .ok (.aload_n 0, 1) by decide +kernel) rfl ?_
  refine zv_oi G (show decode prog_3_method_1_code 1 = .ok (.invokespecial 3, 3) by decide +kernel) (tb_in (List.mem_append_left _ (List.mem_of_getElem? (i := 89) rfl)) rfl) (tb_in (List.mem_append_left _ (List.mem_of_getElem? (i := 28) rfl)) rfl) (tb_in (List.mem_append_left _ (List.mem_of_getElem? (i := 29) rfl)) rfl) (Nat.le_of_ble_eq_true rfl) (Nat.le_of_ble_eq_true rfl) ?_
  refine zv_aload G (show decode prog_3_method_1_code 4 = .ok (.aload_n 0, 1) by decide +kernel) rfl ?_
  refine zv_iload G (show decode prog_3_method_1_code 5 = .ok (.iload_n 1, 1) by decide +kernel) rfl ?_
  refine zv_newa (N' := N) (t := 0) (a0 := (N, .inl (fun _ => 0))) G (show decode prog_3_method_1_code 6 = .ok (.newarray .int, 2) by decide +kernel) (tb_in (List.mem_append_left _ (List.mem_of_getElem? (i := 112) rfl)) rfl) (fun s h => h.1) (fun cA => rfl) hn hN hby (Nat.le_of_ble_eq_true rfl) (by show _ ≤ 0 + N + N; omega) (fun q1 => ?_)
  refine zv_putF (q0 := 0) (ci := 4) (x := 0) (ty := .array (.int)) (ws2 := [(h, .inr (4, [.ref q1, .null, .int 0]))] ++ [sI g 0 N q1]) G (show decode prog_3_method_1_code 8 = .ok (.putfield 9, 3) by decide +kernel) rfl ⟨"ThinkNumber$Orders", zT4, 3, rfl, Nat.le_of_ble_eq_true rfl, tb_in (List.mem_append_left _ (List.mem_of_getElem? (i := 90) rfl)) rfl, rfl, rfl, by decide +kernel⟩ rfl rfl rfl (Nat.le_of_ble_eq_true rfl) rfl ?_
  refine zv_aload G (show decode prog_3_method_1_code 11 = .ok (.aload_n 0, 1) by decide +kernel) rfl ?_
  refine zv_iload G (show decode prog_3_method_1_code 12 = .ok (.iload_n 1, 1) by decide +kernel) rfl ?_
  refine zv_newa (N' := N) (t := 0) (a0 := (N, .inl (fun _ => 0))) G (show decode prog_3_method_1_code 13 = .ok (.newarray .int, 2) by decide +kernel) (tb_in (List.mem_append_left _ (List.mem_of_getElem? (i := 112) rfl)) rfl) (fun s h => h.1) (fun cA => rfl) hn hN hby (Nat.le_of_ble_eq_true rfl) (by show _ ≤ 0 + N + N; omega) (fun q2 => ?_)
  refine zv_putF (q0 := 0) (ci := 4) (x := 1) (ty := .array (.int)) (ws2 := [(h, .inr (4, [.ref q1, .ref q2, .int 0]))] ++ [sI g 0 N q1] ++ [sI g 0 N q2]) G (show decode prog_3_method_1_code 15 = .ok (.putfield 15, 3) by decide +kernel) rfl ⟨"ThinkNumber$Orders", zT4, 3, rfl, Nat.le_of_ble_eq_true rfl, tb_in (List.mem_append_left _ (List.mem_of_getElem? (i := 96) rfl)) rfl, rfl, rfl, by decide +kernel⟩ rfl rfl rfl (Nat.le_of_ble_eq_true rfl) rfl ?_
  exact zv_end G (show decode prog_3_method_1_code 18 = .ok (.return_, 1) by decide +kernel) rfl ⟨fun i => ([q1, q2] : List Nat).getD i 0, rfl⟩
def K_Values_init : ZK := (⟨"ThinkNumber$Values", "<init>", "(I)V"⟩, prog_12_method_1_code, 2, none)
def sh_Values (g : ZG) (N : Nat) (h : Nat) (q : Nat → Nat) : va_W := [(h, .inr (6, [.ref (q 0), .ref (q 1), .int 0]))] ++ [sJ g N (q 0)] ++ [sJ g N (q 1)]
set_option maxRecDepth 20000 in
set_option maxHeartbeats 8000000 in
theorem c_Values_init {g : ZG} {l : Launch} {h : Nat} {n : Int32} {N : Nat} (hn : ¬ n < 0) (hN : n.toNatClampNeg = N) (hby : N * 8 ≤ 536870912) : zC g l 1 2 (0 + N + N) K_Values_init [.ref h, .int n] [(h, .inr (6, [.null, .null, .int 0]))] (fun w => ∃ q : Nat → Nat, w = sh_Values g N h q) := by
  refine zC_of (by decide +kernel) (Nat.le_of_ble_eq_true rfl) (fun E A G => ?_)
  show zV g K_Values_init A _ E [(h, .inr (6, [.null, .null, .int 0]))] 0 0 0 [some (.ref h), some (.int n)] []
  refine zv_aload G (show decode prog_12_method_1_code 0 = .ok (.aload_n 0, 1) by decide +kernel) rfl ?_
  refine zv_oi G (show decode prog_12_method_1_code 1 = .ok (.invokespecial 3, 3) by decide +kernel) (tb_in (List.mem_append_left _ (List.mem_of_getElem? (i := 142) rfl)) rfl) (tb_in (List.mem_append_left _ (List.mem_of_getElem? (i := 28) rfl)) rfl) (tb_in (List.mem_append_left _ (List.mem_of_getElem? (i := 29) rfl)) rfl) (Nat.le_of_ble_eq_true rfl) (Nat.le_of_ble_eq_true rfl) ?_
  refine zv_aload G (show decode prog_12_method_1_code 4 = .ok (.aload_n 0, 1) by decide +kernel) rfl ?_
  refine zv_iload G (show decode prog_12_method_1_code 5 = .ok (.iload_n 1, 1) by decide +kernel) rfl ?_
  refine zv_newa (N' := N) (t := 1) (a0 := (N, .inr (.inl (fun _ => 0)))) G (show decode prog_12_method_1_code 6 = .ok (.newarray .long, 2) by decide +kernel) (tb_in (List.mem_append_left _ (List.mem_of_getElem? (i := 156) rfl)) rfl) (fun s h => h.2.1) (fun cA => rfl) hn hN hby (Nat.le_of_ble_eq_true rfl) (by show _ ≤ 0 + N + N; omega) (fun q1 => ?_)
  refine zv_putF (q0 := 0) (ci := 6) (x := 0) (ty := .array (.long)) (ws2 := [(h, .inr (6, [.ref q1, .null, .int 0]))] ++ [sJ g N q1]) G (show decode prog_12_method_1_code 8 = .ok (.putfield 9, 3) by decide +kernel) rfl ⟨"ThinkNumber$Values", zT6, 3, rfl, Nat.le_of_ble_eq_true rfl, tb_in (List.mem_append_left _ (List.mem_of_getElem? (i := 143) rfl)) rfl, rfl, rfl, by decide +kernel⟩ rfl rfl rfl (Nat.le_of_ble_eq_true rfl) rfl ?_
  refine zv_aload G (show decode prog_12_method_1_code 11 = .ok (.aload_n 0, 1) by decide +kernel) rfl ?_
  refine zv_iload G (show decode prog_12_method_1_code 12 = .ok (.iload_n 1, 1) by decide +kernel) rfl ?_
  refine zv_newa (N' := N) (t := 1) (a0 := (N, .inr (.inl (fun _ => 0)))) G (show decode prog_12_method_1_code 13 = .ok (.newarray .long, 2) by decide +kernel) (tb_in (List.mem_append_left _ (List.mem_of_getElem? (i := 156) rfl)) rfl) (fun s h => h.2.1) (fun cA => rfl) hn hN hby (Nat.le_of_ble_eq_true rfl) (by show _ ≤ 0 + N + N; omega) (fun q2 => ?_)
  refine zv_putF (q0 := 0) (ci := 6) (x := 1) (ty := .array (.long)) (ws2 := [(h, .inr (6, [.ref q1, .ref q2, .int 0]))] ++ [sJ g N q1] ++ [sJ g N q2]) G (show decode prog_12_method_1_code 15 = .ok (.putfield 15, 3) by decide +kernel) rfl ⟨"ThinkNumber$Values", zT6, 3, rfl, Nat.le_of_ble_eq_true rfl, tb_in (List.mem_append_left _ (List.mem_of_getElem? (i := 144) rfl)) rfl, rfl, rfl, by decide +kernel⟩ rfl rfl rfl (Nat.le_of_ble_eq_true rfl) rfl ?_
  exact zv_end G (show decode prog_12_method_1_code 18 = .ok (.return_, 1) by decide +kernel) rfl ⟨fun i => ([q1, q2] : List Nat).getD i 0, rfl⟩
def K_Value_init : ZK := (⟨"ThinkNumber$Value", "<init>", "()V"⟩, prog_11_method_1_code, 1, none)
def sh_Value (g : ZG) (h : Nat) (q : Nat → Nat) : va_W := [(h, .inr (7, [.long 0, .long 1]))]
set_option maxRecDepth 20000 in
set_option maxHeartbeats 8000000 in
theorem c_Value_init {g : ZG} {l : Launch} {h : Nat} : zC g l 1 0 (0) K_Value_init [.ref h] [(h, .inr (7, [.long 0, .long 0]))] (fun w => ∃ q : Nat → Nat, w = sh_Value g h q) := by
  refine zC_of (by decide +kernel) (Nat.le_of_ble_eq_true rfl) (fun E A G => ?_)
  show zV g K_Value_init A _ E [(h, .inr (7, [.long 0, .long 0]))] 0 0 0 [some (.ref h)] []
  refine zv_aload G (show decode prog_11_method_1_code 0 = .ok (.aload_n 0, 1) by decide +kernel) rfl ?_
  refine zv_oi G (show decode prog_11_method_1_code 1 = .ok (.invokespecial 3, 3) by decide +kernel) (tb_in (List.mem_append_left _ (List.mem_of_getElem? (i := 201) rfl)) rfl) (tb_in (List.mem_append_left _ (List.mem_of_getElem? (i := 28) rfl)) rfl) (tb_in (List.mem_append_left _ (List.mem_of_getElem? (i := 29) rfl)) rfl) (Nat.le_of_ble_eq_true rfl) (Nat.le_of_ble_eq_true rfl) ?_
  refine zv_aload G (show decode prog_11_method_1_code 4 = .ok (.aload_n 0, 1) by decide +kernel) rfl ?_
  refine zv_lconst (v := 1) G (show decode prog_11_method_1_code 5 = .ok (.lconst 1, 1) by decide +kernel) rfl ?_
  refine zv_put (q0 := 0) (ci := 7) (x := 1) (ty := .long) (ws2 := [(h, .inr (7, [.long 0, .long 1]))]) G (show decode prog_11_method_1_code 6 = .ok (.putfield 9, 3) by decide +kernel) ⟨"ThinkNumber$Value", zT7, 2, rfl, Nat.le_of_ble_eq_true rfl, tb_in (List.mem_append_left _ (List.mem_of_getElem? (i := 207) rfl)) rfl, rfl, by decide +kernel⟩ rfl rfl rfl (Nat.le_of_ble_eq_true rfl) rfl ?_
  exact zv_end G (show decode prog_11_method_1_code 9 = .ok (.return_, 1) by decide +kernel) rfl ⟨fun i => ([] : List Nat).getD i 0, rfl⟩
def K_Tape_init : ZK := (⟨"ThinkNumber$Tape", "<init>", "()V"⟩, prog_10_method_1_code, 1, none)
def sh_Tape (g : ZG) (h : Nat) (q : Nat → Nat) : va_W := [(h, .inr (1, [.ref (q 0), .int 0]))] ++ [sI g 2 300 (q 0)]
set_option maxRecDepth 20000 in
set_option maxHeartbeats 8000000 in
theorem c_Tape_init {g : ZG} {l : Launch} {h : Nat} : zC g l 1 1 (300) K_Tape_init [.ref h] [(h, .inr (1, [.null, .int 0]))] (fun w => ∃ q : Nat → Nat, w = sh_Tape g h q) := by
  refine zC_of (by decide +kernel) (Nat.le_of_ble_eq_true rfl) (fun E A G => ?_)
  show zV g K_Tape_init A _ E [(h, .inr (1, [.null, .int 0]))] 0 0 0 [some (.ref h)] []
  refine zv_aload G (show decode prog_10_method_1_code 0 = .ok (.aload_n 0, 1) by decide +kernel) rfl ?_
  refine zv_oi G (show decode prog_10_method_1_code 1 = .ok (.invokespecial 3, 3) by decide +kernel) (tb_in (List.mem_append_left _ (List.mem_of_getElem? (i := 35) rfl)) rfl) (tb_in (List.mem_append_left _ (List.mem_of_getElem? (i := 28) rfl)) rfl) (tb_in (List.mem_append_left _ (List.mem_of_getElem? (i := 29) rfl)) rfl) (Nat.le_of_ble_eq_true rfl) (Nat.le_of_ble_eq_true rfl) ?_
  refine zv_aload G (show decode prog_10_method_1_code 4 = .ok (.aload_n 0, 1) by decide +kernel) rfl ?_
  refine zv_sipush (v := (300 : Int32)) G (show decode prog_10_method_1_code 5 = .ok (.sipush 300, 3) by decide +kernel) rfl ?_
  refine zv_newa (N' := 300) (t := 2) (a0 := (300, .inl (fun _ => 0))) G (show decode prog_10_method_1_code 8 = .ok (.newarray .byte, 2) by decide +kernel) (tb_in (List.mem_append_left _ (List.mem_of_getElem? (i := 46) rfl)) rfl) (fun s h => h.2.2.1) (fun cA => rfl) (by decide) rfl (Nat.le_of_ble_eq_true rfl) (Nat.le_of_ble_eq_true rfl) (Nat.le_of_ble_eq_true rfl) (fun q1 => ?_)
  refine zv_putF (q0 := 0) (ci := 1) (x := 0) (ty := .array (.byte)) (ws2 := [(h, .inr (1, [.ref q1, .int 0]))] ++ [sI g 2 300 q1]) G (show decode prog_10_method_1_code 10 = .ok (.putfield 11, 3) by decide +kernel) rfl ⟨"ThinkNumber$Tape", zT1, 2, rfl, Nat.le_of_ble_eq_true rfl, tb_in (List.mem_append_left _ (List.mem_of_getElem? (i := 36) rfl)) rfl, rfl, rfl, by decide +kernel⟩ rfl rfl rfl (Nat.le_of_ble_eq_true rfl) rfl ?_
  exact zv_end G (show decode prog_10_method_1_code 13 = .ok (.return_, 1) by decide +kernel) rfl ⟨fun i => ([q1] : List Nat).getD i 0, rfl⟩
def K_Reader_init : ZK := (⟨"ThinkNumber$Reader", "<init>", "(LThinkNumber$Tape;)V"⟩, prog_5_method_1_code, 2, none)
def sh_Reader (g : ZG) (tp : Nat) (h : Nat) (q : Nat → Nat) : va_W := [(h, .inr (2, [.ref tp, .int (-1), .int (-1), .int 0, .int 0, .int 0, .int 0]))]
set_option maxRecDepth 20000 in
set_option maxHeartbeats 8000000 in
theorem c_Reader_init {g : ZG} {l : Launch} {h : Nat} {tp : Nat} : zC g l 1 0 (0) K_Reader_init [.ref h, .ref tp] [(h, .inr (2, [.null, .int 0, .int 0, .int 0, .int 0, .int 0, .int 0]))] (fun w => ∃ q : Nat → Nat, w = sh_Reader g tp h q) := by
  refine zC_of (by decide +kernel) (Nat.le_of_ble_eq_true rfl) (fun E A G => ?_)
  show zV g K_Reader_init A _ E [(h, .inr (2, [.null, .int 0, .int 0, .int 0, .int 0, .int 0, .int 0]))] 0 0 0 [some (.ref h), some (.ref tp)] []
  refine zv_aload G (show decode prog_5_method_1_code 0 = .ok (.aload_n 0, 1) by decide +kernel) rfl ?_
  refine zv_oi G (show decode prog_5_method_1_code 1 = .ok (.invokespecial 3, 3) by decide +kernel) (tb_in (List.mem_append_left _ (List.mem_of_getElem? (i := 52) rfl)) rfl) (tb_in (List.mem_append_left _ (List.mem_of_getElem? (i := 28) rfl)) rfl) (tb_in (List.mem_append_left _ (List.mem_of_getElem? (i := 29) rfl)) rfl) (Nat.le_of_ble_eq_true rfl) (Nat.le_of_ble_eq_true rfl) ?_
  refine zv_aload G (show decode prog_5_method_1_code 4 = .ok (.aload_n 0, 1) by decide +kernel) rfl ?_
  refine zv_iconst (v := (-1 : Int32)) G (show decode prog_5_method_1_code 5 = .ok (.iconst (-1), 1) by decide +kernel) rfl ?_
  refine zv_put (q0 := 0) (ci := 2) (x := 1) (ty := .int) (ws2 := [(h, .inr (2, [.null, .int (-1), .int 0, .int 0, .int 0, .int 0, .int 0]))]) G (show decode prog_5_method_1_code 6 = .ok (.putfield 9, 3) by decide +kernel) ⟨"ThinkNumber$Reader", zT2, 7, rfl, Nat.le_of_ble_eq_true rfl, tb_in (List.mem_append_left _ (List.mem_of_getElem? (i := 54) rfl)) rfl, rfl, by decide +kernel⟩ rfl rfl rfl (Nat.le_of_ble_eq_true rfl) rfl ?_
  refine zv_aload G (show decode prog_5_method_1_code 9 = .ok (.aload_n 0, 1) by decide +kernel) rfl ?_
  refine zv_iconst (v := (-1 : Int32)) G (show decode prog_5_method_1_code 10 = .ok (.iconst (-1), 1) by decide +kernel) rfl ?_
  refine zv_put (q0 := 0) (ci := 2) (x := 2) (ty := .int) (ws2 := [(h, .inr (2, [.null, .int (-1), .int (-1), .int 0, .int 0, .int 0, .int 0]))]) G (show decode prog_5_method_1_code 11 = .ok (.putfield 15, 3) by decide +kernel) ⟨"ThinkNumber$Reader", zT2, 7, rfl, Nat.le_of_ble_eq_true rfl, tb_in (List.mem_append_left _ (List.mem_of_getElem? (i := 56) rfl)) rfl, rfl, by decide +kernel⟩ rfl rfl rfl (Nat.le_of_ble_eq_true rfl) rfl ?_
  refine zv_aload G (show decode prog_5_method_1_code 14 = .ok (.aload_n 0, 1) by decide +kernel) rfl ?_
  refine zv_aload G (show decode prog_5_method_1_code 15 = .ok (.aload_n 1, 1) by decide +kernel) rfl ?_
  refine zv_putF (q0 := 0) (ci := 2) (x := 0) (ty := .object "ThinkNumber$Tape") (ws2 := [(h, .inr (2, [.ref tp, .int (-1), .int (-1), .int 0, .int 0, .int 0, .int 0]))]) G (show decode prog_5_method_1_code 16 = .ok (.putfield 18, 3) by decide +kernel) rfl ⟨"ThinkNumber$Reader", zT2, 7, rfl, Nat.le_of_ble_eq_true rfl, tb_in (List.mem_append_left _ (List.mem_of_getElem? (i := 53) rfl)) rfl, rfl, rfl, by decide +kernel⟩ rfl rfl rfl (Nat.le_of_ble_eq_true rfl) rfl ?_
  exact zv_end G (show decode prog_5_method_1_code 19 = .ok (.return_, 1) by decide +kernel) rfl ⟨fun i => ([] : List Nat).getD i 0, rfl⟩
def K_Tally_init : ZK := (⟨"ThinkNumber$Tally", "<init>", "()V"⟩, prog_9_method_1_code, 1, none)
def sh_Tally (g : ZG) (h : Nat) (q : Nat → Nat) : va_W := [(h, .inr (8, [.ref (q 0), .int 0, .int 0, .int 0, .int 0]))] ++ [sJ g 157 (q 0)]
set_option maxRecDepth 20000 in
set_option maxHeartbeats 8000000 in
theorem c_Tally_init {g : ZG} {l : Launch} {h : Nat} : zC g l 1 1 (157) K_Tally_init [.ref h] [(h, .inr (8, [.null, .int 0, .int 0, .int 0, .int 0]))] (fun w => ∃ q : Nat → Nat, w = sh_Tally g h q) := by
  refine zC_of (by decide +kernel) (Nat.le_of_ble_eq_true rfl) (fun E A G => ?_)
  show zV g K_Tally_init A _ E [(h, .inr (8, [.null, .int 0, .int 0, .int 0, .int 0]))] 0 0 0 [some (.ref h)] []
  refine zv_aload G (show decode prog_9_method_1_code 0 = .ok (.aload_n 0, 1) by decide +kernel) rfl ?_
  refine zv_oi G (show decode prog_9_method_1_code 1 = .ok (.invokespecial 3, 3) by decide +kernel) (tb_in (List.mem_append_left _ (List.mem_of_getElem? (i := 222) rfl)) rfl) (tb_in (List.mem_append_left _ (List.mem_of_getElem? (i := 28) rfl)) rfl) (tb_in (List.mem_append_left _ (List.mem_of_getElem? (i := 29) rfl)) rfl) (Nat.le_of_ble_eq_true rfl) (Nat.le_of_ble_eq_true rfl) ?_
  refine zv_aload G (show decode prog_9_method_1_code 4 = .ok (.aload_n 0, 1) by decide +kernel) rfl ?_
  refine zv_sipush (v := (157 : Int32)) G (show decode prog_9_method_1_code 5 = .ok (.sipush 157, 3) by decide +kernel) rfl ?_
  refine zv_newa (N' := 157) (t := 1) (a0 := (157, .inr (.inl (fun _ => 0)))) G (show decode prog_9_method_1_code 8 = .ok (.newarray .long, 2) by decide +kernel) (tb_in (List.mem_append_left _ (List.mem_of_getElem? (i := 156) rfl)) rfl) (fun s h => h.2.1) (fun cA => rfl) (by decide) rfl (Nat.le_of_ble_eq_true rfl) (Nat.le_of_ble_eq_true rfl) (Nat.le_of_ble_eq_true rfl) (fun q1 => ?_)
  refine zv_putF (q0 := 0) (ci := 8) (x := 0) (ty := .array (.long)) (ws2 := [(h, .inr (8, [.ref q1, .int 0, .int 0, .int 0, .int 0]))] ++ [sJ g 157 q1]) G (show decode prog_9_method_1_code 10 = .ok (.putfield 9, 3) by decide +kernel) rfl ⟨"ThinkNumber$Tally", zT8, 5, rfl, Nat.le_of_ble_eq_true rfl, tb_in (List.mem_append_left _ (List.mem_of_getElem? (i := 223) rfl)) rfl, rfl, rfl, by decide +kernel⟩ rfl rfl rfl (Nat.le_of_ble_eq_true rfl) rfl ?_
  exact zv_end G (show decode prog_9_method_1_code 13 = .ok (.return_, 1) by decide +kernel) rfl ⟨fun i => ([q1] : List Nat).getD i 0, rfl⟩
def K_Sum_init : ZK := (⟨"ThinkNumber$Sum", "<init>", "()V"⟩, prog_7_method_1_code, 1, none)
def sh_Sum (g : ZG) (h : Nat) (q : Nat → Nat) : va_W := [(h, .inr (9, [.ref (q 0), .long 0]))] ++ [sJ g 5 (q 0)]
set_option maxRecDepth 20000 in
set_option maxHeartbeats 8000000 in
theorem c_Sum_init {g : ZG} {l : Launch} {h : Nat} : zC g l 1 1 (5) K_Sum_init [.ref h] [(h, .inr (9, [.null, .long 0]))] (fun w => ∃ q : Nat → Nat, w = sh_Sum g h q) := by
  refine zC_of (by decide +kernel) (Nat.le_of_ble_eq_true rfl) (fun E A G => ?_)
  show zV g K_Sum_init A _ E [(h, .inr (9, [.null, .long 0]))] 0 0 0 [some (.ref h)] []
  refine zv_aload G (show decode prog_7_method_1_code 0 = .ok (.aload_n 0, 1) by decide +kernel) rfl ?_
  refine zv_oi G (show decode prog_7_method_1_code 1 = .ok (.invokespecial 3, 3) by decide +kernel) (tb_in (List.mem_append_right _ (List.mem_append_left _ (List.mem_of_getElem? (i := 5) rfl))) rfl) (tb_in (List.mem_append_left _ (List.mem_of_getElem? (i := 28) rfl)) rfl) (tb_in (List.mem_append_left _ (List.mem_of_getElem? (i := 29) rfl)) rfl) (Nat.le_of_ble_eq_true rfl) (Nat.le_of_ble_eq_true rfl) ?_
  refine zv_aload G (show decode prog_7_method_1_code 4 = .ok (.aload_n 0, 1) by decide +kernel) rfl ?_
  refine zv_iconst (v := (5 : Int32)) G (show decode prog_7_method_1_code 5 = .ok (.iconst 5, 1) by decide +kernel) rfl ?_
  refine zv_newa (N' := 5) (t := 1) (a0 := (5, .inr (.inl (fun _ => 0)))) G (show decode prog_7_method_1_code 6 = .ok (.newarray .long, 2) by decide +kernel) (tb_in (List.mem_append_left _ (List.mem_of_getElem? (i := 156) rfl)) rfl) (fun s h => h.2.1) (fun cA => rfl) (by decide) rfl (Nat.le_of_ble_eq_true rfl) (Nat.le_of_ble_eq_true rfl) (Nat.le_of_ble_eq_true rfl) (fun q1 => ?_)
  refine zv_putF (q0 := 0) (ci := 9) (x := 0) (ty := .array (.long)) (ws2 := [(h, .inr (9, [.ref q1, .long 0]))] ++ [sJ g 5 q1]) G (show decode prog_7_method_1_code 8 = .ok (.putfield 9, 3) by decide +kernel) rfl ⟨"ThinkNumber$Sum", zT9, 2, rfl, Nat.le_of_ble_eq_true rfl, tb_in (List.mem_append_right _ (List.mem_append_left _ (List.mem_of_getElem? (i := 6) rfl))) rfl, rfl, rfl, by decide +kernel⟩ rfl rfl rfl (Nat.le_of_ble_eq_true rfl) rfl ?_
  exact zv_end G (show decode prog_7_method_1_code 11 = .ok (.return_, 1) by decide +kernel) rfl ⟨fun i => ([q1] : List Nat).getD i 0, rfl⟩
def K_Parting_init : ZK := (⟨"ThinkNumber$Parting", "<init>", "()V"⟩, prog_4_method_1_code, 1, none)
def sh_Parting (g : ZG) (h : Nat) (q : Nat → Nat) : va_W := [(h, .inr (10, [.ref (q 0), .ref (q 1), .ref (q 2), .ref (q 3), .ref (q 4), .int 0]))] ++ [sJ g 500 (q 0)] ++ [sJ g 500 (q 1)] ++ [sI g 0 500 (q 2)] ++ [sI g 0 500 (q 3)] ++ [sI g 0 1024 (q 4)]
set_option maxRecDepth 20000 in
set_option maxHeartbeats 8000000 in
theorem c_Parting_init {g : ZG} {l : Launch} {h : Nat} : zC g l 1 5 (3024) K_Parting_init [.ref h] [(h, .inr (10, [.null, .null, .null, .null, .null, .int 0]))] (fun w => ∃ q : Nat → Nat, w = sh_Parting g h q) := by
  refine zC_of (by decide +kernel) (Nat.le_of_ble_eq_true rfl) (fun E A G => ?_)
  show zV g K_Parting_init A _ E [(h, .inr (10, [.null, .null, .null, .null, .null, .int 0]))] 0 0 0 [some (.ref h)] []
  refine zv_aload G (show decode prog_4_method_1_code 0 = .ok (.aload_n 0, 1) by decide +kernel) rfl ?_
  refine zv_oi G (show decode prog_4_method_1_code 1 = .ok (.invokespecial 3, 3) by decide +kernel) (tb_in (List.mem_append_right _ (List.mem_append_left _ (List.mem_of_getElem? (i := 20) rfl))) rfl) (tb_in (List.mem_append_left _ (List.mem_of_getElem? (i := 28) rfl)) rfl) (tb_in (List.mem_append_left _ (List.mem_of_getElem? (i := 29) rfl)) rfl) (Nat.le_of_ble_eq_true rfl) (Nat.le_of_ble_eq_true rfl) ?_
  refine zv_aload G (show decode prog_4_method_1_code 4 = .ok (.aload_n 0, 1) by decide +kernel) rfl ?_
  refine zv_sipush (v := (500 : Int32)) G (show decode prog_4_method_1_code 5 = .ok (.sipush 500, 3) by decide +kernel) rfl ?_
  refine zv_newa (N' := 500) (t := 1) (a0 := (500, .inr (.inl (fun _ => 0)))) G (show decode prog_4_method_1_code 8 = .ok (.newarray .long, 2) by decide +kernel) (tb_in (List.mem_append_left _ (List.mem_of_getElem? (i := 156) rfl)) rfl) (fun s h => h.2.1) (fun cA => rfl) (by decide) rfl (Nat.le_of_ble_eq_true rfl) (Nat.le_of_ble_eq_true rfl) (Nat.le_of_ble_eq_true rfl) (fun q1 => ?_)
  refine zv_putF (q0 := 0) (ci := 10) (x := 0) (ty := .array (.long)) (ws2 := [(h, .inr (10, [.ref q1, .null, .null, .null, .null, .int 0]))] ++ [sJ g 500 q1]) G (show decode prog_4_method_1_code 10 = .ok (.putfield 9, 3) by decide +kernel) rfl ⟨"ThinkNumber$Parting", zT10, 6, rfl, Nat.le_of_ble_eq_true rfl, tb_in (List.mem_append_right _ (List.mem_append_left _ (List.mem_of_getElem? (i := 21) rfl))) rfl, rfl, rfl, by decide +kernel⟩ rfl rfl rfl (Nat.le_of_ble_eq_true rfl) rfl ?_
  refine zv_aload G (show decode prog_4_method_1_code 13 = .ok (.aload_n 0, 1) by decide +kernel) rfl ?_
  refine zv_sipush (v := (500 : Int32)) G (show decode prog_4_method_1_code 14 = .ok (.sipush 500, 3) by decide +kernel) rfl ?_
  refine zv_newa (N' := 500) (t := 1) (a0 := (500, .inr (.inl (fun _ => 0)))) G (show decode prog_4_method_1_code 17 = .ok (.newarray .long, 2) by decide +kernel) (tb_in (List.mem_append_left _ (List.mem_of_getElem? (i := 156) rfl)) rfl) (fun s h => h.2.1) (fun cA => rfl) (by decide) rfl (Nat.le_of_ble_eq_true rfl) (Nat.le_of_ble_eq_true rfl) (Nat.le_of_ble_eq_true rfl) (fun q2 => ?_)
  refine zv_putF (q0 := 0) (ci := 10) (x := 1) (ty := .array (.long)) (ws2 := [(h, .inr (10, [.ref q1, .ref q2, .null, .null, .null, .int 0]))] ++ [sJ g 500 q1] ++ [sJ g 500 q2]) G (show decode prog_4_method_1_code 19 = .ok (.putfield 15, 3) by decide +kernel) rfl ⟨"ThinkNumber$Parting", zT10, 6, rfl, Nat.le_of_ble_eq_true rfl, tb_in (List.mem_append_right _ (List.mem_append_left _ (List.mem_of_getElem? (i := 22) rfl))) rfl, rfl, rfl, by decide +kernel⟩ rfl rfl rfl (Nat.le_of_ble_eq_true rfl) rfl ?_
  refine zv_aload G (show decode prog_4_method_1_code 22 = .ok (.aload_n 0, 1) by decide +kernel) rfl ?_
  refine zv_sipush (v := (500 : Int32)) G (show decode prog_4_method_1_code 23 = .ok (.sipush 500, 3) by decide +kernel) rfl ?_
  refine zv_newa (N' := 500) (t := 0) (a0 := (500, .inl (fun _ => 0))) G (show decode prog_4_method_1_code 26 = .ok (.newarray .int, 2) by decide +kernel) (tb_in (List.mem_append_left _ (List.mem_of_getElem? (i := 112) rfl)) rfl) (fun s h => h.1) (fun cA => rfl) (by decide) rfl (Nat.le_of_ble_eq_true rfl) (Nat.le_of_ble_eq_true rfl) (Nat.le_of_ble_eq_true rfl) (fun q3 => ?_)
  refine zv_putF (q0 := 0) (ci := 10) (x := 2) (ty := .array (.int)) (ws2 := [(h, .inr (10, [.ref q1, .ref q2, .ref q3, .null, .null, .int 0]))] ++ [sJ g 500 q1] ++ [sJ g 500 q2] ++ [sI g 0 500 q3]) G (show decode prog_4_method_1_code 28 = .ok (.putfield 18, 3) by decide +kernel) rfl ⟨"ThinkNumber$Parting", zT10, 6, rfl, Nat.le_of_ble_eq_true rfl, tb_in (List.mem_append_right _ (List.mem_append_left _ (List.mem_of_getElem? (i := 23) rfl))) rfl, rfl, rfl, by decide +kernel⟩ rfl rfl rfl (Nat.le_of_ble_eq_true rfl) rfl ?_
  refine zv_aload G (show decode prog_4_method_1_code 31 = .ok (.aload_n 0, 1) by decide +kernel) rfl ?_
  refine zv_sipush (v := (500 : Int32)) G (show decode prog_4_method_1_code 32 = .ok (.sipush 500, 3) by decide +kernel) rfl ?_
  refine zv_newa (N' := 500) (t := 0) (a0 := (500, .inl (fun _ => 0))) G (show decode prog_4_method_1_code 35 = .ok (.newarray .int, 2) by decide +kernel) (tb_in (List.mem_append_left _ (List.mem_of_getElem? (i := 112) rfl)) rfl) (fun s h => h.1) (fun cA => rfl) (by decide) rfl (Nat.le_of_ble_eq_true rfl) (Nat.le_of_ble_eq_true rfl) (Nat.le_of_ble_eq_true rfl) (fun q4 => ?_)
  refine zv_putF (q0 := 0) (ci := 10) (x := 3) (ty := .array (.int)) (ws2 := [(h, .inr (10, [.ref q1, .ref q2, .ref q3, .ref q4, .null, .int 0]))] ++ [sJ g 500 q1] ++ [sJ g 500 q2] ++ [sI g 0 500 q3] ++ [sI g 0 500 q4]) G (show decode prog_4_method_1_code 37 = .ok (.putfield 22, 3) by decide +kernel) rfl ⟨"ThinkNumber$Parting", zT10, 6, rfl, Nat.le_of_ble_eq_true rfl, tb_in (List.mem_append_right _ (List.mem_append_left _ (List.mem_of_getElem? (i := 24) rfl))) rfl, rfl, rfl, by decide +kernel⟩ rfl rfl rfl (Nat.le_of_ble_eq_true rfl) rfl ?_
  refine zv_aload G (show decode prog_4_method_1_code 40 = .ok (.aload_n 0, 1) by decide +kernel) rfl ?_
  refine zv_sipush (v := (1024 : Int32)) G (show decode prog_4_method_1_code 41 = .ok (.sipush 1024, 3) by decide +kernel) rfl ?_
  refine zv_newa (N' := 1024) (t := 0) (a0 := (1024, .inl (fun _ => 0))) G (show decode prog_4_method_1_code 44 = .ok (.newarray .int, 2) by decide +kernel) (tb_in (List.mem_append_left _ (List.mem_of_getElem? (i := 112) rfl)) rfl) (fun s h => h.1) (fun cA => rfl) (by decide) rfl (Nat.le_of_ble_eq_true rfl) (Nat.le_of_ble_eq_true rfl) (Nat.le_of_ble_eq_true rfl) (fun q5 => ?_)
  refine zv_putF (q0 := 0) (ci := 10) (x := 4) (ty := .array (.int)) (ws2 := [(h, .inr (10, [.ref q1, .ref q2, .ref q3, .ref q4, .ref q5, .int 0]))] ++ [sJ g 500 q1] ++ [sJ g 500 q2] ++ [sI g 0 500 q3] ++ [sI g 0 500 q4] ++ [sI g 0 1024 q5]) G (show decode prog_4_method_1_code 46 = .ok (.putfield 25, 3) by decide +kernel) rfl ⟨"ThinkNumber$Parting", zT10, 6, rfl, Nat.le_of_ble_eq_true rfl, tb_in (List.mem_append_right _ (List.mem_append_left _ (List.mem_of_getElem? (i := 25) rfl))) rfl, rfl, rfl, by decide +kernel⟩ rfl rfl rfl (Nat.le_of_ble_eq_true rfl) rfl ?_
  exact zv_end G (show decode prog_4_method_1_code 49 = .ok (.return_, 1) by decide +kernel) rfl ⟨fun i => ([q1, q2, q3, q4, q5] : List Nat).getD i 0, rfl⟩
def K_Table_init : ZK := (⟨"ThinkNumber$Table", "<init>", "()V"⟩, prog_8_method_1_code, 1, none)
def sh_Table (g : ZG) (h : Nat) (q : Nat → Nat) : va_W := [(h, .inr (3, [.ref (q 0), .ref (q 3), .ref (q 4)]))] ++ sh_Orders g 24 (q 0) (fun j => q (1 + j)) ++ [sI g 0 4 (q 3)] ++ [sI g 0 4 (q 4)]
set_option maxRecDepth 20000 in
set_option maxHeartbeats 8000000 in
theorem c_Table_init {g : ZG} {l : Launch} {h : Nat} : zC g l 2 5 (59) K_Table_init [.ref h] [(h, .inr (3, [.null, .null, .null]))] (fun w => ∃ q : Nat → Nat, w = sh_Table g h q) := by
  refine zC_of (by decide +kernel) (Nat.le_of_ble_eq_true rfl) (fun E A G => ?_)
  show zV g K_Table_init A _ E [(h, .inr (3, [.null, .null, .null]))] 0 0 0 [some (.ref h)] []
  refine zv_aload G (show decode prog_8_method_1_code 0 = .ok (.aload_n 0, 1) by decide +kernel) rfl ?_
  refine zv_oi G (show decode prog_8_method_1_code 1 = .ok (.invokespecial 3, 3) by decide +kernel) (tb_in (List.mem_append_left _ (List.mem_of_getElem? (i := 83) rfl)) rfl) (tb_in (List.mem_append_left _ (List.mem_of_getElem? (i := 28) rfl)) rfl) (tb_in (List.mem_append_left _ (List.mem_of_getElem? (i := 29) rfl)) rfl) (Nat.le_of_ble_eq_true rfl) (Nat.le_of_ble_eq_true rfl) ?_
  refine zv_aload G (show decode prog_8_method_1_code 4 = .ok (.aload_n 0, 1) by decide +kernel) rfl ?_
  refine zv_new (ci := 4) (fs := [.null, .null, .int 0]) G (show decode prog_8_method_1_code 5 = .ok (.new 9, 3) by decide +kernel) rfl zL4 zY4 zO4 (tb_in (List.mem_append_left _ (List.mem_of_getElem? (i := 84) rfl)) rfl) (tb_in (List.mem_append_left _ (List.mem_of_getElem? (i := 85) rfl)) rfl) (tb_in (List.mem_append_left _ (List.mem_of_getElem? (i := 5) rfl)) rfl) zdf_4 (Nat.le_of_ble_eq_true rfl) (Nat.le_of_ble_eq_true rfl) (fun q1 => ?_)
  refine zv_dup G (show decode prog_8_method_1_code 8 = .ok (.dup, 1) by decide +kernel) rfl ?_
  refine zv_bipush (v := (24 : Int32)) G (show decode prog_8_method_1_code 9 = .ok (.bipush 24, 2) by decide +kernel) rfl ?_
  refine zv_init (n := 1) (cells := 1) (slots := 3) (wr := [(h, .inr (3, [.null, .null, .null]))]) (wc := [(q1, .inr (4, [.null, .null, .int 0]))]) (as := [.int 24]) (st := [.ref q1, .ref h]) G (show decode prog_8_method_1_code 11 = .ok (.invokespecial 11, 3) by decide +kernel) (K2 := K_Orders_init) ⟨Or.inl (tb_in (List.mem_append_left _ (List.mem_of_getElem? (i := 86) rfl)) rfl), tb_in (List.mem_append_left _ (List.mem_of_getElem? (i := 87) rfl)) rfl, tb_in (List.mem_append_left _ (List.mem_of_getElem? (i := 5) rfl)) rfl, tb_in (List.mem_append_left _ (List.mem_of_getElem? (i := 88) rfl)) rfl, Nat.le_of_ble_eq_true rfl, rfl, rfl, by decide +kernel, by decide +kernel, by decide +kernel⟩ (fun l => c_Orders_init (n := 24) (N := 24) (by decide) rfl (Nat.le_of_ble_eq_true rfl)) rfl rfl (Nat.le_of_ble_eq_true rfl) (Nat.le_of_ble_eq_true rfl) (Nat.le_of_ble_eq_true rfl) ⟨Nat.le_of_ble_eq_true rfl, Nat.le_of_ble_eq_true rfl⟩ (fun w1 hw1 => ?_)
  obtain ⟨q2, rfl⟩ := hw1
  refine zv_putF (q0 := 0) (ci := 3) (x := 0) (ty := .object "ThinkNumber$Orders") (ws2 := [(h, .inr (3, [.ref q1, .null, .null]))] ++ sh_Orders g 24 q1 q2) G (show decode prog_8_method_1_code 14 = .ok (.putfield 14, 3) by decide +kernel) rfl ⟨"ThinkNumber$Table", zT3, 3, rfl, Nat.le_of_ble_eq_true rfl, tb_in (List.mem_append_left _ (List.mem_of_getElem? (i := 113) rfl)) rfl, rfl, rfl, by decide +kernel⟩ rfl rfl rfl (Nat.le_of_ble_eq_true rfl) rfl ?_
  refine zv_aload G (show decode prog_8_method_1_code 17 = .ok (.aload_n 0, 1) by decide +kernel) rfl ?_
  refine zv_iconst (v := (4 : Int32)) G (show decode prog_8_method_1_code 18 = .ok (.iconst 4, 1) by decide +kernel) rfl ?_
  refine zv_newa (N' := 4) (t := 0) (a0 := (4, .inl (fun _ => 0))) G (show decode prog_8_method_1_code 19 = .ok (.newarray .int, 2) by decide +kernel) (tb_in (List.mem_append_left _ (List.mem_of_getElem? (i := 112) rfl)) rfl) (fun s h => h.1) (fun cA => rfl) (by decide) rfl (Nat.le_of_ble_eq_true rfl) (Nat.le_of_ble_eq_true rfl) (Nat.le_of_ble_eq_true rfl) (fun q3 => ?_)
  refine zv_putF (q0 := 0) (ci := 3) (x := 1) (ty := .array (.int)) (ws2 := [(h, .inr (3, [.ref q1, .ref q3, .null]))] ++ sh_Orders g 24 q1 q2 ++ [sI g 0 4 q3]) G (show decode prog_8_method_1_code 21 = .ok (.putfield 20, 3) by decide +kernel) rfl ⟨"ThinkNumber$Table", zT3, 3, rfl, Nat.le_of_ble_eq_true rfl, tb_in (List.mem_append_left _ (List.mem_of_getElem? (i := 118) rfl)) rfl, rfl, rfl, by decide +kernel⟩ rfl rfl rfl (Nat.le_of_ble_eq_true rfl) rfl ?_
  refine zv_aload G (show decode prog_8_method_1_code 24 = .ok (.aload_n 0, 1) by decide +kernel) rfl ?_
  refine zv_iconst (v := (4 : Int32)) G (show decode prog_8_method_1_code 25 = .ok (.iconst 4, 1) by decide +kernel) rfl ?_
  refine zv_newa (N' := 4) (t := 0) (a0 := (4, .inl (fun _ => 0))) G (show decode prog_8_method_1_code 26 = .ok (.newarray .int, 2) by decide +kernel) (tb_in (List.mem_append_left _ (List.mem_of_getElem? (i := 112) rfl)) rfl) (fun s h => h.1) (fun cA => rfl) (by decide) rfl (Nat.le_of_ble_eq_true rfl) (Nat.le_of_ble_eq_true rfl) (Nat.le_of_ble_eq_true rfl) (fun q4 => ?_)
  refine zv_putF (q0 := 0) (ci := 3) (x := 2) (ty := .array (.int)) (ws2 := [(h, .inr (3, [.ref q1, .ref q3, .ref q4]))] ++ sh_Orders g 24 q1 q2 ++ [sI g 0 4 q3] ++ [sI g 0 4 q4]) G (show decode prog_8_method_1_code 28 = .ok (.putfield 24, 3) by decide +kernel) rfl ⟨"ThinkNumber$Table", zT3, 3, rfl, Nat.le_of_ble_eq_true rfl, tb_in (List.mem_append_left _ (List.mem_of_getElem? (i := 121) rfl)) rfl, rfl, rfl, by decide +kernel⟩ rfl rfl rfl (Nat.le_of_ble_eq_true rfl) rfl ?_
  exact zv_end G (show decode prog_8_method_1_code 31 = .ok (.return_, 1) by decide +kernel) rfl ⟨fun i => ([q1, (q2 0), (q2 1), q3, q4] : List Nat).getD i 0, rfl⟩
def K_State_init : ZK := (⟨"ThinkNumber$State", "<init>", "()V"⟩, prog_6_method_1_code, 1, none)
def sh_State (g : ZG) (h : Nat) (q : Nat → Nat) : va_W := [(h, .inr (5, [.int 0, .ref (q 0), .ref (q 1), .ref (q 4), .ref (q 7), .ref (q 10), .int 0, .int (-1), .ref (q 11)]))] ++ [sI g 0 4 (q 0)] ++ sh_Values g 24 (q 1) (fun j => q (2 + j)) ++ sh_Values g 6 (q 4) (fun j => q (5 + j)) ++ sh_Orders g 6 (q 7) (fun j => q (8 + j)) ++ [sI g 0 6 (q 10)] ++ sh_Values g 25 (q 11) (fun j => q (12 + j))
set_option maxRecDepth 20000 in
set_option maxHeartbeats 8000000 in
theorem c_State_init {g : ZG} {l : Launch} {h : Nat} : zC g l 2 14 (144) K_State_init [.ref h] [(h, .inr (5, [.int 0, .null, .null, .null, .null, .null, .int 0, .int 0, .null]))] (fun w => ∃ q : Nat → Nat, w = sh_State g h q) := by
  refine zC_of (by decide +kernel) (Nat.le_of_ble_eq_true rfl) (fun E A G => ?_)
  show zV g K_State_init A _ E [(h, .inr (5, [.int 0, .null, .null, .null, .null, .null, .int 0, .int 0, .null]))] 0 0 0 [some (.ref h)] []
  refine zv_aload G (show decode prog_6_method_1_code 0 = .ok (.aload_n 0, 1) by decide +kernel) rfl ?_
  refine zv_oi G (show decode prog_6_method_1_code 1 = .ok (.invokespecial 3, 3) by decide +kernel) (tb_in (List.mem_append_left _ (List.mem_of_getElem? (i := 136) rfl)) rfl) (tb_in (List.mem_append_left _ (List.mem_of_getElem? (i := 28) rfl)) rfl) (tb_in (List.mem_append_left _ (List.mem_of_getElem? (i := 29) rfl)) rfl) (Nat.le_of_ble_eq_true rfl) (Nat.le_of_ble_eq_true rfl) ?_
  refine zv_aload G (show decode prog_6_method_1_code 4 = .ok (.aload_n 0, 1) by decide +kernel) rfl ?_
  refine zv_iconst (v := (4 : Int32)) G (show decode prog_6_method_1_code 5 = .ok (.iconst 4, 1) by decide +kernel) rfl ?_
  refine zv_newa (N' := 4) (t := 0) (a0 := (4, .inl (fun _ => 0))) G (show decode prog_6_method_1_code 6 = .ok (.newarray .int, 2) by decide +kernel) (tb_in (List.mem_append_left _ (List.mem_of_getElem? (i := 112) rfl)) rfl) (fun s h => h.1) (fun cA => rfl) (by decide) rfl (Nat.le_of_ble_eq_true rfl) (Nat.le_of_ble_eq_true rfl) (Nat.le_of_ble_eq_true rfl) (fun q1 => ?_)
  refine zv_putF (q0 := 0) (ci := 5) (x := 1) (ty := .array (.int)) (ws2 := [(h, .inr (5, [.int 0, .ref q1, .null, .null, .null, .null, .int 0, .int 0, .null]))] ++ [sI g 0 4 q1]) G (show decode prog_6_method_1_code 8 = .ok (.putfield 9, 3) by decide +kernel) rfl ⟨"ThinkNumber$State", zT5, 9, rfl, Nat.le_of_ble_eq_true rfl, tb_in (List.mem_append_left _ (List.mem_of_getElem? (i := 161) rfl)) rfl, rfl, rfl, by decide +kernel⟩ rfl rfl rfl (Nat.le_of_ble_eq_true rfl) rfl ?_
  refine zv_aload G (show decode prog_6_method_1_code 11 = .ok (.aload_n 0, 1) by decide +kernel) rfl ?_
  refine zv_new (ci := 6) (fs := [.null, .null, .int 0]) G (show decode prog_6_method_1_code 12 = .ok (.new 15, 3) by decide +kernel) rfl zL6 zY6 zO6 (tb_in (List.mem_append_left _ (List.mem_of_getElem? (i := 137) rfl)) rfl) (tb_in (List.mem_append_left _ (List.mem_of_getElem? (i := 138) rfl)) rfl) (tb_in (List.mem_append_left _ (List.mem_of_getElem? (i := 7) rfl)) rfl) zdf_6 (Nat.le_of_ble_eq_true rfl) (Nat.le_of_ble_eq_true rfl) (fun q2 => ?_)
  refine zv_dup G (show decode prog_6_method_1_code 15 = .ok (.dup, 1) by decide +kernel) rfl ?_
  refine zv_bipush (v := (24 : Int32)) G (show decode prog_6_method_1_code 16 = .ok (.bipush 24, 2) by decide +kernel) rfl ?_
  refine zv_init (n := 1) (cells := 2) (slots := 7) (wr := [(h, .inr (5, [.int 0, .ref q1, .null, .null, .null, .null, .int 0, .int 0, .null]))] ++ [sI g 0 4 q1]) (wc := [(q2, .inr (6, [.null, .null, .int 0]))]) (as := [.int 24]) (st := [.ref q2, .ref h]) G (show decode prog_6_method_1_code 18 = .ok (.invokespecial 17, 3) by decide +kernel) (K2 := K_Values_init) ⟨Or.inl (tb_in (List.mem_append_left _ (List.mem_of_getElem? (i := 139) rfl)) rfl), tb_in (List.mem_append_left _ (List.mem_of_getElem? (i := 140) rfl)) rfl, tb_in (List.mem_append_left _ (List.mem_of_getElem? (i := 7) rfl)) rfl, tb_in (List.mem_append_left _ (List.mem_of_getElem? (i := 141) rfl)) rfl, Nat.le_of_ble_eq_true rfl, rfl, rfl, by decide +kernel, by decide +kernel, by decide +kernel⟩ (fun l => c_Values_init (n := 24) (N := 24) (by decide) rfl (Nat.le_of_ble_eq_true rfl)) rfl rfl (Nat.le_of_ble_eq_true rfl) (Nat.le_of_ble_eq_true rfl) (Nat.le_of_ble_eq_true rfl) ⟨Nat.le_of_ble_eq_true rfl, Nat.le_of_ble_eq_true rfl⟩ (fun w1 hw1 => ?_)
  obtain ⟨q3, rfl⟩ := hw1
  refine zv_putF (q0 := 0) (ci := 5) (x := 2) (ty := .object "ThinkNumber$Values") (ws2 := [(h, .inr (5, [.int 0, .ref q1, .ref q2, .null, .null, .null, .int 0, .int 0, .null]))] ++ [sI g 0 4 q1] ++ sh_Values g 24 q2 q3) G (show decode prog_6_method_1_code 21 = .ok (.putfield 20, 3) by decide +kernel) rfl ⟨"ThinkNumber$State", zT5, 9, rfl, Nat.le_of_ble_eq_true rfl, tb_in (List.mem_append_left _ (List.mem_of_getElem? (i := 163) rfl)) rfl, rfl, rfl, by decide +kernel⟩ rfl rfl rfl (Nat.le_of_ble_eq_true rfl) rfl ?_
  refine zv_aload G (show decode prog_6_method_1_code 24 = .ok (.aload_n 0, 1) by decide +kernel) rfl ?_
  refine zv_new (ci := 6) (fs := [.null, .null, .int 0]) G (show decode prog_6_method_1_code 25 = .ok (.new 15, 3) by decide +kernel) rfl zL6 zY6 zO6 (tb_in (List.mem_append_left _ (List.mem_of_getElem? (i := 137) rfl)) rfl) (tb_in (List.mem_append_left _ (List.mem_of_getElem? (i := 138) rfl)) rfl) (tb_in (List.mem_append_left _ (List.mem_of_getElem? (i := 7) rfl)) rfl) zdf_6 (Nat.le_of_ble_eq_true rfl) (Nat.le_of_ble_eq_true rfl) (fun q4 => ?_)
  refine zv_dup G (show decode prog_6_method_1_code 28 = .ok (.dup, 1) by decide +kernel) rfl ?_
  refine zv_bipush (v := (6 : Int32)) G (show decode prog_6_method_1_code 29 = .ok (.bipush 6, 2) by decide +kernel) rfl ?_
  refine zv_init (n := 1) (cells := 5) (slots := 58) (wr := [(h, .inr (5, [.int 0, .ref q1, .ref q2, .null, .null, .null, .int 0, .int 0, .null]))] ++ [sI g 0 4 q1] ++ sh_Values g 24 q2 q3) (wc := [(q4, .inr (6, [.null, .null, .int 0]))]) (as := [.int 6]) (st := [.ref q4, .ref h]) G (show decode prog_6_method_1_code 31 = .ok (.invokespecial 17, 3) by decide +kernel) (K2 := K_Values_init) ⟨Or.inl (tb_in (List.mem_append_left _ (List.mem_of_getElem? (i := 139) rfl)) rfl), tb_in (List.mem_append_left _ (List.mem_of_getElem? (i := 140) rfl)) rfl, tb_in (List.mem_append_left _ (List.mem_of_getElem? (i := 7) rfl)) rfl, tb_in (List.mem_append_left _ (List.mem_of_getElem? (i := 141) rfl)) rfl, Nat.le_of_ble_eq_true rfl, rfl, rfl, by decide +kernel, by decide +kernel, by decide +kernel⟩ (fun l => c_Values_init (n := 6) (N := 6) (by decide) rfl (Nat.le_of_ble_eq_true rfl)) rfl rfl (Nat.le_of_ble_eq_true rfl) (Nat.le_of_ble_eq_true rfl) (Nat.le_of_ble_eq_true rfl) ⟨Nat.le_of_ble_eq_true rfl, Nat.le_of_ble_eq_true rfl⟩ (fun w1 hw1 => ?_)
  obtain ⟨q5, rfl⟩ := hw1
  refine zv_putF (q0 := 0) (ci := 5) (x := 3) (ty := .object "ThinkNumber$Values") (ws2 := [(h, .inr (5, [.int 0, .ref q1, .ref q2, .ref q4, .null, .null, .int 0, .int 0, .null]))] ++ [sI g 0 4 q1] ++ sh_Values g 24 q2 q3 ++ sh_Values g 6 q4 q5) G (show decode prog_6_method_1_code 34 = .ok (.putfield 24, 3) by decide +kernel) rfl ⟨"ThinkNumber$State", zT5, 9, rfl, Nat.le_of_ble_eq_true rfl, tb_in (List.mem_append_left _ (List.mem_of_getElem? (i := 165) rfl)) rfl, rfl, rfl, by decide +kernel⟩ rfl rfl rfl (Nat.le_of_ble_eq_true rfl) rfl ?_
  refine zv_aload G (show decode prog_6_method_1_code 37 = .ok (.aload_n 0, 1) by decide +kernel) rfl ?_
  refine zv_new (ci := 4) (fs := [.null, .null, .int 0]) G (show decode prog_6_method_1_code 38 = .ok (.new 27, 3) by decide +kernel) rfl zL4 zY4 zO4 (tb_in (List.mem_append_left _ (List.mem_of_getElem? (i := 157) rfl)) rfl) (tb_in (List.mem_append_left _ (List.mem_of_getElem? (i := 85) rfl)) rfl) (tb_in (List.mem_append_left _ (List.mem_of_getElem? (i := 5) rfl)) rfl) zdf_4 (Nat.le_of_ble_eq_true rfl) (Nat.le_of_ble_eq_true rfl) (fun q6 => ?_)
  refine zv_dup G (show decode prog_6_method_1_code 41 = .ok (.dup, 1) by decide +kernel) rfl ?_
  refine zv_bipush (v := (6 : Int32)) G (show decode prog_6_method_1_code 42 = .ok (.bipush 6, 2) by decide +kernel) rfl ?_
  refine zv_init (n := 1) (cells := 8) (slots := 73) (wr := [(h, .inr (5, [.int 0, .ref q1, .ref q2, .ref q4, .null, .null, .int 0, .int 0, .null]))] ++ [sI g 0 4 q1] ++ sh_Values g 24 q2 q3 ++ sh_Values g 6 q4 q5) (wc := [(q6, .inr (4, [.null, .null, .int 0]))]) (as := [.int 6]) (st := [.ref q6, .ref h]) G (show decode prog_6_method_1_code 44 = .ok (.invokespecial 29, 3) by decide +kernel) (K2 := K_Orders_init) ⟨Or.inl (tb_in (List.mem_append_left _ (List.mem_of_getElem? (i := 158) rfl)) rfl), tb_in (List.mem_append_left _ (List.mem_of_getElem? (i := 87) rfl)) rfl, tb_in (List.mem_append_left _ (List.mem_of_getElem? (i := 5) rfl)) rfl, tb_in (List.mem_append_left _ (List.mem_of_getElem? (i := 88) rfl)) rfl, Nat.le_of_ble_eq_true rfl, rfl, rfl, by decide +kernel, by decide +kernel, by decide +kernel⟩ (fun l => c_Orders_init (n := 6) (N := 6) (by decide) rfl (Nat.le_of_ble_eq_true rfl)) rfl rfl (Nat.le_of_ble_eq_true rfl) (Nat.le_of_ble_eq_true rfl) (Nat.le_of_ble_eq_true rfl) ⟨Nat.le_of_ble_eq_true rfl, Nat.le_of_ble_eq_true rfl⟩ (fun w1 hw1 => ?_)
  obtain ⟨q7, rfl⟩ := hw1
  refine zv_putF (q0 := 0) (ci := 5) (x := 4) (ty := .object "ThinkNumber$Orders") (ws2 := [(h, .inr (5, [.int 0, .ref q1, .ref q2, .ref q4, .ref q6, .null, .int 0, .int 0, .null]))] ++ [sI g 0 4 q1] ++ sh_Values g 24 q2 q3 ++ sh_Values g 6 q4 q5 ++ sh_Orders g 6 q6 q7) G (show decode prog_6_method_1_code 47 = .ok (.putfield 30, 3) by decide +kernel) rfl ⟨"ThinkNumber$State", zT5, 9, rfl, Nat.le_of_ble_eq_true rfl, tb_in (List.mem_append_left _ (List.mem_of_getElem? (i := 167) rfl)) rfl, rfl, rfl, by decide +kernel⟩ rfl rfl rfl (Nat.le_of_ble_eq_true rfl) rfl ?_
  refine zv_aload G (show decode prog_6_method_1_code 50 = .ok (.aload_n 0, 1) by decide +kernel) rfl ?_
  refine zv_bipush (v := (6 : Int32)) G (show decode prog_6_method_1_code 51 = .ok (.bipush 6, 2) by decide +kernel) rfl ?_
  refine zv_newa (N' := 6) (t := 0) (a0 := (6, .inl (fun _ => 0))) G (show decode prog_6_method_1_code 53 = .ok (.newarray .int, 2) by decide +kernel) (tb_in (List.mem_append_left _ (List.mem_of_getElem? (i := 112) rfl)) rfl) (fun s h => h.1) (fun cA => rfl) (by decide) rfl (Nat.le_of_ble_eq_true rfl) (Nat.le_of_ble_eq_true rfl) (Nat.le_of_ble_eq_true rfl) (fun q8 => ?_)
  refine zv_putF (q0 := 0) (ci := 5) (x := 5) (ty := .array (.int)) (ws2 := [(h, .inr (5, [.int 0, .ref q1, .ref q2, .ref q4, .ref q6, .ref q8, .int 0, .int 0, .null]))] ++ [sI g 0 4 q1] ++ sh_Values g 24 q2 q3 ++ sh_Values g 6 q4 q5 ++ sh_Orders g 6 q6 q7 ++ [sI g 0 6 q8]) G (show decode prog_6_method_1_code 55 = .ok (.putfield 34, 3) by decide +kernel) rfl ⟨"ThinkNumber$State", zT5, 9, rfl, Nat.le_of_ble_eq_true rfl, tb_in (List.mem_append_left _ (List.mem_of_getElem? (i := 169) rfl)) rfl, rfl, rfl, by decide +kernel⟩ rfl rfl rfl (Nat.le_of_ble_eq_true rfl) rfl ?_
  refine zv_aload G (show decode prog_6_method_1_code 58 = .ok (.aload_n 0, 1) by decide +kernel) rfl ?_
  refine zv_iconst (v := (-1 : Int32)) G (show decode prog_6_method_1_code 59 = .ok (.iconst (-1), 1) by decide +kernel) rfl ?_
  refine zv_put (q0 := 0) (ci := 5) (x := 7) (ty := .int) (ws2 := [(h, .inr (5, [.int 0, .ref q1, .ref q2, .ref q4, .ref q6, .ref q8, .int 0, .int (-1), .null]))] ++ [sI g 0 4 q1] ++ sh_Values g 24 q2 q3 ++ sh_Values g 6 q4 q5 ++ sh_Orders g 6 q6 q7 ++ [sI g 0 6 q8]) G (show decode prog_6_method_1_code 60 = .ok (.putfield 37, 3) by decide +kernel) ⟨"ThinkNumber$State", zT5, 9, rfl, Nat.le_of_ble_eq_true rfl, tb_in (List.mem_append_left _ (List.mem_of_getElem? (i := 173) rfl)) rfl, rfl, by decide +kernel⟩ rfl rfl rfl (Nat.le_of_ble_eq_true rfl) rfl ?_
  refine zv_aload G (show decode prog_6_method_1_code 63 = .ok (.aload_n 0, 1) by decide +kernel) rfl ?_
  refine zv_new (ci := 6) (fs := [.null, .null, .int 0]) G (show decode prog_6_method_1_code 64 = .ok (.new 15, 3) by decide +kernel) rfl zL6 zY6 zO6 (tb_in (List.mem_append_left _ (List.mem_of_getElem? (i := 137) rfl)) rfl) (tb_in (List.mem_append_left _ (List.mem_of_getElem? (i := 138) rfl)) rfl) (tb_in (List.mem_append_left _ (List.mem_of_getElem? (i := 7) rfl)) rfl) zdf_6 (Nat.le_of_ble_eq_true rfl) (Nat.le_of_ble_eq_true rfl) (fun q9 => ?_)
  refine zv_dup G (show decode prog_6_method_1_code 67 = .ok (.dup, 1) by decide +kernel) rfl ?_
  refine zv_bipush (v := (25 : Int32)) G (show decode prog_6_method_1_code 68 = .ok (.bipush 25, 2) by decide +kernel) rfl ?_
  refine zv_init (n := 1) (cells := 12) (slots := 94) (wr := [(h, .inr (5, [.int 0, .ref q1, .ref q2, .ref q4, .ref q6, .ref q8, .int 0, .int (-1), .null]))] ++ [sI g 0 4 q1] ++ sh_Values g 24 q2 q3 ++ sh_Values g 6 q4 q5 ++ sh_Orders g 6 q6 q7 ++ [sI g 0 6 q8]) (wc := [(q9, .inr (6, [.null, .null, .int 0]))]) (as := [.int 25]) (st := [.ref q9, .ref h]) G (show decode prog_6_method_1_code 70 = .ok (.invokespecial 17, 3) by decide +kernel) (K2 := K_Values_init) ⟨Or.inl (tb_in (List.mem_append_left _ (List.mem_of_getElem? (i := 139) rfl)) rfl), tb_in (List.mem_append_left _ (List.mem_of_getElem? (i := 140) rfl)) rfl, tb_in (List.mem_append_left _ (List.mem_of_getElem? (i := 7) rfl)) rfl, tb_in (List.mem_append_left _ (List.mem_of_getElem? (i := 141) rfl)) rfl, Nat.le_of_ble_eq_true rfl, rfl, rfl, by decide +kernel, by decide +kernel, by decide +kernel⟩ (fun l => c_Values_init (n := 25) (N := 25) (by decide) rfl (Nat.le_of_ble_eq_true rfl)) rfl rfl (Nat.le_of_ble_eq_true rfl) (Nat.le_of_ble_eq_true rfl) (Nat.le_of_ble_eq_true rfl) ⟨Nat.le_of_ble_eq_true rfl, Nat.le_of_ble_eq_true rfl⟩ (fun w1 hw1 => ?_)
  obtain ⟨q10, rfl⟩ := hw1
  refine zv_putF (q0 := 0) (ci := 5) (x := 8) (ty := .object "ThinkNumber$Values") (ws2 := [(h, .inr (5, [.int 0, .ref q1, .ref q2, .ref q4, .ref q6, .ref q8, .int 0, .int (-1), .ref q9]))] ++ [sI g 0 4 q1] ++ sh_Values g 24 q2 q3 ++ sh_Values g 6 q4 q5 ++ sh_Orders g 6 q6 q7 ++ [sI g 0 6 q8] ++ sh_Values g 25 q9 q10) G (show decode prog_6_method_1_code 73 = .ok (.putfield 41, 3) by decide +kernel) rfl ⟨"ThinkNumber$State", zT5, 9, rfl, Nat.le_of_ble_eq_true rfl, tb_in (List.mem_append_left _ (List.mem_of_getElem? (i := 175) rfl)) rfl, rfl, rfl, by decide +kernel⟩ rfl rfl rfl (Nat.le_of_ble_eq_true rfl) rfl ?_
  exact zv_end G (show decode prog_6_method_1_code 76 = .ok (.return_, 1) by decide +kernel) rfl ⟨fun i => ([q1, q2, (q3 0), (q3 1), q4, (q5 0), (q5 1), q6, (q7 0), (q7 1), q8, q9, (q10 0), (q10 1)] : List Nat).getD i 0, rfl⟩
def K_Maker_init : ZK := (⟨"ThinkNumber$Maker", "<init>", "()V"⟩, prog_2_method_1_code, 1, none)
def sh_Maker (g : ZG) (h : Nat) (q : Nat → Nat) : va_W := [(h, .inr (11, [.ref (q 0), .ref (q 1), .ref (q 2), .ref (q 3), .int 0, .int 0, .int 0]))] ++ sG g (q 0) ++ [sI g 0 4 (q 1)] ++ sh_Value g (q 2) (fun j => q (3 + j)) ++ [sI g 0 5 (q 3)]
set_option maxRecDepth 20000 in
set_option maxHeartbeats 8000000 in
theorem c_Maker_init {g : ZG} {l : Launch} {h : Nat} : zC g l 2 10 (617) K_Maker_init [.ref h] [(h, .inr (11, [.null, .null, .null, .null, .int 0, .int 0, .int 0]))] (fun w => ∃ q : Nat → Nat, w = sh_Maker g h q) := by
  refine zC_of (by decide +kernel) (Nat.le_of_ble_eq_true rfl) (fun E A G => ?_)
  show zV g K_Maker_init A _ E [(h, .inr (11, [.null, .null, .null, .null, .int 0, .int 0, .int 0]))] 0 0 0 [some (.ref h)] []
  refine zv_aload G (show decode prog_2_method_1_code 0 = .ok (.aload_n 0, 1) by decide +kernel) rfl ?_
  refine zv_oi G (show decode prog_2_method_1_code 1 = .ok (.invokespecial 3, 3) by decide +kernel) (tb_in (List.mem_append_right _ (List.mem_append_left _ (List.mem_of_getElem? (i := 45) rfl))) rfl) (tb_in (List.mem_append_left _ (List.mem_of_getElem? (i := 28) rfl)) rfl) (tb_in (List.mem_append_left _ (List.mem_of_getElem? (i := 29) rfl)) rfl) (Nat.le_of_ble_eq_true rfl) (Nat.le_of_ble_eq_true rfl) ?_
  refine zv_aload G (show decode prog_2_method_1_code 4 = .ok (.aload_n 0, 1) by decide +kernel) rfl ?_
  refine zv_bipush (v := (6 : Int32)) G (show decode prog_2_method_1_code 5 = .ok (.bipush 6, 2) by decide +kernel) rfl ?_
  refine zv_bipush (v := (100 : Int32)) G (show decode prog_2_method_1_code 7 = .ok (.bipush 100, 2) by decide +kernel) rfl ?_
  refine zv_mna G (show decode prog_2_method_1_code 9 = .ok (.multianewarray 9 2, 4) by decide +kernel) (tb_in (List.mem_append_right _ (List.mem_append_left _ (List.mem_of_getElem? (i := 46) rfl))) rfl) (tb_in (List.mem_append_left _ (List.mem_of_getElem? (i := 156) rfl)) rfl) (Nat.le_of_ble_eq_true rfl) (Nat.le_of_ble_eq_true rfl) (fun q1 => ?_)
  refine zv_putF (q0 := 0) (ci := 11) (x := 0) (ty := .array (.array (.long))) (ws2 := [(h, .inr (11, [.ref q1, .null, .null, .null, .int 0, .int 0, .int 0]))] ++ sG g q1) G (show decode prog_2_method_1_code 13 = .ok (.putfield 11, 3) by decide +kernel) rfl ⟨"ThinkNumber$Maker", zT11, 7, rfl, Nat.le_of_ble_eq_true rfl, tb_in (List.mem_append_right _ (List.mem_append_left _ (List.mem_of_getElem? (i := 50) rfl))) rfl, rfl, rfl, by decide +kernel⟩ rfl rfl rfl (Nat.le_of_ble_eq_true rfl) rfl ?_
  refine zv_aload G (show decode prog_2_method_1_code 16 = .ok (.aload_n 0, 1) by decide +kernel) rfl ?_
  refine zv_iconst (v := (4 : Int32)) G (show decode prog_2_method_1_code 17 = .ok (.iconst 4, 1) by decide +kernel) rfl ?_
  refine zv_newa (N' := 4) (t := 0) (a0 := (4, .inl (fun _ => 0))) G (show decode prog_2_method_1_code 18 = .ok (.newarray .int, 2) by decide +kernel) (tb_in (List.mem_append_left _ (List.mem_of_getElem? (i := 112) rfl)) rfl) (fun s h => h.1) (fun cA => rfl) (by decide) rfl (Nat.le_of_ble_eq_true rfl) (Nat.le_of_ble_eq_true rfl) (Nat.le_of_ble_eq_true rfl) (fun q2 => ?_)
  refine zv_putF (q0 := 0) (ci := 11) (x := 1) (ty := .array (.int)) (ws2 := [(h, .inr (11, [.ref q1, .ref q2, .null, .null, .int 0, .int 0, .int 0]))] ++ sG g q1 ++ [sI g 0 4 q2]) G (show decode prog_2_method_1_code 20 = .ok (.putfield 16, 3) by decide +kernel) rfl ⟨"ThinkNumber$Maker", zT11, 7, rfl, Nat.le_of_ble_eq_true rfl, tb_in (List.mem_append_right _ (List.mem_append_left _ (List.mem_of_getElem? (i := 51) rfl))) rfl, rfl, rfl, by decide +kernel⟩ rfl rfl rfl (Nat.le_of_ble_eq_true rfl) rfl ?_
  refine zv_aload G (show decode prog_2_method_1_code 23 = .ok (.aload_n 0, 1) by decide +kernel) rfl ?_
  refine zv_new (ci := 7) (fs := [.long 0, .long 0]) G (show decode prog_2_method_1_code 24 = .ok (.new 20, 3) by decide +kernel) rfl zL7 zY7 zO7 (tb_in (List.mem_append_right _ (List.mem_append_left _ (List.mem_of_getElem? (i := 48) rfl))) rfl) (tb_in (List.mem_append_left _ (List.mem_of_getElem? (i := 197) rfl)) rfl) (tb_in (List.mem_append_left _ (List.mem_of_getElem? (i := 8) rfl)) rfl) zdf_7 (Nat.le_of_ble_eq_true rfl) (Nat.le_of_ble_eq_true rfl) (fun q3 => ?_)
  refine zv_dup G (show decode prog_2_method_1_code 27 = .ok (.dup, 1) by decide +kernel) rfl ?_
  refine zv_init (n := 0) (cells := 9) (slots := 612) (wr := [(h, .inr (11, [.ref q1, .ref q2, .null, .null, .int 0, .int 0, .int 0]))] ++ sG g q1 ++ [sI g 0 4 q2]) (wc := [(q3, .inr (7, [.long 0, .long 0]))]) (as := []) (st := [.ref q3, .ref h]) G (show decode prog_2_method_1_code 28 = .ok (.invokespecial 22, 3) by decide +kernel) (K2 := K_Value_init) ⟨Or.inr ⟨_, List.mem_filter.mpr ⟨List.mem_append_right _ (List.mem_append_left _ (List.mem_of_getElem? (i := 49) rfl)), rfl⟩⟩, tb_in (List.mem_append_left _ (List.mem_of_getElem? (i := 199) rfl)) rfl, tb_in (List.mem_append_left _ (List.mem_of_getElem? (i := 8) rfl)) rfl, tb_in (List.mem_append_left _ (List.mem_of_getElem? (i := 200) rfl)) rfl, Nat.le_of_ble_eq_true rfl, rfl, rfl, by decide +kernel, by decide +kernel, by decide +kernel⟩ (fun l => c_Value_init) rfl rfl (Nat.le_of_ble_eq_true rfl) (Nat.le_of_ble_eq_true rfl) (Nat.le_of_ble_eq_true rfl) ⟨Nat.le_of_ble_eq_true rfl, Nat.le_of_ble_eq_true rfl⟩ (fun w1 hw1 => ?_)
  obtain ⟨q4, rfl⟩ := hw1
  refine zv_putF (q0 := 0) (ci := 11) (x := 2) (ty := .object "ThinkNumber$Value") (ws2 := [(h, .inr (11, [.ref q1, .ref q2, .ref q3, .null, .int 0, .int 0, .int 0]))] ++ sG g q1 ++ [sI g 0 4 q2] ++ sh_Value g q3 q4) G (show decode prog_2_method_1_code 31 = .ok (.putfield 23, 3) by decide +kernel) rfl ⟨"ThinkNumber$Maker", zT11, 7, rfl, Nat.le_of_ble_eq_true rfl, tb_in (List.mem_append_right _ (List.mem_append_left _ (List.mem_of_getElem? (i := 52) rfl))) rfl, rfl, rfl, by decide +kernel⟩ rfl rfl rfl (Nat.le_of_ble_eq_true rfl) rfl ?_
  refine zv_aload G (show decode prog_2_method_1_code 34 = .ok (.aload_n 0, 1) by decide +kernel) rfl ?_
  refine zv_iconst (v := (5 : Int32)) G (show decode prog_2_method_1_code 35 = .ok (.iconst 5, 1) by decide +kernel) rfl ?_
  refine zv_newa (N' := 5) (t := 0) (a0 := (5, .inl (fun _ => 0))) G (show decode prog_2_method_1_code 36 = .ok (.newarray .int, 2) by decide +kernel) (tb_in (List.mem_append_left _ (List.mem_of_getElem? (i := 112) rfl)) rfl) (fun s h => h.1) (fun cA => rfl) (by decide) rfl (Nat.le_of_ble_eq_true rfl) (Nat.le_of_ble_eq_true rfl) (Nat.le_of_ble_eq_true rfl) (fun q5 => ?_)
  refine zv_putF (q0 := 0) (ci := 11) (x := 3) (ty := .array (.int)) (ws2 := [(h, .inr (11, [.ref q1, .ref q2, .ref q3, .ref q5, .int 0, .int 0, .int 0]))] ++ sG g q1 ++ [sI g 0 4 q2] ++ sh_Value g q3 q4 ++ [sI g 0 5 q5]) G (show decode prog_2_method_1_code 38 = .ok (.putfield 27, 3) by decide +kernel) rfl ⟨"ThinkNumber$Maker", zT11, 7, rfl, Nat.le_of_ble_eq_true rfl, tb_in (List.mem_append_right _ (List.mem_append_left _ (List.mem_of_getElem? (i := 53) rfl))) rfl, rfl, rfl, by decide +kernel⟩ rfl rfl rfl (Nat.le_of_ble_eq_true rfl) rfl ?_
  exact zv_end G (show decode prog_2_method_1_code 41 = .ok (.return_, 1) by decide +kernel) rfl ⟨fun i => ([q1, q2, q3, q5] : List Nat).getD i 0, rfl⟩
