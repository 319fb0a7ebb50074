theorem ck_X7_pattern {h : dp_H} {x0 : Nat} {x1 : Int32} {x2 : Int32} {r : Int32} (hm : m_X7_pattern h x0 x1 x2 = some r) : dp_is h x0 7 = true := (dp_ck_e hm).1
set_option maxRecDepth 100000 in
set_option maxHeartbeats 4000000 in
theorem c_X7_pattern (l : Launch) (D : va_G) (a : dp_A) (B : Nat) (h : dp_H) (x0 : Nat) (x1 : Int32) (x2 : Int32) {r : Int32} (hm : m_X7_pattern h x0 x1 x2 = some r) : dp_M l D a B yX7_pattern cX7_pattern 3 (some .int) rm_X7_pattern [.ref (B + x0), .int x1, .int x2] h (some (.int r)) h := by
  refine dp_M.of (own := RX7) (nm := "pattern") (by decide) rfl rfl (Nat.le_of_ble_eq_true rfl) ?_
  intro p e s m below meth c ls X hr hin hw hl
  have hl : lv_has ls 3 [(0, .ref (B + x0)), (1, .int x1), (2, .int x2)] := hl
  obtain ⟨hx, hb, hml, hown, hlk, hK, hB⟩ := id X
  unfold m_X7_pattern at hm
  obtain ⟨hck, hm⟩ := dp_ck_e hm
  refine lv_aload_n hx hb dX7_pattern_0 rfl (lv_at hl 0 rfl) ?_
  refine lv_iload_n hx hb dX7_pattern_1 rfl (lv_at hl 1 rfl) ?_
  obtain ⟨v1, ev1, hm⟩ := dp_ob hm
  refine dp_cV (As := [.int x1]) (rest := []) X hw (c_X7_isPattern l D a B h x0 x1 ev1) vm_X7_isPattern ml_X7_116 (by decide) rfl rfl (ck_X7_isPattern ev1) rfl rfl hl.1 rfl (Nat.le_of_ble_eq_true rfl) dX7_pattern_2 ⟨(Nat.zero_le _), (Nat.zero_le _)⟩ (fun H locs hw => ?_)
  refine lv_if_ne (tgt := 12) hx hb dX7_pattern_5 (by decide) (fun hc => ?_) (fun hc => ?_)
  · have hm := dp_in hc hm
    refine lv_iload_n hx hb dX7_pattern_12 rfl (lv_at hl 2 rfl) ?_
    refine lv_iconst (v := 0) hx hb dX7_pattern_13 (by decide) ?_
    refine lv_iconst (v := 5) hx hb dX7_pattern_14 (by decide) ?_
    obtain ⟨v2, ev2, hm⟩ := dp_ob hm
    refine dp_cS (As := [.int x2, .int 0, .int 5]) (rest := []) X hw (c_X7_within l D a B h x2 0 5 ev2) sm_X7_within st_X7_within ml_X7_50 (by decide) rfl rfl rfl hl.1 rfl (Nat.le_of_ble_eq_true rfl) dX7_pattern_15 ⟨(Nat.zero_le _), (Nat.zero_le _)⟩ (fun H locs hw => ?_)
    refine lv_if_eq (tgt := 30) hx hb dX7_pattern_18 (by decide) (fun hc => ?_) (fun hc => ?_)
    · have hm := dp_ip hc hm
      refine lv_sipush (v := (-1002)) hx hb dX7_pattern_30 (by decide) ?_
      cases hm
      exact dp_iret X hr hw dX7_pattern_33
    · have hm := dp_in hc hm
      refine lv_aload_n hx hb dX7_pattern_21 rfl (lv_at hl 0 rfl) ?_
      refine lv_iload_n hx hb dX7_pattern_22 rfl (lv_at hl 1 rfl) ?_
      refine lv_iload_n hx hb dX7_pattern_23 rfl (lv_at hl 2 rfl) ?_
      obtain ⟨v3, ev3, hm⟩ := dp_ob hm
      refine dp_cV (As := [.int x1, .int x2]) (rest := []) X hw (c_X7_patternNow l D a B h x0 x1 x2 ev3) vm_X7_patternNow ml_X7_127 (by decide) rfl rfl (ck_X7_patternNow ev3) rfl rfl hl.1 rfl (Nat.le_of_ble_eq_true rfl) dX7_pattern_24 ⟨(Nat.zero_le _), (Nat.zero_le _)⟩ (fun H locs hw => ?_)
      refine lv_goto (tgt := 33) hx hb dX7_pattern_27 (by decide) ?_
      cases hm
      exact dp_iret X hr hw dX7_pattern_33
  · have hm := dp_ip hc hm
    refine lv_sipush (v := (-1001)) hx hb dX7_pattern_8 (by decide) ?_
    cases hm
    exact dp_iret X hr hw dX7_pattern_11
theorem ck_X7_lets {h : dp_H} {x0 : Nat} {x1 : Int32} {x2 : Int32} {r : Int32} (hm : m_X7_lets h x0 x1 x2 = some r) : dp_is h x0 7 = true := (dp_ck_e hm).1
set_option maxRecDepth 100000 in
set_option maxHeartbeats 4000000 in
theorem c_X7_lets (l : Launch) (D : va_G) (a : dp_A) (B : Nat) (h : dp_H) (x0 : Nat) (x1 : Int32) (x2 : Int32) {r : Int32} (hm : m_X7_lets h x0 x1 x2 = some r) : dp_M l D a B yX7_lets cX7_lets 3 (some .int) rm_X7_lets [.ref (B + x0), .int x1, .int x2] h (some (.int r)) h := by
  refine dp_M.of (own := RX7) (nm := "lets") (by decide) rfl rfl (Nat.le_of_ble_eq_true rfl) ?_
  intro p e s m below meth c ls X hr hin hw hl
  have hl : lv_has ls 3 [(0, .ref (B + x0)), (1, .int x1), (2, .int x2)] := hl
  obtain ⟨hx, hb, hml, hown, hlk, hK, hB⟩ := id X
  unfold m_X7_lets at hm
  obtain ⟨hck, hm⟩ := dp_ck_e hm
  refine lv_aload_n hx hb dX7_lets_0 rfl (lv_at hl 0 rfl) ?_
  refine lv_iload_n hx hb dX7_lets_1 rfl (lv_at hl 1 rfl) ?_
  obtain ⟨v1, ev1, hm⟩ := dp_ob hm
  refine dp_cV (As := [.int x1]) (rest := []) X hw (c_X7_isPattern l D a B h x0 x1 ev1) vm_X7_isPattern ml_X7_116 (by decide) rfl rfl (ck_X7_isPattern ev1) rfl rfl hl.1 rfl (Nat.le_of_ble_eq_true rfl) dX7_lets_2 ⟨(Nat.zero_le _), (Nat.zero_le _)⟩ (fun H locs hw => ?_)
  refine lv_if_ne (tgt := 12) hx hb dX7_lets_5 (by decide) (fun hc => ?_) (fun hc => ?_)
  · have hm := dp_in hc hm
    refine lv_iload_n hx hb dX7_lets_12 rfl (lv_at hl 2 rfl) ?_
    refine lv_iconst (v := 0) hx hb dX7_lets_13 (by decide) ?_
    refine lv_bipush (v := 9) hx hb dX7_lets_14 (by decide) ?_
    obtain ⟨v2, ev2, hm⟩ := dp_ob hm
    refine dp_cS (As := [.int x2, .int 0, .int 9]) (rest := []) X hw (c_X7_within l D a B h x2 0 9 ev2) sm_X7_within st_X7_within ml_X7_50 (by decide) rfl rfl rfl hl.1 rfl (Nat.le_of_ble_eq_true rfl) dX7_lets_16 ⟨(Nat.zero_le _), (Nat.zero_le _)⟩ (fun H locs hw => ?_)
    refine lv_if_eq (tgt := 31) hx hb dX7_lets_19 (by decide) (fun hc => ?_) (fun hc => ?_)
    · have hm := dp_ip hc hm
      refine lv_sipush (v := (-1002)) hx hb dX7_lets_31 (by decide) ?_
      cases hm
      exact dp_iret X hr hw dX7_lets_34
    · have hm := dp_in hc hm
      refine lv_aload_n hx hb dX7_lets_22 rfl (lv_at hl 0 rfl) ?_
      refine lv_iload_n hx hb dX7_lets_23 rfl (lv_at hl 1 rfl) ?_
      refine lv_iload_n hx hb dX7_lets_24 rfl (lv_at hl 2 rfl) ?_
      obtain ⟨v3, ev3, hm⟩ := dp_ob hm
      refine dp_cV (As := [.int x1, .int x2]) (rest := []) X hw (c_X7_letsOf l D a B h x0 x1 x2 ev3) vm_X7_letsOf ml_X7_131 (by decide) rfl rfl (ck_X7_letsOf ev3) rfl rfl hl.1 rfl (Nat.le_of_ble_eq_true rfl) dX7_lets_25 ⟨(Nat.zero_le _), (Nat.zero_le _)⟩ (fun H locs hw => ?_)
      refine lv_goto (tgt := 34) hx hb dX7_lets_28 (by decide) ?_
      cases hm
      exact dp_iret X hr hw dX7_lets_34
  · have hm := dp_ip hc hm
    refine lv_sipush (v := (-1001)) hx hb dX7_lets_8 (by decide) ?_
    cases hm
    exact dp_iret X hr hw dX7_lets_11
theorem ck_X7_wide {h : dp_H} {x0 : Nat} {x1 : Int32} {x2 : Int32} {r : Int32} (hm : m_X7_wide h x0 x1 x2 = some r) : dp_is h x0 7 = true := (dp_ck_e hm).1
set_option maxRecDepth 100000 in
set_option maxHeartbeats 4000000 in
theorem c_X7_wide (l : Launch) (D : va_G) (a : dp_A) (B : Nat) (h : dp_H) (x0 : Nat) (x1 : Int32) (x2 : Int32) {r : Int32} (hm : m_X7_wide h x0 x1 x2 = some r) : dp_M l D a B yX7_wide cX7_wide 3 (some .int) rm_X7_wide [.ref (B + x0), .int x1, .int x2] h (some (.int r)) h := by
  refine dp_M.of (own := RX7) (nm := "wide") (by decide) rfl rfl (Nat.le_of_ble_eq_true rfl) ?_
  intro p e s m below meth c ls X hr hin hw hl
  have hl : lv_has ls 3 [(0, .ref (B + x0)), (1, .int x1), (2, .int x2)] := hl
  obtain ⟨hx, hb, hml, hown, hlk, hK, hB⟩ := id X
  unfold m_X7_wide at hm
  obtain ⟨hck, hm⟩ := dp_ck_e hm
  refine lv_iload_n hx hb dX7_wide_0 rfl (lv_at hl 2 rfl) ?_
  refine lv_aload_n hx hb dX7_wide_1 rfl (lv_at hl 0 rfl) ?_
  obtain ⟨v1, ev1, hm⟩ := dp_ob hm
  refine dp_getr X hw cl_X7 3 (by decide) fl_X7_13 ev1 dX7_wide_2 ?_
  refine lv_iload_n hx hb dX7_wide_5 rfl (lv_at hl 1 rfl) ?_
  obtain ⟨v2, ev2, hm⟩ := dp_ob hm
  refine dp_iald X hw ev2 dX7_wide_6 ?_
  refine lv_icmp_ge (tgt := 27) hx hb dX7_wide_7 (by decide) (fun hc => ?_) (fun hc => ?_)
  · have hm := dp_ip hc hm
    refine lv_aload_n hx hb dX7_wide_27 rfl (lv_at hl 0 rfl) ?_
    obtain ⟨v3, ev3, hm⟩ := dp_ob hm
    refine dp_getr X hw cl_X7 4 (by decide) fl_X7_16 ev3 dX7_wide_28 ?_
    refine lv_iload_n hx hb dX7_wide_31 rfl (lv_at hl 1 rfl) ?_
    obtain ⟨v4, ev4, hm⟩ := dp_ob hm
    refine dp_zald X hw ev4 dX7_wide_32 ?_
    refine lv_if_eq (tgt := 41) hx hb dX7_wide_33 (by decide) (fun hc => ?_) (fun hc => ?_)
    · have hm := dp_ip hc hm
      refine lv_iconst (v := 0) hx hb dX7_wide_41 (by decide) ?_
      cases hm
      exact dp_iret X hr hw dX7_wide_42
    · have hm := dp_in hc hm
      refine lv_bipush (v := 11) hx hb dX7_wide_36 (by decide) ?_
      refine lv_goto (tgt := 42) hx hb dX7_wide_38 (by decide) ?_
      cases hm
      exact dp_iret X hr hw dX7_wide_42
  · have hm := dp_in hc hm
    refine lv_aload_n hx hb dX7_wide_10 rfl (lv_at hl 0 rfl) ?_
    obtain ⟨v5, ev5, hm⟩ := dp_ob hm
    refine dp_getr X hw cl_X7 5 (by decide) fl_X7_20 ev5 dX7_wide_11 ?_
    refine lv_bipush (v := 8) hx hb dX7_wide_14 (by decide) ?_
    refine lv_iload_n hx hb dX7_wide_16 rfl (lv_at hl 1 rfl) ?_
    refine lv_imul hx hb dX7_wide_17 ?_
    refine lv_iload_n hx hb dX7_wide_18 rfl (lv_at hl 2 rfl) ?_
    refine lv_iadd hx hb dX7_wide_19 ?_
    obtain ⟨v6, ev6, hm⟩ := dp_ob hm
    refine dp_iald X hw ev6 dX7_wide_20 ?_
    obtain ⟨v7, ev7, hm⟩ := dp_ob hm
    refine dp_cS (As := [.int v6]) (rest := []) X hw (c_X7_ones l D a B h v6 ev7) sm_X7_ones st_X7_ones ml_X7_134 (by decide) rfl rfl rfl hl.1 rfl (Nat.le_of_ble_eq_true rfl) dX7_wide_21 ⟨(Nat.zero_le _), (Nat.zero_le _)⟩ (fun H locs hw => ?_)
    refine lv_goto (tgt := 42) hx hb dX7_wide_24 (by decide) ?_
    cases hm
    exact dp_iret X hr hw dX7_wide_42
set_option maxRecDepth 100000 in
set_option maxHeartbeats 4000000 in
theorem v_X7_compare_5 {p : Program} {l : Launch} {e : Env} {s : State} {m : MethodId} {args : Array Value} {below : List Frame} {meth : Method} {c : Code} {D : va_G} {a : dp_A} {B : Nat} (X : dp_X p s m meth c cX7_compare 5 RX7 D a B) (hr : meth.sig.returnType = (some .int)) {h : dp_H} {r : Int32} {k5 : Nat → Int32 → Int32 → Int32 → Int32 → Option Int32} (hk5 : ∀ (x0 : Nat) (x1 : Int32) (x2 : Int32) (x3 : Int32) (x4 : Int32), k5 x0 x1 x2 x3 x4 = some r → ∀ (H : Heap) (locs : List Loc) (ls : Array Slot), dp_w D a B h s.heap H locs → lv_has ls 5 [(0, .ref (B + x0)), (1, .int x1), (2, .int x2), (3, .int x3), (4, .int x4)] → W p l e rm_X7_compare s m args below meth c H locs 0 0 (MQ below (dp_Q D a B (some (.int r)) h) args s rm_X7_compare.cells rm_X7_compare.slots (fun q => B ≤ q)) (F0 m 5 ls [])) : ∀ (x0 : Nat) (x1 : Int32) (x2 : Int32) (x3 : Int32) (x4 : Int32), b_X7_compare_5 h k5 x0 x1 x2 x3 x4 = some r → ∀ (H : Heap) (locs : List Loc) (ls : Array Slot), dp_w D a B h s.heap H locs → lv_has ls 5 [(0, .ref (B + x0)), (1, .int x1), (2, .int x2), (3, .int x3), (4, .int x4)] → W p l e rm_X7_compare s m args below meth c H locs 0 0 (MQ below (dp_Q D a B (some (.int r)) h) args s rm_X7_compare.cells rm_X7_compare.slots (fun q => B ≤ q)) (F0 m 5 ls []) := by
  intro x0 x1 x2 x3 x4 hm H locs ls hw hl
  obtain ⟨hx, hb, hml, hown, hlk, hK, hB⟩ := id X
  unfold b_X7_compare_5 at hm
  refine lv_iload hx hb dX7_compare_5 (lv_at hl 4 rfl) ?_
  refine lv_bipush (v := 10) hx hb dX7_compare_7 (by decide) ?_
  refine lv_icmp_ge (tgt := 38) hx hb dX7_compare_9 (by decide) (fun hc => ?_) (fun hc => ?_)
  · have hm := dp_ip hc hm
    refine lv_iload_n hx hb dX7_compare_38 rfl (lv_at hl 3 rfl) ?_
    cases hm
    exact dp_iret X hr hw dX7_compare_39
  · have hm := dp_in hc hm
    refine lv_iload_n hx hb dX7_compare_12 rfl (lv_at hl 3 rfl) ?_
    refine lv_if_ne (tgt := 38) hx hb dX7_compare_13 (by decide) (fun hc => ?_) (fun hc => ?_)
    · have hm := dp_in hc hm
      refine lv_iload_n hx hb dX7_compare_38 rfl (lv_at hl 3 rfl) ?_
      cases hm
      exact dp_iret X hr hw dX7_compare_39
    · have hm := dp_ip hc hm
      refine lv_aload_n hx hb dX7_compare_16 rfl (lv_at hl 0 rfl) ?_
      refine lv_iload_n hx hb dX7_compare_17 rfl (lv_at hl 1 rfl) ?_
      refine lv_iload hx hb dX7_compare_18 (lv_at hl 4 rfl) ?_
      obtain ⟨v1, ev1, hm⟩ := dp_ob hm
      refine dp_cV (As := [.int x1, .int x4]) (rest := []) X hw (c_X7_wide l D a B h x0 x1 x4 ev1) vm_X7_wide ml_X7_137 (by decide) rfl rfl (ck_X7_wide ev1) rfl rfl hl.1 rfl (Nat.le_of_ble_eq_true rfl) dX7_compare_20 ⟨(Nat.zero_le _), (Nat.zero_le _)⟩ (fun H locs hw => ?_)
      refine lv_aload_n hx hb dX7_compare_23 rfl (lv_at hl 0 rfl) ?_
      refine lv_iload_n hx hb dX7_compare_24 rfl (lv_at hl 2 rfl) ?_
      refine lv_iload hx hb dX7_compare_25 (lv_at hl 4 rfl) ?_
      obtain ⟨v2, ev2, hm⟩ := dp_ob hm
      refine dp_cV (As := [.int x2, .int x4]) (rest := [.int v1]) X hw (c_X7_wide l D a B h x0 x2 x4 ev2) vm_X7_wide ml_X7_137 (by decide) rfl rfl (ck_X7_wide ev2) rfl rfl hl.1 rfl (Nat.le_of_ble_eq_true rfl) dX7_compare_27 ⟨(Nat.zero_le _), (Nat.zero_le _)⟩ (fun H locs hw => ?_)
      refine lv_isub hx hb dX7_compare_30 ?_
      refine lv_istore_n (lv' := [(3, .int (v1 - v2)), (0, .ref (B + x0)), (1, .int x1), (2, .int x2), (4, .int x4)]) hx hb dX7_compare_31 rfl hl (by decide) rfl (fun ls hl => ?_)
      refine lv_iinc (v := (x4 + 1)) (lv' := [(4, .int (x4 + 1)), (3, .int (v1 - v2)), (0, .ref (B + x0)), (1, .int x1), (2, .int x2)]) hx hb dX7_compare_32 hl (k := 4) rfl rfl (by decide) rfl (fun ls hl => ?_)
      refine lv_goto (tgt := 5) hx hb dX7_compare_35 (by decide) ?_
      exact hk5 x0 x1 x2 (v1 - v2) (x4 + 1) hm _ _ _ hw (lv_sub hl [2, 3, 4, 1, 0] rfl)
set_option maxRecDepth 100000 in
set_option maxHeartbeats 4000000 in
theorem w_X7_compare_5 {p : Program} {l : Launch} {e : Env} {s : State} {m : MethodId} {args : Array Value} {below : List Frame} {meth : Method} {c : Code} {D : va_G} {a : dp_A} {B : Nat} (X : dp_X p s m meth c cX7_compare 5 RX7 D a B) (hr : meth.sig.returnType = (some .int)) {h : dp_H} {r : Int32}  : ∀ (n : Nat) (x0 : Nat) (x1 : Int32) (x2 : Int32) (x3 : Int32) (x4 : Int32), m_X7_compare_5 h  n x0 x1 x2 x3 x4 = some r → ∀ (H : Heap) (locs : List Loc) (ls : Array Slot), dp_w D a B h s.heap H locs → lv_has ls 5 [(0, .ref (B + x0)), (1, .int x1), (2, .int x2), (3, .int x3), (4, .int x4)] → W p l e rm_X7_compare s m args below meth c H locs 0 0 (MQ below (dp_Q D a B (some (.int r)) h) args s rm_X7_compare.cells rm_X7_compare.slots (fun q => B ≤ q)) (F0 m 5 ls []) := by
  intro n
  induction n with
  | zero => intro x0 x1 x2 x3 x4 hm; cases hm
  | succ n ih => intro x0 x1 x2 x3 x4 hm; exact v_X7_compare_5 X hr ih x0 x1 x2 x3 x4 hm
theorem ck_X7_compare {h : dp_H} {x0 : Nat} {x1 : Int32} {x2 : Int32} {r : Int32} (hm : m_X7_compare h x0 x1 x2 = some r) : dp_is h x0 7 = true := (dp_ck_e hm).1
set_option maxRecDepth 100000 in
set_option maxHeartbeats 4000000 in
theorem c_X7_compare (l : Launch) (D : va_G) (a : dp_A) (B : Nat) (h : dp_H) (x0 : Nat) (x1 : Int32) (x2 : Int32) {r : Int32} (hm : m_X7_compare h x0 x1 x2 = some r) : dp_M l D a B yX7_compare cX7_compare 5 (some .int) rm_X7_compare [.ref (B + x0), .int x1, .int x2] h (some (.int r)) h := by
  refine dp_M.of (own := RX7) (nm := "compare") (by decide) rfl rfl (Nat.le_of_ble_eq_true rfl) ?_
  intro p e s m below meth c ls X hr hin hw hl
  have hl : lv_has ls 5 [(0, .ref (B + x0)), (1, .int x1), (2, .int x2)] := hl
  obtain ⟨hx, hb, hml, hown, hlk, hK, hB⟩ := id X
  unfold m_X7_compare at hm
  obtain ⟨hck, hm⟩ := dp_ck_e hm
  refine lv_iconst (v := 0) hx hb dX7_compare_0 (by decide) ?_
  refine lv_istore_n (lv' := [(3, .int 0), (0, .ref (B + x0)), (1, .int x1), (2, .int x2)]) hx hb dX7_compare_1 rfl hl (by decide) rfl (fun ls hl => ?_)
  refine lv_iconst (v := 0) hx hb dX7_compare_2 (by decide) ?_
  refine lv_istore (lv' := [(4, .int 0), (3, .int 0), (0, .ref (B + x0)), (1, .int x1), (2, .int x2)]) hx hb dX7_compare_3 hl (by decide) rfl (fun ls hl => ?_)
  exact w_X7_compare_5 X hr 64 x0 x1 x2 0 0 hm _ _ _ hw (lv_sub hl [2, 3, 4, 1, 0] rfl)
theorem ck_X7_narrower {h : dp_H} {x0 : Nat} {x1 : Int32} {x2 : Int32} {r : Int32} (hm : m_X7_narrower h x0 x1 x2 = some r) : dp_is h x0 7 = true := (dp_ck_e hm).1
set_option maxRecDepth 100000 in
set_option maxHeartbeats 4000000 in
theorem c_X7_narrower (l : Launch) (D : va_G) (a : dp_A) (B : Nat) (h : dp_H) (x0 : Nat) (x1 : Int32) (x2 : Int32) {r : Int32} (hm : m_X7_narrower h x0 x1 x2 = some r) : dp_M l D a B yX7_narrower cX7_narrower 4 (some .int) rm_X7_narrower [.ref (B + x0), .int x1, .int x2] h (some (.int r)) h := by
  refine dp_M.of (own := RX7) (nm := "narrower") (by decide) rfl rfl (Nat.le_of_ble_eq_true rfl) ?_
  intro p e s m below meth c ls X hr hin hw hl
  have hl : lv_has ls 4 [(0, .ref (B + x0)), (1, .int x1), (2, .int x2)] := hl
  obtain ⟨hx, hb, hml, hown, hlk, hK, hB⟩ := id X
  unfold m_X7_narrower at hm
  obtain ⟨hck, hm⟩ := dp_ck_e hm
  refine lv_aload_n hx hb dX7_narrower_0 rfl (lv_at hl 0 rfl) ?_
  refine lv_iload_n hx hb dX7_narrower_1 rfl (lv_at hl 1 rfl) ?_
  obtain ⟨v1, ev1, hm⟩ := dp_ob hm
  refine dp_cV (As := [.int x1]) (rest := []) X hw (c_X7_isPattern l D a B h x0 x1 ev1) vm_X7_isPattern ml_X7_116 (by decide) rfl rfl (ck_X7_isPattern ev1) rfl rfl hl.1 rfl (Nat.le_of_ble_eq_true rfl) dX7_narrower_2 ⟨(Nat.zero_le _), (Nat.zero_le _)⟩ (fun H locs hw => ?_)
  refine lv_if_eq (tgt := 16) hx hb dX7_narrower_5 (by decide) (fun hc => ?_) (fun hc => ?_)
  · have hm := dp_ip hc hm
    refine lv_sipush (v := (-1001)) hx hb dX7_narrower_16 (by decide) ?_
    cases hm
    exact dp_iret X hr hw dX7_narrower_19
  · have hm := dp_in hc hm
    refine lv_aload_n hx hb dX7_narrower_8 rfl (lv_at hl 0 rfl) ?_
    refine lv_iload_n hx hb dX7_narrower_9 rfl (lv_at hl 2 rfl) ?_
    obtain ⟨v2, ev2, hm⟩ := dp_ob hm
    refine dp_cV (As := [.int x2]) (rest := []) X hw (c_X7_isPattern l D a B h x0 x2 ev2) vm_X7_isPattern ml_X7_116 (by decide) rfl rfl (ck_X7_isPattern ev2) rfl rfl hl.1 rfl (Nat.le_of_ble_eq_true rfl) dX7_narrower_10 ⟨(Nat.zero_le _), (Nat.zero_le _)⟩ (fun H locs hw => ?_)
    refine lv_if_ne (tgt := 20) hx hb dX7_narrower_13 (by decide) (fun hc => ?_) (fun hc => ?_)
    · have hm := dp_in hc hm
      refine lv_aload_n hx hb dX7_narrower_20 rfl (lv_at hl 0 rfl) ?_
      refine lv_iload_n hx hb dX7_narrower_21 rfl (lv_at hl 1 rfl) ?_
      refine lv_iload_n hx hb dX7_narrower_22 rfl (lv_at hl 2 rfl) ?_
      obtain ⟨v3, ev3, hm⟩ := dp_ob hm
      refine dp_cV (As := [.int x1, .int x2]) (rest := []) X hw (c_X7_compare l D a B h x0 x1 x2 ev3) vm_X7_compare ml_X7_140 (by decide) rfl rfl (ck_X7_compare ev3) rfl rfl hl.1 rfl (Nat.le_of_ble_eq_true rfl) dX7_narrower_23 ⟨(Nat.zero_le _), (Nat.zero_le _)⟩ (fun H locs hw => ?_)
      refine lv_istore_n (lv' := [(3, .int v3), (0, .ref (B + x0)), (1, .int x1), (2, .int x2)]) hx hb dX7_narrower_26 rfl hl (by decide) rfl (fun ls hl => ?_)
      refine lv_iload_n hx hb dX7_narrower_27 rfl (lv_at hl 0 rfl) ?_
      refine lv_if_ge (tgt := 35) hx hb dX7_narrower_28 (by decide) (fun hc => ?_) (fun hc => ?_)
      · have hm := dp_ip hc hm
        refine lv_iload_n hx hb dX7_narrower_35 rfl (lv_at hl 0 rfl) ?_
        refine lv_if_le (tgt := 43) hx hb dX7_narrower_36 (by decide) (fun hc => ?_) (fun hc => ?_)
        · have hm := dp_ip hc hm
          refine lv_iconst (v := 2) hx hb dX7_narrower_43 (by decide) ?_
          cases hm
          exact dp_iret X hr hw dX7_narrower_44
        · have hm := dp_in hc hm
          refine lv_iconst (v := 1) hx hb dX7_narrower_39 (by decide) ?_
          refine lv_goto (tgt := 44) hx hb dX7_narrower_40 (by decide) ?_
          cases hm
          exact dp_iret X hr hw dX7_narrower_44
      · have hm := dp_in hc hm
        refine lv_iconst (v := 0) hx hb dX7_narrower_31 (by decide) ?_
        refine lv_goto (tgt := 44) hx hb dX7_narrower_32 (by decide) ?_
        cases hm
        exact dp_iret X hr hw dX7_narrower_44
    · have hm := dp_ip hc hm
      refine lv_sipush (v := (-1001)) hx hb dX7_narrower_16 (by decide) ?_
      cases hm
      exact dp_iret X hr hw dX7_narrower_19
set_option maxRecDepth 100000 in
set_option maxHeartbeats 4000000 in
theorem v_X7_areLike_50 {p : Program} {l : Launch} {e : Env} {s : State} {m : MethodId} {args : Array Value} {below : List Frame} {meth : Method} {c : Code} {D : va_G} {a : dp_A} {B : Nat} (X : dp_X p s m meth c cX7_areLike 4 RX7 D a B) (hr : meth.sig.returnType = (some .boolean)) {h : dp_H} {r : Int32}  : ∀ (x0 : Nat) (x1 : Int32) (x2 : Int32) (y0 : Int32), b_X7_areLike_50 h  x0 x1 x2 y0 = some r → ∀ (H : Heap) (locs : List Loc) (ls : Array Slot), dp_w D a B h s.heap H locs → lv_has ls 4 [(0, .ref (B + x0)), (1, .int x1), (2, .int x2)] → W p l e rm_X7_areLike s m args below meth c H locs 0 0 (MQ below (dp_Q D a B (some (.int r)) h) args s rm_X7_areLike.cells rm_X7_areLike.slots (fun q => B ≤ q)) (F0 m 50 ls [.int y0]) := by
  intro x0 x1 x2 y0 hm H locs ls hw hl
  obtain ⟨hx, hb, hml, hown, hlk, hK, hB⟩ := id X
  unfold b_X7_areLike_50 at hm
  refine lv_istore_n (lv' := [(3, .int y0), (0, .ref (B + x0)), (1, .int x1), (2, .int x2)]) hx hb dX7_areLike_50 rfl hl (by decide) rfl (fun ls hl => ?_)
  refine lv_iload_n hx hb dX7_areLike_51 rfl (lv_at hl 0 rfl) ?_
  refine lv_if_eq (tgt := 72) hx hb dX7_areLike_52 (by decide) (fun hc => ?_) (fun hc => ?_)
  · have hm := dp_ip hc hm
    refine lv_iconst (v := 0) hx hb dX7_areLike_72 (by decide) ?_
    cases hm
    exact dp_zret X hr hw (by decide) dX7_areLike_73
  · have hm := dp_in hc hm
    refine lv_aload_n hx hb dX7_areLike_55 rfl (lv_at hl 1 rfl) ?_
    refine lv_iload_n hx hb dX7_areLike_56 rfl (lv_at hl 2 rfl) ?_
    obtain ⟨v1, ev1, hm⟩ := dp_ob hm
    refine dp_cV (As := [.int x1]) (rest := []) X hw (c_X7_aheadNumber l D a B h x0 x1 ev1) vm_X7_aheadNumber ml_X7_123 (by decide) rfl rfl (ck_X7_aheadNumber ev1) rfl rfl hl.1 rfl (Nat.le_of_ble_eq_true rfl) dX7_areLike_57 ⟨(Nat.zero_le _), (Nat.zero_le _)⟩ (fun H locs hw => ?_)
    refine lv_aload_n hx hb dX7_areLike_60 rfl (lv_at hl 1 rfl) ?_
    refine lv_iload_n hx hb dX7_areLike_61 rfl (lv_at hl 3 rfl) ?_
    obtain ⟨v2, ev2, hm⟩ := dp_ob hm
    refine dp_cV (As := [.int x2]) (rest := [.int v1]) X hw (c_X7_aheadNumber l D a B h x0 x2 ev2) vm_X7_aheadNumber ml_X7_123 (by decide) rfl rfl (ck_X7_aheadNumber ev2) rfl rfl hl.1 rfl (Nat.le_of_ble_eq_true rfl) dX7_areLike_62 ⟨(Nat.zero_le _), (Nat.zero_le _)⟩ (fun H locs hw => ?_)
    refine lv_icmp_ne (tgt := 72) hx hb dX7_areLike_65 (by decide) (fun hc => ?_) (fun hc => ?_)
    · have hm := dp_in hc hm
      refine lv_iconst (v := 0) hx hb dX7_areLike_72 (by decide) ?_
      cases hm
      exact dp_zret X hr hw (by decide) dX7_areLike_73
    · have hm := dp_ip hc hm
      refine lv_iconst (v := 1) hx hb dX7_areLike_68 (by decide) ?_
      refine lv_goto (tgt := 73) hx hb dX7_areLike_69 (by decide) ?_
      cases hm
      exact dp_zret X hr hw (by decide) dX7_areLike_73
theorem ck_X7_areLike {h : dp_H} {x0 : Nat} {x1 : Int32} {x2 : Int32} {r : Int32} (hm : m_X7_areLike h x0 x1 x2 = some r) : dp_is h x0 7 = true := (dp_ck_e hm).1
set_option maxRecDepth 100000 in
set_option maxHeartbeats 4000000 in
theorem c_X7_areLike (l : Launch) (D : va_G) (a : dp_A) (B : Nat) (h : dp_H) (x0 : Nat) (x1 : Int32) (x2 : Int32) {r : Int32} (hm : m_X7_areLike h x0 x1 x2 = some r) : dp_M l D a B yX7_areLike cX7_areLike 4 (some .boolean) rm_X7_areLike [.ref (B + x0), .int x1, .int x2] h (some (.int r)) h := by
  refine dp_M.of (own := RX7) (nm := "areLike") (by decide) rfl rfl (Nat.le_of_ble_eq_true rfl) ?_
  intro p e s m below meth c ls X hr hin hw hl
  have hl : lv_has ls 4 [(0, .ref (B + x0)), (1, .int x1), (2, .int x2)] := hl
  obtain ⟨hx, hb, hml, hown, hlk, hK, hB⟩ := id X
  unfold m_X7_areLike at hm
  obtain ⟨hck, hm⟩ := dp_ck_e hm
  refine lv_aload_n hx hb dX7_areLike_0 rfl (lv_at hl 0 rfl) ?_
  obtain ⟨v1, ev1, hm⟩ := dp_ob hm
  refine dp_getr X hw cl_X7 6 (by decide) fl_X7_23 ev1 dX7_areLike_1 ?_
  refine lv_iload_n hx hb dX7_areLike_4 rfl (lv_at hl 1 rfl) ?_
  obtain ⟨v2, ev2, hm⟩ := dp_ob hm
  refine dp_iald X hw ev2 dX7_areLike_5 ?_
  refine lv_aload_n hx hb dX7_areLike_6 rfl (lv_at hl 0 rfl) ?_
  obtain ⟨v3, ev3, hm⟩ := dp_ob hm
  refine dp_getr X hw cl_X7 6 (by decide) fl_X7_23 ev3 dX7_areLike_7 ?_
  refine lv_iload_n hx hb dX7_areLike_10 rfl (lv_at hl 2 rfl) ?_
  obtain ⟨v4, ev4, hm⟩ := dp_ob hm
  refine dp_iald X hw ev4 dX7_areLike_11 ?_
  refine lv_icmp_ne (tgt := 49) hx hb dX7_areLike_12 (by decide) (fun hc => ?_) (fun hc => ?_)
  · have hm := dp_in hc hm
    refine lv_iconst (v := 0) hx hb dX7_areLike_49 (by decide) ?_
    exact v_X7_areLike_50 X hr x0 x1 x2 0 hm _ _ _ hw (lv_sub hl [0, 1, 2] rfl)
  · have hm := dp_ip hc hm
    refine lv_aload_n hx hb dX7_areLike_15 rfl (lv_at hl 0 rfl) ?_
    obtain ⟨v5, ev5, hm⟩ := dp_ob hm
    refine dp_getr X hw cl_X7 7 (by decide) fl_X7_26 ev5 dX7_areLike_16 ?_
    refine lv_iload_n hx hb dX7_areLike_19 rfl (lv_at hl 1 rfl) ?_
    obtain ⟨v6, ev6, hm⟩ := dp_ob hm
    refine dp_iald X hw ev6 dX7_areLike_20 ?_
    refine lv_aload_n hx hb dX7_areLike_21 rfl (lv_at hl 0 rfl) ?_
    obtain ⟨v7, ev7, hm⟩ := dp_ob hm
    refine dp_getr X hw cl_X7 7 (by decide) fl_X7_26 ev7 dX7_areLike_22 ?_
    refine lv_iload_n hx hb dX7_areLike_25 rfl (lv_at hl 2 rfl) ?_
    obtain ⟨v8, ev8, hm⟩ := dp_ob hm
    refine dp_iald X hw ev8 dX7_areLike_26 ?_
    refine lv_icmp_ne (tgt := 49) hx hb dX7_areLike_27 (by decide) (fun hc => ?_) (fun hc => ?_)
    · have hm := dp_in hc hm
      refine lv_iconst (v := 0) hx hb dX7_areLike_49 (by decide) ?_
      exact v_X7_areLike_50 X hr x0 x1 x2 0 hm _ _ _ hw (lv_sub hl [0, 1, 2] rfl)
    · have hm := dp_ip hc hm
      refine lv_aload_n hx hb dX7_areLike_30 rfl (lv_at hl 0 rfl) ?_
      obtain ⟨v9, ev9, hm⟩ := dp_ob hm
      refine dp_getr X hw cl_X7 8 (by decide) fl_X7_29 ev9 dX7_areLike_31 ?_
      refine lv_iload_n hx hb dX7_areLike_34 rfl (lv_at hl 1 rfl) ?_
      obtain ⟨v10, ev10, hm⟩ := dp_ob hm
      refine dp_iald X hw ev10 dX7_areLike_35 ?_
      refine lv_aload_n hx hb dX7_areLike_36 rfl (lv_at hl 0 rfl) ?_
      obtain ⟨v11, ev11, hm⟩ := dp_ob hm
      refine dp_getr X hw cl_X7 8 (by decide) fl_X7_29 ev11 dX7_areLike_37 ?_
      refine lv_iload_n hx hb dX7_areLike_40 rfl (lv_at hl 2 rfl) ?_
      obtain ⟨v12, ev12, hm⟩ := dp_ob hm
      refine dp_iald X hw ev12 dX7_areLike_41 ?_
      refine lv_icmp_ne (tgt := 49) hx hb dX7_areLike_42 (by decide) (fun hc => ?_) (fun hc => ?_)
      · have hm := dp_in hc hm
        refine lv_iconst (v := 0) hx hb dX7_areLike_49 (by decide) ?_
        exact v_X7_areLike_50 X hr x0 x1 x2 0 hm _ _ _ hw (lv_sub hl [0, 1, 2] rfl)
      · have hm := dp_ip hc hm
        refine lv_iconst (v := 1) hx hb dX7_areLike_45 (by decide) ?_
        refine lv_goto (tgt := 50) hx hb dX7_areLike_46 (by decide) ?_
        exact v_X7_areLike_50 X hr x0 x1 x2 1 hm _ _ _ hw (lv_sub hl [0, 1, 2] rfl)
set_option maxRecDepth 100000 in
set_option maxHeartbeats 4000000 in
theorem v_X7_isClash_27 {p : Program} {l : Launch} {e : Env} {s : State} {m : MethodId} {args : Array Value} {below : List Frame} {meth : Method} {c : Code} {D : va_G} {a : dp_A} {B : Nat} (X : dp_X p s m meth c cX7_isClash 5 RX7 D a B) (hr : meth.sig.returnType = (some .boolean)) {h : dp_H} {r : Int32} {k27 : Nat → Int32 → Int32 → Int32 → Int32 → Option Int32} (hk27 : ∀ (x0 : Nat) (x1 : Int32) (x2 : Int32) (x3 : Int32) (x4 : Int32), k27 x0 x1 x2 x3 x4 = some r → ∀ (H : Heap) (locs : List Loc) (ls : Array Slot), dp_w D a B h s.heap H locs → lv_has ls 5 [(0, .ref (B + x0)), (1, .int x1), (2, .int x2), (3, .int x3), (4, .int x4)] → W p l e rm_X7_isClash s m args below meth c H locs 0 0 (MQ below (dp_Q D a B (some (.int r)) h) args s rm_X7_isClash.cells rm_X7_isClash.slots (fun q => B ≤ q)) (F0 m 27 ls [])) : ∀ (x0 : Nat) (x1 : Int32) (x2 : Int32) (x3 : Int32) (x4 : Int32), b_X7_isClash_27 h k27 x0 x1 x2 x3 x4 = some r → ∀ (H : Heap) (locs : List Loc) (ls : Array Slot), dp_w D a B h s.heap H locs → lv_has ls 5 [(0, .ref (B + x0)), (1, .int x1), (2, .int x2), (3, .int x3), (4, .int x4)] → W p l e rm_X7_isClash s m args below meth c H locs 0 0 (MQ below (dp_Q D a B (some (.int r)) h) args s rm_X7_isClash.cells rm_X7_isClash.slots (fun q => B ≤ q)) (F0 m 27 ls []) := by
  intro x0 x1 x2 x3 x4 hm H locs ls hw hl
  obtain ⟨hx, hb, hml, hown, hlk, hK, hB⟩ := id X
  unfold b_X7_isClash_27 at hm
  refine lv_iload hx hb dX7_isClash_27 (lv_at hl 4 rfl) ?_
  refine lv_aload_n hx hb dX7_isClash_29 rfl (lv_at hl 0 rfl) ?_
  obtain ⟨v1, ev1, hm⟩ := dp_ob hm
  refine dp_getr X hw cl_X7 3 (by decide) fl_X7_13 ev1 dX7_isClash_30 ?_
  refine lv_iload_n hx hb dX7_isClash_33 rfl (lv_at hl 1 rfl) ?_
  obtain ⟨v2, ev2, hm⟩ := dp_ob hm
  refine dp_iald X hw ev2 dX7_isClash_34 ?_
  refine lv_icmp_ge (tgt := 72) hx hb dX7_isClash_35 (by decide) (fun hc => ?_) (fun hc => ?_)
  · have hm := dp_ip hc hm
    refine lv_iload_n hx hb dX7_isClash_72 rfl (lv_at hl 3 rfl) ?_
    obtain ⟨hz, hm⟩ := dp_b_e hm
    cases hm
    exact dp_zret X hr hw hz dX7_isClash_73
  · have hm := dp_in hc hm
    refine lv_iload_n hx hb dX7_isClash_38 rfl (lv_at hl 3 rfl) ?_
    refine lv_if_eq (tgt := 72) hx hb dX7_isClash_39 (by decide) (fun hc => ?_) (fun hc => ?_)
    · have hm := dp_ip hc hm
      refine lv_iload_n hx hb dX7_isClash_72 rfl (lv_at hl 3 rfl) ?_
      obtain ⟨hz, hm⟩ := dp_b_e hm
      cases hm
      exact dp_zret X hr hw hz dX7_isClash_73
    · have hm := dp_in hc hm
      refine lv_aload_n hx hb dX7_isClash_42 rfl (lv_at hl 0 rfl) ?_
      refine lv_iload_n hx hb dX7_isClash_43 rfl (lv_at hl 1 rfl) ?_
      refine lv_iload hx hb dX7_isClash_44 (lv_at hl 4 rfl) ?_
      obtain ⟨v3, ev3, hm⟩ := dp_ob hm
      refine dp_cV (As := [.int x1, .int x4]) (rest := []) X hw (c_X7_letsOf l D a B h x0 x1 x4 ev3) vm_X7_letsOf ml_X7_131 (by decide) rfl rfl (ck_X7_letsOf ev3) rfl rfl hl.1 rfl (Nat.le_of_ble_eq_true rfl) dX7_isClash_46 ⟨(Nat.zero_le _), (Nat.zero_le _)⟩ (fun H locs hw => ?_)
      refine lv_aload_n hx hb dX7_isClash_49 rfl (lv_at hl 0 rfl) ?_
      refine lv_iload_n hx hb dX7_isClash_50 rfl (lv_at hl 2 rfl) ?_
      refine lv_iload hx hb dX7_isClash_51 (lv_at hl 4 rfl) ?_
      obtain ⟨v4, ev4, hm⟩ := dp_ob hm
      refine dp_cV (As := [.int x2, .int x4]) (rest := [.int v3]) X hw (c_X7_letsOf l D a B h x0 x2 x4 ev4) vm_X7_letsOf ml_X7_131 (by decide) rfl rfl (ck_X7_letsOf ev4) rfl rfl hl.1 rfl (Nat.le_of_ble_eq_true rfl) dX7_isClash_53 ⟨(Nat.zero_le _), (Nat.zero_le _)⟩ (fun H locs hw => ?_)
      refine lv_iand hx hb dX7_isClash_56 ?_
      refine lv_if_eq (tgt := 64) hx hb dX7_isClash_57 (by decide) (fun hc => ?_) (fun hc => ?_)
      · have hm := dp_ip hc hm
        refine lv_iconst (v := 0) hx hb dX7_isClash_64 (by decide) ?_
        refine lv_istore_n (lv' := [(3, .int 0), (0, .ref (B + x0)), (1, .int x1), (2, .int x2), (4, .int x4)]) hx hb dX7_isClash_65 rfl hl (by decide) rfl (fun ls hl => ?_)
        refine lv_iinc (v := (x4 + 1)) (lv' := [(4, .int (x4 + 1)), (3, .int 0), (0, .ref (B + x0)), (1, .int x1), (2, .int x2)]) hx hb dX7_isClash_66 hl (k := 4) rfl rfl (by decide) rfl (fun ls hl => ?_)
        refine lv_goto (tgt := 27) hx hb dX7_isClash_69 (by decide) ?_
        exact hk27 x0 x1 x2 0 (x4 + 1) hm _ _ _ hw (lv_sub hl [2, 3, 4, 1, 0] rfl)
      · have hm := dp_in hc hm
        refine lv_iconst (v := 1) hx hb dX7_isClash_60 (by decide) ?_
        refine lv_goto (tgt := 65) hx hb dX7_isClash_61 (by decide) ?_
        refine lv_istore_n (lv' := [(3, .int 1), (0, .ref (B + x0)), (1, .int x1), (2, .int x2), (4, .int x4)]) hx hb dX7_isClash_65 rfl hl (by decide) rfl (fun ls hl => ?_)
        refine lv_iinc (v := (x4 + 1)) (lv' := [(4, .int (x4 + 1)), (3, .int 1), (0, .ref (B + x0)), (1, .int x1), (2, .int x2)]) hx hb dX7_isClash_66 hl (k := 4) rfl rfl (by decide) rfl (fun ls hl => ?_)
        refine lv_goto (tgt := 27) hx hb dX7_isClash_69 (by decide) ?_
        exact hk27 x0 x1 x2 1 (x4 + 1) hm _ _ _ hw (lv_sub hl [2, 3, 4, 1, 0] rfl)
set_option maxRecDepth 100000 in
set_option maxHeartbeats 4000000 in
theorem w_X7_isClash_27 {p : Program} {l : Launch} {e : Env} {s : State} {m : MethodId} {args : Array Value} {below : List Frame} {meth : Method} {c : Code} {D : va_G} {a : dp_A} {B : Nat} (X : dp_X p s m meth c cX7_isClash 5 RX7 D a B) (hr : meth.sig.returnType = (some .boolean)) {h : dp_H} {r : Int32}  : ∀ (n : Nat) (x0 : Nat) (x1 : Int32) (x2 : Int32) (x3 : Int32) (x4 : Int32), m_X7_isClash_27 h  n x0 x1 x2 x3 x4 = some r → ∀ (H : Heap) (locs : List Loc) (ls : Array Slot), dp_w D a B h s.heap H locs → lv_has ls 5 [(0, .ref (B + x0)), (1, .int x1), (2, .int x2), (3, .int x3), (4, .int x4)] → W p l e rm_X7_isClash s m args below meth c H locs 0 0 (MQ below (dp_Q D a B (some (.int r)) h) args s rm_X7_isClash.cells rm_X7_isClash.slots (fun q => B ≤ q)) (F0 m 27 ls []) := by
  intro n
  induction n with
  | zero => intro x0 x1 x2 x3 x4 hm; cases hm
  | succ n ih => intro x0 x1 x2 x3 x4 hm; exact v_X7_isClash_27 X hr ih x0 x1 x2 x3 x4 hm
theorem ck_X7_isClash {h : dp_H} {x0 : Nat} {x1 : Int32} {x2 : Int32} {r : Int32} (hm : m_X7_isClash h x0 x1 x2 = some r) : dp_is h x0 7 = true := (dp_ck_e hm).1
set_option maxRecDepth 100000 in
set_option maxHeartbeats 4000000 in
theorem c_X7_isClash (l : Launch) (D : va_G) (a : dp_A) (B : Nat) (h : dp_H) (x0 : Nat) (x1 : Int32) (x2 : Int32) {r : Int32} (hm : m_X7_isClash h x0 x1 x2 = some r) : dp_M l D a B yX7_isClash cX7_isClash 5 (some .boolean) rm_X7_isClash [.ref (B + x0), .int x1, .int x2] h (some (.int r)) h := by
  refine dp_M.of (own := RX7) (nm := "isClash") (by decide) rfl rfl (Nat.le_of_ble_eq_true rfl) ?_
  intro p e s m below meth c ls X hr hin hw hl
  have hl : lv_has ls 5 [(0, .ref (B + x0)), (1, .int x1), (2, .int x2)] := hl
  obtain ⟨hx, hb, hml, hown, hlk, hK, hB⟩ := id X
  unfold m_X7_isClash at hm
  obtain ⟨hck, hm⟩ := dp_ck_e hm
  refine lv_aload_n hx hb dX7_isClash_0 rfl (lv_at hl 0 rfl) ?_
  refine lv_iload_n hx hb dX7_isClash_1 rfl (lv_at hl 1 rfl) ?_
  refine lv_iload_n hx hb dX7_isClash_2 rfl (lv_at hl 2 rfl) ?_
  obtain ⟨v1, ev1, hm⟩ := dp_ob hm
  refine dp_cV (As := [.int x1, .int x2]) (rest := []) X hw (c_X7_compare l D a B h x0 x1 x2 ev1) vm_X7_compare ml_X7_140 (by decide) rfl rfl (ck_X7_compare ev1) rfl rfl hl.1 rfl (Nat.le_of_ble_eq_true rfl) dX7_isClash_3 ⟨(Nat.zero_le _), (Nat.zero_le _)⟩ (fun H locs hw => ?_)
  refine lv_if_ne (tgt := 22) hx hb dX7_isClash_6 (by decide) (fun hc => ?_) (fun hc => ?_)
  · have hm := dp_in hc hm
    refine lv_iconst (v := 0) hx hb dX7_isClash_22 (by decide) ?_
    refine lv_istore_n (lv' := [(3, .int 0), (0, .ref (B + x0)), (1, .int x1), (2, .int x2)]) hx hb dX7_isClash_23 rfl hl (by decide) rfl (fun ls hl => ?_)
    refine lv_iconst (v := 0) hx hb dX7_isClash_24 (by decide) ?_
    refine lv_istore (lv' := [(4, .int 0), (3, .int 0), (0, .ref (B + x0)), (1, .int x1), (2, .int x2)]) hx hb dX7_isClash_25 hl (by decide) rfl (fun ls hl => ?_)
    exact w_X7_isClash_27 X hr 64 x0 x1 x2 0 0 hm _ _ _ hw (lv_sub hl [2, 3, 4, 1, 0] rfl)
  · have hm := dp_ip hc hm
    refine lv_aload_n hx hb dX7_isClash_9 rfl (lv_at hl 0 rfl) ?_
    refine lv_iload_n hx hb dX7_isClash_10 rfl (lv_at hl 1 rfl) ?_
    refine lv_iload_n hx hb dX7_isClash_11 rfl (lv_at hl 2 rfl) ?_
    obtain ⟨v2, ev2, hm⟩ := dp_ob hm
    refine dp_cV (As := [.int x1, .int x2]) (rest := []) X hw (c_X7_areLike l D a B h x0 x1 x2 ev2) vm_X7_areLike ml_X7_143 (by decide) rfl rfl (ck_X7_areLike ev2) rfl rfl hl.1 rfl (Nat.le_of_ble_eq_true rfl) dX7_isClash_12 ⟨(Nat.zero_le _), (Nat.zero_le _)⟩ (fun H locs hw => ?_)
    refine lv_if_ne (tgt := 22) hx hb dX7_isClash_15 (by decide) (fun hc => ?_) (fun hc => ?_)
    · have hm := dp_in hc hm
      refine lv_iconst (v := 0) hx hb dX7_isClash_22 (by decide) ?_
      refine lv_istore_n (lv' := [(3, .int 0), (0, .ref (B + x0)), (1, .int x1), (2, .int x2)]) hx hb dX7_isClash_23 rfl hl (by decide) rfl (fun ls hl => ?_)
      refine lv_iconst (v := 0) hx hb dX7_isClash_24 (by decide) ?_
      refine lv_istore (lv' := [(4, .int 0), (3, .int 0), (0, .ref (B + x0)), (1, .int x1), (2, .int x2)]) hx hb dX7_isClash_25 hl (by decide) rfl (fun ls hl => ?_)
      exact w_X7_isClash_27 X hr 64 x0 x1 x2 0 0 hm _ _ _ hw (lv_sub hl [2, 3, 4, 1, 0] rfl)
    · have hm := dp_ip hc hm
      refine lv_iconst (v := 1) hx hb dX7_isClash_18 (by decide) ?_
      refine lv_goto (tgt := 23) hx hb dX7_isClash_19 (by decide) ?_
      refine lv_istore_n (lv' := [(3, .int 1), (0, .ref (B + x0)), (1, .int x1), (2, .int x2)]) hx hb dX7_isClash_23 rfl hl (by decide) rfl (fun ls hl => ?_)
      refine lv_iconst (v := 0) hx hb dX7_isClash_24 (by decide) ?_
      refine lv_istore (lv' := [(4, .int 0), (3, .int 1), (0, .ref (B + x0)), (1, .int x1), (2, .int x2)]) hx hb dX7_isClash_25 hl (by decide) rfl (fun ls hl => ?_)
      exact w_X7_isClash_27 X hr 64 x0 x1 x2 1 0 hm _ _ _ hw (lv_sub hl [2, 3, 4, 1, 0] rfl)
set_option maxRecDepth 100000 in
set_option maxHeartbeats 4000000 in
theorem v_X7_clashAt_21 {p : Program} {l : Launch} {e : Env} {s : State} {m : MethodId} {args : Array Value} {below : List Frame} {meth : Method} {c : Code} {D : va_G} {a : dp_A} {B : Nat} (X : dp_X p s m meth c cX7_clashAt 5 RX7 D a B) (hr : meth.sig.returnType = (some .int)) {h : dp_H} {r : Int32} {k4 : Nat → Int32 → Int32 → Option Int32} (hk4 : ∀ (x0 : Nat) (x2 : Int32) (x3 : Int32), k4 x0 x2 x3 = some r → ∀ (H : Heap) (locs : List Loc) (ls : Array Slot), dp_w D a B h s.heap H locs → lv_has ls 5 [(0, .ref (B + x0)), (2, .int x2), (3, .int x3)] → W p l e rm_X7_clashAt s m args below meth c H locs 0 0 (MQ below (dp_Q D a B (some (.int r)) h) args s rm_X7_clashAt.cells rm_X7_clashAt.slots (fun q => B ≤ q)) (F0 m 4 ls [])) {k21 : Nat → Int32 → Int32 → Int32 → Option Int32} (hk21 : ∀ (x0 : Nat) (x2 : Int32) (x3 : Int32) (x4 : Int32), k21 x0 x2 x3 x4 = some r → ∀ (H : Heap) (locs : List Loc) (ls : Array Slot), dp_w D a B h s.heap H locs → lv_has ls 5 [(0, .ref (B + x0)), (2, .int x2), (3, .int x3), (4, .int x4)] → W p l e rm_X7_clashAt s m args below meth c H locs 0 0 (MQ below (dp_Q D a B (some (.int r)) h) args s rm_X7_clashAt.cells rm_X7_clashAt.slots (fun q => B ≤ q)) (F0 m 21 ls [])) : ∀ (x0 : Nat) (x2 : Int32) (x3 : Int32) (x4 : Int32), b_X7_clashAt_21 h k4 k21 x0 x2 x3 x4 = some r → ∀ (H : Heap) (locs : List Loc) (ls : Array Slot), dp_w D a B h s.heap H locs → lv_has ls 5 [(0, .ref (B + x0)), (2, .int x2), (3, .int x3), (4, .int x4)] → W p l e rm_X7_clashAt s m args below meth c H locs 0 0 (MQ below (dp_Q D a B (some (.int r)) h) args s rm_X7_clashAt.cells rm_X7_clashAt.slots (fun q => B ≤ q)) (F0 m 21 ls []) := by
  intro x0 x2 x3 x4 hm H locs ls hw hl
  obtain ⟨hx, hb, hml, hown, hlk, hK, hB⟩ := id X
  unfold b_X7_clashAt_21 at hm
  refine lv_iload hx hb dX7_clashAt_21 (lv_at hl 3 rfl) ?_
  refine lv_aload_n hx hb dX7_clashAt_23 rfl (lv_at hl 0 rfl) ?_
  obtain ⟨v1, ev1, hm⟩ := dp_ob hm
  refine dp_geti X hw cl_X7 2 (by decide) fl_X7_109 ev1 dX7_clashAt_24 ?_
  refine lv_icmp_ge (tgt := 61) hx hb dX7_clashAt_27 (by decide) (fun hc => ?_) (fun hc => ?_)
  · have hm := dp_ip hc hm
    refine lv_iinc (v := (x3 + 1)) (lv' := [(3, .int (x3 + 1)), (0, .ref (B + x0)), (2, .int x2), (4, .int x4)]) hx hb dX7_clashAt_61 hl (k := 2) rfl rfl (by decide) rfl (fun ls hl => ?_)
    refine lv_goto (tgt := 4) hx hb dX7_clashAt_64 (by decide) ?_
    exact hk4 x0 x2 (x3 + 1) hm _ _ _ hw (lv_sub hl [1, 2, 0] rfl)
  · have hm := dp_in hc hm
    refine lv_aload_n hx hb dX7_clashAt_30 rfl (lv_at hl 0 rfl) ?_
    refine lv_iload_n hx hb dX7_clashAt_31 rfl (lv_at hl 2 rfl) ?_
    refine lv_iload hx hb dX7_clashAt_32 (lv_at hl 3 rfl) ?_
    obtain ⟨v2, ev2, hm⟩ := dp_ob hm
    refine dp_cV (As := [.int x3, .int x4]) (rest := []) X hw (c_X7_isClash l D a B h x0 x3 x4 ev2) vm_X7_isClash ml_X7_147 (by decide) rfl rfl (ck_X7_isClash ev2) rfl rfl hl.1 rfl (Nat.le_of_ble_eq_true rfl) dX7_clashAt_34 ⟨(Nat.zero_le _), (Nat.zero_le _)⟩ (fun H locs hw => ?_)
    refine lv_if_eq (tgt := 55) hx hb dX7_clashAt_37 (by decide) (fun hc => ?_) (fun hc => ?_)
    · have hm := dp_ip hc hm
      refine lv_iinc (v := (x4 + 1)) (lv' := [(4, .int (x4 + 1)), (0, .ref (B + x0)), (2, .int x2), (3, .int x3)]) hx hb dX7_clashAt_55 hl (k := 3) rfl rfl (by decide) rfl (fun ls hl => ?_)
      refine lv_goto (tgt := 21) hx hb dX7_clashAt_58 (by decide) ?_
      exact hk21 x0 x2 x3 (x4 + 1) hm _ _ _ hw (lv_sub hl [1, 2, 3, 0] rfl)
    · have hm := dp_in hc hm
      refine lv_iload_n hx hb dX7_clashAt_40 rfl (lv_at hl 1 rfl) ?_
      refine lv_if_ne (tgt := 52) hx hb dX7_clashAt_41 (by decide) (fun hc => ?_) (fun hc => ?_)
      · have hm := dp_in hc hm
        refine lv_iinc (v := (x2 + (-1))) (lv' := [(2, .int (x2 + (-1))), (0, .ref (B + x0)), (3, .int x3), (4, .int x4)]) hx hb dX7_clashAt_52 hl (k := 1) rfl rfl (by decide) rfl (fun ls hl => ?_)
        refine lv_iinc (v := (x4 + 1)) (lv' := [(4, .int (x4 + 1)), (2, .int (x2 + (-1))), (0, .ref (B + x0)), (3, .int x3)]) hx hb dX7_clashAt_55 hl (k := 3) rfl rfl (by decide) rfl (fun ls hl => ?_)
        refine lv_goto (tgt := 21) hx hb dX7_clashAt_58 (by decide) ?_
        exact hk21 x0 (x2 + (-1)) x3 (x4 + 1) hm _ _ _ hw (lv_sub hl [2, 1, 3, 0] rfl)
      · have hm := dp_ip hc hm
        refine lv_bipush (v := 16) hx hb dX7_clashAt_44 (by decide) ?_
        refine lv_iload_n hx hb dX7_clashAt_46 rfl (lv_at hl 2 rfl) ?_
        refine lv_imul hx hb dX7_clashAt_47 ?_
        refine lv_iload hx hb dX7_clashAt_48 (lv_at hl 3 rfl) ?_
        refine lv_iadd hx hb dX7_clashAt_50 ?_
        cases hm
        exact dp_iret X hr hw dX7_clashAt_51
set_option maxRecDepth 100000 in
set_option maxHeartbeats 4000000 in
theorem w_X7_clashAt_21 {p : Program} {l : Launch} {e : Env} {s : State} {m : MethodId} {args : Array Value} {below : List Frame} {meth : Method} {c : Code} {D : va_G} {a : dp_A} {B : Nat} (X : dp_X p s m meth c cX7_clashAt 5 RX7 D a B) (hr : meth.sig.returnType = (some .int)) {h : dp_H} {r : Int32} {k4 : Nat → Int32 → Int32 → Option Int32} (hk4 : ∀ (x0 : Nat) (x2 : Int32) (x3 : Int32), k4 x0 x2 x3 = some r → ∀ (H : Heap) (locs : List Loc) (ls : Array Slot), dp_w D a B h s.heap H locs → lv_has ls 5 [(0, .ref (B + x0)), (2, .int x2), (3, .int x3)] → W p l e rm_X7_clashAt s m args below meth c H locs 0 0 (MQ below (dp_Q D a B (some (.int r)) h) args s rm_X7_clashAt.cells rm_X7_clashAt.slots (fun q => B ≤ q)) (F0 m 4 ls [])) : ∀ (n : Nat) (x0 : Nat) (x2 : Int32) (x3 : Int32) (x4 : Int32), m_X7_clashAt_21 h k4 n x0 x2 x3 x4 = some r → ∀ (H : Heap) (locs : List Loc) (ls : Array Slot), dp_w D a B h s.heap H locs → lv_has ls 5 [(0, .ref (B + x0)), (2, .int x2), (3, .int x3), (4, .int x4)] → W p l e rm_X7_clashAt s m args below meth c H locs 0 0 (MQ below (dp_Q D a B (some (.int r)) h) args s rm_X7_clashAt.cells rm_X7_clashAt.slots (fun q => B ≤ q)) (F0 m 21 ls []) := by
  intro n
  induction n with
  | zero => intro x0 x2 x3 x4 hm; cases hm
  | succ n ih => intro x0 x2 x3 x4 hm; exact v_X7_clashAt_21 X hr hk4 ih x0 x2 x3 x4 hm
set_option maxRecDepth 100000 in
set_option maxHeartbeats 4000000 in
theorem v_X7_clashAt_4 {p : Program} {l : Launch} {e : Env} {s : State} {m : MethodId} {args : Array Value} {below : List Frame} {meth : Method} {c : Code} {D : va_G} {a : dp_A} {B : Nat} (X : dp_X p s m meth c cX7_clashAt 5 RX7 D a B) (hr : meth.sig.returnType = (some .int)) {h : dp_H} {r : Int32} {k4 : Nat → Int32 → Int32 → Option Int32} (hk4 : ∀ (x0 : Nat) (x2 : Int32) (x3 : Int32), k4 x0 x2 x3 = some r → ∀ (H : Heap) (locs : List Loc) (ls : Array Slot), dp_w D a B h s.heap H locs → lv_has ls 5 [(0, .ref (B + x0)), (2, .int x2), (3, .int x3)] → W p l e rm_X7_clashAt s m args below meth c H locs 0 0 (MQ below (dp_Q D a B (some (.int r)) h) args s rm_X7_clashAt.cells rm_X7_clashAt.slots (fun q => B ≤ q)) (F0 m 4 ls [])) : ∀ (x0 : Nat) (x2 : Int32) (x3 : Int32), b_X7_clashAt_4 h k4 x0 x2 x3 = some r → ∀ (H : Heap) (locs : List Loc) (ls : Array Slot), dp_w D a B h s.heap H locs → lv_has ls 5 [(0, .ref (B + x0)), (2, .int x2), (3, .int x3)] → W p l e rm_X7_clashAt s m args below meth c H locs 0 0 (MQ below (dp_Q D a B (some (.int r)) h) args s rm_X7_clashAt.cells rm_X7_clashAt.slots (fun q => B ≤ q)) (F0 m 4 ls []) := by
  intro x0 x2 x3 hm H locs ls hw hl
  obtain ⟨hx, hb, hml, hown, hlk, hK, hB⟩ := id X
  unfold b_X7_clashAt_4 at hm
  refine lv_iload_n hx hb dX7_clashAt_4 rfl (lv_at hl 2 rfl) ?_
  refine lv_aload_n hx hb dX7_clashAt_5 rfl (lv_at hl 0 rfl) ?_
  obtain ⟨v1, ev1, hm⟩ := dp_ob hm
  refine dp_geti X hw cl_X7 2 (by decide) fl_X7_109 ev1 dX7_clashAt_6 ?_
  refine lv_icmp_ge (tgt := 67) hx hb dX7_clashAt_9 (by decide) (fun hc => ?_) (fun hc => ?_)
  · have hm := dp_ip hc hm
    refine lv_iconst (v := (-1)) hx hb dX7_clashAt_67 (by decide) ?_
    cases hm
    exact dp_iret X hr hw dX7_clashAt_68
  · have hm := dp_in hc hm
    refine lv_iload_n hx hb dX7_clashAt_12 rfl (lv_at hl 1 rfl) ?_
    refine lv_if_lt (tgt := 67) hx hb dX7_clashAt_13 (by decide) (fun hc => ?_) (fun hc => ?_)
    · have hm := dp_ip hc hm
      refine lv_iconst (v := (-1)) hx hb dX7_clashAt_67 (by decide) ?_
      cases hm
      exact dp_iret X hr hw dX7_clashAt_68
    · have hm := dp_in hc hm
      refine lv_iload_n hx hb dX7_clashAt_16 rfl (lv_at hl 2 rfl) ?_
      refine lv_iconst (v := 1) hx hb dX7_clashAt_17 (by decide) ?_
      refine lv_iadd hx hb dX7_clashAt_18 ?_
      refine lv_istore (lv' := [(4, .int (x3 + 1)), (0, .ref (B + x0)), (2, .int x2), (3, .int x3)]) hx hb dX7_clashAt_19 hl (by decide) rfl (fun ls hl => ?_)
      exact w_X7_clashAt_21 X hr hk4 64 x0 x2 x3 (x3 + 1) hm _ _ _ hw (lv_sub hl [1, 2, 3, 0] rfl)
set_option maxRecDepth 100000 in
set_option maxHeartbeats 4000000 in
theorem w_X7_clashAt_4 {p : Program} {l : Launch} {e : Env} {s : State} {m : MethodId} {args : Array Value} {below : List Frame} {meth : Method} {c : Code} {D : va_G} {a : dp_A} {B : Nat} (X : dp_X p s m meth c cX7_clashAt 5 RX7 D a B) (hr : meth.sig.returnType = (some .int)) {h : dp_H} {r : Int32}  : ∀ (n : Nat) (x0 : Nat) (x2 : Int32) (x3 : Int32), m_X7_clashAt_4 h  n x0 x2 x3 = some r → ∀ (H : Heap) (locs : List Loc) (ls : Array Slot), dp_w D a B h s.heap H locs → lv_has ls 5 [(0, .ref (B + x0)), (2, .int x2), (3, .int x3)] → W p l e rm_X7_clashAt s m args below meth c H locs 0 0 (MQ below (dp_Q D a B (some (.int r)) h) args s rm_X7_clashAt.cells rm_X7_clashAt.slots (fun q => B ≤ q)) (F0 m 4 ls []) := by
  intro n
  induction n with
  | zero => intro x0 x2 x3 hm; cases hm
  | succ n ih => intro x0 x2 x3 hm; exact v_X7_clashAt_4 X hr ih x0 x2 x3 hm
theorem ck_X7_clashAt {h : dp_H} {x0 : Nat} {x1 : Int32} {r : Int32} (hm : m_X7_clashAt h x0 x1 = some r) : dp_is h x0 7 = true := (dp_ck_e hm).1
set_option maxRecDepth 100000 in
set_option maxHeartbeats 4000000 in
theorem c_X7_clashAt (l : Launch) (D : va_G) (a : dp_A) (B : Nat) (h : dp_H) (x0 : Nat) (x1 : Int32) {r : Int32} (hm : m_X7_clashAt h x0 x1 = some r) : dp_M l D a B yX7_clashAt cX7_clashAt 5 (some .int) rm_X7_clashAt [.ref (B + x0), .int x1] h (some (.int r)) h := by
  refine dp_M.of (own := RX7) (nm := "clashAt") (by decide) rfl rfl (Nat.le_of_ble_eq_true rfl) ?_
  intro p e s m below meth c ls X hr hin hw hl
  have hl : lv_has ls 5 [(0, .ref (B + x0)), (1, .int x1)] := hl
  obtain ⟨hx, hb, hml, hown, hlk, hK, hB⟩ := id X
  unfold m_X7_clashAt at hm
  obtain ⟨hck, hm⟩ := dp_ck_e hm
  refine lv_iload_n hx hb dX7_clashAt_0 rfl (lv_at hl 1 rfl) ?_
  refine lv_istore_n (lv' := [(2, .int x1), (0, .ref (B + x0)), (1, .int x1)]) hx hb dX7_clashAt_1 rfl hl (by decide) rfl (fun ls hl => ?_)
  refine lv_iconst (v := 0) hx hb dX7_clashAt_2 (by decide) ?_
  refine lv_istore_n (lv' := [(3, .int 0), (2, .int x1), (0, .ref (B + x0)), (1, .int x1)]) hx hb dX7_clashAt_3 rfl hl (by decide) rfl (fun ls hl => ?_)
  exact w_X7_clashAt_4 X hr 64 x0 x1 0 hm _ _ _ hw (lv_sub hl [2, 1, 0] rfl)
theorem ck_X7_clash {h : dp_H} {x0 : Nat} {x1 : Int32} {r : Int32} (hm : m_X7_clash h x0 x1 = some r) : dp_is h x0 7 = true := (dp_ck_e hm).1
set_option maxRecDepth 100000 in
set_option maxHeartbeats 4000000 in
theorem c_X7_clash (l : Launch) (D : va_G) (a : dp_A) (B : Nat) (h : dp_H) (x0 : Nat) (x1 : Int32) {r : Int32} (hm : m_X7_clash h x0 x1 = some r) : dp_M l D a B yX7_clash cX7_clash 3 (some .int) rm_X7_clash [.ref (B + x0), .int x1] h (some (.int r)) h := by
  refine dp_M.of (own := RX7) (nm := "clash") (by decide) rfl rfl (Nat.le_of_ble_eq_true rfl) ?_
  intro p e s m below meth c ls X hr hin hw hl
  have hl : lv_has ls 3 [(0, .ref (B + x0)), (1, .int x1)] := hl
  obtain ⟨hx, hb, hml, hown, hlk, hK, hB⟩ := id X
  unfold m_X7_clash at hm
  obtain ⟨hck, hm⟩ := dp_ck_e hm
  refine lv_aload_n hx hb dX7_clash_0 rfl (lv_at hl 0 rfl) ?_
  refine lv_iload_n hx hb dX7_clash_1 rfl (lv_at hl 1 rfl) ?_
  obtain ⟨v1, ev1, hm⟩ := dp_ob hm
  refine dp_cV (As := [.int x1]) (rest := []) X hw (c_X7_clashAt l D a B h x0 x1 ev1) vm_X7_clashAt ml_X7_150 (by decide) rfl rfl (ck_X7_clashAt ev1) rfl rfl hl.1 rfl (Nat.le_of_ble_eq_true rfl) dX7_clash_2 ⟨(Nat.zero_le _), (Nat.zero_le _)⟩ (fun H locs hw => ?_)
  refine lv_istore_n (lv' := [(2, .int v1), (0, .ref (B + x0)), (1, .int x1)]) hx hb dX7_clash_5 rfl hl (by decide) rfl (fun ls hl => ?_)
  refine lv_iload_n hx hb dX7_clash_6 rfl (lv_at hl 0 rfl) ?_
  refine lv_iconst (v := (-1)) hx hb dX7_clash_7 (by decide) ?_
  refine lv_icmp_ne (tgt := 17) hx hb dX7_clash_8 (by decide) (fun hc => ?_) (fun hc => ?_)
  · have hm := dp_in hc hm
    refine lv_iload_n hx hb dX7_clash_17 rfl (lv_at hl 0 rfl) ?_
    cases hm
    exact dp_iret X hr hw dX7_clash_18
  · have hm := dp_ip hc hm
    refine lv_sipush (v := (-1001)) hx hb dX7_clash_11 (by decide) ?_
    refine lv_goto (tgt := 18) hx hb dX7_clash_14 (by decide) ?_
    cases hm
    exact dp_iret X hr hw dX7_clash_18
set_option maxRecDepth 100000 in
set_option maxHeartbeats 4000000 in
theorem v_X7_clashes_16 {p : Program} {l : Launch} {e : Env} {s : State} {m : MethodId} {args : Array Value} {below : List Frame} {meth : Method} {c : Code} {D : va_G} {a : dp_A} {B : Nat} (X : dp_X p s m meth c cX7_clashes 4 RX7 D a B) (hr : meth.sig.returnType = (some .int)) {h : dp_H} {r : Int32} {k4 : Nat → Int32 → Int32 → Option Int32} (hk4 : ∀ (x0 : Nat) (x1 : Int32) (x2 : Int32), k4 x0 x1 x2 = some r → ∀ (H : Heap) (locs : List Loc) (ls : Array Slot), dp_w D a B h s.heap H locs → lv_has ls 4 [(0, .ref (B + x0)), (1, .int x1), (2, .int x2)] → W p l e rm_X7_clashes s m args below meth c H locs 0 0 (MQ below (dp_Q D a B (some (.int r)) h) args s rm_X7_clashes.cells rm_X7_clashes.slots (fun q => B ≤ q)) (F0 m 4 ls [])) {k16 : Nat → Int32 → Int32 → Int32 → Option Int32} (hk16 : ∀ (x0 : Nat) (x1 : Int32) (x2 : Int32) (x3 : Int32), k16 x0 x1 x2 x3 = some r → ∀ (H : Heap) (locs : List Loc) (ls : Array Slot), dp_w D a B h s.heap H locs → lv_has ls 4 [(0, .ref (B + x0)), (1, .int x1), (2, .int x2), (3, .int x3)] → W p l e rm_X7_clashes s m args below meth c H locs 0 0 (MQ below (dp_Q D a B (some (.int r)) h) args s rm_X7_clashes.cells rm_X7_clashes.slots (fun q => B ≤ q)) (F0 m 16 ls [])) : ∀ (x0 : Nat) (x1 : Int32) (x2 : Int32) (x3 : Int32), b_X7_clashes_16 h k4 k16 x0 x1 x2 x3 = some r → ∀ (H : Heap) (locs : List Loc) (ls : Array Slot), dp_w D a B h s.heap H locs → lv_has ls 4 [(0, .ref (B + x0)), (1, .int x1), (2, .int x2), (3, .int x3)] → W p l e rm_X7_clashes s m args below meth c H locs 0 0 (MQ below (dp_Q D a B (some (.int r)) h) args s rm_X7_clashes.cells rm_X7_clashes.slots (fun q => B ≤ q)) (F0 m 16 ls []) := by
  intro x0 x1 x2 x3 hm H locs ls hw hl
  obtain ⟨hx, hb, hml, hown, hlk, hK, hB⟩ := id X
  unfold b_X7_clashes_16 at hm
  refine lv_iload_n hx hb dX7_clashes_16 rfl (lv_at hl 3 rfl) ?_
  refine lv_aload_n hx hb dX7_clashes_17 rfl (lv_at hl 0 rfl) ?_
  obtain ⟨v1, ev1, hm⟩ := dp_ob hm
  refine dp_geti X hw cl_X7 2 (by decide) fl_X7_109 ev1 dX7_clashes_18 ?_
  refine lv_icmp_ge (tgt := 47) hx hb dX7_clashes_21 (by decide) (fun hc => ?_) (fun hc => ?_)
  · have hm := dp_ip hc hm
    refine lv_iinc (v := (x2 + 1)) (lv' := [(2, .int (x2 + 1)), (0, .ref (B + x0)), (1, .int x1), (3, .int x3)]) hx hb dX7_clashes_47 hl (k := 2) rfl rfl (by decide) rfl (fun ls hl => ?_)
    refine lv_goto (tgt := 4) hx hb dX7_clashes_50 (by decide) ?_
    exact hk4 x0 x1 (x2 + 1) hm _ _ _ hw (lv_sub hl [1, 2, 0] rfl)
  · have hm := dp_in hc hm
    refine lv_iload_n hx hb dX7_clashes_24 rfl (lv_at hl 1 rfl) ?_
    refine lv_aload_n hx hb dX7_clashes_25 rfl (lv_at hl 0 rfl) ?_
    refine lv_iload_n hx hb dX7_clashes_26 rfl (lv_at hl 2 rfl) ?_
    refine lv_iload_n hx hb dX7_clashes_27 rfl (lv_at hl 3 rfl) ?_
    obtain ⟨v2, ev2, hm⟩ := dp_ob hm
    refine dp_cV (As := [.int x2, .int x3]) (rest := [.int x1]) X hw (c_X7_isClash l D a B h x0 x2 x3 ev2) vm_X7_isClash ml_X7_147 (by decide) rfl rfl (ck_X7_isClash ev2) rfl rfl hl.1 rfl (Nat.le_of_ble_eq_true rfl) dX7_clashes_28 ⟨(Nat.zero_le _), (Nat.zero_le _)⟩ (fun H locs hw => ?_)
    refine lv_if_eq (tgt := 38) hx hb dX7_clashes_31 (by decide) (fun hc => ?_) (fun hc => ?_)
    · have hm := dp_ip hc hm
      refine lv_iconst (v := 0) hx hb dX7_clashes_38 (by decide) ?_
      refine lv_iadd hx hb dX7_clashes_39 ?_
      refine lv_istore_n (lv' := [(1, .int (x1 + 0)), (0, .ref (B + x0)), (2, .int x2), (3, .int x3)]) hx hb dX7_clashes_40 rfl hl (by decide) rfl (fun ls hl => ?_)
      refine lv_iinc (v := (x3 + 1)) (lv' := [(3, .int (x3 + 1)), (1, .int (x1 + 0)), (0, .ref (B + x0)), (2, .int x2)]) hx hb dX7_clashes_41 hl (k := 3) rfl rfl (by decide) rfl (fun ls hl => ?_)
      refine lv_goto (tgt := 16) hx hb dX7_clashes_44 (by decide) ?_
      exact hk16 x0 (x1 + 0) x2 (x3 + 1) hm _ _ _ hw (lv_sub hl [2, 1, 3, 0] rfl)
    · have hm := dp_in hc hm
      refine lv_iconst (v := 1) hx hb dX7_clashes_34 (by decide) ?_
      refine lv_goto (tgt := 39) hx hb dX7_clashes_35 (by decide) ?_
      refine lv_iadd hx hb dX7_clashes_39 ?_
      refine lv_istore_n (lv' := [(1, .int (x1 + 1)), (0, .ref (B + x0)), (2, .int x2), (3, .int x3)]) hx hb dX7_clashes_40 rfl hl (by decide) rfl (fun ls hl => ?_)
      refine lv_iinc (v := (x3 + 1)) (lv' := [(3, .int (x3 + 1)), (1, .int (x1 + 1)), (0, .ref (B + x0)), (2, .int x2)]) hx hb dX7_clashes_41 hl (k := 3) rfl rfl (by decide) rfl (fun ls hl => ?_)
      refine lv_goto (tgt := 16) hx hb dX7_clashes_44 (by decide) ?_
      exact hk16 x0 (x1 + 1) x2 (x3 + 1) hm _ _ _ hw (lv_sub hl [2, 1, 3, 0] rfl)
set_option maxRecDepth 100000 in
set_option maxHeartbeats 4000000 in
theorem w_X7_clashes_16 {p : Program} {l : Launch} {e : Env} {s : State} {m : MethodId} {args : Array Value} {below : List Frame} {meth : Method} {c : Code} {D : va_G} {a : dp_A} {B : Nat} (X : dp_X p s m meth c cX7_clashes 4 RX7 D a B) (hr : meth.sig.returnType = (some .int)) {h : dp_H} {r : Int32} {k4 : Nat → Int32 → Int32 → Option Int32} (hk4 : ∀ (x0 : Nat) (x1 : Int32) (x2 : Int32), k4 x0 x1 x2 = some r → ∀ (H : Heap) (locs : List Loc) (ls : Array Slot), dp_w D a B h s.heap H locs → lv_has ls 4 [(0, .ref (B + x0)), (1, .int x1), (2, .int x2)] → W p l e rm_X7_clashes s m args below meth c H locs 0 0 (MQ below (dp_Q D a B (some (.int r)) h) args s rm_X7_clashes.cells rm_X7_clashes.slots (fun q => B ≤ q)) (F0 m 4 ls [])) : ∀ (n : Nat) (x0 : Nat) (x1 : Int32) (x2 : Int32) (x3 : Int32), m_X7_clashes_16 h k4 n x0 x1 x2 x3 = some r → ∀ (H : Heap) (locs : List Loc) (ls : Array Slot), dp_w D a B h s.heap H locs → lv_has ls 4 [(0, .ref (B + x0)), (1, .int x1), (2, .int x2), (3, .int x3)] → W p l e rm_X7_clashes s m args below meth c H locs 0 0 (MQ below (dp_Q D a B (some (.int r)) h) args s rm_X7_clashes.cells rm_X7_clashes.slots (fun q => B ≤ q)) (F0 m 16 ls []) := by
  intro n
  induction n with
  | zero => intro x0 x1 x2 x3 hm; cases hm
  | succ n ih => intro x0 x1 x2 x3 hm; exact v_X7_clashes_16 X hr hk4 ih x0 x1 x2 x3 hm
set_option maxRecDepth 100000 in
set_option maxHeartbeats 4000000 in
theorem v_X7_clashes_4 {p : Program} {l : Launch} {e : Env} {s : State} {m : MethodId} {args : Array Value} {below : List Frame} {meth : Method} {c : Code} {D : va_G} {a : dp_A} {B : Nat} (X : dp_X p s m meth c cX7_clashes 4 RX7 D a B) (hr : meth.sig.returnType = (some .int)) {h : dp_H} {r : Int32} {k4 : Nat → Int32 → Int32 → Option Int32} (hk4 : ∀ (x0 : Nat) (x1 : Int32) (x2 : Int32), k4 x0 x1 x2 = some r → ∀ (H : Heap) (locs : List Loc) (ls : Array Slot), dp_w D a B h s.heap H locs → lv_has ls 4 [(0, .ref (B + x0)), (1, .int x1), (2, .int x2)] → W p l e rm_X7_clashes s m args below meth c H locs 0 0 (MQ below (dp_Q D a B (some (.int r)) h) args s rm_X7_clashes.cells rm_X7_clashes.slots (fun q => B ≤ q)) (F0 m 4 ls [])) : ∀ (x0 : Nat) (x1 : Int32) (x2 : Int32), b_X7_clashes_4 h k4 x0 x1 x2 = some r → ∀ (H : Heap) (locs : List Loc) (ls : Array Slot), dp_w D a B h s.heap H locs → lv_has ls 4 [(0, .ref (B + x0)), (1, .int x1), (2, .int x2)] → W p l e rm_X7_clashes s m args below meth c H locs 0 0 (MQ below (dp_Q D a B (some (.int r)) h) args s rm_X7_clashes.cells rm_X7_clashes.slots (fun q => B ≤ q)) (F0 m 4 ls []) := by
  intro x0 x1 x2 hm H locs ls hw hl
  obtain ⟨hx, hb, hml, hown, hlk, hK, hB⟩ := id X
  unfold b_X7_clashes_4 at hm
  refine lv_iload_n hx hb dX7_clashes_4 rfl (lv_at hl 2 rfl) ?_
  refine lv_aload_n hx hb dX7_clashes_5 rfl (lv_at hl 0 rfl) ?_
  obtain ⟨v1, ev1, hm⟩ := dp_ob hm
  refine dp_geti X hw cl_X7 2 (by decide) fl_X7_109 ev1 dX7_clashes_6 ?_
  refine lv_icmp_ge (tgt := 53) hx hb dX7_clashes_9 (by decide) (fun hc => ?_) (fun hc => ?_)
  · have hm := dp_ip hc hm
    refine lv_iload_n hx hb dX7_clashes_53 rfl (lv_at hl 1 rfl) ?_
    cases hm
    exact dp_iret X hr hw dX7_clashes_54
  · have hm := dp_in hc hm
    refine lv_iload_n hx hb dX7_clashes_12 rfl (lv_at hl 2 rfl) ?_
    refine lv_iconst (v := 1) hx hb dX7_clashes_13 (by decide) ?_
    refine lv_iadd hx hb dX7_clashes_14 ?_
    refine lv_istore_n (lv' := [(3, .int (x2 + 1)), (0, .ref (B + x0)), (1, .int x1), (2, .int x2)]) hx hb dX7_clashes_15 rfl hl (by decide) rfl (fun ls hl => ?_)
    exact w_X7_clashes_16 X hr hk4 64 x0 x1 x2 (x2 + 1) hm _ _ _ hw (lv_sub hl [1, 2, 3, 0] rfl)
set_option maxRecDepth 100000 in
set_option maxHeartbeats 4000000 in
theorem w_X7_clashes_4 {p : Program} {l : Launch} {e : Env} {s : State} {m : MethodId} {args : Array Value} {below : List Frame} {meth : Method} {c : Code} {D : va_G} {a : dp_A} {B : Nat} (X : dp_X p s m meth c cX7_clashes 4 RX7 D a B) (hr : meth.sig.returnType = (some .int)) {h : dp_H} {r : Int32}  : ∀ (n : Nat) (x0 : Nat) (x1 : Int32) (x2 : Int32), m_X7_clashes_4 h  n x0 x1 x2 = some r → ∀ (H : Heap) (locs : List Loc) (ls : Array Slot), dp_w D a B h s.heap H locs → lv_has ls 4 [(0, .ref (B + x0)), (1, .int x1), (2, .int x2)] → W p l e rm_X7_clashes s m args below meth c H locs 0 0 (MQ below (dp_Q D a B (some (.int r)) h) args s rm_X7_clashes.cells rm_X7_clashes.slots (fun q => B ≤ q)) (F0 m 4 ls []) := by
  intro n
  induction n with
  | zero => intro x0 x1 x2 hm; cases hm
  | succ n ih => intro x0 x1 x2 hm; exact v_X7_clashes_4 X hr ih x0 x1 x2 hm
theorem ck_X7_clashes {h : dp_H} {x0 : Nat} {r : Int32} (hm : m_X7_clashes h x0 = some r) : dp_is h x0 7 = true := (dp_ck_e hm).1
set_option maxRecDepth 100000 in
set_option maxHeartbeats 4000000 in
theorem c_X7_clashes (l : Launch) (D : va_G) (a : dp_A) (B : Nat) (h : dp_H) (x0 : Nat) {r : Int32} (hm : m_X7_clashes h x0 = some r) : dp_M l D a B yX7_clashes cX7_clashes 4 (some .int) rm_X7_clashes [.ref (B + x0)] h (some (.int r)) h := by
  refine dp_M.of (own := RX7) (nm := "clashes") (by decide) rfl rfl (Nat.le_of_ble_eq_true rfl) ?_
  intro p e s m below meth c ls X hr hin hw hl
  have hl : lv_has ls 4 [(0, .ref (B + x0))] := hl
  obtain ⟨hx, hb, hml, hown, hlk, hK, hB⟩ := id X
  unfold m_X7_clashes at hm
  obtain ⟨hck, hm⟩ := dp_ck_e hm
  refine lv_iconst (v := 0) hx hb dX7_clashes_0 (by decide) ?_
  refine lv_istore_n (lv' := [(1, .int 0), (0, .ref (B + x0))]) hx hb dX7_clashes_1 rfl hl (by decide) rfl (fun ls hl => ?_)
  refine lv_iconst (v := 0) hx hb dX7_clashes_2 (by decide) ?_
  refine lv_istore_n (lv' := [(2, .int 0), (1, .int 0), (0, .ref (B + x0))]) hx hb dX7_clashes_3 rfl hl (by decide) rfl (fun ls hl => ?_)
  exact w_X7_clashes_4 X hr 64 x0 0 0 hm _ _ _ hw (lv_sub hl [2, 1, 0] rfl)
set_option maxRecDepth 100000 in
set_option maxHeartbeats 4000000 in
theorem v_X7_begins_5 {p : Program} {l : Launch} {e : Env} {s : State} {m : MethodId} {args : Array Value} {below : List Frame} {meth : Method} {c : Code} {D : va_G} {a : dp_A} {B : Nat} (X : dp_X p s m meth c cX7_begins 5 RX7 D a B) (hr : meth.sig.returnType = (some .boolean)) {h : dp_H} {r : Int32} {k5 : Nat → Int32 → Int32 → Int32 → Int32 → Option Int32} (hk5 : ∀ (x0 : Nat) (x1 : Int32) (x2 : Int32) (x3 : Int32) (x4 : Int32), k5 x0 x1 x2 x3 x4 = some r → ∀ (H : Heap) (locs : List Loc) (ls : Array Slot), dp_w D a B h s.heap H locs → lv_has ls 5 [(0, .ref (B + x0)), (1, .int x1), (2, .int x2), (3, .int x3), (4, .int x4)] → W p l e rm_X7_begins s m args below meth c H locs 0 0 (MQ below (dp_Q D a B (some (.int r)) h) args s rm_X7_begins.cells rm_X7_begins.slots (fun q => B ≤ q)) (F0 m 5 ls [])) : ∀ (x0 : Nat) (x1 : Int32) (x2 : Int32) (x3 : Int32) (x4 : Int32), b_X7_begins_5 h k5 x0 x1 x2 x3 x4 = some r → ∀ (H : Heap) (locs : List Loc) (ls : Array Slot), dp_w D a B h s.heap H locs → lv_has ls 5 [(0, .ref (B + x0)), (1, .int x1), (2, .int x2), (3, .int x3), (4, .int x4)] → W p l e rm_X7_begins s m args below meth c H locs 0 0 (MQ below (dp_Q D a B (some (.int r)) h) args s rm_X7_begins.cells rm_X7_begins.slots (fun q => B ≤ q)) (F0 m 5 ls []) := by
  intro x0 x1 x2 x3 x4 hm H locs ls hw hl
  obtain ⟨hx, hb, hml, hown, hlk, hK, hB⟩ := id X
  unfold b_X7_begins_5 at hm
  refine lv_iload hx hb dX7_begins_5 (lv_at hl 4 rfl) ?_
  refine lv_iload_n hx hb dX7_begins_7 rfl (lv_at hl 2 rfl) ?_
  refine lv_icmp_ge (tgt := 48) hx hb dX7_begins_8 (by decide) (fun hc => ?_) (fun hc => ?_)
  · have hm := dp_ip hc hm
    refine lv_iload_n hx hb dX7_begins_48 rfl (lv_at hl 3 rfl) ?_
    obtain ⟨hz, hm⟩ := dp_b_e hm
    cases hm
    exact dp_zret X hr hw hz dX7_begins_49
  · have hm := dp_in hc hm
    refine lv_iload_n hx hb dX7_begins_11 rfl (lv_at hl 3 rfl) ?_
    refine lv_if_eq (tgt := 40) hx hb dX7_begins_12 (by decide) (fun hc => ?_) (fun hc => ?_)
    · have hm := dp_ip hc hm
      refine lv_iconst (v := 0) hx hb dX7_begins_40 (by decide) ?_
      refine lv_istore_n (lv' := [(3, .int 0), (0, .ref (B + x0)), (1, .int x1), (2, .int x2), (4, .int x4)]) hx hb dX7_begins_41 rfl hl (by decide) rfl (fun ls hl => ?_)
      refine lv_iinc (v := (x4 + 1)) (lv' := [(4, .int (x4 + 1)), (3, .int 0), (0, .ref (B + x0)), (1, .int x1), (2, .int x2)]) hx hb dX7_begins_42 hl (k := 4) rfl rfl (by decide) rfl (fun ls hl => ?_)
      refine lv_goto (tgt := 5) hx hb dX7_begins_45 (by decide) ?_
      exact hk5 x0 x1 x2 0 (x4 + 1) hm _ _ _ hw (lv_sub hl [2, 3, 4, 1, 0] rfl)
    · have hm := dp_in hc hm
      refine lv_aload_n hx hb dX7_begins_15 rfl (lv_at hl 0 rfl) ?_
      refine lv_iload_n hx hb dX7_begins_16 rfl (lv_at hl 1 rfl) ?_
      refine lv_iload hx hb dX7_begins_17 (lv_at hl 4 rfl) ?_
      obtain ⟨v1, ev1, hm⟩ := dp_ob hm
      refine dp_cV (As := [.int x1, .int x4]) (rest := []) X hw (c_X7_letsOf l D a B h x0 x1 x4 ev1) vm_X7_letsOf ml_X7_131 (by decide) rfl rfl (ck_X7_letsOf ev1) rfl rfl hl.1 rfl (Nat.le_of_ble_eq_true rfl) dX7_begins_19 ⟨(Nat.zero_le _), (Nat.zero_le _)⟩ (fun H locs hw => ?_)
      refine lv_aload_n hx hb dX7_begins_22 rfl (lv_at hl 0 rfl) ?_
      obtain ⟨v2, ev2, hm⟩ := dp_ob hm
      refine dp_getr X hw cl_X7 25 (by decide) fl_X7_44 ev2 dX7_begins_23 ?_
      refine lv_iload hx hb dX7_begins_26 (lv_at hl 4 rfl) ?_
      obtain ⟨v3, ev3, hm⟩ := dp_ob hm
      refine dp_iald X hw ev3 dX7_begins_28 ?_
      refine lv_ishr hx hb dX7_begins_29 ?_
      refine lv_iconst (v := 1) hx hb dX7_begins_30 (by decide) ?_
      refine lv_iand hx hb dX7_begins_31 ?_
      refine lv_iconst (v := 1) hx hb dX7_begins_32 (by decide) ?_
      refine lv_icmp_ne (tgt := 40) hx hb dX7_begins_33 (by decide) (fun hc => ?_) (fun hc => ?_)
      · have hm := dp_in hc hm
        refine lv_iconst (v := 0) hx hb dX7_begins_40 (by decide) ?_
        refine lv_istore_n (lv' := [(3, .int 0), (0, .ref (B + x0)), (1, .int x1), (2, .int x2), (4, .int x4)]) hx hb dX7_begins_41 rfl hl (by decide) rfl (fun ls hl => ?_)
        refine lv_iinc (v := (x4 + 1)) (lv' := [(4, .int (x4 + 1)), (3, .int 0), (0, .ref (B + x0)), (1, .int x1), (2, .int x2)]) hx hb dX7_begins_42 hl (k := 4) rfl rfl (by decide) rfl (fun ls hl => ?_)
        refine lv_goto (tgt := 5) hx hb dX7_begins_45 (by decide) ?_
        exact hk5 x0 x1 x2 0 (x4 + 1) hm _ _ _ hw (lv_sub hl [2, 3, 4, 1, 0] rfl)
      · have hm := dp_ip hc hm
        refine lv_iconst (v := 1) hx hb dX7_begins_36 (by decide) ?_
        refine lv_goto (tgt := 41) hx hb dX7_begins_37 (by decide) ?_
        refine lv_istore_n (lv' := [(3, .int 1), (0, .ref (B + x0)), (1, .int x1), (2, .int x2), (4, .int x4)]) hx hb dX7_begins_41 rfl hl (by decide) rfl (fun ls hl => ?_)
        refine lv_iinc (v := (x4 + 1)) (lv' := [(4, .int (x4 + 1)), (3, .int 1), (0, .ref (B + x0)), (1, .int x1), (2, .int x2)]) hx hb dX7_begins_42 hl (k := 4) rfl rfl (by decide) rfl (fun ls hl => ?_)
        refine lv_goto (tgt := 5) hx hb dX7_begins_45 (by decide) ?_
        exact hk5 x0 x1 x2 1 (x4 + 1) hm _ _ _ hw (lv_sub hl [2, 3, 4, 1, 0] rfl)
set_option maxRecDepth 100000 in
set_option maxHeartbeats 4000000 in
theorem w_X7_begins_5 {p : Program} {l : Launch} {e : Env} {s : State} {m : MethodId} {args : Array Value} {below : List Frame} {meth : Method} {c : Code} {D : va_G} {a : dp_A} {B : Nat} (X : dp_X p s m meth c cX7_begins 5 RX7 D a B) (hr : meth.sig.returnType = (some .boolean)) {h : dp_H} {r : Int32}  : ∀ (n : Nat) (x0 : Nat) (x1 : Int32) (x2 : Int32) (x3 : Int32) (x4 : Int32), m_X7_begins_5 h  n x0 x1 x2 x3 x4 = some r → ∀ (H : Heap) (locs : List Loc) (ls : Array Slot), dp_w D a B h s.heap H locs → lv_has ls 5 [(0, .ref (B + x0)), (1, .int x1), (2, .int x2), (3, .int x3), (4, .int x4)] → W p l e rm_X7_begins s m args below meth c H locs 0 0 (MQ below (dp_Q D a B (some (.int r)) h) args s rm_X7_begins.cells rm_X7_begins.slots (fun q => B ≤ q)) (F0 m 5 ls []) := by
  intro n
  induction n with
  | zero => intro x0 x1 x2 x3 x4 hm; cases hm
  | succ n ih => intro x0 x1 x2 x3 x4 hm; exact v_X7_begins_5 X hr ih x0 x1 x2 x3 x4 hm
theorem ck_X7_begins {h : dp_H} {x0 : Nat} {x1 : Int32} {x2 : Int32} {r : Int32} (hm : m_X7_begins h x0 x1 x2 = some r) : dp_is h x0 7 = true := (dp_ck_e hm).1
set_option maxRecDepth 100000 in
set_option maxHeartbeats 4000000 in
theorem c_X7_begins (l : Launch) (D : va_G) (a : dp_A) (B : Nat) (h : dp_H) (x0 : Nat) (x1 : Int32) (x2 : Int32) {r : Int32} (hm : m_X7_begins h x0 x1 x2 = some r) : dp_M l D a B yX7_begins cX7_begins 5 (some .boolean) rm_X7_begins [.ref (B + x0), .int x1, .int x2] h (some (.int r)) h := by
  refine dp_M.of (own := RX7) (nm := "begins") (by decide) rfl rfl (Nat.le_of_ble_eq_true rfl) ?_
  intro p e s m below meth c ls X hr hin hw hl
  have hl : lv_has ls 5 [(0, .ref (B + x0)), (1, .int x1), (2, .int x2)] := hl
  obtain ⟨hx, hb, hml, hown, hlk, hK, hB⟩ := id X
  unfold m_X7_begins at hm
  obtain ⟨hck, hm⟩ := dp_ck_e hm
  refine lv_iconst (v := 1) hx hb dX7_begins_0 (by decide) ?_
  refine lv_istore_n (lv' := [(3, .int 1), (0, .ref (B + x0)), (1, .int x1), (2, .int x2)]) hx hb dX7_begins_1 rfl hl (by decide) rfl (fun ls hl => ?_)
  refine lv_iconst (v := 0) hx hb dX7_begins_2 (by decide) ?_
  refine lv_istore (lv' := [(4, .int 0), (3, .int 1), (0, .ref (B + x0)), (1, .int x1), (2, .int x2)]) hx hb dX7_begins_3 hl (by decide) rfl (fun ls hl => ?_)
  exact w_X7_begins_5 X hr 64 x0 x1 x2 1 0 hm _ _ _ hw (lv_sub hl [2, 3, 4, 1, 0] rfl)
theorem ck_X7_fits {h : dp_H} {x0 : Nat} {x1 : Int32} {x2 : Int32} {r : Int32} (hm : m_X7_fits h x0 x1 x2 = some r) : dp_is h x0 7 = true := (dp_ck_e hm).1
set_option maxRecDepth 100000 in
set_option maxHeartbeats 4000000 in
theorem c_X7_fits (l : Launch) (D : va_G) (a : dp_A) (B : Nat) (h : dp_H) (x0 : Nat) (x1 : Int32) (x2 : Int32) {r : Int32} (hm : m_X7_fits h x0 x1 x2 = some r) : dp_M l D a B yX7_fits cX7_fits 3 (some .boolean) rm_X7_fits [.ref (B + x0), .int x1, .int x2] h (some (.int r)) h := by
  refine dp_M.of (own := RX7) (nm := "fits") (by decide) rfl rfl (Nat.le_of_ble_eq_true rfl) ?_
  intro p e s m below meth c ls X hr hin hw hl
  have hl : lv_has ls 3 [(0, .ref (B + x0)), (1, .int x1), (2, .int x2)] := hl
  obtain ⟨hx, hb, hml, hown, hlk, hK, hB⟩ := id X
  unfold m_X7_fits at hm
  obtain ⟨hck, hm⟩ := dp_ck_e hm
  refine lv_aload_n hx hb dX7_fits_0 rfl (lv_at hl 0 rfl) ?_
  obtain ⟨v1, ev1, hm⟩ := dp_ob hm
  refine dp_getr X hw cl_X7 4 (by decide) fl_X7_16 ev1 dX7_fits_1 ?_
  refine lv_iload_n hx hb dX7_fits_4 rfl (lv_at hl 1 rfl) ?_
  obtain ⟨v2, ev2, hm⟩ := dp_ob hm
  refine dp_zald X hw ev2 dX7_fits_5 ?_
  refine lv_if_eq (tgt := 22) hx hb dX7_fits_6 (by decide) (fun hc => ?_) (fun hc => ?_)
  · have hm := dp_ip hc hm
    refine lv_iload_n hx hb dX7_fits_22 rfl (lv_at hl 2 rfl) ?_
    refine lv_aload_n hx hb dX7_fits_23 rfl (lv_at hl 0 rfl) ?_
    obtain ⟨v3, ev3, hm⟩ := dp_ob hm
    refine dp_getr X hw cl_X7 3 (by decide) fl_X7_13 ev3 dX7_fits_24 ?_
    refine lv_iload_n hx hb dX7_fits_27 rfl (lv_at hl 1 rfl) ?_
    obtain ⟨v4, ev4, hm⟩ := dp_ob hm
    refine dp_iald X hw ev4 dX7_fits_28 ?_
    refine lv_icmp_ne (tgt := 45) hx hb dX7_fits_29 (by decide) (fun hc => ?_) (fun hc => ?_)
    · have hm := dp_in hc hm
      refine lv_iconst (v := 0) hx hb dX7_fits_45 (by decide) ?_
      cases hm
      exact dp_zret X hr hw (by decide) dX7_fits_46
    · have hm := dp_ip hc hm
      refine lv_aload_n hx hb dX7_fits_32 rfl (lv_at hl 0 rfl) ?_
      refine lv_iload_n hx hb dX7_fits_33 rfl (lv_at hl 1 rfl) ?_
      refine lv_iload_n hx hb dX7_fits_34 rfl (lv_at hl 2 rfl) ?_
      obtain ⟨v5, ev5, hm⟩ := dp_ob hm
      refine dp_cV (As := [.int x1, .int x2]) (rest := []) X hw (c_X7_begins l D a B h x0 x1 x2 ev5) vm_X7_begins ml_X7_153 (by decide) rfl rfl (ck_X7_begins ev5) rfl rfl hl.1 rfl (Nat.le_of_ble_eq_true rfl) dX7_fits_35 ⟨(Nat.zero_le _), (Nat.zero_le _)⟩ (fun H locs hw => ?_)
      refine lv_if_eq (tgt := 45) hx hb dX7_fits_38 (by decide) (fun hc => ?_) (fun hc => ?_)
      · have hm := dp_ip hc hm
        refine lv_iconst (v := 0) hx hb dX7_fits_45 (by decide) ?_
        cases hm
        exact dp_zret X hr hw (by decide) dX7_fits_46
      · have hm := dp_in hc hm
        refine lv_iconst (v := 1) hx hb dX7_fits_41 (by decide) ?_
        refine lv_goto (tgt := 46) hx hb dX7_fits_42 (by decide) ?_
        cases hm
        exact dp_zret X hr hw (by decide) dX7_fits_46
  · have hm := dp_in hc hm
    refine lv_iload_n hx hb dX7_fits_9 rfl (lv_at hl 2 rfl) ?_
    refine lv_aload_n hx hb dX7_fits_10 rfl (lv_at hl 0 rfl) ?_
    obtain ⟨v6, ev6, hm⟩ := dp_ob hm
    refine dp_getr X hw cl_X7 3 (by decide) fl_X7_13 ev6 dX7_fits_11 ?_
    refine lv_iload_n hx hb dX7_fits_14 rfl (lv_at hl 1 rfl) ?_
    obtain ⟨v7, ev7, hm⟩ := dp_ob hm
    refine dp_iald X hw ev7 dX7_fits_15 ?_
    refine lv_icmp_lt (tgt := 45) hx hb dX7_fits_16 (by decide) (fun hc => ?_) (fun hc => ?_)
    · have hm := dp_ip hc hm
      refine lv_iconst (v := 0) hx hb dX7_fits_45 (by decide) ?_
      cases hm
      exact dp_zret X hr hw (by decide) dX7_fits_46
    · have hm := dp_in hc hm
      refine lv_goto (tgt := 32) hx hb dX7_fits_19 (by decide) ?_
      refine lv_aload_n hx hb dX7_fits_32 rfl (lv_at hl 0 rfl) ?_
      refine lv_iload_n hx hb dX7_fits_33 rfl (lv_at hl 1 rfl) ?_
      refine lv_iload_n hx hb dX7_fits_34 rfl (lv_at hl 2 rfl) ?_
      obtain ⟨v8, ev8, hm⟩ := dp_ob hm
      refine dp_cV (As := [.int x1, .int x2]) (rest := []) X hw (c_X7_begins l D a B h x0 x1 x2 ev8) vm_X7_begins ml_X7_153 (by decide) rfl rfl (ck_X7_begins ev8) rfl rfl hl.1 rfl (Nat.le_of_ble_eq_true rfl) dX7_fits_35 ⟨(Nat.zero_le _), (Nat.zero_le _)⟩ (fun H locs hw => ?_)
      refine lv_if_eq (tgt := 45) hx hb dX7_fits_38 (by decide) (fun hc => ?_) (fun hc => ?_)
      · have hm := dp_ip hc hm
        refine lv_iconst (v := 0) hx hb dX7_fits_45 (by decide) ?_
        cases hm
        exact dp_zret X hr hw (by decide) dX7_fits_46
      · have hm := dp_in hc hm
        refine lv_iconst (v := 1) hx hb dX7_fits_41 (by decide) ?_
        refine lv_goto (tgt := 46) hx hb dX7_fits_42 (by decide) ?_
        cases hm
        exact dp_zret X hr hw (by decide) dX7_fits_46
theorem ck_X7_leads {h : dp_H} {x0 : Nat} {x1 : Int32} {x2 : Int32} {r : Int32} (hm : m_X7_leads h x0 x1 x2 = some r) : dp_is h x0 7 = true := (dp_ck_e hm).1
set_option maxRecDepth 100000 in
set_option maxHeartbeats 4000000 in
theorem c_X7_leads (l : Launch) (D : va_G) (a : dp_A) (B : Nat) (h : dp_H) (x0 : Nat) (x1 : Int32) (x2 : Int32) {r : Int32} (hm : m_X7_leads h x0 x1 x2 = some r) : dp_M l D a B yX7_leads cX7_leads 3 (some .boolean) rm_X7_leads [.ref (B + x0), .int x1, .int x2] h (some (.int r)) h := by
  refine dp_M.of (own := RX7) (nm := "leads") (by decide) rfl rfl (Nat.le_of_ble_eq_true rfl) ?_
  intro p e s m below meth c ls X hr hin hw hl
  have hl : lv_has ls 3 [(0, .ref (B + x0)), (1, .int x1), (2, .int x2)] := hl
  obtain ⟨hx, hb, hml, hown, hlk, hK, hB⟩ := id X
  unfold m_X7_leads at hm
  obtain ⟨hck, hm⟩ := dp_ck_e hm
  refine lv_aload_n hx hb dX7_leads_0 rfl (lv_at hl 0 rfl) ?_
  obtain ⟨v1, ev1, hm⟩ := dp_ob hm
  refine dp_getr X hw cl_X7 4 (by decide) fl_X7_16 ev1 dX7_leads_1 ?_
  refine lv_iload_n hx hb dX7_leads_4 rfl (lv_at hl 1 rfl) ?_
  obtain ⟨v2, ev2, hm⟩ := dp_ob hm
  refine dp_zald X hw ev2 dX7_leads_5 ?_
  refine lv_if_eq (tgt := 18) hx hb dX7_leads_6 (by decide) (fun hc => ?_) (fun hc => ?_)
  · have hm := dp_ip hc hm
    refine lv_iload_n hx hb dX7_leads_18 rfl (lv_at hl 2 rfl) ?_
    refine lv_aload_n hx hb dX7_leads_19 rfl (lv_at hl 0 rfl) ?_
    obtain ⟨v3, ev3, hm⟩ := dp_ob hm
    refine dp_getr X hw cl_X7 3 (by decide) fl_X7_13 ev3 dX7_leads_20 ?_
    refine lv_iload_n hx hb dX7_leads_23 rfl (lv_at hl 1 rfl) ?_
    obtain ⟨v4, ev4, hm⟩ := dp_ob hm
    refine dp_iald X hw ev4 dX7_leads_24 ?_
    refine lv_icmp_ge (tgt := 41) hx hb dX7_leads_25 (by decide) (fun hc => ?_) (fun hc => ?_)
    · have hm := dp_ip hc hm
      refine lv_iconst (v := 0) hx hb dX7_leads_41 (by decide) ?_
      cases hm
      exact dp_zret X hr hw (by decide) dX7_leads_42
    · have hm := dp_in hc hm
      refine lv_aload_n hx hb dX7_leads_28 rfl (lv_at hl 0 rfl) ?_
      refine lv_iload_n hx hb dX7_leads_29 rfl (lv_at hl 1 rfl) ?_
      refine lv_iload_n hx hb dX7_leads_30 rfl (lv_at hl 2 rfl) ?_
      obtain ⟨v5, ev5, hm⟩ := dp_ob hm
      refine dp_cV (As := [.int x1, .int x2]) (rest := []) X hw (c_X7_begins l D a B h x0 x1 x2 ev5) vm_X7_begins ml_X7_153 (by decide) rfl rfl (ck_X7_begins ev5) rfl rfl hl.1 rfl (Nat.le_of_ble_eq_true rfl) dX7_leads_31 ⟨(Nat.zero_le _), (Nat.zero_le _)⟩ (fun H locs hw => ?_)
      refine lv_if_eq (tgt := 41) hx hb dX7_leads_34 (by decide) (fun hc => ?_) (fun hc => ?_)
      · have hm := dp_ip hc hm
        refine lv_iconst (v := 0) hx hb dX7_leads_41 (by decide) ?_
        cases hm
        exact dp_zret X hr hw (by decide) dX7_leads_42
      · have hm := dp_in hc hm
        refine lv_iconst (v := 1) hx hb dX7_leads_37 (by decide) ?_
        refine lv_goto (tgt := 42) hx hb dX7_leads_38 (by decide) ?_
        cases hm
        exact dp_zret X hr hw (by decide) dX7_leads_42
  · have hm := dp_in hc hm
    refine lv_iload_n hx hb dX7_leads_9 rfl (lv_at hl 2 rfl) ?_
    refine lv_bipush (v := 10) hx hb dX7_leads_10 (by decide) ?_
    refine lv_icmp_ge (tgt := 41) hx hb dX7_leads_12 (by decide) (fun hc => ?_) (fun hc => ?_)
    · have hm := dp_ip hc hm
      refine lv_iconst (v := 0) hx hb dX7_leads_41 (by decide) ?_
      cases hm
      exact dp_zret X hr hw (by decide) dX7_leads_42
    · have hm := dp_in hc hm
      refine lv_goto (tgt := 28) hx hb dX7_leads_15 (by decide) ?_
      refine lv_aload_n hx hb dX7_leads_28 rfl (lv_at hl 0 rfl) ?_
      refine lv_iload_n hx hb dX7_leads_29 rfl (lv_at hl 1 rfl) ?_
      refine lv_iload_n hx hb dX7_leads_30 rfl (lv_at hl 2 rfl) ?_
      obtain ⟨v6, ev6, hm⟩ := dp_ob hm
      refine dp_cV (As := [.int x1, .int x2]) (rest := []) X hw (c_X7_begins l D a B h x0 x1 x2 ev6) vm_X7_begins ml_X7_153 (by decide) rfl rfl (ck_X7_begins ev6) rfl rfl hl.1 rfl (Nat.le_of_ble_eq_true rfl) dX7_leads_31 ⟨(Nat.zero_le _), (Nat.zero_le _)⟩ (fun H locs hw => ?_)
      refine lv_if_eq (tgt := 41) hx hb dX7_leads_34 (by decide) (fun hc => ?_) (fun hc => ?_)
      · have hm := dp_ip hc hm
        refine lv_iconst (v := 0) hx hb dX7_leads_41 (by decide) ?_
        cases hm
        exact dp_zret X hr hw (by decide) dX7_leads_42
      · have hm := dp_in hc hm
        refine lv_iconst (v := 1) hx hb dX7_leads_37 (by decide) ?_
        refine lv_goto (tgt := 42) hx hb dX7_leads_38 (by decide) ?_
        cases hm
        exact dp_zret X hr hw (by decide) dX7_leads_42
set_option maxRecDepth 100000 in
set_option maxHeartbeats 4000000 in
theorem v_X7_fitting_4 {p : Program} {l : Launch} {e : Env} {s : State} {m : MethodId} {args : Array Value} {below : List Frame} {meth : Method} {c : Code} {D : va_G} {a : dp_A} {B : Nat} (X : dp_X p s m meth c cX7_fitting 4 RX7 D a B) (hr : meth.sig.returnType = (some .int)) {h : dp_H} {r : Int32} {k4 : Nat → Int32 → Int32 → Int32 → Option Int32} (hk4 : ∀ (x0 : Nat) (x1 : Int32) (x2 : Int32) (x3 : Int32), k4 x0 x1 x2 x3 = some r → ∀ (H : Heap) (locs : List Loc) (ls : Array Slot), dp_w D a B h s.heap H locs → lv_has ls 4 [(0, .ref (B + x0)), (1, .int x1), (2, .int x2), (3, .int x3)] → W p l e rm_X7_fitting s m args below meth c H locs 0 0 (MQ below (dp_Q D a B (some (.int r)) h) args s rm_X7_fitting.cells rm_X7_fitting.slots (fun q => B ≤ q)) (F0 m 4 ls [])) : ∀ (x0 : Nat) (x1 : Int32) (x2 : Int32) (x3 : Int32), b_X7_fitting_4 h k4 x0 x1 x2 x3 = some r → ∀ (H : Heap) (locs : List Loc) (ls : Array Slot), dp_w D a B h s.heap H locs → lv_has ls 4 [(0, .ref (B + x0)), (1, .int x1), (2, .int x2), (3, .int x3)] → W p l e rm_X7_fitting s m args below meth c H locs 0 0 (MQ below (dp_Q D a B (some (.int r)) h) args s rm_X7_fitting.cells rm_X7_fitting.slots (fun q => B ≤ q)) (F0 m 4 ls []) := by
  intro x0 x1 x2 x3 hm H locs ls hw hl
  obtain ⟨hx, hb, hml, hown, hlk, hK, hB⟩ := id X
  unfold b_X7_fitting_4 at hm
  refine lv_iload_n hx hb dX7_fitting_4 rfl (lv_at hl 3 rfl) ?_
  refine lv_aload_n hx hb dX7_fitting_5 rfl (lv_at hl 0 rfl) ?_
  obtain ⟨v1, ev1, hm⟩ := dp_ob hm
  refine dp_geti X hw cl_X7 2 (by decide) fl_X7_109 ev1 dX7_fitting_6 ?_
  refine lv_icmp_ge (tgt := 37) hx hb dX7_fitting_9 (by decide) (fun hc => ?_) (fun hc => ?_)
  · have hm := dp_ip hc hm
    refine lv_iload_n hx hb dX7_fitting_37 rfl (lv_at hl 2 rfl) ?_
    cases hm
    exact dp_iret X hr hw dX7_fitting_38
  · have hm := dp_in hc hm
    refine lv_iload_n hx hb dX7_fitting_12 rfl (lv_at hl 2 rfl) ?_
    refine lv_aload_n hx hb dX7_fitting_13 rfl (lv_at hl 0 rfl) ?_
    refine lv_iload_n hx hb dX7_fitting_14 rfl (lv_at hl 3 rfl) ?_
    refine lv_iload_n hx hb dX7_fitting_15 rfl (lv_at hl 1 rfl) ?_
    obtain ⟨v2, ev2, hm⟩ := dp_ob hm
    refine dp_cV (As := [.int x3, .int x1]) (rest := [.int x2]) X hw (c_X7_fits l D a B h x0 x3 x1 ev2) vm_X7_fits ml_X7_156 (by decide) rfl rfl (ck_X7_fits ev2) rfl rfl hl.1 rfl (Nat.le_of_ble_eq_true rfl) dX7_fitting_16 ⟨(Nat.zero_le _), (Nat.zero_le _)⟩ (fun H locs hw => ?_)
    refine lv_if_eq (tgt := 28) hx hb dX7_fitting_19 (by decide) (fun hc => ?_) (fun hc => ?_)
    · have hm := dp_ip hc hm
      refine lv_iconst (v := 0) hx hb dX7_fitting_28 (by decide) ?_
      refine lv_ior hx hb dX7_fitting_29 ?_
      refine lv_istore_n (lv' := [(2, .int (x2 ||| 0)), (0, .ref (B + x0)), (1, .int x1), (3, .int x3)]) hx hb dX7_fitting_30 rfl hl (by decide) rfl (fun ls hl => ?_)
      refine lv_iinc (v := (x3 + 1)) (lv' := [(3, .int (x3 + 1)), (2, .int (x2 ||| 0)), (0, .ref (B + x0)), (1, .int x1)]) hx hb dX7_fitting_31 hl (k := 3) rfl rfl (by decide) rfl (fun ls hl => ?_)
      refine lv_goto (tgt := 4) hx hb dX7_fitting_34 (by decide) ?_
      exact hk4 x0 x1 (x2 ||| 0) (x3 + 1) hm _ _ _ hw (lv_sub hl [2, 3, 1, 0] rfl)
    · have hm := dp_in hc hm
      refine lv_iconst (v := 1) hx hb dX7_fitting_22 (by decide) ?_
      refine lv_iload_n hx hb dX7_fitting_23 rfl (lv_at hl 3 rfl) ?_
      refine lv_ishl hx hb dX7_fitting_24 ?_
      refine lv_goto (tgt := 29) hx hb dX7_fitting_25 (by decide) ?_
      refine lv_ior hx hb dX7_fitting_29 ?_
      refine lv_istore_n (lv' := [(2, .int (x2 ||| (1 <<< (x3 &&& 31)))), (0, .ref (B + x0)), (1, .int x1), (3, .int x3)]) hx hb dX7_fitting_30 rfl hl (by decide) rfl (fun ls hl => ?_)
      refine lv_iinc (v := (x3 + 1)) (lv' := [(3, .int (x3 + 1)), (2, .int (x2 ||| (1 <<< (x3 &&& 31)))), (0, .ref (B + x0)), (1, .int x1)]) hx hb dX7_fitting_31 hl (k := 3) rfl rfl (by decide) rfl (fun ls hl => ?_)
      refine lv_goto (tgt := 4) hx hb dX7_fitting_34 (by decide) ?_
      exact hk4 x0 x1 (x2 ||| (1 <<< (x3 &&& 31))) (x3 + 1) hm _ _ _ hw (lv_sub hl [2, 3, 1, 0] rfl)
set_option maxRecDepth 100000 in
set_option maxHeartbeats 4000000 in
theorem w_X7_fitting_4 {p : Program} {l : Launch} {e : Env} {s : State} {m : MethodId} {args : Array Value} {below : List Frame} {meth : Method} {c : Code} {D : va_G} {a : dp_A} {B : Nat} (X : dp_X p s m meth c cX7_fitting 4 RX7 D a B) (hr : meth.sig.returnType = (some .int)) {h : dp_H} {r : Int32}  : ∀ (n : Nat) (x0 : Nat) (x1 : Int32) (x2 : Int32) (x3 : Int32), m_X7_fitting_4 h  n x0 x1 x2 x3 = some r → ∀ (H : Heap) (locs : List Loc) (ls : Array Slot), dp_w D a B h s.heap H locs → lv_has ls 4 [(0, .ref (B + x0)), (1, .int x1), (2, .int x2), (3, .int x3)] → W p l e rm_X7_fitting s m args below meth c H locs 0 0 (MQ below (dp_Q D a B (some (.int r)) h) args s rm_X7_fitting.cells rm_X7_fitting.slots (fun q => B ≤ q)) (F0 m 4 ls []) := by
  intro n
  induction n with
  | zero => intro x0 x1 x2 x3 hm; cases hm
  | succ n ih => intro x0 x1 x2 x3 hm; exact v_X7_fitting_4 X hr ih x0 x1 x2 x3 hm
theorem ck_X7_fitting {h : dp_H} {x0 : Nat} {x1 : Int32} {r : Int32} (hm : m_X7_fitting h x0 x1 = some r) : dp_is h x0 7 = true := (dp_ck_e hm).1
set_option maxRecDepth 100000 in
set_option maxHeartbeats 4000000 in
theorem c_X7_fitting (l : Launch) (D : va_G) (a : dp_A) (B : Nat) (h : dp_H) (x0 : Nat) (x1 : Int32) {r : Int32} (hm : m_X7_fitting h x0 x1 = some r) : dp_M l D a B yX7_fitting cX7_fitting 4 (some .int) rm_X7_fitting [.ref (B + x0), .int x1] h (some (.int r)) h := by
  refine dp_M.of (own := RX7) (nm := "fitting") (by decide) rfl rfl (Nat.le_of_ble_eq_true rfl) ?_
  intro p e s m below meth c ls X hr hin hw hl
  have hl : lv_has ls 4 [(0, .ref (B + x0)), (1, .int x1)] := hl
  obtain ⟨hx, hb, hml, hown, hlk, hK, hB⟩ := id X
  unfold m_X7_fitting at hm
  obtain ⟨hck, hm⟩ := dp_ck_e hm
  refine lv_iconst (v := 0) hx hb dX7_fitting_0 (by decide) ?_
  refine lv_istore_n (lv' := [(2, .int 0), (0, .ref (B + x0)), (1, .int x1)]) hx hb dX7_fitting_1 rfl hl (by decide) rfl (fun ls hl => ?_)
  refine lv_iconst (v := 0) hx hb dX7_fitting_2 (by decide) ?_
  refine lv_istore_n (lv' := [(3, .int 0), (2, .int 0), (0, .ref (B + x0)), (1, .int x1)]) hx hb dX7_fitting_3 rfl hl (by decide) rfl (fun ls hl => ?_)
  exact w_X7_fitting_4 X hr 64 x0 x1 0 0 hm _ _ _ hw (lv_sub hl [2, 3, 1, 0] rfl)
set_option maxRecDepth 100000 in
set_option maxHeartbeats 4000000 in
theorem v_X7_leading_4 {p : Program} {l : Launch} {e : Env} {s : State} {m : MethodId} {args : Array Value} {below : List Frame} {meth : Method} {c : Code} {D : va_G} {a : dp_A} {B : Nat} (X : dp_X p s m meth c cX7_leading 4 RX7 D a B) (hr : meth.sig.returnType = (some .int)) {h : dp_H} {r : Int32} {k4 : Nat → Int32 → Int32 → Int32 → Option Int32} (hk4 : ∀ (x0 : Nat) (x1 : Int32) (x2 : Int32) (x3 : Int32), k4 x0 x1 x2 x3 = some r → ∀ (H : Heap) (locs : List Loc) (ls : Array Slot), dp_w D a B h s.heap H locs → lv_has ls 4 [(0, .ref (B + x0)), (1, .int x1), (2, .int x2), (3, .int x3)] → W p l e rm_X7_leading s m args below meth c H locs 0 0 (MQ below (dp_Q D a B (some (.int r)) h) args s rm_X7_leading.cells rm_X7_leading.slots (fun q => B ≤ q)) (F0 m 4 ls [])) : ∀ (x0 : Nat) (x1 : Int32) (x2 : Int32) (x3 : Int32), b_X7_leading_4 h k4 x0 x1 x2 x3 = some r → ∀ (H : Heap) (locs : List Loc) (ls : Array Slot), dp_w D a B h s.heap H locs → lv_has ls 4 [(0, .ref (B + x0)), (1, .int x1), (2, .int x2), (3, .int x3)] → W p l e rm_X7_leading s m args below meth c H locs 0 0 (MQ below (dp_Q D a B (some (.int r)) h) args s rm_X7_leading.cells rm_X7_leading.slots (fun q => B ≤ q)) (F0 m 4 ls []) := by
  intro x0 x1 x2 x3 hm H locs ls hw hl
  obtain ⟨hx, hb, hml, hown, hlk, hK, hB⟩ := id X
  unfold b_X7_leading_4 at hm
  refine lv_iload_n hx hb dX7_leading_4 rfl (lv_at hl 3 rfl) ?_
  refine lv_aload_n hx hb dX7_leading_5 rfl (lv_at hl 0 rfl) ?_
  obtain ⟨v1, ev1, hm⟩ := dp_ob hm
  refine dp_geti X hw cl_X7 2 (by decide) fl_X7_109 ev1 dX7_leading_6 ?_
  refine lv_icmp_ge (tgt := 37) hx hb dX7_leading_9 (by decide) (fun hc => ?_) (fun hc => ?_)
  · have hm := dp_ip hc hm
    refine lv_iload_n hx hb dX7_leading_37 rfl (lv_at hl 2 rfl) ?_
    cases hm
    exact dp_iret X hr hw dX7_leading_38
  · have hm := dp_in hc hm
    refine lv_iload_n hx hb dX7_leading_12 rfl (lv_at hl 2 rfl) ?_
    refine lv_aload_n hx hb dX7_leading_13 rfl (lv_at hl 0 rfl) ?_
    refine lv_iload_n hx hb dX7_leading_14 rfl (lv_at hl 3 rfl) ?_
    refine lv_iload_n hx hb dX7_leading_15 rfl (lv_at hl 1 rfl) ?_
    obtain ⟨v2, ev2, hm⟩ := dp_ob hm
    refine dp_cV (As := [.int x3, .int x1]) (rest := [.int x2]) X hw (c_X7_leads l D a B h x0 x3 x1 ev2) vm_X7_leads ml_X7_159 (by decide) rfl rfl (ck_X7_leads ev2) rfl rfl hl.1 rfl (Nat.le_of_ble_eq_true rfl) dX7_leading_16 ⟨(Nat.zero_le _), (Nat.zero_le _)⟩ (fun H locs hw => ?_)
    refine lv_if_eq (tgt := 28) hx hb dX7_leading_19 (by decide) (fun hc => ?_) (fun hc => ?_)
    · have hm := dp_ip hc hm
      refine lv_iconst (v := 0) hx hb dX7_leading_28 (by decide) ?_
      refine lv_ior hx hb dX7_leading_29 ?_
      refine lv_istore_n (lv' := [(2, .int (x2 ||| 0)), (0, .ref (B + x0)), (1, .int x1), (3, .int x3)]) hx hb dX7_leading_30 rfl hl (by decide) rfl (fun ls hl => ?_)
      refine lv_iinc (v := (x3 + 1)) (lv' := [(3, .int (x3 + 1)), (2, .int (x2 ||| 0)), (0, .ref (B + x0)), (1, .int x1)]) hx hb dX7_leading_31 hl (k := 3) rfl rfl (by decide) rfl (fun ls hl => ?_)
      refine lv_goto (tgt := 4) hx hb dX7_leading_34 (by decide) ?_
      exact hk4 x0 x1 (x2 ||| 0) (x3 + 1) hm _ _ _ hw (lv_sub hl [2, 3, 1, 0] rfl)
    · have hm := dp_in hc hm
      refine lv_iconst (v := 1) hx hb dX7_leading_22 (by decide) ?_
      refine lv_iload_n hx hb dX7_leading_23 rfl (lv_at hl 3 rfl) ?_
      refine lv_ishl hx hb dX7_leading_24 ?_
      refine lv_goto (tgt := 29) hx hb dX7_leading_25 (by decide) ?_
      refine lv_ior hx hb dX7_leading_29 ?_
      refine lv_istore_n (lv' := [(2, .int (x2 ||| (1 <<< (x3 &&& 31)))), (0, .ref (B + x0)), (1, .int x1), (3, .int x3)]) hx hb dX7_leading_30 rfl hl (by decide) rfl (fun ls hl => ?_)
      refine lv_iinc (v := (x3 + 1)) (lv' := [(3, .int (x3 + 1)), (2, .int (x2 ||| (1 <<< (x3 &&& 31)))), (0, .ref (B + x0)), (1, .int x1)]) hx hb dX7_leading_31 hl (k := 3) rfl rfl (by decide) rfl (fun ls hl => ?_)
      refine lv_goto (tgt := 4) hx hb dX7_leading_34 (by decide) ?_
      exact hk4 x0 x1 (x2 ||| (1 <<< (x3 &&& 31))) (x3 + 1) hm _ _ _ hw (lv_sub hl [2, 3, 1, 0] rfl)
set_option maxRecDepth 100000 in
set_option maxHeartbeats 4000000 in
theorem w_X7_leading_4 {p : Program} {l : Launch} {e : Env} {s : State} {m : MethodId} {args : Array Value} {below : List Frame} {meth : Method} {c : Code} {D : va_G} {a : dp_A} {B : Nat} (X : dp_X p s m meth c cX7_leading 4 RX7 D a B) (hr : meth.sig.returnType = (some .int)) {h : dp_H} {r : Int32}  : ∀ (n : Nat) (x0 : Nat) (x1 : Int32) (x2 : Int32) (x3 : Int32), m_X7_leading_4 h  n x0 x1 x2 x3 = some r → ∀ (H : Heap) (locs : List Loc) (ls : Array Slot), dp_w D a B h s.heap H locs → lv_has ls 4 [(0, .ref (B + x0)), (1, .int x1), (2, .int x2), (3, .int x3)] → W p l e rm_X7_leading s m args below meth c H locs 0 0 (MQ below (dp_Q D a B (some (.int r)) h) args s rm_X7_leading.cells rm_X7_leading.slots (fun q => B ≤ q)) (F0 m 4 ls []) := by
  intro n
  induction n with
  | zero => intro x0 x1 x2 x3 hm; cases hm
  | succ n ih => intro x0 x1 x2 x3 hm; exact v_X7_leading_4 X hr ih x0 x1 x2 x3 hm
theorem ck_X7_leading {h : dp_H} {x0 : Nat} {x1 : Int32} {r : Int32} (hm : m_X7_leading h x0 x1 = some r) : dp_is h x0 7 = true := (dp_ck_e hm).1
set_option maxRecDepth 100000 in
set_option maxHeartbeats 4000000 in
theorem c_X7_leading (l : Launch) (D : va_G) (a : dp_A) (B : Nat) (h : dp_H) (x0 : Nat) (x1 : Int32) {r : Int32} (hm : m_X7_leading h x0 x1 = some r) : dp_M l D a B yX7_leading cX7_leading 4 (some .int) rm_X7_leading [.ref (B + x0), .int x1] h (some (.int r)) h := by
  refine dp_M.of (own := RX7) (nm := "leading") (by decide) rfl rfl (Nat.le_of_ble_eq_true rfl) ?_
  intro p e s m below meth c ls X hr hin hw hl
  have hl : lv_has ls 4 [(0, .ref (B + x0)), (1, .int x1)] := hl
  obtain ⟨hx, hb, hml, hown, hlk, hK, hB⟩ := id X
  unfold m_X7_leading at hm
  obtain ⟨hck, hm⟩ := dp_ck_e hm
  refine lv_iconst (v := 0) hx hb dX7_leading_0 (by decide) ?_
  refine lv_istore_n (lv' := [(2, .int 0), (0, .ref (B + x0)), (1, .int x1)]) hx hb dX7_leading_1 rfl hl (by decide) rfl (fun ls hl => ?_)
  refine lv_iconst (v := 0) hx hb dX7_leading_2 (by decide) ?_
  refine lv_istore_n (lv' := [(3, .int 0), (2, .int 0), (0, .ref (B + x0)), (1, .int x1)]) hx hb dX7_leading_3 rfl hl (by decide) rfl (fun ls hl => ?_)
  exact w_X7_leading_4 X hr 64 x0 x1 0 0 hm _ _ _ hw (lv_sub hl [2, 3, 1, 0] rfl)
set_option maxRecDepth 100000 in
set_option maxHeartbeats 4000000 in
theorem v_X7_winner_26 {p : Program} {l : Launch} {e : Env} {s : State} {m : MethodId} {args : Array Value} {below : List Frame} {meth : Method} {c : Code} {D : va_G} {a : dp_A} {B : Nat} (X : dp_X p s m meth c cX7_winner 5 RX7 D a B) (hr : meth.sig.returnType = (some .int)) {h : dp_H} {r : Int32} {k4 : Nat → Int32 → Int32 → Int32 → Option Int32} (hk4 : ∀ (x0 : Nat) (x1 : Int32) (x2 : Int32) (x3 : Int32), k4 x0 x1 x2 x3 = some r → ∀ (H : Heap) (locs : List Loc) (ls : Array Slot), dp_w D a B h s.heap H locs → lv_has ls 5 [(0, .ref (B + x0)), (1, .int x1), (2, .int x2), (3, .int x3)] → W p l e rm_X7_winner s m args below meth c H locs 0 0 (MQ below (dp_Q D a B (some (.int r)) h) args s rm_X7_winner.cells rm_X7_winner.slots (fun q => B ≤ q)) (F0 m 4 ls [])) : ∀ (x0 : Nat) (x1 : Int32) (x2 : Int32) (x3 : Int32) (y0 : Int32), b_X7_winner_26 h k4 x0 x1 x2 x3 y0 = some r → ∀ (H : Heap) (locs : List Loc) (ls : Array Slot), dp_w D a B h s.heap H locs → lv_has ls 5 [(0, .ref (B + x0)), (1, .int x1), (2, .int x2), (3, .int x3)] → W p l e rm_X7_winner s m args below meth c H locs 0 0 (MQ below (dp_Q D a B (some (.int r)) h) args s rm_X7_winner.cells rm_X7_winner.slots (fun q => B ≤ q)) (F0 m 26 ls [.int y0]) := by
  intro x0 x1 x2 x3 y0 hm H locs ls hw hl
  obtain ⟨hx, hb, hml, hown, hlk, hK, hB⟩ := id X
  unfold b_X7_winner_26 at hm
  refine lv_istore (lv' := [(4, .int y0), (0, .ref (B + x0)), (1, .int x1), (2, .int x2), (3, .int x3)]) hx hb dX7_winner_26 hl (by decide) rfl (fun ls hl => ?_)
  refine lv_iload hx hb dX7_winner_28 (lv_at hl 0 rfl) ?_
  refine lv_if_eq (tgt := 51) hx hb dX7_winner_30 (by decide) (fun hc => ?_) (fun hc => ?_)
  · have hm := dp_ip hc hm
    refine lv_iload_n hx hb dX7_winner_51 rfl (lv_at hl 3 rfl) ?_
    refine lv_istore_n (lv' := [(2, .int x2), (4, .int y0), (0, .ref (B + x0)), (1, .int x1), (3, .int x3)]) hx hb dX7_winner_52 rfl hl (by decide) rfl (fun ls hl => ?_)
    refine lv_iinc (v := (x3 + 1)) (lv' := [(3, .int (x3 + 1)), (2, .int x2), (4, .int y0), (0, .ref (B + x0)), (1, .int x1)]) hx hb dX7_winner_53 hl (k := 4) rfl rfl (by decide) rfl (fun ls hl => ?_)
    refine lv_goto (tgt := 4) hx hb dX7_winner_56 (by decide) ?_
    exact hk4 x0 x1 x2 (x3 + 1) hm _ _ _ hw (lv_sub hl [3, 4, 1, 0] rfl)
  · have hm := dp_in hc hm
    refine lv_iload_n hx hb dX7_winner_33 rfl (lv_at hl 3 rfl) ?_
    refine lv_iconst (v := (-1)) hx hb dX7_winner_34 (by decide) ?_
    refine lv_icmp_eq (tgt := 47) hx hb dX7_winner_35 (by decide) (fun hc => ?_) (fun hc => ?_)
    · have hm := dp_ip hc hm
      refine lv_iload_n hx hb dX7_winner_47 rfl (lv_at hl 4 rfl) ?_
      refine lv_goto (tgt := 52) hx hb dX7_winner_48 (by decide) ?_
      refine lv_istore_n (lv' := [(2, .int x3), (4, .int y0), (0, .ref (B + x0)), (1, .int x1), (3, .int x3)]) hx hb dX7_winner_52 rfl hl (by decide) rfl (fun ls hl => ?_)
      refine lv_iinc (v := (x3 + 1)) (lv' := [(3, .int (x3 + 1)), (2, .int x3), (4, .int y0), (0, .ref (B + x0)), (1, .int x1)]) hx hb dX7_winner_53 hl (k := 4) rfl rfl (by decide) rfl (fun ls hl => ?_)
      refine lv_goto (tgt := 4) hx hb dX7_winner_56 (by decide) ?_
      exact hk4 x0 x1 x3 (x3 + 1) hm _ _ _ hw (lv_sub hl [3, 4, 1, 0] rfl)
    · have hm := dp_in hc hm
      refine lv_aload_n hx hb dX7_winner_38 rfl (lv_at hl 1 rfl) ?_
      refine lv_iload_n hx hb dX7_winner_39 rfl (lv_at hl 4 rfl) ?_
      refine lv_iload_n hx hb dX7_winner_40 rfl (lv_at hl 3 rfl) ?_
      obtain ⟨v1, ev1, hm⟩ := dp_ob hm
      refine dp_cV (As := [.int x3, .int x2]) (rest := []) X hw (c_X7_compare l D a B h x0 x3 x2 ev1) vm_X7_compare ml_X7_140 (by decide) rfl rfl (ck_X7_compare ev1) rfl rfl hl.1 rfl (Nat.le_of_ble_eq_true rfl) dX7_winner_41 ⟨(Nat.zero_le _), (Nat.zero_le _)⟩ (fun H locs hw => ?_)
      refine lv_if_ge (tgt := 51) hx hb dX7_winner_44 (by decide) (fun hc => ?_) (fun hc => ?_)
      · have hm := dp_ip hc hm
        refine lv_iload_n hx hb dX7_winner_51 rfl (lv_at hl 3 rfl) ?_
        refine lv_istore_n (lv' := [(2, .int x2), (4, .int y0), (0, .ref (B + x0)), (1, .int x1), (3, .int x3)]) hx hb dX7_winner_52 rfl hl (by decide) rfl (fun ls hl => ?_)
        refine lv_iinc (v := (x3 + 1)) (lv' := [(3, .int (x3 + 1)), (2, .int x2), (4, .int y0), (0, .ref (B + x0)), (1, .int x1)]) hx hb dX7_winner_53 hl (k := 4) rfl rfl (by decide) rfl (fun ls hl => ?_)
        refine lv_goto (tgt := 4) hx hb dX7_winner_56 (by decide) ?_
        exact hk4 x0 x1 x2 (x3 + 1) hm _ _ _ hw (lv_sub hl [3, 4, 1, 0] rfl)
      · have hm := dp_in hc hm
        refine lv_iload_n hx hb dX7_winner_47 rfl (lv_at hl 4 rfl) ?_
        refine lv_goto (tgt := 52) hx hb dX7_winner_48 (by decide) ?_
        refine lv_istore_n (lv' := [(2, .int x3), (4, .int y0), (0, .ref (B + x0)), (1, .int x1), (3, .int x3)]) hx hb dX7_winner_52 rfl hl (by decide) rfl (fun ls hl => ?_)
        refine lv_iinc (v := (x3 + 1)) (lv' := [(3, .int (x3 + 1)), (2, .int x3), (4, .int y0), (0, .ref (B + x0)), (1, .int x1)]) hx hb dX7_winner_53 hl (k := 4) rfl rfl (by decide) rfl (fun ls hl => ?_)
        refine lv_goto (tgt := 4) hx hb dX7_winner_56 (by decide) ?_
        exact hk4 x0 x1 x3 (x3 + 1) hm _ _ _ hw (lv_sub hl [3, 4, 1, 0] rfl)
set_option maxRecDepth 100000 in
set_option maxHeartbeats 4000000 in
theorem v_X7_winner_4 {p : Program} {l : Launch} {e : Env} {s : State} {m : MethodId} {args : Array Value} {below : List Frame} {meth : Method} {c : Code} {D : va_G} {a : dp_A} {B : Nat} (X : dp_X p s m meth c cX7_winner 5 RX7 D a B) (hr : meth.sig.returnType = (some .int)) {h : dp_H} {r : Int32} {k4 : Nat → Int32 → Int32 → Int32 → Option Int32} (hk4 : ∀ (x0 : Nat) (x1 : Int32) (x2 : Int32) (x3 : Int32), k4 x0 x1 x2 x3 = some r → ∀ (H : Heap) (locs : List Loc) (ls : Array Slot), dp_w D a B h s.heap H locs → lv_has ls 5 [(0, .ref (B + x0)), (1, .int x1), (2, .int x2), (3, .int x3)] → W p l e rm_X7_winner s m args below meth c H locs 0 0 (MQ below (dp_Q D a B (some (.int r)) h) args s rm_X7_winner.cells rm_X7_winner.slots (fun q => B ≤ q)) (F0 m 4 ls [])) : ∀ (x0 : Nat) (x1 : Int32) (x2 : Int32) (x3 : Int32), b_X7_winner_4 h k4 x0 x1 x2 x3 = some r → ∀ (H : Heap) (locs : List Loc) (ls : Array Slot), dp_w D a B h s.heap H locs → lv_has ls 5 [(0, .ref (B + x0)), (1, .int x1), (2, .int x2), (3, .int x3)] → W p l e rm_X7_winner s m args below meth c H locs 0 0 (MQ below (dp_Q D a B (some (.int r)) h) args s rm_X7_winner.cells rm_X7_winner.slots (fun q => B ≤ q)) (F0 m 4 ls []) := by
  intro x0 x1 x2 x3 hm H locs ls hw hl
  obtain ⟨hx, hb, hml, hown, hlk, hK, hB⟩ := id X
  unfold b_X7_winner_4 at hm
  refine lv_iload_n hx hb dX7_winner_4 rfl (lv_at hl 3 rfl) ?_
  refine lv_aload_n hx hb dX7_winner_5 rfl (lv_at hl 0 rfl) ?_
  obtain ⟨v1, ev1, hm⟩ := dp_ob hm
  refine dp_geti X hw cl_X7 2 (by decide) fl_X7_109 ev1 dX7_winner_6 ?_
  refine lv_icmp_ge (tgt := 59) hx hb dX7_winner_9 (by decide) (fun hc => ?_) (fun hc => ?_)
  · have hm := dp_ip hc hm
    refine lv_iload_n hx hb dX7_winner_59 rfl (lv_at hl 2 rfl) ?_
    cases hm
    exact dp_iret X hr hw dX7_winner_60
  · have hm := dp_in hc hm
    refine lv_iload_n hx hb dX7_winner_12 rfl (lv_at hl 1 rfl) ?_
    refine lv_iload_n hx hb dX7_winner_13 rfl (lv_at hl 3 rfl) ?_
    refine lv_ishr hx hb dX7_winner_14 ?_
    refine lv_iconst (v := 1) hx hb dX7_winner_15 (by decide) ?_
    refine lv_iand hx hb dX7_winner_16 ?_
    refine lv_iconst (v := 1) hx hb dX7_winner_17 (by decide) ?_
    refine lv_icmp_ne (tgt := 25) hx hb dX7_winner_18 (by decide) (fun hc => ?_) (fun hc => ?_)
    · have hm := dp_in hc hm
      refine lv_iconst (v := 0) hx hb dX7_winner_25 (by decide) ?_
      exact v_X7_winner_26 X hr hk4 x0 x1 x2 x3 0 hm _ _ _ hw (lv_sub hl [0, 1, 2, 3] rfl)
    · have hm := dp_ip hc hm
      refine lv_iconst (v := 1) hx hb dX7_winner_21 (by decide) ?_
      refine lv_goto (tgt := 26) hx hb dX7_winner_22 (by decide) ?_
      exact v_X7_winner_26 X hr hk4 x0 x1 x2 x3 1 hm _ _ _ hw (lv_sub hl [0, 1, 2, 3] rfl)
set_option maxRecDepth 100000 in
set_option maxHeartbeats 4000000 in
theorem w_X7_winner_4 {p : Program} {l : Launch} {e : Env} {s : State} {m : MethodId} {args : Array Value} {below : List Frame} {meth : Method} {c : Code} {D : va_G} {a : dp_A} {B : Nat} (X : dp_X p s m meth c cX7_winner 5 RX7 D a B) (hr : meth.sig.returnType = (some .int)) {h : dp_H} {r : Int32}  : ∀ (n : Nat) (x0 : Nat) (x1 : Int32) (x2 : Int32) (x3 : Int32), m_X7_winner_4 h  n x0 x1 x2 x3 = some r → ∀ (H : Heap) (locs : List Loc) (ls : Array Slot), dp_w D a B h s.heap H locs → lv_has ls 5 [(0, .ref (B + x0)), (1, .int x1), (2, .int x2), (3, .int x3)] → W p l e rm_X7_winner s m args below meth c H locs 0 0 (MQ below (dp_Q D a B (some (.int r)) h) args s rm_X7_winner.cells rm_X7_winner.slots (fun q => B ≤ q)) (F0 m 4 ls []) := by
  intro n
  induction n with
  | zero => intro x0 x1 x2 x3 hm; cases hm
  | succ n ih => intro x0 x1 x2 x3 hm; exact v_X7_winner_4 X hr ih x0 x1 x2 x3 hm
theorem ck_X7_winner {h : dp_H} {x0 : Nat} {x1 : Int32} {r : Int32} (hm : m_X7_winner h x0 x1 = some r) : dp_is h x0 7 = true := (dp_ck_e hm).1
set_option maxRecDepth 100000 in
set_option maxHeartbeats 4000000 in
theorem c_X7_winner (l : Launch) (D : va_G) (a : dp_A) (B : Nat) (h : dp_H) (x0 : Nat) (x1 : Int32) {r : Int32} (hm : m_X7_winner h x0 x1 = some r) : dp_M l D a B yX7_winner cX7_winner 5 (some .int) rm_X7_winner [.ref (B + x0), .int x1] h (some (.int r)) h := by
  refine dp_M.of (own := RX7) (nm := "winner") (by decide) rfl rfl (Nat.le_of_ble_eq_true rfl) ?_
  intro p e s m below meth c ls X hr hin hw hl
  have hl : lv_has ls 5 [(0, .ref (B + x0)), (1, .int x1)] := hl
  obtain ⟨hx, hb, hml, hown, hlk, hK, hB⟩ := id X
  unfold m_X7_winner at hm
  obtain ⟨hck, hm⟩ := dp_ck_e hm
  refine lv_iconst (v := (-1)) hx hb dX7_winner_0 (by decide) ?_
  refine lv_istore_n (lv' := [(2, .int (-1)), (0, .ref (B + x0)), (1, .int x1)]) hx hb dX7_winner_1 rfl hl (by decide) rfl (fun ls hl => ?_)
  refine lv_iconst (v := 0) hx hb dX7_winner_2 (by decide) ?_
  refine lv_istore_n (lv' := [(3, .int 0), (2, .int (-1)), (0, .ref (B + x0)), (1, .int x1)]) hx hb dX7_winner_3 rfl hl (by decide) rfl (fun ls hl => ?_)
  exact w_X7_winner_4 X hr 64 x0 x1 (-1) 0 hm _ _ _ hw (lv_sub hl [2, 3, 1, 0] rfl)
set_option maxRecDepth 100000 in
set_option maxHeartbeats 4000000 in
theorem v_X7_rewrite_81 {p : Program} {l : Launch} {e : Env} {s : State} {m : MethodId} {args : Array Value} {below : List Frame} {meth : Method} {c : Code} {D : va_G} {a : dp_A} {B : Nat} (X : dp_X p s m meth c cX7_rewrite 7 RX7 D a B) (hr : meth.sig.returnType = none) {h' : dp_H} {k81 : dp_H → Nat → Int32 → Int32 → Int32 → Int32 → Option dp_H} (hk81 : ∀ (h : dp_H) (x0 : Nat) (x1 : Int32) (x2 : Int32) (x4 : Int32) (x5 : Int32), k81 h x0 x1 x2 x4 x5 = some h' → ∀ (H : Heap) (locs : List Loc) (ls : Array Slot), dp_w D a B h s.heap H locs → lv_has ls 7 [(0, .ref (B + x0)), (1, .int x1), (2, .int x2), (4, .int x4), (5, .int x5)] → W p l e rm_X7_rewrite s m args below meth c H locs 0 0 (MQ below (dp_Q D a B none h') args s rm_X7_rewrite.cells rm_X7_rewrite.slots (fun q => B ≤ q)) (F0 m 81 ls [])) : ∀ (h : dp_H) (x0 : Nat) (x1 : Int32) (x2 : Int32) (x4 : Int32) (x5 : Int32), b_X7_rewrite_81 k81 h x0 x1 x2 x4 x5 = some h' → ∀ (H : Heap) (locs : List Loc) (ls : Array Slot), dp_w D a B h s.heap H locs → lv_has ls 7 [(0, .ref (B + x0)), (1, .int x1), (2, .int x2), (4, .int x4), (5, .int x5)] → W p l e rm_X7_rewrite s m args below meth c H locs 0 0 (MQ below (dp_Q D a B none h') args s rm_X7_rewrite.cells rm_X7_rewrite.slots (fun q => B ≤ q)) (F0 m 81 ls []) := by
  intro h x0 x1 x2 x4 x5 hm H locs ls hw hl
  obtain ⟨hx, hb, hml, hown, hlk, hK, hB⟩ := id X
  unfold b_X7_rewrite_81 at hm
  refine lv_iload hx hb dX7_rewrite_81 (lv_at hl 4 rfl) ?_
  refine lv_iload_n hx hb dX7_rewrite_83 rfl (lv_at hl 2 rfl) ?_
  refine lv_icmp_ge (tgt := 111) hx hb dX7_rewrite_84 (by decide) (fun hc => ?_) (fun hc => ?_)
  · have hm := dp_ip hc hm
    refine lv_aload_n hx hb dX7_rewrite_111 rfl (lv_at hl 0 rfl) ?_
    refine lv_iload hx hb dX7_rewrite_112 (lv_at hl 3 rfl) ?_
    obtain ⟨h1, eh1, hm⟩ := dp_ob hm
    refine dp_puti X hw cl_X7 24 (by decide) fl_X7_162 rfl rfl eh1 dX7_rewrite_114 (fun H locs hw => ?_)
    cases hm
    exact dp_vret X hr hw dX7_rewrite_117
  · have hm := dp_in hc hm
    refine lv_aload_n hx hb dX7_rewrite_87 rfl (lv_at hl 0 rfl) ?_
    obtain ⟨v2, ev2, hm⟩ := dp_ob hm
    refine dp_getr X hw cl_X7 25 (by decide) fl_X7_44 ev2 dX7_rewrite_88 ?_
    refine lv_iload hx hb dX7_rewrite_91 (lv_at hl 4 rfl) ?_
    refine lv_aload_n hx hb dX7_rewrite_93 rfl (lv_at hl 0 rfl) ?_
    obtain ⟨v3, ev3, hm⟩ := dp_ob hm
    refine dp_getr X hw cl_X7 9 (by decide) fl_X7_32 ev3 dX7_rewrite_94 ?_
    refine lv_iconst (v := 4) hx hb dX7_rewrite_97 (by decide) ?_
    refine lv_iload_n hx hb dX7_rewrite_98 rfl (lv_at hl 1 rfl) ?_
    refine lv_imul hx hb dX7_rewrite_99 ?_
    refine lv_iload hx hb dX7_rewrite_100 (lv_at hl 4 rfl) ?_
    refine lv_iadd hx hb dX7_rewrite_102 ?_
    obtain ⟨v4, ev4, hm⟩ := dp_ob hm
    refine dp_iald X hw ev4 dX7_rewrite_103 ?_
    obtain ⟨h5, eh5, hm⟩ := dp_ob hm
    refine dp_iast X hw eh5 dX7_rewrite_104 (fun H locs hw => ?_)
    refine lv_iinc (v := (x5 + 1)) (lv' := [(5, .int (x5 + 1)), (0, .ref (B + x0)), (1, .int x1), (2, .int x2), (4, .int x4)]) hx hb dX7_rewrite_105 hl (k := 4) rfl rfl (by decide) rfl (fun ls hl => ?_)
    refine lv_goto (tgt := 81) hx hb dX7_rewrite_108 (by decide) ?_
    exact hk81 h5 x0 x1 x2 x4 (x5 + 1) hm _ _ _ hw (lv_sub hl [1, 2, 3, 4, 0] rfl)
set_option maxRecDepth 100000 in
set_option maxHeartbeats 4000000 in
theorem w_X7_rewrite_81 {p : Program} {l : Launch} {e : Env} {s : State} {m : MethodId} {args : Array Value} {below : List Frame} {meth : Method} {c : Code} {D : va_G} {a : dp_A} {B : Nat} (X : dp_X p s m meth c cX7_rewrite 7 RX7 D a B) (hr : meth.sig.returnType = none) {h' : dp_H}  : ∀ (n : Nat) (h : dp_H) (x0 : Nat) (x1 : Int32) (x2 : Int32) (x4 : Int32) (x5 : Int32), m_X7_rewrite_81  n h x0 x1 x2 x4 x5 = some h' → ∀ (H : Heap) (locs : List Loc) (ls : Array Slot), dp_w D a B h s.heap H locs → lv_has ls 7 [(0, .ref (B + x0)), (1, .int x1), (2, .int x2), (4, .int x4), (5, .int x5)] → W p l e rm_X7_rewrite s m args below meth c H locs 0 0 (MQ below (dp_Q D a B none h') args s rm_X7_rewrite.cells rm_X7_rewrite.slots (fun q => B ≤ q)) (F0 m 81 ls []) := by
  intro n
  induction n with
  | zero => intro h x0 x1 x2 x4 x5 hm; cases hm
  | succ n ih => intro h x0 x1 x2 x4 x5 hm; exact v_X7_rewrite_81 X hr ih h x0 x1 x2 x4 x5 hm
set_option maxRecDepth 100000 in
set_option maxHeartbeats 4000000 in
theorem v_X7_rewrite_27 {p : Program} {l : Launch} {e : Env} {s : State} {m : MethodId} {args : Array Value} {below : List Frame} {meth : Method} {c : Code} {D : va_G} {a : dp_A} {B : Nat} (X : dp_X p s m meth c cX7_rewrite 7 RX7 D a B) (hr : meth.sig.returnType = none) {h' : dp_H} {k27 : dp_H → Nat → Int32 → Int32 → Int32 → Int32 → Int32 → Option dp_H} (hk27 : ∀ (h : dp_H) (x0 : Nat) (x1 : Int32) (x2 : Int32) (x3 : Int32) (x4 : Int32) (x5 : Int32), k27 h x0 x1 x2 x3 x4 x5 = some h' → ∀ (H : Heap) (locs : List Loc) (ls : Array Slot), dp_w D a B h s.heap H locs → lv_has ls 7 [(0, .ref (B + x0)), (1, .int x1), (2, .int x2), (3, .int x3), (4, .int x4), (5, .int x5)] → W p l e rm_X7_rewrite s m args below meth c H locs 0 0 (MQ below (dp_Q D a B none h') args s rm_X7_rewrite.cells rm_X7_rewrite.slots (fun q => B ≤ q)) (F0 m 27 ls [])) : ∀ (h : dp_H) (x0 : Nat) (x1 : Int32) (x2 : Int32) (x3 : Int32) (x4 : Int32) (x5 : Int32), b_X7_rewrite_27 k27 h x0 x1 x2 x3 x4 x5 = some h' → ∀ (H : Heap) (locs : List Loc) (ls : Array Slot), dp_w D a B h s.heap H locs → lv_has ls 7 [(0, .ref (B + x0)), (1, .int x1), (2, .int x2), (3, .int x3), (4, .int x4), (5, .int x5)] → W p l e rm_X7_rewrite s m args below meth c H locs 0 0 (MQ below (dp_Q D a B none h') args s rm_X7_rewrite.cells rm_X7_rewrite.slots (fun q => B ≤ q)) (F0 m 27 ls []) := by
  intro h x0 x1 x2 x3 x4 x5 hm H locs ls hw hl
  obtain ⟨hx, hb, hml, hown, hlk, hK, hB⟩ := id X
  unfold b_X7_rewrite_27 at hm
  refine lv_iload hx hb dX7_rewrite_27 (lv_at hl 5 rfl) ?_
  refine lv_iload hx hb dX7_rewrite_29 (lv_at hl 4 rfl) ?_
  refine lv_iload_n hx hb dX7_rewrite_31 rfl (lv_at hl 2 rfl) ?_
  refine lv_isub hx hb dX7_rewrite_32 ?_
  refine lv_icmp_ge (tgt := 78) hx hb dX7_rewrite_33 (by decide) (fun hc => ?_) (fun hc => ?_)
  · have hm := dp_ip hc hm
    refine lv_iconst (v := 0) hx hb dX7_rewrite_78 (by decide) ?_
    refine lv_istore (lv' := [(5, .int 0), (0, .ref (B + x0)), (1, .int x1), (2, .int x2), (3, .int x3), (4, .int x4)]) hx hb dX7_rewrite_79 hl (by decide) rfl (fun ls hl => ?_)
    exact w_X7_rewrite_81 X hr 64 h x0 x1 x2 x4 0 hm _ _ _ hw (lv_sub hl [1, 2, 3, 5, 0] rfl)
  · have hm := dp_in hc hm
    refine lv_iload_n hx hb dX7_rewrite_36 rfl (lv_at hl 3 rfl) ?_
    refine lv_if_le (tgt := 50) hx hb dX7_rewrite_37 (by decide) (fun hc => ?_) (fun hc => ?_)
    · have hm := dp_ip hc hm
      refine lv_iload_n hx hb dX7_rewrite_50 rfl (lv_at hl 2 rfl) ?_
      refine lv_iload hx hb dX7_rewrite_51 (lv_at hl 5 rfl) ?_
      refine lv_iadd hx hb dX7_rewrite_53 ?_
      refine lv_istore (lv' := [(6, .int (x2 + x5)), (0, .ref (B + x0)), (1, .int x1), (2, .int x2), (3, .int x3), (4, .int x4), (5, .int x5)]) hx hb dX7_rewrite_54 hl (by decide) rfl (fun ls hl => ?_)
      refine lv_aload_n hx hb dX7_rewrite_56 rfl (lv_at hl 1 rfl) ?_
      obtain ⟨v1, ev1, hm⟩ := dp_ob hm
      refine dp_getr X hw cl_X7 25 (by decide) fl_X7_44 ev1 dX7_rewrite_57 ?_
      refine lv_iload hx hb dX7_rewrite_60 (lv_at hl 0 rfl) ?_
      refine lv_aload_n hx hb dX7_rewrite_62 rfl (lv_at hl 1 rfl) ?_
      obtain ⟨v2, ev2, hm⟩ := dp_ob hm
      refine dp_getr X hw cl_X7 25 (by decide) fl_X7_44 ev2 dX7_rewrite_63 ?_
      refine lv_iload hx hb dX7_rewrite_66 (lv_at hl 0 rfl) ?_
      refine lv_iload_n hx hb dX7_rewrite_68 rfl (lv_at hl 4 rfl) ?_
      refine lv_isub hx hb dX7_rewrite_69 ?_
      obtain ⟨v3, ev3, hm⟩ := dp_ob hm
      refine dp_iald X hw ev3 dX7_rewrite_70 ?_
      obtain ⟨h4, eh4, hm⟩ := dp_ob hm
      refine dp_iast X hw eh4 dX7_rewrite_71 (fun H locs hw => ?_)
      refine lv_iinc (v := (x5 + 1)) (lv' := [(5, .int (x5 + 1)), (6, .int (x2 + x5)), (0, .ref (B + x0)), (1, .int x1), (2, .int x2), (3, .int x3), (4, .int x4)]) hx hb dX7_rewrite_72 hl (k := 6) rfl rfl (by decide) rfl (fun ls hl => ?_)
      refine lv_goto (tgt := 27) hx hb dX7_rewrite_75 (by decide) ?_
      exact hk27 h4 x0 x1 x2 x3 x4 (x5 + 1) hm _ _ _ hw (lv_sub hl [2, 3, 4, 5, 6, 0] rfl)
    · have hm := dp_in hc hm
      refine lv_iload hx hb dX7_rewrite_40 (lv_at hl 4 rfl) ?_
      refine lv_iconst (v := 1) hx hb dX7_rewrite_42 (by decide) ?_
      refine lv_isub hx hb dX7_rewrite_43 ?_
      refine lv_iload hx hb dX7_rewrite_44 (lv_at hl 5 rfl) ?_
      refine lv_isub hx hb dX7_rewrite_46 ?_
      refine lv_goto (tgt := 54) hx hb dX7_rewrite_47 (by decide) ?_
      refine lv_istore (lv' := [(6, .int ((x4 - 1) - x5)), (0, .ref (B + x0)), (1, .int x1), (2, .int x2), (3, .int x3), (4, .int x4), (5, .int x5)]) hx hb dX7_rewrite_54 hl (by decide) rfl (fun ls hl => ?_)
      refine lv_aload_n hx hb dX7_rewrite_56 rfl (lv_at hl 1 rfl) ?_
      obtain ⟨v5, ev5, hm⟩ := dp_ob hm
      refine dp_getr X hw cl_X7 25 (by decide) fl_X7_44 ev5 dX7_rewrite_57 ?_
      refine lv_iload hx hb dX7_rewrite_60 (lv_at hl 0 rfl) ?_
      refine lv_aload_n hx hb dX7_rewrite_62 rfl (lv_at hl 1 rfl) ?_
      obtain ⟨v6, ev6, hm⟩ := dp_ob hm
      refine dp_getr X hw cl_X7 25 (by decide) fl_X7_44 ev6 dX7_rewrite_63 ?_
      refine lv_iload hx hb dX7_rewrite_66 (lv_at hl 0 rfl) ?_
      refine lv_iload_n hx hb dX7_rewrite_68 rfl (lv_at hl 4 rfl) ?_
      refine lv_isub hx hb dX7_rewrite_69 ?_
      obtain ⟨v7, ev7, hm⟩ := dp_ob hm
      refine dp_iald X hw ev7 dX7_rewrite_70 ?_
      obtain ⟨h8, eh8, hm⟩ := dp_ob hm
      refine dp_iast X hw eh8 dX7_rewrite_71 (fun H locs hw => ?_)
      refine lv_iinc (v := (x5 + 1)) (lv' := [(5, .int (x5 + 1)), (6, .int ((x4 - 1) - x5)), (0, .ref (B + x0)), (1, .int x1), (2, .int x2), (3, .int x3), (4, .int x4)]) hx hb dX7_rewrite_72 hl (k := 6) rfl rfl (by decide) rfl (fun ls hl => ?_)
      refine lv_goto (tgt := 27) hx hb dX7_rewrite_75 (by decide) ?_
      exact hk27 h8 x0 x1 x2 x3 x4 (x5 + 1) hm _ _ _ hw (lv_sub hl [2, 3, 4, 5, 6, 0] rfl)
set_option maxRecDepth 100000 in
set_option maxHeartbeats 4000000 in
theorem w_X7_rewrite_27 {p : Program} {l : Launch} {e : Env} {s : State} {m : MethodId} {args : Array Value} {below : List Frame} {meth : Method} {c : Code} {D : va_G} {a : dp_A} {B : Nat} (X : dp_X p s m meth c cX7_rewrite 7 RX7 D a B) (hr : meth.sig.returnType = none) {h' : dp_H}  : ∀ (n : Nat) (h : dp_H) (x0 : Nat) (x1 : Int32) (x2 : Int32) (x3 : Int32) (x4 : Int32) (x5 : Int32), m_X7_rewrite_27  n h x0 x1 x2 x3 x4 x5 = some h' → ∀ (H : Heap) (locs : List Loc) (ls : Array Slot), dp_w D a B h s.heap H locs → lv_has ls 7 [(0, .ref (B + x0)), (1, .int x1), (2, .int x2), (3, .int x3), (4, .int x4), (5, .int x5)] → W p l e rm_X7_rewrite s m args below meth c H locs 0 0 (MQ below (dp_Q D a B none h') args s rm_X7_rewrite.cells rm_X7_rewrite.slots (fun q => B ≤ q)) (F0 m 27 ls []) := by
  intro n
  induction n with
  | zero => intro h x0 x1 x2 x3 x4 x5 hm; cases hm
  | succ n ih => intro h x0 x1 x2 x3 x4 x5 hm; exact v_X7_rewrite_27 X hr ih h x0 x1 x2 x3 x4 x5 hm
theorem ck_X7_rewrite {h : dp_H} {x0 : Nat} {x1 : Int32} {h' : dp_H} (hm : m_X7_rewrite h x0 x1 = some h') : dp_is h x0 7 = true := (dp_ck_e hm).1
set_option maxRecDepth 100000 in
set_option maxHeartbeats 4000000 in
theorem c_X7_rewrite (l : Launch) (D : va_G) (a : dp_A) (B : Nat) (h : dp_H) (x0 : Nat) (x1 : Int32) {h' : dp_H} (hm : m_X7_rewrite h x0 x1 = some h') : dp_M l D a B yX7_rewrite cX7_rewrite 7 none rm_X7_rewrite [.ref (B + x0), .int x1] h none h' := by
  refine dp_M.of (own := RX7) (nm := "rewrite") (by decide) rfl rfl (Nat.le_of_ble_eq_true rfl) ?_
  intro p e s m below meth c ls X hr hin hw hl
  have hl : lv_has ls 7 [(0, .ref (B + x0)), (1, .int x1)] := hl
  obtain ⟨hx, hb, hml, hown, hlk, hK, hB⟩ := id X
  unfold m_X7_rewrite at hm
  obtain ⟨hck, hm⟩ := dp_ck_e hm
  refine lv_aload_n hx hb dX7_rewrite_0 rfl (lv_at hl 0 rfl) ?_
  obtain ⟨v1, ev1, hm⟩ := dp_ob hm
  refine dp_getr X hw cl_X7 8 (by decide) fl_X7_29 ev1 dX7_rewrite_1 ?_
  refine lv_iload_n hx hb dX7_rewrite_4 rfl (lv_at hl 1 rfl) ?_
  obtain ⟨v2, ev2, hm⟩ := dp_ob hm
  refine dp_iald X hw ev2 dX7_rewrite_5 ?_
  refine lv_istore_n (lv' := [(2, .int v2), (0, .ref (B + x0)), (1, .int x1)]) hx hb dX7_rewrite_6 rfl hl (by decide) rfl (fun ls hl => ?_)
  refine lv_iload_n hx hb dX7_rewrite_7 rfl (lv_at hl 0 rfl) ?_
  refine lv_aload_n hx hb dX7_rewrite_8 rfl (lv_at hl 1 rfl) ?_
  obtain ⟨v3, ev3, hm⟩ := dp_ob hm
  refine dp_getr X hw cl_X7 7 (by decide) fl_X7_26 ev3 dX7_rewrite_9 ?_
  refine lv_iload_n hx hb dX7_rewrite_12 rfl (lv_at hl 2 rfl) ?_
  obtain ⟨v4, ev4, hm⟩ := dp_ob hm
  refine dp_iald X hw ev4 dX7_rewrite_13 ?_
  refine lv_isub hx hb dX7_rewrite_14 ?_
  refine lv_istore_n (lv' := [(3, .int (v2 - v4)), (2, .int v2), (0, .ref (B + x0)), (1, .int x1)]) hx hb dX7_rewrite_15 rfl hl (by decide) rfl (fun ls hl => ?_)
  refine lv_aload_n hx hb dX7_rewrite_16 rfl (lv_at hl 2 rfl) ?_
  obtain ⟨v5, ev5, hm⟩ := dp_ob hm
  refine dp_geti X hw cl_X7 24 (by decide) fl_X7_162 ev5 dX7_rewrite_17 ?_
  refine lv_iload_n hx hb dX7_rewrite_20 rfl (lv_at hl 0 rfl) ?_
  refine lv_iadd hx hb dX7_rewrite_21 ?_
  refine lv_istore (lv' := [(4, .int (v5 + (v2 - v4))), (3, .int (v2 - v4)), (2, .int v2), (0, .ref (B + x0)), (1, .int x1)]) hx hb dX7_rewrite_22 hl (by decide) rfl (fun ls hl => ?_)
  refine lv_iconst (v := 0) hx hb dX7_rewrite_24 (by decide) ?_
  refine lv_istore (lv' := [(5, .int 0), (4, .int (v5 + (v2 - v4))), (3, .int (v2 - v4)), (2, .int v2), (0, .ref (B + x0)), (1, .int x1)]) hx hb dX7_rewrite_25 hl (by decide) rfl (fun ls hl => ?_)
  exact w_X7_rewrite_27 X hr 64 h x0 x1 v2 (v2 - v4) (v5 + (v2 - v4)) 0 hm _ _ _ hw (lv_sub hl [4, 5, 3, 2, 1, 0] rfl)
set_option maxRecDepth 100000 in
set_option maxHeartbeats 4000000 in
theorem v_X7_read_7 {p : Program} {l : Launch} {e : Env} {s : State} {m : MethodId} {args : Array Value} {below : List Frame} {meth : Method} {c : Code} {D : va_G} {a : dp_A} {B : Nat} (X : dp_X p s m meth c cX7_read 3 RX7 D a B) (hr : meth.sig.returnType = (some .int)) {h' : dp_H} {r : Int32} {k7 : dp_H → Nat → Int32 → Option (dp_H × Int32)} (hk7 : ∀ (h : dp_H) (x0 : Nat) (x1 : Int32), k7 h x0 x1 = some (h', r) → ∀ (H : Heap) (locs : List Loc) (ls : Array Slot), dp_w D a B h s.heap H locs → lv_has ls 3 [(0, .ref (B + x0)), (1, .int x1)] → W p l e rm_X7_read s m args below meth c H locs 0 0 (MQ below (dp_Q D a B (some (.int r)) h') args s rm_X7_read.cells rm_X7_read.slots (fun q => B ≤ q)) (F0 m 7 ls [])) : ∀ (h : dp_H) (x0 : Nat) (x1 : Int32), b_X7_read_7 k7 h x0 x1 = some (h', r) → ∀ (H : Heap) (locs : List Loc) (ls : Array Slot), dp_w D a B h s.heap H locs → lv_has ls 3 [(0, .ref (B + x0)), (1, .int x1)] → W p l e rm_X7_read s m args below meth c H locs 0 0 (MQ below (dp_Q D a B (some (.int r)) h') args s rm_X7_read.cells rm_X7_read.slots (fun q => B ≤ q)) (F0 m 7 ls []) := by
  intro h x0 x1 hm H locs ls hw hl
  obtain ⟨hx, hb, hml, hown, hlk, hK, hB⟩ := id X
  unfold b_X7_read_7 at hm
  refine lv_iload_n hx hb dX7_read_7 rfl (lv_at hl 1 rfl) ?_
  refine lv_if_eq (tgt := 101) hx hb dX7_read_8 (by decide) (fun hc => ?_) (fun hc => ?_)
  · have hm := dp_ip hc hm
    refine lv_iconst (v := (-1)) hx hb dX7_read_101 (by decide) ?_
    cases hm
    exact dp_iret X hr hw dX7_read_102
  · have hm := dp_in hc hm
    refine lv_aload_n hx hb dX7_read_11 rfl (lv_at hl 0 rfl) ?_
    obtain ⟨v1, ev1, hm⟩ := dp_ob hm
    refine dp_geti X hw cl_X7 26 (by decide) fl_X7_165 ev1 dX7_read_12 ?_
    refine lv_bipush (v := 6) hx hb dX7_read_15 (by decide) ?_
    refine lv_icmp_ge (tgt := 101) hx hb dX7_read_17 (by decide) (fun hc => ?_) (fun hc => ?_)
    · have hm := dp_ip hc hm
      refine lv_iconst (v := (-1)) hx hb dX7_read_101 (by decide) ?_
      cases hm
      exact dp_iret X hr hw dX7_read_102
    · have hm := dp_in hc hm
      refine lv_aload_n hx hb dX7_read_20 rfl (lv_at hl 0 rfl) ?_
      refine lv_dup hx hb dX7_read_21 rfl ?_
      obtain ⟨v2, ev2, hm⟩ := dp_ob hm
      refine dp_geti X hw cl_X7 26 (by decide) fl_X7_165 ev2 dX7_read_22 ?_
      refine lv_iconst (v := 1) hx hb dX7_read_25 (by decide) ?_
      refine lv_iadd hx hb dX7_read_26 ?_
      obtain ⟨h3, eh3, hm⟩ := dp_ob hm
      refine dp_puti X hw cl_X7 26 (by decide) fl_X7_165 rfl rfl eh3 dX7_read_27 (fun H locs hw => ?_)
      refine lv_aload_n hx hb dX7_read_30 rfl (lv_at hl 0 rfl) ?_
      refine lv_aload_n hx hb dX7_read_31 rfl (lv_at hl 0 rfl) ?_
      refine lv_aload_n hx hb dX7_read_32 rfl (lv_at hl 0 rfl) ?_
      obtain ⟨v4, ev4, hm⟩ := dp_ob hm
      refine dp_geti X hw cl_X7 24 (by decide) fl_X7_162 ev4 dX7_read_33 ?_
      obtain ⟨v5, ev5, hm⟩ := dp_ob hm
      refine dp_cV (As := [.int v4]) (rest := [.ref (B + x0)]) X hw (c_X7_fitting l D a B h3 x0 v4 ev5) vm_X7_fitting ml_X7_168 (by decide) rfl rfl (ck_X7_fitting ev5) rfl rfl hl.1 rfl (Nat.le_of_ble_eq_true rfl) dX7_read_36 ⟨(Nat.zero_le _), (Nat.zero_le _)⟩ (fun H locs hw => ?_)
      obtain ⟨v6, ev6, hm⟩ := dp_ob hm
      refine dp_cV (As := [.int v5]) (rest := []) X hw (c_X7_winner l D a B h3 x0 v5 ev6) vm_X7_winner ml_X7_171 (by decide) rfl rfl (ck_X7_winner ev6) rfl rfl hl.1 rfl (Nat.le_of_ble_eq_true rfl) dX7_read_39 ⟨(Nat.zero_le _), (Nat.zero_le _)⟩ (fun H locs hw => ?_)
      refine lv_istore_n (lv' := [(2, .int v6), (0, .ref (B + x0)), (1, .int x1)]) hx hb dX7_read_42 rfl hl (by decide) rfl (fun ls hl => ?_)
      refine lv_iload_n hx hb dX7_read_43 rfl (lv_at hl 0 rfl) ?_
      refine lv_iconst (v := (-1)) hx hb dX7_read_44 (by decide) ?_
      refine lv_icmp_ne (tgt := 50) hx hb dX7_read_45 (by decide) (fun hc => ?_) (fun hc => ?_)
      · have hm := dp_in hc hm
        refine lv_aload_n hx hb dX7_read_50 rfl (lv_at hl 1 rfl) ?_
        refine lv_iload_n hx hb dX7_read_51 rfl (lv_at hl 0 rfl) ?_
        obtain ⟨h7, eh7, hm⟩ := dp_ob hm
        refine dp_cVv (As := [.int v6]) (rest := []) X hw (c_X7_rewrite l D a B h3 x0 v6 eh7) vm_X7_rewrite ml_X7_174 (by decide) rfl rfl (ck_X7_rewrite eh7) rfl rfl hl.1 rfl (Nat.le_of_ble_eq_true rfl) dX7_read_52 ⟨(Nat.zero_le _), (Nat.zero_le _)⟩ (fun H locs hw => ?_)
        refine lv_aload_n hx hb dX7_read_55 rfl (lv_at hl 1 rfl) ?_
        obtain ⟨v8, ev8, hm⟩ := dp_ob hm
        refine dp_geti X hw cl_X7 24 (by decide) fl_X7_162 ev8 dX7_read_56 ?_
        refine lv_iconst (v := 1) hx hb dX7_read_59 (by decide) ?_
        refine lv_bipush (v := 10) hx hb dX7_read_60 (by decide) ?_
        obtain ⟨v9, ev9, hm⟩ := dp_ob hm
        refine dp_cS (As := [.int v8, .int 1, .int 10]) (rest := []) X hw (c_X7_within l D a B h7 v8 1 10 ev9) sm_X7_within st_X7_within ml_X7_50 (by decide) rfl rfl rfl hl.1 rfl (Nat.le_of_ble_eq_true rfl) dX7_read_62 ⟨(Nat.zero_le _), (Nat.zero_le _)⟩ (fun H locs hw => ?_)
        refine lv_if_ne (tgt := 70) hx hb dX7_read_65 (by decide) (fun hc => ?_) (fun hc => ?_)
        · have hm := dp_in hc hm
          refine lv_aload_n hx hb dX7_read_70 rfl (lv_at hl 1 rfl) ?_
          obtain ⟨v10, ev10, hm⟩ := dp_ob hm
          refine dp_getr X hw cl_X7 6 (by decide) fl_X7_23 ev10 dX7_read_71 ?_
          refine lv_iload_n hx hb dX7_read_74 rfl (lv_at hl 0 rfl) ?_
          obtain ⟨v11, ev11, hm⟩ := dp_ob hm
          refine dp_iald X hw ev11 dX7_read_75 ?_
          refine lv_bipush (v := 10) hx hb dX7_read_76 (by decide) ?_
          refine lv_icmp_ne (tgt := 85) hx hb dX7_read_78 (by decide) (fun hc => ?_) (fun hc => ?_)
          · have hm := dp_in hc hm
            refine lv_iconst (v := 0) hx hb dX7_read_85 (by decide) ?_
            refine lv_istore_n (lv' := [(1, .int 0), (2, .int v6), (0, .ref (B + x0))]) hx hb dX7_read_86 rfl hl (by decide) rfl (fun ls hl => ?_)
            refine lv_iload_n hx hb dX7_read_87 rfl (lv_at hl 0 rfl) ?_
            refine lv_if_ne (tgt := 98) hx hb dX7_read_88 (by decide) (fun hc => absurd (by decide) hc) (fun _ => ?_)
            refine lv_aload_n hx hb dX7_read_91 rfl (lv_at hl 2 rfl) ?_
            obtain ⟨v12, ev12, hm⟩ := dp_ob hm
            refine dp_getr X hw cl_X7 6 (by decide) fl_X7_23 ev12 dX7_read_92 ?_
            refine lv_iload_n hx hb dX7_read_95 rfl (lv_at hl 1 rfl) ?_
            obtain ⟨v13, ev13, hm⟩ := dp_ob hm
            refine dp_iald X hw ev13 dX7_read_96 ?_
            cases hm
            exact dp_iret X hr hw dX7_read_97
          · have hm := dp_ip hc hm
            refine lv_iconst (v := 1) hx hb dX7_read_81 (by decide) ?_
            refine lv_goto (tgt := 86) hx hb dX7_read_82 (by decide) ?_
            refine lv_istore_n (lv' := [(1, .int 1), (2, .int v6), (0, .ref (B + x0))]) hx hb dX7_read_86 rfl hl (by decide) rfl (fun ls hl => ?_)
            refine lv_iload_n hx hb dX7_read_87 rfl (lv_at hl 0 rfl) ?_
            refine lv_if_ne (tgt := 98) hx hb dX7_read_88 (by decide) (fun _ => ?_) (fun hc => absurd hc (by decide))
            refine lv_goto (tgt := 7) hx hb dX7_read_98 (by decide) ?_
            exact hk7 h7 x0 1 hm _ _ _ hw (lv_sub hl [2, 0] rfl)
        · have hm := dp_ip hc hm
          refine lv_iconst (v := (-1)) hx hb dX7_read_68 (by decide) ?_
          cases hm
          exact dp_iret X hr hw dX7_read_69
      · have hm := dp_ip hc hm
        refine lv_iconst (v := (-1)) hx hb dX7_read_48 (by decide) ?_
        cases hm
        exact dp_iret X hr hw dX7_read_49
set_option maxRecDepth 100000 in
set_option maxHeartbeats 4000000 in
theorem w_X7_read_7 {p : Program} {l : Launch} {e : Env} {s : State} {m : MethodId} {args : Array Value} {below : List Frame} {meth : Method} {c : Code} {D : va_G} {a : dp_A} {B : Nat} (X : dp_X p s m meth c cX7_read 3 RX7 D a B) (hr : meth.sig.returnType = (some .int)) {h' : dp_H} {r : Int32}  : ∀ (n : Nat) (h : dp_H) (x0 : Nat) (x1 : Int32), m_X7_read_7  n h x0 x1 = some (h', r) → ∀ (H : Heap) (locs : List Loc) (ls : Array Slot), dp_w D a B h s.heap H locs → lv_has ls 3 [(0, .ref (B + x0)), (1, .int x1)] → W p l e rm_X7_read s m args below meth c H locs 0 0 (MQ below (dp_Q D a B (some (.int r)) h') args s rm_X7_read.cells rm_X7_read.slots (fun q => B ≤ q)) (F0 m 7 ls []) := by
  intro n
  induction n with
  | zero => intro h x0 x1 hm; cases hm
  | succ n ih => intro h x0 x1 hm; exact v_X7_read_7 X hr ih h x0 x1 hm
theorem ck_X7_read {h : dp_H} {x0 : Nat} {h' : dp_H} {r : Int32} (hm : m_X7_read h x0 = some (h', r)) : dp_is h x0 7 = true := (dp_ck_e hm).1
set_option maxRecDepth 100000 in
set_option maxHeartbeats 4000000 in
theorem c_X7_read (l : Launch) (D : va_G) (a : dp_A) (B : Nat) (h : dp_H) (x0 : Nat) {h' : dp_H} {r : Int32} (hm : m_X7_read h x0 = some (h', r)) : dp_M l D a B yX7_read cX7_read 3 (some .int) rm_X7_read [.ref (B + x0)] h (some (.int r)) h' := by
  refine dp_M.of (own := RX7) (nm := "read") (by decide) rfl rfl (Nat.le_of_ble_eq_true rfl) ?_
  intro p e s m below meth c ls X hr hin hw hl
  have hl : lv_has ls 3 [(0, .ref (B + x0))] := hl
  obtain ⟨hx, hb, hml, hown, hlk, hK, hB⟩ := id X
  unfold m_X7_read at hm
  obtain ⟨hck, hm⟩ := dp_ck_e hm
  refine lv_aload_n hx hb dX7_read_0 rfl (lv_at hl 0 rfl) ?_
  refine lv_iconst (v := 0) hx hb dX7_read_1 (by decide) ?_
  obtain ⟨h1, eh1, hm⟩ := dp_ob hm
  refine dp_puti X hw cl_X7 26 (by decide) fl_X7_165 rfl rfl eh1 dX7_read_2 (fun H locs hw => ?_)
  refine lv_iconst (v := 1) hx hb dX7_read_5 (by decide) ?_
  refine lv_istore_n (lv' := [(1, .int 1), (0, .ref (B + x0))]) hx hb dX7_read_6 rfl hl (by decide) rfl (fun ls hl => ?_)
  exact w_X7_read_7 X hr 64 h1 x0 1 hm _ _ _ hw (lv_sub hl [1, 0] rfl)
set_option maxRecDepth 100000 in
set_option maxHeartbeats 4000000 in
theorem v_X7_isRow_13 {p : Program} {l : Launch} {e : Env} {s : State} {m : MethodId} {args : Array Value} {below : List Frame} {meth : Method} {c : Code} {D : va_G} {a : dp_A} {B : Nat} (X : dp_X p s m meth c cX7_isRow 3 RX7 D a B) (hr : meth.sig.returnType = (some .boolean)) {h : dp_H} {r : Int32} {k13 : Nat → Int32 → Int32 → Option Int32} (hk13 : ∀ (x0 : Nat) (x1 : Int32) (x2 : Int32), k13 x0 x1 x2 = some r → ∀ (H : Heap) (locs : List Loc) (ls : Array Slot), dp_w D a B h s.heap H locs → lv_has ls 3 [(0, .ref (B + x0)), (1, .int x1), (2, .int x2)] → W p l e rm_X7_isRow s m args below meth c H locs 0 0 (MQ below (dp_Q D a B (some (.int r)) h) args s rm_X7_isRow.cells rm_X7_isRow.slots (fun q => B ≤ q)) (F0 m 13 ls [])) : ∀ (x0 : Nat) (x1 : Int32) (x2 : Int32), b_X7_isRow_13 h k13 x0 x1 x2 = some r → ∀ (H : Heap) (locs : List Loc) (ls : Array Slot), dp_w D a B h s.heap H locs → lv_has ls 3 [(0, .ref (B + x0)), (1, .int x1), (2, .int x2)] → W p l e rm_X7_isRow s m args below meth c H locs 0 0 (MQ below (dp_Q D a B (some (.int r)) h) args s rm_X7_isRow.cells rm_X7_isRow.slots (fun q => B ≤ q)) (F0 m 13 ls []) := by
  intro x0 x1 x2 hm H locs ls hw hl
  obtain ⟨hx, hb, hml, hown, hlk, hK, hB⟩ := id X
  unfold b_X7_isRow_13 at hm
  refine lv_iload_n hx hb dX7_isRow_13 rfl (lv_at hl 2 rfl) ?_
  refine lv_aload_n hx hb dX7_isRow_14 rfl (lv_at hl 0 rfl) ?_
  obtain ⟨v1, ev1, hm⟩ := dp_ob hm
  refine dp_geti X hw cl_X7 0 (by decide) fl_X7_54 ev1 dX7_isRow_15 ?_
  refine lv_icmp_ge (tgt := 53) hx hb dX7_isRow_18 (by decide) (fun hc => ?_) (fun hc => ?_)
  · have hm := dp_ip hc hm
    refine lv_iload_n hx hb dX7_isRow_53 rfl (lv_at hl 1 rfl) ?_
    obtain ⟨hz, hm⟩ := dp_b_e hm
    cases hm
    exact dp_zret X hr hw hz dX7_isRow_54
  · have hm := dp_in hc hm
    refine lv_iload_n hx hb dX7_isRow_21 rfl (lv_at hl 1 rfl) ?_
    refine lv_if_eq (tgt := 45) hx hb dX7_isRow_22 (by decide) (fun hc => ?_) (fun hc => ?_)
    · have hm := dp_ip hc hm
      refine lv_iconst (v := 0) hx hb dX7_isRow_45 (by decide) ?_
      refine lv_istore_n (lv' := [(1, .int 0), (0, .ref (B + x0)), (2, .int x2)]) hx hb dX7_isRow_46 rfl hl (by decide) rfl (fun ls hl => ?_)
      refine lv_iinc (v := (x2 + 1)) (lv' := [(2, .int (x2 + 1)), (1, .int 0), (0, .ref (B + x0))]) hx hb dX7_isRow_47 hl (k := 2) rfl rfl (by decide) rfl (fun ls hl => ?_)
      refine lv_goto (tgt := 13) hx hb dX7_isRow_50 (by decide) ?_
      exact hk13 x0 0 (x2 + 1) hm _ _ _ hw (lv_sub hl [2, 1, 0] rfl)
    · have hm := dp_in hc hm
      refine lv_aload_n hx hb dX7_isRow_25 rfl (lv_at hl 0 rfl) ?_
      obtain ⟨v2, ev2, hm⟩ := dp_ob hm
      refine dp_getr X hw cl_X7 1 (by decide) fl_X7_7 ev2 dX7_isRow_26 ?_
      refine lv_iload_n hx hb dX7_isRow_29 rfl (lv_at hl 2 rfl) ?_
      obtain ⟨v3, ev3, hm⟩ := dp_ob hm
      refine dp_iald X hw ev3 dX7_isRow_30 ?_
      refine lv_bipush (v := 48) hx hb dX7_isRow_31 (by decide) ?_
      refine lv_bipush (v := 57) hx hb dX7_isRow_33 (by decide) ?_
      obtain ⟨v4, ev4, hm⟩ := dp_ob hm
      refine dp_cS (As := [.int v3, .int 48, .int 57]) (rest := []) X hw (c_X7_within l D a B h v3 48 57 ev4) sm_X7_within st_X7_within ml_X7_50 (by decide) rfl rfl rfl hl.1 rfl (Nat.le_of_ble_eq_true rfl) dX7_isRow_35 ⟨(Nat.zero_le _), (Nat.zero_le _)⟩ (fun H locs hw => ?_)
      refine lv_if_eq (tgt := 45) hx hb dX7_isRow_38 (by decide) (fun hc => ?_) (fun hc => ?_)
      · have hm := dp_ip hc hm
        refine lv_iconst (v := 0) hx hb dX7_isRow_45 (by decide) ?_
        refine lv_istore_n (lv' := [(1, .int 0), (0, .ref (B + x0)), (2, .int x2)]) hx hb dX7_isRow_46 rfl hl (by decide) rfl (fun ls hl => ?_)
        refine lv_iinc (v := (x2 + 1)) (lv' := [(2, .int (x2 + 1)), (1, .int 0), (0, .ref (B + x0))]) hx hb dX7_isRow_47 hl (k := 2) rfl rfl (by decide) rfl (fun ls hl => ?_)
        refine lv_goto (tgt := 13) hx hb dX7_isRow_50 (by decide) ?_
        exact hk13 x0 0 (x2 + 1) hm _ _ _ hw (lv_sub hl [2, 1, 0] rfl)
      · have hm := dp_in hc hm
        refine lv_iconst (v := 1) hx hb dX7_isRow_41 (by decide) ?_
        refine lv_goto (tgt := 46) hx hb dX7_isRow_42 (by decide) ?_
        refine lv_istore_n (lv' := [(1, .int 1), (0, .ref (B + x0)), (2, .int x2)]) hx hb dX7_isRow_46 rfl hl (by decide) rfl (fun ls hl => ?_)
        refine lv_iinc (v := (x2 + 1)) (lv' := [(2, .int (x2 + 1)), (1, .int 1), (0, .ref (B + x0))]) hx hb dX7_isRow_47 hl (k := 2) rfl rfl (by decide) rfl (fun ls hl => ?_)
        refine lv_goto (tgt := 13) hx hb dX7_isRow_50 (by decide) ?_
        exact hk13 x0 1 (x2 + 1) hm _ _ _ hw (lv_sub hl [2, 1, 0] rfl)
set_option maxRecDepth 100000 in
set_option maxHeartbeats 4000000 in
theorem w_X7_isRow_13 {p : Program} {l : Launch} {e : Env} {s : State} {m : MethodId} {args : Array Value} {below : List Frame} {meth : Method} {c : Code} {D : va_G} {a : dp_A} {B : Nat} (X : dp_X p s m meth c cX7_isRow 3 RX7 D a B) (hr : meth.sig.returnType = (some .boolean)) {h : dp_H} {r : Int32}  : ∀ (n : Nat) (x0 : Nat) (x1 : Int32) (x2 : Int32), m_X7_isRow_13 h  n x0 x1 x2 = some r → ∀ (H : Heap) (locs : List Loc) (ls : Array Slot), dp_w D a B h s.heap H locs → lv_has ls 3 [(0, .ref (B + x0)), (1, .int x1), (2, .int x2)] → W p l e rm_X7_isRow s m args below meth c H locs 0 0 (MQ below (dp_Q D a B (some (.int r)) h) args s rm_X7_isRow.cells rm_X7_isRow.slots (fun q => B ≤ q)) (F0 m 13 ls []) := by
  intro n
  induction n with
  | zero => intro x0 x1 x2 hm; cases hm
  | succ n ih => intro x0 x1 x2 hm; exact v_X7_isRow_13 X hr ih x0 x1 x2 hm
theorem ck_X7_isRow {h : dp_H} {x0 : Nat} {r : Int32} (hm : m_X7_isRow h x0 = some r) : dp_is h x0 7 = true := (dp_ck_e hm).1
set_option maxRecDepth 100000 in
set_option maxHeartbeats 4000000 in
theorem c_X7_isRow (l : Launch) (D : va_G) (a : dp_A) (B : Nat) (h : dp_H) (x0 : Nat) {r : Int32} (hm : m_X7_isRow h x0 = some r) : dp_M l D a B yX7_isRow cX7_isRow 3 (some .boolean) rm_X7_isRow [.ref (B + x0)] h (some (.int r)) h := by
  refine dp_M.of (own := RX7) (nm := "isRow") (by decide) rfl rfl (Nat.le_of_ble_eq_true rfl) ?_
  intro p e s m below meth c ls X hr hin hw hl
  have hl : lv_has ls 3 [(0, .ref (B + x0))] := hl
  obtain ⟨hx, hb, hml, hown, hlk, hK, hB⟩ := id X
  unfold m_X7_isRow at hm
  obtain ⟨hck, hm⟩ := dp_ck_e hm
  refine lv_aload_n hx hb dX7_isRow_0 rfl (lv_at hl 0 rfl) ?_
  obtain ⟨v1, ev1, hm⟩ := dp_ob hm
  refine dp_geti X hw cl_X7 0 (by decide) fl_X7_54 ev1 dX7_isRow_1 ?_
  refine lv_iconst (v := 1) hx hb dX7_isRow_4 (by decide) ?_
  refine lv_bipush (v := 10) hx hb dX7_isRow_5 (by decide) ?_
  obtain ⟨v2, ev2, hm⟩ := dp_ob hm
  refine dp_cS (As := [.int v1, .int 1, .int 10]) (rest := []) X hw (c_X7_within l D a B h v1 1 10 ev2) sm_X7_within st_X7_within ml_X7_50 (by decide) rfl rfl rfl hl.1 rfl (Nat.le_of_ble_eq_true rfl) dX7_isRow_7 ⟨(Nat.zero_le _), (Nat.zero_le _)⟩ (fun H locs hw => ?_)
  refine lv_istore_n (lv' := [(1, .int v2), (0, .ref (B + x0))]) hx hb dX7_isRow_10 rfl hl (by decide) rfl (fun ls hl => ?_)
  refine lv_iconst (v := 0) hx hb dX7_isRow_11 (by decide) ?_
  refine lv_istore_n (lv' := [(2, .int 0), (1, .int v2), (0, .ref (B + x0))]) hx hb dX7_isRow_12 rfl hl (by decide) rfl (fun ls hl => ?_)
  exact w_X7_isRow_13 X hr 64 x0 v2 0 hm _ _ _ hw (lv_sub hl [2, 1, 0] rfl)
set_option maxRecDepth 100000 in
set_option maxHeartbeats 4000000 in
theorem v_X7_rowNow_125 {p : Program} {l : Launch} {e : Env} {s : State} {m : MethodId} {args : Array Value} {below : List Frame} {meth : Method} {c : Code} {D : va_G} {a : dp_A} {B : Nat} (X : dp_X p s m meth c cX7_rowNow 4 RX7 D a B) (hr : meth.sig.returnType = (some .int)) {h' : dp_H} {r : Int32}  : ∀ (h : dp_H) (x0 : Nat) (x1 : Int32) (y0 : Int32), b_X7_rowNow_125  h x0 x1 y0 = some (h', r) → ∀ (H : Heap) (locs : List Loc) (ls : Array Slot), dp_w D a B h s.heap H locs → lv_has ls 4 [(0, .ref (B + x0)), (1, .int x1)] → W p l e rm_X7_rowNow s m args below meth c H locs 0 0 (MQ below (dp_Q D a B (some (.int r)) h') args s rm_X7_rowNow.cells rm_X7_rowNow.slots (fun q => B ≤ q)) (F0 m 125 ls [.int y0]) := by
  intro h x0 x1 y0 hm H locs ls hw hl
  obtain ⟨hx, hb, hml, hown, hlk, hK, hB⟩ := id X
  unfold b_X7_rowNow_125 at hm
  refine lv_istore_n (lv' := [(3, .int y0), (0, .ref (B + x0)), (1, .int x1)]) hx hb dX7_rowNow_125 rfl hl (by decide) rfl (fun ls hl => ?_)
  refine lv_iload_n hx hb dX7_rowNow_126 rfl (lv_at hl 2 rfl) ?_
  refine lv_iconst (v := 5) hx hb dX7_rowNow_127 (by decide) ?_
  refine lv_icmp_ne (tgt := 135) hx hb dX7_rowNow_128 (by decide) (fun hc => ?_) (fun hc => ?_)
  · have hm := dp_in hc hm
    refine lv_iload_n hx hb dX7_rowNow_135 rfl (lv_at hl 2 rfl) ?_
    refine lv_bipush (v := 10) hx hb dX7_rowNow_136 (by decide) ?_
    refine lv_isub hx hb dX7_rowNow_138 ?_
    refine lv_iload_n hx hb dX7_rowNow_139 rfl (lv_at hl 0 rfl) ?_
    refine lv_icmp_ge (tgt := 155) hx hb dX7_rowNow_140 (by decide) (fun hc => ?_) (fun hc => ?_)
    · have hm := dp_ip hc hm
      refine lv_iconst (v := (-1)) hx hb dX7_rowNow_155 (by decide) ?_
      cases hm
      exact dp_iret X hr hw dX7_rowNow_156
    · have hm := dp_in hc hm
      refine lv_aload_n hx hb dX7_rowNow_143 rfl (lv_at hl 1 rfl) ?_
      obtain ⟨v1, ev1, hm⟩ := dp_ob hm
      refine dp_getr X hw cl_X7 25 (by decide) fl_X7_44 ev1 dX7_rowNow_144 ?_
      refine lv_iload_n hx hb dX7_rowNow_147 rfl (lv_at hl 2 rfl) ?_
      refine lv_bipush (v := 10) hx hb dX7_rowNow_148 (by decide) ?_
      refine lv_isub hx hb dX7_rowNow_150 ?_
      obtain ⟨v2, ev2, hm⟩ := dp_ob hm
      refine dp_iald X hw ev2 dX7_rowNow_151 ?_
      refine lv_goto (tgt := 156) hx hb dX7_rowNow_152 (by decide) ?_
      cases hm
      exact dp_iret X hr hw dX7_rowNow_156
  · have hm := dp_ip hc hm
    refine lv_iload_n hx hb dX7_rowNow_131 rfl (lv_at hl 0 rfl) ?_
    refine lv_goto (tgt := 156) hx hb dX7_rowNow_132 (by decide) ?_
    cases hm
    exact dp_iret X hr hw dX7_rowNow_156
set_option maxRecDepth 100000 in
set_option maxHeartbeats 4000000 in
theorem v_X7_rowNow_10 {p : Program} {l : Launch} {e : Env} {s : State} {m : MethodId} {args : Array Value} {below : List Frame} {meth : Method} {c : Code} {D : va_G} {a : dp_A} {B : Nat} (X : dp_X p s m meth c cX7_rowNow 4 RX7 D a B) (hr : meth.sig.returnType = (some .int)) {h' : dp_H} {r : Int32} {k10 : dp_H → Nat → Int32 → Int32 → Option (dp_H × Int32)} (hk10 : ∀ (h : dp_H) (x0 : Nat) (x1 : Int32) (x2 : Int32), k10 h x0 x1 x2 = some (h', r) → ∀ (H : Heap) (locs : List Loc) (ls : Array Slot), dp_w D a B h s.heap H locs → lv_has ls 4 [(0, .ref (B + x0)), (1, .int x1), (2, .int x2)] → W p l e rm_X7_rowNow s m args below meth c H locs 0 0 (MQ below (dp_Q D a B (some (.int r)) h') args s rm_X7_rowNow.cells rm_X7_rowNow.slots (fun q => B ≤ q)) (F0 m 10 ls [])) : ∀ (h : dp_H) (x0 : Nat) (x1 : Int32) (x2 : Int32), b_X7_rowNow_10 k10 h x0 x1 x2 = some (h', r) → ∀ (H : Heap) (locs : List Loc) (ls : Array Slot), dp_w D a B h s.heap H locs → lv_has ls 4 [(0, .ref (B + x0)), (1, .int x1), (2, .int x2)] → W p l e rm_X7_rowNow s m args below meth c H locs 0 0 (MQ below (dp_Q D a B (some (.int r)) h') args s rm_X7_rowNow.cells rm_X7_rowNow.slots (fun q => B ≤ q)) (F0 m 10 ls []) := by
  intro h x0 x1 x2 hm H locs ls hw hl
  obtain ⟨hx, hb, hml, hown, hlk, hK, hB⟩ := id X
  unfold b_X7_rowNow_10 at hm
  refine lv_iload_n hx hb dX7_rowNow_10 rfl (lv_at hl 2 rfl) ?_
  refine lv_aload_n hx hb dX7_rowNow_11 rfl (lv_at hl 0 rfl) ?_
  obtain ⟨v1, ev1, hm⟩ := dp_ob hm
  refine dp_geti X hw cl_X7 24 (by decide) fl_X7_162 ev1 dX7_rowNow_12 ?_
  refine lv_icmp_ge (tgt := 39) hx hb dX7_rowNow_15 (by decide) (fun hc => ?_) (fun hc => ?_)
  · have hm := dp_ip hc hm
    refine lv_iload_n hx hb dX7_rowNow_39 rfl (lv_at hl 1 rfl) ?_
    refine lv_iconst (v := 3) hx hb dX7_rowNow_40 (by decide) ?_
    refine lv_icmp_ge (tgt := 88) hx hb dX7_rowNow_41 (by decide) (fun hc => ?_) (fun hc => ?_)
    · have hm := dp_ip hc hm
      refine lv_aload_n hx hb dX7_rowNow_88 rfl (lv_at hl 0 rfl) ?_
      obtain ⟨h2, v3, ev3, hm⟩ := dp_ob2 hm
      refine dp_cV (As := []) (rest := []) X hw (c_X7_read l D a B h x0 ev3) vm_X7_read ml_X7_180 (by decide) rfl rfl (ck_X7_read ev3) rfl rfl hl.1 rfl (Nat.le_of_ble_eq_true rfl) dX7_rowNow_89 ⟨(Nat.zero_le _), (Nat.zero_le _)⟩ (fun H locs hw => ?_)
      refine lv_istore_n (lv' := [(2, .int v3), (0, .ref (B + x0)), (1, .int x1)]) hx hb dX7_rowNow_92 rfl hl (by decide) rfl (fun ls hl => ?_)
      refine lv_iload_n hx hb dX7_rowNow_93 rfl (lv_at hl 2 rfl) ?_
      refine lv_iconst (v := 5) hx hb dX7_rowNow_94 (by decide) ?_
      refine lv_icmp_ge (tgt := 112) hx hb dX7_rowNow_95 (by decide) (fun hc => ?_) (fun hc => ?_)
      · have hm := dp_ip hc hm
        refine lv_iload_n hx hb dX7_rowNow_112 rfl (lv_at hl 0 rfl) ?_
        refine lv_iconst (v := (-1)) hx hb dX7_rowNow_113 (by decide) ?_
        refine lv_icmp_ne (tgt := 121) hx hb dX7_rowNow_114 (by decide) (fun hc => ?_) (fun hc => ?_)
        · have hm := dp_in hc hm
          refine lv_aload_n hx hb dX7_rowNow_121 rfl (lv_at hl 1 rfl) ?_
          obtain ⟨v4, ev4, hm⟩ := dp_ob hm
          refine dp_geti X hw cl_X7 24 (by decide) fl_X7_162 ev4 dX7_rowNow_122 ?_
          exact v_X7_rowNow_125 X hr h2 x0 x1 v4 hm _ _ _ hw (lv_sub hl [1, 2] rfl)
        · have hm := dp_ip hc hm
          refine lv_iconst (v := 0) hx hb dX7_rowNow_117 (by decide) ?_
          refine lv_goto (tgt := 125) hx hb dX7_rowNow_118 (by decide) ?_
          exact v_X7_rowNow_125 X hr h2 x0 x1 0 hm _ _ _ hw (lv_sub hl [1, 2] rfl)
      · have hm := dp_in hc hm
        refine lv_iload_n hx hb dX7_rowNow_98 rfl (lv_at hl 2 rfl) ?_
        refine lv_iconst (v := 3) hx hb dX7_rowNow_99 (by decide) ?_
        refine lv_icmp_ne (tgt := 107) hx hb dX7_rowNow_100 (by decide) (fun hc => ?_) (fun hc => ?_)
        · have hm := dp_in hc hm
          refine lv_aload_n hx hb dX7_rowNow_107 rfl (lv_at hl 1 rfl) ?_
          obtain ⟨v5, ev5, hm⟩ := dp_ob hm
          refine dp_geti X hw cl_X7 26 (by decide) fl_X7_165 ev5 dX7_rowNow_108 ?_
          cases hm
          exact dp_iret X hr hw dX7_rowNow_111
        · have hm := dp_ip hc hm
          refine lv_iload_n hx hb dX7_rowNow_103 rfl (lv_at hl 0 rfl) ?_
          refine lv_goto (tgt := 111) hx hb dX7_rowNow_104 (by decide) ?_
          cases hm
          exact dp_iret X hr hw dX7_rowNow_111
    · have hm := dp_in hc hm
      refine lv_iload_n hx hb dX7_rowNow_44 rfl (lv_at hl 1 rfl) ?_
      refine lv_if_ne (tgt := 63) hx hb dX7_rowNow_45 (by decide) (fun hc => ?_) (fun hc => ?_)
      · have hm := dp_in hc hm
        refine lv_iload_n hx hb dX7_rowNow_63 rfl (lv_at hl 1 rfl) ?_
        refine lv_iconst (v := 1) hx hb dX7_rowNow_64 (by decide) ?_
        refine lv_icmp_ne (tgt := 79) hx hb dX7_rowNow_65 (by decide) (fun hc => ?_) (fun hc => ?_)
        · have hm := dp_in hc hm
          refine lv_aload_n hx hb dX7_rowNow_79 rfl (lv_at hl 0 rfl) ?_
          refine lv_aload_n hx hb dX7_rowNow_80 rfl (lv_at hl 0 rfl) ?_
          obtain ⟨v6, ev6, hm⟩ := dp_ob hm
          refine dp_geti X hw cl_X7 24 (by decide) fl_X7_162 ev6 dX7_rowNow_81 ?_
          obtain ⟨v7, ev7, hm⟩ := dp_ob hm
          refine dp_cV (As := [.int v6]) (rest := []) X hw (c_X7_leading l D a B h x0 v6 ev7) vm_X7_leading ml_X7_177 (by decide) rfl rfl (ck_X7_leading ev7) rfl rfl hl.1 rfl (Nat.le_of_ble_eq_true rfl) dX7_rowNow_84 ⟨(Nat.zero_le _), (Nat.zero_le _)⟩ (fun H locs hw => ?_)
          cases hm
          exact dp_iret X hr hw dX7_rowNow_87
        · have hm := dp_ip hc hm
          refine lv_aload_n hx hb dX7_rowNow_68 rfl (lv_at hl 0 rfl) ?_
          refine lv_aload_n hx hb dX7_rowNow_69 rfl (lv_at hl 0 rfl) ?_
          obtain ⟨v8, ev8, hm⟩ := dp_ob hm
          refine dp_geti X hw cl_X7 24 (by decide) fl_X7_162 ev8 dX7_rowNow_70 ?_
          obtain ⟨v9, ev9, hm⟩ := dp_ob hm
          refine dp_cV (As := [.int v8]) (rest := []) X hw (c_X7_fitting l D a B h x0 v8 ev9) vm_X7_fitting ml_X7_168 (by decide) rfl rfl (ck_X7_fitting ev9) rfl rfl hl.1 rfl (Nat.le_of_ble_eq_true rfl) dX7_rowNow_73 ⟨(Nat.zero_le _), (Nat.zero_le _)⟩ (fun H locs hw => ?_)
          refine lv_goto (tgt := 87) hx hb dX7_rowNow_76 (by decide) ?_
          cases hm
          exact dp_iret X hr hw dX7_rowNow_87
      · have hm := dp_ip hc hm
        refine lv_aload_n hx hb dX7_rowNow_48 rfl (lv_at hl 0 rfl) ?_
        refine lv_aload_n hx hb dX7_rowNow_49 rfl (lv_at hl 0 rfl) ?_
        refine lv_aload_n hx hb dX7_rowNow_50 rfl (lv_at hl 0 rfl) ?_
        obtain ⟨v10, ev10, hm⟩ := dp_ob hm
        refine dp_geti X hw cl_X7 24 (by decide) fl_X7_162 ev10 dX7_rowNow_51 ?_
        obtain ⟨v11, ev11, hm⟩ := dp_ob hm
        refine dp_cV (As := [.int v10]) (rest := [.ref (B + x0)]) X hw (c_X7_fitting l D a B h x0 v10 ev11) vm_X7_fitting ml_X7_168 (by decide) rfl rfl (ck_X7_fitting ev11) rfl rfl hl.1 rfl (Nat.le_of_ble_eq_true rfl) dX7_rowNow_54 ⟨(Nat.zero_le _), (Nat.zero_le _)⟩ (fun H locs hw => ?_)
        obtain ⟨v12, ev12, hm⟩ := dp_ob hm
        refine dp_cV (As := [.int v11]) (rest := []) X hw (c_X7_winner l D a B h x0 v11 ev12) vm_X7_winner ml_X7_171 (by decide) rfl rfl (ck_X7_winner ev12) rfl rfl hl.1 rfl (Nat.le_of_ble_eq_true rfl) dX7_rowNow_57 ⟨(Nat.zero_le _), (Nat.zero_le _)⟩ (fun H locs hw => ?_)
        refine lv_goto (tgt := 87) hx hb dX7_rowNow_60 (by decide) ?_
        cases hm
        exact dp_iret X hr hw dX7_rowNow_87
  · have hm := dp_in hc hm
    refine lv_aload_n hx hb dX7_rowNow_18 rfl (lv_at hl 0 rfl) ?_
    obtain ⟨v13, ev13, hm⟩ := dp_ob hm
    refine dp_getr X hw cl_X7 25 (by decide) fl_X7_44 ev13 dX7_rowNow_19 ?_
    refine lv_iload_n hx hb dX7_rowNow_22 rfl (lv_at hl 2 rfl) ?_
    refine lv_aload_n hx hb dX7_rowNow_23 rfl (lv_at hl 0 rfl) ?_
    obtain ⟨v14, ev14, hm⟩ := dp_ob hm
    refine dp_getr X hw cl_X7 1 (by decide) fl_X7_7 ev14 dX7_rowNow_24 ?_
    refine lv_iload_n hx hb dX7_rowNow_27 rfl (lv_at hl 2 rfl) ?_
    obtain ⟨v15, ev15, hm⟩ := dp_ob hm
    refine dp_iald X hw ev15 dX7_rowNow_28 ?_
    refine lv_bipush (v := 48) hx hb dX7_rowNow_29 (by decide) ?_
    refine lv_isub hx hb dX7_rowNow_31 ?_
    obtain ⟨h16, eh16, hm⟩ := dp_ob hm
    refine dp_iast X hw eh16 dX7_rowNow_32 (fun H locs hw => ?_)
    refine lv_iinc (v := (x2 + 1)) (lv' := [(2, .int (x2 + 1)), (0, .ref (B + x0)), (1, .int x1)]) hx hb dX7_rowNow_33 hl (k := 2) rfl rfl (by decide) rfl (fun ls hl => ?_)
    refine lv_goto (tgt := 10) hx hb dX7_rowNow_36 (by decide) ?_
    exact hk10 h16 x0 x1 (x2 + 1) hm _ _ _ hw (lv_sub hl [1, 2, 0] rfl)
set_option maxRecDepth 100000 in
set_option maxHeartbeats 4000000 in
theorem w_X7_rowNow_10 {p : Program} {l : Launch} {e : Env} {s : State} {m : MethodId} {args : Array Value} {below : List Frame} {meth : Method} {c : Code} {D : va_G} {a : dp_A} {B : Nat} (X : dp_X p s m meth c cX7_rowNow 4 RX7 D a B) (hr : meth.sig.returnType = (some .int)) {h' : dp_H} {r : Int32}  : ∀ (n : Nat) (h : dp_H) (x0 : Nat) (x1 : Int32) (x2 : Int32), m_X7_rowNow_10  n h x0 x1 x2 = some (h', r) → ∀ (H : Heap) (locs : List Loc) (ls : Array Slot), dp_w D a B h s.heap H locs → lv_has ls 4 [(0, .ref (B + x0)), (1, .int x1), (2, .int x2)] → W p l e rm_X7_rowNow s m args below meth c H locs 0 0 (MQ below (dp_Q D a B (some (.int r)) h') args s rm_X7_rowNow.cells rm_X7_rowNow.slots (fun q => B ≤ q)) (F0 m 10 ls []) := by
  intro n
  induction n with
  | zero => intro h x0 x1 x2 hm; cases hm
  | succ n ih => intro h x0 x1 x2 hm; exact v_X7_rowNow_10 X hr ih h x0 x1 x2 hm
theorem ck_X7_rowNow {h : dp_H} {x0 : Nat} {x1 : Int32} {h' : dp_H} {r : Int32} (hm : m_X7_rowNow h x0 x1 = some (h', r)) : dp_is h x0 7 = true := (dp_ck_e hm).1
set_option maxRecDepth 100000 in
set_option maxHeartbeats 4000000 in
theorem c_X7_rowNow (l : Launch) (D : va_G) (a : dp_A) (B : Nat) (h : dp_H) (x0 : Nat) (x1 : Int32) {h' : dp_H} {r : Int32} (hm : m_X7_rowNow h x0 x1 = some (h', r)) : dp_M l D a B yX7_rowNow cX7_rowNow 4 (some .int) rm_X7_rowNow [.ref (B + x0), .int x1] h (some (.int r)) h' := by
  refine dp_M.of (own := RX7) (nm := "rowNow") (by decide) rfl rfl (Nat.le_of_ble_eq_true rfl) ?_
  intro p e s m below meth c ls X hr hin hw hl
  have hl : lv_has ls 4 [(0, .ref (B + x0)), (1, .int x1)] := hl
  obtain ⟨hx, hb, hml, hown, hlk, hK, hB⟩ := id X
  unfold m_X7_rowNow at hm
  obtain ⟨hck, hm⟩ := dp_ck_e hm
  refine lv_aload_n hx hb dX7_rowNow_0 rfl (lv_at hl 0 rfl) ?_
  refine lv_aload_n hx hb dX7_rowNow_1 rfl (lv_at hl 0 rfl) ?_
  obtain ⟨v1, ev1, hm⟩ := dp_ob hm
  refine dp_geti X hw cl_X7 0 (by decide) fl_X7_54 ev1 dX7_rowNow_2 ?_
  obtain ⟨h2, eh2, hm⟩ := dp_ob hm
  refine dp_puti X hw cl_X7 24 (by decide) fl_X7_162 rfl rfl eh2 dX7_rowNow_5 (fun H locs hw => ?_)
  refine lv_iconst (v := 0) hx hb dX7_rowNow_8 (by decide) ?_
  refine lv_istore_n (lv' := [(2, .int 0), (0, .ref (B + x0)), (1, .int x1)]) hx hb dX7_rowNow_9 rfl hl (by decide) rfl (fun ls hl => ?_)
  exact w_X7_rowNow_10 X hr 64 h2 x0 x1 0 hm _ _ _ hw (lv_sub hl [1, 2, 0] rfl)
