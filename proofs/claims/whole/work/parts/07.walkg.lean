theorem ck_X7_row {h : dp_H} {x0 : Nat} {x1 : Int32} {h' : dp_H} {r : Int32} (hm : m_X7_row h x0 x1 = some (h', r)) : dp_is h x0 7 = true := (dp_ck_e hm).1
set_option maxRecDepth 100000 in
set_option maxHeartbeats 4000000 in
theorem c_X7_row (l : Launch) (D : va_G) (a : dp_A) (B : Nat) (h : dp_H) (x0 : Nat) (x1 : Int32) {h' : dp_H} {r : Int32} (hm : m_X7_row h x0 x1 = some (h', r)) : dp_M l D a B yX7_row cX7_row 2 (some .int) rm_X7_row [.ref (B + x0), .int x1] h (some (.int r)) h' := by
  refine dp_M.of (own := RX7) (nm := "row") (by decide) rfl rfl (Nat.le_of_ble_eq_true rfl) ?_
  intro p e s m below meth c ls X hr hin hw hl
  have hl : lv_has ls 2 [(0, .ref (B + x0)), (1, .int x1)] := hl
  obtain ⟨hx, hb, hml, hown, hlk, hK, hB⟩ := id X
  unfold m_X7_row at hm
  obtain ⟨hck, hm⟩ := dp_ck_e hm
  refine lv_iload_n hx hb dX7_row_0 rfl (lv_at hl 1 rfl) ?_
  refine lv_iconst (v := 0) hx hb dX7_row_1 (by decide) ?_
  refine lv_iconst (v := 5) hx hb dX7_row_2 (by decide) ?_
  obtain ⟨v1, ev1, hm⟩ := dp_ob hm
  refine dp_cS (As := [.int x1, .int 0, .int 5]) (rest := []) X hw (c_X7_within l D a B h x1 0 5 ev1) sm_X7_within st_X7_within ml_X7_50 (by decide) rfl rfl rfl hl.1 rfl (Nat.le_of_ble_eq_true rfl) dX7_row_3 ⟨(Nat.zero_le _), (Nat.zero_le _)⟩ (fun H locs hw => ?_)
  refine lv_if_ne (tgt := 24) hx hb dX7_row_6 (by decide) (fun hc => ?_) (fun hc => ?_)
  · have hm := dp_in hc hm
    refine lv_aload_n hx hb dX7_row_24 rfl (lv_at hl 0 rfl) ?_
    obtain ⟨v2, ev2, hm⟩ := dp_ob hm
    refine dp_cV (As := []) (rest := []) X hw (c_X7_isRow l D a B h x0 ev2) vm_X7_isRow ml_X7_183 (by decide) rfl rfl (ck_X7_isRow ev2) rfl rfl hl.1 rfl (Nat.le_of_ble_eq_true rfl) dX7_row_25 ⟨(Nat.zero_le _), (Nat.zero_le _)⟩ (fun H locs hw => ?_)
    refine lv_if_eq (tgt := 39) hx hb dX7_row_28 (by decide) (fun hc => ?_) (fun hc => ?_)
    · have hm := dp_ip hc hm
      refine lv_sipush (v := (-1003)) hx hb dX7_row_39 (by decide) ?_
      cases hm
      exact dp_iret X hr hw dX7_row_42
    · have hm := dp_in hc hm
      refine lv_aload_n hx hb dX7_row_31 rfl (lv_at hl 0 rfl) ?_
      refine lv_iload_n hx hb dX7_row_32 rfl (lv_at hl 1 rfl) ?_
      obtain ⟨h3, v4, ev4, hm⟩ := dp_ob2 hm
      refine dp_cV (As := [.int x1]) (rest := []) X hw (c_X7_rowNow l D a B h x0 x1 ev4) vm_X7_rowNow ml_X7_187 (by decide) rfl rfl (ck_X7_rowNow ev4) rfl rfl hl.1 rfl (Nat.le_of_ble_eq_true rfl) dX7_row_33 ⟨(Nat.zero_le _), (Nat.zero_le _)⟩ (fun H locs hw => ?_)
      refine lv_goto (tgt := 42) hx hb dX7_row_36 (by decide) ?_
      cases hm
      exact dp_iret X hr hw dX7_row_42
  · have hm := dp_ip hc hm
    refine lv_iload_n hx hb dX7_row_9 rfl (lv_at hl 1 rfl) ?_
    refine lv_bipush (v := 10) hx hb dX7_row_10 (by decide) ?_
    refine lv_bipush (v := 19) hx hb dX7_row_12 (by decide) ?_
    obtain ⟨v5, ev5, hm⟩ := dp_ob hm
    refine dp_cS (As := [.int x1, .int 10, .int 19]) (rest := []) X hw (c_X7_within l D a B h x1 10 19 ev5) sm_X7_within st_X7_within ml_X7_50 (by decide) rfl rfl rfl hl.1 rfl (Nat.le_of_ble_eq_true rfl) dX7_row_14 ⟨(Nat.zero_le _), (Nat.zero_le _)⟩ (fun H locs hw => ?_)
    refine lv_if_ne (tgt := 24) hx hb dX7_row_17 (by decide) (fun hc => ?_) (fun hc => ?_)
    · have hm := dp_in hc hm
      refine lv_aload_n hx hb dX7_row_24 rfl (lv_at hl 0 rfl) ?_
      obtain ⟨v6, ev6, hm⟩ := dp_ob hm
      refine dp_cV (As := []) (rest := []) X hw (c_X7_isRow l D a B h x0 ev6) vm_X7_isRow ml_X7_183 (by decide) rfl rfl (ck_X7_isRow ev6) rfl rfl hl.1 rfl (Nat.le_of_ble_eq_true rfl) dX7_row_25 ⟨(Nat.zero_le _), (Nat.zero_le _)⟩ (fun H locs hw => ?_)
      refine lv_if_eq (tgt := 39) hx hb dX7_row_28 (by decide) (fun hc => ?_) (fun hc => ?_)
      · have hm := dp_ip hc hm
        refine lv_sipush (v := (-1003)) hx hb dX7_row_39 (by decide) ?_
        cases hm
        exact dp_iret X hr hw dX7_row_42
      · have hm := dp_in hc hm
        refine lv_aload_n hx hb dX7_row_31 rfl (lv_at hl 0 rfl) ?_
        refine lv_iload_n hx hb dX7_row_32 rfl (lv_at hl 1 rfl) ?_
        obtain ⟨h7, v8, ev8, hm⟩ := dp_ob2 hm
        refine dp_cV (As := [.int x1]) (rest := []) X hw (c_X7_rowNow l D a B h x0 x1 ev8) vm_X7_rowNow ml_X7_187 (by decide) rfl rfl (ck_X7_rowNow ev8) rfl rfl hl.1 rfl (Nat.le_of_ble_eq_true rfl) dX7_row_33 ⟨(Nat.zero_le _), (Nat.zero_le _)⟩ (fun H locs hw => ?_)
        refine lv_goto (tgt := 42) hx hb dX7_row_36 (by decide) ?_
        cases hm
        exact dp_iret X hr hw dX7_row_42
    · have hm := dp_ip hc hm
      refine lv_sipush (v := (-1002)) hx hb dX7_row_20 (by decide) ?_
      cases hm
      exact dp_iret X hr hw dX7_row_23
theorem ck_X7_stage {h : dp_H} {x0 : Nat} {x1 : Int32} {x2 : Int32} {h' : dp_H} {r : Int32} (hm : m_X7_stage h x0 x1 x2 = some (h', r)) : dp_is h x0 7 = true := (dp_ck_e hm).1
set_option maxRecDepth 100000 in
set_option maxHeartbeats 4000000 in
theorem c_X7_stage (l : Launch) (D : va_G) (a : dp_A) (B : Nat) (h : dp_H) (x0 : Nat) (x1 : Int32) (x2 : Int32) {h' : dp_H} {r : Int32} (hm : m_X7_stage h x0 x1 x2 = some (h', r)) : dp_M l D a B yX7_stage cX7_stage 4 (some .int) rm_X7_stage [.ref (B + x0), .int x1, .int x2] h (some (.int r)) h' := by
  refine dp_M.of (own := RX7) (nm := "stage") (by decide) rfl rfl (Nat.le_of_ble_eq_true rfl) ?_
  intro p e s m below meth c ls X hr hin hw hl
  have hl : lv_has ls 4 [(0, .ref (B + x0)), (1, .int x1), (2, .int x2)] := hl
  obtain ⟨hx, hb, hml, hown, hlk, hK, hB⟩ := id X
  unfold m_X7_stage at hm
  obtain ⟨hck, hm⟩ := dp_ck_e hm
  refine lv_iload_n hx hb dX7_stage_0 rfl (lv_at hl 1 rfl) ?_
  refine lv_iconst (v := 0) hx hb dX7_stage_1 (by decide) ?_
  refine lv_iconst (v := 2) hx hb dX7_stage_2 (by decide) ?_
  obtain ⟨v1, ev1, hm⟩ := dp_ob hm
  refine dp_cS (As := [.int x1, .int 0, .int 2]) (rest := []) X hw (c_X7_within l D a B h x1 0 2 ev1) sm_X7_within st_X7_within ml_X7_50 (by decide) rfl rfl rfl hl.1 rfl (Nat.le_of_ble_eq_true rfl) dX7_stage_3 ⟨(Nat.zero_le _), (Nat.zero_le _)⟩ (fun H locs hw => ?_)
  refine lv_if_eq (tgt := 19) hx hb dX7_stage_6 (by decide) (fun hc => ?_) (fun hc => ?_)
  · have hm := dp_ip hc hm
    refine lv_sipush (v := (-1002)) hx hb dX7_stage_19 (by decide) ?_
    cases hm
    exact dp_iret X hr hw dX7_stage_22
  · have hm := dp_in hc hm
    refine lv_iload_n hx hb dX7_stage_9 rfl (lv_at hl 2 rfl) ?_
    refine lv_iconst (v := 1) hx hb dX7_stage_10 (by decide) ?_
    refine lv_bipush (v := 99) hx hb dX7_stage_11 (by decide) ?_
    obtain ⟨v2, ev2, hm⟩ := dp_ob hm
    refine dp_cS (As := [.int x2, .int 1, .int 99]) (rest := []) X hw (c_X7_within l D a B h x2 1 99 ev2) sm_X7_within st_X7_within ml_X7_50 (by decide) rfl rfl rfl hl.1 rfl (Nat.le_of_ble_eq_true rfl) dX7_stage_13 ⟨(Nat.zero_le _), (Nat.zero_le _)⟩ (fun H locs hw => ?_)
    refine lv_if_ne (tgt := 23) hx hb dX7_stage_16 (by decide) (fun hc => ?_) (fun hc => ?_)
    · have hm := dp_in hc hm
      refine lv_aload_n hx hb dX7_stage_23 rfl (lv_at hl 0 rfl) ?_
      obtain ⟨v3, ev3, hm⟩ := dp_ob hm
      refine dp_getr X hw cl_X7 10 (by decide) fl_X7_35 ev3 dX7_stage_24 ?_
      refine lv_iload_n hx hb dX7_stage_27 rfl (lv_at hl 1 rfl) ?_
      obtain ⟨v4, ev4, hm⟩ := dp_ob hm
      refine dp_iald X hw ev4 dX7_stage_28 ?_
      refine lv_istore_n (lv' := [(3, .int v4), (0, .ref (B + x0)), (1, .int x1), (2, .int x2)]) hx hb dX7_stage_29 rfl hl (by decide) rfl (fun ls hl => ?_)
      refine lv_aload_n hx hb dX7_stage_30 rfl (lv_at hl 1 rfl) ?_
      obtain ⟨v5, ev5, hm⟩ := dp_ob hm
      refine dp_getr X hw cl_X7 10 (by decide) fl_X7_35 ev5 dX7_stage_31 ?_
      refine lv_iload_n hx hb dX7_stage_34 rfl (lv_at hl 2 rfl) ?_
      refine lv_iload_n hx hb dX7_stage_35 rfl (lv_at hl 3 rfl) ?_
      obtain ⟨h6, eh6, hm⟩ := dp_ob hm
      refine dp_iast X hw eh6 dX7_stage_36 (fun H locs hw => ?_)
      refine lv_iload_n hx hb dX7_stage_37 rfl (lv_at hl 0 rfl) ?_
      cases hm
      exact dp_iret X hr hw dX7_stage_38
    · have hm := dp_ip hc hm
      refine lv_sipush (v := (-1002)) hx hb dX7_stage_19 (by decide) ?_
      cases hm
      exact dp_iret X hr hw dX7_stage_22
set_option maxRecDepth 100000 in
set_option maxHeartbeats 4000000 in
theorem v_X7_layPressed_10 {p : Program} {l : Launch} {e : Env} {s : State} {m : MethodId} {args : Array Value} {below : List Frame} {meth : Method} {c : Code} {D : va_G} {a : dp_A} {B : Nat} (X : dp_X p s m meth c cX7_layPressed 2 RX7 D a B) (hr : meth.sig.returnType = none) {h' : dp_H} {k10 : dp_H → Nat → Int32 → Option dp_H} (hk10 : ∀ (h : dp_H) (x0 : Nat) (x1 : Int32), k10 h x0 x1 = some h' → ∀ (H : Heap) (locs : List Loc) (ls : Array Slot), dp_w D a B h s.heap H locs → lv_has ls 2 [(0, .ref (B + x0)), (1, .int x1)] → W p l e rm_X7_layPressed s m args below meth c H locs 0 0 (MQ below (dp_Q D a B none h') args s rm_X7_layPressed.cells rm_X7_layPressed.slots (fun q => B ≤ q)) (F0 m 10 ls [])) : ∀ (h : dp_H) (x0 : Nat) (x1 : Int32), b_X7_layPressed_10 k10 h x0 x1 = some h' → ∀ (H : Heap) (locs : List Loc) (ls : Array Slot), dp_w D a B h s.heap H locs → lv_has ls 2 [(0, .ref (B + x0)), (1, .int x1)] → W p l e rm_X7_layPressed s m args below meth c H locs 0 0 (MQ below (dp_Q D a B none h') args s rm_X7_layPressed.cells rm_X7_layPressed.slots (fun q => B ≤ q)) (F0 m 10 ls []) := by
  intro h x0 x1 hm H locs ls hw hl
  obtain ⟨hx, hb, hml, hown, hlk, hK, hB⟩ := id X
  unfold b_X7_layPressed_10 at hm
  refine lv_iload_n hx hb dX7_layPressed_10 rfl (lv_at hl 1 rfl) ?_
  refine lv_aload_n hx hb dX7_layPressed_11 rfl (lv_at hl 0 rfl) ?_
  obtain ⟨v1, ev1, hm⟩ := dp_ob hm
  refine dp_geti X hw cl_X7 28 (by decide) fl_X7_190 ev1 dX7_layPressed_12 ?_
  refine lv_icmp_ge (tgt := 36) hx hb dX7_layPressed_15 (by decide) (fun hc => ?_) (fun hc => ?_)
  · have hm := dp_ip hc hm
    cases hm
    exact dp_vret X hr hw dX7_layPressed_36
  · have hm := dp_in hc hm
    refine lv_aload_n hx hb dX7_layPressed_18 rfl (lv_at hl 0 rfl) ?_
    obtain ⟨v2, ev2, hm⟩ := dp_ob hm
    refine dp_getr X hw cl_X7 25 (by decide) fl_X7_44 ev2 dX7_layPressed_19 ?_
    refine lv_iload_n hx hb dX7_layPressed_22 rfl (lv_at hl 1 rfl) ?_
    refine lv_aload_n hx hb dX7_layPressed_23 rfl (lv_at hl 0 rfl) ?_
    obtain ⟨v3, ev3, hm⟩ := dp_ob hm
    refine dp_getr X hw cl_X7 29 (by decide) fl_X7_47 ev3 dX7_layPressed_24 ?_
    refine lv_iload_n hx hb dX7_layPressed_27 rfl (lv_at hl 1 rfl) ?_
    obtain ⟨v4, ev4, hm⟩ := dp_ob hm
    refine dp_iald X hw ev4 dX7_layPressed_28 ?_
    obtain ⟨h5, eh5, hm⟩ := dp_ob hm
    refine dp_iast X hw eh5 dX7_layPressed_29 (fun H locs hw => ?_)
    refine lv_iinc (v := (x1 + 1)) (lv' := [(1, .int (x1 + 1)), (0, .ref (B + x0))]) hx hb dX7_layPressed_30 hl (k := 1) rfl rfl (by decide) rfl (fun ls hl => ?_)
    refine lv_goto (tgt := 10) hx hb dX7_layPressed_33 (by decide) ?_
    exact hk10 h5 x0 (x1 + 1) hm _ _ _ hw (lv_sub hl [1, 0] rfl)
set_option maxRecDepth 100000 in
set_option maxHeartbeats 4000000 in
theorem w_X7_layPressed_10 {p : Program} {l : Launch} {e : Env} {s : State} {m : MethodId} {args : Array Value} {below : List Frame} {meth : Method} {c : Code} {D : va_G} {a : dp_A} {B : Nat} (X : dp_X p s m meth c cX7_layPressed 2 RX7 D a B) (hr : meth.sig.returnType = none) {h' : dp_H}  : ∀ (n : Nat) (h : dp_H) (x0 : Nat) (x1 : Int32), m_X7_layPressed_10  n h x0 x1 = some h' → ∀ (H : Heap) (locs : List Loc) (ls : Array Slot), dp_w D a B h s.heap H locs → lv_has ls 2 [(0, .ref (B + x0)), (1, .int x1)] → W p l e rm_X7_layPressed s m args below meth c H locs 0 0 (MQ below (dp_Q D a B none h') args s rm_X7_layPressed.cells rm_X7_layPressed.slots (fun q => B ≤ q)) (F0 m 10 ls []) := by
  intro n
  induction n with
  | zero => intro h x0 x1 hm; cases hm
  | succ n ih => intro h x0 x1 hm; exact v_X7_layPressed_10 X hr ih h x0 x1 hm
theorem ck_X7_layPressed {h : dp_H} {x0 : Nat} {h' : dp_H} (hm : m_X7_layPressed h x0 = some h') : dp_is h x0 7 = true := (dp_ck_e hm).1
set_option maxRecDepth 100000 in
set_option maxHeartbeats 4000000 in
theorem c_X7_layPressed (l : Launch) (D : va_G) (a : dp_A) (B : Nat) (h : dp_H) (x0 : Nat) {h' : dp_H} (hm : m_X7_layPressed h x0 = some h') : dp_M l D a B yX7_layPressed cX7_layPressed 2 none rm_X7_layPressed [.ref (B + x0)] h none h' := by
  refine dp_M.of (own := RX7) (nm := "layPressed") (by decide) rfl rfl (Nat.le_of_ble_eq_true rfl) ?_
  intro p e s m below meth c ls X hr hin hw hl
  have hl : lv_has ls 2 [(0, .ref (B + x0))] := hl
  obtain ⟨hx, hb, hml, hown, hlk, hK, hB⟩ := id X
  unfold m_X7_layPressed at hm
  obtain ⟨hck, hm⟩ := dp_ck_e hm
  refine lv_aload_n hx hb dX7_layPressed_0 rfl (lv_at hl 0 rfl) ?_
  refine lv_aload_n hx hb dX7_layPressed_1 rfl (lv_at hl 0 rfl) ?_
  obtain ⟨v1, ev1, hm⟩ := dp_ob hm
  refine dp_geti X hw cl_X7 28 (by decide) fl_X7_190 ev1 dX7_layPressed_2 ?_
  obtain ⟨h2, eh2, hm⟩ := dp_ob hm
  refine dp_puti X hw cl_X7 24 (by decide) fl_X7_162 rfl rfl eh2 dX7_layPressed_5 (fun H locs hw => ?_)
  refine lv_iconst (v := 0) hx hb dX7_layPressed_8 (by decide) ?_
  refine lv_istore_n (lv' := [(1, .int 0), (0, .ref (B + x0))]) hx hb dX7_layPressed_9 rfl hl (by decide) rfl (fun ls hl => ?_)
  exact w_X7_layPressed_10 X hr 64 h2 x0 0 hm _ _ _ hw (lv_sub hl [1, 0] rfl)
theorem ck_X7_lift {h : dp_H} {x0 : Nat} {h' : dp_H} {r : Int32} (hm : m_X7_lift h x0 = some (h', r)) : dp_is h x0 7 = true := (dp_ck_e hm).1
set_option maxRecDepth 100000 in
set_option maxHeartbeats 4000000 in
theorem c_X7_lift (l : Launch) (D : va_G) (a : dp_A) (B : Nat) (h : dp_H) (x0 : Nat) {h' : dp_H} {r : Int32} (hm : m_X7_lift h x0 = some (h', r)) : dp_M l D a B yX7_lift cX7_lift 1 (some .int) rm_X7_lift [.ref (B + x0)] h (some (.int r)) h' := by
  refine dp_M.of (own := RX7) (nm := "lift") (by decide) rfl rfl (Nat.le_of_ble_eq_true rfl) ?_
  intro p e s m below meth c ls X hr hin hw hl
  have hl : lv_has ls 1 [(0, .ref (B + x0))] := hl
  obtain ⟨hx, hb, hml, hown, hlk, hK, hB⟩ := id X
  unfold m_X7_lift at hm
  obtain ⟨hck, hm⟩ := dp_ck_e hm
  refine lv_aload_n hx hb dX7_lift_0 rfl (lv_at hl 0 rfl) ?_
  obtain ⟨v1, ev1, hm⟩ := dp_ob hm
  refine dp_geti X hw cl_X7 27 (by decide) fl_X7_106 ev1 dX7_lift_1 ?_
  refine lv_if_eq (tgt := 11) hx hb dX7_lift_4 (by decide) (fun hc => ?_) (fun hc => ?_)
  · have hm := dp_ip hc hm
    refine lv_aload_n hx hb dX7_lift_11 rfl (lv_at hl 0 rfl) ?_
    refine lv_iconst (v := 1) hx hb dX7_lift_12 (by decide) ?_
    obtain ⟨h2, eh2, hm⟩ := dp_ob hm
    refine dp_puti X hw cl_X7 27 (by decide) fl_X7_106 rfl rfl eh2 dX7_lift_13 (fun H locs hw => ?_)
    refine lv_aload_n hx hb dX7_lift_16 rfl (lv_at hl 0 rfl) ?_
    refine lv_iconst (v := 0) hx hb dX7_lift_17 (by decide) ?_
    obtain ⟨h3, eh3, hm⟩ := dp_ob hm
    refine dp_puti X hw cl_X7 28 (by decide) fl_X7_190 rfl rfl eh3 dX7_lift_18 (fun H locs hw => ?_)
    refine lv_aload_n hx hb dX7_lift_21 rfl (lv_at hl 0 rfl) ?_
    refine lv_iconst (v := 0) hx hb dX7_lift_22 (by decide) ?_
    obtain ⟨h4, eh4, hm⟩ := dp_ob hm
    refine dp_puti X hw cl_X7 31 (by decide) fl_X7_193 rfl rfl eh4 dX7_lift_23 (fun H locs hw => ?_)
    refine lv_aload_n hx hb dX7_lift_26 rfl (lv_at hl 0 rfl) ?_
    refine lv_aload_n hx hb dX7_lift_27 rfl (lv_at hl 0 rfl) ?_
    obtain ⟨v5, ev5, hm⟩ := dp_ob hm
    refine dp_getr X hw cl_X7 10 (by decide) fl_X7_35 ev5 dX7_lift_28 ?_
    refine lv_iconst (v := 0) hx hb dX7_lift_31 (by decide) ?_
    obtain ⟨v6, ev6, hm⟩ := dp_ob hm
    refine dp_iald X hw ev6 dX7_lift_32 ?_
    obtain ⟨h7, eh7, hm⟩ := dp_ob hm
    refine dp_puti X hw cl_X7 30 (by decide) fl_X7_196 rfl rfl eh7 dX7_lift_33 (fun H locs hw => ?_)
    refine lv_aload_n hx hb dX7_lift_36 rfl (lv_at hl 0 rfl) ?_
    refine lv_dup hx hb dX7_lift_37 rfl ?_
    obtain ⟨v8, ev8, hm⟩ := dp_ob hm
    refine dp_geti X hw cl_X7 11 (by decide) fl_X7_199 ev8 dX7_lift_38 ?_
    refine lv_iconst (v := 1) hx hb dX7_lift_41 (by decide) ?_
    refine lv_iadd hx hb dX7_lift_42 ?_
    obtain ⟨h9, eh9, hm⟩ := dp_ob hm
    refine dp_puti X hw cl_X7 11 (by decide) fl_X7_199 rfl rfl eh9 dX7_lift_43 (fun H locs hw => ?_)
    refine lv_aload_n hx hb dX7_lift_46 rfl (lv_at hl 0 rfl) ?_
    obtain ⟨v10, ev10, hm⟩ := dp_ob hm
    refine dp_geti X hw cl_X7 30 (by decide) fl_X7_196 ev10 dX7_lift_47 ?_
    cases hm
    exact dp_iret X hr hw dX7_lift_50
  · have hm := dp_in hc hm
    refine lv_sipush (v := (-1003)) hx hb dX7_lift_7 (by decide) ?_
    cases hm
    exact dp_iret X hr hw dX7_lift_10
theorem ck_X7_hang {h : dp_H} {x0 : Nat} {h' : dp_H} {r : Int32} (hm : m_X7_hang h x0 = some (h', r)) : dp_is h x0 7 = true := (dp_ck_e hm).1
set_option maxRecDepth 100000 in
set_option maxHeartbeats 4000000 in
theorem c_X7_hang (l : Launch) (D : va_G) (a : dp_A) (B : Nat) (h : dp_H) (x0 : Nat) {h' : dp_H} {r : Int32} (hm : m_X7_hang h x0 = some (h', r)) : dp_M l D a B yX7_hang cX7_hang 2 (some .int) rm_X7_hang [.ref (B + x0)] h (some (.int r)) h' := by
  refine dp_M.of (own := RX7) (nm := "hang") (by decide) rfl rfl (Nat.le_of_ble_eq_true rfl) ?_
  intro p e s m below meth c ls X hr hin hw hl
  have hl : lv_has ls 2 [(0, .ref (B + x0))] := hl
  obtain ⟨hx, hb, hml, hown, hlk, hK, hB⟩ := id X
  unfold m_X7_hang at hm
  obtain ⟨hck, hm⟩ := dp_ck_e hm
  refine lv_aload_n hx hb dX7_hang_0 rfl (lv_at hl 0 rfl) ?_
  obtain ⟨v1, ev1, hm⟩ := dp_ob hm
  refine dp_geti X hw cl_X7 27 (by decide) fl_X7_106 ev1 dX7_hang_1 ?_
  refine lv_if_ne (tgt := 11) hx hb dX7_hang_4 (by decide) (fun hc => ?_) (fun hc => ?_)
  · have hm := dp_in hc hm
    refine lv_aload_n hx hb dX7_hang_11 rfl (lv_at hl 0 rfl) ?_
    obtain ⟨v2, ev2, hm⟩ := dp_ob hm
    refine dp_geti X hw cl_X7 28 (by decide) fl_X7_190 ev2 dX7_hang_12 ?_
    refine lv_istore_n (lv' := [(1, .int v2), (0, .ref (B + x0))]) hx hb dX7_hang_15 rfl hl (by decide) rfl (fun ls hl => ?_)
    refine lv_aload_n hx hb dX7_hang_16 rfl (lv_at hl 1 rfl) ?_
    refine lv_iconst (v := 0) hx hb dX7_hang_17 (by decide) ?_
    obtain ⟨h3, eh3, hm⟩ := dp_ob hm
    refine dp_puti X hw cl_X7 27 (by decide) fl_X7_106 rfl rfl eh3 dX7_hang_18 (fun H locs hw => ?_)
    refine lv_aload_n hx hb dX7_hang_21 rfl (lv_at hl 1 rfl) ?_
    refine lv_iconst (v := 0) hx hb dX7_hang_22 (by decide) ?_
    obtain ⟨h4, eh4, hm⟩ := dp_ob hm
    refine dp_puti X hw cl_X7 28 (by decide) fl_X7_190 rfl rfl eh4 dX7_hang_23 (fun H locs hw => ?_)
    refine lv_aload_n hx hb dX7_hang_26 rfl (lv_at hl 1 rfl) ?_
    refine lv_iconst (v := 0) hx hb dX7_hang_27 (by decide) ?_
    obtain ⟨h5, eh5, hm⟩ := dp_ob hm
    refine dp_puti X hw cl_X7 31 (by decide) fl_X7_193 rfl rfl eh5 dX7_hang_28 (fun H locs hw => ?_)
    refine lv_iload_n hx hb dX7_hang_31 rfl (lv_at hl 0 rfl) ?_
    cases hm
    exact dp_iret X hr hw dX7_hang_32
  · have hm := dp_ip hc hm
    refine lv_sipush (v := (-1003)) hx hb dX7_hang_7 (by decide) ?_
    cases hm
    exact dp_iret X hr hw dX7_hang_10
set_option maxRecDepth 100000 in
set_option maxHeartbeats 4000000 in
theorem v_X7_ends_47 {p : Program} {l : Launch} {e : Env} {s : State} {m : MethodId} {args : Array Value} {below : List Frame} {meth : Method} {c : Code} {D : va_G} {a : dp_A} {B : Nat} (X : dp_X p s m meth c cX7_ends 2 RX7 D a B) (hr : meth.sig.returnType = (some .int)) {h' : dp_H} {r : Int32}  : ∀ (h : dp_H) (x0 : Nat) (y0 : Int32) (y1 : Int32) (y2 : Nat), b_X7_ends_47  h x0 y0 y1 y2 = some (h', r) → ∀ (H : Heap) (locs : List Loc) (ls : Array Slot), dp_w D a B h s.heap H locs → lv_has ls 2 [(0, .ref (B + x0))] → W p l e rm_X7_ends s m args below meth c H locs 0 0 (MQ below (dp_Q D a B (some (.int r)) h') args s rm_X7_ends.cells rm_X7_ends.slots (fun q => B ≤ q)) (F0 m 47 ls [.int y0, .int y1, .ref (B + y2)]) := by
  intro h x0 y0 y1 y2 hm H locs ls hw hl
  obtain ⟨hx, hb, hml, hown, hlk, hK, hB⟩ := id X
  unfold b_X7_ends_47 at hm
  refine lv_iadd hx hb dX7_ends_47 ?_
  obtain ⟨h1, eh1, hm⟩ := dp_ob hm
  refine dp_puti X hw cl_X7 12 (by decide) fl_X7_205 rfl rfl eh1 dX7_ends_48 (fun H locs hw => ?_)
  refine lv_aload_n hx hb dX7_ends_51 rfl (lv_at hl 0 rfl) ?_
  refine lv_dup hx hb dX7_ends_52 rfl ?_
  obtain ⟨v2, ev2, hm⟩ := dp_ob hm
  refine dp_geti X hw cl_X7 13 (by decide) fl_X7_208 ev2 dX7_ends_53 ?_
  refine lv_aload_n hx hb dX7_ends_56 rfl (lv_at hl 0 rfl) ?_
  obtain ⟨v3, ev3, hm⟩ := dp_ob hm
  refine dp_geti X hw cl_X7 27 (by decide) fl_X7_106 ev3 dX7_ends_57 ?_
  refine lv_iconst (v := 3) hx hb dX7_ends_60 (by decide) ?_
  refine lv_icmp_ne (tgt := 68) hx hb dX7_ends_61 (by decide) (fun hc => ?_) (fun hc => ?_)
  · have hm := dp_in hc hm
    refine lv_iconst (v := 0) hx hb dX7_ends_68 (by decide) ?_
    refine lv_iadd hx hb dX7_ends_69 ?_
    obtain ⟨h4, eh4, hm⟩ := dp_ob hm
    refine dp_puti X hw cl_X7 13 (by decide) fl_X7_208 rfl rfl eh4 dX7_ends_70 (fun H locs hw => ?_)
    refine lv_aload_n hx hb dX7_ends_73 rfl (lv_at hl 0 rfl) ?_
    obtain ⟨v5, ev5, hm⟩ := dp_ob hm
    refine dp_geti X hw cl_X7 27 (by decide) fl_X7_106 ev5 dX7_ends_74 ?_
    cases hm
    exact dp_iret X hr hw dX7_ends_77
  · have hm := dp_ip hc hm
    refine lv_iconst (v := 1) hx hb dX7_ends_64 (by decide) ?_
    refine lv_goto (tgt := 69) hx hb dX7_ends_65 (by decide) ?_
    refine lv_iadd hx hb dX7_ends_69 ?_
    obtain ⟨h6, eh6, hm⟩ := dp_ob hm
    refine dp_puti X hw cl_X7 13 (by decide) fl_X7_208 rfl rfl eh6 dX7_ends_70 (fun H locs hw => ?_)
    refine lv_aload_n hx hb dX7_ends_73 rfl (lv_at hl 0 rfl) ?_
    obtain ⟨v7, ev7, hm⟩ := dp_ob hm
    refine dp_geti X hw cl_X7 27 (by decide) fl_X7_106 ev7 dX7_ends_74 ?_
    cases hm
    exact dp_iret X hr hw dX7_ends_77
theorem ck_X7_ends {h : dp_H} {x0 : Nat} {x1 : Int32} {h' : dp_H} {r : Int32} (hm : m_X7_ends h x0 x1 = some (h', r)) : dp_is h x0 7 = true := (dp_ck_e hm).1
set_option maxRecDepth 100000 in
set_option maxHeartbeats 4000000 in
theorem c_X7_ends (l : Launch) (D : va_G) (a : dp_A) (B : Nat) (h : dp_H) (x0 : Nat) (x1 : Int32) {h' : dp_H} {r : Int32} (hm : m_X7_ends h x0 x1 = some (h', r)) : dp_M l D a B yX7_ends cX7_ends 2 (some .int) rm_X7_ends [.ref (B + x0), .int x1] h (some (.int r)) h' := by
  refine dp_M.of (own := RX7) (nm := "ends") (by decide) rfl rfl (Nat.le_of_ble_eq_true rfl) ?_
  intro p e s m below meth c ls X hr hin hw hl
  have hl : lv_has ls 2 [(0, .ref (B + x0)), (1, .int x1)] := hl
  obtain ⟨hx, hb, hml, hown, hlk, hK, hB⟩ := id X
  unfold m_X7_ends at hm
  obtain ⟨hck, hm⟩ := dp_ck_e hm
  refine lv_aload_n hx hb dX7_ends_0 rfl (lv_at hl 0 rfl) ?_
  obtain ⟨h1, eh1, hm⟩ := dp_ob hm
  refine dp_cVv (As := []) (rest := []) X hw (c_X7_layPressed l D a B h x0 eh1) vm_X7_layPressed ml_X7_202 (by decide) rfl rfl (ck_X7_layPressed eh1) rfl rfl hl.1 rfl (Nat.le_of_ble_eq_true rfl) dX7_ends_1 ⟨(Nat.zero_le _), (Nat.zero_le _)⟩ (fun H locs hw => ?_)
  refine lv_aload_n hx hb dX7_ends_4 rfl (lv_at hl 0 rfl) ?_
  refine lv_iload_n hx hb dX7_ends_5 rfl (lv_at hl 1 rfl) ?_
  obtain ⟨h2, eh2, hm⟩ := dp_ob hm
  refine dp_puti X hw cl_X7 31 (by decide) fl_X7_193 rfl rfl eh2 dX7_ends_6 (fun H locs hw => ?_)
  refine lv_aload_n hx hb dX7_ends_9 rfl (lv_at hl 0 rfl) ?_
  refine lv_aload_n hx hb dX7_ends_10 rfl (lv_at hl 0 rfl) ?_
  refine lv_aload_n hx hb dX7_ends_11 rfl (lv_at hl 0 rfl) ?_
  obtain ⟨v3, ev3, hm⟩ := dp_ob hm
  refine dp_geti X hw cl_X7 28 (by decide) fl_X7_190 ev3 dX7_ends_12 ?_
  obtain ⟨v4, ev4, hm⟩ := dp_ob hm
  refine dp_cV (As := [.int v3]) (rest := [.ref (B + x0)]) X hw (c_X7_fitting l D a B h2 x0 v3 ev4) vm_X7_fitting ml_X7_168 (by decide) rfl rfl (ck_X7_fitting ev4) rfl rfl hl.1 rfl (Nat.le_of_ble_eq_true rfl) dX7_ends_15 ⟨(Nat.zero_le _), (Nat.zero_le _)⟩ (fun H locs hw => ?_)
  refine lv_if_eq (tgt := 25) hx hb dX7_ends_18 (by decide) (fun hc => ?_) (fun hc => ?_)
  · have hm := dp_ip hc hm
    refine lv_iconst (v := 3) hx hb dX7_ends_25 (by decide) ?_
    obtain ⟨h5, eh5, hm⟩ := dp_ob hm
    refine dp_puti X hw cl_X7 27 (by decide) fl_X7_106 rfl rfl eh5 dX7_ends_26 (fun H locs hw => ?_)
    refine lv_aload_n hx hb dX7_ends_29 rfl (lv_at hl 0 rfl) ?_
    refine lv_dup hx hb dX7_ends_30 rfl ?_
    obtain ⟨v6, ev6, hm⟩ := dp_ob hm
    refine dp_geti X hw cl_X7 12 (by decide) fl_X7_205 ev6 dX7_ends_31 ?_
    refine lv_aload_n hx hb dX7_ends_34 rfl (lv_at hl 0 rfl) ?_
    obtain ⟨v7, ev7, hm⟩ := dp_ob hm
    refine dp_geti X hw cl_X7 27 (by decide) fl_X7_106 ev7 dX7_ends_35 ?_
    refine lv_iconst (v := 2) hx hb dX7_ends_38 (by decide) ?_
    refine lv_icmp_ne (tgt := 46) hx hb dX7_ends_39 (by decide) (fun hc => ?_) (fun hc => ?_)
    · have hm := dp_in hc hm
      refine lv_iconst (v := 0) hx hb dX7_ends_46 (by decide) ?_
      exact v_X7_ends_47 X hr h5 x0 0 v6 x0 hm _ _ _ hw (lv_sub hl [0] rfl)
    · have hm := dp_ip hc hm
      refine lv_iconst (v := 1) hx hb dX7_ends_42 (by decide) ?_
      refine lv_goto (tgt := 47) hx hb dX7_ends_43 (by decide) ?_
      exact v_X7_ends_47 X hr h5 x0 1 v6 x0 hm _ _ _ hw (lv_sub hl [0] rfl)
  · have hm := dp_in hc hm
    refine lv_iconst (v := 2) hx hb dX7_ends_21 (by decide) ?_
    refine lv_goto (tgt := 26) hx hb dX7_ends_22 (by decide) ?_
    obtain ⟨h8, eh8, hm⟩ := dp_ob hm
    refine dp_puti X hw cl_X7 27 (by decide) fl_X7_106 rfl rfl eh8 dX7_ends_26 (fun H locs hw => ?_)
    refine lv_aload_n hx hb dX7_ends_29 rfl (lv_at hl 0 rfl) ?_
    refine lv_dup hx hb dX7_ends_30 rfl ?_
    obtain ⟨v9, ev9, hm⟩ := dp_ob hm
    refine dp_geti X hw cl_X7 12 (by decide) fl_X7_205 ev9 dX7_ends_31 ?_
    refine lv_aload_n hx hb dX7_ends_34 rfl (lv_at hl 0 rfl) ?_
    obtain ⟨v10, ev10, hm⟩ := dp_ob hm
    refine dp_geti X hw cl_X7 27 (by decide) fl_X7_106 ev10 dX7_ends_35 ?_
    refine lv_iconst (v := 2) hx hb dX7_ends_38 (by decide) ?_
    refine lv_icmp_ne (tgt := 46) hx hb dX7_ends_39 (by decide) (fun hc => ?_) (fun hc => ?_)
    · have hm := dp_in hc hm
      refine lv_iconst (v := 0) hx hb dX7_ends_46 (by decide) ?_
      exact v_X7_ends_47 X hr h8 x0 0 v9 x0 hm _ _ _ hw (lv_sub hl [0] rfl)
    · have hm := dp_ip hc hm
      refine lv_iconst (v := 1) hx hb dX7_ends_42 (by decide) ?_
      refine lv_goto (tgt := 47) hx hb dX7_ends_43 (by decide) ?_
      exact v_X7_ends_47 X hr h8 x0 1 v9 x0 hm _ _ _ hw (lv_sub hl [0] rfl)
set_option maxRecDepth 100000 in
set_option maxHeartbeats 4000000 in
theorem v_X7_helps_4 {p : Program} {l : Launch} {e : Env} {s : State} {m : MethodId} {args : Array Value} {below : List Frame} {meth : Method} {c : Code} {D : va_G} {a : dp_A} {B : Nat} (X : dp_X p s m meth c cX7_helps 4 RX7 D a B) (hr : meth.sig.returnType = (some .int)) {h : dp_H} {r : Int32} {k4 : Nat → Int32 → Int32 → Int32 → Option Int32} (hk4 : ∀ (x0 : Nat) (x1 : Int32) (x2 : Int32) (x3 : Int32), k4 x0 x1 x2 x3 = some r → ∀ (H : Heap) (locs : List Loc) (ls : Array Slot), dp_w D a B h s.heap H locs → lv_has ls 4 [(0, .ref (B + x0)), (1, .int x1), (2, .int x2), (3, .int x3)] → W p l e rm_X7_helps s m args below meth c H locs 0 0 (MQ below (dp_Q D a B (some (.int r)) h) args s rm_X7_helps.cells rm_X7_helps.slots (fun q => B ≤ q)) (F0 m 4 ls [])) : ∀ (x0 : Nat) (x1 : Int32) (x2 : Int32) (x3 : Int32), b_X7_helps_4 h k4 x0 x1 x2 x3 = some r → ∀ (H : Heap) (locs : List Loc) (ls : Array Slot), dp_w D a B h s.heap H locs → lv_has ls 4 [(0, .ref (B + x0)), (1, .int x1), (2, .int x2), (3, .int x3)] → W p l e rm_X7_helps s m args below meth c H locs 0 0 (MQ below (dp_Q D a B (some (.int r)) h) args s rm_X7_helps.cells rm_X7_helps.slots (fun q => B ≤ q)) (F0 m 4 ls []) := by
  intro x0 x1 x2 x3 hm H locs ls hw hl
  obtain ⟨hx, hb, hml, hown, hlk, hK, hB⟩ := id X
  unfold b_X7_helps_4 at hm
  refine lv_iload_n hx hb dX7_helps_4 rfl (lv_at hl 3 rfl) ?_
  refine lv_aload_n hx hb dX7_helps_5 rfl (lv_at hl 0 rfl) ?_
  obtain ⟨v1, ev1, hm⟩ := dp_ob hm
  refine dp_geti X hw cl_X7 2 (by decide) fl_X7_109 ev1 dX7_helps_6 ?_
  refine lv_icmp_ge (tgt := 48) hx hb dX7_helps_9 (by decide) (fun hc => ?_) (fun hc => ?_)
  · have hm := dp_ip hc hm
    refine lv_iload_n hx hb dX7_helps_48 rfl (lv_at hl 2 rfl) ?_
    cases hm
    exact dp_iret X hr hw dX7_helps_49
  · have hm := dp_in hc hm
    refine lv_iload_n hx hb dX7_helps_12 rfl (lv_at hl 2 rfl) ?_
    refine lv_iload_n hx hb dX7_helps_13 rfl (lv_at hl 1 rfl) ?_
    refine lv_iload_n hx hb dX7_helps_14 rfl (lv_at hl 3 rfl) ?_
    refine lv_ishr hx hb dX7_helps_15 ?_
    refine lv_iconst (v := 1) hx hb dX7_helps_16 (by decide) ?_
    refine lv_iand hx hb dX7_helps_17 ?_
    refine lv_iconst (v := 1) hx hb dX7_helps_18 (by decide) ?_
    refine lv_icmp_ne (tgt := 39) hx hb dX7_helps_19 (by decide) (fun hc => ?_) (fun hc => ?_)
    · have hm := dp_in hc hm
      refine lv_iconst (v := 0) hx hb dX7_helps_39 (by decide) ?_
      refine lv_ior hx hb dX7_helps_40 ?_
      refine lv_istore_n (lv' := [(2, .int (x2 ||| 0)), (0, .ref (B + x0)), (1, .int x1), (3, .int x3)]) hx hb dX7_helps_41 rfl hl (by decide) rfl (fun ls hl => ?_)
      refine lv_iinc (v := (x3 + 1)) (lv' := [(3, .int (x3 + 1)), (2, .int (x2 ||| 0)), (0, .ref (B + x0)), (1, .int x1)]) hx hb dX7_helps_42 hl (k := 3) rfl rfl (by decide) rfl (fun ls hl => ?_)
      refine lv_goto (tgt := 4) hx hb dX7_helps_45 (by decide) ?_
      exact hk4 x0 x1 (x2 ||| 0) (x3 + 1) hm _ _ _ hw (lv_sub hl [2, 3, 1, 0] rfl)
    · have hm := dp_ip hc hm
      refine lv_aload_n hx hb dX7_helps_22 rfl (lv_at hl 0 rfl) ?_
      obtain ⟨v2, ev2, hm⟩ := dp_ob hm
      refine dp_getr X hw cl_X7 6 (by decide) fl_X7_23 ev2 dX7_helps_23 ?_
      refine lv_iload_n hx hb dX7_helps_26 rfl (lv_at hl 3 rfl) ?_
      obtain ⟨v3, ev3, hm⟩ := dp_ob hm
      refine dp_iald X hw ev3 dX7_helps_27 ?_
      refine lv_bipush (v := 9) hx hb dX7_helps_28 (by decide) ?_
      refine lv_icmp_ne (tgt := 39) hx hb dX7_helps_30 (by decide) (fun hc => ?_) (fun hc => ?_)
      · have hm := dp_in hc hm
        refine lv_iconst (v := 0) hx hb dX7_helps_39 (by decide) ?_
        refine lv_ior hx hb dX7_helps_40 ?_
        refine lv_istore_n (lv' := [(2, .int (x2 ||| 0)), (0, .ref (B + x0)), (1, .int x1), (3, .int x3)]) hx hb dX7_helps_41 rfl hl (by decide) rfl (fun ls hl => ?_)
        refine lv_iinc (v := (x3 + 1)) (lv' := [(3, .int (x3 + 1)), (2, .int (x2 ||| 0)), (0, .ref (B + x0)), (1, .int x1)]) hx hb dX7_helps_42 hl (k := 3) rfl rfl (by decide) rfl (fun ls hl => ?_)
        refine lv_goto (tgt := 4) hx hb dX7_helps_45 (by decide) ?_
        exact hk4 x0 x1 (x2 ||| 0) (x3 + 1) hm _ _ _ hw (lv_sub hl [2, 3, 1, 0] rfl)
      · have hm := dp_ip hc hm
        refine lv_iconst (v := 1) hx hb dX7_helps_33 (by decide) ?_
        refine lv_iload_n hx hb dX7_helps_34 rfl (lv_at hl 3 rfl) ?_
        refine lv_ishl hx hb dX7_helps_35 ?_
        refine lv_goto (tgt := 40) hx hb dX7_helps_36 (by decide) ?_
        refine lv_ior hx hb dX7_helps_40 ?_
        refine lv_istore_n (lv' := [(2, .int (x2 ||| (1 <<< (x3 &&& 31)))), (0, .ref (B + x0)), (1, .int x1), (3, .int x3)]) hx hb dX7_helps_41 rfl hl (by decide) rfl (fun ls hl => ?_)
        refine lv_iinc (v := (x3 + 1)) (lv' := [(3, .int (x3 + 1)), (2, .int (x2 ||| (1 <<< (x3 &&& 31)))), (0, .ref (B + x0)), (1, .int x1)]) hx hb dX7_helps_42 hl (k := 3) rfl rfl (by decide) rfl (fun ls hl => ?_)
        refine lv_goto (tgt := 4) hx hb dX7_helps_45 (by decide) ?_
        exact hk4 x0 x1 (x2 ||| (1 <<< (x3 &&& 31))) (x3 + 1) hm _ _ _ hw (lv_sub hl [2, 3, 1, 0] rfl)
set_option maxRecDepth 100000 in
set_option maxHeartbeats 4000000 in
theorem w_X7_helps_4 {p : Program} {l : Launch} {e : Env} {s : State} {m : MethodId} {args : Array Value} {below : List Frame} {meth : Method} {c : Code} {D : va_G} {a : dp_A} {B : Nat} (X : dp_X p s m meth c cX7_helps 4 RX7 D a B) (hr : meth.sig.returnType = (some .int)) {h : dp_H} {r : Int32}  : ∀ (n : Nat) (x0 : Nat) (x1 : Int32) (x2 : Int32) (x3 : Int32), m_X7_helps_4 h  n x0 x1 x2 x3 = some r → ∀ (H : Heap) (locs : List Loc) (ls : Array Slot), dp_w D a B h s.heap H locs → lv_has ls 4 [(0, .ref (B + x0)), (1, .int x1), (2, .int x2), (3, .int x3)] → W p l e rm_X7_helps s m args below meth c H locs 0 0 (MQ below (dp_Q D a B (some (.int r)) h) args s rm_X7_helps.cells rm_X7_helps.slots (fun q => B ≤ q)) (F0 m 4 ls []) := by
  intro n
  induction n with
  | zero => intro x0 x1 x2 x3 hm; cases hm
  | succ n ih => intro x0 x1 x2 x3 hm; exact v_X7_helps_4 X hr ih x0 x1 x2 x3 hm
theorem ck_X7_helps {h : dp_H} {x0 : Nat} {x1 : Int32} {r : Int32} (hm : m_X7_helps h x0 x1 = some r) : dp_is h x0 7 = true := (dp_ck_e hm).1
set_option maxRecDepth 100000 in
set_option maxHeartbeats 4000000 in
theorem c_X7_helps (l : Launch) (D : va_G) (a : dp_A) (B : Nat) (h : dp_H) (x0 : Nat) (x1 : Int32) {r : Int32} (hm : m_X7_helps h x0 x1 = some r) : dp_M l D a B yX7_helps cX7_helps 4 (some .int) rm_X7_helps [.ref (B + x0), .int x1] h (some (.int r)) h := by
  refine dp_M.of (own := RX7) (nm := "helps") (by decide) rfl rfl (Nat.le_of_ble_eq_true rfl) ?_
  intro p e s m below meth c ls X hr hin hw hl
  have hl : lv_has ls 4 [(0, .ref (B + x0)), (1, .int x1)] := hl
  obtain ⟨hx, hb, hml, hown, hlk, hK, hB⟩ := id X
  unfold m_X7_helps at hm
  obtain ⟨hck, hm⟩ := dp_ck_e hm
  refine lv_iconst (v := 0) hx hb dX7_helps_0 (by decide) ?_
  refine lv_istore_n (lv' := [(2, .int 0), (0, .ref (B + x0)), (1, .int x1)]) hx hb dX7_helps_1 rfl hl (by decide) rfl (fun ls hl => ?_)
  refine lv_iconst (v := 0) hx hb dX7_helps_2 (by decide) ?_
  refine lv_istore_n (lv' := [(3, .int 0), (2, .int 0), (0, .ref (B + x0)), (1, .int x1)]) hx hb dX7_helps_3 rfl hl (by decide) rfl (fun ls hl => ?_)
  exact w_X7_helps_4 X hr 64 x0 x1 0 0 hm _ _ _ hw (lv_sub hl [2, 3, 1, 0] rfl)
theorem ck_X7_press {h : dp_H} {x0 : Nat} {x1 : Int32} {h' : dp_H} {r : Int32} (hm : m_X7_press h x0 x1 = some (h', r)) : dp_is h x0 7 = true := (dp_ck_e hm).1
set_option maxRecDepth 100000 in
set_option maxHeartbeats 4000000 in
theorem c_X7_press (l : Launch) (D : va_G) (a : dp_A) (B : Nat) (h : dp_H) (x0 : Nat) (x1 : Int32) {h' : dp_H} {r : Int32} (hm : m_X7_press h x0 x1 = some (h', r)) : dp_M l D a B yX7_press cX7_press 3 (some .int) rm_X7_press [.ref (B + x0), .int x1] h (some (.int r)) h' := by
  refine dp_M.of (own := RX7) (nm := "press") (by decide) rfl rfl (Nat.le_of_ble_eq_true rfl) ?_
  intro p e s m below meth c ls X hr hin hw hl
  have hl : lv_has ls 3 [(0, .ref (B + x0)), (1, .int x1)] := hl
  obtain ⟨hx, hb, hml, hown, hlk, hK, hB⟩ := id X
  unfold m_X7_press at hm
  obtain ⟨hck, hm⟩ := dp_ck_e hm
  refine lv_iload_n hx hb dX7_press_0 rfl (lv_at hl 1 rfl) ?_
  refine lv_iconst (v := 0) hx hb dX7_press_1 (by decide) ?_
  refine lv_bipush (v := 9) hx hb dX7_press_2 (by decide) ?_
  obtain ⟨v1, ev1, hm⟩ := dp_ob hm
  refine dp_cS (As := [.int x1, .int 0, .int 9]) (rest := []) X hw (c_X7_within l D a B h x1 0 9 ev1) sm_X7_within st_X7_within ml_X7_50 (by decide) rfl rfl rfl hl.1 rfl (Nat.le_of_ble_eq_true rfl) dX7_press_4 ⟨(Nat.zero_le _), (Nat.zero_le _)⟩ (fun H locs hw => ?_)
  refine lv_if_ne (tgt := 14) hx hb dX7_press_7 (by decide) (fun hc => ?_) (fun hc => ?_)
  · have hm := dp_in hc hm
    refine lv_aload_n hx hb dX7_press_14 rfl (lv_at hl 0 rfl) ?_
    obtain ⟨v2, ev2, hm⟩ := dp_ob hm
    refine dp_geti X hw cl_X7 27 (by decide) fl_X7_106 ev2 dX7_press_15 ?_
    refine lv_iconst (v := 1) hx hb dX7_press_18 (by decide) ?_
    refine lv_icmp_eq (tgt := 26) hx hb dX7_press_19 (by decide) (fun hc => ?_) (fun hc => ?_)
    · have hm := dp_ip hc hm
      refine lv_aload_n hx hb dX7_press_26 rfl (lv_at hl 0 rfl) ?_
      obtain ⟨v3, ev3, hm⟩ := dp_ob hm
      refine dp_getr X hw cl_X7 29 (by decide) fl_X7_47 ev3 dX7_press_27 ?_
      refine lv_aload_n hx hb dX7_press_30 rfl (lv_at hl 0 rfl) ?_
      obtain ⟨v4, ev4, hm⟩ := dp_ob hm
      refine dp_geti X hw cl_X7 28 (by decide) fl_X7_190 ev4 dX7_press_31 ?_
      refine lv_iload_n hx hb dX7_press_34 rfl (lv_at hl 1 rfl) ?_
      obtain ⟨h5, eh5, hm⟩ := dp_ob hm
      refine dp_iast X hw eh5 dX7_press_35 (fun H locs hw => ?_)
      refine lv_aload_n hx hb dX7_press_36 rfl (lv_at hl 0 rfl) ?_
      refine lv_dup hx hb dX7_press_37 rfl ?_
      obtain ⟨v6, ev6, hm⟩ := dp_ob hm
      refine dp_geti X hw cl_X7 28 (by decide) fl_X7_190 ev6 dX7_press_38 ?_
      refine lv_iconst (v := 1) hx hb dX7_press_41 (by decide) ?_
      refine lv_iadd hx hb dX7_press_42 ?_
      obtain ⟨h7, eh7, hm⟩ := dp_ob hm
      refine dp_puti X hw cl_X7 28 (by decide) fl_X7_190 rfl rfl eh7 dX7_press_43 (fun H locs hw => ?_)
      refine lv_aload_n hx hb dX7_press_46 rfl (lv_at hl 0 rfl) ?_
      refine lv_dup hx hb dX7_press_47 rfl ?_
      obtain ⟨v8, ev8, hm⟩ := dp_ob hm
      refine dp_geti X hw cl_X7 14 (by decide) fl_X7_211 ev8 dX7_press_48 ?_
      refine lv_iconst (v := 1) hx hb dX7_press_51 (by decide) ?_
      refine lv_iadd hx hb dX7_press_52 ?_
      obtain ⟨h9, eh9, hm⟩ := dp_ob hm
      refine dp_puti X hw cl_X7 14 (by decide) fl_X7_211 rfl rfl eh9 dX7_press_53 (fun H locs hw => ?_)
      refine lv_aload_n hx hb dX7_press_56 rfl (lv_at hl 0 rfl) ?_
      obtain ⟨h10, eh10, hm⟩ := dp_ob hm
      refine dp_cVv (As := []) (rest := []) X hw (c_X7_layPressed l D a B h9 x0 eh10) vm_X7_layPressed ml_X7_202 (by decide) rfl rfl (ck_X7_layPressed eh10) rfl rfl hl.1 rfl (Nat.le_of_ble_eq_true rfl) dX7_press_57 ⟨(Nat.zero_le _), (Nat.zero_le _)⟩ (fun H locs hw => ?_)
      refine lv_aload_n hx hb dX7_press_60 rfl (lv_at hl 0 rfl) ?_
      refine lv_aload_n hx hb dX7_press_61 rfl (lv_at hl 0 rfl) ?_
      obtain ⟨v11, ev11, hm⟩ := dp_ob hm
      refine dp_geti X hw cl_X7 28 (by decide) fl_X7_190 ev11 dX7_press_62 ?_
      obtain ⟨v12, ev12, hm⟩ := dp_ob hm
      refine dp_cV (As := [.int v11]) (rest := []) X hw (c_X7_fitting l D a B h10 x0 v11 ev12) vm_X7_fitting ml_X7_168 (by decide) rfl rfl (ck_X7_fitting ev12) rfl rfl hl.1 rfl (Nat.le_of_ble_eq_true rfl) dX7_press_65 ⟨(Nat.zero_le _), (Nat.zero_le _)⟩ (fun H locs hw => ?_)
      refine lv_istore_n (lv' := [(2, .int v12), (0, .ref (B + x0)), (1, .int x1)]) hx hb dX7_press_68 rfl hl (by decide) rfl (fun ls hl => ?_)
      refine lv_aload_n hx hb dX7_press_69 rfl (lv_at hl 1 rfl) ?_
      refine lv_iload_n hx hb dX7_press_70 rfl (lv_at hl 0 rfl) ?_
      obtain ⟨v13, ev13, hm⟩ := dp_ob hm
      refine dp_cV (As := [.int v12]) (rest := []) X hw (c_X7_helps l D a B h10 x0 v12 ev13) vm_X7_helps ml_X7_214 (by decide) rfl rfl (ck_X7_helps ev13) rfl rfl hl.1 rfl (Nat.le_of_ble_eq_true rfl) dX7_press_71 ⟨(Nat.zero_le _), (Nat.zero_le _)⟩ (fun H locs hw => ?_)
      refine lv_if_eq (tgt := 83) hx hb dX7_press_74 (by decide) (fun hc => ?_) (fun hc => ?_)
      · have hm := dp_ip hc hm
        refine lv_aload_n hx hb dX7_press_83 rfl (lv_at hl 1 rfl) ?_
        obtain ⟨v14, ev14, hm⟩ := dp_ob hm
        refine dp_geti X hw cl_X7 28 (by decide) fl_X7_190 ev14 dX7_press_84 ?_
        refine lv_bipush (v := 10) hx hb dX7_press_87 (by decide) ?_
        refine lv_icmp_eq (tgt := 103) hx hb dX7_press_89 (by decide) (fun hc => ?_) (fun hc => ?_)
        · have hm := dp_ip hc hm
          refine lv_aload_n hx hb dX7_press_103 rfl (lv_at hl 1 rfl) ?_
          refine lv_iconst (v := 1) hx hb dX7_press_104 (by decide) ?_
          obtain ⟨h15, v16, ev16, hm⟩ := dp_ob2 hm
          refine dp_cV (As := [.int 1]) (rest := []) X hw (c_X7_ends l D a B h10 x0 1 ev16) vm_X7_ends ml_X7_217 (by decide) rfl rfl (ck_X7_ends ev16) rfl rfl hl.1 rfl (Nat.le_of_ble_eq_true rfl) dX7_press_105 ⟨(Nat.zero_le _), (Nat.zero_le _)⟩ (fun H locs hw => ?_)
          cases hm
          exact dp_iret X hr hw dX7_press_108
        · have hm := dp_in hc hm
          refine lv_aload_n hx hb dX7_press_92 rfl (lv_at hl 1 rfl) ?_
          refine lv_aload_n hx hb dX7_press_93 rfl (lv_at hl 1 rfl) ?_
          obtain ⟨v17, ev17, hm⟩ := dp_ob hm
          refine dp_geti X hw cl_X7 28 (by decide) fl_X7_190 ev17 dX7_press_94 ?_
          obtain ⟨v18, ev18, hm⟩ := dp_ob hm
          refine dp_cV (As := [.int v17]) (rest := []) X hw (c_X7_leading l D a B h10 x0 v17 ev18) vm_X7_leading ml_X7_177 (by decide) rfl rfl (ck_X7_leading ev18) rfl rfl hl.1 rfl (Nat.le_of_ble_eq_true rfl) dX7_press_97 ⟨(Nat.zero_le _), (Nat.zero_le _)⟩ (fun H locs hw => ?_)
          refine lv_if_ne (tgt := 109) hx hb dX7_press_100 (by decide) (fun hc => ?_) (fun hc => ?_)
          · have hm := dp_in hc hm
            refine lv_aload_n hx hb dX7_press_109 rfl (lv_at hl 1 rfl) ?_
            refine lv_aload_n hx hb dX7_press_110 rfl (lv_at hl 1 rfl) ?_
            obtain ⟨v19, ev19, hm⟩ := dp_ob hm
            refine dp_getr X hw cl_X7 10 (by decide) fl_X7_35 ev19 dX7_press_111 ?_
            refine lv_iload_n hx hb dX7_press_114 rfl (lv_at hl 0 rfl) ?_
            refine lv_if_ne (tgt := 122) hx hb dX7_press_115 (by decide) (fun hc => ?_) (fun hc => ?_)
            · have hm := dp_in hc hm
              refine lv_iconst (v := 2) hx hb dX7_press_122 (by decide) ?_
              obtain ⟨v20, ev20, hm⟩ := dp_ob hm
              refine dp_iald X hw ev20 dX7_press_123 ?_
              obtain ⟨h21, eh21, hm⟩ := dp_ob hm
              refine dp_puti X hw cl_X7 30 (by decide) fl_X7_196 rfl rfl eh21 dX7_press_124 (fun H locs hw => ?_)
              refine lv_iconst (v := 1) hx hb dX7_press_127 (by decide) ?_
              cases hm
              exact dp_iret X hr hw dX7_press_128
            · have hm := dp_ip hc hm
              refine lv_iconst (v := 1) hx hb dX7_press_118 (by decide) ?_
              refine lv_goto (tgt := 123) hx hb dX7_press_119 (by decide) ?_
              obtain ⟨v22, ev22, hm⟩ := dp_ob hm
              refine dp_iald X hw ev22 dX7_press_123 ?_
              obtain ⟨h23, eh23, hm⟩ := dp_ob hm
              refine dp_puti X hw cl_X7 30 (by decide) fl_X7_196 rfl rfl eh23 dX7_press_124 (fun H locs hw => ?_)
              refine lv_iconst (v := 1) hx hb dX7_press_127 (by decide) ?_
              cases hm
              exact dp_iret X hr hw dX7_press_128
          · have hm := dp_ip hc hm
            refine lv_aload_n hx hb dX7_press_103 rfl (lv_at hl 1 rfl) ?_
            refine lv_iconst (v := 1) hx hb dX7_press_104 (by decide) ?_
            obtain ⟨h24, v25, ev25, hm⟩ := dp_ob2 hm
            refine dp_cV (As := [.int 1]) (rest := []) X hw (c_X7_ends l D a B h10 x0 1 ev25) vm_X7_ends ml_X7_217 (by decide) rfl rfl (ck_X7_ends ev25) rfl rfl hl.1 rfl (Nat.le_of_ble_eq_true rfl) dX7_press_105 ⟨(Nat.zero_le _), (Nat.zero_le _)⟩ (fun H locs hw => ?_)
            cases hm
            exact dp_iret X hr hw dX7_press_108
      · have hm := dp_in hc hm
        refine lv_aload_n hx hb dX7_press_77 rfl (lv_at hl 1 rfl) ?_
        refine lv_iconst (v := 4) hx hb dX7_press_78 (by decide) ?_
        obtain ⟨h26, v27, ev27, hm⟩ := dp_ob2 hm
        refine dp_cV (As := [.int 4]) (rest := []) X hw (c_X7_ends l D a B h10 x0 4 ev27) vm_X7_ends ml_X7_217 (by decide) rfl rfl (ck_X7_ends ev27) rfl rfl hl.1 rfl (Nat.le_of_ble_eq_true rfl) dX7_press_79 ⟨(Nat.zero_le _), (Nat.zero_le _)⟩ (fun H locs hw => ?_)
        cases hm
        exact dp_iret X hr hw dX7_press_82
    · have hm := dp_in hc hm
      refine lv_sipush (v := (-1003)) hx hb dX7_press_22 (by decide) ?_
      cases hm
      exact dp_iret X hr hw dX7_press_25
  · have hm := dp_ip hc hm
    refine lv_sipush (v := (-1002)) hx hb dX7_press_10 (by decide) ?_
    cases hm
    exact dp_iret X hr hw dX7_press_13
theorem ck_X7_pass {h : dp_H} {x0 : Nat} {x1 : Int32} {h' : dp_H} {r : Int32} (hm : m_X7_pass h x0 x1 = some (h', r)) : dp_is h x0 7 = true := (dp_ck_e hm).1
set_option maxRecDepth 100000 in
set_option maxHeartbeats 4000000 in
theorem c_X7_pass (l : Launch) (D : va_G) (a : dp_A) (B : Nat) (h : dp_H) (x0 : Nat) (x1 : Int32) {h' : dp_H} {r : Int32} (hm : m_X7_pass h x0 x1 = some (h', r)) : dp_M l D a B yX7_pass cX7_pass 2 (some .int) rm_X7_pass [.ref (B + x0), .int x1] h (some (.int r)) h' := by
  refine dp_M.of (own := RX7) (nm := "pass") (by decide) rfl rfl (Nat.le_of_ble_eq_true rfl) ?_
  intro p e s m below meth c ls X hr hin hw hl
  have hl : lv_has ls 2 [(0, .ref (B + x0)), (1, .int x1)] := hl
  obtain ⟨hx, hb, hml, hown, hlk, hK, hB⟩ := id X
  unfold m_X7_pass at hm
  obtain ⟨hck, hm⟩ := dp_ck_e hm
  refine lv_iload_n hx hb dX7_pass_0 rfl (lv_at hl 1 rfl) ?_
  refine lv_iconst (v := 1) hx hb dX7_pass_1 (by decide) ?_
  refine lv_bipush (v := 99) hx hb dX7_pass_2 (by decide) ?_
  obtain ⟨v1, ev1, hm⟩ := dp_ob hm
  refine dp_cS (As := [.int x1, .int 1, .int 99]) (rest := []) X hw (c_X7_within l D a B h x1 1 99 ev1) sm_X7_within st_X7_within ml_X7_50 (by decide) rfl rfl rfl hl.1 rfl (Nat.le_of_ble_eq_true rfl) dX7_pass_4 ⟨(Nat.zero_le _), (Nat.zero_le _)⟩ (fun H locs hw => ?_)
  refine lv_if_ne (tgt := 14) hx hb dX7_pass_7 (by decide) (fun hc => ?_) (fun hc => ?_)
  · have hm := dp_in hc hm
    refine lv_aload_n hx hb dX7_pass_14 rfl (lv_at hl 0 rfl) ?_
    obtain ⟨v2, ev2, hm⟩ := dp_ob hm
    refine dp_geti X hw cl_X7 27 (by decide) fl_X7_106 ev2 dX7_pass_15 ?_
    refine lv_iconst (v := 1) hx hb dX7_pass_18 (by decide) ?_
    refine lv_icmp_eq (tgt := 26) hx hb dX7_pass_19 (by decide) (fun hc => ?_) (fun hc => ?_)
    · have hm := dp_ip hc hm
      refine lv_aload_n hx hb dX7_pass_26 rfl (lv_at hl 0 rfl) ?_
      refine lv_dup hx hb dX7_pass_27 rfl ?_
      obtain ⟨v3, ev3, hm⟩ := dp_ob hm
      refine dp_geti X hw cl_X7 30 (by decide) fl_X7_196 ev3 dX7_pass_28 ?_
      refine lv_iload_n hx hb dX7_pass_31 rfl (lv_at hl 1 rfl) ?_
      refine lv_isub hx hb dX7_pass_32 ?_
      obtain ⟨h4, eh4, hm⟩ := dp_ob hm
      refine dp_puti X hw cl_X7 30 (by decide) fl_X7_196 rfl rfl eh4 dX7_pass_33 (fun H locs hw => ?_)
      refine lv_aload_n hx hb dX7_pass_36 rfl (lv_at hl 0 rfl) ?_
      obtain ⟨v5, ev5, hm⟩ := dp_ob hm
      refine dp_geti X hw cl_X7 30 (by decide) fl_X7_196 ev5 dX7_pass_37 ?_
      refine lv_if_gt (tgt := 51) hx hb dX7_pass_40 (by decide) (fun hc => ?_) (fun hc => ?_)
      · have hm := dp_ip hc hm
        refine lv_iconst (v := 1) hx hb dX7_pass_51 (by decide) ?_
        cases hm
        exact dp_iret X hr hw dX7_pass_52
      · have hm := dp_in hc hm
        refine lv_aload_n hx hb dX7_pass_43 rfl (lv_at hl 0 rfl) ?_
        refine lv_iconst (v := 2) hx hb dX7_pass_44 (by decide) ?_
        obtain ⟨h6, v7, ev7, hm⟩ := dp_ob2 hm
        refine dp_cV (As := [.int 2]) (rest := []) X hw (c_X7_ends l D a B h4 x0 2 ev7) vm_X7_ends ml_X7_217 (by decide) rfl rfl (ck_X7_ends ev7) rfl rfl hl.1 rfl (Nat.le_of_ble_eq_true rfl) dX7_pass_45 ⟨(Nat.zero_le _), (Nat.zero_le _)⟩ (fun H locs hw => ?_)
        refine lv_goto (tgt := 52) hx hb dX7_pass_48 (by decide) ?_
        cases hm
        exact dp_iret X hr hw dX7_pass_52
    · have hm := dp_in hc hm
      refine lv_sipush (v := (-1003)) hx hb dX7_pass_22 (by decide) ?_
      cases hm
      exact dp_iret X hr hw dX7_pass_25
  · have hm := dp_ip hc hm
    refine lv_sipush (v := (-1002)) hx hb dX7_pass_10 (by decide) ?_
    cases hm
    exact dp_iret X hr hw dX7_pass_13
theorem ck_X7_end {h : dp_H} {x0 : Nat} {h' : dp_H} {r : Int32} (hm : m_X7_end h x0 = some (h', r)) : dp_is h x0 7 = true := (dp_ck_e hm).1
set_option maxRecDepth 100000 in
set_option maxHeartbeats 4000000 in
theorem c_X7_end (l : Launch) (D : va_G) (a : dp_A) (B : Nat) (h : dp_H) (x0 : Nat) {h' : dp_H} {r : Int32} (hm : m_X7_end h x0 = some (h', r)) : dp_M l D a B yX7_end cX7_end 1 (some .int) rm_X7_end [.ref (B + x0)] h (some (.int r)) h' := by
  refine dp_M.of (own := RX7) (nm := "end") (by decide) rfl rfl (Nat.le_of_ble_eq_true rfl) ?_
  intro p e s m below meth c ls X hr hin hw hl
  have hl : lv_has ls 1 [(0, .ref (B + x0))] := hl
  obtain ⟨hx, hb, hml, hown, hlk, hK, hB⟩ := id X
  unfold m_X7_end at hm
  obtain ⟨hck, hm⟩ := dp_ck_e hm
  refine lv_aload_n hx hb dX7_end_0 rfl (lv_at hl 0 rfl) ?_
  obtain ⟨v1, ev1, hm⟩ := dp_ob hm
  refine dp_geti X hw cl_X7 27 (by decide) fl_X7_106 ev1 dX7_end_1 ?_
  refine lv_iconst (v := 1) hx hb dX7_end_4 (by decide) ?_
  refine lv_icmp_ne (tgt := 16) hx hb dX7_end_5 (by decide) (fun hc => ?_) (fun hc => ?_)
  · have hm := dp_in hc hm
    refine lv_sipush (v := (-1003)) hx hb dX7_end_16 (by decide) ?_
    cases hm
    exact dp_iret X hr hw dX7_end_19
  · have hm := dp_ip hc hm
    refine lv_aload_n hx hb dX7_end_8 rfl (lv_at hl 0 rfl) ?_
    refine lv_iconst (v := 3) hx hb dX7_end_9 (by decide) ?_
    obtain ⟨h2, v3, ev3, hm⟩ := dp_ob2 hm
    refine dp_cV (As := [.int 3]) (rest := []) X hw (c_X7_ends l D a B h x0 3 ev3) vm_X7_ends ml_X7_217 (by decide) rfl rfl (ck_X7_ends ev3) rfl rfl hl.1 rfl (Nat.le_of_ble_eq_true rfl) dX7_end_10 ⟨(Nat.zero_le _), (Nat.zero_le _)⟩ (fun H locs hw => ?_)
    refine lv_goto (tgt := 19) hx hb dX7_end_13 (by decide) ?_
    cases hm
    exact dp_iret X hr hw dX7_end_19
theorem ck_X7_stageNow {h : dp_H} {x0 : Nat} {h' : dp_H} {r : Int32} (hm : m_X7_stageNow h x0 = some (h', r)) : dp_is h x0 7 = true := (dp_ck_e hm).1
set_option maxRecDepth 100000 in
set_option maxHeartbeats 4000000 in
theorem c_X7_stageNow (l : Launch) (D : va_G) (a : dp_A) (B : Nat) (h : dp_H) (x0 : Nat) {h' : dp_H} {r : Int32} (hm : m_X7_stageNow h x0 = some (h', r)) : dp_M l D a B yX7_stageNow cX7_stageNow 1 (some .int) rm_X7_stageNow [.ref (B + x0)] h (some (.int r)) h' := by
  refine dp_M.of (own := RX7) (nm := "stageNow") (by decide) rfl rfl (Nat.le_of_ble_eq_true rfl) ?_
  intro p e s m below meth c ls X hr hin hw hl
  have hl : lv_has ls 1 [(0, .ref (B + x0))] := hl
  obtain ⟨hx, hb, hml, hown, hlk, hK, hB⟩ := id X
  unfold m_X7_stageNow at hm
  obtain ⟨hck, hm⟩ := dp_ck_e hm
  refine lv_aload_n hx hb dX7_stageNow_0 rfl (lv_at hl 0 rfl) ?_
  obtain ⟨h1, eh1, hm⟩ := dp_ob hm
  refine dp_cVv (As := []) (rest := []) X hw (c_X7_layPressed l D a B h x0 eh1) vm_X7_layPressed ml_X7_202 (by decide) rfl rfl (ck_X7_layPressed eh1) rfl rfl hl.1 rfl (Nat.le_of_ble_eq_true rfl) dX7_stageNow_1 ⟨(Nat.zero_le _), (Nat.zero_le _)⟩ (fun H locs hw => ?_)
  refine lv_aload_n hx hb dX7_stageNow_4 rfl (lv_at hl 0 rfl) ?_
  obtain ⟨v2, ev2, hm⟩ := dp_ob hm
  refine dp_geti X hw cl_X7 28 (by decide) fl_X7_190 ev2 dX7_stageNow_5 ?_
  refine lv_if_ne (tgt := 15) hx hb dX7_stageNow_8 (by decide) (fun hc => ?_) (fun hc => ?_)
  · have hm := dp_in hc hm
    refine lv_aload_n hx hb dX7_stageNow_15 rfl (lv_at hl 0 rfl) ?_
    refine lv_aload_n hx hb dX7_stageNow_16 rfl (lv_at hl 0 rfl) ?_
    obtain ⟨v3, ev3, hm⟩ := dp_ob hm
    refine dp_geti X hw cl_X7 28 (by decide) fl_X7_190 ev3 dX7_stageNow_17 ?_
    obtain ⟨v4, ev4, hm⟩ := dp_ob hm
    refine dp_cV (As := [.int v3]) (rest := []) X hw (c_X7_fitting l D a B h1 x0 v3 ev4) vm_X7_fitting ml_X7_168 (by decide) rfl rfl (ck_X7_fitting ev4) rfl rfl hl.1 rfl (Nat.le_of_ble_eq_true rfl) dX7_stageNow_20 ⟨(Nat.zero_le _), (Nat.zero_le _)⟩ (fun H locs hw => ?_)
    refine lv_if_ne (tgt := 30) hx hb dX7_stageNow_23 (by decide) (fun hc => ?_) (fun hc => ?_)
    · have hm := dp_in hc hm
      refine lv_iconst (v := 2) hx hb dX7_stageNow_30 (by decide) ?_
      cases hm
      exact dp_iret X hr hw dX7_stageNow_31
    · have hm := dp_ip hc hm
      refine lv_iconst (v := 1) hx hb dX7_stageNow_26 (by decide) ?_
      refine lv_goto (tgt := 31) hx hb dX7_stageNow_27 (by decide) ?_
      cases hm
      exact dp_iret X hr hw dX7_stageNow_31
  · have hm := dp_ip hc hm
    refine lv_iconst (v := 0) hx hb dX7_stageNow_11 (by decide) ?_
    refine lv_goto (tgt := 31) hx hb dX7_stageNow_12 (by decide) ?_
    cases hm
    exact dp_iret X hr hw dX7_stageNow_31
theorem ck_X7_winsNow {h : dp_H} {x0 : Nat} {h' : dp_H} {r : Int32} (hm : m_X7_winsNow h x0 = some (h', r)) : dp_is h x0 7 = true := (dp_ck_e hm).1
set_option maxRecDepth 100000 in
set_option maxHeartbeats 4000000 in
theorem c_X7_winsNow (l : Launch) (D : va_G) (a : dp_A) (B : Nat) (h : dp_H) (x0 : Nat) {h' : dp_H} {r : Int32} (hm : m_X7_winsNow h x0 = some (h', r)) : dp_M l D a B yX7_winsNow cX7_winsNow 1 (some .int) rm_X7_winsNow [.ref (B + x0)] h (some (.int r)) h' := by
  refine dp_M.of (own := RX7) (nm := "winsNow") (by decide) rfl rfl (Nat.le_of_ble_eq_true rfl) ?_
  intro p e s m below meth c ls X hr hin hw hl
  have hl : lv_has ls 1 [(0, .ref (B + x0))] := hl
  obtain ⟨hx, hb, hml, hown, hlk, hK, hB⟩ := id X
  unfold m_X7_winsNow at hm
  obtain ⟨hck, hm⟩ := dp_ck_e hm
  refine lv_aload_n hx hb dX7_winsNow_0 rfl (lv_at hl 0 rfl) ?_
  obtain ⟨h1, eh1, hm⟩ := dp_ob hm
  refine dp_cVv (As := []) (rest := []) X hw (c_X7_layPressed l D a B h x0 eh1) vm_X7_layPressed ml_X7_202 (by decide) rfl rfl (ck_X7_layPressed eh1) rfl rfl hl.1 rfl (Nat.le_of_ble_eq_true rfl) dX7_winsNow_1 ⟨(Nat.zero_le _), (Nat.zero_le _)⟩ (fun H locs hw => ?_)
  refine lv_aload_n hx hb dX7_winsNow_4 rfl (lv_at hl 0 rfl) ?_
  refine lv_aload_n hx hb dX7_winsNow_5 rfl (lv_at hl 0 rfl) ?_
  obtain ⟨v2, ev2, hm⟩ := dp_ob hm
  refine dp_geti X hw cl_X7 31 (by decide) fl_X7_193 ev2 dX7_winsNow_6 ?_
  refine lv_iconst (v := 4) hx hb dX7_winsNow_9 (by decide) ?_
  refine lv_icmp_ne (tgt := 28) hx hb dX7_winsNow_10 (by decide) (fun hc => ?_) (fun hc => ?_)
  · have hm := dp_in hc hm
    refine lv_aload_n hx hb dX7_winsNow_28 rfl (lv_at hl 0 rfl) ?_
    refine lv_aload_n hx hb dX7_winsNow_29 rfl (lv_at hl 0 rfl) ?_
    obtain ⟨v3, ev3, hm⟩ := dp_ob hm
    refine dp_geti X hw cl_X7 28 (by decide) fl_X7_190 ev3 dX7_winsNow_30 ?_
    obtain ⟨v4, ev4, hm⟩ := dp_ob hm
    refine dp_cV (As := [.int v3]) (rest := [.ref (B + x0)]) X hw (c_X7_fitting l D a B h1 x0 v3 ev4) vm_X7_fitting ml_X7_168 (by decide) rfl rfl (ck_X7_fitting ev4) rfl rfl hl.1 rfl (Nat.le_of_ble_eq_true rfl) dX7_winsNow_33 ⟨(Nat.zero_le _), (Nat.zero_le _)⟩ (fun H locs hw => ?_)
    obtain ⟨v5, ev5, hm⟩ := dp_ob hm
    refine dp_cV (As := [.int v4]) (rest := []) X hw (c_X7_winner l D a B h1 x0 v4 ev5) vm_X7_winner ml_X7_171 (by decide) rfl rfl (ck_X7_winner ev5) rfl rfl hl.1 rfl (Nat.le_of_ble_eq_true rfl) dX7_winsNow_36 ⟨(Nat.zero_le _), (Nat.zero_le _)⟩ (fun H locs hw => ?_)
    cases hm
    exact dp_iret X hr hw dX7_winsNow_39
  · have hm := dp_ip hc hm
    refine lv_aload_n hx hb dX7_winsNow_13 rfl (lv_at hl 0 rfl) ?_
    refine lv_aload_n hx hb dX7_winsNow_14 rfl (lv_at hl 0 rfl) ?_
    refine lv_aload_n hx hb dX7_winsNow_15 rfl (lv_at hl 0 rfl) ?_
    obtain ⟨v6, ev6, hm⟩ := dp_ob hm
    refine dp_geti X hw cl_X7 28 (by decide) fl_X7_190 ev6 dX7_winsNow_16 ?_
    obtain ⟨v7, ev7, hm⟩ := dp_ob hm
    refine dp_cV (As := [.int v6]) (rest := [.ref (B + x0), .ref (B + x0)]) X hw (c_X7_fitting l D a B h1 x0 v6 ev7) vm_X7_fitting ml_X7_168 (by decide) rfl rfl (ck_X7_fitting ev7) rfl rfl hl.1 rfl (Nat.le_of_ble_eq_true rfl) dX7_winsNow_19 ⟨(Nat.zero_le _), (Nat.zero_le _)⟩ (fun H locs hw => ?_)
    obtain ⟨v8, ev8, hm⟩ := dp_ob hm
    refine dp_cV (As := [.int v7]) (rest := [.ref (B + x0)]) X hw (c_X7_helps l D a B h1 x0 v7 ev8) vm_X7_helps ml_X7_214 (by decide) rfl rfl (ck_X7_helps ev8) rfl rfl hl.1 rfl (Nat.le_of_ble_eq_true rfl) dX7_winsNow_22 ⟨(Nat.zero_le _), (Nat.zero_le _)⟩ (fun H locs hw => ?_)
    refine lv_goto (tgt := 36) hx hb dX7_winsNow_25 (by decide) ?_
    obtain ⟨v9, ev9, hm⟩ := dp_ob hm
    refine dp_cV (As := [.int v8]) (rest := []) X hw (c_X7_winner l D a B h1 x0 v8 ev9) vm_X7_winner ml_X7_171 (by decide) rfl rfl (ck_X7_winner ev9) rfl rfl hl.1 rfl (Nat.le_of_ble_eq_true rfl) dX7_winsNow_36 ⟨(Nat.zero_le _), (Nat.zero_le _)⟩ (fun H locs hw => ?_)
    cases hm
    exact dp_iret X hr hw dX7_winsNow_39
set_option maxRecDepth 100000 in
set_option maxHeartbeats 4000000 in
theorem v_X7_isSureBy_72 {p : Program} {l : Launch} {e : Env} {s : State} {m : MethodId} {args : Array Value} {below : List Frame} {meth : Method} {c : Code} {D : va_G} {a : dp_A} {B : Nat} (X : dp_X p s m meth c cX7_isSureBy 6 RX7 D a B) (hr : meth.sig.returnType = (some .boolean)) {h : dp_H} {r : Int32} {k28 : Nat → Int32 → Int32 → Int32 → Int32 → Option Int32} (hk28 : ∀ (x0 : Nat) (x2 : Int32) (x3 : Int32) (x4 : Int32) (x5 : Int32), k28 x0 x2 x3 x4 x5 = some r → ∀ (H : Heap) (locs : List Loc) (ls : Array Slot), dp_w D a B h s.heap H locs → lv_has ls 6 [(0, .ref (B + x0)), (2, .int x2), (3, .int x3), (4, .int x4), (5, .int x5)] → W p l e rm_X7_isSureBy s m args below meth c H locs 0 0 (MQ below (dp_Q D a B (some (.int r)) h) args s rm_X7_isSureBy.cells rm_X7_isSureBy.slots (fun q => B ≤ q)) (F0 m 28 ls [])) : ∀ (x0 : Nat) (x2 : Int32) (x3 : Int32) (x5 : Int32) (y0 : Int32), b_X7_isSureBy_72 h k28 x0 x2 x3 x5 y0 = some r → ∀ (H : Heap) (locs : List Loc) (ls : Array Slot), dp_w D a B h s.heap H locs → lv_has ls 6 [(0, .ref (B + x0)), (2, .int x2), (3, .int x3), (5, .int x5)] → W p l e rm_X7_isSureBy s m args below meth c H locs 0 0 (MQ below (dp_Q D a B (some (.int r)) h) args s rm_X7_isSureBy.cells rm_X7_isSureBy.slots (fun q => B ≤ q)) (F0 m 72 ls [.int y0]) := by
  intro x0 x2 x3 x5 y0 hm H locs ls hw hl
  obtain ⟨hx, hb, hml, hown, hlk, hK, hB⟩ := id X
  unfold b_X7_isSureBy_72 at hm
  refine lv_istore (lv' := [(4, .int y0), (0, .ref (B + x0)), (2, .int x2), (3, .int x3), (5, .int x5)]) hx hb dX7_isSureBy_72 hl (by decide) rfl (fun ls hl => ?_)
  refine lv_iload_n hx hb dX7_isSureBy_74 rfl (lv_at hl 3 rfl) ?_
  refine lv_iconst (v := (-1)) hx hb dX7_isSureBy_75 (by decide) ?_
  refine lv_icmp_ne (tgt := 84) hx hb dX7_isSureBy_76 (by decide) (fun hc => ?_) (fun hc => ?_)
  · have hm := dp_in hc hm
    refine lv_iload_n hx hb dX7_isSureBy_84 rfl (lv_at hl 3 rfl) ?_
    refine lv_istore_n (lv' := [(3, .int x3), (4, .int y0), (0, .ref (B + x0)), (2, .int x2), (5, .int x5)]) hx hb dX7_isSureBy_85 rfl hl (by decide) rfl (fun ls hl => ?_)
    refine lv_iinc (v := (x5 + 1)) (lv' := [(5, .int (x5 + 1)), (3, .int x3), (4, .int y0), (0, .ref (B + x0)), (2, .int x2)]) hx hb dX7_isSureBy_86 hl (k := 4) rfl rfl (by decide) rfl (fun ls hl => ?_)
    refine lv_goto (tgt := 28) hx hb dX7_isSureBy_89 (by decide) ?_
    exact hk28 x0 x2 x3 y0 (x5 + 1) hm _ _ _ hw (lv_sub hl [3, 4, 1, 2, 0] rfl)
  · have hm := dp_ip hc hm
    refine lv_iload hx hb dX7_isSureBy_79 (lv_at hl 4 rfl) ?_
    refine lv_goto (tgt := 85) hx hb dX7_isSureBy_81 (by decide) ?_
    refine lv_istore_n (lv' := [(3, .int x5), (4, .int y0), (0, .ref (B + x0)), (2, .int x2), (5, .int x5)]) hx hb dX7_isSureBy_85 rfl hl (by decide) rfl (fun ls hl => ?_)
    refine lv_iinc (v := (x5 + 1)) (lv' := [(5, .int (x5 + 1)), (3, .int x5), (4, .int y0), (0, .ref (B + x0)), (2, .int x2)]) hx hb dX7_isSureBy_86 hl (k := 4) rfl rfl (by decide) rfl (fun ls hl => ?_)
    refine lv_goto (tgt := 28) hx hb dX7_isSureBy_89 (by decide) ?_
    exact hk28 x0 x2 x5 y0 (x5 + 1) hm _ _ _ hw (lv_sub hl [3, 4, 1, 2, 0] rfl)
set_option maxRecDepth 100000 in
set_option maxHeartbeats 4000000 in
theorem v_X7_isSureBy_28 {p : Program} {l : Launch} {e : Env} {s : State} {m : MethodId} {args : Array Value} {below : List Frame} {meth : Method} {c : Code} {D : va_G} {a : dp_A} {B : Nat} (X : dp_X p s m meth c cX7_isSureBy 6 RX7 D a B) (hr : meth.sig.returnType = (some .boolean)) {h : dp_H} {r : Int32} {k28 : Nat → Int32 → Int32 → Int32 → Int32 → Option Int32} (hk28 : ∀ (x0 : Nat) (x2 : Int32) (x3 : Int32) (x4 : Int32) (x5 : Int32), k28 x0 x2 x3 x4 x5 = some r → ∀ (H : Heap) (locs : List Loc) (ls : Array Slot), dp_w D a B h s.heap H locs → lv_has ls 6 [(0, .ref (B + x0)), (2, .int x2), (3, .int x3), (4, .int x4), (5, .int x5)] → W p l e rm_X7_isSureBy s m args below meth c H locs 0 0 (MQ below (dp_Q D a B (some (.int r)) h) args s rm_X7_isSureBy.cells rm_X7_isSureBy.slots (fun q => B ≤ q)) (F0 m 28 ls [])) : ∀ (x0 : Nat) (x2 : Int32) (x3 : Int32) (x4 : Int32) (x5 : Int32), b_X7_isSureBy_28 h k28 x0 x2 x3 x4 x5 = some r → ∀ (H : Heap) (locs : List Loc) (ls : Array Slot), dp_w D a B h s.heap H locs → lv_has ls 6 [(0, .ref (B + x0)), (2, .int x2), (3, .int x3), (4, .int x4), (5, .int x5)] → W p l e rm_X7_isSureBy s m args below meth c H locs 0 0 (MQ below (dp_Q D a B (some (.int r)) h) args s rm_X7_isSureBy.cells rm_X7_isSureBy.slots (fun q => B ≤ q)) (F0 m 28 ls []) := by
  intro x0 x2 x3 x4 x5 hm H locs ls hw hl
  obtain ⟨hx, hb, hml, hown, hlk, hK, hB⟩ := id X
  unfold b_X7_isSureBy_28 at hm
  refine lv_iload hx hb dX7_isSureBy_28 (lv_at hl 4 rfl) ?_
  refine lv_aload_n hx hb dX7_isSureBy_30 rfl (lv_at hl 0 rfl) ?_
  obtain ⟨v1, ev1, hm⟩ := dp_ob hm
  refine dp_geti X hw cl_X7 2 (by decide) fl_X7_109 ev1 dX7_isSureBy_31 ?_
  refine lv_icmp_ge (tgt := 92) hx hb dX7_isSureBy_34 (by decide) (fun hc => ?_) (fun hc => ?_)
  · have hm := dp_ip hc hm
    refine lv_iload hx hb dX7_isSureBy_92 (lv_at hl 3 rfl) ?_
    obtain ⟨hz, hm⟩ := dp_b_e hm
    cases hm
    exact dp_zret X hr hw hz dX7_isSureBy_94
  · have hm := dp_in hc hm
    refine lv_iload_n hx hb dX7_isSureBy_37 rfl (lv_at hl 1 rfl) ?_
    refine lv_iload hx hb dX7_isSureBy_38 (lv_at hl 4 rfl) ?_
    refine lv_ishr hx hb dX7_isSureBy_40 ?_
    refine lv_iconst (v := 1) hx hb dX7_isSureBy_41 (by decide) ?_
    refine lv_iand hx hb dX7_isSureBy_42 ?_
    refine lv_iconst (v := 1) hx hb dX7_isSureBy_43 (by decide) ?_
    refine lv_icmp_ne (tgt := 86) hx hb dX7_isSureBy_44 (by decide) (fun hc => ?_) (fun hc => ?_)
    · have hm := dp_in hc hm
      refine lv_iinc (v := (x5 + 1)) (lv' := [(5, .int (x5 + 1)), (0, .ref (B + x0)), (2, .int x2), (3, .int x3), (4, .int x4)]) hx hb dX7_isSureBy_86 hl (k := 4) rfl rfl (by decide) rfl (fun ls hl => ?_)
      refine lv_goto (tgt := 28) hx hb dX7_isSureBy_89 (by decide) ?_
      exact hk28 x0 x2 x3 x4 (x5 + 1) hm _ _ _ hw (lv_sub hl [1, 2, 3, 4, 0] rfl)
    · have hm := dp_ip hc hm
      refine lv_iload hx hb dX7_isSureBy_47 (lv_at hl 3 rfl) ?_
      refine lv_if_eq (tgt := 71) hx hb dX7_isSureBy_49 (by decide) (fun hc => ?_) (fun hc => ?_)
      · have hm := dp_ip hc hm
        refine lv_iconst (v := 0) hx hb dX7_isSureBy_71 (by decide) ?_
        exact v_X7_isSureBy_72 X hr hk28 x0 x2 x3 x5 0 hm _ _ _ hw (lv_sub hl [0, 1, 2, 4] rfl)
      · have hm := dp_in hc hm
        refine lv_iload_n hx hb dX7_isSureBy_52 rfl (lv_at hl 2 rfl) ?_
        refine lv_iconst (v := (-1)) hx hb dX7_isSureBy_53 (by decide) ?_
        refine lv_icmp_eq (tgt := 67) hx hb dX7_isSureBy_54 (by decide) (fun hc => ?_) (fun hc => ?_)
        · have hm := dp_ip hc hm
          refine lv_iconst (v := 1) hx hb dX7_isSureBy_67 (by decide) ?_
          refine lv_goto (tgt := 72) hx hb dX7_isSureBy_68 (by decide) ?_
          exact v_X7_isSureBy_72 X hr hk28 x0 x2 x3 x5 1 hm _ _ _ hw (lv_sub hl [0, 1, 2, 4] rfl)
        · have hm := dp_in hc hm
          refine lv_aload_n hx hb dX7_isSureBy_57 rfl (lv_at hl 0 rfl) ?_
          refine lv_iload_n hx hb dX7_isSureBy_58 rfl (lv_at hl 2 rfl) ?_
          refine lv_iload hx hb dX7_isSureBy_59 (lv_at hl 4 rfl) ?_
          obtain ⟨v2, ev2, hm⟩ := dp_ob hm
          refine dp_cV (As := [.int x3, .int x5]) (rest := []) X hw (c_X7_areLike l D a B h x0 x3 x5 ev2) vm_X7_areLike ml_X7_143 (by decide) rfl rfl (ck_X7_areLike ev2) rfl rfl hl.1 rfl (Nat.le_of_ble_eq_true rfl) dX7_isSureBy_61 ⟨(Nat.zero_le _), (Nat.zero_le _)⟩ (fun H locs hw => ?_)
          refine lv_if_eq (tgt := 71) hx hb dX7_isSureBy_64 (by decide) (fun hc => ?_) (fun hc => ?_)
          · have hm := dp_ip hc hm
            refine lv_iconst (v := 0) hx hb dX7_isSureBy_71 (by decide) ?_
            exact v_X7_isSureBy_72 X hr hk28 x0 x2 x3 x5 0 hm _ _ _ hw (lv_sub hl [0, 1, 2, 4] rfl)
          · have hm := dp_in hc hm
            refine lv_iconst (v := 1) hx hb dX7_isSureBy_67 (by decide) ?_
            refine lv_goto (tgt := 72) hx hb dX7_isSureBy_68 (by decide) ?_
            exact v_X7_isSureBy_72 X hr hk28 x0 x2 x3 x5 1 hm _ _ _ hw (lv_sub hl [0, 1, 2, 4] rfl)
set_option maxRecDepth 100000 in
set_option maxHeartbeats 4000000 in
theorem w_X7_isSureBy_28 {p : Program} {l : Launch} {e : Env} {s : State} {m : MethodId} {args : Array Value} {below : List Frame} {meth : Method} {c : Code} {D : va_G} {a : dp_A} {B : Nat} (X : dp_X p s m meth c cX7_isSureBy 6 RX7 D a B) (hr : meth.sig.returnType = (some .boolean)) {h : dp_H} {r : Int32}  : ∀ (n : Nat) (x0 : Nat) (x2 : Int32) (x3 : Int32) (x4 : Int32) (x5 : Int32), m_X7_isSureBy_28 h  n x0 x2 x3 x4 x5 = some r → ∀ (H : Heap) (locs : List Loc) (ls : Array Slot), dp_w D a B h s.heap H locs → lv_has ls 6 [(0, .ref (B + x0)), (2, .int x2), (3, .int x3), (4, .int x4), (5, .int x5)] → W p l e rm_X7_isSureBy s m args below meth c H locs 0 0 (MQ below (dp_Q D a B (some (.int r)) h) args s rm_X7_isSureBy.cells rm_X7_isSureBy.slots (fun q => B ≤ q)) (F0 m 28 ls []) := by
  intro n
  induction n with
  | zero => intro x0 x2 x3 x4 x5 hm; cases hm
  | succ n ih => intro x0 x2 x3 x4 x5 hm; exact v_X7_isSureBy_28 X hr ih x0 x2 x3 x4 x5 hm
theorem ck_X7_isSureBy {h : dp_H} {x0 : Nat} {x1 : Int32} {r : Int32} (hm : m_X7_isSureBy h x0 x1 = some r) : dp_is h x0 7 = true := (dp_ck_e hm).1
set_option maxRecDepth 100000 in
set_option maxHeartbeats 4000000 in
theorem c_X7_isSureBy (l : Launch) (D : va_G) (a : dp_A) (B : Nat) (h : dp_H) (x0 : Nat) (x1 : Int32) {r : Int32} (hm : m_X7_isSureBy h x0 x1 = some r) : dp_M l D a B yX7_isSureBy cX7_isSureBy 6 (some .boolean) rm_X7_isSureBy [.ref (B + x0), .int x1] h (some (.int r)) h := by
  refine dp_M.of (own := RX7) (nm := "isSureBy") (by decide) rfl rfl (Nat.le_of_ble_eq_true rfl) ?_
  intro p e s m below meth c ls X hr hin hw hl
  have hl : lv_has ls 6 [(0, .ref (B + x0)), (1, .int x1)] := hl
  obtain ⟨hx, hb, hml, hown, hlk, hK, hB⟩ := id X
  unfold m_X7_isSureBy at hm
  obtain ⟨hck, hm⟩ := dp_ck_e hm
  refine lv_aload_n hx hb dX7_isSureBy_0 rfl (lv_at hl 0 rfl) ?_
  refine lv_iload_n hx hb dX7_isSureBy_1 rfl (lv_at hl 1 rfl) ?_
  obtain ⟨v1, ev1, hm⟩ := dp_ob hm
  refine dp_cV (As := [.int x1]) (rest := []) X hw (c_X7_fitting l D a B h x0 x1 ev1) vm_X7_fitting ml_X7_168 (by decide) rfl rfl (ck_X7_fitting ev1) rfl rfl hl.1 rfl (Nat.le_of_ble_eq_true rfl) dX7_isSureBy_2 ⟨(Nat.zero_le _), (Nat.zero_le _)⟩ (fun H locs hw => ?_)
  refine lv_aload_n hx hb dX7_isSureBy_5 rfl (lv_at hl 0 rfl) ?_
  refine lv_iload_n hx hb dX7_isSureBy_6 rfl (lv_at hl 1 rfl) ?_
  obtain ⟨v2, ev2, hm⟩ := dp_ob hm
  refine dp_cV (As := [.int x1]) (rest := [.int v1]) X hw (c_X7_leading l D a B h x0 x1 ev2) vm_X7_leading ml_X7_177 (by decide) rfl rfl (ck_X7_leading ev2) rfl rfl hl.1 rfl (Nat.le_of_ble_eq_true rfl) dX7_isSureBy_7 ⟨(Nat.zero_le _), (Nat.zero_le _)⟩ (fun H locs hw => ?_)
  refine lv_ior hx hb dX7_isSureBy_10 ?_
  refine lv_istore_n (lv' := [(2, .int (v1 ||| v2)), (0, .ref (B + x0)), (1, .int x1)]) hx hb dX7_isSureBy_11 rfl hl (by decide) rfl (fun ls hl => ?_)
  refine lv_iconst (v := (-1)) hx hb dX7_isSureBy_12 (by decide) ?_
  refine lv_istore_n (lv' := [(3, .int (-1)), (2, .int (v1 ||| v2)), (0, .ref (B + x0)), (1, .int x1)]) hx hb dX7_isSureBy_13 rfl hl (by decide) rfl (fun ls hl => ?_)
  refine lv_iload_n hx hb dX7_isSureBy_14 rfl (lv_at hl 1 rfl) ?_
  refine lv_if_eq (tgt := 22) hx hb dX7_isSureBy_15 (by decide) (fun hc => ?_) (fun hc => ?_)
  · have hm := dp_ip hc hm
    refine lv_iconst (v := 0) hx hb dX7_isSureBy_22 (by decide) ?_
    refine lv_istore (lv' := [(4, .int 0), (3, .int (-1)), (2, .int (v1 ||| v2)), (0, .ref (B + x0)), (1, .int x1)]) hx hb dX7_isSureBy_23 hl (by decide) rfl (fun ls hl => ?_)
    refine lv_iconst (v := 0) hx hb dX7_isSureBy_25 (by decide) ?_
    refine lv_istore (lv' := [(5, .int 0), (4, .int 0), (3, .int (-1)), (2, .int (v1 ||| v2)), (0, .ref (B + x0)), (1, .int x1)]) hx hb dX7_isSureBy_26 hl (by decide) rfl (fun ls hl => ?_)
    exact w_X7_isSureBy_28 X hr 64 x0 (v1 ||| v2) (-1) 0 0 hm _ _ _ hw (lv_sub hl [4, 3, 2, 1, 0] rfl)
  · have hm := dp_in hc hm
    refine lv_iconst (v := 1) hx hb dX7_isSureBy_18 (by decide) ?_
    refine lv_goto (tgt := 23) hx hb dX7_isSureBy_19 (by decide) ?_
    refine lv_istore (lv' := [(4, .int 1), (3, .int (-1)), (2, .int (v1 ||| v2)), (0, .ref (B + x0)), (1, .int x1)]) hx hb dX7_isSureBy_23 hl (by decide) rfl (fun ls hl => ?_)
    refine lv_iconst (v := 0) hx hb dX7_isSureBy_25 (by decide) ?_
    refine lv_istore (lv' := [(5, .int 0), (4, .int 1), (3, .int (-1)), (2, .int (v1 ||| v2)), (0, .ref (B + x0)), (1, .int x1)]) hx hb dX7_isSureBy_26 hl (by decide) rfl (fun ls hl => ?_)
    exact w_X7_isSureBy_28 X hr 64 x0 (v1 ||| v2) (-1) 1 0 hm _ _ _ hw (lv_sub hl [4, 3, 2, 1, 0] rfl)
set_option maxRecDepth 100000 in
set_option maxHeartbeats 4000000 in
theorem v_X7_sureNow_11 {p : Program} {l : Launch} {e : Env} {s : State} {m : MethodId} {args : Array Value} {below : List Frame} {meth : Method} {c : Code} {D : va_G} {a : dp_A} {B : Nat} (X : dp_X p s m meth c cX7_sureNow 3 RX7 D a B) (hr : meth.sig.returnType = (some .int)) {h' : dp_H} {r : Int32} {k11 : dp_H → Nat → Int32 → Int32 → Option (dp_H × Int32)} (hk11 : ∀ (h : dp_H) (x0 : Nat) (x1 : Int32) (x2 : Int32), k11 h x0 x1 x2 = some (h', r) → ∀ (H : Heap) (locs : List Loc) (ls : Array Slot), dp_w D a B h s.heap H locs → lv_has ls 3 [(0, .ref (B + x0)), (1, .int x1), (2, .int x2)] → W p l e rm_X7_sureNow s m args below meth c H locs 0 0 (MQ below (dp_Q D a B (some (.int r)) h') args s rm_X7_sureNow.cells rm_X7_sureNow.slots (fun q => B ≤ q)) (F0 m 11 ls [])) : ∀ (h : dp_H) (x0 : Nat) (x1 : Int32) (x2 : Int32), b_X7_sureNow_11 k11 h x0 x1 x2 = some (h', r) → ∀ (H : Heap) (locs : List Loc) (ls : Array Slot), dp_w D a B h s.heap H locs → lv_has ls 3 [(0, .ref (B + x0)), (1, .int x1), (2, .int x2)] → W p l e rm_X7_sureNow s m args below meth c H locs 0 0 (MQ below (dp_Q D a B (some (.int r)) h') args s rm_X7_sureNow.cells rm_X7_sureNow.slots (fun q => B ≤ q)) (F0 m 11 ls []) := by
  intro h x0 x1 x2 hm H locs ls hw hl
  obtain ⟨hx, hb, hml, hown, hlk, hK, hB⟩ := id X
  unfold b_X7_sureNow_11 at hm
  refine lv_iload_n hx hb dX7_sureNow_11 rfl (lv_at hl 2 rfl) ?_
  refine lv_if_lt (tgt := 35) hx hb dX7_sureNow_12 (by decide) (fun hc => ?_) (fun hc => ?_)
  · have hm := dp_ip hc hm
    refine lv_iload_n hx hb dX7_sureNow_35 rfl (lv_at hl 1 rfl) ?_
    cases hm
    exact dp_iret X hr hw dX7_sureNow_36
  · have hm := dp_in hc hm
    refine lv_aload_n hx hb dX7_sureNow_15 rfl (lv_at hl 0 rfl) ?_
    refine lv_iload_n hx hb dX7_sureNow_16 rfl (lv_at hl 2 rfl) ?_
    obtain ⟨v1, ev1, hm⟩ := dp_ob hm
    refine dp_cV (As := [.int x2]) (rest := []) X hw (c_X7_isSureBy l D a B h x0 x2 ev1) vm_X7_isSureBy ml_X7_220 (by decide) rfl rfl (ck_X7_isSureBy ev1) rfl rfl hl.1 rfl (Nat.le_of_ble_eq_true rfl) dX7_sureNow_17 ⟨(Nat.zero_le _), (Nat.zero_le _)⟩ (fun H locs hw => ?_)
    refine lv_if_eq (tgt := 27) hx hb dX7_sureNow_20 (by decide) (fun hc => ?_) (fun hc => ?_)
    · have hm := dp_ip hc hm
      refine lv_iload_n hx hb dX7_sureNow_27 rfl (lv_at hl 1 rfl) ?_
      refine lv_istore_n (lv' := [(1, .int x1), (0, .ref (B + x0)), (2, .int x2)]) hx hb dX7_sureNow_28 rfl hl (by decide) rfl (fun ls hl => ?_)
      refine lv_iinc (v := (x2 + (-1))) (lv' := [(2, .int (x2 + (-1))), (1, .int x1), (0, .ref (B + x0))]) hx hb dX7_sureNow_29 hl (k := 2) rfl rfl (by decide) rfl (fun ls hl => ?_)
      refine lv_goto (tgt := 11) hx hb dX7_sureNow_32 (by decide) ?_
      exact hk11 h x0 x1 (x2 + (-1)) hm _ _ _ hw (lv_sub hl [2, 1, 0] rfl)
    · have hm := dp_in hc hm
      refine lv_iload_n hx hb dX7_sureNow_23 rfl (lv_at hl 2 rfl) ?_
      refine lv_goto (tgt := 28) hx hb dX7_sureNow_24 (by decide) ?_
      refine lv_istore_n (lv' := [(1, .int x2), (0, .ref (B + x0)), (2, .int x2)]) hx hb dX7_sureNow_28 rfl hl (by decide) rfl (fun ls hl => ?_)
      refine lv_iinc (v := (x2 + (-1))) (lv' := [(2, .int (x2 + (-1))), (1, .int x2), (0, .ref (B + x0))]) hx hb dX7_sureNow_29 hl (k := 2) rfl rfl (by decide) rfl (fun ls hl => ?_)
      refine lv_goto (tgt := 11) hx hb dX7_sureNow_32 (by decide) ?_
      exact hk11 h x0 x2 (x2 + (-1)) hm _ _ _ hw (lv_sub hl [2, 1, 0] rfl)
set_option maxRecDepth 100000 in
set_option maxHeartbeats 4000000 in
theorem w_X7_sureNow_11 {p : Program} {l : Launch} {e : Env} {s : State} {m : MethodId} {args : Array Value} {below : List Frame} {meth : Method} {c : Code} {D : va_G} {a : dp_A} {B : Nat} (X : dp_X p s m meth c cX7_sureNow 3 RX7 D a B) (hr : meth.sig.returnType = (some .int)) {h' : dp_H} {r : Int32}  : ∀ (n : Nat) (h : dp_H) (x0 : Nat) (x1 : Int32) (x2 : Int32), m_X7_sureNow_11  n h x0 x1 x2 = some (h', r) → ∀ (H : Heap) (locs : List Loc) (ls : Array Slot), dp_w D a B h s.heap H locs → lv_has ls 3 [(0, .ref (B + x0)), (1, .int x1), (2, .int x2)] → W p l e rm_X7_sureNow s m args below meth c H locs 0 0 (MQ below (dp_Q D a B (some (.int r)) h') args s rm_X7_sureNow.cells rm_X7_sureNow.slots (fun q => B ≤ q)) (F0 m 11 ls []) := by
  intro n
  induction n with
  | zero => intro h x0 x1 x2 hm; cases hm
  | succ n ih => intro h x0 x1 x2 hm; exact v_X7_sureNow_11 X hr ih h x0 x1 x2 hm
theorem ck_X7_sureNow {h : dp_H} {x0 : Nat} {h' : dp_H} {r : Int32} (hm : m_X7_sureNow h x0 = some (h', r)) : dp_is h x0 7 = true := (dp_ck_e hm).1
set_option maxRecDepth 100000 in
set_option maxHeartbeats 4000000 in
theorem c_X7_sureNow (l : Launch) (D : va_G) (a : dp_A) (B : Nat) (h : dp_H) (x0 : Nat) {h' : dp_H} {r : Int32} (hm : m_X7_sureNow h x0 = some (h', r)) : dp_M l D a B yX7_sureNow cX7_sureNow 3 (some .int) rm_X7_sureNow [.ref (B + x0)] h (some (.int r)) h' := by
  refine dp_M.of (own := RX7) (nm := "sureNow") (by decide) rfl rfl (Nat.le_of_ble_eq_true rfl) ?_
  intro p e s m below meth c ls X hr hin hw hl
  have hl : lv_has ls 3 [(0, .ref (B + x0))] := hl
  obtain ⟨hx, hb, hml, hown, hlk, hK, hB⟩ := id X
  unfold m_X7_sureNow at hm
  obtain ⟨hck, hm⟩ := dp_ck_e hm
  refine lv_aload_n hx hb dX7_sureNow_0 rfl (lv_at hl 0 rfl) ?_
  obtain ⟨h1, eh1, hm⟩ := dp_ob hm
  refine dp_cVv (As := []) (rest := []) X hw (c_X7_layPressed l D a B h x0 eh1) vm_X7_layPressed ml_X7_202 (by decide) rfl rfl (ck_X7_layPressed eh1) rfl rfl hl.1 rfl (Nat.le_of_ble_eq_true rfl) dX7_sureNow_1 ⟨(Nat.zero_le _), (Nat.zero_le _)⟩ (fun H locs hw => ?_)
  refine lv_iconst (v := (-1)) hx hb dX7_sureNow_4 (by decide) ?_
  refine lv_istore_n (lv' := [(1, .int (-1)), (0, .ref (B + x0))]) hx hb dX7_sureNow_5 rfl hl (by decide) rfl (fun ls hl => ?_)
  refine lv_aload_n hx hb dX7_sureNow_6 rfl (lv_at hl 1 rfl) ?_
  obtain ⟨v2, ev2, hm⟩ := dp_ob hm
  refine dp_geti X hw cl_X7 28 (by decide) fl_X7_190 ev2 dX7_sureNow_7 ?_
  refine lv_istore_n (lv' := [(2, .int v2), (1, .int (-1)), (0, .ref (B + x0))]) hx hb dX7_sureNow_10 rfl hl (by decide) rfl (fun ls hl => ?_)
  exact w_X7_sureNow_11 X hr 64 h1 x0 (-1) v2 hm _ _ _ hw (lv_sub hl [2, 1, 0] rfl)
theorem ck_X7_wayNow {h : dp_H} {x0 : Nat} {h' : dp_H} {r : Int32} (hm : m_X7_wayNow h x0 = some (h', r)) : dp_is h x0 7 = true := (dp_ck_e hm).1
set_option maxRecDepth 100000 in
set_option maxHeartbeats 4000000 in
theorem c_X7_wayNow (l : Launch) (D : va_G) (a : dp_A) (B : Nat) (h : dp_H) (x0 : Nat) {h' : dp_H} {r : Int32} (hm : m_X7_wayNow h x0 = some (h', r)) : dp_M l D a B yX7_wayNow cX7_wayNow 1 (some .int) rm_X7_wayNow [.ref (B + x0)] h (some (.int r)) h' := by
  refine dp_M.of (own := RX7) (nm := "wayNow") (by decide) rfl rfl (Nat.le_of_ble_eq_true rfl) ?_
  intro p e s m below meth c ls X hr hin hw hl
  have hl : lv_has ls 1 [(0, .ref (B + x0))] := hl
  obtain ⟨hx, hb, hml, hown, hlk, hK, hB⟩ := id X
  unfold m_X7_wayNow at hm
  obtain ⟨hck, hm⟩ := dp_ck_e hm
  refine lv_aload_n hx hb dX7_wayNow_0 rfl (lv_at hl 0 rfl) ?_
  obtain ⟨h1, eh1, hm⟩ := dp_ob hm
  refine dp_cVv (As := []) (rest := []) X hw (c_X7_layPressed l D a B h x0 eh1) vm_X7_layPressed ml_X7_202 (by decide) rfl rfl (ck_X7_layPressed eh1) rfl rfl hl.1 rfl (Nat.le_of_ble_eq_true rfl) dX7_wayNow_1 ⟨(Nat.zero_le _), (Nat.zero_le _)⟩ (fun H locs hw => ?_)
  refine lv_aload_n hx hb dX7_wayNow_4 rfl (lv_at hl 0 rfl) ?_
  obtain ⟨v2, ev2, hm⟩ := dp_ob hm
  refine dp_geti X hw cl_X7 31 (by decide) fl_X7_193 ev2 dX7_wayNow_5 ?_
  refine lv_iconst (v := 4) hx hb dX7_wayNow_8 (by decide) ?_
  refine lv_icmp_ne (tgt := 17) hx hb dX7_wayNow_9 (by decide) (fun hc => ?_) (fun hc => ?_)
  · have hm := dp_in hc hm
    refine lv_aload_n hx hb dX7_wayNow_17 rfl (lv_at hl 0 rfl) ?_
    obtain ⟨h3, v4, ev4, hm⟩ := dp_ob2 hm
    refine dp_cV (As := []) (rest := []) X hw (c_X7_read l D a B h1 x0 ev4) vm_X7_read ml_X7_180 (by decide) rfl rfl (ck_X7_read ev4) rfl rfl hl.1 rfl (Nat.le_of_ble_eq_true rfl) dX7_wayNow_18 ⟨(Nat.zero_le _), (Nat.zero_le _)⟩ (fun H locs hw => ?_)
    cases hm
    exact dp_iret X hr hw dX7_wayNow_21
  · have hm := dp_ip hc hm
    refine lv_bipush (v := 9) hx hb dX7_wayNow_12 (by decide) ?_
    refine lv_goto (tgt := 21) hx hb dX7_wayNow_14 (by decide) ?_
    cases hm
    exact dp_iret X hr hw dX7_wayNow_21
theorem ck_X7_lineNow {h : dp_H} {x0 : Nat} {x1 : Int32} {h' : dp_H} {r : Int32} (hm : m_X7_lineNow h x0 x1 = some (h', r)) : dp_is h x0 7 = true := (dp_ck_e hm).1
set_option maxRecDepth 100000 in
set_option maxHeartbeats 4000000 in
theorem c_X7_lineNow (l : Launch) (D : va_G) (a : dp_A) (B : Nat) (h : dp_H) (x0 : Nat) (x1 : Int32) {h' : dp_H} {r : Int32} (hm : m_X7_lineNow h x0 x1 = some (h', r)) : dp_M l D a B yX7_lineNow cX7_lineNow 2 (some .int) rm_X7_lineNow [.ref (B + x0), .int x1] h (some (.int r)) h' := by
  refine dp_M.of (own := RX7) (nm := "lineNow") (by decide) rfl rfl (Nat.le_of_ble_eq_true rfl) ?_
  intro p e s m below meth c ls X hr hin hw hl
  have hl : lv_has ls 2 [(0, .ref (B + x0)), (1, .int x1)] := hl
  obtain ⟨hx, hb, hml, hown, hlk, hK, hB⟩ := id X
  unfold m_X7_lineNow at hm
  obtain ⟨hck, hm⟩ := dp_ck_e hm
  refine lv_iload_n hx hb dX7_lineNow_0 rfl (lv_at hl 1 rfl) ?_
  by_cases hc0 : x1 = 0
  · have hm := dp_ip hc0 hm
    refine lv_tableIn (off := 47) (tgt := 48) hx hb dX7_lineNow_1 (by rw [hc0]; first | done | decide) (by rw [hc0]; first | done | decide) (by rw [hc0]; first | done | decide) (by decide) ?_
    refine lv_aload_n hx hb dX7_lineNow_48 rfl (lv_at hl 0 rfl) ?_
    obtain ⟨v1, ev1, hm⟩ := dp_ob hm
    refine dp_geti X hw cl_X7 27 (by decide) fl_X7_106 ev1 dX7_lineNow_49 ?_
    cases hm
    exact dp_iret X hr hw dX7_lineNow_52
  have hm := dp_in hc0 hm
  by_cases hc1 : x1 = 1
  · have hm := dp_ip hc1 hm
    refine lv_tableIn (off := 52) (tgt := 53) hx hb dX7_lineNow_1 (by rw [hc1]; first | done | decide) (by rw [hc1]; first | done | decide) (by rw [hc1]; first | done | decide) (by decide) ?_
    refine lv_aload_n hx hb dX7_lineNow_53 rfl (lv_at hl 0 rfl) ?_
    obtain ⟨v2, ev2, hm⟩ := dp_ob hm
    refine dp_geti X hw cl_X7 28 (by decide) fl_X7_190 ev2 dX7_lineNow_54 ?_
    cases hm
    exact dp_iret X hr hw dX7_lineNow_57
  have hm := dp_in hc1 hm
  by_cases hc2 : x1 = 2
  · have hm := dp_ip hc2 hm
    refine lv_tableIn (off := 57) (tgt := 58) hx hb dX7_lineNow_1 (by rw [hc2]; first | done | decide) (by rw [hc2]; first | done | decide) (by rw [hc2]; first | done | decide) (by decide) ?_
    refine lv_aload_n hx hb dX7_lineNow_58 rfl (lv_at hl 0 rfl) ?_
    obtain ⟨v3, ev3, hm⟩ := dp_ob hm
    refine dp_geti X hw cl_X7 27 (by decide) fl_X7_106 ev3 dX7_lineNow_59 ?_
    refine lv_iconst (v := 1) hx hb dX7_lineNow_62 (by decide) ?_
    refine lv_icmp_ne (tgt := 73) hx hb dX7_lineNow_63 (by decide) (fun hc => ?_) (fun hc => ?_)
    · have hm := dp_in hc hm
      refine lv_iconst (v := 0) hx hb dX7_lineNow_73 (by decide) ?_
      cases hm
      exact dp_iret X hr hw dX7_lineNow_74
    · have hm := dp_ip hc hm
      refine lv_aload_n hx hb dX7_lineNow_66 rfl (lv_at hl 0 rfl) ?_
      obtain ⟨v4, ev4, hm⟩ := dp_ob hm
      refine dp_geti X hw cl_X7 30 (by decide) fl_X7_196 ev4 dX7_lineNow_67 ?_
      refine lv_goto (tgt := 74) hx hb dX7_lineNow_70 (by decide) ?_
      cases hm
      exact dp_iret X hr hw dX7_lineNow_74
  have hm := dp_in hc2 hm
  by_cases hc3 : x1 = 3
  · have hm := dp_ip hc3 hm
    refine lv_tableIn (off := 74) (tgt := 75) hx hb dX7_lineNow_1 (by rw [hc3]; first | done | decide) (by rw [hc3]; first | done | decide) (by rw [hc3]; first | done | decide) (by decide) ?_
    refine lv_aload_n hx hb dX7_lineNow_75 rfl (lv_at hl 0 rfl) ?_
    obtain ⟨v5, ev5, hm⟩ := dp_ob hm
    refine dp_geti X hw cl_X7 27 (by decide) fl_X7_106 ev5 dX7_lineNow_76 ?_
    refine lv_iconst (v := 1) hx hb dX7_lineNow_79 (by decide) ?_
    refine lv_icmp_ne (tgt := 90) hx hb dX7_lineNow_80 (by decide) (fun hc => ?_) (fun hc => ?_)
    · have hm := dp_in hc hm
      refine lv_iconst (v := (-1)) hx hb dX7_lineNow_90 (by decide) ?_
      cases hm
      exact dp_iret X hr hw dX7_lineNow_91
    · have hm := dp_ip hc hm
      refine lv_aload_n hx hb dX7_lineNow_83 rfl (lv_at hl 0 rfl) ?_
      obtain ⟨h6, v7, ev7, hm⟩ := dp_ob2 hm
      refine dp_cV (As := []) (rest := []) X hw (c_X7_stageNow l D a B h x0 ev7) vm_X7_stageNow ml_X7_223 (by decide) rfl rfl (ck_X7_stageNow ev7) rfl rfl hl.1 rfl (Nat.le_of_ble_eq_true rfl) dX7_lineNow_84 ⟨(Nat.zero_le _), (Nat.zero_le _)⟩ (fun H locs hw => ?_)
      refine lv_goto (tgt := 91) hx hb dX7_lineNow_87 (by decide) ?_
      cases hm
      exact dp_iret X hr hw dX7_lineNow_91
  have hm := dp_in hc3 hm
  by_cases hc4 : x1 = 4
  · have hm := dp_ip hc4 hm
    refine lv_tableIn (off := 91) (tgt := 92) hx hb dX7_lineNow_1 (by rw [hc4]; first | done | decide) (by rw [hc4]; first | done | decide) (by rw [hc4]; first | done | decide) (by decide) ?_
    refine lv_aload_n hx hb dX7_lineNow_92 rfl (lv_at hl 0 rfl) ?_
    obtain ⟨v8, ev8, hm⟩ := dp_ob hm
    refine dp_geti X hw cl_X7 27 (by decide) fl_X7_106 ev8 dX7_lineNow_93 ?_
    refine lv_iconst (v := 2) hx hb dX7_lineNow_96 (by decide) ?_
    refine lv_icmp_ne (tgt := 107) hx hb dX7_lineNow_97 (by decide) (fun hc => ?_) (fun hc => ?_)
    · have hm := dp_in hc hm
      refine lv_iconst (v := (-1)) hx hb dX7_lineNow_107 (by decide) ?_
      cases hm
      exact dp_iret X hr hw dX7_lineNow_108
    · have hm := dp_ip hc hm
      refine lv_aload_n hx hb dX7_lineNow_100 rfl (lv_at hl 0 rfl) ?_
      obtain ⟨h9, v10, ev10, hm⟩ := dp_ob2 hm
      refine dp_cV (As := []) (rest := []) X hw (c_X7_winsNow l D a B h x0 ev10) vm_X7_winsNow ml_X7_226 (by decide) rfl rfl (ck_X7_winsNow ev10) rfl rfl hl.1 rfl (Nat.le_of_ble_eq_true rfl) dX7_lineNow_101 ⟨(Nat.zero_le _), (Nat.zero_le _)⟩ (fun H locs hw => ?_)
      refine lv_goto (tgt := 108) hx hb dX7_lineNow_104 (by decide) ?_
      cases hm
      exact dp_iret X hr hw dX7_lineNow_108
  have hm := dp_in hc4 hm
  by_cases hc5 : x1 = 5
  · have hm := dp_ip hc5 hm
    refine lv_tableIn (off := 108) (tgt := 109) hx hb dX7_lineNow_1 (by rw [hc5]; first | done | decide) (by rw [hc5]; first | done | decide) (by rw [hc5]; first | done | decide) (by decide) ?_
    refine lv_aload_n hx hb dX7_lineNow_109 rfl (lv_at hl 0 rfl) ?_
    obtain ⟨h11, v12, ev12, hm⟩ := dp_ob2 hm
    refine dp_cV (As := []) (rest := []) X hw (c_X7_sureNow l D a B h x0 ev12) vm_X7_sureNow ml_X7_229 (by decide) rfl rfl (ck_X7_sureNow ev12) rfl rfl hl.1 rfl (Nat.le_of_ble_eq_true rfl) dX7_lineNow_110 ⟨(Nat.zero_le _), (Nat.zero_le _)⟩ (fun H locs hw => ?_)
    cases hm
    exact dp_iret X hr hw dX7_lineNow_113
  have hm := dp_in hc5 hm
  by_cases hc6 : x1 = 6
  · have hm := dp_ip hc6 hm
    refine lv_tableIn (off := 113) (tgt := 114) hx hb dX7_lineNow_1 (by rw [hc6]; first | done | decide) (by rw [hc6]; first | done | decide) (by rw [hc6]; first | done | decide) (by decide) ?_
    refine lv_aload_n hx hb dX7_lineNow_114 rfl (lv_at hl 0 rfl) ?_
    obtain ⟨v13, ev13, hm⟩ := dp_ob hm
    refine dp_geti X hw cl_X7 31 (by decide) fl_X7_193 ev13 dX7_lineNow_115 ?_
    cases hm
    exact dp_iret X hr hw dX7_lineNow_118
  have hm := dp_in hc6 hm
  by_cases hc7 : x1 = 7
  · have hm := dp_ip hc7 hm
    refine lv_tableIn (off := 118) (tgt := 119) hx hb dX7_lineNow_1 (by rw [hc7]; first | done | decide) (by rw [hc7]; first | done | decide) (by rw [hc7]; first | done | decide) (by decide) ?_
    refine lv_aload_n hx hb dX7_lineNow_119 rfl (lv_at hl 0 rfl) ?_
    obtain ⟨v14, ev14, hm⟩ := dp_ob hm
    refine dp_geti X hw cl_X7 27 (by decide) fl_X7_106 ev14 dX7_lineNow_120 ?_
    refine lv_iconst (v := 2) hx hb dX7_lineNow_123 (by decide) ?_
    refine lv_icmp_ne (tgt := 134) hx hb dX7_lineNow_124 (by decide) (fun hc => ?_) (fun hc => ?_)
    · have hm := dp_in hc hm
      refine lv_iconst (v := (-1)) hx hb dX7_lineNow_134 (by decide) ?_
      cases hm
      exact dp_iret X hr hw dX7_lineNow_135
    · have hm := dp_ip hc hm
      refine lv_aload_n hx hb dX7_lineNow_127 rfl (lv_at hl 0 rfl) ?_
      obtain ⟨h15, v16, ev16, hm⟩ := dp_ob2 hm
      refine dp_cV (As := []) (rest := []) X hw (c_X7_wayNow l D a B h x0 ev16) vm_X7_wayNow ml_X7_232 (by decide) rfl rfl (ck_X7_wayNow ev16) rfl rfl hl.1 rfl (Nat.le_of_ble_eq_true rfl) dX7_lineNow_128 ⟨(Nat.zero_le _), (Nat.zero_le _)⟩ (fun H locs hw => ?_)
      refine lv_goto (tgt := 135) hx hb dX7_lineNow_131 (by decide) ?_
      cases hm
      exact dp_iret X hr hw dX7_lineNow_135
  have hm := dp_in hc7 hm
  have hd0 : Int32.toInt x1 ≠ 0 := fun q => hc0 (Int32.toInt_inj.mp (q.trans (by decide)))
  have hd1 : Int32.toInt x1 ≠ 1 := fun q => hc1 (Int32.toInt_inj.mp (q.trans (by decide)))
  have hd2 : Int32.toInt x1 ≠ 2 := fun q => hc2 (Int32.toInt_inj.mp (q.trans (by decide)))
  have hd3 : Int32.toInt x1 ≠ 3 := fun q => hc3 (Int32.toInt_inj.mp (q.trans (by decide)))
  have hd4 : Int32.toInt x1 ≠ 4 := fun q => hc4 (Int32.toInt_inj.mp (q.trans (by decide)))
  have hd5 : Int32.toInt x1 ≠ 5 := fun q => hc5 (Int32.toInt_inj.mp (q.trans (by decide)))
  have hd6 : Int32.toInt x1 ≠ 6 := fun q => hc6 (Int32.toInt_inj.mp (q.trans (by decide)))
  have hd7 : Int32.toInt x1 ≠ 7 := fun q => hc7 (Int32.toInt_inj.mp (q.trans (by decide)))
  refine lv_tableOut (tgt := 136) hx hb dX7_lineNow_1 (by omega) (by decide) ?_
  refine lv_iload_n hx hb dX7_lineNow_136 rfl (lv_at hl 1 rfl) ?_
  refine lv_bipush (v := 10) hx hb dX7_lineNow_137 (by decide) ?_
  refine lv_isub hx hb dX7_lineNow_139 ?_
  refine lv_aload_n hx hb dX7_lineNow_140 rfl (lv_at hl 0 rfl) ?_
  obtain ⟨v17, ev17, hm⟩ := dp_ob hm
  refine dp_geti X hw cl_X7 28 (by decide) fl_X7_190 ev17 dX7_lineNow_141 ?_
  refine lv_icmp_ge (tgt := 159) hx hb dX7_lineNow_144 (by decide) (fun hc => ?_) (fun hc => ?_)
  · have hm := dp_ip hc hm
    refine lv_iconst (v := (-1)) hx hb dX7_lineNow_159 (by decide) ?_
    cases hm
    exact dp_iret X hr hw dX7_lineNow_160
  · have hm := dp_in hc hm
    refine lv_aload_n hx hb dX7_lineNow_147 rfl (lv_at hl 0 rfl) ?_
    obtain ⟨v18, ev18, hm⟩ := dp_ob hm
    refine dp_getr X hw cl_X7 29 (by decide) fl_X7_47 ev18 dX7_lineNow_148 ?_
    refine lv_iload_n hx hb dX7_lineNow_151 rfl (lv_at hl 1 rfl) ?_
    refine lv_bipush (v := 10) hx hb dX7_lineNow_152 (by decide) ?_
    refine lv_isub hx hb dX7_lineNow_154 ?_
    obtain ⟨v19, ev19, hm⟩ := dp_ob hm
    refine dp_iald X hw ev19 dX7_lineNow_155 ?_
    refine lv_goto (tgt := 160) hx hb dX7_lineNow_156 (by decide) ?_
    cases hm
    exact dp_iret X hr hw dX7_lineNow_160
theorem ck_X7_line {h : dp_H} {x0 : Nat} {x1 : Int32} {h' : dp_H} {r : Int32} (hm : m_X7_line h x0 x1 = some (h', r)) : dp_is h x0 7 = true := (dp_ck_e hm).1
set_option maxRecDepth 100000 in
set_option maxHeartbeats 4000000 in
theorem c_X7_line (l : Launch) (D : va_G) (a : dp_A) (B : Nat) (h : dp_H) (x0 : Nat) (x1 : Int32) {h' : dp_H} {r : Int32} (hm : m_X7_line h x0 x1 = some (h', r)) : dp_M l D a B yX7_line cX7_line 2 (some .int) rm_X7_line [.ref (B + x0), .int x1] h (some (.int r)) h' := by
  refine dp_M.of (own := RX7) (nm := "line") (by decide) rfl rfl (Nat.le_of_ble_eq_true rfl) ?_
  intro p e s m below meth c ls X hr hin hw hl
  have hl : lv_has ls 2 [(0, .ref (B + x0)), (1, .int x1)] := hl
  obtain ⟨hx, hb, hml, hown, hlk, hK, hB⟩ := id X
  unfold m_X7_line at hm
  obtain ⟨hck, hm⟩ := dp_ck_e hm
  refine lv_iload_n hx hb dX7_line_0 rfl (lv_at hl 1 rfl) ?_
  refine lv_iconst (v := 0) hx hb dX7_line_1 (by decide) ?_
  refine lv_bipush (v := 7) hx hb dX7_line_2 (by decide) ?_
  obtain ⟨v1, ev1, hm⟩ := dp_ob hm
  refine dp_cS (As := [.int x1, .int 0, .int 7]) (rest := []) X hw (c_X7_within l D a B h x1 0 7 ev1) sm_X7_within st_X7_within ml_X7_50 (by decide) rfl rfl rfl hl.1 rfl (Nat.le_of_ble_eq_true rfl) dX7_line_4 ⟨(Nat.zero_le _), (Nat.zero_le _)⟩ (fun H locs hw => ?_)
  refine lv_if_ne (tgt := 21) hx hb dX7_line_7 (by decide) (fun hc => ?_) (fun hc => ?_)
  · have hm := dp_in hc hm
    refine lv_aload_n hx hb dX7_line_21 rfl (lv_at hl 0 rfl) ?_
    refine lv_iload_n hx hb dX7_line_22 rfl (lv_at hl 1 rfl) ?_
    obtain ⟨h2, v3, ev3, hm⟩ := dp_ob2 hm
    refine dp_cV (As := [.int x1]) (rest := []) X hw (c_X7_lineNow l D a B h x0 x1 ev3) vm_X7_lineNow ml_X7_235 (by decide) rfl rfl (ck_X7_lineNow ev3) rfl rfl hl.1 rfl (Nat.le_of_ble_eq_true rfl) dX7_line_23 ⟨(Nat.zero_le _), (Nat.zero_le _)⟩ (fun H locs hw => ?_)
    refine lv_goto (tgt := 32) hx hb dX7_line_26 (by decide) ?_
    cases hm
    exact dp_iret X hr hw dX7_line_32
  · have hm := dp_ip hc hm
    refine lv_iload_n hx hb dX7_line_10 rfl (lv_at hl 1 rfl) ?_
    refine lv_bipush (v := 10) hx hb dX7_line_11 (by decide) ?_
    refine lv_bipush (v := 19) hx hb dX7_line_13 (by decide) ?_
    obtain ⟨v4, ev4, hm⟩ := dp_ob hm
    refine dp_cS (As := [.int x1, .int 10, .int 19]) (rest := []) X hw (c_X7_within l D a B h x1 10 19 ev4) sm_X7_within st_X7_within ml_X7_50 (by decide) rfl rfl rfl hl.1 rfl (Nat.le_of_ble_eq_true rfl) dX7_line_15 ⟨(Nat.zero_le _), (Nat.zero_le _)⟩ (fun H locs hw => ?_)
    refine lv_if_eq (tgt := 29) hx hb dX7_line_18 (by decide) (fun hc => ?_) (fun hc => ?_)
    · have hm := dp_ip hc hm
      refine lv_sipush (v := (-1002)) hx hb dX7_line_29 (by decide) ?_
      cases hm
      exact dp_iret X hr hw dX7_line_32
    · have hm := dp_in hc hm
      refine lv_aload_n hx hb dX7_line_21 rfl (lv_at hl 0 rfl) ?_
      refine lv_iload_n hx hb dX7_line_22 rfl (lv_at hl 1 rfl) ?_
      obtain ⟨h5, v6, ev6, hm⟩ := dp_ob2 hm
      refine dp_cV (As := [.int x1]) (rest := []) X hw (c_X7_lineNow l D a B h x0 x1 ev6) vm_X7_lineNow ml_X7_235 (by decide) rfl rfl (ck_X7_lineNow ev6) rfl rfl hl.1 rfl (Nat.le_of_ble_eq_true rfl) dX7_line_23 ⟨(Nat.zero_le _), (Nat.zero_le _)⟩ (fun H locs hw => ?_)
      refine lv_goto (tgt := 32) hx hb dX7_line_26 (by decide) ?_
      cases hm
      exact dp_iret X hr hw dX7_line_32
theorem ck_X7_howMany {h : dp_H} {x0 : Nat} {x1 : Int32} {r : Int32} (hm : m_X7_howMany h x0 x1 = some r) : dp_is h x0 7 = true := (dp_ck_e hm).1
set_option maxRecDepth 100000 in
set_option maxHeartbeats 4000000 in
theorem c_X7_howMany (l : Launch) (D : va_G) (a : dp_A) (B : Nat) (h : dp_H) (x0 : Nat) (x1 : Int32) {r : Int32} (hm : m_X7_howMany h x0 x1 = some r) : dp_M l D a B yX7_howMany cX7_howMany 2 (some .int) rm_X7_howMany [.ref (B + x0), .int x1] h (some (.int r)) h := by
  refine dp_M.of (own := RX7) (nm := "howMany") (by decide) rfl rfl (Nat.le_of_ble_eq_true rfl) ?_
  intro p e s m below meth c ls X hr hin hw hl
  have hl : lv_has ls 2 [(0, .ref (B + x0)), (1, .int x1)] := hl
  obtain ⟨hx, hb, hml, hown, hlk, hK, hB⟩ := id X
  unfold m_X7_howMany at hm
  obtain ⟨hck, hm⟩ := dp_ck_e hm
  refine lv_iload_n hx hb dX7_howMany_0 rfl (lv_at hl 1 rfl) ?_
  by_cases hc0 : x1 = 0
  · have hm := dp_ip hc0 hm
    refine lv_tableIn (off := 55) (tgt := 56) hx hb dX7_howMany_1 (by rw [hc0]; first | done | decide) (by rw [hc0]; first | done | decide) (by rw [hc0]; first | done | decide) (by decide) ?_
    refine lv_aload_n hx hb dX7_howMany_56 rfl (lv_at hl 0 rfl) ?_
    obtain ⟨v1, ev1, hm⟩ := dp_ob hm
    refine dp_geti X hw cl_X7 2 (by decide) fl_X7_109 ev1 dX7_howMany_57 ?_
    cases hm
    exact dp_iret X hr hw dX7_howMany_60
  have hm := dp_in hc0 hm
  by_cases hc1 : x1 = 1
  · have hm := dp_ip hc1 hm
    refine lv_tableIn (off := 60) (tgt := 61) hx hb dX7_howMany_1 (by rw [hc1]; first | done | decide) (by rw [hc1]; first | done | decide) (by rw [hc1]; first | done | decide) (by decide) ?_
    refine lv_aload_n hx hb dX7_howMany_61 rfl (lv_at hl 0 rfl) ?_
    obtain ⟨v2, ev2, hm⟩ := dp_ob hm
    refine dp_geti X hw cl_X7 0 (by decide) fl_X7_54 ev2 dX7_howMany_62 ?_
    cases hm
    exact dp_iret X hr hw dX7_howMany_65
  have hm := dp_in hc1 hm
  by_cases hc2 : x1 = 2
  · have hm := dp_ip hc2 hm
    refine lv_tableIn (off := 65) (tgt := 66) hx hb dX7_howMany_1 (by rw [hc2]; first | done | decide) (by rw [hc2]; first | done | decide) (by rw [hc2]; first | done | decide) (by decide) ?_
    refine lv_aload_n hx hb dX7_howMany_66 rfl (lv_at hl 0 rfl) ?_
    obtain ⟨v3, ev3, hm⟩ := dp_ob hm
    refine dp_cV (As := []) (rest := []) X hw (c_X7_clashes l D a B h x0 ev3) vm_X7_clashes ml_X7_238 (by decide) rfl rfl (ck_X7_clashes ev3) rfl rfl hl.1 rfl (Nat.le_of_ble_eq_true rfl) dX7_howMany_67 ⟨(Nat.zero_le _), (Nat.zero_le _)⟩ (fun H locs hw => ?_)
    cases hm
    exact dp_iret X hr hw dX7_howMany_70
  have hm := dp_in hc2 hm
  by_cases hc3 : x1 = 3
  · have hm := dp_ip hc3 hm
    refine lv_tableIn (off := 70) (tgt := 71) hx hb dX7_howMany_1 (by rw [hc3]; first | done | decide) (by rw [hc3]; first | done | decide) (by rw [hc3]; first | done | decide) (by decide) ?_
    refine lv_aload_n hx hb dX7_howMany_71 rfl (lv_at hl 0 rfl) ?_
    obtain ⟨v4, ev4, hm⟩ := dp_ob hm
    refine dp_getr X hw cl_X7 10 (by decide) fl_X7_35 ev4 dX7_howMany_72 ?_
    refine lv_iload_n hx hb dX7_howMany_75 rfl (lv_at hl 1 rfl) ?_
    refine lv_iconst (v := 3) hx hb dX7_howMany_76 (by decide) ?_
    refine lv_isub hx hb dX7_howMany_77 ?_
    obtain ⟨v5, ev5, hm⟩ := dp_ob hm
    refine dp_iald X hw ev5 dX7_howMany_78 ?_
    cases hm
    exact dp_iret X hr hw dX7_howMany_79
  have hm := dp_in hc3 hm
  by_cases hc4 : x1 = 4
  · have hm := dp_ip hc4 hm
    refine lv_tableIn (off := 70) (tgt := 71) hx hb dX7_howMany_1 (by rw [hc4]; first | done | decide) (by rw [hc4]; first | done | decide) (by rw [hc4]; first | done | decide) (by decide) ?_
    refine lv_aload_n hx hb dX7_howMany_71 rfl (lv_at hl 0 rfl) ?_
    obtain ⟨v6, ev6, hm⟩ := dp_ob hm
    refine dp_getr X hw cl_X7 10 (by decide) fl_X7_35 ev6 dX7_howMany_72 ?_
    refine lv_iload_n hx hb dX7_howMany_75 rfl (lv_at hl 1 rfl) ?_
    refine lv_iconst (v := 3) hx hb dX7_howMany_76 (by decide) ?_
    refine lv_isub hx hb dX7_howMany_77 ?_
    obtain ⟨v7, ev7, hm⟩ := dp_ob hm
    refine dp_iald X hw ev7 dX7_howMany_78 ?_
    cases hm
    exact dp_iret X hr hw dX7_howMany_79
  have hm := dp_in hc4 hm
  by_cases hc5 : x1 = 5
  · have hm := dp_ip hc5 hm
    refine lv_tableIn (off := 70) (tgt := 71) hx hb dX7_howMany_1 (by rw [hc5]; first | done | decide) (by rw [hc5]; first | done | decide) (by rw [hc5]; first | done | decide) (by decide) ?_
    refine lv_aload_n hx hb dX7_howMany_71 rfl (lv_at hl 0 rfl) ?_
    obtain ⟨v8, ev8, hm⟩ := dp_ob hm
    refine dp_getr X hw cl_X7 10 (by decide) fl_X7_35 ev8 dX7_howMany_72 ?_
    refine lv_iload_n hx hb dX7_howMany_75 rfl (lv_at hl 1 rfl) ?_
    refine lv_iconst (v := 3) hx hb dX7_howMany_76 (by decide) ?_
    refine lv_isub hx hb dX7_howMany_77 ?_
    obtain ⟨v9, ev9, hm⟩ := dp_ob hm
    refine dp_iald X hw ev9 dX7_howMany_78 ?_
    cases hm
    exact dp_iret X hr hw dX7_howMany_79
  have hm := dp_in hc5 hm
  by_cases hc6 : x1 = 6
  · have hm := dp_ip hc6 hm
    refine lv_tableIn (off := 79) (tgt := 80) hx hb dX7_howMany_1 (by rw [hc6]; first | done | decide) (by rw [hc6]; first | done | decide) (by rw [hc6]; first | done | decide) (by decide) ?_
    refine lv_aload_n hx hb dX7_howMany_80 rfl (lv_at hl 0 rfl) ?_
    obtain ⟨v10, ev10, hm⟩ := dp_ob hm
    refine dp_geti X hw cl_X7 11 (by decide) fl_X7_199 ev10 dX7_howMany_81 ?_
    cases hm
    exact dp_iret X hr hw dX7_howMany_84
  have hm := dp_in hc6 hm
  by_cases hc7 : x1 = 7
  · have hm := dp_ip hc7 hm
    refine lv_tableIn (off := 84) (tgt := 85) hx hb dX7_howMany_1 (by rw [hc7]; first | done | decide) (by rw [hc7]; first | done | decide) (by rw [hc7]; first | done | decide) (by decide) ?_
    refine lv_aload_n hx hb dX7_howMany_85 rfl (lv_at hl 0 rfl) ?_
    obtain ⟨v11, ev11, hm⟩ := dp_ob hm
    refine dp_geti X hw cl_X7 12 (by decide) fl_X7_205 ev11 dX7_howMany_86 ?_
    cases hm
    exact dp_iret X hr hw dX7_howMany_89
  have hm := dp_in hc7 hm
  by_cases hc8 : x1 = 8
  · have hm := dp_ip hc8 hm
    refine lv_tableIn (off := 89) (tgt := 90) hx hb dX7_howMany_1 (by rw [hc8]; first | done | decide) (by rw [hc8]; first | done | decide) (by rw [hc8]; first | done | decide) (by decide) ?_
    refine lv_aload_n hx hb dX7_howMany_90 rfl (lv_at hl 0 rfl) ?_
    obtain ⟨v12, ev12, hm⟩ := dp_ob hm
    refine dp_geti X hw cl_X7 13 (by decide) fl_X7_208 ev12 dX7_howMany_91 ?_
    cases hm
    exact dp_iret X hr hw dX7_howMany_94
  have hm := dp_in hc8 hm
  by_cases hc9 : x1 = 9
  · have hm := dp_ip hc9 hm
    refine lv_tableIn (off := 94) (tgt := 95) hx hb dX7_howMany_1 (by rw [hc9]; first | done | decide) (by rw [hc9]; first | done | decide) (by rw [hc9]; first | done | decide) (by decide) ?_
    refine lv_aload_n hx hb dX7_howMany_95 rfl (lv_at hl 0 rfl) ?_
    obtain ⟨v13, ev13, hm⟩ := dp_ob hm
    refine dp_geti X hw cl_X7 14 (by decide) fl_X7_211 ev13 dX7_howMany_96 ?_
    cases hm
    exact dp_iret X hr hw dX7_howMany_99
  have hm := dp_in hc9 hm
  have hd0 : Int32.toInt x1 ≠ 0 := fun q => hc0 (Int32.toInt_inj.mp (q.trans (by decide)))
  have hd1 : Int32.toInt x1 ≠ 1 := fun q => hc1 (Int32.toInt_inj.mp (q.trans (by decide)))
  have hd2 : Int32.toInt x1 ≠ 2 := fun q => hc2 (Int32.toInt_inj.mp (q.trans (by decide)))
  have hd3 : Int32.toInt x1 ≠ 3 := fun q => hc3 (Int32.toInt_inj.mp (q.trans (by decide)))
  have hd4 : Int32.toInt x1 ≠ 4 := fun q => hc4 (Int32.toInt_inj.mp (q.trans (by decide)))
  have hd5 : Int32.toInt x1 ≠ 5 := fun q => hc5 (Int32.toInt_inj.mp (q.trans (by decide)))
  have hd6 : Int32.toInt x1 ≠ 6 := fun q => hc6 (Int32.toInt_inj.mp (q.trans (by decide)))
  have hd7 : Int32.toInt x1 ≠ 7 := fun q => hc7 (Int32.toInt_inj.mp (q.trans (by decide)))
  have hd8 : Int32.toInt x1 ≠ 8 := fun q => hc8 (Int32.toInt_inj.mp (q.trans (by decide)))
  have hd9 : Int32.toInt x1 ≠ 9 := fun q => hc9 (Int32.toInt_inj.mp (q.trans (by decide)))
  refine lv_tableOut (tgt := 100) hx hb dX7_howMany_1 (by omega) (by decide) ?_
  refine lv_sipush (v := (-1002)) hx hb dX7_howMany_100 (by decide) ?_
  cases hm
  exact dp_iret X hr hw dX7_howMany_103
theorem ck_X7_count {h : dp_H} {x0 : Nat} {x1 : Int32} {r : Int32} (hm : m_X7_count h x0 x1 = some r) : dp_is h x0 7 = true := (dp_ck_e hm).1
set_option maxRecDepth 100000 in
set_option maxHeartbeats 4000000 in
theorem c_X7_count (l : Launch) (D : va_G) (a : dp_A) (B : Nat) (h : dp_H) (x0 : Nat) (x1 : Int32) {r : Int32} (hm : m_X7_count h x0 x1 = some r) : dp_M l D a B yX7_count cX7_count 2 (some .int) rm_X7_count [.ref (B + x0), .int x1] h (some (.int r)) h := by
  refine dp_M.of (own := RX7) (nm := "count") (by decide) rfl rfl (Nat.le_of_ble_eq_true rfl) ?_
  intro p e s m below meth c ls X hr hin hw hl
  have hl : lv_has ls 2 [(0, .ref (B + x0)), (1, .int x1)] := hl
  obtain ⟨hx, hb, hml, hown, hlk, hK, hB⟩ := id X
  unfold m_X7_count at hm
  obtain ⟨hck, hm⟩ := dp_ck_e hm
  refine lv_aload_n hx hb dX7_count_0 rfl (lv_at hl 0 rfl) ?_
  refine lv_iload_n hx hb dX7_count_1 rfl (lv_at hl 1 rfl) ?_
  obtain ⟨v1, ev1, hm⟩ := dp_ob hm
  refine dp_cV (As := [.int x1]) (rest := []) X hw (c_X7_howMany l D a B h x0 x1 ev1) vm_X7_howMany ml_X7_241 (by decide) rfl rfl (ck_X7_howMany ev1) rfl rfl hl.1 rfl (Nat.le_of_ble_eq_true rfl) dX7_count_2 ⟨(Nat.zero_le _), (Nat.zero_le _)⟩ (fun H locs hw => ?_)
  cases hm
  exact dp_iret X hr hw dX7_count_5
theorem ck_X7_mix {h : dp_H} {x0 : Nat} {x1 : Int64} {h' : dp_H} (hm : m_X7_mix h x0 x1 = some h') : dp_is h x0 7 = true := (dp_ck_e hm).1
set_option maxRecDepth 100000 in
set_option maxHeartbeats 4000000 in
theorem c_X7_mix (l : Launch) (D : va_G) (a : dp_A) (B : Nat) (h : dp_H) (x0 : Nat) (x1 : Int64) {h' : dp_H} (hm : m_X7_mix h x0 x1 = some h') : dp_M l D a B yX7_mix cX7_mix 3 none rm_X7_mix [.ref (B + x0), .long x1] h none h' := by
  refine dp_M.of (own := RX7) (nm := "mix") (by decide) rfl rfl (Nat.le_of_ble_eq_true rfl) ?_
  intro p e s m below meth c ls X hr hin hw hl
  have hl : lv_has ls 3 [(0, .ref (B + x0)), (1, .long x1)] := hl
  obtain ⟨hx, hb, hml, hown, hlk, hK, hB⟩ := id X
  unfold m_X7_mix at hm
  obtain ⟨hck, hm⟩ := dp_ck_e hm
  refine lv_aload_n hx hb dX7_mix_0 rfl (lv_at hl 0 rfl) ?_
  refine lv_ldc2 (v := 31) hx hb hown (hK.word kl_X7_244 rfl) dX7_mix_1 ?_
  refine lv_aload_n hx hb dX7_mix_4 rfl (lv_at hl 0 rfl) ?_
  obtain ⟨v1, ev1, hm⟩ := dp_ob hm
  refine dp_getl X hw cl_X7 32 (by decide) fl_X7_246 ev1 dX7_mix_5 ?_
  refine lv_lmul hx hb dX7_mix_8 ?_
  refine lv_lload_n hx hb dX7_mix_9 rfl (lv_at hl 1 rfl) ?_
  refine lv_ladd hx hb dX7_mix_10 ?_
  obtain ⟨h2, eh2, hm⟩ := dp_ob hm
  refine dp_putl X hw cl_X7 32 (by decide) fl_X7_246 rfl rfl eh2 dX7_mix_11 (fun H locs hw => ?_)
  cases hm
  exact dp_vret X hr hw dX7_mix_14
set_option maxRecDepth 100000 in
set_option maxHeartbeats 4000000 in
theorem v_X7_digest_44 {p : Program} {l : Launch} {e : Env} {s : State} {m : MethodId} {args : Array Value} {below : List Frame} {meth : Method} {c : Code} {D : va_G} {a : dp_A} {B : Nat} (X : dp_X p s m meth c cX7_digest 3 RX7 D a B) (hr : meth.sig.returnType = (some .long)) {h' : dp_H} {r : Int64} {k9 : dp_H → Nat → Int32 → Option (dp_H × Int64)} (hk9 : ∀ (h : dp_H) (x0 : Nat) (x1 : Int32), k9 h x0 x1 = some (h', r) → ∀ (H : Heap) (locs : List Loc) (ls : Array Slot), dp_w D a B h s.heap H locs → lv_has ls 3 [(0, .ref (B + x0)), (1, .int x1)] → W p l e rm_X7_digest s m args below meth c H locs 0 0 (MQ below (dp_Q D a B (some (.long r)) h') args s rm_X7_digest.cells rm_X7_digest.slots (fun q => B ≤ q)) (F0 m 9 ls [])) {k44 : dp_H → Nat → Int32 → Int32 → Option (dp_H × Int64)} (hk44 : ∀ (h : dp_H) (x0 : Nat) (x1 : Int32) (x2 : Int32), k44 h x0 x1 x2 = some (h', r) → ∀ (H : Heap) (locs : List Loc) (ls : Array Slot), dp_w D a B h s.heap H locs → lv_has ls 3 [(0, .ref (B + x0)), (1, .int x1), (2, .int x2)] → W p l e rm_X7_digest s m args below meth c H locs 0 0 (MQ below (dp_Q D a B (some (.long r)) h') args s rm_X7_digest.cells rm_X7_digest.slots (fun q => B ≤ q)) (F0 m 44 ls [])) : ∀ (h : dp_H) (x0 : Nat) (x1 : Int32) (x2 : Int32), b_X7_digest_44 k9 k44 h x0 x1 x2 = some (h', r) → ∀ (H : Heap) (locs : List Loc) (ls : Array Slot), dp_w D a B h s.heap H locs → lv_has ls 3 [(0, .ref (B + x0)), (1, .int x1), (2, .int x2)] → W p l e rm_X7_digest s m args below meth c H locs 0 0 (MQ below (dp_Q D a B (some (.long r)) h') args s rm_X7_digest.cells rm_X7_digest.slots (fun q => B ≤ q)) (F0 m 44 ls []) := by
  intro h x0 x1 x2 hm H locs ls hw hl
  obtain ⟨hx, hb, hml, hown, hlk, hK, hB⟩ := id X
  unfold b_X7_digest_44 at hm
  refine lv_iload_n hx hb dX7_digest_44 rfl (lv_at hl 2 rfl) ?_
  refine lv_bipush (v := 10) hx hb dX7_digest_45 (by decide) ?_
  refine lv_icmp_ge (tgt := 67) hx hb dX7_digest_47 (by decide) (fun hc => ?_) (fun hc => ?_)
  · have hm := dp_ip hc hm
    refine lv_iinc (v := (x1 + 1)) (lv' := [(1, .int (x1 + 1)), (0, .ref (B + x0)), (2, .int x2)]) hx hb dX7_digest_67 hl (k := 1) rfl rfl (by decide) rfl (fun ls hl => ?_)
    refine lv_goto (tgt := 9) hx hb dX7_digest_70 (by decide) ?_
    exact hk9 h x0 (x1 + 1) hm _ _ _ hw (lv_sub hl [1, 0] rfl)
  · have hm := dp_in hc hm
    refine lv_aload_n hx hb dX7_digest_50 rfl (lv_at hl 0 rfl) ?_
    refine lv_aload_n hx hb dX7_digest_51 rfl (lv_at hl 0 rfl) ?_
    refine lv_iload_n hx hb dX7_digest_52 rfl (lv_at hl 1 rfl) ?_
    refine lv_iload_n hx hb dX7_digest_53 rfl (lv_at hl 2 rfl) ?_
    obtain ⟨v1, ev1, hm⟩ := dp_ob hm
    refine dp_cV (As := [.int x1, .int x2]) (rest := [.ref (B + x0)]) X hw (c_X7_letsOf l D a B h x0 x1 x2 ev1) vm_X7_letsOf ml_X7_131 (by decide) rfl rfl (ck_X7_letsOf ev1) rfl rfl hl.1 rfl (Nat.le_of_ble_eq_true rfl) dX7_digest_54 ⟨(Nat.zero_le _), (Nat.zero_le _)⟩ (fun H locs hw => ?_)
    refine lv_i2l (v := (Int32.toInt64 v1)) hx hb dX7_digest_57 rfl ?_
    obtain ⟨h2, eh2, hm⟩ := dp_ob hm
    refine dp_cVv (As := [.long (Int32.toInt64 v1)]) (rest := []) X hw (c_X7_mix l D a B h x0 (Int32.toInt64 v1) eh2) vm_X7_mix ml_X7_252 (by decide) rfl rfl (ck_X7_mix eh2) rfl rfl hl.1 rfl (Nat.le_of_ble_eq_true rfl) dX7_digest_58 ⟨(Nat.zero_le _), (Nat.zero_le _)⟩ (fun H locs hw => ?_)
    refine lv_iinc (v := (x2 + 1)) (lv' := [(2, .int (x2 + 1)), (0, .ref (B + x0)), (1, .int x1)]) hx hb dX7_digest_61 hl (k := 2) rfl rfl (by decide) rfl (fun ls hl => ?_)
    refine lv_goto (tgt := 44) hx hb dX7_digest_64 (by decide) ?_
    exact hk44 h2 x0 x1 (x2 + 1) hm _ _ _ hw (lv_sub hl [1, 2, 0] rfl)
set_option maxRecDepth 100000 in
set_option maxHeartbeats 4000000 in
theorem w_X7_digest_44 {p : Program} {l : Launch} {e : Env} {s : State} {m : MethodId} {args : Array Value} {below : List Frame} {meth : Method} {c : Code} {D : va_G} {a : dp_A} {B : Nat} (X : dp_X p s m meth c cX7_digest 3 RX7 D a B) (hr : meth.sig.returnType = (some .long)) {h' : dp_H} {r : Int64} {k9 : dp_H → Nat → Int32 → Option (dp_H × Int64)} (hk9 : ∀ (h : dp_H) (x0 : Nat) (x1 : Int32), k9 h x0 x1 = some (h', r) → ∀ (H : Heap) (locs : List Loc) (ls : Array Slot), dp_w D a B h s.heap H locs → lv_has ls 3 [(0, .ref (B + x0)), (1, .int x1)] → W p l e rm_X7_digest s m args below meth c H locs 0 0 (MQ below (dp_Q D a B (some (.long r)) h') args s rm_X7_digest.cells rm_X7_digest.slots (fun q => B ≤ q)) (F0 m 9 ls [])) : ∀ (n : Nat) (h : dp_H) (x0 : Nat) (x1 : Int32) (x2 : Int32), m_X7_digest_44 k9 n h x0 x1 x2 = some (h', r) → ∀ (H : Heap) (locs : List Loc) (ls : Array Slot), dp_w D a B h s.heap H locs → lv_has ls 3 [(0, .ref (B + x0)), (1, .int x1), (2, .int x2)] → W p l e rm_X7_digest s m args below meth c H locs 0 0 (MQ below (dp_Q D a B (some (.long r)) h') args s rm_X7_digest.cells rm_X7_digest.slots (fun q => B ≤ q)) (F0 m 44 ls []) := by
  intro n
  induction n with
  | zero => intro h x0 x1 x2 hm; cases hm
  | succ n ih => intro h x0 x1 x2 hm; exact v_X7_digest_44 X hr hk9 ih h x0 x1 x2 hm
set_option maxRecDepth 100000 in
set_option maxHeartbeats 4000000 in
theorem v_X7_digest_19 {p : Program} {l : Launch} {e : Env} {s : State} {m : MethodId} {args : Array Value} {below : List Frame} {meth : Method} {c : Code} {D : va_G} {a : dp_A} {B : Nat} (X : dp_X p s m meth c cX7_digest 3 RX7 D a B) (hr : meth.sig.returnType = (some .long)) {h' : dp_H} {r : Int64} {k9 : dp_H → Nat → Int32 → Option (dp_H × Int64)} (hk9 : ∀ (h : dp_H) (x0 : Nat) (x1 : Int32), k9 h x0 x1 = some (h', r) → ∀ (H : Heap) (locs : List Loc) (ls : Array Slot), dp_w D a B h s.heap H locs → lv_has ls 3 [(0, .ref (B + x0)), (1, .int x1)] → W p l e rm_X7_digest s m args below meth c H locs 0 0 (MQ below (dp_Q D a B (some (.long r)) h') args s rm_X7_digest.cells rm_X7_digest.slots (fun q => B ≤ q)) (F0 m 9 ls [])) {k19 : dp_H → Nat → Int32 → Int32 → Option (dp_H × Int64)} (hk19 : ∀ (h : dp_H) (x0 : Nat) (x1 : Int32) (x2 : Int32), k19 h x0 x1 x2 = some (h', r) → ∀ (H : Heap) (locs : List Loc) (ls : Array Slot), dp_w D a B h s.heap H locs → lv_has ls 3 [(0, .ref (B + x0)), (1, .int x1), (2, .int x2)] → W p l e rm_X7_digest s m args below meth c H locs 0 0 (MQ below (dp_Q D a B (some (.long r)) h') args s rm_X7_digest.cells rm_X7_digest.slots (fun q => B ≤ q)) (F0 m 19 ls [])) : ∀ (h : dp_H) (x0 : Nat) (x1 : Int32) (x2 : Int32), b_X7_digest_19 k9 k19 h x0 x1 x2 = some (h', r) → ∀ (H : Heap) (locs : List Loc) (ls : Array Slot), dp_w D a B h s.heap H locs → lv_has ls 3 [(0, .ref (B + x0)), (1, .int x1), (2, .int x2)] → W p l e rm_X7_digest s m args below meth c H locs 0 0 (MQ below (dp_Q D a B (some (.long r)) h') args s rm_X7_digest.cells rm_X7_digest.slots (fun q => B ≤ q)) (F0 m 19 ls []) := by
  intro h x0 x1 x2 hm H locs ls hw hl
  obtain ⟨hx, hb, hml, hown, hlk, hK, hB⟩ := id X
  unfold b_X7_digest_19 at hm
  refine lv_iload_n hx hb dX7_digest_19 rfl (lv_at hl 2 rfl) ?_
  refine lv_bipush (v := 6) hx hb dX7_digest_20 (by decide) ?_
  refine lv_icmp_ge (tgt := 42) hx hb dX7_digest_22 (by decide) (fun hc => ?_) (fun hc => ?_)
  · have hm := dp_ip hc hm
    refine lv_iconst (v := 0) hx hb dX7_digest_42 (by decide) ?_
    refine lv_istore_n (lv' := [(2, .int 0), (0, .ref (B + x0)), (1, .int x1)]) hx hb dX7_digest_43 rfl hl (by decide) rfl (fun ls hl => ?_)
    exact w_X7_digest_44 X hr hk9 64 h x0 x1 0 hm _ _ _ hw (lv_sub hl [1, 2, 0] rfl)
  · have hm := dp_in hc hm
    refine lv_aload_n hx hb dX7_digest_25 rfl (lv_at hl 0 rfl) ?_
    refine lv_aload_n hx hb dX7_digest_26 rfl (lv_at hl 0 rfl) ?_
    refine lv_iload_n hx hb dX7_digest_27 rfl (lv_at hl 1 rfl) ?_
    refine lv_iload_n hx hb dX7_digest_28 rfl (lv_at hl 2 rfl) ?_
    obtain ⟨v1, ev1, hm⟩ := dp_ob hm
    refine dp_cV (As := [.int x1, .int x2]) (rest := [.ref (B + x0)]) X hw (c_X7_patternNow l D a B h x0 x1 x2 ev1) vm_X7_patternNow ml_X7_127 (by decide) rfl rfl (ck_X7_patternNow ev1) rfl rfl hl.1 rfl (Nat.le_of_ble_eq_true rfl) dX7_digest_29 ⟨(Nat.zero_le _), (Nat.zero_le _)⟩ (fun H locs hw => ?_)
    refine lv_i2l (v := (Int32.toInt64 v1)) hx hb dX7_digest_32 rfl ?_
    obtain ⟨h2, eh2, hm⟩ := dp_ob hm
    refine dp_cVv (As := [.long (Int32.toInt64 v1)]) (rest := []) X hw (c_X7_mix l D a B h x0 (Int32.toInt64 v1) eh2) vm_X7_mix ml_X7_252 (by decide) rfl rfl (ck_X7_mix eh2) rfl rfl hl.1 rfl (Nat.le_of_ble_eq_true rfl) dX7_digest_33 ⟨(Nat.zero_le _), (Nat.zero_le _)⟩ (fun H locs hw => ?_)
    refine lv_iinc (v := (x2 + 1)) (lv' := [(2, .int (x2 + 1)), (0, .ref (B + x0)), (1, .int x1)]) hx hb dX7_digest_36 hl (k := 2) rfl rfl (by decide) rfl (fun ls hl => ?_)
    refine lv_goto (tgt := 19) hx hb dX7_digest_39 (by decide) ?_
    exact hk19 h2 x0 x1 (x2 + 1) hm _ _ _ hw (lv_sub hl [1, 2, 0] rfl)
set_option maxRecDepth 100000 in
set_option maxHeartbeats 4000000 in
theorem w_X7_digest_19 {p : Program} {l : Launch} {e : Env} {s : State} {m : MethodId} {args : Array Value} {below : List Frame} {meth : Method} {c : Code} {D : va_G} {a : dp_A} {B : Nat} (X : dp_X p s m meth c cX7_digest 3 RX7 D a B) (hr : meth.sig.returnType = (some .long)) {h' : dp_H} {r : Int64} {k9 : dp_H → Nat → Int32 → Option (dp_H × Int64)} (hk9 : ∀ (h : dp_H) (x0 : Nat) (x1 : Int32), k9 h x0 x1 = some (h', r) → ∀ (H : Heap) (locs : List Loc) (ls : Array Slot), dp_w D a B h s.heap H locs → lv_has ls 3 [(0, .ref (B + x0)), (1, .int x1)] → W p l e rm_X7_digest s m args below meth c H locs 0 0 (MQ below (dp_Q D a B (some (.long r)) h') args s rm_X7_digest.cells rm_X7_digest.slots (fun q => B ≤ q)) (F0 m 9 ls [])) : ∀ (n : Nat) (h : dp_H) (x0 : Nat) (x1 : Int32) (x2 : Int32), m_X7_digest_19 k9 n h x0 x1 x2 = some (h', r) → ∀ (H : Heap) (locs : List Loc) (ls : Array Slot), dp_w D a B h s.heap H locs → lv_has ls 3 [(0, .ref (B + x0)), (1, .int x1), (2, .int x2)] → W p l e rm_X7_digest s m args below meth c H locs 0 0 (MQ below (dp_Q D a B (some (.long r)) h') args s rm_X7_digest.cells rm_X7_digest.slots (fun q => B ≤ q)) (F0 m 19 ls []) := by
  intro n
  induction n with
  | zero => intro h x0 x1 x2 hm; cases hm
  | succ n ih => intro h x0 x1 x2 hm; exact v_X7_digest_19 X hr hk9 ih h x0 x1 x2 hm
set_option maxRecDepth 100000 in
set_option maxHeartbeats 4000000 in
theorem v_X7_digest_178 {p : Program} {l : Launch} {e : Env} {s : State} {m : MethodId} {args : Array Value} {below : List Frame} {meth : Method} {c : Code} {D : va_G} {a : dp_A} {B : Nat} (X : dp_X p s m meth c cX7_digest 3 RX7 D a B) (hr : meth.sig.returnType = (some .long)) {h' : dp_H} {r : Int64} {k178 : dp_H → Nat → Int32 → Option (dp_H × Int64)} (hk178 : ∀ (h : dp_H) (x0 : Nat) (x1 : Int32), k178 h x0 x1 = some (h', r) → ∀ (H : Heap) (locs : List Loc) (ls : Array Slot), dp_w D a B h s.heap H locs → lv_has ls 3 [(0, .ref (B + x0)), (1, .int x1)] → W p l e rm_X7_digest s m args below meth c H locs 0 0 (MQ below (dp_Q D a B (some (.long r)) h') args s rm_X7_digest.cells rm_X7_digest.slots (fun q => B ≤ q)) (F0 m 178 ls [])) : ∀ (h : dp_H) (x0 : Nat) (x1 : Int32), b_X7_digest_178 k178 h x0 x1 = some (h', r) → ∀ (H : Heap) (locs : List Loc) (ls : Array Slot), dp_w D a B h s.heap H locs → lv_has ls 3 [(0, .ref (B + x0)), (1, .int x1)] → W p l e rm_X7_digest s m args below meth c H locs 0 0 (MQ below (dp_Q D a B (some (.long r)) h') args s rm_X7_digest.cells rm_X7_digest.slots (fun q => B ≤ q)) (F0 m 178 ls []) := by
  intro h x0 x1 hm H locs ls hw hl
  obtain ⟨hx, hb, hml, hown, hlk, hK, hB⟩ := id X
  unfold b_X7_digest_178 at hm
  refine lv_iload_n hx hb dX7_digest_178 rfl (lv_at hl 1 rfl) ?_
  refine lv_bipush (v := 10) hx hb dX7_digest_179 (by decide) ?_
  refine lv_icmp_ge (tgt := 200) hx hb dX7_digest_181 (by decide) (fun hc => ?_) (fun hc => ?_)
  · have hm := dp_ip hc hm
    refine lv_aload_n hx hb dX7_digest_200 rfl (lv_at hl 0 rfl) ?_
    obtain ⟨v1, ev1, hm⟩ := dp_ob hm
    refine dp_getl X hw cl_X7 32 (by decide) fl_X7_246 ev1 dX7_digest_201 ?_
    cases hm
    exact dp_lret X hr hw dX7_digest_204
  · have hm := dp_in hc hm
    refine lv_aload_n hx hb dX7_digest_184 rfl (lv_at hl 0 rfl) ?_
    refine lv_aload_n hx hb dX7_digest_185 rfl (lv_at hl 0 rfl) ?_
    refine lv_iload_n hx hb dX7_digest_186 rfl (lv_at hl 1 rfl) ?_
    obtain ⟨v2, ev2, hm⟩ := dp_ob hm
    refine dp_cV (As := [.int x1]) (rest := [.ref (B + x0)]) X hw (c_X7_howMany l D a B h x0 x1 ev2) vm_X7_howMany ml_X7_241 (by decide) rfl rfl (ck_X7_howMany ev2) rfl rfl hl.1 rfl (Nat.le_of_ble_eq_true rfl) dX7_digest_187 ⟨(Nat.zero_le _), (Nat.zero_le _)⟩ (fun H locs hw => ?_)
    refine lv_i2l (v := (Int32.toInt64 v2)) hx hb dX7_digest_190 rfl ?_
    obtain ⟨h3, eh3, hm⟩ := dp_ob hm
    refine dp_cVv (As := [.long (Int32.toInt64 v2)]) (rest := []) X hw (c_X7_mix l D a B h x0 (Int32.toInt64 v2) eh3) vm_X7_mix ml_X7_252 (by decide) rfl rfl (ck_X7_mix eh3) rfl rfl hl.1 rfl (Nat.le_of_ble_eq_true rfl) dX7_digest_191 ⟨(Nat.zero_le _), (Nat.zero_le _)⟩ (fun H locs hw => ?_)
    refine lv_iinc (v := (x1 + 1)) (lv' := [(1, .int (x1 + 1)), (0, .ref (B + x0))]) hx hb dX7_digest_194 hl (k := 1) rfl rfl (by decide) rfl (fun ls hl => ?_)
    refine lv_goto (tgt := 178) hx hb dX7_digest_197 (by decide) ?_
    exact hk178 h3 x0 (x1 + 1) hm _ _ _ hw (lv_sub hl [1, 0] rfl)
set_option maxRecDepth 100000 in
set_option maxHeartbeats 4000000 in
theorem w_X7_digest_178 {p : Program} {l : Launch} {e : Env} {s : State} {m : MethodId} {args : Array Value} {below : List Frame} {meth : Method} {c : Code} {D : va_G} {a : dp_A} {B : Nat} (X : dp_X p s m meth c cX7_digest 3 RX7 D a B) (hr : meth.sig.returnType = (some .long)) {h' : dp_H} {r : Int64}  : ∀ (n : Nat) (h : dp_H) (x0 : Nat) (x1 : Int32), m_X7_digest_178  n h x0 x1 = some (h', r) → ∀ (H : Heap) (locs : List Loc) (ls : Array Slot), dp_w D a B h s.heap H locs → lv_has ls 3 [(0, .ref (B + x0)), (1, .int x1)] → W p l e rm_X7_digest s m args below meth c H locs 0 0 (MQ below (dp_Q D a B (some (.long r)) h') args s rm_X7_digest.cells rm_X7_digest.slots (fun q => B ≤ q)) (F0 m 178 ls []) := by
  intro n
  induction n with
  | zero => intro h x0 x1 hm; cases hm
  | succ n ih => intro h x0 x1 hm; exact v_X7_digest_178 X hr ih h x0 x1 hm
set_option maxRecDepth 100000 in
set_option maxHeartbeats 4000000 in
theorem v_X7_digest_151 {p : Program} {l : Launch} {e : Env} {s : State} {m : MethodId} {args : Array Value} {below : List Frame} {meth : Method} {c : Code} {D : va_G} {a : dp_A} {B : Nat} (X : dp_X p s m meth c cX7_digest 3 RX7 D a B) (hr : meth.sig.returnType = (some .long)) {h' : dp_H} {r : Int64} {k151 : dp_H → Nat → Int32 → Option (dp_H × Int64)} (hk151 : ∀ (h : dp_H) (x0 : Nat) (x1 : Int32), k151 h x0 x1 = some (h', r) → ∀ (H : Heap) (locs : List Loc) (ls : Array Slot), dp_w D a B h s.heap H locs → lv_has ls 3 [(0, .ref (B + x0)), (1, .int x1)] → W p l e rm_X7_digest s m args below meth c H locs 0 0 (MQ below (dp_Q D a B (some (.long r)) h') args s rm_X7_digest.cells rm_X7_digest.slots (fun q => B ≤ q)) (F0 m 151 ls [])) : ∀ (h : dp_H) (x0 : Nat) (x1 : Int32), b_X7_digest_151 k151 h x0 x1 = some (h', r) → ∀ (H : Heap) (locs : List Loc) (ls : Array Slot), dp_w D a B h s.heap H locs → lv_has ls 3 [(0, .ref (B + x0)), (1, .int x1)] → W p l e rm_X7_digest s m args below meth c H locs 0 0 (MQ below (dp_Q D a B (some (.long r)) h') args s rm_X7_digest.cells rm_X7_digest.slots (fun q => B ≤ q)) (F0 m 151 ls []) := by
  intro h x0 x1 hm H locs ls hw hl
  obtain ⟨hx, hb, hml, hown, hlk, hK, hB⟩ := id X
  unfold b_X7_digest_151 at hm
  refine lv_iload_n hx hb dX7_digest_151 rfl (lv_at hl 1 rfl) ?_
  refine lv_aload_n hx hb dX7_digest_152 rfl (lv_at hl 0 rfl) ?_
  obtain ⟨v1, ev1, hm⟩ := dp_ob hm
  refine dp_geti X hw cl_X7 0 (by decide) fl_X7_54 ev1 dX7_digest_153 ?_
  refine lv_icmp_ge (tgt := 176) hx hb dX7_digest_156 (by decide) (fun hc => ?_) (fun hc => ?_)
  · have hm := dp_ip hc hm
    refine lv_iconst (v := 0) hx hb dX7_digest_176 (by decide) ?_
    refine lv_istore_n (lv' := [(1, .int 0), (0, .ref (B + x0))]) hx hb dX7_digest_177 rfl hl (by decide) rfl (fun ls hl => ?_)
    exact w_X7_digest_178 X hr 64 h x0 0 hm _ _ _ hw (lv_sub hl [1, 0] rfl)
  · have hm := dp_in hc hm
    refine lv_aload_n hx hb dX7_digest_159 rfl (lv_at hl 0 rfl) ?_
    refine lv_aload_n hx hb dX7_digest_160 rfl (lv_at hl 0 rfl) ?_
    obtain ⟨v2, ev2, hm⟩ := dp_ob hm
    refine dp_getr X hw cl_X7 1 (by decide) fl_X7_7 ev2 dX7_digest_161 ?_
    refine lv_iload_n hx hb dX7_digest_164 rfl (lv_at hl 1 rfl) ?_
    obtain ⟨v3, ev3, hm⟩ := dp_ob hm
    refine dp_iald X hw ev3 dX7_digest_165 ?_
    refine lv_i2l (v := (Int32.toInt64 v3)) hx hb dX7_digest_166 rfl ?_
    obtain ⟨h4, eh4, hm⟩ := dp_ob hm
    refine dp_cVv (As := [.long (Int32.toInt64 v3)]) (rest := []) X hw (c_X7_mix l D a B h x0 (Int32.toInt64 v3) eh4) vm_X7_mix ml_X7_252 (by decide) rfl rfl (ck_X7_mix eh4) rfl rfl hl.1 rfl (Nat.le_of_ble_eq_true rfl) dX7_digest_167 ⟨(Nat.zero_le _), (Nat.zero_le _)⟩ (fun H locs hw => ?_)
    refine lv_iinc (v := (x1 + 1)) (lv' := [(1, .int (x1 + 1)), (0, .ref (B + x0))]) hx hb dX7_digest_170 hl (k := 1) rfl rfl (by decide) rfl (fun ls hl => ?_)
    refine lv_goto (tgt := 151) hx hb dX7_digest_173 (by decide) ?_
    exact hk151 h4 x0 (x1 + 1) hm _ _ _ hw (lv_sub hl [1, 0] rfl)
set_option maxRecDepth 100000 in
set_option maxHeartbeats 4000000 in
theorem w_X7_digest_151 {p : Program} {l : Launch} {e : Env} {s : State} {m : MethodId} {args : Array Value} {below : List Frame} {meth : Method} {c : Code} {D : va_G} {a : dp_A} {B : Nat} (X : dp_X p s m meth c cX7_digest 3 RX7 D a B) (hr : meth.sig.returnType = (some .long)) {h' : dp_H} {r : Int64}  : ∀ (n : Nat) (h : dp_H) (x0 : Nat) (x1 : Int32), m_X7_digest_151  n h x0 x1 = some (h', r) → ∀ (H : Heap) (locs : List Loc) (ls : Array Slot), dp_w D a B h s.heap H locs → lv_has ls 3 [(0, .ref (B + x0)), (1, .int x1)] → W p l e rm_X7_digest s m args below meth c H locs 0 0 (MQ below (dp_Q D a B (some (.long r)) h') args s rm_X7_digest.cells rm_X7_digest.slots (fun q => B ≤ q)) (F0 m 151 ls []) := by
  intro n
  induction n with
  | zero => intro h x0 x1 hm; cases hm
  | succ n ih => intro h x0 x1 hm; exact v_X7_digest_151 X hr ih h x0 x1 hm
set_option maxRecDepth 100000 in
set_option maxHeartbeats 4000000 in
theorem v_X7_digest_127 {p : Program} {l : Launch} {e : Env} {s : State} {m : MethodId} {args : Array Value} {below : List Frame} {meth : Method} {c : Code} {D : va_G} {a : dp_A} {B : Nat} (X : dp_X p s m meth c cX7_digest 3 RX7 D a B) (hr : meth.sig.returnType = (some .long)) {h' : dp_H} {r : Int64} {k127 : dp_H → Nat → Int32 → Option (dp_H × Int64)} (hk127 : ∀ (h : dp_H) (x0 : Nat) (x1 : Int32), k127 h x0 x1 = some (h', r) → ∀ (H : Heap) (locs : List Loc) (ls : Array Slot), dp_w D a B h s.heap H locs → lv_has ls 3 [(0, .ref (B + x0)), (1, .int x1)] → W p l e rm_X7_digest s m args below meth c H locs 0 0 (MQ below (dp_Q D a B (some (.long r)) h') args s rm_X7_digest.cells rm_X7_digest.slots (fun q => B ≤ q)) (F0 m 127 ls [])) : ∀ (h : dp_H) (x0 : Nat) (x1 : Int32), b_X7_digest_127 k127 h x0 x1 = some (h', r) → ∀ (H : Heap) (locs : List Loc) (ls : Array Slot), dp_w D a B h s.heap H locs → lv_has ls 3 [(0, .ref (B + x0)), (1, .int x1)] → W p l e rm_X7_digest s m args below meth c H locs 0 0 (MQ below (dp_Q D a B (some (.long r)) h') args s rm_X7_digest.cells rm_X7_digest.slots (fun q => B ≤ q)) (F0 m 127 ls []) := by
  intro h x0 x1 hm H locs ls hw hl
  obtain ⟨hx, hb, hml, hown, hlk, hK, hB⟩ := id X
  unfold b_X7_digest_127 at hm
  refine lv_iload_n hx hb dX7_digest_127 rfl (lv_at hl 1 rfl) ?_
  refine lv_bipush (v := 20) hx hb dX7_digest_128 (by decide) ?_
  refine lv_icmp_ge (tgt := 149) hx hb dX7_digest_130 (by decide) (fun hc => ?_) (fun hc => ?_)
  · have hm := dp_ip hc hm
    refine lv_iconst (v := 0) hx hb dX7_digest_149 (by decide) ?_
    refine lv_istore_n (lv' := [(1, .int 0), (0, .ref (B + x0))]) hx hb dX7_digest_150 rfl hl (by decide) rfl (fun ls hl => ?_)
    exact w_X7_digest_151 X hr 64 h x0 0 hm _ _ _ hw (lv_sub hl [1, 0] rfl)
  · have hm := dp_in hc hm
    refine lv_aload_n hx hb dX7_digest_133 rfl (lv_at hl 0 rfl) ?_
    refine lv_aload_n hx hb dX7_digest_134 rfl (lv_at hl 0 rfl) ?_
    refine lv_iload_n hx hb dX7_digest_135 rfl (lv_at hl 1 rfl) ?_
    obtain ⟨h1, v2, ev2, hm⟩ := dp_ob2 hm
    refine dp_cV (As := [.int x1]) (rest := [.ref (B + x0)]) X hw (c_X7_lineNow l D a B h x0 x1 ev2) vm_X7_lineNow ml_X7_235 (by decide) rfl rfl (ck_X7_lineNow ev2) rfl rfl hl.1 rfl (Nat.le_of_ble_eq_true rfl) dX7_digest_136 ⟨(Nat.zero_le _), (Nat.zero_le _)⟩ (fun H locs hw => ?_)
    refine lv_i2l (v := (Int32.toInt64 v2)) hx hb dX7_digest_139 rfl ?_
    obtain ⟨h3, eh3, hm⟩ := dp_ob hm
    refine dp_cVv (As := [.long (Int32.toInt64 v2)]) (rest := []) X hw (c_X7_mix l D a B h1 x0 (Int32.toInt64 v2) eh3) vm_X7_mix ml_X7_252 (by decide) rfl rfl (ck_X7_mix eh3) rfl rfl hl.1 rfl (Nat.le_of_ble_eq_true rfl) dX7_digest_140 ⟨(Nat.zero_le _), (Nat.zero_le _)⟩ (fun H locs hw => ?_)
    refine lv_iinc (v := (x1 + 1)) (lv' := [(1, .int (x1 + 1)), (0, .ref (B + x0))]) hx hb dX7_digest_143 hl (k := 1) rfl rfl (by decide) rfl (fun ls hl => ?_)
    refine lv_goto (tgt := 127) hx hb dX7_digest_146 (by decide) ?_
    exact hk127 h3 x0 (x1 + 1) hm _ _ _ hw (lv_sub hl [1, 0] rfl)
set_option maxRecDepth 100000 in
set_option maxHeartbeats 4000000 in
theorem w_X7_digest_127 {p : Program} {l : Launch} {e : Env} {s : State} {m : MethodId} {args : Array Value} {below : List Frame} {meth : Method} {c : Code} {D : va_G} {a : dp_A} {B : Nat} (X : dp_X p s m meth c cX7_digest 3 RX7 D a B) (hr : meth.sig.returnType = (some .long)) {h' : dp_H} {r : Int64}  : ∀ (n : Nat) (h : dp_H) (x0 : Nat) (x1 : Int32), m_X7_digest_127  n h x0 x1 = some (h', r) → ∀ (H : Heap) (locs : List Loc) (ls : Array Slot), dp_w D a B h s.heap H locs → lv_has ls 3 [(0, .ref (B + x0)), (1, .int x1)] → W p l e rm_X7_digest s m args below meth c H locs 0 0 (MQ below (dp_Q D a B (some (.long r)) h') args s rm_X7_digest.cells rm_X7_digest.slots (fun q => B ≤ q)) (F0 m 127 ls []) := by
  intro n
  induction n with
  | zero => intro h x0 x1 hm; cases hm
  | succ n ih => intro h x0 x1 hm; exact v_X7_digest_127 X hr ih h x0 x1 hm
set_option maxRecDepth 100000 in
set_option maxHeartbeats 4000000 in
theorem v_X7_digest_102 {p : Program} {l : Launch} {e : Env} {s : State} {m : MethodId} {args : Array Value} {below : List Frame} {meth : Method} {c : Code} {D : va_G} {a : dp_A} {B : Nat} (X : dp_X p s m meth c cX7_digest 3 RX7 D a B) (hr : meth.sig.returnType = (some .long)) {h' : dp_H} {r : Int64} {k102 : dp_H → Nat → Int32 → Option (dp_H × Int64)} (hk102 : ∀ (h : dp_H) (x0 : Nat) (x1 : Int32), k102 h x0 x1 = some (h', r) → ∀ (H : Heap) (locs : List Loc) (ls : Array Slot), dp_w D a B h s.heap H locs → lv_has ls 3 [(0, .ref (B + x0)), (1, .int x1)] → W p l e rm_X7_digest s m args below meth c H locs 0 0 (MQ below (dp_Q D a B (some (.long r)) h') args s rm_X7_digest.cells rm_X7_digest.slots (fun q => B ≤ q)) (F0 m 102 ls [])) : ∀ (h : dp_H) (x0 : Nat) (x1 : Int32), b_X7_digest_102 k102 h x0 x1 = some (h', r) → ∀ (H : Heap) (locs : List Loc) (ls : Array Slot), dp_w D a B h s.heap H locs → lv_has ls 3 [(0, .ref (B + x0)), (1, .int x1)] → W p l e rm_X7_digest s m args below meth c H locs 0 0 (MQ below (dp_Q D a B (some (.long r)) h') args s rm_X7_digest.cells rm_X7_digest.slots (fun q => B ≤ q)) (F0 m 102 ls []) := by
  intro h x0 x1 hm H locs ls hw hl
  obtain ⟨hx, hb, hml, hown, hlk, hK, hB⟩ := id X
  unfold b_X7_digest_102 at hm
  refine lv_iload_n hx hb dX7_digest_102 rfl (lv_at hl 1 rfl) ?_
  refine lv_bipush (v := 8) hx hb dX7_digest_103 (by decide) ?_
  refine lv_icmp_ge (tgt := 124) hx hb dX7_digest_105 (by decide) (fun hc => ?_) (fun hc => ?_)
  · have hm := dp_ip hc hm
    refine lv_bipush (v := 10) hx hb dX7_digest_124 (by decide) ?_
    refine lv_istore_n (lv' := [(1, .int 10), (0, .ref (B + x0))]) hx hb dX7_digest_126 rfl hl (by decide) rfl (fun ls hl => ?_)
    exact w_X7_digest_127 X hr 64 h x0 10 hm _ _ _ hw (lv_sub hl [1, 0] rfl)
  · have hm := dp_in hc hm
    refine lv_aload_n hx hb dX7_digest_108 rfl (lv_at hl 0 rfl) ?_
    refine lv_aload_n hx hb dX7_digest_109 rfl (lv_at hl 0 rfl) ?_
    refine lv_iload_n hx hb dX7_digest_110 rfl (lv_at hl 1 rfl) ?_
    obtain ⟨h1, v2, ev2, hm⟩ := dp_ob2 hm
    refine dp_cV (As := [.int x1]) (rest := [.ref (B + x0)]) X hw (c_X7_lineNow l D a B h x0 x1 ev2) vm_X7_lineNow ml_X7_235 (by decide) rfl rfl (ck_X7_lineNow ev2) rfl rfl hl.1 rfl (Nat.le_of_ble_eq_true rfl) dX7_digest_111 ⟨(Nat.zero_le _), (Nat.zero_le _)⟩ (fun H locs hw => ?_)
    refine lv_i2l (v := (Int32.toInt64 v2)) hx hb dX7_digest_114 rfl ?_
    obtain ⟨h3, eh3, hm⟩ := dp_ob hm
    refine dp_cVv (As := [.long (Int32.toInt64 v2)]) (rest := []) X hw (c_X7_mix l D a B h1 x0 (Int32.toInt64 v2) eh3) vm_X7_mix ml_X7_252 (by decide) rfl rfl (ck_X7_mix eh3) rfl rfl hl.1 rfl (Nat.le_of_ble_eq_true rfl) dX7_digest_115 ⟨(Nat.zero_le _), (Nat.zero_le _)⟩ (fun H locs hw => ?_)
    refine lv_iinc (v := (x1 + 1)) (lv' := [(1, .int (x1 + 1)), (0, .ref (B + x0))]) hx hb dX7_digest_118 hl (k := 1) rfl rfl (by decide) rfl (fun ls hl => ?_)
    refine lv_goto (tgt := 102) hx hb dX7_digest_121 (by decide) ?_
    exact hk102 h3 x0 (x1 + 1) hm _ _ _ hw (lv_sub hl [1, 0] rfl)
set_option maxRecDepth 100000 in
set_option maxHeartbeats 4000000 in
theorem w_X7_digest_102 {p : Program} {l : Launch} {e : Env} {s : State} {m : MethodId} {args : Array Value} {below : List Frame} {meth : Method} {c : Code} {D : va_G} {a : dp_A} {B : Nat} (X : dp_X p s m meth c cX7_digest 3 RX7 D a B) (hr : meth.sig.returnType = (some .long)) {h' : dp_H} {r : Int64}  : ∀ (n : Nat) (h : dp_H) (x0 : Nat) (x1 : Int32), m_X7_digest_102  n h x0 x1 = some (h', r) → ∀ (H : Heap) (locs : List Loc) (ls : Array Slot), dp_w D a B h s.heap H locs → lv_has ls 3 [(0, .ref (B + x0)), (1, .int x1)] → W p l e rm_X7_digest s m args below meth c H locs 0 0 (MQ below (dp_Q D a B (some (.long r)) h') args s rm_X7_digest.cells rm_X7_digest.slots (fun q => B ≤ q)) (F0 m 102 ls []) := by
  intro n
  induction n with
  | zero => intro h x0 x1 hm; cases hm
  | succ n ih => intro h x0 x1 hm; exact v_X7_digest_102 X hr ih h x0 x1 hm
set_option maxRecDepth 100000 in
set_option maxHeartbeats 4000000 in
theorem v_X7_digest_75 {p : Program} {l : Launch} {e : Env} {s : State} {m : MethodId} {args : Array Value} {below : List Frame} {meth : Method} {c : Code} {D : va_G} {a : dp_A} {B : Nat} (X : dp_X p s m meth c cX7_digest 3 RX7 D a B) (hr : meth.sig.returnType = (some .long)) {h' : dp_H} {r : Int64} {k75 : dp_H → Nat → Int32 → Option (dp_H × Int64)} (hk75 : ∀ (h : dp_H) (x0 : Nat) (x1 : Int32), k75 h x0 x1 = some (h', r) → ∀ (H : Heap) (locs : List Loc) (ls : Array Slot), dp_w D a B h s.heap H locs → lv_has ls 3 [(0, .ref (B + x0)), (1, .int x1)] → W p l e rm_X7_digest s m args below meth c H locs 0 0 (MQ below (dp_Q D a B (some (.long r)) h') args s rm_X7_digest.cells rm_X7_digest.slots (fun q => B ≤ q)) (F0 m 75 ls [])) : ∀ (h : dp_H) (x0 : Nat) (x1 : Int32), b_X7_digest_75 k75 h x0 x1 = some (h', r) → ∀ (H : Heap) (locs : List Loc) (ls : Array Slot), dp_w D a B h s.heap H locs → lv_has ls 3 [(0, .ref (B + x0)), (1, .int x1)] → W p l e rm_X7_digest s m args below meth c H locs 0 0 (MQ below (dp_Q D a B (some (.long r)) h') args s rm_X7_digest.cells rm_X7_digest.slots (fun q => B ≤ q)) (F0 m 75 ls []) := by
  intro h x0 x1 hm H locs ls hw hl
  obtain ⟨hx, hb, hml, hown, hlk, hK, hB⟩ := id X
  unfold b_X7_digest_75 at hm
  refine lv_aload_n hx hb dX7_digest_75 rfl (lv_at hl 0 rfl) ?_
  refine lv_iload_n hx hb dX7_digest_76 rfl (lv_at hl 1 rfl) ?_
  obtain ⟨v1, ev1, hm⟩ := dp_ob hm
  refine dp_cV (As := [.int x1]) (rest := []) X hw (c_X7_clashAt l D a B h x0 x1 ev1) vm_X7_clashAt ml_X7_150 (by decide) rfl rfl (ck_X7_clashAt ev1) rfl rfl hl.1 rfl (Nat.le_of_ble_eq_true rfl) dX7_digest_77 ⟨(Nat.zero_le _), (Nat.zero_le _)⟩ (fun H locs hw => ?_)
  refine lv_iconst (v := (-1)) hx hb dX7_digest_80 (by decide) ?_
  refine lv_icmp_eq (tgt := 100) hx hb dX7_digest_81 (by decide) (fun hc => ?_) (fun hc => ?_)
  · have hm := dp_ip hc hm
    refine lv_iconst (v := 0) hx hb dX7_digest_100 (by decide) ?_
    refine lv_istore_n (lv' := [(1, .int 0), (0, .ref (B + x0))]) hx hb dX7_digest_101 rfl hl (by decide) rfl (fun ls hl => ?_)
    exact w_X7_digest_102 X hr 64 h x0 0 hm _ _ _ hw (lv_sub hl [1, 0] rfl)
  · have hm := dp_in hc hm
    refine lv_aload_n hx hb dX7_digest_84 rfl (lv_at hl 0 rfl) ?_
    refine lv_aload_n hx hb dX7_digest_85 rfl (lv_at hl 0 rfl) ?_
    refine lv_iload_n hx hb dX7_digest_86 rfl (lv_at hl 1 rfl) ?_
    obtain ⟨v2, ev2, hm⟩ := dp_ob hm
    refine dp_cV (As := [.int x1]) (rest := [.ref (B + x0)]) X hw (c_X7_clashAt l D a B h x0 x1 ev2) vm_X7_clashAt ml_X7_150 (by decide) rfl rfl (ck_X7_clashAt ev2) rfl rfl hl.1 rfl (Nat.le_of_ble_eq_true rfl) dX7_digest_87 ⟨(Nat.zero_le _), (Nat.zero_le _)⟩ (fun H locs hw => ?_)
    refine lv_i2l (v := (Int32.toInt64 v2)) hx hb dX7_digest_90 rfl ?_
    obtain ⟨h3, eh3, hm⟩ := dp_ob hm
    refine dp_cVv (As := [.long (Int32.toInt64 v2)]) (rest := []) X hw (c_X7_mix l D a B h x0 (Int32.toInt64 v2) eh3) vm_X7_mix ml_X7_252 (by decide) rfl rfl (ck_X7_mix eh3) rfl rfl hl.1 rfl (Nat.le_of_ble_eq_true rfl) dX7_digest_91 ⟨(Nat.zero_le _), (Nat.zero_le _)⟩ (fun H locs hw => ?_)
    refine lv_iinc (v := (x1 + 1)) (lv' := [(1, .int (x1 + 1)), (0, .ref (B + x0))]) hx hb dX7_digest_94 hl (k := 1) rfl rfl (by decide) rfl (fun ls hl => ?_)
    refine lv_goto (tgt := 75) hx hb dX7_digest_97 (by decide) ?_
    exact hk75 h3 x0 (x1 + 1) hm _ _ _ hw (lv_sub hl [1, 0] rfl)
set_option maxRecDepth 100000 in
set_option maxHeartbeats 4000000 in
theorem w_X7_digest_75 {p : Program} {l : Launch} {e : Env} {s : State} {m : MethodId} {args : Array Value} {below : List Frame} {meth : Method} {c : Code} {D : va_G} {a : dp_A} {B : Nat} (X : dp_X p s m meth c cX7_digest 3 RX7 D a B) (hr : meth.sig.returnType = (some .long)) {h' : dp_H} {r : Int64}  : ∀ (n : Nat) (h : dp_H) (x0 : Nat) (x1 : Int32), m_X7_digest_75  n h x0 x1 = some (h', r) → ∀ (H : Heap) (locs : List Loc) (ls : Array Slot), dp_w D a B h s.heap H locs → lv_has ls 3 [(0, .ref (B + x0)), (1, .int x1)] → W p l e rm_X7_digest s m args below meth c H locs 0 0 (MQ below (dp_Q D a B (some (.long r)) h') args s rm_X7_digest.cells rm_X7_digest.slots (fun q => B ≤ q)) (F0 m 75 ls []) := by
  intro n
  induction n with
  | zero => intro h x0 x1 hm; cases hm
  | succ n ih => intro h x0 x1 hm; exact v_X7_digest_75 X hr ih h x0 x1 hm
set_option maxRecDepth 100000 in
set_option maxHeartbeats 4000000 in
theorem v_X7_digest_9 {p : Program} {l : Launch} {e : Env} {s : State} {m : MethodId} {args : Array Value} {below : List Frame} {meth : Method} {c : Code} {D : va_G} {a : dp_A} {B : Nat} (X : dp_X p s m meth c cX7_digest 3 RX7 D a B) (hr : meth.sig.returnType = (some .long)) {h' : dp_H} {r : Int64} {k9 : dp_H → Nat → Int32 → Option (dp_H × Int64)} (hk9 : ∀ (h : dp_H) (x0 : Nat) (x1 : Int32), k9 h x0 x1 = some (h', r) → ∀ (H : Heap) (locs : List Loc) (ls : Array Slot), dp_w D a B h s.heap H locs → lv_has ls 3 [(0, .ref (B + x0)), (1, .int x1)] → W p l e rm_X7_digest s m args below meth c H locs 0 0 (MQ below (dp_Q D a B (some (.long r)) h') args s rm_X7_digest.cells rm_X7_digest.slots (fun q => B ≤ q)) (F0 m 9 ls [])) : ∀ (h : dp_H) (x0 : Nat) (x1 : Int32), b_X7_digest_9 k9 h x0 x1 = some (h', r) → ∀ (H : Heap) (locs : List Loc) (ls : Array Slot), dp_w D a B h s.heap H locs → lv_has ls 3 [(0, .ref (B + x0)), (1, .int x1)] → W p l e rm_X7_digest s m args below meth c H locs 0 0 (MQ below (dp_Q D a B (some (.long r)) h') args s rm_X7_digest.cells rm_X7_digest.slots (fun q => B ≤ q)) (F0 m 9 ls []) := by
  intro h x0 x1 hm H locs ls hw hl
  obtain ⟨hx, hb, hml, hown, hlk, hK, hB⟩ := id X
  unfold b_X7_digest_9 at hm
  refine lv_iload_n hx hb dX7_digest_9 rfl (lv_at hl 1 rfl) ?_
  refine lv_aload_n hx hb dX7_digest_10 rfl (lv_at hl 0 rfl) ?_
  obtain ⟨v1, ev1, hm⟩ := dp_ob hm
  refine dp_geti X hw cl_X7 2 (by decide) fl_X7_109 ev1 dX7_digest_11 ?_
  refine lv_icmp_ge (tgt := 73) hx hb dX7_digest_14 (by decide) (fun hc => ?_) (fun hc => ?_)
  · have hm := dp_ip hc hm
    refine lv_iconst (v := 0) hx hb dX7_digest_73 (by decide) ?_
    refine lv_istore_n (lv' := [(1, .int 0), (0, .ref (B + x0))]) hx hb dX7_digest_74 rfl hl (by decide) rfl (fun ls hl => ?_)
    exact w_X7_digest_75 X hr 64 h x0 0 hm _ _ _ hw (lv_sub hl [1, 0] rfl)
  · have hm := dp_in hc hm
    refine lv_iconst (v := 0) hx hb dX7_digest_17 (by decide) ?_
    refine lv_istore_n (lv' := [(2, .int 0), (0, .ref (B + x0)), (1, .int x1)]) hx hb dX7_digest_18 rfl hl (by decide) rfl (fun ls hl => ?_)
    exact w_X7_digest_19 X hr hk9 64 h x0 x1 0 hm _ _ _ hw (lv_sub hl [1, 2, 0] rfl)
set_option maxRecDepth 100000 in
set_option maxHeartbeats 4000000 in
theorem w_X7_digest_9 {p : Program} {l : Launch} {e : Env} {s : State} {m : MethodId} {args : Array Value} {below : List Frame} {meth : Method} {c : Code} {D : va_G} {a : dp_A} {B : Nat} (X : dp_X p s m meth c cX7_digest 3 RX7 D a B) (hr : meth.sig.returnType = (some .long)) {h' : dp_H} {r : Int64}  : ∀ (n : Nat) (h : dp_H) (x0 : Nat) (x1 : Int32), m_X7_digest_9  n h x0 x1 = some (h', r) → ∀ (H : Heap) (locs : List Loc) (ls : Array Slot), dp_w D a B h s.heap H locs → lv_has ls 3 [(0, .ref (B + x0)), (1, .int x1)] → W p l e rm_X7_digest s m args below meth c H locs 0 0 (MQ below (dp_Q D a B (some (.long r)) h') args s rm_X7_digest.cells rm_X7_digest.slots (fun q => B ≤ q)) (F0 m 9 ls []) := by
  intro n
  induction n with
  | zero => intro h x0 x1 hm; cases hm
  | succ n ih => intro h x0 x1 hm; exact v_X7_digest_9 X hr ih h x0 x1 hm
theorem ck_X7_digest {h : dp_H} {x0 : Nat} {h' : dp_H} {r : Int64} (hm : m_X7_digest h x0 = some (h', r)) : dp_is h x0 7 = true := (dp_ck_e hm).1
set_option maxRecDepth 100000 in
set_option maxHeartbeats 4000000 in
theorem c_X7_digest (l : Launch) (D : va_G) (a : dp_A) (B : Nat) (h : dp_H) (x0 : Nat) {h' : dp_H} {r : Int64} (hm : m_X7_digest h x0 = some (h', r)) : dp_M l D a B yX7_digest cX7_digest 3 (some .long) rm_X7_digest [.ref (B + x0)] h (some (.long r)) h' := by
  refine dp_M.of (own := RX7) (nm := "digest") (by decide) rfl rfl (Nat.le_of_ble_eq_true rfl) ?_
  intro p e s m below meth c ls X hr hin hw hl
  have hl : lv_has ls 3 [(0, .ref (B + x0))] := hl
  obtain ⟨hx, hb, hml, hown, hlk, hK, hB⟩ := id X
  unfold m_X7_digest at hm
  obtain ⟨hck, hm⟩ := dp_ck_e hm
  refine lv_aload_n hx hb dX7_digest_0 rfl (lv_at hl 0 rfl) ?_
  refine lv_ldc2 (v := 1669) hx hb hown (hK.word kl_X7_250 rfl) dX7_digest_1 ?_
  obtain ⟨h1, eh1, hm⟩ := dp_ob hm
  refine dp_putl X hw cl_X7 32 (by decide) fl_X7_246 rfl rfl eh1 dX7_digest_4 (fun H locs hw => ?_)
  refine lv_iconst (v := 0) hx hb dX7_digest_7 (by decide) ?_
  refine lv_istore_n (lv' := [(1, .int 0), (0, .ref (B + x0))]) hx hb dX7_digest_8 rfl hl (by decide) rfl (fun ls hl => ?_)
  exact w_X7_digest_9 X hr 64 h1 x0 0 hm _ _ _ hw (lv_sub hl [1, 0] rfl)
