theorem ck_X1_ahead {h : dp_H} {x0 : Nat} {r : Nat} (hm : m_X1_ahead h x0 = some r) : dp_is h x0 1 = true := (dp_ck_e hm).1
set_option maxRecDepth 100000 in
set_option maxHeartbeats 4000000 in
theorem c_X1_ahead (l : Launch) (D : va_G) (a : dp_A) (B : Nat) (h : dp_H) (x0 : Nat) {r : Nat} (hm : m_X1_ahead h x0 = some r) : dp_M l D a B yX1_ahead cX1_ahead 1 (some (.object "DialPlan$Row")) rm_X1_ahead [.ref (B + x0)] h (some (.ref (B + r))) h := by
  refine dp_M.of (own := RX1) (nm := "ahead") (by decide) rfl rfl (Nat.le_of_ble_eq_true rfl) ?_
  intro p e s m below meth c ls X hr hin hw hl
  have hl : lv_has ls 1 [(0, .ref (B + x0))] := hl
  obtain ⟨hx, hb, hml, hown, hlk, hK, hB⟩ := id X
  unfold m_X1_ahead at hm
  obtain ⟨hck, hm⟩ := dp_ck_e hm
  refine lv_aload_n hx hb dX1_ahead_0 rfl (lv_at hl 0 rfl) ?_
  obtain ⟨v1, ev1, hm⟩ := dp_ob hm
  refine dp_getr X hw cl_X1 2 (by decide) fl_X1_23 ev1 dX1_ahead_1 ?_
  cases hm
  exact dp_aret X hr (Or.inl ⟨_, rfl⟩) hw dX1_ahead_4
theorem ck_X1_digitsAt {h : dp_H} {x0 : Nat} {x1 : Int32} {r : Int32} (hm : m_X1_digitsAt h x0 x1 = some r) : dp_is h x0 1 = true := (dp_ck_e hm).1
set_option maxRecDepth 100000 in
set_option maxHeartbeats 4000000 in
theorem c_X1_digitsAt (l : Launch) (D : va_G) (a : dp_A) (B : Nat) (h : dp_H) (x0 : Nat) (x1 : Int32) {r : Int32} (hm : m_X1_digitsAt h x0 x1 = some r) : dp_M l D a B yX1_digitsAt cX1_digitsAt 2 (some .int) rm_X1_digitsAt [.ref (B + x0), .int x1] h (some (.int r)) h := by
  refine dp_M.of (own := RX1) (nm := "digitsAt") (by decide) rfl rfl (Nat.le_of_ble_eq_true rfl) ?_
  intro p e s m below meth c ls X hr hin hw hl
  have hl : lv_has ls 2 [(0, .ref (B + x0)), (1, .int x1)] := hl
  obtain ⟨hx, hb, hml, hown, hlk, hK, hB⟩ := id X
  unfold m_X1_digitsAt at hm
  obtain ⟨hck, hm⟩ := dp_ck_e hm
  refine lv_iload_n hx hb dX1_digitsAt_0 rfl (lv_at hl 1 rfl) ?_
  refine lv_if_lt (tgt := 22) hx hb dX1_digitsAt_1 (by decide) (fun hc => ?_) (fun hc => ?_)
  · have hm := dp_ip hc hm
    refine lv_iconst (v := 0) hx hb dX1_digitsAt_22 (by decide) ?_
    cases hm
    exact dp_iret X hr hw dX1_digitsAt_23
  · have hm := dp_in hc hm
    refine lv_iload_n hx hb dX1_digitsAt_4 rfl (lv_at hl 1 rfl) ?_
    refine lv_aload_n hx hb dX1_digitsAt_5 rfl (lv_at hl 0 rfl) ?_
    obtain ⟨v1, ev1, hm⟩ := dp_ob hm
    refine dp_getr X hw cl_X1 0 (by decide) fl_X1_9 ev1 dX1_digitsAt_6 ?_
    obtain ⟨v2, ev2, hm⟩ := dp_ob hm
    refine dp_alen X hw ev2 dX1_digitsAt_9 ?_
    refine lv_icmp_ge (tgt := 22) hx hb dX1_digitsAt_10 (by decide) (fun hc => ?_) (fun hc => ?_)
    · have hm := dp_ip hc hm
      refine lv_iconst (v := 0) hx hb dX1_digitsAt_22 (by decide) ?_
      cases hm
      exact dp_iret X hr hw dX1_digitsAt_23
    · have hm := dp_in hc hm
      refine lv_aload_n hx hb dX1_digitsAt_13 rfl (lv_at hl 0 rfl) ?_
      obtain ⟨v3, ev3, hm⟩ := dp_ob hm
      refine dp_getr X hw cl_X1 0 (by decide) fl_X1_9 ev3 dX1_digitsAt_14 ?_
      refine lv_iload_n hx hb dX1_digitsAt_17 rfl (lv_at hl 1 rfl) ?_
      obtain ⟨v4, ev4, hm⟩ := dp_ob hm
      refine dp_iald X hw ev4 dX1_digitsAt_18 ?_
      refine lv_goto (tgt := 23) hx hb dX1_digitsAt_19 (by decide) ?_
      cases hm
      exact dp_iret X hr hw dX1_digitsAt_23
set_option maxRecDepth 100000 in
set_option maxHeartbeats 4000000 in
theorem v_X1_setFrom_7 {p : Program} {l : Launch} {e : Env} {s : State} {m : MethodId} {args : Array Value} {below : List Frame} {meth : Method} {c : Code} {D : va_G} {a : dp_A} {B : Nat} (X : dp_X p s m meth c cX1_setFrom 5 RX1 D a B) (hr : meth.sig.returnType = none) {h' : dp_H} {k7 : dp_H → Nat → Int32 → Int32 → Int32 → Option dp_H} (hk7 : ∀ (h : dp_H) (x0 : Nat) (x2 : Int32) (x3 : Int32) (x4 : Int32), k7 h x0 x2 x3 x4 = some h' → ∀ (H : Heap) (locs : List Loc) (ls : Array Slot), dp_w D a B h s.heap H locs → lv_has ls 5 [(0, .ref (B + x0)), (2, .int x2), (3, .int x3), (4, .int x4)] → W p l e rm_X1_setFrom s m args below meth c H locs 0 0 (MQ below (dp_Q D a B none h') args s rm_X1_setFrom.cells rm_X1_setFrom.slots (fun q => B ≤ q)) (F0 m 7 ls [])) : ∀ (h : dp_H) (x0 : Nat) (x2 : Int32) (x3 : Int32) (x4 : Int32), b_X1_setFrom_7 k7 h x0 x2 x3 x4 = some h' → ∀ (H : Heap) (locs : List Loc) (ls : Array Slot), dp_w D a B h s.heap H locs → lv_has ls 5 [(0, .ref (B + x0)), (2, .int x2), (3, .int x3), (4, .int x4)] → W p l e rm_X1_setFrom s m args below meth c H locs 0 0 (MQ below (dp_Q D a B none h') args s rm_X1_setFrom.cells rm_X1_setFrom.slots (fun q => B ≤ q)) (F0 m 7 ls []) := by
  intro h x0 x2 x3 x4 hm H locs ls hw hl
  obtain ⟨hx, hb, hml, hown, hlk, hK, hB⟩ := id X
  unfold b_X1_setFrom_7 at hm
  refine lv_iload hx hb dX1_setFrom_7 (lv_at hl 3 rfl) ?_
  refine lv_aload_n hx hb dX1_setFrom_9 rfl (lv_at hl 0 rfl) ?_
  obtain ⟨v1, ev1, hm⟩ := dp_ob hm
  refine dp_getr X hw cl_X1 0 (by decide) fl_X1_9 ev1 dX1_setFrom_10 ?_
  obtain ⟨v2, ev2, hm⟩ := dp_ob hm
  refine dp_alen X hw ev2 dX1_setFrom_13 ?_
  refine lv_icmp_ge (tgt := 49) hx hb dX1_setFrom_14 (by decide) (fun hc => ?_) (fun hc => ?_)
  · have hm := dp_ip hc hm
    cases hm
    exact dp_vret X hr hw dX1_setFrom_49
  · have hm := dp_in hc hm
    refine lv_iload hx hb dX1_setFrom_17 (lv_at hl 3 rfl) ?_
    refine lv_aload_n hx hb dX1_setFrom_19 rfl (lv_at hl 0 rfl) ?_
    obtain ⟨v3, ev3, hm⟩ := dp_ob hm
    refine dp_getr X hw cl_X1 1 (by decide) fl_X1_15 ev3 dX1_setFrom_20 ?_
    obtain ⟨v4, ev4, hm⟩ := dp_ob hm
    refine dp_alen X hw ev4 dX1_setFrom_23 ?_
    refine lv_icmp_ge (tgt := 49) hx hb dX1_setFrom_24 (by decide) (fun hc => ?_) (fun hc => ?_)
    · have hm := dp_ip hc hm
      cases hm
      exact dp_vret X hr hw dX1_setFrom_49
    · have hm := dp_in hc hm
      refine lv_aload_n hx hb dX1_setFrom_27 rfl (lv_at hl 0 rfl) ?_
      obtain ⟨v5, ev5, hm⟩ := dp_ob hm
      refine dp_getr X hw cl_X1 0 (by decide) fl_X1_9 ev5 dX1_setFrom_28 ?_
      refine lv_iload hx hb dX1_setFrom_31 (lv_at hl 3 rfl) ?_
      refine lv_iload_n hx hb dX1_setFrom_33 rfl (lv_at hl 1 rfl) ?_
      obtain ⟨h6, eh6, hm⟩ := dp_ob hm
      refine dp_iast X hw eh6 dX1_setFrom_34 (fun H locs hw => ?_)
      refine lv_aload_n hx hb dX1_setFrom_35 rfl (lv_at hl 0 rfl) ?_
      obtain ⟨v7, ev7, hm⟩ := dp_ob hm
      refine dp_getr X hw cl_X1 1 (by decide) fl_X1_15 ev7 dX1_setFrom_36 ?_
      refine lv_iload hx hb dX1_setFrom_39 (lv_at hl 3 rfl) ?_
      refine lv_iload_n hx hb dX1_setFrom_41 rfl (lv_at hl 2 rfl) ?_
      obtain ⟨h8, eh8, hm⟩ := dp_ob hm
      refine dp_iast X hw eh8 dX1_setFrom_42 (fun H locs hw => ?_)
      refine lv_iinc (v := (x4 + 1)) (lv' := [(4, .int (x4 + 1)), (0, .ref (B + x0)), (2, .int x2), (3, .int x3)]) hx hb dX1_setFrom_43 hl (k := 3) rfl rfl (by decide) rfl (fun ls hl => ?_)
      refine lv_goto (tgt := 7) hx hb dX1_setFrom_46 (by decide) ?_
      exact hk7 h8 x0 x2 x3 (x4 + 1) hm _ _ _ hw (lv_sub hl [1, 2, 3, 0] rfl)
set_option maxRecDepth 100000 in
set_option maxHeartbeats 4000000 in
theorem w_X1_setFrom_7 {p : Program} {l : Launch} {e : Env} {s : State} {m : MethodId} {args : Array Value} {below : List Frame} {meth : Method} {c : Code} {D : va_G} {a : dp_A} {B : Nat} (X : dp_X p s m meth c cX1_setFrom 5 RX1 D a B) (hr : meth.sig.returnType = none) {h' : dp_H}  : ∀ (n : Nat) (h : dp_H) (x0 : Nat) (x2 : Int32) (x3 : Int32) (x4 : Int32), m_X1_setFrom_7  n h x0 x2 x3 x4 = some h' → ∀ (H : Heap) (locs : List Loc) (ls : Array Slot), dp_w D a B h s.heap H locs → lv_has ls 5 [(0, .ref (B + x0)), (2, .int x2), (3, .int x3), (4, .int x4)] → W p l e rm_X1_setFrom s m args below meth c H locs 0 0 (MQ below (dp_Q D a B none h') args s rm_X1_setFrom.cells rm_X1_setFrom.slots (fun q => B ≤ q)) (F0 m 7 ls []) := by
  intro n
  induction n with
  | zero => intro h x0 x2 x3 x4 hm; cases hm
  | succ n ih => intro h x0 x2 x3 x4 hm; exact v_X1_setFrom_7 X hr ih h x0 x2 x3 x4 hm
theorem ck_X1_setFrom {h : dp_H} {x0 : Nat} {x1 : Int32} {x2 : Int32} {x3 : Int32} {h' : dp_H} (hm : m_X1_setFrom h x0 x1 x2 x3 = some h') : dp_is h x0 1 = true := (dp_ck_e hm).1
set_option maxRecDepth 100000 in
set_option maxHeartbeats 4000000 in
theorem c_X1_setFrom (l : Launch) (D : va_G) (a : dp_A) (B : Nat) (h : dp_H) (x0 : Nat) (x1 : Int32) (x2 : Int32) (x3 : Int32) {h' : dp_H} (hm : m_X1_setFrom h x0 x1 x2 x3 = some h') : dp_M l D a B yX1_setFrom cX1_setFrom 5 none rm_X1_setFrom [.ref (B + x0), .int x1, .int x2, .int x3] h none h' := by
  refine dp_M.of (own := RX1) (nm := "setFrom") (by decide) rfl rfl (Nat.le_of_ble_eq_true rfl) ?_
  intro p e s m below meth c ls X hr hin hw hl
  have hl : lv_has ls 5 [(0, .ref (B + x0)), (1, .int x1), (2, .int x2), (3, .int x3)] := hl
  obtain ⟨hx, hb, hml, hown, hlk, hK, hB⟩ := id X
  unfold m_X1_setFrom at hm
  obtain ⟨hck, hm⟩ := dp_ck_e hm
  refine lv_iload_n hx hb dX1_setFrom_0 rfl (lv_at hl 1 rfl) ?_
  refine lv_iconst (v := 0) hx hb dX1_setFrom_1 (by decide) ?_
  refine va_mmax hx hb (hml.trans hl.1.symm) hown (hK.word ml_X1_48 rfl) (hK.word max_stat rfl) (hK.word max_ini rfl) (hK.word max_code rfl) (Nat.le_of_ble_eq_true rfl) (Nat.le_of_ble_eq_true rfl) (Nat.zero_le _) (Nat.zero_le _) dX1_setFrom_2 ?_
  refine lv_istore (lv' := [(4, .int (if x1 < 0 then 0 else x1)), (0, .ref (B + x0)), (1, .int x1), (2, .int x2), (3, .int x3)]) hx hb dX1_setFrom_5 hl (by decide) rfl (fun ls hl => ?_)
  exact w_X1_setFrom_7 X hr 64 h x0 x2 x3 (if x1 < 0 then 0 else x1) hm _ _ _ hw (lv_sub hl [1, 3, 4, 0] rfl)
theorem ck_X1_clear {h : dp_H} {x0 : Nat} {h' : dp_H} (hm : m_X1_clear h x0 = some h') : dp_is h x0 1 = true := (dp_ck_e hm).1
set_option maxRecDepth 100000 in
set_option maxHeartbeats 4000000 in
theorem c_X1_clear (l : Launch) (D : va_G) (a : dp_A) (B : Nat) (h : dp_H) (x0 : Nat) {h' : dp_H} (hm : m_X1_clear h x0 = some h') : dp_M l D a B yX1_clear cX1_clear 1 none rm_X1_clear [.ref (B + x0)] h none h' := by
  refine dp_M.of (own := RX1) (nm := "clear") (by decide) rfl rfl (Nat.le_of_ble_eq_true rfl) ?_
  intro p e s m below meth c ls X hr hin hw hl
  have hl : lv_has ls 1 [(0, .ref (B + x0))] := hl
  obtain ⟨hx, hb, hml, hown, hlk, hK, hB⟩ := id X
  unfold m_X1_clear at hm
  obtain ⟨hck, hm⟩ := dp_ck_e hm
  refine lv_aload_n hx hb dX1_clear_0 rfl (lv_at hl 0 rfl) ?_
  refine lv_iconst (v := 0) hx hb dX1_clear_1 (by decide) ?_
  refine lv_iconst (v := 0) hx hb dX1_clear_2 (by decide) ?_
  refine lv_iconst (v := 0) hx hb dX1_clear_3 (by decide) ?_
  obtain ⟨h1, eh1, hm⟩ := dp_ob hm
  refine dp_cVv (As := [.int 0, .int 0, .int 0]) (rest := []) X hw (c_X1_setFrom l D a B h x0 0 0 0 eh1) vm_X1_setFrom ml_X1_41 (by decide) rfl rfl (ck_X1_setFrom eh1) rfl rfl hl.1 rfl (Nat.le_of_ble_eq_true rfl) dX1_clear_4 ⟨(Nat.zero_le _), (Nat.zero_le _)⟩ (fun H locs hw => ?_)
  refine lv_aload_n hx hb dX1_clear_7 rfl (lv_at hl 0 rfl) ?_
  obtain ⟨v2, ev2, hm⟩ := dp_ob hm
  refine dp_getr X hw cl_X1 2 (by decide) fl_X1_23 ev2 dX1_clear_8 ?_
  obtain ⟨h3, eh3, hm⟩ := dp_ob hm
  refine dp_cVv (As := []) (rest := []) X hw (c_X5_clear l D a B h1 v2 eh3) vm_X5_clear ml_X1_45 (by decide) rfl rfl (ck_X5_clear eh3) rfl rfl hl.1 rfl (Nat.le_of_ble_eq_true rfl) dX1_clear_11 ⟨(Nat.zero_le _), (Nat.zero_le _)⟩ (fun H locs hw => ?_)
  refine lv_aload_n hx hb dX1_clear_14 rfl (lv_at hl 0 rfl) ?_
  refine lv_iconst (v := 0) hx hb dX1_clear_15 (by decide) ?_
  obtain ⟨h4, eh4, hm⟩ := dp_ob hm
  refine dp_puti X hw cl_X1 3 (by decide) fl_X1_27 rfl rfl eh4 dX1_clear_16 (fun H locs hw => ?_)
  refine lv_aload_n hx hb dX1_clear_19 rfl (lv_at hl 0 rfl) ?_
  refine lv_iconst (v := 0) hx hb dX1_clear_20 (by decide) ?_
  obtain ⟨h5, eh5, hm⟩ := dp_ob hm
  refine dp_putz X hw cl_X1 4 (by decide) fl_X1_31 rfl rfl (by decide) eh5 dX1_clear_21 (fun H locs hw => ?_)
  refine lv_aload_n hx hb dX1_clear_24 rfl (lv_at hl 0 rfl) ?_
  refine lv_iconst (v := 0) hx hb dX1_clear_25 (by decide) ?_
  obtain ⟨h6, eh6, hm⟩ := dp_ob hm
  refine dp_puti X hw cl_X1 5 (by decide) fl_X1_35 rfl rfl eh6 dX1_clear_26 (fun H locs hw => ?_)
  refine lv_aload_n hx hb dX1_clear_29 rfl (lv_at hl 0 rfl) ?_
  refine lv_iconst (v := 0) hx hb dX1_clear_30 (by decide) ?_
  obtain ⟨h7, eh7, hm⟩ := dp_ob hm
  refine dp_puti X hw cl_X1 6 (by decide) fl_X1_38 rfl rfl eh7 dX1_clear_31 (fun H locs hw => ?_)
  cases hm
  exact dp_vret X hr hw dX1_clear_34
theorem ck_X1_hasRoom {h : dp_H} {x0 : Nat} {r : Int32} (hm : m_X1_hasRoom h x0 = some r) : dp_is h x0 1 = true := (dp_ck_e hm).1
set_option maxRecDepth 100000 in
set_option maxHeartbeats 4000000 in
theorem c_X1_hasRoom (l : Launch) (D : va_G) (a : dp_A) (B : Nat) (h : dp_H) (x0 : Nat) {r : Int32} (hm : m_X1_hasRoom h x0 = some r) : dp_M l D a B yX1_hasRoom cX1_hasRoom 1 (some .boolean) rm_X1_hasRoom [.ref (B + x0)] h (some (.int r)) h := by
  refine dp_M.of (own := RX1) (nm := "hasRoom") (by decide) rfl rfl (Nat.le_of_ble_eq_true rfl) ?_
  intro p e s m below meth c ls X hr hin hw hl
  have hl : lv_has ls 1 [(0, .ref (B + x0))] := hl
  obtain ⟨hx, hb, hml, hown, hlk, hK, hB⟩ := id X
  unfold m_X1_hasRoom at hm
  obtain ⟨hck, hm⟩ := dp_ck_e hm
  refine lv_aload_n hx hb dX1_hasRoom_0 rfl (lv_at hl 0 rfl) ?_
  obtain ⟨v1, ev1, hm⟩ := dp_ob hm
  refine dp_geti X hw cl_X1 3 (by decide) fl_X1_27 ev1 dX1_hasRoom_1 ?_
  refine lv_if_lt (tgt := 20) hx hb dX1_hasRoom_4 (by decide) (fun hc => ?_) (fun hc => ?_)
  · have hm := dp_ip hc hm
    refine lv_iconst (v := 0) hx hb dX1_hasRoom_20 (by decide) ?_
    cases hm
    exact dp_zret X hr hw (by decide) dX1_hasRoom_21
  · have hm := dp_in hc hm
    refine lv_aload_n hx hb dX1_hasRoom_7 rfl (lv_at hl 0 rfl) ?_
    obtain ⟨v2, ev2, hm⟩ := dp_ob hm
    refine dp_geti X hw cl_X1 3 (by decide) fl_X1_27 ev2 dX1_hasRoom_8 ?_
    refine lv_bipush (v := 8) hx hb dX1_hasRoom_11 (by decide) ?_
    refine lv_icmp_ge (tgt := 20) hx hb dX1_hasRoom_13 (by decide) (fun hc => ?_) (fun hc => ?_)
    · have hm := dp_ip hc hm
      refine lv_iconst (v := 0) hx hb dX1_hasRoom_20 (by decide) ?_
      cases hm
      exact dp_zret X hr hw (by decide) dX1_hasRoom_21
    · have hm := dp_in hc hm
      refine lv_iconst (v := 1) hx hb dX1_hasRoom_16 (by decide) ?_
      refine lv_goto (tgt := 21) hx hb dX1_hasRoom_17 (by decide) ?_
      cases hm
      exact dp_zret X hr hw (by decide) dX1_hasRoom_21
set_option maxRecDepth 100000 in
set_option maxHeartbeats 4000000 in
theorem v_X1_appendPlace_76 {p : Program} {l : Launch} {e : Env} {s : State} {m : MethodId} {args : Array Value} {below : List Frame} {meth : Method} {c : Code} {D : va_G} {a : dp_A} {B : Nat} (X : dp_X p s m meth c cX1_appendPlace 5 RX1 D a B) (hr : meth.sig.returnType = none) {h' : dp_H}  : ∀ (h : dp_H) (x0 : Nat) (x3 : Int32), b_X1_appendPlace_76  h x0 x3 = some h' → ∀ (H : Heap) (locs : List Loc) (ls : Array Slot), dp_w D a B h s.heap H locs → lv_has ls 5 [(0, .ref (B + x0)), (3, .int x3)] → W p l e rm_X1_appendPlace s m args below meth c H locs 0 0 (MQ below (dp_Q D a B none h') args s rm_X1_appendPlace.cells rm_X1_appendPlace.slots (fun q => B ≤ q)) (F0 m 76 ls []) := by
  intro h x0 x3 hm H locs ls hw hl
  obtain ⟨hx, hb, hml, hown, hlk, hK, hB⟩ := id X
  unfold b_X1_appendPlace_76 at hm
  refine lv_aload_n hx hb dX1_appendPlace_76 rfl (lv_at hl 0 rfl) ?_
  obtain ⟨v1, ev1, hm⟩ := dp_ob hm
  refine dp_getr X hw cl_X1 0 (by decide) fl_X1_9 ev1 dX1_appendPlace_77 ?_
  refine lv_aload_n hx hb dX1_appendPlace_80 rfl (lv_at hl 0 rfl) ?_
  obtain ⟨v2, ev2, hm⟩ := dp_ob hm
  refine dp_geti X hw cl_X1 3 (by decide) fl_X1_27 ev2 dX1_appendPlace_81 ?_
  refine lv_iload_n hx hb dX1_appendPlace_84 rfl (lv_at hl 1 rfl) ?_
  obtain ⟨h3, eh3, hm⟩ := dp_ob hm
  refine dp_iast X hw eh3 dX1_appendPlace_85 (fun H locs hw => ?_)
  refine lv_aload_n hx hb dX1_appendPlace_86 rfl (lv_at hl 0 rfl) ?_
  obtain ⟨v4, ev4, hm⟩ := dp_ob hm
  refine dp_getr X hw cl_X1 1 (by decide) fl_X1_15 ev4 dX1_appendPlace_87 ?_
  refine lv_aload_n hx hb dX1_appendPlace_90 rfl (lv_at hl 0 rfl) ?_
  obtain ⟨v5, ev5, hm⟩ := dp_ob hm
  refine dp_geti X hw cl_X1 3 (by decide) fl_X1_27 ev5 dX1_appendPlace_91 ?_
  refine lv_iload_n hx hb dX1_appendPlace_94 rfl (lv_at hl 1 rfl) ?_
  obtain ⟨v6, ev6, hm⟩ := dp_ob hm
  refine dp_cS (As := [.int x3]) (rest := [.int v5, .ref (B + v4)]) X hw (c_J6_bitCount_0f7a4 l D a B h3 x3 ev6) sm_J6_bitCount_0f7a4 st_J6_bitCount_0f7a4 ml_X1_54 (by decide) rfl rfl rfl hl.1 rfl (Nat.le_of_ble_eq_true rfl) dX1_appendPlace_95 ⟨(Nat.zero_le _), (Nat.zero_le _)⟩ (fun H locs hw => ?_)
  obtain ⟨h7, eh7, hm⟩ := dp_ob hm
  refine dp_iast X hw eh7 dX1_appendPlace_98 (fun H locs hw => ?_)
  refine lv_aload_n hx hb dX1_appendPlace_99 rfl (lv_at hl 0 rfl) ?_
  refine lv_dup hx hb dX1_appendPlace_100 rfl ?_
  obtain ⟨v8, ev8, hm⟩ := dp_ob hm
  refine dp_geti X hw cl_X1 3 (by decide) fl_X1_27 ev8 dX1_appendPlace_101 ?_
  refine lv_iconst (v := 1) hx hb dX1_appendPlace_104 (by decide) ?_
  refine lv_iadd hx hb dX1_appendPlace_105 ?_
  obtain ⟨h9, eh9, hm⟩ := dp_ob hm
  refine dp_puti X hw cl_X1 3 (by decide) fl_X1_27 rfl rfl eh9 dX1_appendPlace_106 (fun H locs hw => ?_)
  cases hm
  exact dp_vret X hr hw dX1_appendPlace_109
set_option maxRecDepth 100000 in
set_option maxHeartbeats 4000000 in
theorem v_X1_appendPlace_50 {p : Program} {l : Launch} {e : Env} {s : State} {m : MethodId} {args : Array Value} {below : List Frame} {meth : Method} {c : Code} {D : va_G} {a : dp_A} {B : Nat} (X : dp_X p s m meth c cX1_appendPlace 5 RX1 D a B) (hr : meth.sig.returnType = none) {h' : dp_H} {k50 : dp_H → Nat → Int32 → Int32 → Int32 → Option dp_H} (hk50 : ∀ (h : dp_H) (x0 : Nat) (x2 : Int32) (x3 : Int32) (x4 : Int32), k50 h x0 x2 x3 x4 = some h' → ∀ (H : Heap) (locs : List Loc) (ls : Array Slot), dp_w D a B h s.heap H locs → lv_has ls 5 [(0, .ref (B + x0)), (2, .int x2), (3, .int x3), (4, .int x4)] → W p l e rm_X1_appendPlace s m args below meth c H locs 0 0 (MQ below (dp_Q D a B none h') args s rm_X1_appendPlace.cells rm_X1_appendPlace.slots (fun q => B ≤ q)) (F0 m 50 ls [])) : ∀ (h : dp_H) (x0 : Nat) (x2 : Int32) (x3 : Int32) (x4 : Int32), b_X1_appendPlace_50 k50 h x0 x2 x3 x4 = some h' → ∀ (H : Heap) (locs : List Loc) (ls : Array Slot), dp_w D a B h s.heap H locs → lv_has ls 5 [(0, .ref (B + x0)), (2, .int x2), (3, .int x3), (4, .int x4)] → W p l e rm_X1_appendPlace s m args below meth c H locs 0 0 (MQ below (dp_Q D a B none h') args s rm_X1_appendPlace.cells rm_X1_appendPlace.slots (fun q => B ≤ q)) (F0 m 50 ls []) := by
  intro h x0 x2 x3 x4 hm H locs ls hw hl
  obtain ⟨hx, hb, hml, hown, hlk, hK, hB⟩ := id X
  unfold b_X1_appendPlace_50 at hm
  refine lv_iload hx hb dX1_appendPlace_50 (lv_at hl 3 rfl) ?_
  refine lv_iload_n hx hb dX1_appendPlace_52 rfl (lv_at hl 1 rfl) ?_
  refine lv_icmp_gt (tgt := 76) hx hb dX1_appendPlace_53 (by decide) (fun hc => ?_) (fun hc => ?_)
  · have hm := dp_ip hc hm
    exact v_X1_appendPlace_76 X hr h x0 x3 hm _ _ _ hw (lv_sub hl [0, 2] rfl)
  · have hm := dp_in hc hm
    refine lv_iload hx hb dX1_appendPlace_56 (lv_at hl 3 rfl) ?_
    refine lv_bipush (v := 9) hx hb dX1_appendPlace_58 (by decide) ?_
    refine lv_icmp_gt (tgt := 76) hx hb dX1_appendPlace_60 (by decide) (fun hc => ?_) (fun hc => ?_)
    · have hm := dp_ip hc hm
      exact v_X1_appendPlace_76 X hr h x0 x3 hm _ _ _ hw (lv_sub hl [0, 2] rfl)
    · have hm := dp_in hc hm
      refine lv_iload_n hx hb dX1_appendPlace_63 rfl (lv_at hl 2 rfl) ?_
      refine lv_iconst (v := 1) hx hb dX1_appendPlace_64 (by decide) ?_
      refine lv_iload hx hb dX1_appendPlace_65 (lv_at hl 3 rfl) ?_
      refine lv_ishl hx hb dX1_appendPlace_67 ?_
      refine lv_ior hx hb dX1_appendPlace_68 ?_
      refine lv_istore_n (lv' := [(3, .int (x3 ||| (1 <<< (x4 &&& 31)))), (0, .ref (B + x0)), (2, .int x2), (4, .int x4)]) hx hb dX1_appendPlace_69 rfl hl (by decide) rfl (fun ls hl => ?_)
      refine lv_iinc (v := (x4 + 1)) (lv' := [(4, .int (x4 + 1)), (3, .int (x3 ||| (1 <<< (x4 &&& 31)))), (0, .ref (B + x0)), (2, .int x2)]) hx hb dX1_appendPlace_70 hl (k := 3) rfl rfl (by decide) rfl (fun ls hl => ?_)
      refine lv_goto (tgt := 50) hx hb dX1_appendPlace_73 (by decide) ?_
      exact hk50 h x0 x2 (x3 ||| (1 <<< (x4 &&& 31))) (x4 + 1) hm _ _ _ hw (lv_sub hl [2, 3, 1, 0] rfl)
set_option maxRecDepth 100000 in
set_option maxHeartbeats 4000000 in
theorem w_X1_appendPlace_50 {p : Program} {l : Launch} {e : Env} {s : State} {m : MethodId} {args : Array Value} {below : List Frame} {meth : Method} {c : Code} {D : va_G} {a : dp_A} {B : Nat} (X : dp_X p s m meth c cX1_appendPlace 5 RX1 D a B) (hr : meth.sig.returnType = none) {h' : dp_H}  : ∀ (n : Nat) (h : dp_H) (x0 : Nat) (x2 : Int32) (x3 : Int32) (x4 : Int32), m_X1_appendPlace_50  n h x0 x2 x3 x4 = some h' → ∀ (H : Heap) (locs : List Loc) (ls : Array Slot), dp_w D a B h s.heap H locs → lv_has ls 5 [(0, .ref (B + x0)), (2, .int x2), (3, .int x3), (4, .int x4)] → W p l e rm_X1_appendPlace s m args below meth c H locs 0 0 (MQ below (dp_Q D a B none h') args s rm_X1_appendPlace.cells rm_X1_appendPlace.slots (fun q => B ≤ q)) (F0 m 50 ls []) := by
  intro n
  induction n with
  | zero => intro h x0 x2 x3 x4 hm; cases hm
  | succ n ih => intro h x0 x2 x3 x4 hm; exact v_X1_appendPlace_50 X hr ih h x0 x2 x3 x4 hm
theorem ck_X1_appendPlace {h : dp_H} {x0 : Nat} {x1 : Int32} {x2 : Int32} {h' : dp_H} (hm : m_X1_appendPlace h x0 x1 x2 = some h') : dp_is h x0 1 = true := (dp_ck_e hm).1
set_option maxRecDepth 100000 in
set_option maxHeartbeats 4000000 in
theorem c_X1_appendPlace (l : Launch) (D : va_G) (a : dp_A) (B : Nat) (h : dp_H) (x0 : Nat) (x1 : Int32) (x2 : Int32) {h' : dp_H} (hm : m_X1_appendPlace h x0 x1 x2 = some h') : dp_M l D a B yX1_appendPlace cX1_appendPlace 5 none rm_X1_appendPlace [.ref (B + x0), .int x1, .int x2] h none h' := by
  refine dp_M.of (own := RX1) (nm := "appendPlace") (by decide) rfl rfl (Nat.le_of_ble_eq_true rfl) ?_
  intro p e s m below meth c ls X hr hin hw hl
  have hl : lv_has ls 5 [(0, .ref (B + x0)), (1, .int x1), (2, .int x2)] := hl
  obtain ⟨hx, hb, hml, hown, hlk, hK, hB⟩ := id X
  unfold m_X1_appendPlace at hm
  obtain ⟨hck, hm⟩ := dp_ck_e hm
  refine lv_aload_n hx hb dX1_appendPlace_0 rfl (lv_at hl 0 rfl) ?_
  obtain ⟨v1, ev1, hm⟩ := dp_ob hm
  refine dp_geti X hw cl_X1 3 (by decide) fl_X1_27 ev1 dX1_appendPlace_1 ?_
  refine lv_if_lt (tgt := 40) hx hb dX1_appendPlace_4 (by decide) (fun hc => ?_) (fun hc => ?_)
  · have hm := dp_ip hc hm
    cases hm
    exact dp_vret X hr hw dX1_appendPlace_40
  · have hm := dp_in hc hm
    refine lv_aload_n hx hb dX1_appendPlace_7 rfl (lv_at hl 0 rfl) ?_
    obtain ⟨v2, ev2, hm⟩ := dp_ob hm
    refine dp_geti X hw cl_X1 3 (by decide) fl_X1_27 ev2 dX1_appendPlace_8 ?_
    refine lv_bipush (v := 8) hx hb dX1_appendPlace_11 (by decide) ?_
    refine lv_icmp_ge (tgt := 40) hx hb dX1_appendPlace_13 (by decide) (fun hc => ?_) (fun hc => ?_)
    · have hm := dp_ip hc hm
      cases hm
      exact dp_vret X hr hw dX1_appendPlace_40
    · have hm := dp_in hc hm
      refine lv_aload_n hx hb dX1_appendPlace_16 rfl (lv_at hl 0 rfl) ?_
      obtain ⟨v3, ev3, hm⟩ := dp_ob hm
      refine dp_geti X hw cl_X1 3 (by decide) fl_X1_27 ev3 dX1_appendPlace_17 ?_
      refine lv_aload_n hx hb dX1_appendPlace_20 rfl (lv_at hl 0 rfl) ?_
      obtain ⟨v4, ev4, hm⟩ := dp_ob hm
      refine dp_getr X hw cl_X1 0 (by decide) fl_X1_9 ev4 dX1_appendPlace_21 ?_
      obtain ⟨v5, ev5, hm⟩ := dp_ob hm
      refine dp_alen X hw ev5 dX1_appendPlace_24 ?_
      refine lv_icmp_ge (tgt := 40) hx hb dX1_appendPlace_25 (by decide) (fun hc => ?_) (fun hc => ?_)
      · have hm := dp_ip hc hm
        cases hm
        exact dp_vret X hr hw dX1_appendPlace_40
      · have hm := dp_in hc hm
        refine lv_aload_n hx hb dX1_appendPlace_28 rfl (lv_at hl 0 rfl) ?_
        obtain ⟨v6, ev6, hm⟩ := dp_ob hm
        refine dp_geti X hw cl_X1 3 (by decide) fl_X1_27 ev6 dX1_appendPlace_29 ?_
        refine lv_aload_n hx hb dX1_appendPlace_32 rfl (lv_at hl 0 rfl) ?_
        obtain ⟨v7, ev7, hm⟩ := dp_ob hm
        refine dp_getr X hw cl_X1 1 (by decide) fl_X1_15 ev7 dX1_appendPlace_33 ?_
        obtain ⟨v8, ev8, hm⟩ := dp_ob hm
        refine dp_alen X hw ev8 dX1_appendPlace_36 ?_
        refine lv_icmp_lt (tgt := 41) hx hb dX1_appendPlace_37 (by decide) (fun hc => ?_) (fun hc => ?_)
        · have hm := dp_ip hc hm
          refine lv_iconst (v := 0) hx hb dX1_appendPlace_41 (by decide) ?_
          refine lv_istore_n (lv' := [(3, .int 0), (0, .ref (B + x0)), (1, .int x1), (2, .int x2)]) hx hb dX1_appendPlace_42 rfl hl (by decide) rfl (fun ls hl => ?_)
          refine lv_iload_n hx hb dX1_appendPlace_43 rfl (lv_at hl 2 rfl) ?_
          refine lv_iconst (v := 0) hx hb dX1_appendPlace_44 (by decide) ?_
          refine va_mmax hx hb (hml.trans hl.1.symm) hown (hK.word ml_X1_48 rfl) (hK.word max_stat rfl) (hK.word max_ini rfl) (hK.word max_code rfl) (Nat.le_of_ble_eq_true rfl) (Nat.le_of_ble_eq_true rfl) (Nat.zero_le _) (Nat.zero_le _) dX1_appendPlace_45 ?_
          refine lv_istore (lv' := [(4, .int (if x1 < 0 then 0 else x1)), (3, .int 0), (0, .ref (B + x0)), (1, .int x1), (2, .int x2)]) hx hb dX1_appendPlace_48 hl (by decide) rfl (fun ls hl => ?_)
          exact w_X1_appendPlace_50 X hr 64 h x0 x2 0 (if x1 < 0 then 0 else x1) hm _ _ _ hw (lv_sub hl [2, 4, 1, 0] rfl)
        · have hm := dp_in hc hm
          cases hm
          exact dp_vret X hr hw dX1_appendPlace_40
theorem ck_X1_makeOpen {h : dp_H} {x0 : Nat} {h' : dp_H} (hm : m_X1_makeOpen h x0 = some h') : dp_is h x0 1 = true := (dp_ck_e hm).1
set_option maxRecDepth 100000 in
set_option maxHeartbeats 4000000 in
theorem c_X1_makeOpen (l : Launch) (D : va_G) (a : dp_A) (B : Nat) (h : dp_H) (x0 : Nat) {h' : dp_H} (hm : m_X1_makeOpen h x0 = some h') : dp_M l D a B yX1_makeOpen cX1_makeOpen 1 none rm_X1_makeOpen [.ref (B + x0)] h none h' := by
  refine dp_M.of (own := RX1) (nm := "makeOpen") (by decide) rfl rfl (Nat.le_of_ble_eq_true rfl) ?_
  intro p e s m below meth c ls X hr hin hw hl
  have hl : lv_has ls 1 [(0, .ref (B + x0))] := hl
  obtain ⟨hx, hb, hml, hown, hlk, hK, hB⟩ := id X
  unfold m_X1_makeOpen at hm
  obtain ⟨hck, hm⟩ := dp_ck_e hm
  refine lv_aload_n hx hb dX1_makeOpen_0 rfl (lv_at hl 0 rfl) ?_
  refine lv_iconst (v := 1) hx hb dX1_makeOpen_1 (by decide) ?_
  obtain ⟨h1, eh1, hm⟩ := dp_ob hm
  refine dp_putz X hw cl_X1 4 (by decide) fl_X1_31 rfl rfl (by decide) eh1 dX1_makeOpen_2 (fun H locs hw => ?_)
  refine lv_aload_n hx hb dX1_makeOpen_5 rfl (lv_at hl 0 rfl) ?_
  refine lv_aload_n hx hb dX1_makeOpen_6 rfl (lv_at hl 0 rfl) ?_
  obtain ⟨v2, ev2, hm⟩ := dp_ob hm
  refine dp_geti X hw cl_X1 3 (by decide) fl_X1_27 ev2 dX1_makeOpen_7 ?_
  refine lv_sipush (v := 1023) hx hb dX1_makeOpen_10 (by decide) ?_
  refine lv_bipush (v := 11) hx hb dX1_makeOpen_13 (by decide) ?_
  obtain ⟨h3, eh3, hm⟩ := dp_ob hm
  refine dp_cVv (As := [.int v2, .int 1023, .int 11]) (rest := []) X hw (c_X1_setFrom l D a B h1 x0 v2 1023 11 eh3) vm_X1_setFrom ml_X1_41 (by decide) rfl rfl (ck_X1_setFrom eh3) rfl rfl hl.1 rfl (Nat.le_of_ble_eq_true rfl) dX1_makeOpen_15 ⟨(Nat.zero_le _), (Nat.zero_le _)⟩ (fun H locs hw => ?_)
  cases hm
  exact dp_vret X hr hw dX1_makeOpen_18
theorem ck_X1_setWay {h : dp_H} {x0 : Nat} {x1 : Int32} {h' : dp_H} (hm : m_X1_setWay h x0 x1 = some h') : dp_is h x0 1 = true := (dp_ck_e hm).1
set_option maxRecDepth 100000 in
set_option maxHeartbeats 4000000 in
theorem c_X1_setWay (l : Launch) (D : va_G) (a : dp_A) (B : Nat) (h : dp_H) (x0 : Nat) (x1 : Int32) {h' : dp_H} (hm : m_X1_setWay h x0 x1 = some h') : dp_M l D a B yX1_setWay cX1_setWay 2 none rm_X1_setWay [.ref (B + x0), .int x1] h none h' := by
  refine dp_M.of (own := RX1) (nm := "setWay") (by decide) rfl rfl (Nat.le_of_ble_eq_true rfl) ?_
  intro p e s m below meth c ls X hr hin hw hl
  have hl : lv_has ls 2 [(0, .ref (B + x0)), (1, .int x1)] := hl
  obtain ⟨hx, hb, hml, hown, hlk, hK, hB⟩ := id X
  unfold m_X1_setWay at hm
  obtain ⟨hck, hm⟩ := dp_ck_e hm
  refine lv_aload_n hx hb dX1_setWay_0 rfl (lv_at hl 0 rfl) ?_
  refine lv_iload_n hx hb dX1_setWay_1 rfl (lv_at hl 1 rfl) ?_
  obtain ⟨h1, eh1, hm⟩ := dp_ob hm
  refine dp_puti X hw cl_X1 5 (by decide) fl_X1_35 rfl rfl eh1 dX1_setWay_2 (fun H locs hw => ?_)
  cases hm
  exact dp_vret X hr hw dX1_setWay_5
theorem ck_X1_setDropped {h : dp_H} {x0 : Nat} {x1 : Int32} {h' : dp_H} (hm : m_X1_setDropped h x0 x1 = some h') : dp_is h x0 1 = true := (dp_ck_e hm).1
set_option maxRecDepth 100000 in
set_option maxHeartbeats 4000000 in
theorem c_X1_setDropped (l : Launch) (D : va_G) (a : dp_A) (B : Nat) (h : dp_H) (x0 : Nat) (x1 : Int32) {h' : dp_H} (hm : m_X1_setDropped h x0 x1 = some h') : dp_M l D a B yX1_setDropped cX1_setDropped 2 none rm_X1_setDropped [.ref (B + x0), .int x1] h none h' := by
  refine dp_M.of (own := RX1) (nm := "setDropped") (by decide) rfl rfl (Nat.le_of_ble_eq_true rfl) ?_
  intro p e s m below meth c ls X hr hin hw hl
  have hl : lv_has ls 2 [(0, .ref (B + x0)), (1, .int x1)] := hl
  obtain ⟨hx, hb, hml, hown, hlk, hK, hB⟩ := id X
  unfold m_X1_setDropped at hm
  obtain ⟨hck, hm⟩ := dp_ck_e hm
  refine lv_aload_n hx hb dX1_setDropped_0 rfl (lv_at hl 0 rfl) ?_
  refine lv_iload_n hx hb dX1_setDropped_1 rfl (lv_at hl 1 rfl) ?_
  obtain ⟨h1, eh1, hm⟩ := dp_ob hm
  refine dp_puti X hw cl_X1 6 (by decide) fl_X1_38 rfl rfl eh1 dX1_setDropped_2 (fun H locs hw => ?_)
  cases hm
  exact dp_vret X hr hw dX1_setDropped_5
set_option maxRecDepth 100000 in
set_option maxHeartbeats 4000000 in
theorem v_X5_copyFrom_6 {p : Program} {l : Launch} {e : Env} {s : State} {m : MethodId} {args : Array Value} {below : List Frame} {meth : Method} {c : Code} {D : va_G} {a : dp_A} {B : Nat} (X : dp_X p s m meth c cX5_copyFrom 3 RX5 D a B) (hr : meth.sig.returnType = none) {h' : dp_H} {k6 : dp_H → Nat → Nat → Int32 → Option dp_H} (hk6 : ∀ (h : dp_H) (x0 : Nat) (x1 : Nat) (x2 : Int32), k6 h x0 x1 x2 = some h' → ∀ (H : Heap) (locs : List Loc) (ls : Array Slot), dp_w D a B h s.heap H locs → lv_has ls 3 [(0, .ref (B + x0)), (1, .ref (B + x1)), (2, .int x2)] → W p l e rm_X5_copyFrom s m args below meth c H locs 0 0 (MQ below (dp_Q D a B none h') args s rm_X5_copyFrom.cells rm_X5_copyFrom.slots (fun q => B ≤ q)) (F0 m 6 ls [])) : ∀ (h : dp_H) (x0 : Nat) (x1 : Nat) (x2 : Int32), b_X5_copyFrom_6 k6 h x0 x1 x2 = some h' → ∀ (H : Heap) (locs : List Loc) (ls : Array Slot), dp_w D a B h s.heap H locs → lv_has ls 3 [(0, .ref (B + x0)), (1, .ref (B + x1)), (2, .int x2)] → W p l e rm_X5_copyFrom s m args below meth c H locs 0 0 (MQ below (dp_Q D a B none h') args s rm_X5_copyFrom.cells rm_X5_copyFrom.slots (fun q => B ≤ q)) (F0 m 6 ls []) := by
  intro h x0 x1 x2 hm H locs ls hw hl
  obtain ⟨hx, hb, hml, hown, hlk, hK, hB⟩ := id X
  unfold b_X5_copyFrom_6 at hm
  refine lv_iload_n hx hb dX5_copyFrom_6 rfl (lv_at hl 2 rfl) ?_
  refine lv_aload_n hx hb dX5_copyFrom_7 rfl (lv_at hl 1 rfl) ?_
  obtain ⟨v1, ev1, hm⟩ := dp_ob hm
  refine dp_cV (As := []) (rest := [.int x2]) X hw (c_X5_size l D a B h x1 ev1) vm_X5_size ml_X5_28 (by decide) rfl rfl (ck_X5_size ev1) rfl rfl hl.1 rfl (Nat.le_of_ble_eq_true rfl) dX5_copyFrom_8 ⟨(Nat.zero_le _), (Nat.zero_le _)⟩ (fun H locs hw => ?_)
  refine lv_icmp_ge (tgt := 30) hx hb dX5_copyFrom_11 (by decide) (fun hc => ?_) (fun hc => ?_)
  · have hm := dp_ip hc hm
    cases hm
    exact dp_vret X hr hw dX5_copyFrom_30
  · have hm := dp_in hc hm
    refine lv_aload_n hx hb dX5_copyFrom_14 rfl (lv_at hl 0 rfl) ?_
    refine lv_aload_n hx hb dX5_copyFrom_15 rfl (lv_at hl 1 rfl) ?_
    refine lv_iload_n hx hb dX5_copyFrom_16 rfl (lv_at hl 2 rfl) ?_
    obtain ⟨v2, ev2, hm⟩ := dp_ob hm
    refine dp_cV (As := [.int x2]) (rest := [.ref (B + x0)]) X hw (c_X5_at l D a B h x1 x2 ev2) vm_X5_at ml_X5_31 (by decide) rfl rfl (ck_X5_at ev2) rfl rfl hl.1 rfl (Nat.le_of_ble_eq_true rfl) dX5_copyFrom_17 ⟨(Nat.zero_le _), (Nat.zero_le _)⟩ (fun H locs hw => ?_)
    obtain ⟨h3, v4, ev4, hm⟩ := dp_ob2 hm
    refine dp_cV (As := [.int v2]) (rest := []) X hw (c_X5_append l D a B h x0 v2 ev4) vm_X5_append ml_X5_35 (by decide) rfl rfl (ck_X5_append ev4) rfl rfl hl.1 rfl (Nat.le_of_ble_eq_true rfl) dX5_copyFrom_20 ⟨(Nat.zero_le _), (Nat.zero_le _)⟩ (fun H locs hw => ?_)
    refine lv_pop hx hb dX5_copyFrom_23 rfl ?_
    refine lv_iinc (v := (x2 + 1)) (lv' := [(2, .int (x2 + 1)), (0, .ref (B + x0)), (1, .ref (B + x1))]) hx hb dX5_copyFrom_24 hl (k := 2) rfl rfl (by decide) rfl (fun ls hl => ?_)
    refine lv_goto (tgt := 6) hx hb dX5_copyFrom_27 (by decide) ?_
    exact hk6 h3 x0 x1 (x2 + 1) hm _ _ _ hw (lv_sub hl [1, 2, 0] rfl)
set_option maxRecDepth 100000 in
set_option maxHeartbeats 4000000 in
theorem w_X5_copyFrom_6 {p : Program} {l : Launch} {e : Env} {s : State} {m : MethodId} {args : Array Value} {below : List Frame} {meth : Method} {c : Code} {D : va_G} {a : dp_A} {B : Nat} (X : dp_X p s m meth c cX5_copyFrom 3 RX5 D a B) (hr : meth.sig.returnType = none) {h' : dp_H}  : ∀ (n : Nat) (h : dp_H) (x0 : Nat) (x1 : Nat) (x2 : Int32), m_X5_copyFrom_6  n h x0 x1 x2 = some h' → ∀ (H : Heap) (locs : List Loc) (ls : Array Slot), dp_w D a B h s.heap H locs → lv_has ls 3 [(0, .ref (B + x0)), (1, .ref (B + x1)), (2, .int x2)] → W p l e rm_X5_copyFrom s m args below meth c H locs 0 0 (MQ below (dp_Q D a B none h') args s rm_X5_copyFrom.cells rm_X5_copyFrom.slots (fun q => B ≤ q)) (F0 m 6 ls []) := by
  intro n
  induction n with
  | zero => intro h x0 x1 x2 hm; cases hm
  | succ n ih => intro h x0 x1 x2 hm; exact v_X5_copyFrom_6 X hr ih h x0 x1 x2 hm
theorem ck_X5_copyFrom {h : dp_H} {x0 : Nat} {x1 : Nat} {h' : dp_H} (hm : m_X5_copyFrom h x0 x1 = some h') : dp_is h x0 5 = true := (dp_ck_e hm).1
set_option maxRecDepth 100000 in
set_option maxHeartbeats 4000000 in
theorem c_X5_copyFrom (l : Launch) (D : va_G) (a : dp_A) (B : Nat) (h : dp_H) (x0 : Nat) (x1 : Nat) {h' : dp_H} (hm : m_X5_copyFrom h x0 x1 = some h') : dp_M l D a B yX5_copyFrom cX5_copyFrom 3 none rm_X5_copyFrom [.ref (B + x0), .ref (B + x1)] h none h' := by
  refine dp_M.of (own := RX5) (nm := "copyFrom") (by decide) rfl rfl (Nat.le_of_ble_eq_true rfl) ?_
  intro p e s m below meth c ls X hr hin hw hl
  have hl : lv_has ls 3 [(0, .ref (B + x0)), (1, .ref (B + x1))] := hl
  obtain ⟨hx, hb, hml, hown, hlk, hK, hB⟩ := id X
  unfold m_X5_copyFrom at hm
  obtain ⟨hck, hm⟩ := dp_ck_e hm
  refine lv_aload_n hx hb dX5_copyFrom_0 rfl (lv_at hl 0 rfl) ?_
  obtain ⟨h1, eh1, hm⟩ := dp_ob hm
  refine dp_cVv (As := []) (rest := []) X hw (c_X5_clear l D a B h x0 eh1) vm_X5_clear ml_X5_25 (by decide) rfl rfl (ck_X5_clear eh1) rfl rfl hl.1 rfl (Nat.le_of_ble_eq_true rfl) dX5_copyFrom_1 ⟨(Nat.zero_le _), (Nat.zero_le _)⟩ (fun H locs hw => ?_)
  refine lv_iconst (v := 0) hx hb dX5_copyFrom_4 (by decide) ?_
  refine lv_istore_n (lv' := [(2, .int 0), (0, .ref (B + x0)), (1, .ref (B + x1))]) hx hb dX5_copyFrom_5 rfl hl (by decide) rfl (fun ls hl => ?_)
  exact w_X5_copyFrom_6 X hr 64 h1 x0 x1 0 hm _ _ _ hw (lv_sub hl [1, 2, 0] rfl)
set_option maxRecDepth 100000 in
set_option maxHeartbeats 4000000 in
theorem v_X1_copyFrom_76 {p : Program} {l : Launch} {e : Env} {s : State} {m : MethodId} {args : Array Value} {below : List Frame} {meth : Method} {c : Code} {D : va_G} {a : dp_A} {B : Nat} (X : dp_X p s m meth c cX1_copyFrom 3 RX1 D a B) (hr : meth.sig.returnType = none) {h' : dp_H}  : ∀ (h : dp_H) (x0 : Nat) (x1 : Nat), b_X1_copyFrom_76  h x0 x1 = some h' → ∀ (H : Heap) (locs : List Loc) (ls : Array Slot), dp_w D a B h s.heap H locs → lv_has ls 3 [(0, .ref (B + x0)), (1, .ref (B + x1))] → W p l e rm_X1_copyFrom s m args below meth c H locs 0 0 (MQ below (dp_Q D a B none h') args s rm_X1_copyFrom.cells rm_X1_copyFrom.slots (fun q => B ≤ q)) (F0 m 76 ls []) := by
  intro h x0 x1 hm H locs ls hw hl
  obtain ⟨hx, hb, hml, hown, hlk, hK, hB⟩ := id X
  unfold b_X1_copyFrom_76 at hm
  refine lv_aload_n hx hb dX1_copyFrom_76 rfl (lv_at hl 0 rfl) ?_
  obtain ⟨v1, ev1, hm⟩ := dp_ob hm
  refine dp_getr X hw cl_X1 2 (by decide) fl_X1_23 ev1 dX1_copyFrom_77 ?_
  refine lv_aload_n hx hb dX1_copyFrom_80 rfl (lv_at hl 1 rfl) ?_
  obtain ⟨v2, ev2, hm⟩ := dp_ob hm
  refine dp_getr X hw cl_X1 2 (by decide) fl_X1_23 ev2 dX1_copyFrom_81 ?_
  obtain ⟨h3, eh3, hm⟩ := dp_ob hm
  refine dp_cVv (As := [.ref (B + v2)]) (rest := []) X hw (c_X5_copyFrom l D a B h v1 v2 eh3) vm_X5_copyFrom ml_X1_60 (by decide) rfl rfl (ck_X5_copyFrom eh3) rfl rfl hl.1 rfl (Nat.le_of_ble_eq_true rfl) dX1_copyFrom_84 ⟨(Nat.zero_le _), (Nat.zero_le _)⟩ (fun H locs hw => ?_)
  refine lv_aload_n hx hb dX1_copyFrom_87 rfl (lv_at hl 0 rfl) ?_
  refine lv_aload_n hx hb dX1_copyFrom_88 rfl (lv_at hl 1 rfl) ?_
  obtain ⟨v4, ev4, hm⟩ := dp_ob hm
  refine dp_geti X hw cl_X1 3 (by decide) fl_X1_27 ev4 dX1_copyFrom_89 ?_
  obtain ⟨h5, eh5, hm⟩ := dp_ob hm
  refine dp_puti X hw cl_X1 3 (by decide) fl_X1_27 rfl rfl eh5 dX1_copyFrom_92 (fun H locs hw => ?_)
  refine lv_aload_n hx hb dX1_copyFrom_95 rfl (lv_at hl 0 rfl) ?_
  refine lv_aload_n hx hb dX1_copyFrom_96 rfl (lv_at hl 1 rfl) ?_
  obtain ⟨v6, ev6, hm⟩ := dp_ob hm
  refine dp_geti X hw cl_X1 4 (by decide) fl_X1_31 ev6 dX1_copyFrom_97 ?_
  obtain ⟨hz, hm⟩ := dp_b_e hm
  obtain ⟨h7, eh7, hm⟩ := dp_ob hm
  refine dp_putz X hw cl_X1 4 (by decide) fl_X1_31 rfl rfl hz eh7 dX1_copyFrom_100 (fun H locs hw => ?_)
  refine lv_aload_n hx hb dX1_copyFrom_103 rfl (lv_at hl 0 rfl) ?_
  refine lv_aload_n hx hb dX1_copyFrom_104 rfl (lv_at hl 1 rfl) ?_
  obtain ⟨v8, ev8, hm⟩ := dp_ob hm
  refine dp_geti X hw cl_X1 5 (by decide) fl_X1_35 ev8 dX1_copyFrom_105 ?_
  obtain ⟨h9, eh9, hm⟩ := dp_ob hm
  refine dp_puti X hw cl_X1 5 (by decide) fl_X1_35 rfl rfl eh9 dX1_copyFrom_108 (fun H locs hw => ?_)
  refine lv_aload_n hx hb dX1_copyFrom_111 rfl (lv_at hl 0 rfl) ?_
  refine lv_aload_n hx hb dX1_copyFrom_112 rfl (lv_at hl 1 rfl) ?_
  obtain ⟨v10, ev10, hm⟩ := dp_ob hm
  refine dp_geti X hw cl_X1 6 (by decide) fl_X1_38 ev10 dX1_copyFrom_113 ?_
  obtain ⟨h11, eh11, hm⟩ := dp_ob hm
  refine dp_puti X hw cl_X1 6 (by decide) fl_X1_38 rfl rfl eh11 dX1_copyFrom_116 (fun H locs hw => ?_)
  cases hm
  exact dp_vret X hr hw dX1_copyFrom_119
set_option maxRecDepth 100000 in
set_option maxHeartbeats 4000000 in
theorem v_X1_copyFrom_40 {p : Program} {l : Launch} {e : Env} {s : State} {m : MethodId} {args : Array Value} {below : List Frame} {meth : Method} {c : Code} {D : va_G} {a : dp_A} {B : Nat} (X : dp_X p s m meth c cX1_copyFrom 3 RX1 D a B) (hr : meth.sig.returnType = none) {h' : dp_H} {k40 : dp_H → Nat → Nat → Int32 → Option dp_H} (hk40 : ∀ (h : dp_H) (x0 : Nat) (x1 : Nat) (x2 : Int32), k40 h x0 x1 x2 = some h' → ∀ (H : Heap) (locs : List Loc) (ls : Array Slot), dp_w D a B h s.heap H locs → lv_has ls 3 [(0, .ref (B + x0)), (1, .ref (B + x1)), (2, .int x2)] → W p l e rm_X1_copyFrom s m args below meth c H locs 0 0 (MQ below (dp_Q D a B none h') args s rm_X1_copyFrom.cells rm_X1_copyFrom.slots (fun q => B ≤ q)) (F0 m 40 ls [])) : ∀ (h : dp_H) (x0 : Nat) (x1 : Nat) (x2 : Int32), b_X1_copyFrom_40 k40 h x0 x1 x2 = some h' → ∀ (H : Heap) (locs : List Loc) (ls : Array Slot), dp_w D a B h s.heap H locs → lv_has ls 3 [(0, .ref (B + x0)), (1, .ref (B + x1)), (2, .int x2)] → W p l e rm_X1_copyFrom s m args below meth c H locs 0 0 (MQ below (dp_Q D a B none h') args s rm_X1_copyFrom.cells rm_X1_copyFrom.slots (fun q => B ≤ q)) (F0 m 40 ls []) := by
  intro h x0 x1 x2 hm H locs ls hw hl
  obtain ⟨hx, hb, hml, hown, hlk, hK, hB⟩ := id X
  unfold b_X1_copyFrom_40 at hm
  refine lv_iload_n hx hb dX1_copyFrom_40 rfl (lv_at hl 2 rfl) ?_
  refine lv_aload_n hx hb dX1_copyFrom_41 rfl (lv_at hl 0 rfl) ?_
  obtain ⟨v1, ev1, hm⟩ := dp_ob hm
  refine dp_getr X hw cl_X1 1 (by decide) fl_X1_15 ev1 dX1_copyFrom_42 ?_
  obtain ⟨v2, ev2, hm⟩ := dp_ob hm
  refine dp_alen X hw ev2 dX1_copyFrom_45 ?_
  refine lv_icmp_ge (tgt := 76) hx hb dX1_copyFrom_46 (by decide) (fun hc => ?_) (fun hc => ?_)
  · have hm := dp_ip hc hm
    exact v_X1_copyFrom_76 X hr h x0 x1 hm _ _ _ hw (lv_sub hl [0, 1] rfl)
  · have hm := dp_in hc hm
    refine lv_iload_n hx hb dX1_copyFrom_49 rfl (lv_at hl 2 rfl) ?_
    refine lv_aload_n hx hb dX1_copyFrom_50 rfl (lv_at hl 1 rfl) ?_
    obtain ⟨v3, ev3, hm⟩ := dp_ob hm
    refine dp_getr X hw cl_X1 1 (by decide) fl_X1_15 ev3 dX1_copyFrom_51 ?_
    obtain ⟨v4, ev4, hm⟩ := dp_ob hm
    refine dp_alen X hw ev4 dX1_copyFrom_54 ?_
    refine lv_icmp_ge (tgt := 76) hx hb dX1_copyFrom_55 (by decide) (fun hc => ?_) (fun hc => ?_)
    · have hm := dp_ip hc hm
      exact v_X1_copyFrom_76 X hr h x0 x1 hm _ _ _ hw (lv_sub hl [0, 1] rfl)
    · have hm := dp_in hc hm
      refine lv_aload_n hx hb dX1_copyFrom_58 rfl (lv_at hl 0 rfl) ?_
      obtain ⟨v5, ev5, hm⟩ := dp_ob hm
      refine dp_getr X hw cl_X1 1 (by decide) fl_X1_15 ev5 dX1_copyFrom_59 ?_
      refine lv_iload_n hx hb dX1_copyFrom_62 rfl (lv_at hl 2 rfl) ?_
      refine lv_aload_n hx hb dX1_copyFrom_63 rfl (lv_at hl 1 rfl) ?_
      obtain ⟨v6, ev6, hm⟩ := dp_ob hm
      refine dp_getr X hw cl_X1 1 (by decide) fl_X1_15 ev6 dX1_copyFrom_64 ?_
      refine lv_iload_n hx hb dX1_copyFrom_67 rfl (lv_at hl 2 rfl) ?_
      obtain ⟨v7, ev7, hm⟩ := dp_ob hm
      refine dp_iald X hw ev7 dX1_copyFrom_68 ?_
      obtain ⟨h8, eh8, hm⟩ := dp_ob hm
      refine dp_iast X hw eh8 dX1_copyFrom_69 (fun H locs hw => ?_)
      refine lv_iinc (v := (x2 + 1)) (lv' := [(2, .int (x2 + 1)), (0, .ref (B + x0)), (1, .ref (B + x1))]) hx hb dX1_copyFrom_70 hl (k := 2) rfl rfl (by decide) rfl (fun ls hl => ?_)
      refine lv_goto (tgt := 40) hx hb dX1_copyFrom_73 (by decide) ?_
      exact hk40 h8 x0 x1 (x2 + 1) hm _ _ _ hw (lv_sub hl [1, 2, 0] rfl)
set_option maxRecDepth 100000 in
set_option maxHeartbeats 4000000 in
theorem w_X1_copyFrom_40 {p : Program} {l : Launch} {e : Env} {s : State} {m : MethodId} {args : Array Value} {below : List Frame} {meth : Method} {c : Code} {D : va_G} {a : dp_A} {B : Nat} (X : dp_X p s m meth c cX1_copyFrom 3 RX1 D a B) (hr : meth.sig.returnType = none) {h' : dp_H}  : ∀ (n : Nat) (h : dp_H) (x0 : Nat) (x1 : Nat) (x2 : Int32), m_X1_copyFrom_40  n h x0 x1 x2 = some h' → ∀ (H : Heap) (locs : List Loc) (ls : Array Slot), dp_w D a B h s.heap H locs → lv_has ls 3 [(0, .ref (B + x0)), (1, .ref (B + x1)), (2, .int x2)] → W p l e rm_X1_copyFrom s m args below meth c H locs 0 0 (MQ below (dp_Q D a B none h') args s rm_X1_copyFrom.cells rm_X1_copyFrom.slots (fun q => B ≤ q)) (F0 m 40 ls []) := by
  intro n
  induction n with
  | zero => intro h x0 x1 x2 hm; cases hm
  | succ n ih => intro h x0 x1 x2 hm; exact v_X1_copyFrom_40 X hr ih h x0 x1 x2 hm
set_option maxRecDepth 100000 in
set_option maxHeartbeats 4000000 in
theorem v_X1_copyFrom_2 {p : Program} {l : Launch} {e : Env} {s : State} {m : MethodId} {args : Array Value} {below : List Frame} {meth : Method} {c : Code} {D : va_G} {a : dp_A} {B : Nat} (X : dp_X p s m meth c cX1_copyFrom 3 RX1 D a B) (hr : meth.sig.returnType = none) {h' : dp_H} {k2 : dp_H → Nat → Nat → Int32 → Option dp_H} (hk2 : ∀ (h : dp_H) (x0 : Nat) (x1 : Nat) (x2 : Int32), k2 h x0 x1 x2 = some h' → ∀ (H : Heap) (locs : List Loc) (ls : Array Slot), dp_w D a B h s.heap H locs → lv_has ls 3 [(0, .ref (B + x0)), (1, .ref (B + x1)), (2, .int x2)] → W p l e rm_X1_copyFrom s m args below meth c H locs 0 0 (MQ below (dp_Q D a B none h') args s rm_X1_copyFrom.cells rm_X1_copyFrom.slots (fun q => B ≤ q)) (F0 m 2 ls [])) : ∀ (h : dp_H) (x0 : Nat) (x1 : Nat) (x2 : Int32), b_X1_copyFrom_2 k2 h x0 x1 x2 = some h' → ∀ (H : Heap) (locs : List Loc) (ls : Array Slot), dp_w D a B h s.heap H locs → lv_has ls 3 [(0, .ref (B + x0)), (1, .ref (B + x1)), (2, .int x2)] → W p l e rm_X1_copyFrom s m args below meth c H locs 0 0 (MQ below (dp_Q D a B none h') args s rm_X1_copyFrom.cells rm_X1_copyFrom.slots (fun q => B ≤ q)) (F0 m 2 ls []) := by
  intro h x0 x1 x2 hm H locs ls hw hl
  obtain ⟨hx, hb, hml, hown, hlk, hK, hB⟩ := id X
  unfold b_X1_copyFrom_2 at hm
  refine lv_iload_n hx hb dX1_copyFrom_2 rfl (lv_at hl 2 rfl) ?_
  refine lv_aload_n hx hb dX1_copyFrom_3 rfl (lv_at hl 0 rfl) ?_
  obtain ⟨v1, ev1, hm⟩ := dp_ob hm
  refine dp_getr X hw cl_X1 0 (by decide) fl_X1_9 ev1 dX1_copyFrom_4 ?_
  obtain ⟨v2, ev2, hm⟩ := dp_ob hm
  refine dp_alen X hw ev2 dX1_copyFrom_7 ?_
  refine lv_icmp_ge (tgt := 38) hx hb dX1_copyFrom_8 (by decide) (fun hc => ?_) (fun hc => ?_)
  · have hm := dp_ip hc hm
    refine lv_iconst (v := 0) hx hb dX1_copyFrom_38 (by decide) ?_
    refine lv_istore_n (lv' := [(2, .int 0), (0, .ref (B + x0)), (1, .ref (B + x1))]) hx hb dX1_copyFrom_39 rfl hl (by decide) rfl (fun ls hl => ?_)
    exact w_X1_copyFrom_40 X hr 64 h x0 x1 0 hm _ _ _ hw (lv_sub hl [1, 2, 0] rfl)
  · have hm := dp_in hc hm
    refine lv_iload_n hx hb dX1_copyFrom_11 rfl (lv_at hl 2 rfl) ?_
    refine lv_aload_n hx hb dX1_copyFrom_12 rfl (lv_at hl 1 rfl) ?_
    obtain ⟨v3, ev3, hm⟩ := dp_ob hm
    refine dp_getr X hw cl_X1 0 (by decide) fl_X1_9 ev3 dX1_copyFrom_13 ?_
    obtain ⟨v4, ev4, hm⟩ := dp_ob hm
    refine dp_alen X hw ev4 dX1_copyFrom_16 ?_
    refine lv_icmp_ge (tgt := 38) hx hb dX1_copyFrom_17 (by decide) (fun hc => ?_) (fun hc => ?_)
    · have hm := dp_ip hc hm
      refine lv_iconst (v := 0) hx hb dX1_copyFrom_38 (by decide) ?_
      refine lv_istore_n (lv' := [(2, .int 0), (0, .ref (B + x0)), (1, .ref (B + x1))]) hx hb dX1_copyFrom_39 rfl hl (by decide) rfl (fun ls hl => ?_)
      exact w_X1_copyFrom_40 X hr 64 h x0 x1 0 hm _ _ _ hw (lv_sub hl [1, 2, 0] rfl)
    · have hm := dp_in hc hm
      refine lv_aload_n hx hb dX1_copyFrom_20 rfl (lv_at hl 0 rfl) ?_
      obtain ⟨v5, ev5, hm⟩ := dp_ob hm
      refine dp_getr X hw cl_X1 0 (by decide) fl_X1_9 ev5 dX1_copyFrom_21 ?_
      refine lv_iload_n hx hb dX1_copyFrom_24 rfl (lv_at hl 2 rfl) ?_
      refine lv_aload_n hx hb dX1_copyFrom_25 rfl (lv_at hl 1 rfl) ?_
      obtain ⟨v6, ev6, hm⟩ := dp_ob hm
      refine dp_getr X hw cl_X1 0 (by decide) fl_X1_9 ev6 dX1_copyFrom_26 ?_
      refine lv_iload_n hx hb dX1_copyFrom_29 rfl (lv_at hl 2 rfl) ?_
      obtain ⟨v7, ev7, hm⟩ := dp_ob hm
      refine dp_iald X hw ev7 dX1_copyFrom_30 ?_
      obtain ⟨h8, eh8, hm⟩ := dp_ob hm
      refine dp_iast X hw eh8 dX1_copyFrom_31 (fun H locs hw => ?_)
      refine lv_iinc (v := (x2 + 1)) (lv' := [(2, .int (x2 + 1)), (0, .ref (B + x0)), (1, .ref (B + x1))]) hx hb dX1_copyFrom_32 hl (k := 2) rfl rfl (by decide) rfl (fun ls hl => ?_)
      refine lv_goto (tgt := 2) hx hb dX1_copyFrom_35 (by decide) ?_
      exact hk2 h8 x0 x1 (x2 + 1) hm _ _ _ hw (lv_sub hl [1, 2, 0] rfl)
set_option maxRecDepth 100000 in
set_option maxHeartbeats 4000000 in
theorem w_X1_copyFrom_2 {p : Program} {l : Launch} {e : Env} {s : State} {m : MethodId} {args : Array Value} {below : List Frame} {meth : Method} {c : Code} {D : va_G} {a : dp_A} {B : Nat} (X : dp_X p s m meth c cX1_copyFrom 3 RX1 D a B) (hr : meth.sig.returnType = none) {h' : dp_H}  : ∀ (n : Nat) (h : dp_H) (x0 : Nat) (x1 : Nat) (x2 : Int32), m_X1_copyFrom_2  n h x0 x1 x2 = some h' → ∀ (H : Heap) (locs : List Loc) (ls : Array Slot), dp_w D a B h s.heap H locs → lv_has ls 3 [(0, .ref (B + x0)), (1, .ref (B + x1)), (2, .int x2)] → W p l e rm_X1_copyFrom s m args below meth c H locs 0 0 (MQ below (dp_Q D a B none h') args s rm_X1_copyFrom.cells rm_X1_copyFrom.slots (fun q => B ≤ q)) (F0 m 2 ls []) := by
  intro n
  induction n with
  | zero => intro h x0 x1 x2 hm; cases hm
  | succ n ih => intro h x0 x1 x2 hm; exact v_X1_copyFrom_2 X hr ih h x0 x1 x2 hm
theorem ck_X1_copyFrom {h : dp_H} {x0 : Nat} {x1 : Nat} {h' : dp_H} (hm : m_X1_copyFrom h x0 x1 = some h') : dp_is h x0 1 = true := (dp_ck_e hm).1
set_option maxRecDepth 100000 in
set_option maxHeartbeats 4000000 in
theorem c_X1_copyFrom (l : Launch) (D : va_G) (a : dp_A) (B : Nat) (h : dp_H) (x0 : Nat) (x1 : Nat) {h' : dp_H} (hm : m_X1_copyFrom h x0 x1 = some h') : dp_M l D a B yX1_copyFrom cX1_copyFrom 3 none rm_X1_copyFrom [.ref (B + x0), .ref (B + x1)] h none h' := by
  refine dp_M.of (own := RX1) (nm := "copyFrom") (by decide) rfl rfl (Nat.le_of_ble_eq_true rfl) ?_
  intro p e s m below meth c ls X hr hin hw hl
  have hl : lv_has ls 3 [(0, .ref (B + x0)), (1, .ref (B + x1))] := hl
  obtain ⟨hx, hb, hml, hown, hlk, hK, hB⟩ := id X
  unfold m_X1_copyFrom at hm
  obtain ⟨hck, hm⟩ := dp_ck_e hm
  refine lv_iconst (v := 0) hx hb dX1_copyFrom_0 (by decide) ?_
  refine lv_istore_n (lv' := [(2, .int 0), (0, .ref (B + x0)), (1, .ref (B + x1))]) hx hb dX1_copyFrom_1 rfl hl (by decide) rfl (fun ls hl => ?_)
  exact w_X1_copyFrom_2 X hr 64 h x0 x1 0 hm _ _ _ hw (lv_sub hl [1, 2, 0] rfl)
set_option maxRecDepth 100000 in
set_option maxHeartbeats 4000000 in
theorem v_X5_isLike_15 {p : Program} {l : Launch} {e : Env} {s : State} {m : MethodId} {args : Array Value} {below : List Frame} {meth : Method} {c : Code} {D : va_G} {a : dp_A} {B : Nat} (X : dp_X p s m meth c cX5_isLike 3 RX5 D a B) (hr : meth.sig.returnType = (some .boolean)) {h : dp_H} {r : Int32} {k15 : Nat → Nat → Int32 → Option Int32} (hk15 : ∀ (x0 : Nat) (x1 : Nat) (x2 : Int32), k15 x0 x1 x2 = some r → ∀ (H : Heap) (locs : List Loc) (ls : Array Slot), dp_w D a B h s.heap H locs → lv_has ls 3 [(0, .ref (B + x0)), (1, .ref (B + x1)), (2, .int x2)] → W p l e rm_X5_isLike s m args below meth c H locs 0 0 (MQ below (dp_Q D a B (some (.int r)) h) args s rm_X5_isLike.cells rm_X5_isLike.slots (fun q => B ≤ q)) (F0 m 15 ls [])) : ∀ (x0 : Nat) (x1 : Nat) (x2 : Int32), b_X5_isLike_15 h k15 x0 x1 x2 = some r → ∀ (H : Heap) (locs : List Loc) (ls : Array Slot), dp_w D a B h s.heap H locs → lv_has ls 3 [(0, .ref (B + x0)), (1, .ref (B + x1)), (2, .int x2)] → W p l e rm_X5_isLike s m args below meth c H locs 0 0 (MQ below (dp_Q D a B (some (.int r)) h) args s rm_X5_isLike.cells rm_X5_isLike.slots (fun q => B ≤ q)) (F0 m 15 ls []) := by
  intro x0 x1 x2 hm H locs ls hw hl
  obtain ⟨hx, hb, hml, hown, hlk, hK, hB⟩ := id X
  unfold b_X5_isLike_15 at hm
  refine lv_iload_n hx hb dX5_isLike_15 rfl (lv_at hl 2 rfl) ?_
  refine lv_aload_n hx hb dX5_isLike_16 rfl (lv_at hl 0 rfl) ?_
  obtain ⟨v1, ev1, hm⟩ := dp_ob hm
  refine dp_geti X hw cl_X5 1 (by decide) fl_X5_21 ev1 dX5_isLike_17 ?_
  refine lv_icmp_ge (tgt := 64) hx hb dX5_isLike_20 (by decide) (fun hc => ?_) (fun hc => ?_)
  · have hm := dp_ip hc hm
    refine lv_iconst (v := 1) hx hb dX5_isLike_64 (by decide) ?_
    cases hm
    exact dp_zret X hr hw (by decide) dX5_isLike_65
  · have hm := dp_in hc hm
    refine lv_iload_n hx hb dX5_isLike_23 rfl (lv_at hl 2 rfl) ?_
    refine lv_aload_n hx hb dX5_isLike_24 rfl (lv_at hl 0 rfl) ?_
    obtain ⟨v2, ev2, hm⟩ := dp_ob hm
    refine dp_getr X hw cl_X5 0 (by decide) fl_X5_15 ev2 dX5_isLike_25 ?_
    obtain ⟨v3, ev3, hm⟩ := dp_ob hm
    refine dp_alen X hw ev3 dX5_isLike_28 ?_
    refine lv_icmp_ge (tgt := 64) hx hb dX5_isLike_29 (by decide) (fun hc => ?_) (fun hc => ?_)
    · have hm := dp_ip hc hm
      refine lv_iconst (v := 1) hx hb dX5_isLike_64 (by decide) ?_
      cases hm
      exact dp_zret X hr hw (by decide) dX5_isLike_65
    · have hm := dp_in hc hm
      refine lv_iload_n hx hb dX5_isLike_32 rfl (lv_at hl 2 rfl) ?_
      refine lv_aload_n hx hb dX5_isLike_33 rfl (lv_at hl 1 rfl) ?_
      obtain ⟨v4, ev4, hm⟩ := dp_ob hm
      refine dp_getr X hw cl_X5 0 (by decide) fl_X5_15 ev4 dX5_isLike_34 ?_
      obtain ⟨v5, ev5, hm⟩ := dp_ob hm
      refine dp_alen X hw ev5 dX5_isLike_37 ?_
      refine lv_icmp_ge (tgt := 64) hx hb dX5_isLike_38 (by decide) (fun hc => ?_) (fun hc => ?_)
      · have hm := dp_ip hc hm
        refine lv_iconst (v := 1) hx hb dX5_isLike_64 (by decide) ?_
        cases hm
        exact dp_zret X hr hw (by decide) dX5_isLike_65
      · have hm := dp_in hc hm
        refine lv_aload_n hx hb dX5_isLike_41 rfl (lv_at hl 0 rfl) ?_
        obtain ⟨v6, ev6, hm⟩ := dp_ob hm
        refine dp_getr X hw cl_X5 0 (by decide) fl_X5_15 ev6 dX5_isLike_42 ?_
        refine lv_iload_n hx hb dX5_isLike_45 rfl (lv_at hl 2 rfl) ?_
        obtain ⟨v7, ev7, hm⟩ := dp_ob hm
        refine dp_iald X hw ev7 dX5_isLike_46 ?_
        refine lv_aload_n hx hb dX5_isLike_47 rfl (lv_at hl 1 rfl) ?_
        obtain ⟨v8, ev8, hm⟩ := dp_ob hm
        refine dp_getr X hw cl_X5 0 (by decide) fl_X5_15 ev8 dX5_isLike_48 ?_
        refine lv_iload_n hx hb dX5_isLike_51 rfl (lv_at hl 2 rfl) ?_
        obtain ⟨v9, ev9, hm⟩ := dp_ob hm
        refine dp_iald X hw ev9 dX5_isLike_52 ?_
        refine lv_icmp_eq (tgt := 58) hx hb dX5_isLike_53 (by decide) (fun hc => ?_) (fun hc => ?_)
        · have hm := dp_ip hc hm
          refine lv_iinc (v := (x2 + 1)) (lv' := [(2, .int (x2 + 1)), (0, .ref (B + x0)), (1, .ref (B + x1))]) hx hb dX5_isLike_58 hl (k := 2) rfl rfl (by decide) rfl (fun ls hl => ?_)
          refine lv_goto (tgt := 15) hx hb dX5_isLike_61 (by decide) ?_
          exact hk15 x0 x1 (x2 + 1) hm _ _ _ hw (lv_sub hl [1, 2, 0] rfl)
        · have hm := dp_in hc hm
          refine lv_iconst (v := 0) hx hb dX5_isLike_56 (by decide) ?_
          cases hm
          exact dp_zret X hr hw (by decide) dX5_isLike_57
set_option maxRecDepth 100000 in
set_option maxHeartbeats 4000000 in
theorem w_X5_isLike_15 {p : Program} {l : Launch} {e : Env} {s : State} {m : MethodId} {args : Array Value} {below : List Frame} {meth : Method} {c : Code} {D : va_G} {a : dp_A} {B : Nat} (X : dp_X p s m meth c cX5_isLike 3 RX5 D a B) (hr : meth.sig.returnType = (some .boolean)) {h : dp_H} {r : Int32}  : ∀ (n : Nat) (x0 : Nat) (x1 : Nat) (x2 : Int32), m_X5_isLike_15 h  n x0 x1 x2 = some r → ∀ (H : Heap) (locs : List Loc) (ls : Array Slot), dp_w D a B h s.heap H locs → lv_has ls 3 [(0, .ref (B + x0)), (1, .ref (B + x1)), (2, .int x2)] → W p l e rm_X5_isLike s m args below meth c H locs 0 0 (MQ below (dp_Q D a B (some (.int r)) h) args s rm_X5_isLike.cells rm_X5_isLike.slots (fun q => B ≤ q)) (F0 m 15 ls []) := by
  intro n
  induction n with
  | zero => intro x0 x1 x2 hm; cases hm
  | succ n ih => intro x0 x1 x2 hm; exact v_X5_isLike_15 X hr ih x0 x1 x2 hm
theorem ck_X5_isLike {h : dp_H} {x0 : Nat} {x1 : Nat} {r : Int32} (hm : m_X5_isLike h x0 x1 = some r) : dp_is h x0 5 = true := (dp_ck_e hm).1
set_option maxRecDepth 100000 in
set_option maxHeartbeats 4000000 in
theorem c_X5_isLike (l : Launch) (D : va_G) (a : dp_A) (B : Nat) (h : dp_H) (x0 : Nat) (x1 : Nat) {r : Int32} (hm : m_X5_isLike h x0 x1 = some r) : dp_M l D a B yX5_isLike cX5_isLike 3 (some .boolean) rm_X5_isLike [.ref (B + x0), .ref (B + x1)] h (some (.int r)) h := by
  refine dp_M.of (own := RX5) (nm := "isLike") (by decide) rfl rfl (Nat.le_of_ble_eq_true rfl) ?_
  intro p e s m below meth c ls X hr hin hw hl
  have hl : lv_has ls 3 [(0, .ref (B + x0)), (1, .ref (B + x1))] := hl
  obtain ⟨hx, hb, hml, hown, hlk, hK, hB⟩ := id X
  unfold m_X5_isLike at hm
  obtain ⟨hck, hm⟩ := dp_ck_e hm
  refine lv_aload_n hx hb dX5_isLike_0 rfl (lv_at hl 0 rfl) ?_
  obtain ⟨v1, ev1, hm⟩ := dp_ob hm
  refine dp_geti X hw cl_X5 1 (by decide) fl_X5_21 ev1 dX5_isLike_1 ?_
  refine lv_aload_n hx hb dX5_isLike_4 rfl (lv_at hl 1 rfl) ?_
  obtain ⟨v2, ev2, hm⟩ := dp_ob hm
  refine dp_geti X hw cl_X5 1 (by decide) fl_X5_21 ev2 dX5_isLike_5 ?_
  refine lv_icmp_eq (tgt := 13) hx hb dX5_isLike_8 (by decide) (fun hc => ?_) (fun hc => ?_)
  · have hm := dp_ip hc hm
    refine lv_iconst (v := 0) hx hb dX5_isLike_13 (by decide) ?_
    refine lv_istore_n (lv' := [(2, .int 0), (0, .ref (B + x0)), (1, .ref (B + x1))]) hx hb dX5_isLike_14 rfl hl (by decide) rfl (fun ls hl => ?_)
    exact w_X5_isLike_15 X hr 64 x0 x1 0 hm _ _ _ hw (lv_sub hl [1, 2, 0] rfl)
  · have hm := dp_in hc hm
    refine lv_iconst (v := 0) hx hb dX5_isLike_11 (by decide) ?_
    cases hm
    exact dp_zret X hr hw (by decide) dX5_isLike_12
theorem ck_X1_doesLike {h : dp_H} {x0 : Nat} {x1 : Nat} {r : Int32} (hm : m_X1_doesLike h x0 x1 = some r) : dp_is h x0 1 = true := (dp_ck_e hm).1
set_option maxRecDepth 100000 in
set_option maxHeartbeats 4000000 in
theorem c_X1_doesLike (l : Launch) (D : va_G) (a : dp_A) (B : Nat) (h : dp_H) (x0 : Nat) (x1 : Nat) {r : Int32} (hm : m_X1_doesLike h x0 x1 = some r) : dp_M l D a B yX1_doesLike cX1_doesLike 2 (some .boolean) rm_X1_doesLike [.ref (B + x0), .ref (B + x1)] h (some (.int r)) h := by
  refine dp_M.of (own := RX1) (nm := "doesLike") (by decide) rfl rfl (Nat.le_of_ble_eq_true rfl) ?_
  intro p e s m below meth c ls X hr hin hw hl
  have hl : lv_has ls 2 [(0, .ref (B + x0)), (1, .ref (B + x1))] := hl
  obtain ⟨hx, hb, hml, hown, hlk, hK, hB⟩ := id X
  unfold m_X1_doesLike at hm
  obtain ⟨hck, hm⟩ := dp_ck_e hm
  refine lv_aload_n hx hb dX1_doesLike_0 rfl (lv_at hl 0 rfl) ?_
  obtain ⟨v1, ev1, hm⟩ := dp_ob hm
  refine dp_geti X hw cl_X1 5 (by decide) fl_X1_35 ev1 dX1_doesLike_1 ?_
  refine lv_aload_n hx hb dX1_doesLike_4 rfl (lv_at hl 1 rfl) ?_
  obtain ⟨v2, ev2, hm⟩ := dp_ob hm
  refine dp_geti X hw cl_X1 5 (by decide) fl_X1_35 ev2 dX1_doesLike_5 ?_
  refine lv_icmp_ne (tgt := 40) hx hb dX1_doesLike_8 (by decide) (fun hc => ?_) (fun hc => ?_)
  · have hm := dp_in hc hm
    refine lv_iconst (v := 0) hx hb dX1_doesLike_40 (by decide) ?_
    cases hm
    exact dp_zret X hr hw (by decide) dX1_doesLike_41
  · have hm := dp_ip hc hm
    refine lv_aload_n hx hb dX1_doesLike_11 rfl (lv_at hl 0 rfl) ?_
    obtain ⟨v3, ev3, hm⟩ := dp_ob hm
    refine dp_geti X hw cl_X1 6 (by decide) fl_X1_38 ev3 dX1_doesLike_12 ?_
    refine lv_aload_n hx hb dX1_doesLike_15 rfl (lv_at hl 1 rfl) ?_
    obtain ⟨v4, ev4, hm⟩ := dp_ob hm
    refine dp_geti X hw cl_X1 6 (by decide) fl_X1_38 ev4 dX1_doesLike_16 ?_
    refine lv_icmp_ne (tgt := 40) hx hb dX1_doesLike_19 (by decide) (fun hc => ?_) (fun hc => ?_)
    · have hm := dp_in hc hm
      refine lv_iconst (v := 0) hx hb dX1_doesLike_40 (by decide) ?_
      cases hm
      exact dp_zret X hr hw (by decide) dX1_doesLike_41
    · have hm := dp_ip hc hm
      refine lv_aload_n hx hb dX1_doesLike_22 rfl (lv_at hl 0 rfl) ?_
      obtain ⟨v5, ev5, hm⟩ := dp_ob hm
      refine dp_getr X hw cl_X1 2 (by decide) fl_X1_23 ev5 dX1_doesLike_23 ?_
      refine lv_aload_n hx hb dX1_doesLike_26 rfl (lv_at hl 1 rfl) ?_
      obtain ⟨v6, ev6, hm⟩ := dp_ob hm
      refine dp_getr X hw cl_X1 2 (by decide) fl_X1_23 ev6 dX1_doesLike_27 ?_
      obtain ⟨v7, ev7, hm⟩ := dp_ob hm
      refine dp_cV (As := [.ref (B + v6)]) (rest := []) X hw (c_X5_isLike l D a B h v5 v6 ev7) vm_X5_isLike ml_X1_67 (by decide) rfl rfl (ck_X5_isLike ev7) rfl rfl hl.1 rfl (Nat.le_of_ble_eq_true rfl) dX1_doesLike_30 ⟨(Nat.zero_le _), (Nat.zero_le _)⟩ (fun H locs hw => ?_)
      refine lv_if_eq (tgt := 40) hx hb dX1_doesLike_33 (by decide) (fun hc => ?_) (fun hc => ?_)
      · have hm := dp_ip hc hm
        refine lv_iconst (v := 0) hx hb dX1_doesLike_40 (by decide) ?_
        cases hm
        exact dp_zret X hr hw (by decide) dX1_doesLike_41
      · have hm := dp_in hc hm
        refine lv_iconst (v := 1) hx hb dX1_doesLike_36 (by decide) ?_
        refine lv_goto (tgt := 41) hx hb dX1_doesLike_37 (by decide) ?_
        cases hm
        exact dp_zret X hr hw (by decide) dX1_doesLike_41
set_option maxRecDepth 100000 in
set_option maxHeartbeats 4000000 in
theorem v_X1_sharesRowWith_2 {p : Program} {l : Launch} {e : Env} {s : State} {m : MethodId} {args : Array Value} {below : List Frame} {meth : Method} {c : Code} {D : va_G} {a : dp_A} {B : Nat} (X : dp_X p s m meth c cX1_sharesRowWith 3 RX1 D a B) (hr : meth.sig.returnType = (some .boolean)) {h : dp_H} {r : Int32} {k2 : Nat → Nat → Int32 → Option Int32} (hk2 : ∀ (x0 : Nat) (x1 : Nat) (x2 : Int32), k2 x0 x1 x2 = some r → ∀ (H : Heap) (locs : List Loc) (ls : Array Slot), dp_w D a B h s.heap H locs → lv_has ls 3 [(0, .ref (B + x0)), (1, .ref (B + x1)), (2, .int x2)] → W p l e rm_X1_sharesRowWith s m args below meth c H locs 0 0 (MQ below (dp_Q D a B (some (.int r)) h) args s rm_X1_sharesRowWith.cells rm_X1_sharesRowWith.slots (fun q => B ≤ q)) (F0 m 2 ls [])) : ∀ (x0 : Nat) (x1 : Nat) (x2 : Int32), b_X1_sharesRowWith_2 h k2 x0 x1 x2 = some r → ∀ (H : Heap) (locs : List Loc) (ls : Array Slot), dp_w D a B h s.heap H locs → lv_has ls 3 [(0, .ref (B + x0)), (1, .ref (B + x1)), (2, .int x2)] → W p l e rm_X1_sharesRowWith s m args below meth c H locs 0 0 (MQ below (dp_Q D a B (some (.int r)) h) args s rm_X1_sharesRowWith.cells rm_X1_sharesRowWith.slots (fun q => B ≤ q)) (F0 m 2 ls []) := by
  intro x0 x1 x2 hm H locs ls hw hl
  obtain ⟨hx, hb, hml, hown, hlk, hK, hB⟩ := id X
  unfold b_X1_sharesRowWith_2 at hm
  refine lv_iload_n hx hb dX1_sharesRowWith_2 rfl (lv_at hl 2 rfl) ?_
  refine lv_aload_n hx hb dX1_sharesRowWith_3 rfl (lv_at hl 0 rfl) ?_
  obtain ⟨v1, ev1, hm⟩ := dp_ob hm
  refine dp_geti X hw cl_X1 3 (by decide) fl_X1_27 ev1 dX1_sharesRowWith_4 ?_
  refine lv_icmp_ge (tgt := 32) hx hb dX1_sharesRowWith_7 (by decide) (fun hc => ?_) (fun hc => ?_)
  · have hm := dp_ip hc hm
    refine lv_iconst (v := 1) hx hb dX1_sharesRowWith_32 (by decide) ?_
    cases hm
    exact dp_zret X hr hw (by decide) dX1_sharesRowWith_33
  · have hm := dp_in hc hm
    refine lv_aload_n hx hb dX1_sharesRowWith_10 rfl (lv_at hl 0 rfl) ?_
    refine lv_iload_n hx hb dX1_sharesRowWith_11 rfl (lv_at hl 2 rfl) ?_
    obtain ⟨v2, ev2, hm⟩ := dp_ob hm
    refine dp_cV (As := [.int x2]) (rest := []) X hw (c_X1_digitsAt l D a B h x0 x2 ev2) vm_X1_digitsAt ml_X1_81 (by decide) rfl rfl (ck_X1_digitsAt ev2) rfl rfl hl.1 rfl (Nat.le_of_ble_eq_true rfl) dX1_sharesRowWith_12 ⟨(Nat.zero_le _), (Nat.zero_le _)⟩ (fun H locs hw => ?_)
    refine lv_aload_n hx hb dX1_sharesRowWith_15 rfl (lv_at hl 1 rfl) ?_
    refine lv_iload_n hx hb dX1_sharesRowWith_16 rfl (lv_at hl 2 rfl) ?_
    obtain ⟨v3, ev3, hm⟩ := dp_ob hm
    refine dp_cV (As := [.int x2]) (rest := [.int v2]) X hw (c_X1_digitsAt l D a B h x1 x2 ev3) vm_X1_digitsAt ml_X1_81 (by decide) rfl rfl (ck_X1_digitsAt ev3) rfl rfl hl.1 rfl (Nat.le_of_ble_eq_true rfl) dX1_sharesRowWith_17 ⟨(Nat.zero_le _), (Nat.zero_le _)⟩ (fun H locs hw => ?_)
    refine lv_iand hx hb dX1_sharesRowWith_20 ?_
    refine lv_if_ne (tgt := 26) hx hb dX1_sharesRowWith_21 (by decide) (fun hc => ?_) (fun hc => ?_)
    · have hm := dp_in hc hm
      refine lv_iinc (v := (x2 + 1)) (lv' := [(2, .int (x2 + 1)), (0, .ref (B + x0)), (1, .ref (B + x1))]) hx hb dX1_sharesRowWith_26 hl (k := 2) rfl rfl (by decide) rfl (fun ls hl => ?_)
      refine lv_goto (tgt := 2) hx hb dX1_sharesRowWith_29 (by decide) ?_
      exact hk2 x0 x1 (x2 + 1) hm _ _ _ hw (lv_sub hl [1, 2, 0] rfl)
    · have hm := dp_ip hc hm
      refine lv_iconst (v := 0) hx hb dX1_sharesRowWith_24 (by decide) ?_
      cases hm
      exact dp_zret X hr hw (by decide) dX1_sharesRowWith_25
set_option maxRecDepth 100000 in
set_option maxHeartbeats 4000000 in
theorem w_X1_sharesRowWith_2 {p : Program} {l : Launch} {e : Env} {s : State} {m : MethodId} {args : Array Value} {below : List Frame} {meth : Method} {c : Code} {D : va_G} {a : dp_A} {B : Nat} (X : dp_X p s m meth c cX1_sharesRowWith 3 RX1 D a B) (hr : meth.sig.returnType = (some .boolean)) {h : dp_H} {r : Int32}  : ∀ (n : Nat) (x0 : Nat) (x1 : Nat) (x2 : Int32), m_X1_sharesRowWith_2 h  n x0 x1 x2 = some r → ∀ (H : Heap) (locs : List Loc) (ls : Array Slot), dp_w D a B h s.heap H locs → lv_has ls 3 [(0, .ref (B + x0)), (1, .ref (B + x1)), (2, .int x2)] → W p l e rm_X1_sharesRowWith s m args below meth c H locs 0 0 (MQ below (dp_Q D a B (some (.int r)) h) args s rm_X1_sharesRowWith.cells rm_X1_sharesRowWith.slots (fun q => B ≤ q)) (F0 m 2 ls []) := by
  intro n
  induction n with
  | zero => intro x0 x1 x2 hm; cases hm
  | succ n ih => intro x0 x1 x2 hm; exact v_X1_sharesRowWith_2 X hr ih x0 x1 x2 hm
theorem ck_X1_sharesRowWith {h : dp_H} {x0 : Nat} {x1 : Nat} {r : Int32} (hm : m_X1_sharesRowWith h x0 x1 = some r) : dp_is h x0 1 = true := (dp_ck_e hm).1
set_option maxRecDepth 100000 in
set_option maxHeartbeats 4000000 in
theorem c_X1_sharesRowWith (l : Launch) (D : va_G) (a : dp_A) (B : Nat) (h : dp_H) (x0 : Nat) (x1 : Nat) {r : Int32} (hm : m_X1_sharesRowWith h x0 x1 = some r) : dp_M l D a B yX1_sharesRowWith cX1_sharesRowWith 3 (some .boolean) rm_X1_sharesRowWith [.ref (B + x0), .ref (B + x1)] h (some (.int r)) h := by
  refine dp_M.of (own := RX1) (nm := "sharesRowWith") (by decide) rfl rfl (Nat.le_of_ble_eq_true rfl) ?_
  intro p e s m below meth c ls X hr hin hw hl
  have hl : lv_has ls 3 [(0, .ref (B + x0)), (1, .ref (B + x1))] := hl
  obtain ⟨hx, hb, hml, hown, hlk, hK, hB⟩ := id X
  unfold m_X1_sharesRowWith at hm
  obtain ⟨hck, hm⟩ := dp_ck_e hm
  refine lv_iconst (v := 0) hx hb dX1_sharesRowWith_0 (by decide) ?_
  refine lv_istore_n (lv' := [(2, .int 0), (0, .ref (B + x0)), (1, .ref (B + x1))]) hx hb dX1_sharesRowWith_1 rfl hl (by decide) rfl (fun ls hl => ?_)
  exact w_X1_sharesRowWith_2 X hr 64 x0 x1 0 hm _ _ _ hw (lv_sub hl [1, 2, 0] rfl)
theorem ck_X1_clashesWith {h : dp_H} {x0 : Nat} {x1 : Nat} {r : Int32} (hm : m_X1_clashesWith h x0 x1 = some r) : dp_is h x0 1 = true := (dp_ck_e hm).1
set_option maxRecDepth 100000 in
set_option maxHeartbeats 4000000 in
theorem c_X1_clashesWith (l : Launch) (D : va_G) (a : dp_A) (B : Nat) (h : dp_H) (x0 : Nat) (x1 : Nat) {r : Int32} (hm : m_X1_clashesWith h x0 x1 = some r) : dp_M l D a B yX1_clashesWith cX1_clashesWith 2 (some .boolean) rm_X1_clashesWith [.ref (B + x0), .ref (B + x1)] h (some (.int r)) h := by
  refine dp_M.of (own := RX1) (nm := "clashesWith") (by decide) rfl rfl (Nat.le_of_ble_eq_true rfl) ?_
  intro p e s m below meth c ls X hr hin hw hl
  have hl : lv_has ls 2 [(0, .ref (B + x0)), (1, .ref (B + x1))] := hl
  obtain ⟨hx, hb, hml, hown, hlk, hK, hB⟩ := id X
  unfold m_X1_clashesWith at hm
  obtain ⟨hck, hm⟩ := dp_ck_e hm
  refine lv_aload_n hx hb dX1_clashesWith_0 rfl (lv_at hl 0 rfl) ?_
  refine lv_aload_n hx hb dX1_clashesWith_1 rfl (lv_at hl 1 rfl) ?_
  obtain ⟨v1, ev1, hm⟩ := dp_ob hm
  refine dp_cV (As := [.ref (B + x1)]) (rest := []) X hw (c_X1_isNarrowerThan l D a B h x0 x1 ev1) vm_X1_isNarrowerThan ml_X1_71 (by decide) rfl rfl (ck_X1_isNarrowerThan ev1) rfl rfl hl.1 rfl (Nat.le_of_ble_eq_true rfl) dX1_clashesWith_2 ⟨(Nat.zero_le _), (Nat.zero_le _)⟩ (fun H locs hw => ?_)
  refine lv_if_ne (tgt := 36) hx hb dX1_clashesWith_5 (by decide) (fun hc => ?_) (fun hc => ?_)
  · have hm := dp_in hc hm
    refine lv_iconst (v := 0) hx hb dX1_clashesWith_36 (by decide) ?_
    cases hm
    exact dp_zret X hr hw (by decide) dX1_clashesWith_37
  · have hm := dp_ip hc hm
    refine lv_aload_n hx hb dX1_clashesWith_8 rfl (lv_at hl 1 rfl) ?_
    refine lv_aload_n hx hb dX1_clashesWith_9 rfl (lv_at hl 0 rfl) ?_
    obtain ⟨v2, ev2, hm⟩ := dp_ob hm
    refine dp_cV (As := [.ref (B + x0)]) (rest := []) X hw (c_X1_isNarrowerThan l D a B h x1 x0 ev2) vm_X1_isNarrowerThan ml_X1_71 (by decide) rfl rfl (ck_X1_isNarrowerThan ev2) rfl rfl hl.1 rfl (Nat.le_of_ble_eq_true rfl) dX1_clashesWith_10 ⟨(Nat.zero_le _), (Nat.zero_le _)⟩ (fun H locs hw => ?_)
    refine lv_if_ne (tgt := 36) hx hb dX1_clashesWith_13 (by decide) (fun hc => ?_) (fun hc => ?_)
    · have hm := dp_in hc hm
      refine lv_iconst (v := 0) hx hb dX1_clashesWith_36 (by decide) ?_
      cases hm
      exact dp_zret X hr hw (by decide) dX1_clashesWith_37
    · have hm := dp_ip hc hm
      refine lv_aload_n hx hb dX1_clashesWith_16 rfl (lv_at hl 0 rfl) ?_
      refine lv_aload_n hx hb dX1_clashesWith_17 rfl (lv_at hl 1 rfl) ?_
      obtain ⟨v3, ev3, hm⟩ := dp_ob hm
      refine dp_cV (As := [.ref (B + x1)]) (rest := []) X hw (c_X1_sharesRowWith l D a B h x0 x1 ev3) vm_X1_sharesRowWith ml_X1_75 (by decide) rfl rfl (ck_X1_sharesRowWith ev3) rfl rfl hl.1 rfl (Nat.le_of_ble_eq_true rfl) dX1_clashesWith_18 ⟨(Nat.zero_le _), (Nat.zero_le _)⟩ (fun H locs hw => ?_)
      refine lv_if_eq (tgt := 36) hx hb dX1_clashesWith_21 (by decide) (fun hc => ?_) (fun hc => ?_)
      · have hm := dp_ip hc hm
        refine lv_iconst (v := 0) hx hb dX1_clashesWith_36 (by decide) ?_
        cases hm
        exact dp_zret X hr hw (by decide) dX1_clashesWith_37
      · have hm := dp_in hc hm
        refine lv_aload_n hx hb dX1_clashesWith_24 rfl (lv_at hl 0 rfl) ?_
        refine lv_aload_n hx hb dX1_clashesWith_25 rfl (lv_at hl 1 rfl) ?_
        obtain ⟨v4, ev4, hm⟩ := dp_ob hm
        refine dp_cV (As := [.ref (B + x1)]) (rest := []) X hw (c_X1_doesLike l D a B h x0 x1 ev4) vm_X1_doesLike ml_X1_78 (by decide) rfl rfl (ck_X1_doesLike ev4) rfl rfl hl.1 rfl (Nat.le_of_ble_eq_true rfl) dX1_clashesWith_26 ⟨(Nat.zero_le _), (Nat.zero_le _)⟩ (fun H locs hw => ?_)
        refine lv_if_ne (tgt := 36) hx hb dX1_clashesWith_29 (by decide) (fun hc => ?_) (fun hc => ?_)
        · have hm := dp_in hc hm
          refine lv_iconst (v := 0) hx hb dX1_clashesWith_36 (by decide) ?_
          cases hm
          exact dp_zret X hr hw (by decide) dX1_clashesWith_37
        · have hm := dp_ip hc hm
          refine lv_iconst (v := 1) hx hb dX1_clashesWith_32 (by decide) ?_
          refine lv_goto (tgt := 37) hx hb dX1_clashesWith_33 (by decide) ?_
          cases hm
          exact dp_zret X hr hw (by decide) dX1_clashesWith_37
theorem ck_X2_init {h : dp_H} {x0 : Nat} {h' : dp_H} (hm : m_X2_init h x0 = some h') : dp_is h x0 2 = true := (dp_ck_e hm).1
set_option maxRecDepth 100000 in
set_option maxHeartbeats 4000000 in
theorem c_X2_init (l : Launch) (D : va_G) (a : dp_A) (B : Nat) (h : dp_H) (x0 : Nat) {h' : dp_H} (hm : m_X2_init h x0 = some h') : dp_M l D a B yX2_init cX2_init 1 none rm_X2_init [.ref (B + x0)] h none h' := by
  refine dp_M.of (own := RX2) (nm := "<init>") (by decide) rfl rfl (Nat.le_of_ble_eq_true rfl) ?_
  intro p e s m below meth c ls X hr hin hw hl
  have hl : lv_has ls 1 [(0, .ref (B + x0))] := hl
  obtain ⟨hx, hb, hml, hown, hlk, hK, hB⟩ := id X
  unfold m_X2_init at hm
  obtain ⟨hck, hm⟩ := dp_ck_e hm
  refine lv_aload_n hx hb dX2_init_0 rfl (lv_at hl 0 rfl) ?_
  refine W.objInit hx hb hown (hK.word ml_X2_3 rfl) (hK.word obj_inst rfl) (hK.word obj_code rfl) rfl (hl.1.trans hml.symm) rfl dX2_init_1 (Nat.le_of_ble_eq_true rfl) (Nat.le_of_ble_eq_true rfl) ?_
  refine W.eq (g2 := F0 m 4 ls []) rfl ?_
  refine lv_aload_n hx hb dX2_init_4 rfl (lv_at hl 0 rfl) ?_
  obtain ⟨h1, eh1, hm⟩ := dp_ob hm
  refine dp_newc X hw cl_X1 cn_X2_9 ci_X1 ini_X1 bl_X1_ok eh1 (by decide) (by decide) dX2_init_5 (fun H hw => ?_)
  refine lv_dup hx hb dX2_init_8 rfl ?_
  obtain ⟨h2, eh2, hm⟩ := dp_ob hm
  refine dp_cIN (As := []) (rest := [.ref (B + (List.length h)), .ref (B + x0)]) X hw (c_X1_init l D a B h1 (List.length h) eh2) sm_X1_init rfl in_X1_init nl_X2_11 (by decide) rfl hl.1 rfl (Nat.le_of_ble_eq_true rfl) dX2_init_9 ⟨(by decide), (by decide)⟩ (fun H locs hw => ?_)
  refine W.widen (k := 0 + 1 + 4) (n := 0 + 7 + 242) (Nat.le_refl _) (Nat.le_refl _) ?_
  obtain ⟨h3, eh3, hm⟩ := dp_ob hm
  refine dp_putFr X hin hw cl_X2 0 (by decide) fl_X2_12 rfl rfl (Or.inl ⟨_, rfl⟩) eh3 dX2_init_12 (fun H locs hw => ?_)
  cases hm
  refine W.widen (k := rm_X2_init.cells) (n := rm_X2_init.slots) (by decide) (by decide) ?_
  exact dp_vret X hr hw dX2_init_15
theorem ck_X2_draft {h : dp_H} {x0 : Nat} {r : Nat} (hm : m_X2_draft h x0 = some r) : dp_is h x0 2 = true := (dp_ck_e hm).1
set_option maxRecDepth 100000 in
set_option maxHeartbeats 4000000 in
theorem c_X2_draft (l : Launch) (D : va_G) (a : dp_A) (B : Nat) (h : dp_H) (x0 : Nat) {r : Nat} (hm : m_X2_draft h x0 = some r) : dp_M l D a B yX2_draft cX2_draft 1 (some (.object "DialPlan$Pattern")) rm_X2_draft [.ref (B + x0)] h (some (.ref (B + r))) h := by
  refine dp_M.of (own := RX2) (nm := "draft") (by decide) rfl rfl (Nat.le_of_ble_eq_true rfl) ?_
  intro p e s m below meth c ls X hr hin hw hl
  have hl : lv_has ls 1 [(0, .ref (B + x0))] := hl
  obtain ⟨hx, hb, hml, hown, hlk, hK, hB⟩ := id X
  unfold m_X2_draft at hm
  obtain ⟨hck, hm⟩ := dp_ck_e hm
  refine lv_aload_n hx hb dX2_draft_0 rfl (lv_at hl 0 rfl) ?_
  obtain ⟨v1, ev1, hm⟩ := dp_ob hm
  refine dp_getr X hw cl_X2 0 (by decide) fl_X2_12 ev1 dX2_draft_1 ?_
  cases hm
  exact dp_aret X hr (Or.inl ⟨_, rfl⟩) hw dX2_draft_4
theorem ck_X2_isWhole {h : dp_H} {x0 : Nat} {r : Int32} (hm : m_X2_isWhole h x0 = some r) : dp_is h x0 2 = true := (dp_ck_e hm).1
set_option maxRecDepth 100000 in
set_option maxHeartbeats 4000000 in
theorem c_X2_isWhole (l : Launch) (D : va_G) (a : dp_A) (B : Nat) (h : dp_H) (x0 : Nat) {r : Int32} (hm : m_X2_isWhole h x0 = some r) : dp_M l D a B yX2_isWhole cX2_isWhole 1 (some .boolean) rm_X2_isWhole [.ref (B + x0)] h (some (.int r)) h := by
  refine dp_M.of (own := RX2) (nm := "isWhole") (by decide) rfl rfl (Nat.le_of_ble_eq_true rfl) ?_
  intro p e s m below meth c ls X hr hin hw hl
  have hl : lv_has ls 1 [(0, .ref (B + x0))] := hl
  obtain ⟨hx, hb, hml, hown, hlk, hK, hB⟩ := id X
  unfold m_X2_isWhole at hm
  obtain ⟨hck, hm⟩ := dp_ck_e hm
  refine lv_aload_n hx hb dX2_isWhole_0 rfl (lv_at hl 0 rfl) ?_
  obtain ⟨v1, ev1, hm⟩ := dp_ob hm
  refine dp_geti X hw cl_X2 1 (by decide) fl_X2_18 ev1 dX2_isWhole_1 ?_
  refine lv_bipush (v := 9) hx hb dX2_isWhole_4 (by decide) ?_
  refine lv_icmp_ne (tgt := 13) hx hb dX2_isWhole_6 (by decide) (fun hc => ?_) (fun hc => ?_)
  · have hm := dp_in hc hm
    refine lv_iconst (v := 0) hx hb dX2_isWhole_13 (by decide) ?_
    cases hm
    exact dp_zret X hr hw (by decide) dX2_isWhole_14
  · have hm := dp_ip hc hm
    refine lv_iconst (v := 1) hx hb dX2_isWhole_9 (by decide) ?_
    refine lv_goto (tgt := 14) hx hb dX2_isWhole_10 (by decide) ?_
    cases hm
    exact dp_zret X hr hw (by decide) dX2_isWhole_14
set_option maxRecDepth 100000 in
set_option maxHeartbeats 4000000 in
theorem c_X6_isFigure (l : Launch) (D : va_G) (a : dp_A) (B : Nat) (h : dp_H) (x0 : Int32) {r : Int32} (hm : m_X6_isFigure h x0 = some r) : dp_M l D a B yX6_isFigure cX6_isFigure 1 (some .boolean) rm_X6_isFigure [.int x0] h (some (.int r)) h := by
  refine dp_M.of (own := RX6) (nm := "isFigure") (by decide) rfl rfl (Nat.le_of_ble_eq_true rfl) ?_
  intro p e s m below meth c ls X hr hin hw hl
  have hl : lv_has ls 1 [(0, .int x0)] := hl
  obtain ⟨hx, hb, hml, hown, hlk, hK, hB⟩ := id X
  unfold m_X6_isFigure at hm
  refine lv_iload_n hx hb dX6_isFigure_0 rfl (lv_at hl 0 rfl) ?_
  refine lv_bipush (v := 48) hx hb dX6_isFigure_1 (by decide) ?_
  refine lv_icmp_lt (tgt := 16) hx hb dX6_isFigure_3 (by decide) (fun hc => ?_) (fun hc => ?_)
  · have hm := dp_ip hc hm
    refine lv_iconst (v := 0) hx hb dX6_isFigure_16 (by decide) ?_
    cases hm
    exact dp_zret X hr hw (by decide) dX6_isFigure_17
  · have hm := dp_in hc hm
    refine lv_iload_n hx hb dX6_isFigure_6 rfl (lv_at hl 0 rfl) ?_
    refine lv_bipush (v := 57) hx hb dX6_isFigure_7 (by decide) ?_
    refine lv_icmp_gt (tgt := 16) hx hb dX6_isFigure_9 (by decide) (fun hc => ?_) (fun hc => ?_)
    · have hm := dp_ip hc hm
      refine lv_iconst (v := 0) hx hb dX6_isFigure_16 (by decide) ?_
      cases hm
      exact dp_zret X hr hw (by decide) dX6_isFigure_17
    · have hm := dp_in hc hm
      refine lv_iconst (v := 1) hx hb dX6_isFigure_12 (by decide) ?_
      refine lv_goto (tgt := 17) hx hb dX6_isFigure_13 (by decide) ?_
      cases hm
      exact dp_zret X hr hw (by decide) dX6_isFigure_17
theorem ck_X2_takePlace {h : dp_H} {x0 : Nat} {x1 : Int32} {h' : dp_H} {r : Int32} (hm : m_X2_takePlace h x0 x1 = some (h', r)) : dp_is h x0 2 = true := (dp_ck_e hm).1
set_option maxRecDepth 100000 in
set_option maxHeartbeats 4000000 in
theorem c_X2_takePlace (l : Launch) (D : va_G) (a : dp_A) (B : Nat) (h : dp_H) (x0 : Nat) (x1 : Int32) {h' : dp_H} {r : Int32} (hm : m_X2_takePlace h x0 x1 = some (h', r)) : dp_M l D a B yX2_takePlace cX2_takePlace 2 (some .boolean) rm_X2_takePlace [.ref (B + x0), .int x1] h (some (.int r)) h' := by
  refine dp_M.of (own := RX2) (nm := "takePlace") (by decide) rfl rfl (Nat.le_of_ble_eq_true rfl) ?_
  intro p e s m below meth c ls X hr hin hw hl
  have hl : lv_has ls 2 [(0, .ref (B + x0)), (1, .int x1)] := hl
  obtain ⟨hx, hb, hml, hown, hlk, hK, hB⟩ := id X
  unfold m_X2_takePlace at hm
  obtain ⟨hck, hm⟩ := dp_ck_e hm
  refine lv_iload_n hx hb dX2_takePlace_0 rfl (lv_at hl 1 rfl) ?_
  refine lv_bipush (v := 91) hx hb dX2_takePlace_1 (by decide) ?_
  refine lv_icmp_ne (tgt := 14) hx hb dX2_takePlace_3 (by decide) (fun hc => ?_) (fun hc => ?_)
  · have hm := dp_in hc hm
    refine lv_iload_n hx hb dX2_takePlace_14 rfl (lv_at hl 1 rfl) ?_
    refine lv_bipush (v := 78) hx hb dX2_takePlace_15 (by decide) ?_
    refine lv_icmp_ne (tgt := 33) hx hb dX2_takePlace_17 (by decide) (fun hc => ?_) (fun hc => ?_)
    · have hm := dp_in hc hm
      refine lv_iload_n hx hb dX2_takePlace_33 rfl (lv_at hl 1 rfl) ?_
      refine lv_bipush (v := 88) hx hb dX2_takePlace_34 (by decide) ?_
      refine lv_icmp_ne (tgt := 52) hx hb dX2_takePlace_36 (by decide) (fun hc => ?_) (fun hc => ?_)
      · have hm := dp_in hc hm
        refine lv_iload_n hx hb dX2_takePlace_52 rfl (lv_at hl 1 rfl) ?_
        obtain ⟨v1, ev1, hm⟩ := dp_ob hm
        refine dp_cSN (As := [.int x1]) (rest := []) X hw (c_X6_isFigure l D a B h x1 ev1) sm_X6_isFigure st_X6_isFigure nl_X2_81 (by decide) rfl rfl rfl hl.1 rfl (Nat.le_of_ble_eq_true rfl) dX2_takePlace_53 ⟨(Nat.zero_le _), (Nat.zero_le _)⟩ (fun H locs hw => ?_)
        refine lv_if_eq (tgt := 77) hx hb dX2_takePlace_56 (by decide) (fun hc => ?_) (fun hc => ?_)
        · have hm := dp_ip hc hm
          refine lv_iconst (v := 0) hx hb dX2_takePlace_77 (by decide) ?_
          cases hm
          exact dp_zret X hr hw (by decide) dX2_takePlace_78
        · have hm := dp_in hc hm
          refine lv_aload_n hx hb dX2_takePlace_59 rfl (lv_at hl 0 rfl) ?_
          obtain ⟨v2, ev2, hm⟩ := dp_ob hm
          refine dp_getr X hw cl_X2 0 (by decide) fl_X2_12 ev2 dX2_takePlace_60 ?_
          refine lv_iload_n hx hb dX2_takePlace_63 rfl (lv_at hl 1 rfl) ?_
          refine lv_bipush (v := 48) hx hb dX2_takePlace_64 (by decide) ?_
          refine lv_isub hx hb dX2_takePlace_66 ?_
          refine lv_iload_n hx hb dX2_takePlace_67 rfl (lv_at hl 1 rfl) ?_
          refine lv_bipush (v := 48) hx hb dX2_takePlace_68 (by decide) ?_
          refine lv_isub hx hb dX2_takePlace_70 ?_
          obtain ⟨h3, eh3, hm⟩ := dp_ob hm
          refine dp_cVv (As := [.int (x1 - 48), .int (x1 - 48)]) (rest := []) X hw (c_X1_appendPlace l D a B h v2 (x1 - 48) (x1 - 48) eh3) vm_X1_appendPlace ml_X2_77 (by decide) rfl rfl (ck_X1_appendPlace eh3) rfl rfl hl.1 rfl (Nat.le_of_ble_eq_true rfl) dX2_takePlace_71 ⟨(Nat.zero_le _), (Nat.zero_le _)⟩ (fun H locs hw => ?_)
          refine lv_goto (tgt := 79) hx hb dX2_takePlace_74 (by decide) ?_
          refine lv_iconst (v := 1) hx hb dX2_takePlace_79 (by decide) ?_
          cases hm
          exact dp_zret X hr hw (by decide) dX2_takePlace_80
      · have hm := dp_ip hc hm
        refine lv_aload_n hx hb dX2_takePlace_39 rfl (lv_at hl 0 rfl) ?_
        obtain ⟨v4, ev4, hm⟩ := dp_ob hm
        refine dp_getr X hw cl_X2 0 (by decide) fl_X2_12 ev4 dX2_takePlace_40 ?_
        refine lv_iconst (v := 0) hx hb dX2_takePlace_43 (by decide) ?_
        refine lv_bipush (v := 9) hx hb dX2_takePlace_44 (by decide) ?_
        obtain ⟨h5, eh5, hm⟩ := dp_ob hm
        refine dp_cVv (As := [.int 0, .int 9]) (rest := []) X hw (c_X1_appendPlace l D a B h v4 0 9 eh5) vm_X1_appendPlace ml_X2_77 (by decide) rfl rfl (ck_X1_appendPlace eh5) rfl rfl hl.1 rfl (Nat.le_of_ble_eq_true rfl) dX2_takePlace_46 ⟨(Nat.zero_le _), (Nat.zero_le _)⟩ (fun H locs hw => ?_)
        refine lv_goto (tgt := 79) hx hb dX2_takePlace_49 (by decide) ?_
        refine lv_iconst (v := 1) hx hb dX2_takePlace_79 (by decide) ?_
        cases hm
        exact dp_zret X hr hw (by decide) dX2_takePlace_80
    · have hm := dp_ip hc hm
      refine lv_aload_n hx hb dX2_takePlace_20 rfl (lv_at hl 0 rfl) ?_
      obtain ⟨v6, ev6, hm⟩ := dp_ob hm
      refine dp_getr X hw cl_X2 0 (by decide) fl_X2_12 ev6 dX2_takePlace_21 ?_
      refine lv_iconst (v := 2) hx hb dX2_takePlace_24 (by decide) ?_
      refine lv_bipush (v := 9) hx hb dX2_takePlace_25 (by decide) ?_
      obtain ⟨h7, eh7, hm⟩ := dp_ob hm
      refine dp_cVv (As := [.int 2, .int 9]) (rest := []) X hw (c_X1_appendPlace l D a B h v6 2 9 eh7) vm_X1_appendPlace ml_X2_77 (by decide) rfl rfl (ck_X1_appendPlace eh7) rfl rfl hl.1 rfl (Nat.le_of_ble_eq_true rfl) dX2_takePlace_27 ⟨(Nat.zero_le _), (Nat.zero_le _)⟩ (fun H locs hw => ?_)
      refine lv_goto (tgt := 79) hx hb dX2_takePlace_30 (by decide) ?_
      refine lv_iconst (v := 1) hx hb dX2_takePlace_79 (by decide) ?_
      cases hm
      exact dp_zret X hr hw (by decide) dX2_takePlace_80
  · have hm := dp_ip hc hm
    refine lv_aload_n hx hb dX2_takePlace_6 rfl (lv_at hl 0 rfl) ?_
    refine lv_iconst (v := 1) hx hb dX2_takePlace_7 (by decide) ?_
    obtain ⟨h8, eh8, hm⟩ := dp_ob hm
    refine dp_puti X hw cl_X2 1 (by decide) fl_X2_18 rfl rfl eh8 dX2_takePlace_8 (fun H locs hw => ?_)
    refine lv_goto (tgt := 79) hx hb dX2_takePlace_11 (by decide) ?_
    refine lv_iconst (v := 1) hx hb dX2_takePlace_79 (by decide) ?_
    cases hm
    exact dp_zret X hr hw (by decide) dX2_takePlace_80
set_option maxRecDepth 100000 in
set_option maxHeartbeats 4000000 in
theorem v_X2_takePlaceOrTail_54 {p : Program} {l : Launch} {e : Env} {s : State} {m : MethodId} {args : Array Value} {below : List Frame} {meth : Method} {c : Code} {D : va_G} {a : dp_A} {B : Nat} (X : dp_X p s m meth c cX2_takePlaceOrTail 2 RX2 D a B) (hr : meth.sig.returnType = (some .boolean)) {h' : dp_H} {r : Int32}  : ∀ (h : dp_H) (x0 : Nat) (x1 : Int32), b_X2_takePlaceOrTail_54  h x0 x1 = some (h', r) → ∀ (H : Heap) (locs : List Loc) (ls : Array Slot), dp_w D a B h s.heap H locs → lv_has ls 2 [(0, .ref (B + x0)), (1, .int x1)] → W p l e rm_X2_takePlaceOrTail s m args below meth c H locs 0 0 (MQ below (dp_Q D a B (some (.int r)) h') args s rm_X2_takePlaceOrTail.cells rm_X2_takePlaceOrTail.slots (fun q => B ≤ q)) (F0 m 54 ls []) := by
  intro h x0 x1 hm H locs ls hw hl
  obtain ⟨hx, hb, hml, hown, hlk, hK, hB⟩ := id X
  unfold b_X2_takePlaceOrTail_54 at hm
  refine lv_aload_n hx hb dX2_takePlaceOrTail_54 rfl (lv_at hl 0 rfl) ?_
  obtain ⟨v1, ev1, hm⟩ := dp_ob hm
  refine dp_getr X hw cl_X2 0 (by decide) fl_X2_12 ev1 dX2_takePlaceOrTail_55 ?_
  obtain ⟨v2, ev2, hm⟩ := dp_ob hm
  refine dp_cV (As := []) (rest := []) X hw (c_X1_hasRoom l D a B h v1 ev2) vm_X1_hasRoom ml_X2_70 (by decide) rfl rfl (ck_X1_hasRoom ev2) rfl rfl hl.1 rfl (Nat.le_of_ble_eq_true rfl) dX2_takePlaceOrTail_58 ⟨(Nat.zero_le _), (Nat.zero_le _)⟩ (fun H locs hw => ?_)
  refine lv_if_eq (tgt := 76) hx hb dX2_takePlaceOrTail_61 (by decide) (fun hc => ?_) (fun hc => ?_)
  · have hm := dp_ip hc hm
    refine lv_iconst (v := 0) hx hb dX2_takePlaceOrTail_76 (by decide) ?_
    cases hm
    exact dp_zret X hr hw (by decide) dX2_takePlaceOrTail_77
  · have hm := dp_in hc hm
    refine lv_aload_n hx hb dX2_takePlaceOrTail_64 rfl (lv_at hl 0 rfl) ?_
    refine lv_iload_n hx hb dX2_takePlaceOrTail_65 rfl (lv_at hl 1 rfl) ?_
    obtain ⟨h3, v4, ev4, hm⟩ := dp_ob2 hm
    refine dp_cV (As := [.int x1]) (rest := []) X hw (c_X2_takePlace l D a B h x0 x1 ev4) vm_X2_takePlace ml_X2_74 (by decide) rfl rfl (ck_X2_takePlace ev4) rfl rfl hl.1 rfl (Nat.le_of_ble_eq_true rfl) dX2_takePlaceOrTail_66 ⟨(Nat.zero_le _), (Nat.zero_le _)⟩ (fun H locs hw => ?_)
    refine lv_if_eq (tgt := 76) hx hb dX2_takePlaceOrTail_69 (by decide) (fun hc => ?_) (fun hc => ?_)
    · have hm := dp_ip hc hm
      refine lv_iconst (v := 0) hx hb dX2_takePlaceOrTail_76 (by decide) ?_
      cases hm
      exact dp_zret X hr hw (by decide) dX2_takePlaceOrTail_77
    · have hm := dp_in hc hm
      refine lv_iconst (v := 1) hx hb dX2_takePlaceOrTail_72 (by decide) ?_
      refine lv_goto (tgt := 77) hx hb dX2_takePlaceOrTail_73 (by decide) ?_
      cases hm
      exact dp_zret X hr hw (by decide) dX2_takePlaceOrTail_77
theorem ck_X2_takePlaceOrTail {h : dp_H} {x0 : Nat} {x1 : Int32} {h' : dp_H} {r : Int32} (hm : m_X2_takePlaceOrTail h x0 x1 = some (h', r)) : dp_is h x0 2 = true := (dp_ck_e hm).1
set_option maxRecDepth 100000 in
set_option maxHeartbeats 4000000 in
theorem c_X2_takePlaceOrTail (l : Launch) (D : va_G) (a : dp_A) (B : Nat) (h : dp_H) (x0 : Nat) (x1 : Int32) {h' : dp_H} {r : Int32} (hm : m_X2_takePlaceOrTail h x0 x1 = some (h', r)) : dp_M l D a B yX2_takePlaceOrTail cX2_takePlaceOrTail 2 (some .boolean) rm_X2_takePlaceOrTail [.ref (B + x0), .int x1] h (some (.int r)) h' := by
  refine dp_M.of (own := RX2) (nm := "takePlaceOrTail") (by decide) rfl rfl (Nat.le_of_ble_eq_true rfl) ?_
  intro p e s m below meth c ls X hr hin hw hl
  have hl : lv_has ls 2 [(0, .ref (B + x0)), (1, .int x1)] := hl
  obtain ⟨hx, hb, hml, hown, hlk, hK, hB⟩ := id X
  unfold m_X2_takePlaceOrTail at hm
  obtain ⟨hck, hm⟩ := dp_ck_e hm
  refine lv_aload_n hx hb dX2_takePlaceOrTail_0 rfl (lv_at hl 0 rfl) ?_
  obtain ⟨v1, ev1, hm⟩ := dp_ob hm
  refine dp_getr X hw cl_X2 0 (by decide) fl_X2_12 ev1 dX2_takePlaceOrTail_1 ?_
  obtain ⟨v2, ev2, hm⟩ := dp_ob hm
  refine dp_cV (As := []) (rest := []) X hw (c_X1_places l D a B h v1 ev2) vm_X1_places ml_X2_64 (by decide) rfl rfl (ck_X1_places ev2) rfl rfl hl.1 rfl (Nat.le_of_ble_eq_true rfl) dX2_takePlaceOrTail_4 ⟨(Nat.zero_le _), (Nat.zero_le _)⟩ (fun H locs hw => ?_)
  refine lv_if_le (tgt := 30) hx hb dX2_takePlaceOrTail_7 (by decide) (fun hc => ?_) (fun hc => ?_)
  · have hm := dp_ip hc hm
    refine lv_aload_n hx hb dX2_takePlaceOrTail_30 rfl (lv_at hl 0 rfl) ?_
    obtain ⟨v3, ev3, hm⟩ := dp_ob hm
    refine dp_getr X hw cl_X2 0 (by decide) fl_X2_12 ev3 dX2_takePlaceOrTail_31 ?_
    obtain ⟨v4, ev4, hm⟩ := dp_ob hm
    refine dp_cV (As := []) (rest := []) X hw (c_X1_places l D a B h v3 ev4) vm_X1_places ml_X2_64 (by decide) rfl rfl (ck_X1_places ev4) rfl rfl hl.1 rfl (Nat.le_of_ble_eq_true rfl) dX2_takePlaceOrTail_34 ⟨(Nat.zero_le _), (Nat.zero_le _)⟩ (fun H locs hw => ?_)
    refine lv_if_le (tgt := 54) hx hb dX2_takePlaceOrTail_37 (by decide) (fun hc => ?_) (fun hc => ?_)
    · have hm := dp_ip hc hm
      exact v_X2_takePlaceOrTail_54 X hr h x0 x1 hm _ _ _ hw (lv_sub hl [0, 1] rfl)
    · have hm := dp_in hc hm
      refine lv_iload_n hx hb dX2_takePlaceOrTail_40 rfl (lv_at hl 1 rfl) ?_
      refine lv_bipush (v := 61) hx hb dX2_takePlaceOrTail_41 (by decide) ?_
      refine lv_icmp_ne (tgt := 54) hx hb dX2_takePlaceOrTail_43 (by decide) (fun hc => ?_) (fun hc => ?_)
      · have hm := dp_in hc hm
        exact v_X2_takePlaceOrTail_54 X hr h x0 x1 hm _ _ _ hw (lv_sub hl [0, 1] rfl)
      · have hm := dp_ip hc hm
        refine lv_aload_n hx hb dX2_takePlaceOrTail_46 rfl (lv_at hl 0 rfl) ?_
        refine lv_bipush (v := 6) hx hb dX2_takePlaceOrTail_47 (by decide) ?_
        obtain ⟨h5, eh5, hm⟩ := dp_ob hm
        refine dp_puti X hw cl_X2 1 (by decide) fl_X2_18 rfl rfl eh5 dX2_takePlaceOrTail_49 (fun H locs hw => ?_)
        refine lv_iconst (v := 1) hx hb dX2_takePlaceOrTail_52 (by decide) ?_
        cases hm
        exact dp_zret X hr hw (by decide) dX2_takePlaceOrTail_53
  · have hm := dp_in hc hm
    refine lv_iload_n hx hb dX2_takePlaceOrTail_10 rfl (lv_at hl 1 rfl) ?_
    refine lv_bipush (v := 46) hx hb dX2_takePlaceOrTail_11 (by decide) ?_
    refine lv_icmp_ne (tgt := 30) hx hb dX2_takePlaceOrTail_13 (by decide) (fun hc => ?_) (fun hc => ?_)
    · have hm := dp_in hc hm
      refine lv_aload_n hx hb dX2_takePlaceOrTail_30 rfl (lv_at hl 0 rfl) ?_
      obtain ⟨v6, ev6, hm⟩ := dp_ob hm
      refine dp_getr X hw cl_X2 0 (by decide) fl_X2_12 ev6 dX2_takePlaceOrTail_31 ?_
      obtain ⟨v7, ev7, hm⟩ := dp_ob hm
      refine dp_cV (As := []) (rest := []) X hw (c_X1_places l D a B h v6 ev7) vm_X1_places ml_X2_64 (by decide) rfl rfl (ck_X1_places ev7) rfl rfl hl.1 rfl (Nat.le_of_ble_eq_true rfl) dX2_takePlaceOrTail_34 ⟨(Nat.zero_le _), (Nat.zero_le _)⟩ (fun H locs hw => ?_)
      refine lv_if_le (tgt := 54) hx hb dX2_takePlaceOrTail_37 (by decide) (fun hc => ?_) (fun hc => ?_)
      · have hm := dp_ip hc hm
        exact v_X2_takePlaceOrTail_54 X hr h x0 x1 hm _ _ _ hw (lv_sub hl [0, 1] rfl)
      · have hm := dp_in hc hm
        refine lv_iload_n hx hb dX2_takePlaceOrTail_40 rfl (lv_at hl 1 rfl) ?_
        refine lv_bipush (v := 61) hx hb dX2_takePlaceOrTail_41 (by decide) ?_
        refine lv_icmp_ne (tgt := 54) hx hb dX2_takePlaceOrTail_43 (by decide) (fun hc => ?_) (fun hc => ?_)
        · have hm := dp_in hc hm
          exact v_X2_takePlaceOrTail_54 X hr h x0 x1 hm _ _ _ hw (lv_sub hl [0, 1] rfl)
        · have hm := dp_ip hc hm
          refine lv_aload_n hx hb dX2_takePlaceOrTail_46 rfl (lv_at hl 0 rfl) ?_
          refine lv_bipush (v := 6) hx hb dX2_takePlaceOrTail_47 (by decide) ?_
          obtain ⟨h8, eh8, hm⟩ := dp_ob hm
          refine dp_puti X hw cl_X2 1 (by decide) fl_X2_18 rfl rfl eh8 dX2_takePlaceOrTail_49 (fun H locs hw => ?_)
          refine lv_iconst (v := 1) hx hb dX2_takePlaceOrTail_52 (by decide) ?_
          cases hm
          exact dp_zret X hr hw (by decide) dX2_takePlaceOrTail_53
    · have hm := dp_ip hc hm
      refine lv_aload_n hx hb dX2_takePlaceOrTail_16 rfl (lv_at hl 0 rfl) ?_
      obtain ⟨v9, ev9, hm⟩ := dp_ob hm
      refine dp_getr X hw cl_X2 0 (by decide) fl_X2_12 ev9 dX2_takePlaceOrTail_17 ?_
      obtain ⟨h10, eh10, hm⟩ := dp_ob hm
      refine dp_cVv (As := []) (rest := []) X hw (c_X1_makeOpen l D a B h v9 eh10) vm_X1_makeOpen ml_X2_67 (by decide) rfl rfl (ck_X1_makeOpen eh10) rfl rfl hl.1 rfl (Nat.le_of_ble_eq_true rfl) dX2_takePlaceOrTail_20 ⟨(Nat.zero_le _), (Nat.zero_le _)⟩ (fun H locs hw => ?_)
      refine lv_aload_n hx hb dX2_takePlaceOrTail_23 rfl (lv_at hl 0 rfl) ?_
      refine lv_iconst (v := 5) hx hb dX2_takePlaceOrTail_24 (by decide) ?_
      obtain ⟨h11, eh11, hm⟩ := dp_ob hm
      refine dp_puti X hw cl_X2 1 (by decide) fl_X2_18 rfl rfl eh11 dX2_takePlaceOrTail_25 (fun H locs hw => ?_)
      refine lv_iconst (v := 1) hx hb dX2_takePlaceOrTail_28 (by decide) ?_
      cases hm
      exact dp_zret X hr hw (by decide) dX2_takePlaceOrTail_29
theorem ck_X2_takeLow {h : dp_H} {x0 : Nat} {x1 : Int32} {h' : dp_H} {r : Int32} (hm : m_X2_takeLow h x0 x1 = some (h', r)) : dp_is h x0 2 = true := (dp_ck_e hm).1
set_option maxRecDepth 100000 in
set_option maxHeartbeats 4000000 in
theorem c_X2_takeLow (l : Launch) (D : va_G) (a : dp_A) (B : Nat) (h : dp_H) (x0 : Nat) (x1 : Int32) {h' : dp_H} {r : Int32} (hm : m_X2_takeLow h x0 x1 = some (h', r)) : dp_M l D a B yX2_takeLow cX2_takeLow 2 (some .boolean) rm_X2_takeLow [.ref (B + x0), .int x1] h (some (.int r)) h' := by
  refine dp_M.of (own := RX2) (nm := "takeLow") (by decide) rfl rfl (Nat.le_of_ble_eq_true rfl) ?_
  intro p e s m below meth c ls X hr hin hw hl
  have hl : lv_has ls 2 [(0, .ref (B + x0)), (1, .int x1)] := hl
  obtain ⟨hx, hb, hml, hown, hlk, hK, hB⟩ := id X
  unfold m_X2_takeLow at hm
  obtain ⟨hck, hm⟩ := dp_ck_e hm
  refine lv_iload_n hx hb dX2_takeLow_0 rfl (lv_at hl 1 rfl) ?_
  obtain ⟨v1, ev1, hm⟩ := dp_ob hm
  refine dp_cSN (As := [.int x1]) (rest := []) X hw (c_X6_isFigure l D a B h x1 ev1) sm_X6_isFigure st_X6_isFigure nl_X2_81 (by decide) rfl rfl rfl hl.1 rfl (Nat.le_of_ble_eq_true rfl) dX2_takeLow_1 ⟨(Nat.zero_le _), (Nat.zero_le _)⟩ (fun H locs hw => ?_)
  refine lv_if_eq (tgt := 13) hx hb dX2_takeLow_4 (by decide) (fun hc => ?_) (fun hc => ?_)
  · have hm := dp_ip hc hm
    refine lv_iconst (v := 0) hx hb dX2_takeLow_13 (by decide) ?_
    cases hm
    exact dp_zret X hr hw (by decide) dX2_takeLow_14
  · have hm := dp_in hc hm
    refine lv_iload_n hx hb dX2_takeLow_7 rfl (lv_at hl 1 rfl) ?_
    refine lv_bipush (v := 57) hx hb dX2_takeLow_8 (by decide) ?_
    refine lv_icmp_ne (tgt := 15) hx hb dX2_takeLow_10 (by decide) (fun hc => ?_) (fun hc => ?_)
    · have hm := dp_in hc hm
      refine lv_aload_n hx hb dX2_takeLow_15 rfl (lv_at hl 0 rfl) ?_
      refine lv_iload_n hx hb dX2_takeLow_16 rfl (lv_at hl 1 rfl) ?_
      refine lv_bipush (v := 48) hx hb dX2_takeLow_17 (by decide) ?_
      refine lv_isub hx hb dX2_takeLow_19 ?_
      obtain ⟨h2, eh2, hm⟩ := dp_ob hm
      refine dp_puti X hw cl_X2 2 (by decide) fl_X2_84 rfl rfl eh2 dX2_takeLow_20 (fun H locs hw => ?_)
      refine lv_aload_n hx hb dX2_takeLow_23 rfl (lv_at hl 0 rfl) ?_
      refine lv_iconst (v := 2) hx hb dX2_takeLow_24 (by decide) ?_
      obtain ⟨h3, eh3, hm⟩ := dp_ob hm
      refine dp_puti X hw cl_X2 1 (by decide) fl_X2_18 rfl rfl eh3 dX2_takeLow_25 (fun H locs hw => ?_)
      refine lv_iconst (v := 1) hx hb dX2_takeLow_28 (by decide) ?_
      cases hm
      exact dp_zret X hr hw (by decide) dX2_takeLow_29
    · have hm := dp_ip hc hm
      refine lv_iconst (v := 0) hx hb dX2_takeLow_13 (by decide) ?_
      cases hm
      exact dp_zret X hr hw (by decide) dX2_takeLow_14
theorem ck_X2_takeSign {h : dp_H} {x0 : Nat} {x1 : Int32} {x2 : Int32} {x3 : Int32} {h' : dp_H} {r : Int32} (hm : m_X2_takeSign h x0 x1 x2 x3 = some (h', r)) : dp_is h x0 2 = true := (dp_ck_e hm).1
set_option maxRecDepth 100000 in
set_option maxHeartbeats 4000000 in
theorem c_X2_takeSign (l : Launch) (D : va_G) (a : dp_A) (B : Nat) (h : dp_H) (x0 : Nat) (x1 : Int32) (x2 : Int32) (x3 : Int32) {h' : dp_H} {r : Int32} (hm : m_X2_takeSign h x0 x1 x2 x3 = some (h', r)) : dp_M l D a B yX2_takeSign cX2_takeSign 4 (some .boolean) rm_X2_takeSign [.ref (B + x0), .int x1, .int x2, .int x3] h (some (.int r)) h' := by
  refine dp_M.of (own := RX2) (nm := "takeSign") (by decide) rfl rfl (Nat.le_of_ble_eq_true rfl) ?_
  intro p e s m below meth c ls X hr hin hw hl
  have hl : lv_has ls 4 [(0, .ref (B + x0)), (1, .int x1), (2, .int x2), (3, .int x3)] := hl
  obtain ⟨hx, hb, hml, hown, hlk, hK, hB⟩ := id X
  unfold m_X2_takeSign at hm
  obtain ⟨hck, hm⟩ := dp_ck_e hm
  refine lv_iload_n hx hb dX2_takeSign_0 rfl (lv_at hl 1 rfl) ?_
  refine lv_iload_n hx hb dX2_takeSign_1 rfl (lv_at hl 2 rfl) ?_
  refine lv_icmp_eq (tgt := 7) hx hb dX2_takeSign_2 (by decide) (fun hc => ?_) (fun hc => ?_)
  · have hm := dp_ip hc hm
    refine lv_aload_n hx hb dX2_takeSign_7 rfl (lv_at hl 0 rfl) ?_
    refine lv_iload_n hx hb dX2_takeSign_8 rfl (lv_at hl 3 rfl) ?_
    obtain ⟨h1, eh1, hm⟩ := dp_ob hm
    refine dp_puti X hw cl_X2 1 (by decide) fl_X2_18 rfl rfl eh1 dX2_takeSign_9 (fun H locs hw => ?_)
    refine lv_iconst (v := 1) hx hb dX2_takeSign_12 (by decide) ?_
    cases hm
    exact dp_zret X hr hw (by decide) dX2_takeSign_13
  · have hm := dp_in hc hm
    refine lv_iconst (v := 0) hx hb dX2_takeSign_5 (by decide) ?_
    cases hm
    exact dp_zret X hr hw (by decide) dX2_takeSign_6
theorem ck_X2_takeHigh {h : dp_H} {x0 : Nat} {x1 : Int32} {h' : dp_H} {r : Int32} (hm : m_X2_takeHigh h x0 x1 = some (h', r)) : dp_is h x0 2 = true := (dp_ck_e hm).1
set_option maxRecDepth 100000 in
set_option maxHeartbeats 4000000 in
theorem c_X2_takeHigh (l : Launch) (D : va_G) (a : dp_A) (B : Nat) (h : dp_H) (x0 : Nat) (x1 : Int32) {h' : dp_H} {r : Int32} (hm : m_X2_takeHigh h x0 x1 = some (h', r)) : dp_M l D a B yX2_takeHigh cX2_takeHigh 2 (some .boolean) rm_X2_takeHigh [.ref (B + x0), .int x1] h (some (.int r)) h' := by
  refine dp_M.of (own := RX2) (nm := "takeHigh") (by decide) rfl rfl (Nat.le_of_ble_eq_true rfl) ?_
  intro p e s m below meth c ls X hr hin hw hl
  have hl : lv_has ls 2 [(0, .ref (B + x0)), (1, .int x1)] := hl
  obtain ⟨hx, hb, hml, hown, hlk, hK, hB⟩ := id X
  unfold m_X2_takeHigh at hm
  obtain ⟨hck, hm⟩ := dp_ck_e hm
  refine lv_iload_n hx hb dX2_takeHigh_0 rfl (lv_at hl 1 rfl) ?_
  obtain ⟨v1, ev1, hm⟩ := dp_ob hm
  refine dp_cSN (As := [.int x1]) (rest := []) X hw (c_X6_isFigure l D a B h x1 ev1) sm_X6_isFigure st_X6_isFigure nl_X2_81 (by decide) rfl rfl rfl hl.1 rfl (Nat.le_of_ble_eq_true rfl) dX2_takeHigh_1 ⟨(Nat.zero_le _), (Nat.zero_le _)⟩ (fun H locs hw => ?_)
  refine lv_if_eq (tgt := 18) hx hb dX2_takeHigh_4 (by decide) (fun hc => ?_) (fun hc => ?_)
  · have hm := dp_ip hc hm
    refine lv_iconst (v := 0) hx hb dX2_takeHigh_18 (by decide) ?_
    cases hm
    exact dp_zret X hr hw (by decide) dX2_takeHigh_19
  · have hm := dp_in hc hm
    refine lv_iload_n hx hb dX2_takeHigh_7 rfl (lv_at hl 1 rfl) ?_
    refine lv_bipush (v := 48) hx hb dX2_takeHigh_8 (by decide) ?_
    refine lv_isub hx hb dX2_takeHigh_10 ?_
    refine lv_aload_n hx hb dX2_takeHigh_11 rfl (lv_at hl 0 rfl) ?_
    obtain ⟨v2, ev2, hm⟩ := dp_ob hm
    refine dp_geti X hw cl_X2 2 (by decide) fl_X2_84 ev2 dX2_takeHigh_12 ?_
    refine lv_icmp_gt (tgt := 20) hx hb dX2_takeHigh_15 (by decide) (fun hc => ?_) (fun hc => ?_)
    · have hm := dp_ip hc hm
      refine lv_aload_n hx hb dX2_takeHigh_20 rfl (lv_at hl 0 rfl) ?_
      refine lv_iload_n hx hb dX2_takeHigh_21 rfl (lv_at hl 1 rfl) ?_
      refine lv_bipush (v := 48) hx hb dX2_takeHigh_22 (by decide) ?_
      refine lv_isub hx hb dX2_takeHigh_24 ?_
      obtain ⟨h3, eh3, hm⟩ := dp_ob hm
      refine dp_puti X hw cl_X2 3 (by decide) fl_X2_87 rfl rfl eh3 dX2_takeHigh_25 (fun H locs hw => ?_)
      refine lv_aload_n hx hb dX2_takeHigh_28 rfl (lv_at hl 0 rfl) ?_
      refine lv_iconst (v := 4) hx hb dX2_takeHigh_29 (by decide) ?_
      obtain ⟨h4, eh4, hm⟩ := dp_ob hm
      refine dp_puti X hw cl_X2 1 (by decide) fl_X2_18 rfl rfl eh4 dX2_takeHigh_30 (fun H locs hw => ?_)
      refine lv_iconst (v := 1) hx hb dX2_takeHigh_33 (by decide) ?_
      cases hm
      exact dp_zret X hr hw (by decide) dX2_takeHigh_34
    · have hm := dp_in hc hm
      refine lv_iconst (v := 0) hx hb dX2_takeHigh_18 (by decide) ?_
      cases hm
      exact dp_zret X hr hw (by decide) dX2_takeHigh_19
theorem ck_X2_takeBracket {h : dp_H} {x0 : Nat} {x1 : Int32} {h' : dp_H} {r : Int32} (hm : m_X2_takeBracket h x0 x1 = some (h', r)) : dp_is h x0 2 = true := (dp_ck_e hm).1
set_option maxRecDepth 100000 in
set_option maxHeartbeats 4000000 in
theorem c_X2_takeBracket (l : Launch) (D : va_G) (a : dp_A) (B : Nat) (h : dp_H) (x0 : Nat) (x1 : Int32) {h' : dp_H} {r : Int32} (hm : m_X2_takeBracket h x0 x1 = some (h', r)) : dp_M l D a B yX2_takeBracket cX2_takeBracket 2 (some .boolean) rm_X2_takeBracket [.ref (B + x0), .int x1] h (some (.int r)) h' := by
  refine dp_M.of (own := RX2) (nm := "takeBracket") (by decide) rfl rfl (Nat.le_of_ble_eq_true rfl) ?_
  intro p e s m below meth c ls X hr hin hw hl
  have hl : lv_has ls 2 [(0, .ref (B + x0)), (1, .int x1)] := hl
  obtain ⟨hx, hb, hml, hown, hlk, hK, hB⟩ := id X
  unfold m_X2_takeBracket at hm
  obtain ⟨hck, hm⟩ := dp_ck_e hm
  refine lv_iload_n hx hb dX2_takeBracket_0 rfl (lv_at hl 1 rfl) ?_
  refine lv_bipush (v := 93) hx hb dX2_takeBracket_1 (by decide) ?_
  refine lv_icmp_eq (tgt := 8) hx hb dX2_takeBracket_3 (by decide) (fun hc => ?_) (fun hc => ?_)
  · have hm := dp_ip hc hm
    refine lv_aload_n hx hb dX2_takeBracket_8 rfl (lv_at hl 0 rfl) ?_
    obtain ⟨v1, ev1, hm⟩ := dp_ob hm
    refine dp_getr X hw cl_X2 0 (by decide) fl_X2_12 ev1 dX2_takeBracket_9 ?_
    refine lv_aload_n hx hb dX2_takeBracket_12 rfl (lv_at hl 0 rfl) ?_
    obtain ⟨v2, ev2, hm⟩ := dp_ob hm
    refine dp_geti X hw cl_X2 2 (by decide) fl_X2_84 ev2 dX2_takeBracket_13 ?_
    refine lv_aload_n hx hb dX2_takeBracket_16 rfl (lv_at hl 0 rfl) ?_
    obtain ⟨v3, ev3, hm⟩ := dp_ob hm
    refine dp_geti X hw cl_X2 3 (by decide) fl_X2_87 ev3 dX2_takeBracket_17 ?_
    obtain ⟨h4, eh4, hm⟩ := dp_ob hm
    refine dp_cVv (As := [.int v2, .int v3]) (rest := []) X hw (c_X1_appendPlace l D a B h v1 v2 v3 eh4) vm_X1_appendPlace ml_X2_77 (by decide) rfl rfl (ck_X1_appendPlace eh4) rfl rfl hl.1 rfl (Nat.le_of_ble_eq_true rfl) dX2_takeBracket_20 ⟨(Nat.zero_le _), (Nat.zero_le _)⟩ (fun H locs hw => ?_)
    refine lv_aload_n hx hb dX2_takeBracket_23 rfl (lv_at hl 0 rfl) ?_
    refine lv_iconst (v := 0) hx hb dX2_takeBracket_24 (by decide) ?_
    obtain ⟨h5, eh5, hm⟩ := dp_ob hm
    refine dp_puti X hw cl_X2 1 (by decide) fl_X2_18 rfl rfl eh5 dX2_takeBracket_25 (fun H locs hw => ?_)
    refine lv_iconst (v := 1) hx hb dX2_takeBracket_28 (by decide) ?_
    cases hm
    exact dp_zret X hr hw (by decide) dX2_takeBracket_29
  · have hm := dp_in hc hm
    refine lv_iconst (v := 0) hx hb dX2_takeBracket_6 (by decide) ?_
    cases hm
    exact dp_zret X hr hw (by decide) dX2_takeBracket_7
set_option maxRecDepth 100000 in
set_option maxHeartbeats 4000000 in
theorem c_X2_wayOf (l : Launch) (D : va_G) (a : dp_A) (B : Nat) (h : dp_H) (x0 : Int32) {r : Int32} (hm : m_X2_wayOf h x0 = some r) : dp_M l D a B yX2_wayOf cX2_wayOf 1 (some .int) rm_X2_wayOf [.int x0] h (some (.int r)) h := by
  refine dp_M.of (own := RX2) (nm := "wayOf") (by decide) rfl rfl (Nat.le_of_ble_eq_true rfl) ?_
  intro p e s m below meth c ls X hr hin hw hl
  have hl : lv_has ls 1 [(0, .int x0)] := hl
  obtain ⟨hx, hb, hml, hown, hlk, hK, hB⟩ := id X
  unfold m_X2_wayOf at hm
  refine lv_iload_n hx hb dX2_wayOf_0 rfl (lv_at hl 0 rfl) ?_
  refine lv_bipush (v := 97) hx hb dX2_wayOf_1 (by decide) ?_
  refine lv_icmp_lt (tgt := 17) hx hb dX2_wayOf_3 (by decide) (fun hc => ?_) (fun hc => ?_)
  · have hm := dp_ip hc hm
    refine lv_iload_n hx hb dX2_wayOf_17 rfl (lv_at hl 0 rfl) ?_
    by_cases hc0 : x0 = 33
    · have hm := dp_ip hc0 hm
      refine lv_lookup (off := 37) (tgt := 55) hx hb dX2_wayOf_18 (by decide) (by rw [hc0]; first | done | decide) (by decide) ?_
      refine lv_bipush (v := 9) hx hb dX2_wayOf_55 (by decide) ?_
      cases hm
      exact dp_iret X hr hw dX2_wayOf_57
    have hm := dp_in hc0 hm
    by_cases hc1 : x0 = 42
    · have hm := dp_ip hc1 hm
      refine lv_lookup (off := 40) (tgt := 58) hx hb dX2_wayOf_18 (by decide) (by rw [hc1]; first | done | decide) (by decide) ?_
      refine lv_bipush (v := 10) hx hb dX2_wayOf_58 (by decide) ?_
      cases hm
      exact dp_iret X hr hw dX2_wayOf_60
    have hm := dp_in hc1 hm
    by_cases hc2 : x0 = 45
    · have hm := dp_ip hc2 hm
      refine lv_lookup (off := 34) (tgt := 52) hx hb dX2_wayOf_18 (by decide) (by rw [hc2]; first | done | decide) (by decide) ?_
      refine lv_bipush (v := 8) hx hb dX2_wayOf_52 (by decide) ?_
      cases hm
      exact dp_iret X hr hw dX2_wayOf_54
    have hm := dp_in hc2 hm
    refine lv_lookup (off := 43) (tgt := 61) hx hb dX2_wayOf_18 (by decide) (by show Op.lookupswitch.offset [(33, 37), (42, 40), (45, 34)] 43 (Int32.toInt x0) = 43; rw [lv_osw (k := 33) hc0 (by decide)]; rw [lv_osw (k := 42) hc1 (by decide)]; rw [lv_osw (k := 45) hc2 (by decide)]; rfl) (by decide) ?_
    refine lv_iconst (v := (-1)) hx hb dX2_wayOf_61 (by decide) ?_
    cases hm
    exact dp_iret X hr hw dX2_wayOf_62
  · have hm := dp_in hc hm
    refine lv_iload_n hx hb dX2_wayOf_6 rfl (lv_at hl 0 rfl) ?_
    refine lv_bipush (v := 104) hx hb dX2_wayOf_7 (by decide) ?_
    refine lv_icmp_gt (tgt := 17) hx hb dX2_wayOf_9 (by decide) (fun hc => ?_) (fun hc => ?_)
    · have hm := dp_ip hc hm
      refine lv_iload_n hx hb dX2_wayOf_17 rfl (lv_at hl 0 rfl) ?_
      by_cases hc0 : x0 = 33
      · have hm := dp_ip hc0 hm
        refine lv_lookup (off := 37) (tgt := 55) hx hb dX2_wayOf_18 (by decide) (by rw [hc0]; first | done | decide) (by decide) ?_
        refine lv_bipush (v := 9) hx hb dX2_wayOf_55 (by decide) ?_
        cases hm
        exact dp_iret X hr hw dX2_wayOf_57
      have hm := dp_in hc0 hm
      by_cases hc1 : x0 = 42
      · have hm := dp_ip hc1 hm
        refine lv_lookup (off := 40) (tgt := 58) hx hb dX2_wayOf_18 (by decide) (by rw [hc1]; first | done | decide) (by decide) ?_
        refine lv_bipush (v := 10) hx hb dX2_wayOf_58 (by decide) ?_
        cases hm
        exact dp_iret X hr hw dX2_wayOf_60
      have hm := dp_in hc1 hm
      by_cases hc2 : x0 = 45
      · have hm := dp_ip hc2 hm
        refine lv_lookup (off := 34) (tgt := 52) hx hb dX2_wayOf_18 (by decide) (by rw [hc2]; first | done | decide) (by decide) ?_
        refine lv_bipush (v := 8) hx hb dX2_wayOf_52 (by decide) ?_
        cases hm
        exact dp_iret X hr hw dX2_wayOf_54
      have hm := dp_in hc2 hm
      refine lv_lookup (off := 43) (tgt := 61) hx hb dX2_wayOf_18 (by decide) (by show Op.lookupswitch.offset [(33, 37), (42, 40), (45, 34)] 43 (Int32.toInt x0) = 43; rw [lv_osw (k := 33) hc0 (by decide)]; rw [lv_osw (k := 42) hc1 (by decide)]; rw [lv_osw (k := 45) hc2 (by decide)]; rfl) (by decide) ?_
      refine lv_iconst (v := (-1)) hx hb dX2_wayOf_61 (by decide) ?_
      cases hm
      exact dp_iret X hr hw dX2_wayOf_62
    · have hm := dp_in hc hm
      refine lv_iload_n hx hb dX2_wayOf_12 rfl (lv_at hl 0 rfl) ?_
      refine lv_bipush (v := 97) hx hb dX2_wayOf_13 (by decide) ?_
      refine lv_isub hx hb dX2_wayOf_15 ?_
      cases hm
      exact dp_iret X hr hw dX2_wayOf_16
theorem ck_X2_takeWay {h : dp_H} {x0 : Nat} {x1 : Int32} {h' : dp_H} {r : Int32} (hm : m_X2_takeWay h x0 x1 = some (h', r)) : dp_is h x0 2 = true := (dp_ck_e hm).1
set_option maxRecDepth 100000 in
set_option maxHeartbeats 4000000 in
theorem c_X2_takeWay (l : Launch) (D : va_G) (a : dp_A) (B : Nat) (h : dp_H) (x0 : Nat) (x1 : Int32) {h' : dp_H} {r : Int32} (hm : m_X2_takeWay h x0 x1 = some (h', r)) : dp_M l D a B yX2_takeWay cX2_takeWay 3 (some .boolean) rm_X2_takeWay [.ref (B + x0), .int x1] h (some (.int r)) h' := by
  refine dp_M.of (own := RX2) (nm := "takeWay") (by decide) rfl rfl (Nat.le_of_ble_eq_true rfl) ?_
  intro p e s m below meth c ls X hr hin hw hl
  have hl : lv_has ls 3 [(0, .ref (B + x0)), (1, .int x1)] := hl
  obtain ⟨hx, hb, hml, hown, hlk, hK, hB⟩ := id X
  unfold m_X2_takeWay at hm
  obtain ⟨hck, hm⟩ := dp_ck_e hm
  refine lv_iload_n hx hb dX2_takeWay_0 rfl (lv_at hl 1 rfl) ?_
  obtain ⟨v1, ev1, hm⟩ := dp_ob hm
  refine dp_cS (As := [.int x1]) (rest := []) X hw (c_X2_wayOf l D a B h x1 ev1) sm_X2_wayOf st_X2_wayOf ml_X2_90 (by decide) rfl rfl rfl hl.1 rfl (Nat.le_of_ble_eq_true rfl) dX2_takeWay_1 ⟨(Nat.zero_le _), (Nat.zero_le _)⟩ (fun H locs hw => ?_)
  refine lv_istore_n (lv' := [(2, .int v1), (0, .ref (B + x0)), (1, .int x1)]) hx hb dX2_takeWay_4 rfl hl (by decide) rfl (fun ls hl => ?_)
  refine lv_iload_n hx hb dX2_takeWay_5 rfl (lv_at hl 0 rfl) ?_
  refine lv_iconst (v := (-1)) hx hb dX2_takeWay_6 (by decide) ?_
  refine lv_icmp_ne (tgt := 12) hx hb dX2_takeWay_7 (by decide) (fun hc => ?_) (fun hc => ?_)
  · have hm := dp_in hc hm
    refine lv_aload_n hx hb dX2_takeWay_12 rfl (lv_at hl 1 rfl) ?_
    obtain ⟨v2, ev2, hm⟩ := dp_ob hm
    refine dp_getr X hw cl_X2 0 (by decide) fl_X2_12 ev2 dX2_takeWay_13 ?_
    refine lv_iload_n hx hb dX2_takeWay_16 rfl (lv_at hl 0 rfl) ?_
    obtain ⟨h3, eh3, hm⟩ := dp_ob hm
    refine dp_cVv (As := [.int v1]) (rest := []) X hw (c_X1_setWay l D a B h v2 v1 eh3) vm_X1_setWay ml_X2_93 (by decide) rfl rfl (ck_X1_setWay eh3) rfl rfl hl.1 rfl (Nat.le_of_ble_eq_true rfl) dX2_takeWay_17 ⟨(Nat.zero_le _), (Nat.zero_le _)⟩ (fun H locs hw => ?_)
    refine lv_aload_n hx hb dX2_takeWay_20 rfl (lv_at hl 1 rfl) ?_
    refine lv_bipush (v := 7) hx hb dX2_takeWay_21 (by decide) ?_
    obtain ⟨h4, eh4, hm⟩ := dp_ob hm
    refine dp_puti X hw cl_X2 1 (by decide) fl_X2_18 rfl rfl eh4 dX2_takeWay_23 (fun H locs hw => ?_)
    refine lv_iconst (v := 1) hx hb dX2_takeWay_26 (by decide) ?_
    cases hm
    exact dp_zret X hr hw (by decide) dX2_takeWay_27
  · have hm := dp_ip hc hm
    refine lv_iconst (v := 0) hx hb dX2_takeWay_10 (by decide) ?_
    cases hm
    exact dp_zret X hr hw (by decide) dX2_takeWay_11
theorem ck_X2_takeDrop {h : dp_H} {x0 : Nat} {x1 : Int32} {h' : dp_H} {r : Int32} (hm : m_X2_takeDrop h x0 x1 = some (h', r)) : dp_is h x0 2 = true := (dp_ck_e hm).1
set_option maxRecDepth 100000 in
set_option maxHeartbeats 4000000 in
theorem c_X2_takeDrop (l : Launch) (D : va_G) (a : dp_A) (B : Nat) (h : dp_H) (x0 : Nat) (x1 : Int32) {h' : dp_H} {r : Int32} (hm : m_X2_takeDrop h x0 x1 = some (h', r)) : dp_M l D a B yX2_takeDrop cX2_takeDrop 2 (some .boolean) rm_X2_takeDrop [.ref (B + x0), .int x1] h (some (.int r)) h' := by
  refine dp_M.of (own := RX2) (nm := "takeDrop") (by decide) rfl rfl (Nat.le_of_ble_eq_true rfl) ?_
  intro p e s m below meth c ls X hr hin hw hl
  have hl : lv_has ls 2 [(0, .ref (B + x0)), (1, .int x1)] := hl
  obtain ⟨hx, hb, hml, hown, hlk, hK, hB⟩ := id X
  unfold m_X2_takeDrop at hm
  obtain ⟨hck, hm⟩ := dp_ck_e hm
  refine lv_iload_n hx hb dX2_takeDrop_0 rfl (lv_at hl 1 rfl) ?_
  obtain ⟨v1, ev1, hm⟩ := dp_ob hm
  refine dp_cSN (As := [.int x1]) (rest := []) X hw (c_X6_isFigure l D a B h x1 ev1) sm_X6_isFigure st_X6_isFigure nl_X2_81 (by decide) rfl rfl rfl hl.1 rfl (Nat.le_of_ble_eq_true rfl) dX2_takeDrop_1 ⟨(Nat.zero_le _), (Nat.zero_le _)⟩ (fun H locs hw => ?_)
  refine lv_if_eq (tgt := 21) hx hb dX2_takeDrop_4 (by decide) (fun hc => ?_) (fun hc => ?_)
  · have hm := dp_ip hc hm
    refine lv_iconst (v := 0) hx hb dX2_takeDrop_21 (by decide) ?_
    cases hm
    exact dp_zret X hr hw (by decide) dX2_takeDrop_22
  · have hm := dp_in hc hm
    refine lv_iload_n hx hb dX2_takeDrop_7 rfl (lv_at hl 1 rfl) ?_
    refine lv_bipush (v := 48) hx hb dX2_takeDrop_8 (by decide) ?_
    refine lv_isub hx hb dX2_takeDrop_10 ?_
    refine lv_aload_n hx hb dX2_takeDrop_11 rfl (lv_at hl 0 rfl) ?_
    obtain ⟨v2, ev2, hm⟩ := dp_ob hm
    refine dp_getr X hw cl_X2 0 (by decide) fl_X2_12 ev2 dX2_takeDrop_12 ?_
    obtain ⟨v3, ev3, hm⟩ := dp_ob hm
    refine dp_cV (As := []) (rest := [.int (x1 - 48)]) X hw (c_X1_places l D a B h v2 ev3) vm_X1_places ml_X2_64 (by decide) rfl rfl (ck_X1_places ev3) rfl rfl hl.1 rfl (Nat.le_of_ble_eq_true rfl) dX2_takeDrop_15 ⟨(Nat.zero_le _), (Nat.zero_le _)⟩ (fun H locs hw => ?_)
    refine lv_icmp_le (tgt := 23) hx hb dX2_takeDrop_18 (by decide) (fun hc => ?_) (fun hc => ?_)
    · have hm := dp_ip hc hm
      refine lv_aload_n hx hb dX2_takeDrop_23 rfl (lv_at hl 0 rfl) ?_
      obtain ⟨v4, ev4, hm⟩ := dp_ob hm
      refine dp_getr X hw cl_X2 0 (by decide) fl_X2_12 ev4 dX2_takeDrop_24 ?_
      refine lv_iload_n hx hb dX2_takeDrop_27 rfl (lv_at hl 1 rfl) ?_
      refine lv_bipush (v := 48) hx hb dX2_takeDrop_28 (by decide) ?_
      refine lv_isub hx hb dX2_takeDrop_30 ?_
      obtain ⟨h5, eh5, hm⟩ := dp_ob hm
      refine dp_cVv (As := [.int (x1 - 48)]) (rest := []) X hw (c_X1_setDropped l D a B h v4 (x1 - 48) eh5) vm_X1_setDropped ml_X2_97 (by decide) rfl rfl (ck_X1_setDropped eh5) rfl rfl hl.1 rfl (Nat.le_of_ble_eq_true rfl) dX2_takeDrop_31 ⟨(Nat.zero_le _), (Nat.zero_le _)⟩ (fun H locs hw => ?_)
      refine lv_aload_n hx hb dX2_takeDrop_34 rfl (lv_at hl 0 rfl) ?_
      refine lv_bipush (v := 9) hx hb dX2_takeDrop_35 (by decide) ?_
      obtain ⟨h6, eh6, hm⟩ := dp_ob hm
      refine dp_puti X hw cl_X2 1 (by decide) fl_X2_18 rfl rfl eh6 dX2_takeDrop_37 (fun H locs hw => ?_)
      refine lv_iconst (v := 1) hx hb dX2_takeDrop_40 (by decide) ?_
      cases hm
      exact dp_zret X hr hw (by decide) dX2_takeDrop_41
    · have hm := dp_in hc hm
      refine lv_iconst (v := 0) hx hb dX2_takeDrop_21 (by decide) ?_
      cases hm
      exact dp_zret X hr hw (by decide) dX2_takeDrop_22
theorem ck_X2_takeAhead {h : dp_H} {x0 : Nat} {x1 : Int32} {h' : dp_H} {r : Int32} (hm : m_X2_takeAhead h x0 x1 = some (h', r)) : dp_is h x0 2 = true := (dp_ck_e hm).1
set_option maxRecDepth 100000 in
set_option maxHeartbeats 4000000 in
theorem c_X2_takeAhead (l : Launch) (D : va_G) (a : dp_A) (B : Nat) (h : dp_H) (x0 : Nat) (x1 : Int32) {h' : dp_H} {r : Int32} (hm : m_X2_takeAhead h x0 x1 = some (h', r)) : dp_M l D a B yX2_takeAhead cX2_takeAhead 2 (some .boolean) rm_X2_takeAhead [.ref (B + x0), .int x1] h (some (.int r)) h' := by
  refine dp_M.of (own := RX2) (nm := "takeAhead") (by decide) rfl rfl (Nat.le_of_ble_eq_true rfl) ?_
  intro p e s m below meth c ls X hr hin hw hl
  have hl : lv_has ls 2 [(0, .ref (B + x0)), (1, .int x1)] := hl
  obtain ⟨hx, hb, hml, hown, hlk, hK, hB⟩ := id X
  unfold m_X2_takeAhead at hm
  obtain ⟨hck, hm⟩ := dp_ck_e hm
  refine lv_iload_n hx hb dX2_takeAhead_0 rfl (lv_at hl 1 rfl) ?_
  obtain ⟨v1, ev1, hm⟩ := dp_ob hm
  refine dp_cSN (As := [.int x1]) (rest := []) X hw (c_X6_isFigure l D a B h x1 ev1) sm_X6_isFigure st_X6_isFigure nl_X2_81 (by decide) rfl rfl rfl hl.1 rfl (Nat.le_of_ble_eq_true rfl) dX2_takeAhead_1 ⟨(Nat.zero_le _), (Nat.zero_le _)⟩ (fun H locs hw => ?_)
  refine lv_if_eq (tgt := 28) hx hb dX2_takeAhead_4 (by decide) (fun hc => ?_) (fun hc => ?_)
  · have hm := dp_ip hc hm
    refine lv_iconst (v := 0) hx hb dX2_takeAhead_28 (by decide) ?_
    cases hm
    exact dp_zret X hr hw (by decide) dX2_takeAhead_29
  · have hm := dp_in hc hm
    refine lv_aload_n hx hb dX2_takeAhead_7 rfl (lv_at hl 0 rfl) ?_
    obtain ⟨v2, ev2, hm⟩ := dp_ob hm
    refine dp_getr X hw cl_X2 0 (by decide) fl_X2_12 ev2 dX2_takeAhead_8 ?_
    obtain ⟨v3, ev3, hm⟩ := dp_ob hm
    refine dp_cV (As := []) (rest := []) X hw (c_X1_ahead l D a B h v2 ev3) vm_X1_ahead ml_X2_100 (by decide) rfl rfl (ck_X1_ahead ev3) rfl rfl hl.1 rfl (Nat.le_of_ble_eq_true rfl) dX2_takeAhead_11 ⟨(Nat.zero_le _), (Nat.zero_le _)⟩ (fun H locs hw => ?_)
    refine lv_iload_n hx hb dX2_takeAhead_14 rfl (lv_at hl 1 rfl) ?_
    refine lv_bipush (v := 48) hx hb dX2_takeAhead_15 (by decide) ?_
    refine lv_isub hx hb dX2_takeAhead_17 ?_
    obtain ⟨h4, v5, ev5, hm⟩ := dp_ob2 hm
    refine dp_cV (As := [.int (x1 - 48)]) (rest := []) X hw (c_X5_append l D a B h v3 (x1 - 48) ev5) vm_X5_append ml_X2_104 (by decide) rfl rfl (ck_X5_append ev5) rfl rfl hl.1 rfl (Nat.le_of_ble_eq_true rfl) dX2_takeAhead_18 ⟨(Nat.zero_le _), (Nat.zero_le _)⟩ (fun H locs hw => ?_)
    refine lv_if_eq (tgt := 28) hx hb dX2_takeAhead_21 (by decide) (fun hc => ?_) (fun hc => ?_)
    · have hm := dp_ip hc hm
      refine lv_iconst (v := 0) hx hb dX2_takeAhead_28 (by decide) ?_
      cases hm
      exact dp_zret X hr hw (by decide) dX2_takeAhead_29
    · have hm := dp_in hc hm
      refine lv_iconst (v := 1) hx hb dX2_takeAhead_24 (by decide) ?_
      refine lv_goto (tgt := 29) hx hb dX2_takeAhead_25 (by decide) ?_
      cases hm
      exact dp_zret X hr hw (by decide) dX2_takeAhead_29
theorem ck_X2_take {h : dp_H} {x0 : Nat} {x1 : Int32} {h' : dp_H} {r : Int32} (hm : m_X2_take h x0 x1 = some (h', r)) : dp_is h x0 2 = true := (dp_ck_e hm).1
set_option maxRecDepth 100000 in
set_option maxHeartbeats 4000000 in
theorem c_X2_take (l : Launch) (D : va_G) (a : dp_A) (B : Nat) (h : dp_H) (x0 : Nat) (x1 : Int32) {h' : dp_H} {r : Int32} (hm : m_X2_take h x0 x1 = some (h', r)) : dp_M l D a B yX2_take cX2_take 2 (some .boolean) rm_X2_take [.ref (B + x0), .int x1] h (some (.int r)) h' := by
  refine dp_M.of (own := RX2) (nm := "take") (by decide) rfl rfl (Nat.le_of_ble_eq_true rfl) ?_
  intro p e s m below meth c ls X hr hin hw hl
  have hl : lv_has ls 2 [(0, .ref (B + x0)), (1, .int x1)] := hl
  obtain ⟨hx, hb, hml, hown, hlk, hK, hB⟩ := id X
  unfold m_X2_take at hm
  obtain ⟨hck, hm⟩ := dp_ck_e hm
  refine lv_aload_n hx hb dX2_take_0 rfl (lv_at hl 0 rfl) ?_
  obtain ⟨v1, ev1, hm⟩ := dp_ob hm
  refine dp_geti X hw cl_X2 1 (by decide) fl_X2_18 ev1 dX2_take_1 ?_
  by_cases hc0 : v1 = 0
  · have hm := dp_ip hc0 hm
    refine lv_tableIn (off := 52) (tgt := 56) hx hb dX2_take_4 (by rw [hc0]; first | done | decide) (by rw [hc0]; first | done | decide) (by rw [hc0]; first | done | decide) (by decide) ?_
    refine lv_aload_n hx hb dX2_take_56 rfl (lv_at hl 0 rfl) ?_
    refine lv_iload_n hx hb dX2_take_57 rfl (lv_at hl 1 rfl) ?_
    obtain ⟨h2, v3, ev3, hm⟩ := dp_ob2 hm
    refine dp_cV (As := [.int x1]) (rest := []) X hw (c_X2_takePlaceOrTail l D a B h x0 x1 ev3) vm_X2_takePlaceOrTail ml_X2_39 (by decide) rfl rfl (ck_X2_takePlaceOrTail ev3) rfl rfl hl.1 rfl (Nat.le_of_ble_eq_true rfl) dX2_take_58 ⟨(Nat.zero_le _), (Nat.zero_le _)⟩ (fun H locs hw => ?_)
    obtain ⟨hz, hm⟩ := dp_b_e hm
    cases hm
    exact dp_zret X hr hw hz dX2_take_61
  have hm := dp_in hc0 hm
  by_cases hc1 : v1 = 1
  · have hm := dp_ip hc1 hm
    refine lv_tableIn (off := 58) (tgt := 62) hx hb dX2_take_4 (by rw [hc1]; first | done | decide) (by rw [hc1]; first | done | decide) (by rw [hc1]; first | done | decide) (by decide) ?_
    refine lv_aload_n hx hb dX2_take_62 rfl (lv_at hl 0 rfl) ?_
    refine lv_iload_n hx hb dX2_take_63 rfl (lv_at hl 1 rfl) ?_
    obtain ⟨h4, v5, ev5, hm⟩ := dp_ob2 hm
    refine dp_cV (As := [.int x1]) (rest := []) X hw (c_X2_takeLow l D a B h x0 x1 ev5) vm_X2_takeLow ml_X2_42 (by decide) rfl rfl (ck_X2_takeLow ev5) rfl rfl hl.1 rfl (Nat.le_of_ble_eq_true rfl) dX2_take_64 ⟨(Nat.zero_le _), (Nat.zero_le _)⟩ (fun H locs hw => ?_)
    obtain ⟨hz, hm⟩ := dp_b_e hm
    cases hm
    exact dp_zret X hr hw hz dX2_take_67
  have hm := dp_in hc1 hm
  by_cases hc2 : v1 = 2
  · have hm := dp_ip hc2 hm
    refine lv_tableIn (off := 64) (tgt := 68) hx hb dX2_take_4 (by rw [hc2]; first | done | decide) (by rw [hc2]; first | done | decide) (by rw [hc2]; first | done | decide) (by decide) ?_
    refine lv_aload_n hx hb dX2_take_68 rfl (lv_at hl 0 rfl) ?_
    refine lv_iload_n hx hb dX2_take_69 rfl (lv_at hl 1 rfl) ?_
    refine lv_bipush (v := 45) hx hb dX2_take_70 (by decide) ?_
    refine lv_iconst (v := 3) hx hb dX2_take_72 (by decide) ?_
    obtain ⟨h6, v7, ev7, hm⟩ := dp_ob2 hm
    refine dp_cV (As := [.int x1, .int 45, .int 3]) (rest := []) X hw (c_X2_takeSign l D a B h x0 x1 45 3 ev7) vm_X2_takeSign ml_X2_45 (by decide) rfl rfl (ck_X2_takeSign ev7) rfl rfl hl.1 rfl (Nat.le_of_ble_eq_true rfl) dX2_take_73 ⟨(Nat.zero_le _), (Nat.zero_le _)⟩ (fun H locs hw => ?_)
    obtain ⟨hz, hm⟩ := dp_b_e hm
    cases hm
    exact dp_zret X hr hw hz dX2_take_76
  have hm := dp_in hc2 hm
  by_cases hc3 : v1 = 3
  · have hm := dp_ip hc3 hm
    refine lv_tableIn (off := 73) (tgt := 77) hx hb dX2_take_4 (by rw [hc3]; first | done | decide) (by rw [hc3]; first | done | decide) (by rw [hc3]; first | done | decide) (by decide) ?_
    refine lv_aload_n hx hb dX2_take_77 rfl (lv_at hl 0 rfl) ?_
    refine lv_iload_n hx hb dX2_take_78 rfl (lv_at hl 1 rfl) ?_
    obtain ⟨h8, v9, ev9, hm⟩ := dp_ob2 hm
    refine dp_cV (As := [.int x1]) (rest := []) X hw (c_X2_takeHigh l D a B h x0 x1 ev9) vm_X2_takeHigh ml_X2_49 (by decide) rfl rfl (ck_X2_takeHigh ev9) rfl rfl hl.1 rfl (Nat.le_of_ble_eq_true rfl) dX2_take_79 ⟨(Nat.zero_le _), (Nat.zero_le _)⟩ (fun H locs hw => ?_)
    obtain ⟨hz, hm⟩ := dp_b_e hm
    cases hm
    exact dp_zret X hr hw hz dX2_take_82
  have hm := dp_in hc3 hm
  by_cases hc4 : v1 = 4
  · have hm := dp_ip hc4 hm
    refine lv_tableIn (off := 79) (tgt := 83) hx hb dX2_take_4 (by rw [hc4]; first | done | decide) (by rw [hc4]; first | done | decide) (by rw [hc4]; first | done | decide) (by decide) ?_
    refine lv_aload_n hx hb dX2_take_83 rfl (lv_at hl 0 rfl) ?_
    refine lv_iload_n hx hb dX2_take_84 rfl (lv_at hl 1 rfl) ?_
    obtain ⟨h10, v11, ev11, hm⟩ := dp_ob2 hm
    refine dp_cV (As := [.int x1]) (rest := []) X hw (c_X2_takeBracket l D a B h x0 x1 ev11) vm_X2_takeBracket ml_X2_52 (by decide) rfl rfl (ck_X2_takeBracket ev11) rfl rfl hl.1 rfl (Nat.le_of_ble_eq_true rfl) dX2_take_85 ⟨(Nat.zero_le _), (Nat.zero_le _)⟩ (fun H locs hw => ?_)
    obtain ⟨hz, hm⟩ := dp_b_e hm
    cases hm
    exact dp_zret X hr hw hz dX2_take_88
  have hm := dp_in hc4 hm
  by_cases hc5 : v1 = 5
  · have hm := dp_ip hc5 hm
    refine lv_tableIn (off := 85) (tgt := 89) hx hb dX2_take_4 (by rw [hc5]; first | done | decide) (by rw [hc5]; first | done | decide) (by rw [hc5]; first | done | decide) (by decide) ?_
    refine lv_aload_n hx hb dX2_take_89 rfl (lv_at hl 0 rfl) ?_
    refine lv_iload_n hx hb dX2_take_90 rfl (lv_at hl 1 rfl) ?_
    refine lv_bipush (v := 61) hx hb dX2_take_91 (by decide) ?_
    refine lv_bipush (v := 6) hx hb dX2_take_93 (by decide) ?_
    obtain ⟨h12, v13, ev13, hm⟩ := dp_ob2 hm
    refine dp_cV (As := [.int x1, .int 61, .int 6]) (rest := []) X hw (c_X2_takeSign l D a B h x0 x1 61 6 ev13) vm_X2_takeSign ml_X2_45 (by decide) rfl rfl (ck_X2_takeSign ev13) rfl rfl hl.1 rfl (Nat.le_of_ble_eq_true rfl) dX2_take_95 ⟨(Nat.zero_le _), (Nat.zero_le _)⟩ (fun H locs hw => ?_)
    obtain ⟨hz, hm⟩ := dp_b_e hm
    cases hm
    exact dp_zret X hr hw hz dX2_take_98
  have hm := dp_in hc5 hm
  by_cases hc6 : v1 = 6
  · have hm := dp_ip hc6 hm
    refine lv_tableIn (off := 95) (tgt := 99) hx hb dX2_take_4 (by rw [hc6]; first | done | decide) (by rw [hc6]; first | done | decide) (by rw [hc6]; first | done | decide) (by decide) ?_
    refine lv_aload_n hx hb dX2_take_99 rfl (lv_at hl 0 rfl) ?_
    refine lv_iload_n hx hb dX2_take_100 rfl (lv_at hl 1 rfl) ?_
    obtain ⟨h14, v15, ev15, hm⟩ := dp_ob2 hm
    refine dp_cV (As := [.int x1]) (rest := []) X hw (c_X2_takeWay l D a B h x0 x1 ev15) vm_X2_takeWay ml_X2_55 (by decide) rfl rfl (ck_X2_takeWay ev15) rfl rfl hl.1 rfl (Nat.le_of_ble_eq_true rfl) dX2_take_101 ⟨(Nat.zero_le _), (Nat.zero_le _)⟩ (fun H locs hw => ?_)
    obtain ⟨hz, hm⟩ := dp_b_e hm
    cases hm
    exact dp_zret X hr hw hz dX2_take_104
  have hm := dp_in hc6 hm
  by_cases hc7 : v1 = 7
  · have hm := dp_ip hc7 hm
    refine lv_tableIn (off := 101) (tgt := 105) hx hb dX2_take_4 (by rw [hc7]; first | done | decide) (by rw [hc7]; first | done | decide) (by rw [hc7]; first | done | decide) (by decide) ?_
    refine lv_aload_n hx hb dX2_take_105 rfl (lv_at hl 0 rfl) ?_
    refine lv_iload_n hx hb dX2_take_106 rfl (lv_at hl 1 rfl) ?_
    refine lv_bipush (v := 58) hx hb dX2_take_107 (by decide) ?_
    refine lv_bipush (v := 8) hx hb dX2_take_109 (by decide) ?_
    obtain ⟨h16, v17, ev17, hm⟩ := dp_ob2 hm
    refine dp_cV (As := [.int x1, .int 58, .int 8]) (rest := []) X hw (c_X2_takeSign l D a B h x0 x1 58 8 ev17) vm_X2_takeSign ml_X2_45 (by decide) rfl rfl (ck_X2_takeSign ev17) rfl rfl hl.1 rfl (Nat.le_of_ble_eq_true rfl) dX2_take_111 ⟨(Nat.zero_le _), (Nat.zero_le _)⟩ (fun H locs hw => ?_)
    obtain ⟨hz, hm⟩ := dp_b_e hm
    cases hm
    exact dp_zret X hr hw hz dX2_take_114
  have hm := dp_in hc7 hm
  by_cases hc8 : v1 = 8
  · have hm := dp_ip hc8 hm
    refine lv_tableIn (off := 111) (tgt := 115) hx hb dX2_take_4 (by rw [hc8]; first | done | decide) (by rw [hc8]; first | done | decide) (by rw [hc8]; first | done | decide) (by decide) ?_
    refine lv_aload_n hx hb dX2_take_115 rfl (lv_at hl 0 rfl) ?_
    refine lv_iload_n hx hb dX2_take_116 rfl (lv_at hl 1 rfl) ?_
    obtain ⟨h18, v19, ev19, hm⟩ := dp_ob2 hm
    refine dp_cV (As := [.int x1]) (rest := []) X hw (c_X2_takeDrop l D a B h x0 x1 ev19) vm_X2_takeDrop ml_X2_58 (by decide) rfl rfl (ck_X2_takeDrop ev19) rfl rfl hl.1 rfl (Nat.le_of_ble_eq_true rfl) dX2_take_117 ⟨(Nat.zero_le _), (Nat.zero_le _)⟩ (fun H locs hw => ?_)
    obtain ⟨hz, hm⟩ := dp_b_e hm
    cases hm
    exact dp_zret X hr hw hz dX2_take_120
  have hm := dp_in hc8 hm
  have hd0 : Int32.toInt v1 ≠ 0 := fun q => hc0 (Int32.toInt_inj.mp (q.trans (by decide)))
  have hd1 : Int32.toInt v1 ≠ 1 := fun q => hc1 (Int32.toInt_inj.mp (q.trans (by decide)))
  have hd2 : Int32.toInt v1 ≠ 2 := fun q => hc2 (Int32.toInt_inj.mp (q.trans (by decide)))
  have hd3 : Int32.toInt v1 ≠ 3 := fun q => hc3 (Int32.toInt_inj.mp (q.trans (by decide)))
  have hd4 : Int32.toInt v1 ≠ 4 := fun q => hc4 (Int32.toInt_inj.mp (q.trans (by decide)))
  have hd5 : Int32.toInt v1 ≠ 5 := fun q => hc5 (Int32.toInt_inj.mp (q.trans (by decide)))
  have hd6 : Int32.toInt v1 ≠ 6 := fun q => hc6 (Int32.toInt_inj.mp (q.trans (by decide)))
  have hd7 : Int32.toInt v1 ≠ 7 := fun q => hc7 (Int32.toInt_inj.mp (q.trans (by decide)))
  have hd8 : Int32.toInt v1 ≠ 8 := fun q => hc8 (Int32.toInt_inj.mp (q.trans (by decide)))
  refine lv_tableOut (tgt := 121) hx hb dX2_take_4 (by omega) (by decide) ?_
  refine lv_aload_n hx hb dX2_take_121 rfl (lv_at hl 0 rfl) ?_
  refine lv_iload_n hx hb dX2_take_122 rfl (lv_at hl 1 rfl) ?_
  obtain ⟨h20, v21, ev21, hm⟩ := dp_ob2 hm
  refine dp_cV (As := [.int x1]) (rest := []) X hw (c_X2_takeAhead l D a B h x0 x1 ev21) vm_X2_takeAhead ml_X2_61 (by decide) rfl rfl (ck_X2_takeAhead ev21) rfl rfl hl.1 rfl (Nat.le_of_ble_eq_true rfl) dX2_take_123 ⟨(Nat.zero_le _), (Nat.zero_le _)⟩ (fun H locs hw => ?_)
  obtain ⟨hz, hm⟩ := dp_b_e hm
  cases hm
  exact dp_zret X hr hw hz dX2_take_126
