set_option maxRecDepth 100000 in
set_option maxHeartbeats 4000000 in
theorem v_X2_scan_14 {p : Program} {l : Launch} {e : Env} {s : State} {m : MethodId} {args : Array Value} {below : List Frame} {meth : Method} {c : Code} {D : va_G} {a : dp_A} {B : Nat} (X : dp_X p s m meth c cX2_scan 3 RX2 D a B) (hr : meth.sig.returnType = (some .int)) {h' : dp_H} {r : Int32} {k14 : dp_H → Nat → Nat → Int32 → Option (dp_H × Int32)} (hk14 : ∀ (h : dp_H) (x0 : Nat) (x1 : Nat) (x2 : Int32), k14 h x0 x1 x2 = some (h', r) → ∀ (H : Heap) (locs : List Loc) (ls : Array Slot), dp_w D a B h s.heap H locs → lv_has ls 3 [(0, .ref (B + x0)), (1, .ref (B + x1)), (2, .int x2)] → W p l e rm_X2_scan s m args below meth c H locs 0 0 (MQ below (dp_Q D a B (some (.int r)) h') args s rm_X2_scan.cells rm_X2_scan.slots (fun q => B ≤ q)) (F0 m 14 ls [])) : ∀ (h : dp_H) (x0 : Nat) (x1 : Nat) (x2 : Int32), b_X2_scan_14 k14 h x0 x1 x2 = some (h', r) → ∀ (H : Heap) (locs : List Loc) (ls : Array Slot), dp_w D a B h s.heap H locs → lv_has ls 3 [(0, .ref (B + x0)), (1, .ref (B + x1)), (2, .int x2)] → W p l e rm_X2_scan s m args below meth c H locs 0 0 (MQ below (dp_Q D a B (some (.int r)) h') args s rm_X2_scan.cells rm_X2_scan.slots (fun q => B ≤ q)) (F0 m 14 ls []) := by
  intro h x0 x1 x2 hm H locs ls hw hl
  obtain ⟨hx, hb, hml, hown, hlk, hK, hB⟩ := id X
  unfold b_X2_scan_14 at hm
  refine lv_iload_n hx hb dX2_scan_14 rfl (lv_at hl 2 rfl) ?_
  refine lv_aload_n hx hb dX2_scan_15 rfl (lv_at hl 1 rfl) ?_
  obtain ⟨v1, ev1, hm⟩ := dp_ob hm
  refine dp_cV (As := []) (rest := [.int x2]) X hw (c_X5_size l D a B h x1 ev1) vm_X5_size ml_X2_25 (by decide) rfl rfl (ck_X5_size ev1) rfl rfl hl.1 rfl (Nat.le_of_ble_eq_true rfl) dX2_scan_16 ⟨(Nat.zero_le _), (Nat.zero_le _)⟩ (fun H locs hw => ?_)
  refine lv_icmp_ge (tgt := 42) hx hb dX2_scan_19 (by decide) (fun hc => ?_) (fun hc => ?_)
  · have hm := dp_ip hc hm
    refine lv_aload_n hx hb dX2_scan_42 rfl (lv_at hl 1 rfl) ?_
    obtain ⟨v2, ev2, hm⟩ := dp_ob hm
    refine dp_cV (As := []) (rest := []) X hw (c_X5_size l D a B h x1 ev2) vm_X5_size ml_X2_25 (by decide) rfl rfl (ck_X5_size ev2) rfl rfl hl.1 rfl (Nat.le_of_ble_eq_true rfl) dX2_scan_43 ⟨(Nat.zero_le _), (Nat.zero_le _)⟩ (fun H locs hw => ?_)
    cases hm
    exact dp_iret X hr hw dX2_scan_46
  · have hm := dp_in hc hm
    refine lv_aload_n hx hb dX2_scan_22 rfl (lv_at hl 0 rfl) ?_
    refine lv_aload_n hx hb dX2_scan_23 rfl (lv_at hl 1 rfl) ?_
    refine lv_iload_n hx hb dX2_scan_24 rfl (lv_at hl 2 rfl) ?_
    obtain ⟨v3, ev3, hm⟩ := dp_ob hm
    refine dp_cV (As := [.int x2]) (rest := [.ref (B + x0)]) X hw (c_X5_at l D a B h x1 x2 ev3) vm_X5_at ml_X2_31 (by decide) rfl rfl (ck_X5_at ev3) rfl rfl hl.1 rfl (Nat.le_of_ble_eq_true rfl) dX2_scan_25 ⟨(Nat.zero_le _), (Nat.zero_le _)⟩ (fun H locs hw => ?_)
    obtain ⟨h4, v5, ev5, hm⟩ := dp_ob2 hm
    refine dp_cV (As := [.int v3]) (rest := []) X hw (c_X2_take l D a B h x0 v3 ev5) vm_X2_take ml_X2_35 (by decide) rfl rfl (ck_X2_take ev5) rfl rfl hl.1 rfl (Nat.le_of_ble_eq_true rfl) dX2_scan_28 ⟨(Nat.zero_le _), (Nat.zero_le _)⟩ (fun H locs hw => ?_)
    refine lv_if_ne (tgt := 36) hx hb dX2_scan_31 (by decide) (fun hc => ?_) (fun hc => ?_)
    · have hm := dp_in hc hm
      refine lv_iinc (v := (x2 + 1)) (lv' := [(2, .int (x2 + 1)), (0, .ref (B + x0)), (1, .ref (B + x1))]) hx hb dX2_scan_36 hl (k := 2) rfl rfl (by decide) rfl (fun ls hl => ?_)
      refine lv_goto (tgt := 14) hx hb dX2_scan_39 (by decide) ?_
      exact hk14 h4 x0 x1 (x2 + 1) hm _ _ _ hw (lv_sub hl [1, 2, 0] rfl)
    · have hm := dp_ip hc hm
      refine lv_iload_n hx hb dX2_scan_34 rfl (lv_at hl 2 rfl) ?_
      cases hm
      exact dp_iret X hr hw dX2_scan_35
set_option maxRecDepth 100000 in
set_option maxHeartbeats 4000000 in
theorem w_X2_scan_14 {p : Program} {l : Launch} {e : Env} {s : State} {m : MethodId} {args : Array Value} {below : List Frame} {meth : Method} {c : Code} {D : va_G} {a : dp_A} {B : Nat} (X : dp_X p s m meth c cX2_scan 3 RX2 D a B) (hr : meth.sig.returnType = (some .int)) {h' : dp_H} {r : Int32}  : ∀ (n : Nat) (h : dp_H) (x0 : Nat) (x1 : Nat) (x2 : Int32), m_X2_scan_14  n h x0 x1 x2 = some (h', r) → ∀ (H : Heap) (locs : List Loc) (ls : Array Slot), dp_w D a B h s.heap H locs → lv_has ls 3 [(0, .ref (B + x0)), (1, .ref (B + x1)), (2, .int x2)] → W p l e rm_X2_scan s m args below meth c H locs 0 0 (MQ below (dp_Q D a B (some (.int r)) h') args s rm_X2_scan.cells rm_X2_scan.slots (fun q => B ≤ q)) (F0 m 14 ls []) := by
  intro n
  induction n with
  | zero => intro h x0 x1 x2 hm; cases hm
  | succ n ih => intro h x0 x1 x2 hm; exact v_X2_scan_14 X hr ih h x0 x1 x2 hm
theorem ck_X2_scan {h : dp_H} {x0 : Nat} {x1 : Nat} {h' : dp_H} {r : Int32} (hm : m_X2_scan h x0 x1 = some (h', r)) : dp_is h x0 2 = true := (dp_ck_e hm).1
set_option maxRecDepth 100000 in
set_option maxHeartbeats 4000000 in
theorem c_X2_scan (l : Launch) (D : va_G) (a : dp_A) (B : Nat) (h : dp_H) (x0 : Nat) (x1 : Nat) {h' : dp_H} {r : Int32} (hm : m_X2_scan h x0 x1 = some (h', r)) : dp_M l D a B yX2_scan cX2_scan 3 (some .int) rm_X2_scan [.ref (B + x0), .ref (B + x1)] h (some (.int r)) h' := by
  refine dp_M.of (own := RX2) (nm := "scan") (by decide) rfl rfl (Nat.le_of_ble_eq_true rfl) ?_
  intro p e s m below meth c ls X hr hin hw hl
  have hl : lv_has ls 3 [(0, .ref (B + x0)), (1, .ref (B + x1))] := hl
  obtain ⟨hx, hb, hml, hown, hlk, hK, hB⟩ := id X
  unfold m_X2_scan at hm
  obtain ⟨hck, hm⟩ := dp_ck_e hm
  refine lv_aload_n hx hb dX2_scan_0 rfl (lv_at hl 0 rfl) ?_
  obtain ⟨v1, ev1, hm⟩ := dp_ob hm
  refine dp_getr X hw cl_X2 0 (by decide) fl_X2_12 ev1 dX2_scan_1 ?_
  obtain ⟨h2, eh2, hm⟩ := dp_ob hm
  refine dp_cVv (As := []) (rest := []) X hw (c_X1_clear l D a B h v1 eh2) vm_X1_clear ml_X2_22 (by decide) rfl rfl (ck_X1_clear eh2) rfl rfl hl.1 rfl (Nat.le_of_ble_eq_true rfl) dX2_scan_4 ⟨(Nat.zero_le _), (Nat.zero_le _)⟩ (fun H locs hw => ?_)
  refine lv_aload_n hx hb dX2_scan_7 rfl (lv_at hl 0 rfl) ?_
  refine lv_iconst (v := 0) hx hb dX2_scan_8 (by decide) ?_
  obtain ⟨h3, eh3, hm⟩ := dp_ob hm
  refine dp_puti X hw cl_X2 1 (by decide) fl_X2_18 rfl rfl eh3 dX2_scan_9 (fun H locs hw => ?_)
  refine lv_iconst (v := 0) hx hb dX2_scan_12 (by decide) ?_
  refine lv_istore_n (lv' := [(2, .int 0), (0, .ref (B + x0)), (1, .ref (B + x1))]) hx hb dX2_scan_13 rfl hl (by decide) rfl (fun ls hl => ?_)
  exact w_X2_scan_14 X hr 64 h3 x0 x1 0 hm _ _ _ hw (lv_sub hl [1, 2, 0] rfl)
set_option maxRecDepth 100000 in
set_option maxHeartbeats 4000000 in
theorem v_X3_init_15 {p : Program} {l : Launch} {e : Env} {s : State} {m : MethodId} {args : Array Value} {below : List Frame} {meth : Method} {c : Code} {D : va_G} {a : dp_A} {B : Nat} (X : dp_X p s m meth c cX3_init 2 RX3 D a B) (hr : meth.sig.returnType = none) (hin : meth.name = "<init>") (n : Nat) {h' : dp_H} {k15 : dp_H → Nat → Int32 → Option dp_H} (hk15 : ∀ (h : dp_H) (x0 : Nat) (x1 : Int32), k15 h x0 x1 = some h' → ∀ (cells slots : Nat) (H : Heap) (locs : List Loc) (ls : Array Slot), cells + n * 5 ≤ rm_X3_init.cells → slots + n * 249 ≤ rm_X3_init.slots → dp_w D a B h s.heap H locs → lv_has ls 2 [(0, .ref (B + x0)), (1, .int x1)] → W p l e rm_X3_init s m args below meth c H locs cells slots (MQ below (dp_Q D a B none h') args s rm_X3_init.cells rm_X3_init.slots (fun q => B ≤ q)) (F0 m 15 ls [])) : ∀ (h : dp_H) (x0 : Nat) (x1 : Int32), b_X3_init_15 k15 h x0 x1 = some h' → ∀ (cells slots : Nat) (H : Heap) (locs : List Loc) (ls : Array Slot), cells + (n + 1) * 5 ≤ rm_X3_init.cells → slots + (n + 1) * 249 ≤ rm_X3_init.slots → dp_w D a B h s.heap H locs → lv_has ls 2 [(0, .ref (B + x0)), (1, .int x1)] → W p l e rm_X3_init s m args below meth c H locs cells slots (MQ below (dp_Q D a B none h') args s rm_X3_init.cells rm_X3_init.slots (fun q => B ≤ q)) (F0 m 15 ls []) := by
  intro h x0 x1 hm cells slots H locs ls hcc hss hw hl
  obtain ⟨hx, hb, hml, hown, hlk, hK, hB⟩ := id X
  have hcc : cells + (n + 1) * 5 ≤ 321 := hcc
  have hss : slots + (n + 1) * 249 ≤ 16016 := hss
  unfold b_X3_init_15 at hm
  refine lv_iload_n hx hb dX3_init_15 rfl (lv_at hl 1 rfl) ?_
  refine lv_aload_n hx hb dX3_init_16 rfl (lv_at hl 0 rfl) ?_
  obtain ⟨v1, ev1, hm⟩ := dp_ob hm
  refine dp_getr X hw cl_X3 0 (by decide) fl_X3_11 ev1 dX3_init_17 ?_
  obtain ⟨v2, ev2, hm⟩ := dp_ob hm
  refine dp_alen X hw ev2 dX3_init_20 ?_
  refine lv_icmp_ge (tgt := 43) hx hb dX3_init_21 (by decide) (fun hc => ?_) (fun hc => ?_)
  · have hm := dp_ip hc hm
    cases hm
    refine W.widen (k := rm_X3_init.cells) (n := rm_X3_init.slots) (by show cells ≤ 321; omega) (by show slots ≤ 16016; omega) ?_
    exact dp_vret X hr hw dX3_init_43
  · have hm := dp_in hc hm
    refine lv_aload_n hx hb dX3_init_24 rfl (lv_at hl 0 rfl) ?_
    obtain ⟨v3, ev3, hm⟩ := dp_ob hm
    refine dp_getr X hw cl_X3 0 (by decide) fl_X3_11 ev3 dX3_init_25 ?_
    refine lv_iload_n hx hb dX3_init_28 rfl (lv_at hl 1 rfl) ?_
    obtain ⟨h4, eh4, hm⟩ := dp_ob hm
    refine dp_newc X hw cl_X1 cn_X3_9 ci_X1 ini_X1 bl_X1_ok eh4 (by show cells + 1 ≤ 321; omega) (by show slots + 7 ≤ 16016; omega) dX3_init_29 (fun H hw => ?_)
    refine lv_dup hx hb dX3_init_32 rfl ?_
    obtain ⟨h5, eh5, hm⟩ := dp_ob hm
    refine dp_cIN (As := []) (rest := [.ref (B + (List.length h)), .int x1, .ref (B + v3)]) X hw (c_X1_init l D a B h4 (List.length h) eh5) sm_X1_init rfl in_X1_init nl_X3_17 (by decide) rfl hl.1 rfl (Nat.le_of_ble_eq_true rfl) dX3_init_33 ⟨(by show cells + 1 + 4 ≤ 321; omega), (by show slots + 7 + 242 ≤ 16016; omega)⟩ (fun H locs hw => ?_)
    refine W.widen (k := cells + 1 + 4) (n := slots + 7 + 242) (Nat.le_refl _) (Nat.le_refl _) ?_
    obtain ⟨h6, eh6, hm⟩ := dp_ob hm
    refine dp_aast X hw eh6 dX3_init_36 (fun H locs hw => ?_)
    refine lv_iinc (v := (x1 + 1)) (lv' := [(1, .int (x1 + 1)), (0, .ref (B + x0))]) hx hb dX3_init_37 hl (k := 1) rfl rfl (by decide) rfl (fun ls hl => ?_)
    refine lv_goto (tgt := 15) hx hb dX3_init_40 (by decide) ?_
    exact hk15 h6 x0 (x1 + 1) hm _ _ _ _ _ (by show cells + 1 + 4 + n * 5 ≤ 321; omega) (by show slots + 7 + 242 + n * 249 ≤ 16016; omega) hw (lv_sub hl [1, 0] rfl)
set_option maxRecDepth 100000 in
set_option maxHeartbeats 4000000 in
theorem w_X3_init_15 {p : Program} {l : Launch} {e : Env} {s : State} {m : MethodId} {args : Array Value} {below : List Frame} {meth : Method} {c : Code} {D : va_G} {a : dp_A} {B : Nat} (X : dp_X p s m meth c cX3_init 2 RX3 D a B) (hr : meth.sig.returnType = none) (hin : meth.name = "<init>") {h' : dp_H}  : ∀ (n : Nat) (h : dp_H) (x0 : Nat) (x1 : Int32), m_X3_init_15  n h x0 x1 = some h' → ∀ (cells slots : Nat) (H : Heap) (locs : List Loc) (ls : Array Slot), cells + n * 5 ≤ rm_X3_init.cells → slots + n * 249 ≤ rm_X3_init.slots → dp_w D a B h s.heap H locs → lv_has ls 2 [(0, .ref (B + x0)), (1, .int x1)] → W p l e rm_X3_init s m args below meth c H locs cells slots (MQ below (dp_Q D a B none h') args s rm_X3_init.cells rm_X3_init.slots (fun q => B ≤ q)) (F0 m 15 ls []) := by
  intro n
  induction n with
  | zero => intro h x0 x1 hm; cases hm
  | succ n ih => intro h x0 x1 hm; exact v_X3_init_15 X hr hin n ih h x0 x1 hm
theorem ck_X3_init {h : dp_H} {x0 : Nat} {h' : dp_H} (hm : m_X3_init h x0 = some h') : dp_is h x0 3 = true := (dp_ck_e hm).1
set_option maxRecDepth 100000 in
set_option maxHeartbeats 4000000 in
theorem c_X3_init (l : Launch) (D : va_G) (a : dp_A) (B : Nat) (h : dp_H) (x0 : Nat) {h' : dp_H} (hm : m_X3_init h x0 = some h') : dp_M l D a B yX3_init cX3_init 2 none rm_X3_init [.ref (B + x0)] h none h' := by
  refine dp_M.of (own := RX3) (nm := "<init>") (by decide) rfl rfl (Nat.le_of_ble_eq_true rfl) ?_
  intro p e s m below meth c ls X hr hin hw hl
  have hl : lv_has ls 2 [(0, .ref (B + x0))] := hl
  obtain ⟨hx, hb, hml, hown, hlk, hK, hB⟩ := id X
  unfold m_X3_init at hm
  obtain ⟨hck, hm⟩ := dp_ck_e hm
  refine lv_aload_n hx hb dX3_init_0 rfl (lv_at hl 0 rfl) ?_
  refine W.objInit hx hb hown (hK.word ml_X3_3 rfl) (hK.word obj_inst rfl) (hK.word obj_code rfl) rfl (hl.1.trans hml.symm) rfl dX3_init_1 (Nat.le_of_ble_eq_true rfl) (Nat.le_of_ble_eq_true rfl) ?_
  refine W.eq (g2 := F0 m 4 ls []) rfl ?_
  refine lv_aload_n hx hb dX3_init_4 rfl (lv_at hl 0 rfl) ?_
  refine lv_bipush (v := 10) hx hb dX3_init_5 (by decide) ?_
  obtain ⟨h1, eh1, hm⟩ := dp_ob hm
  refine dp_newr X hw cn_X3_9 eh1 (by decide) (by decide) dX3_init_7 (fun H hw => ?_)
  obtain ⟨h2, eh2, hm⟩ := dp_ob hm
  refine dp_putFr X hin hw cl_X3 0 (by decide) fl_X3_11 rfl rfl (Or.inr ⟨_, rfl⟩) eh2 dX3_init_10 (fun H locs hw => ?_)
  refine lv_iconst (v := 0) hx hb dX3_init_13 (by decide) ?_
  refine lv_istore_n (lv' := [(1, .int 0), (0, .ref (B + x0))]) hx hb dX3_init_14 rfl hl (by decide) rfl (fun ls hl => ?_)
  exact w_X3_init_15 X hr hin 64 h2 x0 0 hm _ _ _ _ _ (by decide) (by decide) hw (lv_sub hl [1, 0] rfl)
theorem ck_X3_size {h : dp_H} {x0 : Nat} {r : Int32} (hm : m_X3_size h x0 = some r) : dp_is h x0 3 = true := (dp_ck_e hm).1
set_option maxRecDepth 100000 in
set_option maxHeartbeats 4000000 in
theorem c_X3_size (l : Launch) (D : va_G) (a : dp_A) (B : Nat) (h : dp_H) (x0 : Nat) {r : Int32} (hm : m_X3_size h x0 = some r) : dp_M l D a B yX3_size cX3_size 1 (some .int) rm_X3_size [.ref (B + x0)] h (some (.int r)) h := by
  refine dp_M.of (own := RX3) (nm := "size") (by decide) rfl rfl (Nat.le_of_ble_eq_true rfl) ?_
  intro p e s m below meth c ls X hr hin hw hl
  have hl : lv_has ls 1 [(0, .ref (B + x0))] := hl
  obtain ⟨hx, hb, hml, hown, hlk, hK, hB⟩ := id X
  unfold m_X3_size at hm
  obtain ⟨hck, hm⟩ := dp_ck_e hm
  refine lv_aload_n hx hb dX3_size_0 rfl (lv_at hl 0 rfl) ?_
  obtain ⟨v1, ev1, hm⟩ := dp_ob hm
  refine dp_geti X hw cl_X3 1 (by decide) fl_X3_18 ev1 dX3_size_1 ?_
  cases hm
  exact dp_iret X hr hw dX3_size_4
theorem ck_X3_append {h : dp_H} {x0 : Nat} {x1 : Nat} {h' : dp_H} {r : Int32} (hm : m_X3_append h x0 x1 = some (h', r)) : dp_is h x0 3 = true := (dp_ck_e hm).1
set_option maxRecDepth 100000 in
set_option maxHeartbeats 4000000 in
theorem c_X3_append (l : Launch) (D : va_G) (a : dp_A) (B : Nat) (h : dp_H) (x0 : Nat) (x1 : Nat) {h' : dp_H} {r : Int32} (hm : m_X3_append h x0 x1 = some (h', r)) : dp_M l D a B yX3_append cX3_append 3 (some .boolean) rm_X3_append [.ref (B + x0), .ref (B + x1)] h (some (.int r)) h' := by
  refine dp_M.of (own := RX3) (nm := "append") (by decide) rfl rfl (Nat.le_of_ble_eq_true rfl) ?_
  intro p e s m below meth c ls X hr hin hw hl
  have hl : lv_has ls 3 [(0, .ref (B + x0)), (1, .ref (B + x1))] := hl
  obtain ⟨hx, hb, hml, hown, hlk, hK, hB⟩ := id X
  unfold m_X3_append at hm
  obtain ⟨hck, hm⟩ := dp_ck_e hm
  refine lv_aload_n hx hb dX3_append_0 rfl (lv_at hl 0 rfl) ?_
  obtain ⟨v1, ev1, hm⟩ := dp_ob hm
  refine dp_geti X hw cl_X3 1 (by decide) fl_X3_18 ev1 dX3_append_1 ?_
  refine lv_if_lt (tgt := 19) hx hb dX3_append_4 (by decide) (fun hc => ?_) (fun hc => ?_)
  · have hm := dp_ip hc hm
    refine lv_iconst (v := 0) hx hb dX3_append_19 (by decide) ?_
    cases hm
    exact dp_zret X hr hw (by decide) dX3_append_20
  · have hm := dp_in hc hm
    refine lv_aload_n hx hb dX3_append_7 rfl (lv_at hl 0 rfl) ?_
    obtain ⟨v2, ev2, hm⟩ := dp_ob hm
    refine dp_geti X hw cl_X3 1 (by decide) fl_X3_18 ev2 dX3_append_8 ?_
    refine lv_aload_n hx hb dX3_append_11 rfl (lv_at hl 0 rfl) ?_
    obtain ⟨v3, ev3, hm⟩ := dp_ob hm
    refine dp_getr X hw cl_X3 0 (by decide) fl_X3_11 ev3 dX3_append_12 ?_
    obtain ⟨v4, ev4, hm⟩ := dp_ob hm
    refine dp_alen X hw ev4 dX3_append_15 ?_
    refine lv_icmp_lt (tgt := 21) hx hb dX3_append_16 (by decide) (fun hc => ?_) (fun hc => ?_)
    · have hm := dp_ip hc hm
      refine lv_aload_n hx hb dX3_append_21 rfl (lv_at hl 0 rfl) ?_
      obtain ⟨v5, ev5, hm⟩ := dp_ob hm
      refine dp_getr X hw cl_X3 0 (by decide) fl_X3_11 ev5 dX3_append_22 ?_
      refine lv_aload_n hx hb dX3_append_25 rfl (lv_at hl 0 rfl) ?_
      obtain ⟨v6, ev6, hm⟩ := dp_ob hm
      refine dp_geti X hw cl_X3 1 (by decide) fl_X3_18 ev6 dX3_append_26 ?_
      obtain ⟨v7, ev7, hm⟩ := dp_ob hm
      refine dp_aald X hw ev7 dX3_append_29 ?_
      refine lv_astore_n (lv' := [(2, .ref (B + v7)), (0, .ref (B + x0)), (1, .ref (B + x1))]) hx hb dX3_append_30 rfl hl (by decide) rfl (fun ls hl => ?_)
      refine lv_aload_n hx hb dX3_append_31 rfl (lv_at hl 0 rfl) ?_
      refine lv_ifnonnull (tgt := 37) hx hb dX3_append_32 (by decide) ?_
      refine lv_aload_n hx hb dX3_append_37 rfl (lv_at hl 0 rfl) ?_
      refine lv_aload_n hx hb dX3_append_38 rfl (lv_at hl 2 rfl) ?_
      obtain ⟨h8, eh8, hm⟩ := dp_ob hm
      refine dp_cVv (As := [.ref (B + x1)]) (rest := []) X hw (c_X1_copyFrom l D a B h v7 x1 eh8) vm_X1_copyFrom ml_X3_22 (by decide) rfl rfl (ck_X1_copyFrom eh8) rfl rfl hl.1 rfl (Nat.le_of_ble_eq_true rfl) dX3_append_39 ⟨(Nat.zero_le _), (Nat.zero_le _)⟩ (fun H locs hw => ?_)
      refine lv_aload_n hx hb dX3_append_42 rfl (lv_at hl 1 rfl) ?_
      refine lv_dup hx hb dX3_append_43 rfl ?_
      obtain ⟨v9, ev9, hm⟩ := dp_ob hm
      refine dp_geti X hw cl_X3 1 (by decide) fl_X3_18 ev9 dX3_append_44 ?_
      refine lv_iconst (v := 1) hx hb dX3_append_47 (by decide) ?_
      refine lv_iadd hx hb dX3_append_48 ?_
      obtain ⟨h10, eh10, hm⟩ := dp_ob hm
      refine dp_puti X hw cl_X3 1 (by decide) fl_X3_18 rfl rfl eh10 dX3_append_49 (fun H locs hw => ?_)
      refine lv_iconst (v := 1) hx hb dX3_append_52 (by decide) ?_
      cases hm
      exact dp_zret X hr hw (by decide) dX3_append_53
    · have hm := dp_in hc hm
      refine lv_iconst (v := 0) hx hb dX3_append_19 (by decide) ?_
      cases hm
      exact dp_zret X hr hw (by decide) dX3_append_20
set_option maxRecDepth 100000 in
set_option maxHeartbeats 4000000 in
theorem v_X3_remove_34 {p : Program} {l : Launch} {e : Env} {s : State} {m : MethodId} {args : Array Value} {below : List Frame} {meth : Method} {c : Code} {D : va_G} {a : dp_A} {B : Nat} (X : dp_X p s m meth c cX3_remove 4 RX3 D a B) (hr : meth.sig.returnType = none) {h' : dp_H} {k34 : dp_H → Nat → Nat → Int32 → Option dp_H} (hk34 : ∀ (h : dp_H) (x0 : Nat) (x2 : Nat) (x3 : Int32), k34 h x0 x2 x3 = some h' → ∀ (H : Heap) (locs : List Loc) (ls : Array Slot), dp_w D a B h s.heap H locs → lv_has ls 4 [(0, .ref (B + x0)), (2, .ref (B + x2)), (3, .int x3)] → W p l e rm_X3_remove s m args below meth c H locs 0 0 (MQ below (dp_Q D a B none h') args s rm_X3_remove.cells rm_X3_remove.slots (fun q => B ≤ q)) (F0 m 34 ls [])) : ∀ (h : dp_H) (x0 : Nat) (x2 : Nat) (x3 : Int32), b_X3_remove_34 k34 h x0 x2 x3 = some h' → ∀ (H : Heap) (locs : List Loc) (ls : Array Slot), dp_w D a B h s.heap H locs → lv_has ls 4 [(0, .ref (B + x0)), (2, .ref (B + x2)), (3, .int x3)] → W p l e rm_X3_remove s m args below meth c H locs 0 0 (MQ below (dp_Q D a B none h') args s rm_X3_remove.cells rm_X3_remove.slots (fun q => B ≤ q)) (F0 m 34 ls []) := by
  intro h x0 x2 x3 hm H locs ls hw hl
  obtain ⟨hx, hb, hml, hown, hlk, hK, hB⟩ := id X
  unfold b_X3_remove_34 at hm
  refine lv_iload_n hx hb dX3_remove_34 rfl (lv_at hl 2 rfl) ?_
  refine lv_iconst (v := 1) hx hb dX3_remove_35 (by decide) ?_
  refine lv_iadd hx hb dX3_remove_36 ?_
  refine lv_aload_n hx hb dX3_remove_37 rfl (lv_at hl 0 rfl) ?_
  obtain ⟨v1, ev1, hm⟩ := dp_ob hm
  refine dp_geti X hw cl_X3 1 (by decide) fl_X3_18 ev1 dX3_remove_38 ?_
  refine lv_icmp_ge (tgt := 64) hx hb dX3_remove_41 (by decide) (fun hc => ?_) (fun hc => ?_)
  · have hm := dp_ip hc hm
    refine lv_aload_n hx hb dX3_remove_64 rfl (lv_at hl 0 rfl) ?_
    refine lv_dup hx hb dX3_remove_65 rfl ?_
    obtain ⟨v2, ev2, hm⟩ := dp_ob hm
    refine dp_geti X hw cl_X3 1 (by decide) fl_X3_18 ev2 dX3_remove_66 ?_
    refine lv_iconst (v := 1) hx hb dX3_remove_69 (by decide) ?_
    refine lv_isub hx hb dX3_remove_70 ?_
    obtain ⟨h3, eh3, hm⟩ := dp_ob hm
    refine dp_puti X hw cl_X3 1 (by decide) fl_X3_18 rfl rfl eh3 dX3_remove_71 (fun H locs hw => ?_)
    refine lv_aload_n hx hb dX3_remove_74 rfl (lv_at hl 0 rfl) ?_
    obtain ⟨v4, ev4, hm⟩ := dp_ob hm
    refine dp_getr X hw cl_X3 0 (by decide) fl_X3_11 ev4 dX3_remove_75 ?_
    refine lv_aload_n hx hb dX3_remove_78 rfl (lv_at hl 0 rfl) ?_
    obtain ⟨v5, ev5, hm⟩ := dp_ob hm
    refine dp_geti X hw cl_X3 1 (by decide) fl_X3_18 ev5 dX3_remove_79 ?_
    refine lv_aload_n hx hb dX3_remove_82 rfl (lv_at hl 1 rfl) ?_
    obtain ⟨h6, eh6, hm⟩ := dp_ob hm
    refine dp_aast X hw eh6 dX3_remove_83 (fun H locs hw => ?_)
    cases hm
    exact dp_vret X hr hw dX3_remove_84
  · have hm := dp_in hc hm
    refine lv_aload_n hx hb dX3_remove_44 rfl (lv_at hl 0 rfl) ?_
    obtain ⟨v7, ev7, hm⟩ := dp_ob hm
    refine dp_getr X hw cl_X3 0 (by decide) fl_X3_11 ev7 dX3_remove_45 ?_
    refine lv_iload_n hx hb dX3_remove_48 rfl (lv_at hl 2 rfl) ?_
    refine lv_aload_n hx hb dX3_remove_49 rfl (lv_at hl 0 rfl) ?_
    obtain ⟨v8, ev8, hm⟩ := dp_ob hm
    refine dp_getr X hw cl_X3 0 (by decide) fl_X3_11 ev8 dX3_remove_50 ?_
    refine lv_iload_n hx hb dX3_remove_53 rfl (lv_at hl 2 rfl) ?_
    refine lv_iconst (v := 1) hx hb dX3_remove_54 (by decide) ?_
    refine lv_iadd hx hb dX3_remove_55 ?_
    obtain ⟨v9, ev9, hm⟩ := dp_ob hm
    refine dp_aald X hw ev9 dX3_remove_56 ?_
    obtain ⟨h10, eh10, hm⟩ := dp_ob hm
    refine dp_aast X hw eh10 dX3_remove_57 (fun H locs hw => ?_)
    refine lv_iinc (v := (x3 + 1)) (lv' := [(3, .int (x3 + 1)), (0, .ref (B + x0)), (2, .ref (B + x2))]) hx hb dX3_remove_58 hl (k := 2) rfl rfl (by decide) rfl (fun ls hl => ?_)
    refine lv_goto (tgt := 34) hx hb dX3_remove_61 (by decide) ?_
    exact hk34 h10 x0 x2 (x3 + 1) hm _ _ _ hw (lv_sub hl [1, 2, 0] rfl)
set_option maxRecDepth 100000 in
set_option maxHeartbeats 4000000 in
theorem w_X3_remove_34 {p : Program} {l : Launch} {e : Env} {s : State} {m : MethodId} {args : Array Value} {below : List Frame} {meth : Method} {c : Code} {D : va_G} {a : dp_A} {B : Nat} (X : dp_X p s m meth c cX3_remove 4 RX3 D a B) (hr : meth.sig.returnType = none) {h' : dp_H}  : ∀ (n : Nat) (h : dp_H) (x0 : Nat) (x2 : Nat) (x3 : Int32), m_X3_remove_34  n h x0 x2 x3 = some h' → ∀ (H : Heap) (locs : List Loc) (ls : Array Slot), dp_w D a B h s.heap H locs → lv_has ls 4 [(0, .ref (B + x0)), (2, .ref (B + x2)), (3, .int x3)] → W p l e rm_X3_remove s m args below meth c H locs 0 0 (MQ below (dp_Q D a B none h') args s rm_X3_remove.cells rm_X3_remove.slots (fun q => B ≤ q)) (F0 m 34 ls []) := by
  intro n
  induction n with
  | zero => intro h x0 x2 x3 hm; cases hm
  | succ n ih => intro h x0 x2 x3 hm; exact v_X3_remove_34 X hr ih h x0 x2 x3 hm
theorem ck_X3_remove {h : dp_H} {x0 : Nat} {x1 : Int32} {h' : dp_H} (hm : m_X3_remove h x0 x1 = some h') : dp_is h x0 3 = true := (dp_ck_e hm).1
set_option maxRecDepth 100000 in
set_option maxHeartbeats 4000000 in
theorem c_X3_remove (l : Launch) (D : va_G) (a : dp_A) (B : Nat) (h : dp_H) (x0 : Nat) (x1 : Int32) {h' : dp_H} (hm : m_X3_remove h x0 x1 = some h') : dp_M l D a B yX3_remove cX3_remove 4 none rm_X3_remove [.ref (B + x0), .int x1] h none h' := by
  refine dp_M.of (own := RX3) (nm := "remove") (by decide) rfl rfl (Nat.le_of_ble_eq_true rfl) ?_
  intro p e s m below meth c ls X hr hin hw hl
  have hl : lv_has ls 4 [(0, .ref (B + x0)), (1, .int x1)] := hl
  obtain ⟨hx, hb, hml, hown, hlk, hK, hB⟩ := id X
  unfold m_X3_remove at hm
  obtain ⟨hck, hm⟩ := dp_ck_e hm
  refine lv_iload_n hx hb dX3_remove_0 rfl (lv_at hl 1 rfl) ?_
  refine lv_if_lt (tgt := 24) hx hb dX3_remove_1 (by decide) (fun hc => ?_) (fun hc => ?_)
  · have hm := dp_ip hc hm
    cases hm
    exact dp_vret X hr hw dX3_remove_24
  · have hm := dp_in hc hm
    refine lv_iload_n hx hb dX3_remove_4 rfl (lv_at hl 1 rfl) ?_
    refine lv_aload_n hx hb dX3_remove_5 rfl (lv_at hl 0 rfl) ?_
    obtain ⟨v1, ev1, hm⟩ := dp_ob hm
    refine dp_geti X hw cl_X3 1 (by decide) fl_X3_18 ev1 dX3_remove_6 ?_
    refine lv_icmp_ge (tgt := 24) hx hb dX3_remove_9 (by decide) (fun hc => ?_) (fun hc => ?_)
    · have hm := dp_ip hc hm
      cases hm
      exact dp_vret X hr hw dX3_remove_24
    · have hm := dp_in hc hm
      refine lv_aload_n hx hb dX3_remove_12 rfl (lv_at hl 0 rfl) ?_
      obtain ⟨v2, ev2, hm⟩ := dp_ob hm
      refine dp_geti X hw cl_X3 1 (by decide) fl_X3_18 ev2 dX3_remove_13 ?_
      refine lv_aload_n hx hb dX3_remove_16 rfl (lv_at hl 0 rfl) ?_
      obtain ⟨v3, ev3, hm⟩ := dp_ob hm
      refine dp_getr X hw cl_X3 0 (by decide) fl_X3_11 ev3 dX3_remove_17 ?_
      obtain ⟨v4, ev4, hm⟩ := dp_ob hm
      refine dp_alen X hw ev4 dX3_remove_20 ?_
      refine lv_icmp_le (tgt := 25) hx hb dX3_remove_21 (by decide) (fun hc => ?_) (fun hc => ?_)
      · have hm := dp_ip hc hm
        refine lv_aload_n hx hb dX3_remove_25 rfl (lv_at hl 0 rfl) ?_
        obtain ⟨v5, ev5, hm⟩ := dp_ob hm
        refine dp_getr X hw cl_X3 0 (by decide) fl_X3_11 ev5 dX3_remove_26 ?_
        refine lv_iload_n hx hb dX3_remove_29 rfl (lv_at hl 1 rfl) ?_
        obtain ⟨v6, ev6, hm⟩ := dp_ob hm
        refine dp_aald X hw ev6 dX3_remove_30 ?_
        refine lv_astore_n (lv' := [(2, .ref (B + v6)), (0, .ref (B + x0)), (1, .int x1)]) hx hb dX3_remove_31 rfl hl (by decide) rfl (fun ls hl => ?_)
        refine lv_iload_n hx hb dX3_remove_32 rfl (lv_at hl 2 rfl) ?_
        refine lv_istore_n (lv' := [(3, .int x1), (2, .ref (B + v6)), (0, .ref (B + x0)), (1, .int x1)]) hx hb dX3_remove_33 rfl hl (by decide) rfl (fun ls hl => ?_)
        exact w_X3_remove_34 X hr 64 h x0 v6 x1 hm _ _ _ hw (lv_sub hl [2, 1, 0] rfl)
      · have hm := dp_in hc hm
        cases hm
        exact dp_vret X hr hw dX3_remove_24
set_option maxRecDepth 100000 in
set_option maxHeartbeats 4000000 in
theorem v_X3_isSureBy_5 {p : Program} {l : Launch} {e : Env} {s : State} {m : MethodId} {args : Array Value} {below : List Frame} {meth : Method} {c : Code} {D : va_G} {a : dp_A} {B : Nat} (X : dp_X p s m meth c cX3_isSureBy 6 RX3 D a B) (hr : meth.sig.returnType = (some .boolean)) {h : dp_H} {r : Int32} {k5 : Nat → Nat → Int32 → Option Nat → Int32 → Option Int32} (hk5 : ∀ (x0 : Nat) (x1 : Nat) (x2 : Int32) (x3 : Option Nat) (x4 : Int32), k5 x0 x1 x2 x3 x4 = some r → ∀ (H : Heap) (locs : List Loc) (ls : Array Slot), dp_w D a B h s.heap H locs → lv_has ls 6 [(0, .ref (B + x0)), (1, .ref (B + x1)), (2, .int x2), (3, dp_ro B x3), (4, .int x4)] → W p l e rm_X3_isSureBy s m args below meth c H locs 0 0 (MQ below (dp_Q D a B (some (.int r)) h) args s rm_X3_isSureBy.cells rm_X3_isSureBy.slots (fun q => B ≤ q)) (F0 m 5 ls [])) : ∀ (x0 : Nat) (x1 : Nat) (x2 : Int32) (x3 : Option Nat) (x4 : Int32), b_X3_isSureBy_5 h k5 x0 x1 x2 x3 x4 = some r → ∀ (H : Heap) (locs : List Loc) (ls : Array Slot), dp_w D a B h s.heap H locs → lv_has ls 6 [(0, .ref (B + x0)), (1, .ref (B + x1)), (2, .int x2), (3, dp_ro B x3), (4, .int x4)] → W p l e rm_X3_isSureBy s m args below meth c H locs 0 0 (MQ below (dp_Q D a B (some (.int r)) h) args s rm_X3_isSureBy.cells rm_X3_isSureBy.slots (fun q => B ≤ q)) (F0 m 5 ls []) := by
  intro x0 x1 x2 x3 x4 hm H locs ls hw hl
  obtain ⟨hx, hb, hml, hown, hlk, hK, hB⟩ := id X
  unfold b_X3_isSureBy_5 at hm
  refine lv_iload hx hb dX3_isSureBy_5 (lv_at hl 4 rfl) ?_
  refine lv_aload_n hx hb dX3_isSureBy_7 rfl (lv_at hl 0 rfl) ?_
  obtain ⟨v1, ev1, hm⟩ := dp_ob hm
  refine dp_geti X hw cl_X3 1 (by decide) fl_X3_18 ev1 dX3_isSureBy_8 ?_
  refine lv_icmp_ge (tgt := 67) hx hb dX3_isSureBy_11 (by decide) (fun hc => ?_) (fun hc => ?_)
  · have hm := dp_ip hc hm
    refine dp_aload_n (B := B) (o := x3) hx hb dX3_isSureBy_67 rfl (lv_at hl 3 rfl) ?_
    rcases x3 with _ | u2
    · have hl : lv_has ls 6 [(0, .ref (B + x0)), (1, .ref (B + x1)), (2, .int x2), (3, dp_ro B none), (4, .int x4)] := hl
      have hm := dp_om_n hm
      refine lv_ifnullN (tgt := 75) hx hb dX3_isSureBy_68 (by decide) ?_
      refine lv_iconst (v := 0) hx hb dX3_isSureBy_75 (by decide) ?_
      cases hm
      exact dp_zret X hr hw (by decide) dX3_isSureBy_76
    · have hl : lv_has ls 6 [(0, .ref (B + x0)), (1, .ref (B + x1)), (2, .int x2), (3, .ref (B + u2)), (4, .int x4)] := hl
      have hm := dp_om_s hm
      refine lv_ifnull hx hb dX3_isSureBy_68 ?_
      refine lv_iconst (v := 1) hx hb dX3_isSureBy_71 (by decide) ?_
      refine lv_goto (tgt := 76) hx hb dX3_isSureBy_72 (by decide) ?_
      cases hm
      exact dp_zret X hr hw (by decide) dX3_isSureBy_76
  · have hm := dp_in hc hm
    refine lv_aload_n hx hb dX3_isSureBy_14 rfl (lv_at hl 0 rfl) ?_
    refine lv_iload hx hb dX3_isSureBy_15 (lv_at hl 4 rfl) ?_
    obtain ⟨v3, ev3, hm⟩ := dp_ob hm
    refine dp_cV (As := [.int x4]) (rest := []) X hw (c_X3_at l D a B h x0 x4 ev3) vm_X3_at ml_X3_26 (by decide) rfl rfl (ck_X3_at ev3) rfl rfl hl.1 rfl (Nat.le_of_ble_eq_true rfl) dX3_isSureBy_17 ⟨(Nat.zero_le _), (Nat.zero_le _)⟩ (fun H locs hw => ?_)
    refine dp_astore (B := B) (o := v3) (lv' := [(5, dp_ro B v3), (0, .ref (B + x0)), (1, .ref (B + x1)), (2, .int x2), (3, dp_ro B x3), (4, .int x4)]) hx hb dX3_isSureBy_20 hl (by decide) rfl (fun ls hl => ?_)
    refine dp_aload (B := B) (o := v3) hx hb dX3_isSureBy_22 (lv_at hl 0 rfl) ?_
    rcases v3 with _ | u4
    · have hl : lv_has ls 6 [(5, dp_ro B none), (0, .ref (B + x0)), (1, .ref (B + x1)), (2, .int x2), (3, dp_ro B x3), (4, .int x4)] := hl
      have hm := dp_om_n hm
      refine lv_ifnullN (tgt := 61) hx hb dX3_isSureBy_24 (by decide) ?_
      refine lv_iinc (v := (x4 + 1)) (lv' := [(4, .int (x4 + 1)), (5, dp_ro B none), (0, .ref (B + x0)), (1, .ref (B + x1)), (2, .int x2), (3, dp_ro B x3)]) hx hb dX3_isSureBy_61 hl (k := 5) rfl rfl (by decide) (by rcases x3 with _ | _ <;> rfl) (fun ls hl => ?_)
      refine lv_goto (tgt := 5) hx hb dX3_isSureBy_64 (by decide) ?_
      exact hk5 x0 x1 x2 x3 (x4 + 1) hm _ _ _ hw (lv_sub hl [2, 3, 4, 5, 0] rfl)
    · have hl : lv_has ls 6 [(5, .ref (B + u4)), (0, .ref (B + x0)), (1, .ref (B + x1)), (2, .int x2), (3, dp_ro B x3), (4, .int x4)] := hl
      have hm := dp_om_s hm
      refine lv_ifnull hx hb dX3_isSureBy_24 ?_
      refine lv_aload hx hb dX3_isSureBy_27 (lv_at hl 0 rfl) ?_
      refine lv_aload_n hx hb dX3_isSureBy_29 rfl (lv_at hl 2 rfl) ?_
      refine lv_iload_n hx hb dX3_isSureBy_30 rfl (lv_at hl 3 rfl) ?_
      obtain ⟨v5, ev5, hm⟩ := dp_ob hm
      refine dp_cV (As := [.ref (B + x1), .int x2]) (rest := []) X hw (c_X1_reach l D a B h u4 x1 x2 ev5) vm_X1_reach ml_X3_35 (by decide) rfl rfl (ck_X1_reach ev5) rfl rfl hl.1 rfl (Nat.le_of_ble_eq_true rfl) dX3_isSureBy_31 ⟨(Nat.zero_le _), (Nat.zero_le _)⟩ (fun H locs hw => ?_)
      refine lv_if_ne (tgt := 40) hx hb dX3_isSureBy_34 (by decide) (fun hc => ?_) (fun hc => ?_)
      · have hm := dp_in hc hm
        refine dp_aload_n (B := B) (o := x3) hx hb dX3_isSureBy_40 rfl (lv_at hl 4 rfl) ?_
        rcases x3 with _ | u6
        · have hl : lv_has ls 6 [(5, .ref (B + u4)), (0, .ref (B + x0)), (1, .ref (B + x1)), (2, .int x2), (3, dp_ro B none), (4, .int x4)] := hl
          have hm := dp_om_n hm
          refine lv_ifnonnullN hx hb dX3_isSureBy_41 ?_
          refine lv_aload hx hb dX3_isSureBy_44 (lv_at hl 0 rfl) ?_
          refine lv_astore_n (lv' := [(3, .ref (B + u4)), (5, .ref (B + u4)), (0, .ref (B + x0)), (1, .ref (B + x1)), (2, .int x2), (4, .int x4)]) hx hb dX3_isSureBy_46 rfl hl (by decide) rfl (fun ls hl => ?_)
          refine lv_goto (tgt := 61) hx hb dX3_isSureBy_47 (by decide) ?_
          refine lv_iinc (v := (x4 + 1)) (lv' := [(4, .int (x4 + 1)), (3, .ref (B + u4)), (5, .ref (B + u4)), (0, .ref (B + x0)), (1, .ref (B + x1)), (2, .int x2)]) hx hb dX3_isSureBy_61 hl (k := 5) rfl rfl (by decide) rfl (fun ls hl => ?_)
          refine lv_goto (tgt := 5) hx hb dX3_isSureBy_64 (by decide) ?_
          exact hk5 x0 x1 x2 (some u4) (x4 + 1) hm _ _ _ hw (lv_sub hl [3, 4, 5, 1, 0] rfl)
        · have hl : lv_has ls 6 [(5, .ref (B + u4)), (0, .ref (B + x0)), (1, .ref (B + x1)), (2, .int x2), (3, .ref (B + u6)), (4, .int x4)] := hl
          have hm := dp_om_s hm
          refine lv_ifnonnull (tgt := 50) hx hb dX3_isSureBy_41 (by decide) ?_
          refine lv_aload hx hb dX3_isSureBy_50 (lv_at hl 0 rfl) ?_
          refine lv_aload_n hx hb dX3_isSureBy_52 rfl (lv_at hl 4 rfl) ?_
          obtain ⟨v7, ev7, hm⟩ := dp_ob hm
          refine dp_cV (As := [.ref (B + u6)]) (rest := []) X hw (c_X1_doesLike l D a B h u4 u6 ev7) vm_X1_doesLike ml_X3_50 (by decide) rfl rfl (ck_X1_doesLike ev7) rfl rfl hl.1 rfl (Nat.le_of_ble_eq_true rfl) dX3_isSureBy_53 ⟨(Nat.zero_le _), (Nat.zero_le _)⟩ (fun H locs hw => ?_)
          refine lv_if_ne (tgt := 61) hx hb dX3_isSureBy_56 (by decide) (fun hc => ?_) (fun hc => ?_)
          · have hm := dp_in hc hm
            refine lv_iinc (v := (x4 + 1)) (lv' := [(4, .int (x4 + 1)), (5, .ref (B + u4)), (0, .ref (B + x0)), (1, .ref (B + x1)), (2, .int x2), (3, .ref (B + u6))]) hx hb dX3_isSureBy_61 hl (k := 5) rfl rfl (by decide) rfl (fun ls hl => ?_)
            refine lv_goto (tgt := 5) hx hb dX3_isSureBy_64 (by decide) ?_
            exact hk5 x0 x1 x2 (some u6) (x4 + 1) hm _ _ _ hw (lv_sub hl [2, 3, 4, 5, 0] rfl)
          · have hm := dp_ip hc hm
            refine lv_iconst (v := 0) hx hb dX3_isSureBy_59 (by decide) ?_
            cases hm
            exact dp_zret X hr hw (by decide) dX3_isSureBy_60
      · have hm := dp_ip hc hm
        refine lv_goto (tgt := 61) hx hb dX3_isSureBy_37 (by decide) ?_
        refine lv_iinc (v := (x4 + 1)) (lv' := [(4, .int (x4 + 1)), (5, .ref (B + u4)), (0, .ref (B + x0)), (1, .ref (B + x1)), (2, .int x2), (3, dp_ro B x3)]) hx hb dX3_isSureBy_61 hl (k := 5) rfl rfl (by decide) (by rcases x3 with _ | _ <;> rfl) (fun ls hl => ?_)
        refine lv_goto (tgt := 5) hx hb dX3_isSureBy_64 (by decide) ?_
        exact hk5 x0 x1 x2 x3 (x4 + 1) hm _ _ _ hw (lv_sub hl [2, 3, 4, 5, 0] rfl)
set_option maxRecDepth 100000 in
set_option maxHeartbeats 4000000 in
theorem w_X3_isSureBy_5 {p : Program} {l : Launch} {e : Env} {s : State} {m : MethodId} {args : Array Value} {below : List Frame} {meth : Method} {c : Code} {D : va_G} {a : dp_A} {B : Nat} (X : dp_X p s m meth c cX3_isSureBy 6 RX3 D a B) (hr : meth.sig.returnType = (some .boolean)) {h : dp_H} {r : Int32}  : ∀ (n : Nat) (x0 : Nat) (x1 : Nat) (x2 : Int32) (x3 : Option Nat) (x4 : Int32), m_X3_isSureBy_5 h  n x0 x1 x2 x3 x4 = some r → ∀ (H : Heap) (locs : List Loc) (ls : Array Slot), dp_w D a B h s.heap H locs → lv_has ls 6 [(0, .ref (B + x0)), (1, .ref (B + x1)), (2, .int x2), (3, dp_ro B x3), (4, .int x4)] → W p l e rm_X3_isSureBy s m args below meth c H locs 0 0 (MQ below (dp_Q D a B (some (.int r)) h) args s rm_X3_isSureBy.cells rm_X3_isSureBy.slots (fun q => B ≤ q)) (F0 m 5 ls []) := by
  intro n
  induction n with
  | zero => intro x0 x1 x2 x3 x4 hm; cases hm
  | succ n ih => intro x0 x1 x2 x3 x4 hm; exact v_X3_isSureBy_5 X hr ih x0 x1 x2 x3 x4 hm
theorem ck_X3_isSureBy {h : dp_H} {x0 : Nat} {x1 : Nat} {x2 : Int32} {r : Int32} (hm : m_X3_isSureBy h x0 x1 x2 = some r) : dp_is h x0 3 = true := (dp_ck_e hm).1
set_option maxRecDepth 100000 in
set_option maxHeartbeats 4000000 in
theorem c_X3_isSureBy (l : Launch) (D : va_G) (a : dp_A) (B : Nat) (h : dp_H) (x0 : Nat) (x1 : Nat) (x2 : Int32) {r : Int32} (hm : m_X3_isSureBy h x0 x1 x2 = some r) : dp_M l D a B yX3_isSureBy cX3_isSureBy 6 (some .boolean) rm_X3_isSureBy [.ref (B + x0), .ref (B + x1), .int x2] h (some (.int r)) h := by
  refine dp_M.of (own := RX3) (nm := "isSureBy") (by decide) rfl rfl (Nat.le_of_ble_eq_true rfl) ?_
  intro p e s m below meth c ls X hr hin hw hl
  have hl : lv_has ls 6 [(0, .ref (B + x0)), (1, .ref (B + x1)), (2, .int x2)] := hl
  obtain ⟨hx, hb, hml, hown, hlk, hK, hB⟩ := id X
  unfold m_X3_isSureBy at hm
  obtain ⟨hck, hm⟩ := dp_ck_e hm
  refine lv_null hx hb dX3_isSureBy_0 ?_
  refine dp_astore_n (B := B) (o := none) (lv' := [(3, dp_ro B none), (0, .ref (B + x0)), (1, .ref (B + x1)), (2, .int x2)]) hx hb dX3_isSureBy_1 rfl hl (by decide) rfl (fun ls hl => ?_)
  refine lv_iconst (v := 0) hx hb dX3_isSureBy_2 (by decide) ?_
  refine lv_istore (lv' := [(4, .int 0), (3, dp_ro B none), (0, .ref (B + x0)), (1, .ref (B + x1)), (2, .int x2)]) hx hb dX3_isSureBy_3 hl (by decide) rfl (fun ls hl => ?_)
  exact w_X3_isSureBy_5 X hr 64 x0 x1 x2 none 0 hm _ _ _ hw (lv_sub hl [2, 3, 4, 1, 0] rfl)
set_option maxRecDepth 100000 in
set_option maxHeartbeats 4000000 in
theorem v_X3_sureFrom_2 {p : Program} {l : Launch} {e : Env} {s : State} {m : MethodId} {args : Array Value} {below : List Frame} {meth : Method} {c : Code} {D : va_G} {a : dp_A} {B : Nat} (X : dp_X p s m meth c cX3_sureFrom 3 RX3 D a B) (hr : meth.sig.returnType = (some .int)) {h : dp_H} {r : Int32} {k2 : Nat → Nat → Int32 → Option Int32} (hk2 : ∀ (x0 : Nat) (x1 : Nat) (x2 : Int32), k2 x0 x1 x2 = some r → ∀ (H : Heap) (locs : List Loc) (ls : Array Slot), dp_w D a B h s.heap H locs → lv_has ls 3 [(0, .ref (B + x0)), (1, .ref (B + x1)), (2, .int x2)] → W p l e rm_X3_sureFrom s m args below meth c H locs 0 0 (MQ below (dp_Q D a B (some (.int r)) h) args s rm_X3_sureFrom.cells rm_X3_sureFrom.slots (fun q => B ≤ q)) (F0 m 2 ls [])) : ∀ (x0 : Nat) (x1 : Nat) (x2 : Int32), b_X3_sureFrom_2 h k2 x0 x1 x2 = some r → ∀ (H : Heap) (locs : List Loc) (ls : Array Slot), dp_w D a B h s.heap H locs → lv_has ls 3 [(0, .ref (B + x0)), (1, .ref (B + x1)), (2, .int x2)] → W p l e rm_X3_sureFrom s m args below meth c H locs 0 0 (MQ below (dp_Q D a B (some (.int r)) h) args s rm_X3_sureFrom.cells rm_X3_sureFrom.slots (fun q => B ≤ q)) (F0 m 2 ls []) := by
  intro x0 x1 x2 hm H locs ls hw hl
  obtain ⟨hx, hb, hml, hown, hlk, hK, hB⟩ := id X
  unfold b_X3_sureFrom_2 at hm
  refine lv_iload_n hx hb dX3_sureFrom_2 rfl (lv_at hl 2 rfl) ?_
  refine lv_aload_n hx hb dX3_sureFrom_3 rfl (lv_at hl 1 rfl) ?_
  obtain ⟨v1, ev1, hm⟩ := dp_ob hm
  refine dp_cV (As := []) (rest := [.int x2]) X hw (c_X5_size l D a B h x1 ev1) vm_X5_size ml_X3_30 (by decide) rfl rfl (ck_X5_size ev1) rfl rfl hl.1 rfl (Nat.le_of_ble_eq_true rfl) dX3_sureFrom_4 ⟨(Nat.zero_le _), (Nat.zero_le _)⟩ (fun H locs hw => ?_)
  refine lv_icmp_gt (tgt := 27) hx hb dX3_sureFrom_7 (by decide) (fun hc => ?_) (fun hc => ?_)
  · have hm := dp_ip hc hm
    refine lv_iconst (v := (-1)) hx hb dX3_sureFrom_27 (by decide) ?_
    cases hm
    exact dp_iret X hr hw dX3_sureFrom_28
  · have hm := dp_in hc hm
    refine lv_aload_n hx hb dX3_sureFrom_10 rfl (lv_at hl 0 rfl) ?_
    refine lv_aload_n hx hb dX3_sureFrom_11 rfl (lv_at hl 1 rfl) ?_
    refine lv_iload_n hx hb dX3_sureFrom_12 rfl (lv_at hl 2 rfl) ?_
    obtain ⟨v2, ev2, hm⟩ := dp_ob hm
    refine dp_cV (As := [.ref (B + x1), .int x2]) (rest := []) X hw (c_X3_isSureBy l D a B h x0 x1 x2 ev2) vm_X3_isSureBy ml_X3_46 (by decide) rfl rfl (ck_X3_isSureBy ev2) rfl rfl hl.1 rfl (Nat.le_of_ble_eq_true rfl) dX3_sureFrom_13 ⟨(Nat.zero_le _), (Nat.zero_le _)⟩ (fun H locs hw => ?_)
    refine lv_if_eq (tgt := 21) hx hb dX3_sureFrom_16 (by decide) (fun hc => ?_) (fun hc => ?_)
    · have hm := dp_ip hc hm
      refine lv_iinc (v := (x2 + 1)) (lv' := [(2, .int (x2 + 1)), (0, .ref (B + x0)), (1, .ref (B + x1))]) hx hb dX3_sureFrom_21 hl (k := 2) rfl rfl (by decide) rfl (fun ls hl => ?_)
      refine lv_goto (tgt := 2) hx hb dX3_sureFrom_24 (by decide) ?_
      exact hk2 x0 x1 (x2 + 1) hm _ _ _ hw (lv_sub hl [1, 2, 0] rfl)
    · have hm := dp_in hc hm
      refine lv_iload_n hx hb dX3_sureFrom_19 rfl (lv_at hl 2 rfl) ?_
      cases hm
      exact dp_iret X hr hw dX3_sureFrom_20
set_option maxRecDepth 100000 in
set_option maxHeartbeats 4000000 in
theorem w_X3_sureFrom_2 {p : Program} {l : Launch} {e : Env} {s : State} {m : MethodId} {args : Array Value} {below : List Frame} {meth : Method} {c : Code} {D : va_G} {a : dp_A} {B : Nat} (X : dp_X p s m meth c cX3_sureFrom 3 RX3 D a B) (hr : meth.sig.returnType = (some .int)) {h : dp_H} {r : Int32}  : ∀ (n : Nat) (x0 : Nat) (x1 : Nat) (x2 : Int32), m_X3_sureFrom_2 h  n x0 x1 x2 = some r → ∀ (H : Heap) (locs : List Loc) (ls : Array Slot), dp_w D a B h s.heap H locs → lv_has ls 3 [(0, .ref (B + x0)), (1, .ref (B + x1)), (2, .int x2)] → W p l e rm_X3_sureFrom s m args below meth c H locs 0 0 (MQ below (dp_Q D a B (some (.int r)) h) args s rm_X3_sureFrom.cells rm_X3_sureFrom.slots (fun q => B ≤ q)) (F0 m 2 ls []) := by
  intro n
  induction n with
  | zero => intro x0 x1 x2 hm; cases hm
  | succ n ih => intro x0 x1 x2 hm; exact v_X3_sureFrom_2 X hr ih x0 x1 x2 hm
theorem ck_X3_sureFrom {h : dp_H} {x0 : Nat} {x1 : Nat} {r : Int32} (hm : m_X3_sureFrom h x0 x1 = some r) : dp_is h x0 3 = true := (dp_ck_e hm).1
set_option maxRecDepth 100000 in
set_option maxHeartbeats 4000000 in
theorem c_X3_sureFrom (l : Launch) (D : va_G) (a : dp_A) (B : Nat) (h : dp_H) (x0 : Nat) (x1 : Nat) {r : Int32} (hm : m_X3_sureFrom h x0 x1 = some r) : dp_M l D a B yX3_sureFrom cX3_sureFrom 3 (some .int) rm_X3_sureFrom [.ref (B + x0), .ref (B + x1)] h (some (.int r)) h := by
  refine dp_M.of (own := RX3) (nm := "sureFrom") (by decide) rfl rfl (Nat.le_of_ble_eq_true rfl) ?_
  intro p e s m below meth c ls X hr hin hw hl
  have hl : lv_has ls 3 [(0, .ref (B + x0)), (1, .ref (B + x1))] := hl
  obtain ⟨hx, hb, hml, hown, hlk, hK, hB⟩ := id X
  unfold m_X3_sureFrom at hm
  obtain ⟨hck, hm⟩ := dp_ck_e hm
  refine lv_iconst (v := 0) hx hb dX3_sureFrom_0 (by decide) ?_
  refine lv_istore_n (lv' := [(2, .int 0), (0, .ref (B + x0)), (1, .ref (B + x1))]) hx hb dX3_sureFrom_1 rfl hl (by decide) rfl (fun ls hl => ?_)
  exact w_X3_sureFrom_2 X hr 64 x0 x1 0 hm _ _ _ hw (lv_sub hl [1, 2, 0] rfl)
theorem ck_X3_isClash {h : dp_H} {x0 : Nat} {x1 : Int32} {x2 : Int32} {r : Int32} (hm : m_X3_isClash h x0 x1 x2 = some r) : dp_is h x0 3 = true := (dp_ck_e hm).1
set_option maxRecDepth 100000 in
set_option maxHeartbeats 4000000 in
theorem c_X3_isClash (l : Launch) (D : va_G) (a : dp_A) (B : Nat) (h : dp_H) (x0 : Nat) (x1 : Int32) (x2 : Int32) {r : Int32} (hm : m_X3_isClash h x0 x1 x2 = some r) : dp_M l D a B yX3_isClash cX3_isClash 5 (some .boolean) rm_X3_isClash [.ref (B + x0), .int x1, .int x2] h (some (.int r)) h := by
  refine dp_M.of (own := RX3) (nm := "isClash") (by decide) rfl rfl (Nat.le_of_ble_eq_true rfl) ?_
  intro p e s m below meth c ls X hr hin hw hl
  have hl : lv_has ls 5 [(0, .ref (B + x0)), (1, .int x1), (2, .int x2)] := hl
  obtain ⟨hx, hb, hml, hown, hlk, hK, hB⟩ := id X
  unfold m_X3_isClash at hm
  obtain ⟨hck, hm⟩ := dp_ck_e hm
  refine lv_aload_n hx hb dX3_isClash_0 rfl (lv_at hl 0 rfl) ?_
  refine lv_iload_n hx hb dX3_isClash_1 rfl (lv_at hl 1 rfl) ?_
  obtain ⟨v1, ev1, hm⟩ := dp_ob hm
  refine dp_cV (As := [.int x1]) (rest := []) X hw (c_X3_at l D a B h x0 x1 ev1) vm_X3_at ml_X3_26 (by decide) rfl rfl (ck_X3_at ev1) rfl rfl hl.1 rfl (Nat.le_of_ble_eq_true rfl) dX3_isClash_2 ⟨(Nat.zero_le _), (Nat.zero_le _)⟩ (fun H locs hw => ?_)
  refine dp_astore_n (B := B) (o := v1) (lv' := [(3, dp_ro B v1), (0, .ref (B + x0)), (1, .int x1), (2, .int x2)]) hx hb dX3_isClash_5 rfl hl (by decide) rfl (fun ls hl => ?_)
  refine lv_aload_n hx hb dX3_isClash_6 rfl (lv_at hl 1 rfl) ?_
  refine lv_iload_n hx hb dX3_isClash_7 rfl (lv_at hl 3 rfl) ?_
  obtain ⟨v2, ev2, hm⟩ := dp_ob hm
  refine dp_cV (As := [.int x2]) (rest := []) X hw (c_X3_at l D a B h x0 x2 ev2) vm_X3_at ml_X3_26 (by decide) rfl rfl (ck_X3_at ev2) rfl rfl hl.1 rfl (Nat.le_of_ble_eq_true rfl) dX3_isClash_8 ⟨(Nat.zero_le _), (Nat.zero_le _)⟩ (fun H locs hw => ?_)
  refine dp_astore (B := B) (o := v2) (lv' := [(4, dp_ro B v2), (3, dp_ro B v1), (0, .ref (B + x0)), (1, .int x1), (2, .int x2)]) hx hb dX3_isClash_11 hl (by decide) (by rcases v1 with _ | _ <;> rfl) (fun ls hl => ?_)
  refine dp_aload_n (B := B) (o := v1) hx hb dX3_isClash_13 rfl (lv_at hl 1 rfl) ?_
  rcases v1 with _ | u3
  · have hl : lv_has ls 5 [(4, dp_ro B v2), (3, dp_ro B none), (0, .ref (B + x0)), (1, .int x1), (2, .int x2)] := hl
    have hm := dp_om_n hm
    refine lv_ifnullN (tgt := 35) hx hb dX3_isClash_14 (by decide) ?_
    refine lv_iconst (v := 0) hx hb dX3_isClash_35 (by decide) ?_
    cases hm
    exact dp_zret X hr hw (by decide) dX3_isClash_36
  · have hl : lv_has ls 5 [(4, dp_ro B v2), (3, .ref (B + u3)), (0, .ref (B + x0)), (1, .int x1), (2, .int x2)] := hl
    have hm := dp_om_s hm
    refine lv_ifnull hx hb dX3_isClash_14 ?_
    refine dp_aload (B := B) (o := v2) hx hb dX3_isClash_17 (lv_at hl 0 rfl) ?_
    rcases v2 with _ | u4
    · have hl : lv_has ls 5 [(4, dp_ro B none), (3, .ref (B + u3)), (0, .ref (B + x0)), (1, .int x1), (2, .int x2)] := hl
      have hm := dp_om_n hm
      refine lv_ifnullN (tgt := 35) hx hb dX3_isClash_19 (by decide) ?_
      refine lv_iconst (v := 0) hx hb dX3_isClash_35 (by decide) ?_
      cases hm
      exact dp_zret X hr hw (by decide) dX3_isClash_36
    · have hl : lv_has ls 5 [(4, .ref (B + u4)), (3, .ref (B + u3)), (0, .ref (B + x0)), (1, .int x1), (2, .int x2)] := hl
      have hm := dp_om_s hm
      refine lv_ifnull hx hb dX3_isClash_19 ?_
      refine lv_aload_n hx hb dX3_isClash_22 rfl (lv_at hl 1 rfl) ?_
      refine lv_aload hx hb dX3_isClash_23 (lv_at hl 0 rfl) ?_
      obtain ⟨v5, ev5, hm⟩ := dp_ob hm
      refine dp_cV (As := [.ref (B + u4)]) (rest := []) X hw (c_X1_clashesWith l D a B h u3 u4 ev5) vm_X1_clashesWith ml_X3_53 (by decide) rfl rfl (ck_X1_clashesWith ev5) rfl rfl hl.1 rfl (Nat.le_of_ble_eq_true rfl) dX3_isClash_25 ⟨(Nat.zero_le _), (Nat.zero_le _)⟩ (fun H locs hw => ?_)
      refine lv_if_eq (tgt := 35) hx hb dX3_isClash_28 (by decide) (fun hc => ?_) (fun hc => ?_)
      · have hm := dp_ip hc hm
        refine lv_iconst (v := 0) hx hb dX3_isClash_35 (by decide) ?_
        cases hm
        exact dp_zret X hr hw (by decide) dX3_isClash_36
      · have hm := dp_in hc hm
        refine lv_iconst (v := 1) hx hb dX3_isClash_31 (by decide) ?_
        refine lv_goto (tgt := 36) hx hb dX3_isClash_32 (by decide) ?_
        cases hm
        exact dp_zret X hr hw (by decide) dX3_isClash_36
set_option maxRecDepth 100000 in
set_option maxHeartbeats 4000000 in
theorem v_X3_clashes_16 {p : Program} {l : Launch} {e : Env} {s : State} {m : MethodId} {args : Array Value} {below : List Frame} {meth : Method} {c : Code} {D : va_G} {a : dp_A} {B : Nat} (X : dp_X p s m meth c cX3_clashes 4 RX3 D a B) (hr : meth.sig.returnType = (some .int)) {h : dp_H} {r : Int32} {k4 : Nat → Int32 → Int32 → Option Int32} (hk4 : ∀ (x0 : Nat) (x1 : Int32) (x2 : Int32), k4 x0 x1 x2 = some r → ∀ (H : Heap) (locs : List Loc) (ls : Array Slot), dp_w D a B h s.heap H locs → lv_has ls 4 [(0, .ref (B + x0)), (1, .int x1), (2, .int x2)] → W p l e rm_X3_clashes s m args below meth c H locs 0 0 (MQ below (dp_Q D a B (some (.int r)) h) args s rm_X3_clashes.cells rm_X3_clashes.slots (fun q => B ≤ q)) (F0 m 4 ls [])) {k16 : Nat → Int32 → Int32 → Int32 → Option Int32} (hk16 : ∀ (x0 : Nat) (x1 : Int32) (x2 : Int32) (x3 : Int32), k16 x0 x1 x2 x3 = some r → ∀ (H : Heap) (locs : List Loc) (ls : Array Slot), dp_w D a B h s.heap H locs → lv_has ls 4 [(0, .ref (B + x0)), (1, .int x1), (2, .int x2), (3, .int x3)] → W p l e rm_X3_clashes s m args below meth c H locs 0 0 (MQ below (dp_Q D a B (some (.int r)) h) args s rm_X3_clashes.cells rm_X3_clashes.slots (fun q => B ≤ q)) (F0 m 16 ls [])) : ∀ (x0 : Nat) (x1 : Int32) (x2 : Int32) (x3 : Int32), b_X3_clashes_16 h k4 k16 x0 x1 x2 x3 = some r → ∀ (H : Heap) (locs : List Loc) (ls : Array Slot), dp_w D a B h s.heap H locs → lv_has ls 4 [(0, .ref (B + x0)), (1, .int x1), (2, .int x2), (3, .int x3)] → W p l e rm_X3_clashes s m args below meth c H locs 0 0 (MQ below (dp_Q D a B (some (.int r)) h) args s rm_X3_clashes.cells rm_X3_clashes.slots (fun q => B ≤ q)) (F0 m 16 ls []) := by
  intro x0 x1 x2 x3 hm H locs ls hw hl
  obtain ⟨hx, hb, hml, hown, hlk, hK, hB⟩ := id X
  unfold b_X3_clashes_16 at hm
  refine lv_iload_n hx hb dX3_clashes_16 rfl (lv_at hl 3 rfl) ?_
  refine lv_aload_n hx hb dX3_clashes_17 rfl (lv_at hl 0 rfl) ?_
  obtain ⟨v1, ev1, hm⟩ := dp_ob hm
  refine dp_geti X hw cl_X3 1 (by decide) fl_X3_18 ev1 dX3_clashes_18 ?_
  refine lv_icmp_ge (tgt := 42) hx hb dX3_clashes_21 (by decide) (fun hc => ?_) (fun hc => ?_)
  · have hm := dp_ip hc hm
    refine lv_iinc (v := (x2 + 1)) (lv' := [(2, .int (x2 + 1)), (0, .ref (B + x0)), (1, .int x1), (3, .int x3)]) hx hb dX3_clashes_42 hl (k := 2) rfl rfl (by decide) rfl (fun ls hl => ?_)
    refine lv_goto (tgt := 4) hx hb dX3_clashes_45 (by decide) ?_
    exact hk4 x0 x1 (x2 + 1) hm _ _ _ hw (lv_sub hl [1, 2, 0] rfl)
  · have hm := dp_in hc hm
    refine lv_aload_n hx hb dX3_clashes_24 rfl (lv_at hl 0 rfl) ?_
    refine lv_iload_n hx hb dX3_clashes_25 rfl (lv_at hl 2 rfl) ?_
    refine lv_iload_n hx hb dX3_clashes_26 rfl (lv_at hl 3 rfl) ?_
    obtain ⟨v2, ev2, hm⟩ := dp_ob hm
    refine dp_cV (As := [.int x2, .int x3]) (rest := []) X hw (c_X3_isClash l D a B h x0 x2 x3 ev2) vm_X3_isClash ml_X3_56 (by decide) rfl rfl (ck_X3_isClash ev2) rfl rfl hl.1 rfl (Nat.le_of_ble_eq_true rfl) dX3_clashes_27 ⟨(Nat.zero_le _), (Nat.zero_le _)⟩ (fun H locs hw => ?_)
    refine lv_if_eq (tgt := 36) hx hb dX3_clashes_30 (by decide) (fun hc => ?_) (fun hc => ?_)
    · have hm := dp_ip hc hm
      refine lv_iinc (v := (x3 + 1)) (lv' := [(3, .int (x3 + 1)), (0, .ref (B + x0)), (1, .int x1), (2, .int x2)]) hx hb dX3_clashes_36 hl (k := 3) rfl rfl (by decide) rfl (fun ls hl => ?_)
      refine lv_goto (tgt := 16) hx hb dX3_clashes_39 (by decide) ?_
      exact hk16 x0 x1 x2 (x3 + 1) hm _ _ _ hw (lv_sub hl [1, 2, 3, 0] rfl)
    · have hm := dp_in hc hm
      refine lv_iinc (v := (x1 + 1)) (lv' := [(1, .int (x1 + 1)), (0, .ref (B + x0)), (2, .int x2), (3, .int x3)]) hx hb dX3_clashes_33 hl (k := 1) rfl rfl (by decide) rfl (fun ls hl => ?_)
      refine lv_iinc (v := (x3 + 1)) (lv' := [(3, .int (x3 + 1)), (1, .int (x1 + 1)), (0, .ref (B + x0)), (2, .int x2)]) hx hb dX3_clashes_36 hl (k := 3) rfl rfl (by decide) rfl (fun ls hl => ?_)
      refine lv_goto (tgt := 16) hx hb dX3_clashes_39 (by decide) ?_
      exact hk16 x0 (x1 + 1) x2 (x3 + 1) hm _ _ _ hw (lv_sub hl [2, 1, 3, 0] rfl)
set_option maxRecDepth 100000 in
set_option maxHeartbeats 4000000 in
theorem w_X3_clashes_16 {p : Program} {l : Launch} {e : Env} {s : State} {m : MethodId} {args : Array Value} {below : List Frame} {meth : Method} {c : Code} {D : va_G} {a : dp_A} {B : Nat} (X : dp_X p s m meth c cX3_clashes 4 RX3 D a B) (hr : meth.sig.returnType = (some .int)) {h : dp_H} {r : Int32} {k4 : Nat → Int32 → Int32 → Option Int32} (hk4 : ∀ (x0 : Nat) (x1 : Int32) (x2 : Int32), k4 x0 x1 x2 = some r → ∀ (H : Heap) (locs : List Loc) (ls : Array Slot), dp_w D a B h s.heap H locs → lv_has ls 4 [(0, .ref (B + x0)), (1, .int x1), (2, .int x2)] → W p l e rm_X3_clashes s m args below meth c H locs 0 0 (MQ below (dp_Q D a B (some (.int r)) h) args s rm_X3_clashes.cells rm_X3_clashes.slots (fun q => B ≤ q)) (F0 m 4 ls [])) : ∀ (n : Nat) (x0 : Nat) (x1 : Int32) (x2 : Int32) (x3 : Int32), m_X3_clashes_16 h k4 n x0 x1 x2 x3 = some r → ∀ (H : Heap) (locs : List Loc) (ls : Array Slot), dp_w D a B h s.heap H locs → lv_has ls 4 [(0, .ref (B + x0)), (1, .int x1), (2, .int x2), (3, .int x3)] → W p l e rm_X3_clashes s m args below meth c H locs 0 0 (MQ below (dp_Q D a B (some (.int r)) h) args s rm_X3_clashes.cells rm_X3_clashes.slots (fun q => B ≤ q)) (F0 m 16 ls []) := by
  intro n
  induction n with
  | zero => intro x0 x1 x2 x3 hm; cases hm
  | succ n ih => intro x0 x1 x2 x3 hm; exact v_X3_clashes_16 X hr hk4 ih x0 x1 x2 x3 hm
set_option maxRecDepth 100000 in
set_option maxHeartbeats 4000000 in
theorem v_X3_clashes_4 {p : Program} {l : Launch} {e : Env} {s : State} {m : MethodId} {args : Array Value} {below : List Frame} {meth : Method} {c : Code} {D : va_G} {a : dp_A} {B : Nat} (X : dp_X p s m meth c cX3_clashes 4 RX3 D a B) (hr : meth.sig.returnType = (some .int)) {h : dp_H} {r : Int32} {k4 : Nat → Int32 → Int32 → Option Int32} (hk4 : ∀ (x0 : Nat) (x1 : Int32) (x2 : Int32), k4 x0 x1 x2 = some r → ∀ (H : Heap) (locs : List Loc) (ls : Array Slot), dp_w D a B h s.heap H locs → lv_has ls 4 [(0, .ref (B + x0)), (1, .int x1), (2, .int x2)] → W p l e rm_X3_clashes s m args below meth c H locs 0 0 (MQ below (dp_Q D a B (some (.int r)) h) args s rm_X3_clashes.cells rm_X3_clashes.slots (fun q => B ≤ q)) (F0 m 4 ls [])) : ∀ (x0 : Nat) (x1 : Int32) (x2 : Int32), b_X3_clashes_4 h k4 x0 x1 x2 = some r → ∀ (H : Heap) (locs : List Loc) (ls : Array Slot), dp_w D a B h s.heap H locs → lv_has ls 4 [(0, .ref (B + x0)), (1, .int x1), (2, .int x2)] → W p l e rm_X3_clashes s m args below meth c H locs 0 0 (MQ below (dp_Q D a B (some (.int r)) h) args s rm_X3_clashes.cells rm_X3_clashes.slots (fun q => B ≤ q)) (F0 m 4 ls []) := by
  intro x0 x1 x2 hm H locs ls hw hl
  obtain ⟨hx, hb, hml, hown, hlk, hK, hB⟩ := id X
  unfold b_X3_clashes_4 at hm
  refine lv_iload_n hx hb dX3_clashes_4 rfl (lv_at hl 2 rfl) ?_
  refine lv_aload_n hx hb dX3_clashes_5 rfl (lv_at hl 0 rfl) ?_
  obtain ⟨v1, ev1, hm⟩ := dp_ob hm
  refine dp_geti X hw cl_X3 1 (by decide) fl_X3_18 ev1 dX3_clashes_6 ?_
  refine lv_icmp_ge (tgt := 48) hx hb dX3_clashes_9 (by decide) (fun hc => ?_) (fun hc => ?_)
  · have hm := dp_ip hc hm
    refine lv_iload_n hx hb dX3_clashes_48 rfl (lv_at hl 1 rfl) ?_
    cases hm
    exact dp_iret X hr hw dX3_clashes_49
  · have hm := dp_in hc hm
    refine lv_iload_n hx hb dX3_clashes_12 rfl (lv_at hl 2 rfl) ?_
    refine lv_iconst (v := 1) hx hb dX3_clashes_13 (by decide) ?_
    refine lv_iadd hx hb dX3_clashes_14 ?_
    refine lv_istore_n (lv' := [(3, .int (x2 + 1)), (0, .ref (B + x0)), (1, .int x1), (2, .int x2)]) hx hb dX3_clashes_15 rfl hl (by decide) rfl (fun ls hl => ?_)
    exact w_X3_clashes_16 X hr hk4 64 x0 x1 x2 (x2 + 1) hm _ _ _ hw (lv_sub hl [1, 2, 3, 0] rfl)
set_option maxRecDepth 100000 in
set_option maxHeartbeats 4000000 in
theorem w_X3_clashes_4 {p : Program} {l : Launch} {e : Env} {s : State} {m : MethodId} {args : Array Value} {below : List Frame} {meth : Method} {c : Code} {D : va_G} {a : dp_A} {B : Nat} (X : dp_X p s m meth c cX3_clashes 4 RX3 D a B) (hr : meth.sig.returnType = (some .int)) {h : dp_H} {r : Int32}  : ∀ (n : Nat) (x0 : Nat) (x1 : Int32) (x2 : Int32), m_X3_clashes_4 h  n x0 x1 x2 = some r → ∀ (H : Heap) (locs : List Loc) (ls : Array Slot), dp_w D a B h s.heap H locs → lv_has ls 4 [(0, .ref (B + x0)), (1, .int x1), (2, .int x2)] → W p l e rm_X3_clashes s m args below meth c H locs 0 0 (MQ below (dp_Q D a B (some (.int r)) h) args s rm_X3_clashes.cells rm_X3_clashes.slots (fun q => B ≤ q)) (F0 m 4 ls []) := by
  intro n
  induction n with
  | zero => intro x0 x1 x2 hm; cases hm
  | succ n ih => intro x0 x1 x2 hm; exact v_X3_clashes_4 X hr ih x0 x1 x2 hm
theorem ck_X3_clashes {h : dp_H} {x0 : Nat} {r : Int32} (hm : m_X3_clashes h x0 = some r) : dp_is h x0 3 = true := (dp_ck_e hm).1
set_option maxRecDepth 100000 in
set_option maxHeartbeats 4000000 in
theorem c_X3_clashes (l : Launch) (D : va_G) (a : dp_A) (B : Nat) (h : dp_H) (x0 : Nat) {r : Int32} (hm : m_X3_clashes h x0 = some r) : dp_M l D a B yX3_clashes cX3_clashes 4 (some .int) rm_X3_clashes [.ref (B + x0)] h (some (.int r)) h := by
  refine dp_M.of (own := RX3) (nm := "clashes") (by decide) rfl rfl (Nat.le_of_ble_eq_true rfl) ?_
  intro p e s m below meth c ls X hr hin hw hl
  have hl : lv_has ls 4 [(0, .ref (B + x0))] := hl
  obtain ⟨hx, hb, hml, hown, hlk, hK, hB⟩ := id X
  unfold m_X3_clashes at hm
  obtain ⟨hck, hm⟩ := dp_ck_e hm
  refine lv_iconst (v := 0) hx hb dX3_clashes_0 (by decide) ?_
  refine lv_istore_n (lv' := [(1, .int 0), (0, .ref (B + x0))]) hx hb dX3_clashes_1 rfl hl (by decide) rfl (fun ls hl => ?_)
  refine lv_iconst (v := 0) hx hb dX3_clashes_2 (by decide) ?_
  refine lv_istore_n (lv' := [(2, .int 0), (1, .int 0), (0, .ref (B + x0))]) hx hb dX3_clashes_3 rfl hl (by decide) rfl (fun ls hl => ?_)
  exact w_X3_clashes_4 X hr 64 x0 0 0 hm _ _ _ hw (lv_sub hl [2, 1, 0] rfl)
theorem ck_X4_init {h : dp_H} {x0 : Nat} {h' : dp_H} (hm : m_X4_init h x0 = some h') : dp_is h x0 4 = true := (dp_ck_e hm).1
set_option maxRecDepth 100000 in
set_option maxHeartbeats 4000000 in
theorem c_X4_init (l : Launch) (D : va_G) (a : dp_A) (B : Nat) (h : dp_H) (x0 : Nat) {h' : dp_H} (hm : m_X4_init h x0 = some h') : dp_M l D a B yX4_init cX4_init 1 none rm_X4_init [.ref (B + x0)] h none h' := by
  refine dp_M.of (own := RX4) (nm := "<init>") (by decide) rfl rfl (Nat.le_of_ble_eq_true rfl) ?_
  intro p e s m below meth c ls X hr hin hw hl
  have hl : lv_has ls 1 [(0, .ref (B + x0))] := hl
  obtain ⟨hx, hb, hml, hown, hlk, hK, hB⟩ := id X
  unfold m_X4_init at hm
  obtain ⟨hck, hm⟩ := dp_ck_e hm
  refine lv_aload_n hx hb dX4_init_0 rfl (lv_at hl 0 rfl) ?_
  refine W.objInit hx hb hown (hK.word ml_X4_3 rfl) (hK.word obj_inst rfl) (hK.word obj_code rfl) rfl (hl.1.trans hml.symm) rfl dX4_init_1 (Nat.le_of_ble_eq_true rfl) (Nat.le_of_ble_eq_true rfl) ?_
  refine W.eq (g2 := F0 m 4 ls []) rfl ?_
  refine lv_aload_n hx hb dX4_init_4 rfl (lv_at hl 0 rfl) ?_
  obtain ⟨h1, eh1, hm⟩ := dp_ob hm
  refine dp_newc X hw cl_X5 cn_X4_9 ci_X5 ini_X5 bl_X5_ok eh1 (by decide) (by decide) dX4_init_5 (fun H hw => ?_)
  refine lv_dup hx hb dX4_init_8 rfl ?_
  refine lv_bipush (v := 10) hx hb dX4_init_9 (by decide) ?_
  obtain ⟨h2, eh2, hm⟩ := dp_ob hm
  refine dp_cI (As := [.int 10]) (rest := [.ref (B + (List.length h)), .ref (B + x0)]) X hw (c_X5_init l D a B h1 (List.length h) 10 eh2) sm_X5_init rfl in_X5_init ml_X4_11 (by decide) rfl hl.1 rfl (Nat.le_of_ble_eq_true rfl) dX4_init_11 ⟨(by decide), (by decide)⟩ (fun H locs hw => ?_)
  refine W.widen (k := 0 + 1 + 1) (n := 0 + 2 + 80) (Nat.le_refl _) (Nat.le_refl _) ?_
  obtain ⟨h3, eh3, hm⟩ := dp_ob hm
  refine dp_putFr X hin hw cl_X4 0 (by decide) fl_X4_14 rfl rfl (Or.inl ⟨_, rfl⟩) eh3 dX4_init_14 (fun H locs hw => ?_)
  refine lv_aload_n hx hb dX4_init_17 rfl (lv_at hl 0 rfl) ?_
  obtain ⟨h4, eh4, hm⟩ := dp_ob hm
  refine dp_newc X hw cl_X5 cn_X4_9 ci_X5 ini_X5 bl_X5_ok eh4 (by decide) (by decide) dX4_init_18 (fun H hw => ?_)
  refine lv_dup hx hb dX4_init_21 rfl ?_
  refine lv_bipush (v := 10) hx hb dX4_init_22 (by decide) ?_
  obtain ⟨h5, eh5, hm⟩ := dp_ob hm
  refine dp_cI (As := [.int 10]) (rest := [.ref (B + (List.length h3)), .ref (B + x0)]) X hw (c_X5_init l D a B h4 (List.length h3) 10 eh5) sm_X5_init rfl in_X5_init ml_X4_11 (by decide) rfl hl.1 rfl (Nat.le_of_ble_eq_true rfl) dX4_init_24 ⟨(by decide), (by decide)⟩ (fun H locs hw => ?_)
  refine W.widen (k := 0 + 1 + 1 + 1 + 1) (n := 0 + 2 + 80 + 2 + 80) (Nat.le_refl _) (Nat.le_refl _) ?_
  obtain ⟨h6, eh6, hm⟩ := dp_ob hm
  refine dp_putFr X hin hw cl_X4 1 (by decide) fl_X4_20 rfl rfl (Or.inl ⟨_, rfl⟩) eh6 dX4_init_27 (fun H locs hw => ?_)
  refine lv_aload_n hx hb dX4_init_30 rfl (lv_at hl 0 rfl) ?_
  refine lv_iconst (v := (-1)) hx hb dX4_init_31 (by decide) ?_
  obtain ⟨h7, eh7, hm⟩ := dp_ob hm
  refine dp_puti X hw cl_X4 2 (by decide) fl_X4_23 rfl rfl eh7 dX4_init_32 (fun H locs hw => ?_)
  cases hm
  refine W.widen (k := rm_X4_init.cells) (n := rm_X4_init.slots) (by decide) (by decide) ?_
  exact dp_vret X hr hw dX4_init_35
theorem ck_X4_way {h : dp_H} {x0 : Nat} {r : Int32} (hm : m_X4_way h x0 = some r) : dp_is h x0 4 = true := (dp_ck_e hm).1
set_option maxRecDepth 100000 in
set_option maxHeartbeats 4000000 in
theorem c_X4_way (l : Launch) (D : va_G) (a : dp_A) (B : Nat) (h : dp_H) (x0 : Nat) {r : Int32} (hm : m_X4_way h x0 = some r) : dp_M l D a B yX4_way cX4_way 1 (some .int) rm_X4_way [.ref (B + x0)] h (some (.int r)) h := by
  refine dp_M.of (own := RX4) (nm := "way") (by decide) rfl rfl (Nat.le_of_ble_eq_true rfl) ?_
  intro p e s m below meth c ls X hr hin hw hl
  have hl : lv_has ls 1 [(0, .ref (B + x0))] := hl
  obtain ⟨hx, hb, hml, hown, hlk, hK, hB⟩ := id X
  unfold m_X4_way at hm
  obtain ⟨hck, hm⟩ := dp_ck_e hm
  refine lv_aload_n hx hb dX4_way_0 rfl (lv_at hl 0 rfl) ?_
  obtain ⟨v1, ev1, hm⟩ := dp_ob hm
  refine dp_geti X hw cl_X4 2 (by decide) fl_X4_23 ev1 dX4_way_1 ?_
  cases hm
  exact dp_iret X hr hw dX4_way_4
theorem ck_X4_times {h : dp_H} {x0 : Nat} {r : Int32} (hm : m_X4_times h x0 = some r) : dp_is h x0 4 = true := (dp_ck_e hm).1
set_option maxRecDepth 100000 in
set_option maxHeartbeats 4000000 in
theorem c_X4_times (l : Launch) (D : va_G) (a : dp_A) (B : Nat) (h : dp_H) (x0 : Nat) {r : Int32} (hm : m_X4_times h x0 = some r) : dp_M l D a B yX4_times cX4_times 1 (some .int) rm_X4_times [.ref (B + x0)] h (some (.int r)) h := by
  refine dp_M.of (own := RX4) (nm := "times") (by decide) rfl rfl (Nat.le_of_ble_eq_true rfl) ?_
  intro p e s m below meth c ls X hr hin hw hl
  have hl : lv_has ls 1 [(0, .ref (B + x0))] := hl
  obtain ⟨hx, hb, hml, hown, hlk, hK, hB⟩ := id X
  unfold m_X4_times at hm
  obtain ⟨hck, hm⟩ := dp_ck_e hm
  refine lv_aload_n hx hb dX4_times_0 rfl (lv_at hl 0 rfl) ?_
  obtain ⟨v1, ev1, hm⟩ := dp_ob hm
  refine dp_geti X hw cl_X4 3 (by decide) fl_X4_27 ev1 dX4_times_1 ?_
  cases hm
  exact dp_iret X hr hw dX4_times_4
theorem ck_X4_result {h : dp_H} {x0 : Nat} {r : Nat} (hm : m_X4_result h x0 = some r) : dp_is h x0 4 = true := (dp_ck_e hm).1
set_option maxRecDepth 100000 in
set_option maxHeartbeats 4000000 in
theorem c_X4_result (l : Launch) (D : va_G) (a : dp_A) (B : Nat) (h : dp_H) (x0 : Nat) {r : Nat} (hm : m_X4_result h x0 = some r) : dp_M l D a B yX4_result cX4_result 1 (some (.object "DialPlan$Row")) rm_X4_result [.ref (B + x0)] h (some (.ref (B + r))) h := by
  refine dp_M.of (own := RX4) (nm := "result") (by decide) rfl rfl (Nat.le_of_ble_eq_true rfl) ?_
  intro p e s m below meth c ls X hr hin hw hl
  have hl : lv_has ls 1 [(0, .ref (B + x0))] := hl
  obtain ⟨hx, hb, hml, hown, hlk, hK, hB⟩ := id X
  unfold m_X4_result at hm
  obtain ⟨hck, hm⟩ := dp_ck_e hm
  refine lv_aload_n hx hb dX4_result_0 rfl (lv_at hl 0 rfl) ?_
  obtain ⟨v1, ev1, hm⟩ := dp_ob hm
  refine dp_getr X hw cl_X4 0 (by decide) fl_X4_14 ev1 dX4_result_1 ?_
  cases hm
  exact dp_aret X hr (Or.inl ⟨_, rfl⟩) hw dX4_result_4
set_option maxRecDepth 100000 in
set_option maxHeartbeats 4000000 in
theorem v_X4_rewrite_18 {p : Program} {l : Launch} {e : Env} {s : State} {m : MethodId} {args : Array Value} {below : List Frame} {meth : Method} {c : Code} {D : va_G} {a : dp_A} {B : Nat} (X : dp_X p s m meth c cX4_rewrite 4 RX4 D a B) (hr : meth.sig.returnType = (some .boolean)) {h' : dp_H} {r : Int32} {k18 : dp_H → Nat → Int32 → Int32 → Option (dp_H × Int32)} (hk18 : ∀ (h : dp_H) (x0 : Nat) (x2 : Int32) (x3 : Int32), k18 h x0 x2 x3 = some (h', r) → ∀ (H : Heap) (locs : List Loc) (ls : Array Slot), dp_w D a B h s.heap H locs → lv_has ls 4 [(0, .ref (B + x0)), (2, .int x2), (3, .int x3)] → W p l e rm_X4_rewrite s m args below meth c H locs 0 0 (MQ below (dp_Q D a B (some (.int r)) h') args s rm_X4_rewrite.cells rm_X4_rewrite.slots (fun q => B ≤ q)) (F0 m 18 ls [])) : ∀ (h : dp_H) (x0 : Nat) (x2 : Int32) (x3 : Int32), b_X4_rewrite_18 k18 h x0 x2 x3 = some (h', r) → ∀ (H : Heap) (locs : List Loc) (ls : Array Slot), dp_w D a B h s.heap H locs → lv_has ls 4 [(0, .ref (B + x0)), (2, .int x2), (3, .int x3)] → W p l e rm_X4_rewrite s m args below meth c H locs 0 0 (MQ below (dp_Q D a B (some (.int r)) h') args s rm_X4_rewrite.cells rm_X4_rewrite.slots (fun q => B ≤ q)) (F0 m 18 ls []) := by
  intro h x0 x2 x3 hm H locs ls hw hl
  obtain ⟨hx, hb, hml, hown, hlk, hK, hB⟩ := id X
  unfold b_X4_rewrite_18 at hm
  refine lv_iload_n hx hb dX4_rewrite_18 rfl (lv_at hl 2 rfl) ?_
  refine lv_aload_n hx hb dX4_rewrite_19 rfl (lv_at hl 0 rfl) ?_
  obtain ⟨v1, ev1, hm⟩ := dp_ob hm
  refine dp_getr X hw cl_X4 0 (by decide) fl_X4_14 ev1 dX4_rewrite_20 ?_
  obtain ⟨v2, ev2, hm⟩ := dp_ob hm
  refine dp_cV (As := []) (rest := [.int x3]) X hw (c_X5_size l D a B h v1 ev2) vm_X5_size ml_X4_63 (by decide) rfl rfl (ck_X5_size ev2) rfl rfl hl.1 rfl (Nat.le_of_ble_eq_true rfl) dX4_rewrite_23 ⟨(Nat.zero_le _), (Nat.zero_le _)⟩ (fun H locs hw => ?_)
  refine lv_icmp_ge (tgt := 63) hx hb dX4_rewrite_26 (by decide) (fun hc => ?_) (fun hc => ?_)
  · have hm := dp_ip hc hm
    refine lv_aload_n hx hb dX4_rewrite_63 rfl (lv_at hl 0 rfl) ?_
    obtain ⟨v3, ev3, hm⟩ := dp_ob hm
    refine dp_getr X hw cl_X4 0 (by decide) fl_X4_14 ev3 dX4_rewrite_64 ?_
    refine lv_aload_n hx hb dX4_rewrite_67 rfl (lv_at hl 0 rfl) ?_
    obtain ⟨v4, ev4, hm⟩ := dp_ob hm
    refine dp_getr X hw cl_X4 1 (by decide) fl_X4_20 ev4 dX4_rewrite_68 ?_
    obtain ⟨h5, eh5, hm⟩ := dp_ob hm
    refine dp_cVv (As := [.ref (B + v4)]) (rest := []) X hw (c_X5_copyFrom l D a B h v3 v4 eh5) vm_X5_copyFrom ml_X4_30 (by decide) rfl rfl (ck_X5_copyFrom eh5) rfl rfl hl.1 rfl (Nat.le_of_ble_eq_true rfl) dX4_rewrite_71 ⟨(Nat.zero_le _), (Nat.zero_le _)⟩ (fun H locs hw => ?_)
    refine lv_iload_n hx hb dX4_rewrite_74 rfl (lv_at hl 1 rfl) ?_
    refine lv_if_eq (tgt := 92) hx hb dX4_rewrite_75 (by decide) (fun hc => ?_) (fun hc => ?_)
    · have hm := dp_ip hc hm
      refine lv_iconst (v := 0) hx hb dX4_rewrite_92 (by decide) ?_
      cases hm
      exact dp_zret X hr hw (by decide) dX4_rewrite_93
    · have hm := dp_in hc hm
      refine lv_aload_n hx hb dX4_rewrite_78 rfl (lv_at hl 0 rfl) ?_
      obtain ⟨v6, ev6, hm⟩ := dp_ob hm
      refine dp_getr X hw cl_X4 0 (by decide) fl_X4_14 ev6 dX4_rewrite_79 ?_
      obtain ⟨v7, ev7, hm⟩ := dp_ob hm
      refine dp_cV (As := []) (rest := []) X hw (c_X5_size l D a B h5 v6 ev7) vm_X5_size ml_X4_63 (by decide) rfl rfl (ck_X5_size ev7) rfl rfl hl.1 rfl (Nat.le_of_ble_eq_true rfl) dX4_rewrite_82 ⟨(Nat.zero_le _), (Nat.zero_le _)⟩ (fun H locs hw => ?_)
      refine lv_if_le (tgt := 92) hx hb dX4_rewrite_85 (by decide) (fun hc => ?_) (fun hc => ?_)
      · have hm := dp_ip hc hm
        refine lv_iconst (v := 0) hx hb dX4_rewrite_92 (by decide) ?_
        cases hm
        exact dp_zret X hr hw (by decide) dX4_rewrite_93
      · have hm := dp_in hc hm
        refine lv_iconst (v := 1) hx hb dX4_rewrite_88 (by decide) ?_
        refine lv_goto (tgt := 93) hx hb dX4_rewrite_89 (by decide) ?_
        cases hm
        exact dp_zret X hr hw (by decide) dX4_rewrite_93
  · have hm := dp_in hc hm
    refine lv_aload_n hx hb dX4_rewrite_29 rfl (lv_at hl 0 rfl) ?_
    obtain ⟨v8, ev8, hm⟩ := dp_ob hm
    refine dp_getr X hw cl_X4 1 (by decide) fl_X4_20 ev8 dX4_rewrite_30 ?_
    refine lv_aload_n hx hb dX4_rewrite_33 rfl (lv_at hl 0 rfl) ?_
    obtain ⟨v9, ev9, hm⟩ := dp_ob hm
    refine dp_getr X hw cl_X4 0 (by decide) fl_X4_14 ev9 dX4_rewrite_34 ?_
    refine lv_iload_n hx hb dX4_rewrite_37 rfl (lv_at hl 2 rfl) ?_
    obtain ⟨v10, ev10, hm⟩ := dp_ob hm
    refine dp_cV (As := [.int x3]) (rest := [.ref (B + v8)]) X hw (c_X5_at l D a B h v9 x3 ev10) vm_X5_at ml_X4_66 (by decide) rfl rfl (ck_X5_at ev10) rfl rfl hl.1 rfl (Nat.le_of_ble_eq_true rfl) dX4_rewrite_38 ⟨(Nat.zero_le _), (Nat.zero_le _)⟩ (fun H locs hw => ?_)
    obtain ⟨h11, v12, ev12, hm⟩ := dp_ob2 hm
    refine dp_cV (As := [.int v10]) (rest := []) X hw (c_X5_append l D a B h v8 v10 ev12) vm_X5_append ml_X4_69 (by decide) rfl rfl (ck_X5_append ev12) rfl rfl hl.1 rfl (Nat.le_of_ble_eq_true rfl) dX4_rewrite_41 ⟨(Nat.zero_le _), (Nat.zero_le _)⟩ (fun H locs hw => ?_)
    refine lv_if_eq (tgt := 55) hx hb dX4_rewrite_44 (by decide) (fun hc => ?_) (fun hc => ?_)
    · have hm := dp_ip hc hm
      refine lv_iconst (v := 0) hx hb dX4_rewrite_55 (by decide) ?_
      refine lv_istore_n (lv' := [(2, .int 0), (0, .ref (B + x0)), (3, .int x3)]) hx hb dX4_rewrite_56 rfl hl (by decide) rfl (fun ls hl => ?_)
      refine lv_iinc (v := (x3 + 1)) (lv' := [(3, .int (x3 + 1)), (2, .int 0), (0, .ref (B + x0))]) hx hb dX4_rewrite_57 hl (k := 2) rfl rfl (by decide) rfl (fun ls hl => ?_)
      refine lv_goto (tgt := 18) hx hb dX4_rewrite_60 (by decide) ?_
      exact hk18 h11 x0 0 (x3 + 1) hm _ _ _ hw (lv_sub hl [2, 1, 0] rfl)
    · have hm := dp_in hc hm
      refine lv_iload_n hx hb dX4_rewrite_47 rfl (lv_at hl 1 rfl) ?_
      refine lv_if_eq (tgt := 55) hx hb dX4_rewrite_48 (by decide) (fun hc => ?_) (fun hc => ?_)
      · have hm := dp_ip hc hm
        refine lv_iconst (v := 0) hx hb dX4_rewrite_55 (by decide) ?_
        refine lv_istore_n (lv' := [(2, .int 0), (0, .ref (B + x0)), (3, .int x3)]) hx hb dX4_rewrite_56 rfl hl (by decide) rfl (fun ls hl => ?_)
        refine lv_iinc (v := (x3 + 1)) (lv' := [(3, .int (x3 + 1)), (2, .int 0), (0, .ref (B + x0))]) hx hb dX4_rewrite_57 hl (k := 2) rfl rfl (by decide) rfl (fun ls hl => ?_)
        refine lv_goto (tgt := 18) hx hb dX4_rewrite_60 (by decide) ?_
        exact hk18 h11 x0 0 (x3 + 1) hm _ _ _ hw (lv_sub hl [2, 1, 0] rfl)
      · have hm := dp_in hc hm
        refine lv_iconst (v := 1) hx hb dX4_rewrite_51 (by decide) ?_
        refine lv_goto (tgt := 56) hx hb dX4_rewrite_52 (by decide) ?_
        refine lv_istore_n (lv' := [(2, .int 1), (0, .ref (B + x0)), (3, .int x3)]) hx hb dX4_rewrite_56 rfl hl (by decide) rfl (fun ls hl => ?_)
        refine lv_iinc (v := (x3 + 1)) (lv' := [(3, .int (x3 + 1)), (2, .int 1), (0, .ref (B + x0))]) hx hb dX4_rewrite_57 hl (k := 2) rfl rfl (by decide) rfl (fun ls hl => ?_)
        refine lv_goto (tgt := 18) hx hb dX4_rewrite_60 (by decide) ?_
        exact hk18 h11 x0 1 (x3 + 1) hm _ _ _ hw (lv_sub hl [2, 1, 0] rfl)
set_option maxRecDepth 100000 in
set_option maxHeartbeats 4000000 in
theorem w_X4_rewrite_18 {p : Program} {l : Launch} {e : Env} {s : State} {m : MethodId} {args : Array Value} {below : List Frame} {meth : Method} {c : Code} {D : va_G} {a : dp_A} {B : Nat} (X : dp_X p s m meth c cX4_rewrite 4 RX4 D a B) (hr : meth.sig.returnType = (some .boolean)) {h' : dp_H} {r : Int32}  : ∀ (n : Nat) (h : dp_H) (x0 : Nat) (x2 : Int32) (x3 : Int32), m_X4_rewrite_18  n h x0 x2 x3 = some (h', r) → ∀ (H : Heap) (locs : List Loc) (ls : Array Slot), dp_w D a B h s.heap H locs → lv_has ls 4 [(0, .ref (B + x0)), (2, .int x2), (3, .int x3)] → W p l e rm_X4_rewrite s m args below meth c H locs 0 0 (MQ below (dp_Q D a B (some (.int r)) h') args s rm_X4_rewrite.cells rm_X4_rewrite.slots (fun q => B ≤ q)) (F0 m 18 ls []) := by
  intro n
  induction n with
  | zero => intro h x0 x2 x3 hm; cases hm
  | succ n ih => intro h x0 x2 x3 hm; exact v_X4_rewrite_18 X hr ih h x0 x2 x3 hm
theorem ck_X4_rewrite {h : dp_H} {x0 : Nat} {x1 : Nat} {h' : dp_H} {r : Int32} (hm : m_X4_rewrite h x0 x1 = some (h', r)) : dp_is h x0 4 = true := (dp_ck_e hm).1
set_option maxRecDepth 100000 in
set_option maxHeartbeats 4000000 in
theorem c_X4_rewrite (l : Launch) (D : va_G) (a : dp_A) (B : Nat) (h : dp_H) (x0 : Nat) (x1 : Nat) {h' : dp_H} {r : Int32} (hm : m_X4_rewrite h x0 x1 = some (h', r)) : dp_M l D a B yX4_rewrite cX4_rewrite 4 (some .boolean) rm_X4_rewrite [.ref (B + x0), .ref (B + x1)] h (some (.int r)) h' := by
  refine dp_M.of (own := RX4) (nm := "rewrite") (by decide) rfl rfl (Nat.le_of_ble_eq_true rfl) ?_
  intro p e s m below meth c ls X hr hin hw hl
  have hl : lv_has ls 4 [(0, .ref (B + x0)), (1, .ref (B + x1))] := hl
  obtain ⟨hx, hb, hml, hown, hlk, hK, hB⟩ := id X
  unfold m_X4_rewrite at hm
  obtain ⟨hck, hm⟩ := dp_ck_e hm
  refine lv_aload_n hx hb dX4_rewrite_0 rfl (lv_at hl 0 rfl) ?_
  obtain ⟨v1, ev1, hm⟩ := dp_ob hm
  refine dp_getr X hw cl_X4 1 (by decide) fl_X4_20 ev1 dX4_rewrite_1 ?_
  refine lv_aload_n hx hb dX4_rewrite_4 rfl (lv_at hl 1 rfl) ?_
  obtain ⟨v2, ev2, hm⟩ := dp_ob hm
  refine dp_cV (As := []) (rest := [.ref (B + v1)]) X hw (c_X1_ahead l D a B h x1 ev2) vm_X1_ahead ml_X4_56 (by decide) rfl rfl (ck_X1_ahead ev2) rfl rfl hl.1 rfl (Nat.le_of_ble_eq_true rfl) dX4_rewrite_5 ⟨(Nat.zero_le _), (Nat.zero_le _)⟩ (fun H locs hw => ?_)
  obtain ⟨h3, eh3, hm⟩ := dp_ob hm
  refine dp_cVv (As := [.ref (B + v2)]) (rest := []) X hw (c_X5_copyFrom l D a B h v1 v2 eh3) vm_X5_copyFrom ml_X4_30 (by decide) rfl rfl (ck_X5_copyFrom eh3) rfl rfl hl.1 rfl (Nat.le_of_ble_eq_true rfl) dX4_rewrite_8 ⟨(Nat.zero_le _), (Nat.zero_le _)⟩ (fun H locs hw => ?_)
  refine lv_iconst (v := 1) hx hb dX4_rewrite_11 (by decide) ?_
  refine lv_istore_n (lv' := [(2, .int 1), (0, .ref (B + x0)), (1, .ref (B + x1))]) hx hb dX4_rewrite_12 rfl hl (by decide) rfl (fun ls hl => ?_)
  refine lv_aload_n hx hb dX4_rewrite_13 rfl (lv_at hl 2 rfl) ?_
  obtain ⟨v4, ev4, hm⟩ := dp_ob hm
  refine dp_cV (As := []) (rest := []) X hw (c_X1_dropped l D a B h3 x1 ev4) vm_X1_dropped ml_X4_60 (by decide) rfl rfl (ck_X1_dropped ev4) rfl rfl hl.1 rfl (Nat.le_of_ble_eq_true rfl) dX4_rewrite_14 ⟨(Nat.zero_le _), (Nat.zero_le _)⟩ (fun H locs hw => ?_)
  refine lv_istore_n (lv' := [(3, .int v4), (2, .int 1), (0, .ref (B + x0)), (1, .ref (B + x1))]) hx hb dX4_rewrite_17 rfl hl (by decide) rfl (fun ls hl => ?_)
  exact w_X4_rewrite_18 X hr 64 h3 x0 1 v4 hm _ _ _ hw (lv_sub hl [2, 1, 0] rfl)
set_option maxRecDepth 100000 in
set_option maxHeartbeats 4000000 in
theorem v_X4_read_18 {p : Program} {l : Launch} {e : Env} {s : State} {m : MethodId} {args : Array Value} {below : List Frame} {meth : Method} {c : Code} {D : va_G} {a : dp_A} {B : Nat} (X : dp_X p s m meth c cX4_read 4 RX4 D a B) (hr : meth.sig.returnType = none) {h' : dp_H} {k18 : dp_H → Nat → Nat → Option dp_H} (hk18 : ∀ (h : dp_H) (x0 : Nat) (x1 : Nat), k18 h x0 x1 = some h' → ∀ (H : Heap) (locs : List Loc) (ls : Array Slot), dp_w D a B h s.heap H locs → lv_has ls 4 [(0, .ref (B + x0)), (1, .ref (B + x1))] → W p l e rm_X4_read s m args below meth c H locs 0 0 (MQ below (dp_Q D a B none h') args s rm_X4_read.cells rm_X4_read.slots (fun q => B ≤ q)) (F0 m 18 ls [])) : ∀ (h : dp_H) (x0 : Nat) (x1 : Nat), b_X4_read_18 k18 h x0 x1 = some h' → ∀ (H : Heap) (locs : List Loc) (ls : Array Slot), dp_w D a B h s.heap H locs → lv_has ls 4 [(0, .ref (B + x0)), (1, .ref (B + x1))] → W p l e rm_X4_read s m args below meth c H locs 0 0 (MQ below (dp_Q D a B none h') args s rm_X4_read.cells rm_X4_read.slots (fun q => B ≤ q)) (F0 m 18 ls []) := by
  intro h x0 x1 hm H locs ls hw hl
  obtain ⟨hx, hb, hml, hown, hlk, hK, hB⟩ := id X
  unfold b_X4_read_18 at hm
  refine lv_aload_n hx hb dX4_read_18 rfl (lv_at hl 0 rfl) ?_
  obtain ⟨v1, ev1, hm⟩ := dp_ob hm
  refine dp_geti X hw cl_X4 3 (by decide) fl_X4_27 ev1 dX4_read_19 ?_
  refine lv_bipush (v := 6) hx hb dX4_read_22 (by decide) ?_
  refine lv_icmp_ge (tgt := 87) hx hb dX4_read_24 (by decide) (fun hc => ?_) (fun hc => ?_)
  · have hm := dp_ip hc hm
    refine lv_aload_n hx hb dX4_read_87 rfl (lv_at hl 0 rfl) ?_
    obtain ⟨v2, ev2, hm⟩ := dp_ob hm
    refine dp_getr X hw cl_X4 0 (by decide) fl_X4_14 ev2 dX4_read_88 ?_
    obtain ⟨h3, eh3, hm⟩ := dp_ob hm
    refine dp_cVv (As := []) (rest := []) X hw (c_X5_clear l D a B h v2 eh3) vm_X5_clear ml_X4_53 (by decide) rfl rfl (ck_X5_clear eh3) rfl rfl hl.1 rfl (Nat.le_of_ble_eq_true rfl) dX4_read_91 ⟨(Nat.zero_le _), (Nat.zero_le _)⟩ (fun H locs hw => ?_)
    cases hm
    exact dp_vret X hr hw dX4_read_94
  · have hm := dp_in hc hm
    refine lv_aload_n hx hb dX4_read_27 rfl (lv_at hl 0 rfl) ?_
    refine lv_dup hx hb dX4_read_28 rfl ?_
    obtain ⟨v4, ev4, hm⟩ := dp_ob hm
    refine dp_geti X hw cl_X4 3 (by decide) fl_X4_27 ev4 dX4_read_29 ?_
    refine lv_iconst (v := 1) hx hb dX4_read_32 (by decide) ?_
    refine lv_iadd hx hb dX4_read_33 ?_
    obtain ⟨h5, eh5, hm⟩ := dp_ob hm
    refine dp_puti X hw cl_X4 3 (by decide) fl_X4_27 rfl rfl eh5 dX4_read_34 (fun H locs hw => ?_)
    refine lv_aload_n hx hb dX4_read_37 rfl (lv_at hl 1 rfl) ?_
    refine lv_aload_n hx hb dX4_read_38 rfl (lv_at hl 1 rfl) ?_
    refine lv_aload_n hx hb dX4_read_39 rfl (lv_at hl 0 rfl) ?_
    obtain ⟨v6, ev6, hm⟩ := dp_ob hm
    refine dp_getr X hw cl_X4 0 (by decide) fl_X4_14 ev6 dX4_read_40 ?_
    refine lv_iconst (v := 0) hx hb dX4_read_43 (by decide) ?_
    obtain ⟨v7, ev7, hm⟩ := dp_ob hm
    refine dp_cV (As := [.ref (B + v6), .int 0]) (rest := [.ref (B + x1)]) X hw (c_X3_winner l D a B h5 x1 v6 0 ev7) vm_X3_winner ml_X4_34 (by decide) rfl rfl (ck_X3_winner ev7) rfl rfl hl.1 rfl (Nat.le_of_ble_eq_true rfl) dX4_read_44 ⟨(Nat.zero_le _), (Nat.zero_le _)⟩ (fun H locs hw => ?_)
    obtain ⟨v8, ev8, hm⟩ := dp_ob hm
    refine dp_cV (As := [.int v7]) (rest := []) X hw (c_X3_at l D a B h5 x1 v7 ev8) vm_X3_at ml_X4_40 (by decide) rfl rfl (ck_X3_at ev8) rfl rfl hl.1 rfl (Nat.le_of_ble_eq_true rfl) dX4_read_47 ⟨(Nat.zero_le _), (Nat.zero_le _)⟩ (fun H locs hw => ?_)
    refine dp_astore_n (B := B) (o := v8) (lv' := [(3, dp_ro B v8), (0, .ref (B + x0)), (1, .ref (B + x1))]) hx hb dX4_read_50 rfl hl (by decide) rfl (fun ls hl => ?_)
    refine dp_aload_n (B := B) (o := v8) hx hb dX4_read_51 rfl (lv_at hl 0 rfl) ?_
    rcases v8 with _ | u9
    · have hl : lv_has ls 4 [(3, dp_ro B none), (0, .ref (B + x0)), (1, .ref (B + x1))] := hl
      have hm := dp_om_n hm
      refine lv_ifnullN (tgt := 87) hx hb dX4_read_52 (by decide) ?_
      refine lv_aload_n hx hb dX4_read_87 rfl (lv_at hl 1 rfl) ?_
      obtain ⟨v10, ev10, hm⟩ := dp_ob hm
      refine dp_getr X hw cl_X4 0 (by decide) fl_X4_14 ev10 dX4_read_88 ?_
      obtain ⟨h11, eh11, hm⟩ := dp_ob hm
      refine dp_cVv (As := []) (rest := []) X hw (c_X5_clear l D a B h5 v10 eh11) vm_X5_clear ml_X4_53 (by decide) rfl rfl (ck_X5_clear eh11) rfl rfl hl.1 rfl (Nat.le_of_ble_eq_true rfl) dX4_read_91 ⟨(Nat.zero_le _), (Nat.zero_le _)⟩ (fun H locs hw => ?_)
      cases hm
      exact dp_vret X hr hw dX4_read_94
    · have hl : lv_has ls 4 [(3, .ref (B + u9)), (0, .ref (B + x0)), (1, .ref (B + x1))] := hl
      have hm := dp_om_s hm
      refine lv_ifnull hx hb dX4_read_52 ?_
      refine lv_aload_n hx hb dX4_read_55 rfl (lv_at hl 1 rfl) ?_
      refine lv_aload_n hx hb dX4_read_56 rfl (lv_at hl 0 rfl) ?_
      obtain ⟨h12, v13, ev13, hm⟩ := dp_ob2 hm
      refine dp_cV (As := [.ref (B + u9)]) (rest := []) X hw (c_X4_rewrite l D a B h5 x0 u9 ev13) vm_X4_rewrite ml_X4_44 (by decide) rfl rfl (ck_X4_rewrite ev13) rfl rfl hl.1 rfl (Nat.le_of_ble_eq_true rfl) dX4_read_57 ⟨(Nat.zero_le _), (Nat.zero_le _)⟩ (fun H locs hw => ?_)
      refine lv_if_ne (tgt := 66) hx hb dX4_read_60 (by decide) (fun hc => ?_) (fun hc => ?_)
      · have hm := dp_in hc hm
        refine lv_aload_n hx hb dX4_read_66 rfl (lv_at hl 0 rfl) ?_
        obtain ⟨v14, ev14, hm⟩ := dp_ob hm
        refine dp_cV (As := []) (rest := []) X hw (c_X1_way l D a B h12 u9 ev14) vm_X1_way ml_X4_48 (by decide) rfl rfl (ck_X1_way ev14) rfl rfl hl.1 rfl (Nat.le_of_ble_eq_true rfl) dX4_read_67 ⟨(Nat.zero_le _), (Nat.zero_le _)⟩ (fun H locs hw => ?_)
        refine lv_bipush (v := 10) hx hb dX4_read_70 (by decide) ?_
        refine lv_icmp_eq (tgt := 84) hx hb dX4_read_72 (by decide) (fun hc => ?_) (fun hc => ?_)
        · have hm := dp_ip hc hm
          refine lv_goto (tgt := 18) hx hb dX4_read_84 (by decide) ?_
          exact hk18 h12 x0 x1 hm _ _ _ hw (lv_sub hl [1, 2] rfl)
        · have hm := dp_in hc hm
          refine lv_aload_n hx hb dX4_read_75 rfl (lv_at hl 1 rfl) ?_
          refine lv_aload_n hx hb dX4_read_76 rfl (lv_at hl 0 rfl) ?_
          obtain ⟨v15, ev15, hm⟩ := dp_ob hm
          refine dp_cV (As := []) (rest := [.ref (B + x0)]) X hw (c_X1_way l D a B h12 u9 ev15) vm_X1_way ml_X4_48 (by decide) rfl rfl (ck_X1_way ev15) rfl rfl hl.1 rfl (Nat.le_of_ble_eq_true rfl) dX4_read_77 ⟨(Nat.zero_le _), (Nat.zero_le _)⟩ (fun H locs hw => ?_)
          obtain ⟨h16, eh16, hm⟩ := dp_ob hm
          refine dp_puti X hw cl_X4 2 (by decide) fl_X4_23 rfl rfl eh16 dX4_read_80 (fun H locs hw => ?_)
          cases hm
          exact dp_vret X hr hw dX4_read_83
      · have hm := dp_ip hc hm
        refine lv_goto (tgt := 87) hx hb dX4_read_63 (by decide) ?_
        refine lv_aload_n hx hb dX4_read_87 rfl (lv_at hl 1 rfl) ?_
        obtain ⟨v17, ev17, hm⟩ := dp_ob hm
        refine dp_getr X hw cl_X4 0 (by decide) fl_X4_14 ev17 dX4_read_88 ?_
        obtain ⟨h18, eh18, hm⟩ := dp_ob hm
        refine dp_cVv (As := []) (rest := []) X hw (c_X5_clear l D a B h12 v17 eh18) vm_X5_clear ml_X4_53 (by decide) rfl rfl (ck_X5_clear eh18) rfl rfl hl.1 rfl (Nat.le_of_ble_eq_true rfl) dX4_read_91 ⟨(Nat.zero_le _), (Nat.zero_le _)⟩ (fun H locs hw => ?_)
        cases hm
        exact dp_vret X hr hw dX4_read_94
set_option maxRecDepth 100000 in
set_option maxHeartbeats 4000000 in
theorem w_X4_read_18 {p : Program} {l : Launch} {e : Env} {s : State} {m : MethodId} {args : Array Value} {below : List Frame} {meth : Method} {c : Code} {D : va_G} {a : dp_A} {B : Nat} (X : dp_X p s m meth c cX4_read 4 RX4 D a B) (hr : meth.sig.returnType = none) {h' : dp_H}  : ∀ (n : Nat) (h : dp_H) (x0 : Nat) (x1 : Nat), m_X4_read_18  n h x0 x1 = some h' → ∀ (H : Heap) (locs : List Loc) (ls : Array Slot), dp_w D a B h s.heap H locs → lv_has ls 4 [(0, .ref (B + x0)), (1, .ref (B + x1))] → W p l e rm_X4_read s m args below meth c H locs 0 0 (MQ below (dp_Q D a B none h') args s rm_X4_read.cells rm_X4_read.slots (fun q => B ≤ q)) (F0 m 18 ls []) := by
  intro n
  induction n with
  | zero => intro h x0 x1 hm; cases hm
  | succ n ih => intro h x0 x1 hm; exact v_X4_read_18 X hr ih h x0 x1 hm
theorem ck_X4_read {h : dp_H} {x0 : Nat} {x1 : Nat} {x2 : Nat} {h' : dp_H} (hm : m_X4_read h x0 x1 x2 = some h') : dp_is h x0 4 = true := (dp_ck_e hm).1
set_option maxRecDepth 100000 in
set_option maxHeartbeats 4000000 in
theorem c_X4_read (l : Launch) (D : va_G) (a : dp_A) (B : Nat) (h : dp_H) (x0 : Nat) (x1 : Nat) (x2 : Nat) {h' : dp_H} (hm : m_X4_read h x0 x1 x2 = some h') : dp_M l D a B yX4_read cX4_read 4 none rm_X4_read [.ref (B + x0), .ref (B + x1), .ref (B + x2)] h none h' := by
  refine dp_M.of (own := RX4) (nm := "read") (by decide) rfl rfl (Nat.le_of_ble_eq_true rfl) ?_
  intro p e s m below meth c ls X hr hin hw hl
  have hl : lv_has ls 4 [(0, .ref (B + x0)), (1, .ref (B + x1)), (2, .ref (B + x2))] := hl
  obtain ⟨hx, hb, hml, hown, hlk, hK, hB⟩ := id X
  unfold m_X4_read at hm
  obtain ⟨hck, hm⟩ := dp_ck_e hm
  refine lv_aload_n hx hb dX4_read_0 rfl (lv_at hl 0 rfl) ?_
  obtain ⟨v1, ev1, hm⟩ := dp_ob hm
  refine dp_getr X hw cl_X4 0 (by decide) fl_X4_14 ev1 dX4_read_1 ?_
  refine lv_aload_n hx hb dX4_read_4 rfl (lv_at hl 2 rfl) ?_
  obtain ⟨h2, eh2, hm⟩ := dp_ob hm
  refine dp_cVv (As := [.ref (B + x2)]) (rest := []) X hw (c_X5_copyFrom l D a B h v1 x2 eh2) vm_X5_copyFrom ml_X4_30 (by decide) rfl rfl (ck_X5_copyFrom eh2) rfl rfl hl.1 rfl (Nat.le_of_ble_eq_true rfl) dX4_read_5 ⟨(Nat.zero_le _), (Nat.zero_le _)⟩ (fun H locs hw => ?_)
  refine lv_aload_n hx hb dX4_read_8 rfl (lv_at hl 0 rfl) ?_
  refine lv_iconst (v := (-1)) hx hb dX4_read_9 (by decide) ?_
  obtain ⟨h3, eh3, hm⟩ := dp_ob hm
  refine dp_puti X hw cl_X4 2 (by decide) fl_X4_23 rfl rfl eh3 dX4_read_10 (fun H locs hw => ?_)
  refine lv_aload_n hx hb dX4_read_13 rfl (lv_at hl 0 rfl) ?_
  refine lv_iconst (v := 0) hx hb dX4_read_14 (by decide) ?_
  obtain ⟨h4, eh4, hm⟩ := dp_ob hm
  refine dp_puti X hw cl_X4 3 (by decide) fl_X4_27 rfl rfl eh4 dX4_read_15 (fun H locs hw => ?_)
  exact w_X4_read_18 X hr 64 h4 x0 x1 hm _ _ _ hw (lv_sub hl [0, 1] rfl)
set_option maxRecDepth 100000 in
set_option maxHeartbeats 4000000 in
theorem v_X5_asNumber_4 {p : Program} {l : Launch} {e : Env} {s : State} {m : MethodId} {args : Array Value} {below : List Frame} {meth : Method} {c : Code} {D : va_G} {a : dp_A} {B : Nat} (X : dp_X p s m meth c cX5_asNumber 3 RX5 D a B) (hr : meth.sig.returnType = (some .int)) {h : dp_H} {r : Int32} {k4 : Nat → Int32 → Int32 → Option Int32} (hk4 : ∀ (x0 : Nat) (x1 : Int32) (x2 : Int32), k4 x0 x1 x2 = some r → ∀ (H : Heap) (locs : List Loc) (ls : Array Slot), dp_w D a B h s.heap H locs → lv_has ls 3 [(0, .ref (B + x0)), (1, .int x1), (2, .int x2)] → W p l e rm_X5_asNumber s m args below meth c H locs 0 0 (MQ below (dp_Q D a B (some (.int r)) h) args s rm_X5_asNumber.cells rm_X5_asNumber.slots (fun q => B ≤ q)) (F0 m 4 ls [])) : ∀ (x0 : Nat) (x1 : Int32) (x2 : Int32), b_X5_asNumber_4 h k4 x0 x1 x2 = some r → ∀ (H : Heap) (locs : List Loc) (ls : Array Slot), dp_w D a B h s.heap H locs → lv_has ls 3 [(0, .ref (B + x0)), (1, .int x1), (2, .int x2)] → W p l e rm_X5_asNumber s m args below meth c H locs 0 0 (MQ below (dp_Q D a B (some (.int r)) h) args s rm_X5_asNumber.cells rm_X5_asNumber.slots (fun q => B ≤ q)) (F0 m 4 ls []) := by
  intro x0 x1 x2 hm H locs ls hw hl
  obtain ⟨hx, hb, hml, hown, hlk, hK, hB⟩ := id X
  unfold b_X5_asNumber_4 at hm
  refine lv_iload_n hx hb dX5_asNumber_4 rfl (lv_at hl 2 rfl) ?_
  refine lv_aload_n hx hb dX5_asNumber_5 rfl (lv_at hl 0 rfl) ?_
  obtain ⟨v1, ev1, hm⟩ := dp_ob hm
  refine dp_geti X hw cl_X5 1 (by decide) fl_X5_21 ev1 dX5_asNumber_6 ?_
  refine lv_icmp_ge (tgt := 29) hx hb dX5_asNumber_9 (by decide) (fun hc => ?_) (fun hc => ?_)
  · have hm := dp_ip hc hm
    refine lv_iload_n hx hb dX5_asNumber_29 rfl (lv_at hl 1 rfl) ?_
    cases hm
    exact dp_iret X hr hw dX5_asNumber_30
  · have hm := dp_in hc hm
    refine lv_bipush (v := 10) hx hb dX5_asNumber_12 (by decide) ?_
    refine lv_iload_n hx hb dX5_asNumber_14 rfl (lv_at hl 1 rfl) ?_
    refine lv_imul hx hb dX5_asNumber_15 ?_
    refine lv_aload_n hx hb dX5_asNumber_16 rfl (lv_at hl 0 rfl) ?_
    refine lv_iload_n hx hb dX5_asNumber_17 rfl (lv_at hl 2 rfl) ?_
    obtain ⟨v2, ev2, hm⟩ := dp_ob hm
    refine dp_cV (As := [.int x2]) (rest := [.int (10 * x1)]) X hw (c_X5_at l D a B h x0 x2 ev2) vm_X5_at ml_X5_31 (by decide) rfl rfl (ck_X5_at ev2) rfl rfl hl.1 rfl (Nat.le_of_ble_eq_true rfl) dX5_asNumber_18 ⟨(Nat.zero_le _), (Nat.zero_le _)⟩ (fun H locs hw => ?_)
    refine lv_iadd hx hb dX5_asNumber_21 ?_
    refine lv_istore_n (lv' := [(1, .int ((10 * x1) + v2)), (0, .ref (B + x0)), (2, .int x2)]) hx hb dX5_asNumber_22 rfl hl (by decide) rfl (fun ls hl => ?_)
    refine lv_iinc (v := (x2 + 1)) (lv' := [(2, .int (x2 + 1)), (1, .int ((10 * x1) + v2)), (0, .ref (B + x0))]) hx hb dX5_asNumber_23 hl (k := 2) rfl rfl (by decide) rfl (fun ls hl => ?_)
    refine lv_goto (tgt := 4) hx hb dX5_asNumber_26 (by decide) ?_
    exact hk4 x0 ((10 * x1) + v2) (x2 + 1) hm _ _ _ hw (lv_sub hl [2, 1, 0] rfl)
set_option maxRecDepth 100000 in
set_option maxHeartbeats 4000000 in
theorem w_X5_asNumber_4 {p : Program} {l : Launch} {e : Env} {s : State} {m : MethodId} {args : Array Value} {below : List Frame} {meth : Method} {c : Code} {D : va_G} {a : dp_A} {B : Nat} (X : dp_X p s m meth c cX5_asNumber 3 RX5 D a B) (hr : meth.sig.returnType = (some .int)) {h : dp_H} {r : Int32}  : ∀ (n : Nat) (x0 : Nat) (x1 : Int32) (x2 : Int32), m_X5_asNumber_4 h  n x0 x1 x2 = some r → ∀ (H : Heap) (locs : List Loc) (ls : Array Slot), dp_w D a B h s.heap H locs → lv_has ls 3 [(0, .ref (B + x0)), (1, .int x1), (2, .int x2)] → W p l e rm_X5_asNumber s m args below meth c H locs 0 0 (MQ below (dp_Q D a B (some (.int r)) h) args s rm_X5_asNumber.cells rm_X5_asNumber.slots (fun q => B ≤ q)) (F0 m 4 ls []) := by
  intro n
  induction n with
  | zero => intro x0 x1 x2 hm; cases hm
  | succ n ih => intro x0 x1 x2 hm; exact v_X5_asNumber_4 X hr ih x0 x1 x2 hm
theorem ck_X5_asNumber {h : dp_H} {x0 : Nat} {r : Int32} (hm : m_X5_asNumber h x0 = some r) : dp_is h x0 5 = true := (dp_ck_e hm).1
set_option maxRecDepth 100000 in
set_option maxHeartbeats 4000000 in
theorem c_X5_asNumber (l : Launch) (D : va_G) (a : dp_A) (B : Nat) (h : dp_H) (x0 : Nat) {r : Int32} (hm : m_X5_asNumber h x0 = some r) : dp_M l D a B yX5_asNumber cX5_asNumber 3 (some .int) rm_X5_asNumber [.ref (B + x0)] h (some (.int r)) h := by
  refine dp_M.of (own := RX5) (nm := "asNumber") (by decide) rfl rfl (Nat.le_of_ble_eq_true rfl) ?_
  intro p e s m below meth c ls X hr hin hw hl
  have hl : lv_has ls 3 [(0, .ref (B + x0))] := hl
  obtain ⟨hx, hb, hml, hown, hlk, hK, hB⟩ := id X
  unfold m_X5_asNumber at hm
  obtain ⟨hck, hm⟩ := dp_ck_e hm
  refine lv_iconst (v := 0) hx hb dX5_asNumber_0 (by decide) ?_
  refine lv_istore_n (lv' := [(1, .int 0), (0, .ref (B + x0))]) hx hb dX5_asNumber_1 rfl hl (by decide) rfl (fun ls hl => ?_)
  refine lv_iconst (v := 0) hx hb dX5_asNumber_2 (by decide) ?_
  refine lv_istore_n (lv' := [(2, .int 0), (1, .int 0), (0, .ref (B + x0))]) hx hb dX5_asNumber_3 rfl hl (by decide) rfl (fun ls hl => ?_)
  exact w_X5_asNumber_4 X hr 64 x0 0 0 hm _ _ _ hw (lv_sub hl [2, 1, 0] rfl)
theorem ck_X6_init {h : dp_H} {x0 : Nat} {h' : dp_H} (hm : m_X6_init h x0 = some h') : dp_is h x0 6 = true := (dp_ck_e hm).1
set_option maxRecDepth 100000 in
set_option maxHeartbeats 4000000 in
theorem c_X6_init (l : Launch) (D : va_G) (a : dp_A) (B : Nat) (h : dp_H) (x0 : Nat) {h' : dp_H} (hm : m_X6_init h x0 = some h') : dp_M l D a B yX6_init cX6_init 1 none rm_X6_init [.ref (B + x0)] h none h' := by
  refine dp_M.of (own := RX6) (nm := "<init>") (by decide) rfl rfl (Nat.le_of_ble_eq_true rfl) ?_
  intro p e s m below meth c ls X hr hin hw hl
  have hl : lv_has ls 1 [(0, .ref (B + x0))] := hl
  obtain ⟨hx, hb, hml, hown, hlk, hK, hB⟩ := id X
  unfold m_X6_init at hm
  obtain ⟨hck, hm⟩ := dp_ck_e hm
  refine lv_aload_n hx hb dX6_init_0 rfl (lv_at hl 0 rfl) ?_
  refine W.objInit hx hb hown (hK.word ml_X6_1 rfl) (hK.word obj_inst rfl) (hK.word obj_code rfl) rfl (hl.1.trans hml.symm) rfl dX6_init_1 (Nat.le_of_ble_eq_true rfl) (Nat.le_of_ble_eq_true rfl) ?_
  refine W.eq (g2 := F0 m 4 ls []) rfl ?_
  refine lv_aload_n hx hb dX6_init_4 rfl (lv_at hl 0 rfl) ?_
  obtain ⟨h1, eh1, hm⟩ := dp_ob hm
  refine dp_newc X hw cl_X5 cn_X6_7 ci_X5 ini_X5 bl_X5_ok eh1 (by decide) (by decide) dX6_init_5 (fun H hw => ?_)
  refine lv_dup hx hb dX6_init_8 rfl ?_
  refine lv_bipush (v := 52) hx hb dX6_init_9 (by decide) ?_
  obtain ⟨h2, eh2, hm⟩ := dp_ob hm
  refine dp_cI (As := [.int 52]) (rest := [.ref (B + (List.length h)), .ref (B + x0)]) X hw (c_X5_init l D a B h1 (List.length h) 52 eh2) sm_X5_init rfl in_X5_init ml_X6_11 (by decide) rfl hl.1 rfl (Nat.le_of_ble_eq_true rfl) dX6_init_11 ⟨(by decide), (by decide)⟩ (fun H locs hw => ?_)
  refine W.widen (k := 0 + 1 + 1) (n := 0 + 2 + 80) (Nat.le_refl _) (Nat.le_refl _) ?_
  obtain ⟨h3, eh3, hm⟩ := dp_ob hm
  refine dp_putFr X hin hw cl_X6 0 (by decide) fl_X6_14 rfl rfl (Or.inl ⟨_, rfl⟩) eh3 dX6_init_14 (fun H locs hw => ?_)
  refine lv_aload_n hx hb dX6_init_17 rfl (lv_at hl 0 rfl) ?_
  obtain ⟨h4, eh4, hm⟩ := dp_ob hm
  refine dp_newc X hw cl_X2 cn_X6_18 ci_X2 ini_X2 bl_X2_ok eh4 (by decide) (by decide) dX6_init_18 (fun H hw => ?_)
  refine lv_dup hx hb dX6_init_21 rfl ?_
  obtain ⟨h5, eh5, hm⟩ := dp_ob hm
  refine dp_cIN (As := []) (rest := [.ref (B + (List.length h3)), .ref (B + x0)]) X hw (c_X2_init l D a B h4 (List.length h3) eh5) sm_X2_init rfl in_X2_init nl_X6_20 (by decide) rfl hl.1 rfl (Nat.le_of_ble_eq_true rfl) dX6_init_22 ⟨(by decide), (by decide)⟩ (fun H locs hw => ?_)
  refine W.widen (k := 0 + 1 + 1 + 1 + 5) (n := 0 + 2 + 80 + 4 + 249) (Nat.le_refl _) (Nat.le_refl _) ?_
  obtain ⟨h6, eh6, hm⟩ := dp_ob hm
  refine dp_putFr X hin hw cl_X6 1 (by decide) fl_X6_21 rfl rfl (Or.inl ⟨_, rfl⟩) eh6 dX6_init_25 (fun H locs hw => ?_)
  refine lv_aload_n hx hb dX6_init_28 rfl (lv_at hl 0 rfl) ?_
  obtain ⟨h7, eh7, hm⟩ := dp_ob hm
  refine dp_newc X hw cl_X3 cn_X6_25 ci_X3 ini_X3 bl_X3_ok eh7 (by decide) (by decide) dX6_init_29 (fun H hw => ?_)
  refine lv_dup hx hb dX6_init_32 rfl ?_
  obtain ⟨h8, eh8, hm⟩ := dp_ob hm
  refine dp_cI (As := []) (rest := [.ref (B + (List.length h6)), .ref (B + x0)]) X hw (c_X3_init l D a B h7 (List.length h6) eh8) sm_X3_init rfl in_X3_init ml_X6_27 (by decide) rfl hl.1 rfl (Nat.le_of_ble_eq_true rfl) dX6_init_33 ⟨(by decide), (by decide)⟩ (fun H locs hw => ?_)
  refine W.widen (k := 0 + 1 + 1 + 1 + 5 + 1 + 321) (n := 0 + 2 + 80 + 4 + 249 + 2 + 16016) (Nat.le_refl _) (Nat.le_refl _) ?_
  obtain ⟨h9, eh9, hm⟩ := dp_ob hm
  refine dp_putFr X hin hw cl_X6 2 (by decide) fl_X6_28 rfl rfl (Or.inl ⟨_, rfl⟩) eh9 dX6_init_36 (fun H locs hw => ?_)
  refine lv_aload_n hx hb dX6_init_39 rfl (lv_at hl 0 rfl) ?_
  obtain ⟨h10, eh10, hm⟩ := dp_ob hm
  refine dp_newc X hw cl_X5 cn_X6_7 ci_X5 ini_X5 bl_X5_ok eh10 (by decide) (by decide) dX6_init_40 (fun H hw => ?_)
  refine lv_dup hx hb dX6_init_43 rfl ?_
  refine lv_bipush (v := 10) hx hb dX6_init_44 (by decide) ?_
  obtain ⟨h11, eh11, hm⟩ := dp_ob hm
  refine dp_cI (As := [.int 10]) (rest := [.ref (B + (List.length h9)), .ref (B + x0)]) X hw (c_X5_init l D a B h10 (List.length h9) 10 eh11) sm_X5_init rfl in_X5_init ml_X6_11 (by decide) rfl hl.1 rfl (Nat.le_of_ble_eq_true rfl) dX6_init_46 ⟨(by decide), (by decide)⟩ (fun H locs hw => ?_)
  refine W.widen (k := 0 + 1 + 1 + 1 + 5 + 1 + 321 + 1 + 1) (n := 0 + 2 + 80 + 4 + 249 + 2 + 16016 + 2 + 80) (Nat.le_refl _) (Nat.le_refl _) ?_
  obtain ⟨h12, eh12, hm⟩ := dp_ob hm
  refine dp_putFr X hin hw cl_X6 3 (by decide) fl_X6_32 rfl rfl (Or.inl ⟨_, rfl⟩) eh12 dX6_init_49 (fun H locs hw => ?_)
  refine lv_aload_n hx hb dX6_init_52 rfl (lv_at hl 0 rfl) ?_
  obtain ⟨h13, eh13, hm⟩ := dp_ob hm
  refine dp_newc X hw cl_X4 cn_X6_35 ci_X4 ini_X4 bl_X4_ok eh13 (by decide) (by decide) dX6_init_53 (fun H hw => ?_)
  refine lv_dup hx hb dX6_init_56 rfl ?_
  obtain ⟨h14, eh14, hm⟩ := dp_ob hm
  refine dp_cIN (As := []) (rest := [.ref (B + (List.length h12)), .ref (B + x0)]) X hw (c_X4_init l D a B h13 (List.length h12) eh14) sm_X4_init rfl in_X4_init nl_X6_37 (by decide) rfl hl.1 rfl (Nat.le_of_ble_eq_true rfl) dX6_init_57 ⟨(by decide), (by decide)⟩ (fun H locs hw => ?_)
  refine W.widen (k := 0 + 1 + 1 + 1 + 5 + 1 + 321 + 1 + 1 + 1 + 4) (n := 0 + 2 + 80 + 4 + 249 + 2 + 16016 + 2 + 80 + 4 + 164) (Nat.le_refl _) (Nat.le_refl _) ?_
  obtain ⟨h15, eh15, hm⟩ := dp_ob hm
  refine dp_putFr X hin hw cl_X6 4 (by decide) fl_X6_38 rfl rfl (Or.inl ⟨_, rfl⟩) eh15 dX6_init_60 (fun H locs hw => ?_)
  refine lv_aload_n hx hb dX6_init_63 rfl (lv_at hl 0 rfl) ?_
  obtain ⟨h16, eh16, hm⟩ := dp_ob hm
  refine dp_newc X hw cl_X0 cn_X6_42 ci_X0 ini_X0 bl_X0_ok eh16 (by decide) (by decide) dX6_init_64 (fun H hw => ?_)
  refine lv_dup hx hb dX6_init_67 rfl ?_
  obtain ⟨h17, eh17, hm⟩ := dp_ob hm
  refine dp_cIN (As := []) (rest := [.ref (B + (List.length h15)), .ref (B + x0)]) X hw (c_X0_init l D a B h16 (List.length h15) eh17) sm_X0_init rfl in_X0_init nl_X6_44 (by decide) rfl hl.1 rfl (Nat.le_of_ble_eq_true rfl) dX6_init_68 ⟨(by decide), (by decide)⟩ (fun H locs hw => ?_)
  refine W.widen (k := 0 + 1 + 1 + 1 + 5 + 1 + 321 + 1 + 1 + 1 + 4 + 1 + 3) (n := 0 + 2 + 80 + 4 + 249 + 2 + 16016 + 2 + 80 + 4 + 164 + 9 + 162) (Nat.le_refl _) (Nat.le_refl _) ?_
  obtain ⟨h18, eh18, hm⟩ := dp_ob hm
  refine dp_putFr X hin hw cl_X6 5 (by decide) fl_X6_45 rfl rfl (Or.inl ⟨_, rfl⟩) eh18 dX6_init_71 (fun H locs hw => ?_)
  cases hm
  refine W.widen (k := rm_X6_init.cells) (n := rm_X6_init.slots) (by decide) (by decide) ?_
  exact dp_vret X hr hw dX6_init_74
theorem ck_X6_letter {h : dp_H} {x0 : Nat} {x1 : Int32} {h' : dp_H} {r : Int32} (hm : m_X6_letter h x0 x1 = some (h', r)) : dp_is h x0 6 = true := (dp_ck_e hm).1
set_option maxRecDepth 100000 in
set_option maxHeartbeats 4000000 in
theorem c_X6_letter (l : Launch) (D : va_G) (a : dp_A) (B : Nat) (h : dp_H) (x0 : Nat) (x1 : Int32) {h' : dp_H} {r : Int32} (hm : m_X6_letter h x0 x1 = some (h', r)) : dp_M l D a B yX6_letter cX6_letter 2 (some .int) rm_X6_letter [.ref (B + x0), .int x1] h (some (.int r)) h' := by
  refine dp_M.of (own := RX6) (nm := "letter") (by decide) rfl rfl (Nat.le_of_ble_eq_true rfl) ?_
  intro p e s m below meth c ls X hr hin hw hl
  have hl : lv_has ls 2 [(0, .ref (B + x0)), (1, .int x1)] := hl
  obtain ⟨hx, hb, hml, hown, hlk, hK, hB⟩ := id X
  unfold m_X6_letter at hm
  obtain ⟨hck, hm⟩ := dp_ck_e hm
  refine lv_iload_n hx hb dX6_letter_0 rfl (lv_at hl 1 rfl) ?_
  refine lv_bipush (v := 32) hx hb dX6_letter_1 (by decide) ?_
  refine lv_icmp_lt (tgt := 12) hx hb dX6_letter_3 (by decide) (fun hc => ?_) (fun hc => ?_)
  · have hm := dp_ip hc hm
    refine lv_sipush (v := (-1002)) hx hb dX6_letter_12 (by decide) ?_
    cases hm
    exact dp_iret X hr hw dX6_letter_15
  · have hm := dp_in hc hm
    refine lv_iload_n hx hb dX6_letter_6 rfl (lv_at hl 1 rfl) ?_
    refine lv_bipush (v := 126) hx hb dX6_letter_7 (by decide) ?_
    refine lv_icmp_le (tgt := 16) hx hb dX6_letter_9 (by decide) (fun hc => ?_) (fun hc => ?_)
    · have hm := dp_ip hc hm
      refine lv_aload_n hx hb dX6_letter_16 rfl (lv_at hl 0 rfl) ?_
      obtain ⟨v1, ev1, hm⟩ := dp_ob hm
      refine dp_getr X hw cl_X6 0 (by decide) fl_X6_14 ev1 dX6_letter_17 ?_
      refine lv_iload_n hx hb dX6_letter_20 rfl (lv_at hl 1 rfl) ?_
      obtain ⟨h2, v3, ev3, hm⟩ := dp_ob2 hm
      refine dp_cV (As := [.int x1]) (rest := []) X hw (c_X5_append l D a B h v1 x1 ev3) vm_X5_append ml_X6_49 (by decide) rfl rfl (ck_X5_append ev3) rfl rfl hl.1 rfl (Nat.le_of_ble_eq_true rfl) dX6_letter_21 ⟨(Nat.zero_le _), (Nat.zero_le _)⟩ (fun H locs hw => ?_)
      refine lv_if_eq (tgt := 37) hx hb dX6_letter_24 (by decide) (fun hc => ?_) (fun hc => ?_)
      · have hm := dp_ip hc hm
        refine lv_sipush (v := (-1004)) hx hb dX6_letter_37 (by decide) ?_
        cases hm
        exact dp_iret X hr hw dX6_letter_40
      · have hm := dp_in hc hm
        refine lv_aload_n hx hb dX6_letter_27 rfl (lv_at hl 0 rfl) ?_
        obtain ⟨v4, ev4, hm⟩ := dp_ob hm
        refine dp_getr X hw cl_X6 0 (by decide) fl_X6_14 ev4 dX6_letter_28 ?_
        obtain ⟨v5, ev5, hm⟩ := dp_ob hm
        refine dp_cV (As := []) (rest := []) X hw (c_X5_size l D a B h2 v4 ev5) vm_X5_size ml_X6_53 (by decide) rfl rfl (ck_X5_size ev5) rfl rfl hl.1 rfl (Nat.le_of_ble_eq_true rfl) dX6_letter_31 ⟨(Nat.zero_le _), (Nat.zero_le _)⟩ (fun H locs hw => ?_)
        refine lv_goto (tgt := 40) hx hb dX6_letter_34 (by decide) ?_
        cases hm
        exact dp_iret X hr hw dX6_letter_40
    · have hm := dp_in hc hm
      refine lv_sipush (v := (-1002)) hx hb dX6_letter_12 (by decide) ?_
      cases hm
      exact dp_iret X hr hw dX6_letter_15
theorem ck_X6_blank {h : dp_H} {x0 : Nat} {h' : dp_H} {r : Int32} (hm : m_X6_blank h x0 = some (h', r)) : dp_is h x0 6 = true := (dp_ck_e hm).1
set_option maxRecDepth 100000 in
set_option maxHeartbeats 4000000 in
theorem c_X6_blank (l : Launch) (D : va_G) (a : dp_A) (B : Nat) (h : dp_H) (x0 : Nat) {h' : dp_H} {r : Int32} (hm : m_X6_blank h x0 = some (h', r)) : dp_M l D a B yX6_blank cX6_blank 2 (some .int) rm_X6_blank [.ref (B + x0)] h (some (.int r)) h' := by
  refine dp_M.of (own := RX6) (nm := "blank") (by decide) rfl rfl (Nat.le_of_ble_eq_true rfl) ?_
  intro p e s m below meth c ls X hr hin hw hl
  have hl : lv_has ls 2 [(0, .ref (B + x0))] := hl
  obtain ⟨hx, hb, hml, hown, hlk, hK, hB⟩ := id X
  unfold m_X6_blank at hm
  obtain ⟨hck, hm⟩ := dp_ck_e hm
  refine lv_aload_n hx hb dX6_blank_0 rfl (lv_at hl 0 rfl) ?_
  obtain ⟨v1, ev1, hm⟩ := dp_ob hm
  refine dp_getr X hw cl_X6 0 (by decide) fl_X6_14 ev1 dX6_blank_1 ?_
  obtain ⟨v2, ev2, hm⟩ := dp_ob hm
  refine dp_cV (As := []) (rest := []) X hw (c_X5_size l D a B h v1 ev2) vm_X5_size ml_X6_53 (by decide) rfl rfl (ck_X5_size ev2) rfl rfl hl.1 rfl (Nat.le_of_ble_eq_true rfl) dX6_blank_4 ⟨(Nat.zero_le _), (Nat.zero_le _)⟩ (fun H locs hw => ?_)
  refine lv_istore_n (lv' := [(1, .int v2), (0, .ref (B + x0))]) hx hb dX6_blank_7 rfl hl (by decide) rfl (fun ls hl => ?_)
  refine lv_aload_n hx hb dX6_blank_8 rfl (lv_at hl 1 rfl) ?_
  obtain ⟨v3, ev3, hm⟩ := dp_ob hm
  refine dp_getr X hw cl_X6 0 (by decide) fl_X6_14 ev3 dX6_blank_9 ?_
  obtain ⟨h4, eh4, hm⟩ := dp_ob hm
  refine dp_cVv (As := []) (rest := []) X hw (c_X5_clear l D a B h v3 eh4) vm_X5_clear ml_X6_57 (by decide) rfl rfl (ck_X5_clear eh4) rfl rfl hl.1 rfl (Nat.le_of_ble_eq_true rfl) dX6_blank_12 ⟨(Nat.zero_le _), (Nat.zero_le _)⟩ (fun H locs hw => ?_)
  refine lv_iload_n hx hb dX6_blank_15 rfl (lv_at hl 0 rfl) ?_
  cases hm
  exact dp_iret X hr hw dX6_blank_16
theorem ck_X6_fault {h : dp_H} {x0 : Nat} {h' : dp_H} {r : Int32} (hm : m_X6_fault h x0 = some (h', r)) : dp_is h x0 6 = true := (dp_ck_e hm).1
set_option maxRecDepth 100000 in
set_option maxHeartbeats 4000000 in
theorem c_X6_fault (l : Launch) (D : va_G) (a : dp_A) (B : Nat) (h : dp_H) (x0 : Nat) {h' : dp_H} {r : Int32} (hm : m_X6_fault h x0 = some (h', r)) : dp_M l D a B yX6_fault cX6_fault 1 (some .int) rm_X6_fault [.ref (B + x0)] h (some (.int r)) h' := by
  refine dp_M.of (own := RX6) (nm := "fault") (by decide) rfl rfl (Nat.le_of_ble_eq_true rfl) ?_
  intro p e s m below meth c ls X hr hin hw hl
  have hl : lv_has ls 1 [(0, .ref (B + x0))] := hl
  obtain ⟨hx, hb, hml, hown, hlk, hK, hB⟩ := id X
  unfold m_X6_fault at hm
  obtain ⟨hck, hm⟩ := dp_ck_e hm
  refine lv_aload_n hx hb dX6_fault_0 rfl (lv_at hl 0 rfl) ?_
  obtain ⟨v1, ev1, hm⟩ := dp_ob hm
  refine dp_getr X hw cl_X6 1 (by decide) fl_X6_21 ev1 dX6_fault_1 ?_
  refine lv_aload_n hx hb dX6_fault_4 rfl (lv_at hl 0 rfl) ?_
  obtain ⟨v2, ev2, hm⟩ := dp_ob hm
  refine dp_getr X hw cl_X6 0 (by decide) fl_X6_14 ev2 dX6_fault_5 ?_
  obtain ⟨h3, v4, ev4, hm⟩ := dp_ob2 hm
  refine dp_cV (As := [.ref (B + v2)]) (rest := []) X hw (c_X2_scan l D a B h v1 v2 ev4) vm_X2_scan ml_X6_60 (by decide) rfl rfl (ck_X2_scan ev4) rfl rfl hl.1 rfl (Nat.le_of_ble_eq_true rfl) dX6_fault_8 ⟨(Nat.zero_le _), (Nat.zero_le _)⟩ (fun H locs hw => ?_)
  cases hm
  exact dp_iret X hr hw dX6_fault_11
set_option maxRecDepth 100000 in
set_option maxHeartbeats 4000000 in
theorem v_X6_add_36 {p : Program} {l : Launch} {e : Env} {s : State} {m : MethodId} {args : Array Value} {below : List Frame} {meth : Method} {c : Code} {D : va_G} {a : dp_A} {B : Nat} (X : dp_X p s m meth c cX6_add 2 RX6 D a B) (hr : meth.sig.returnType = (some .int)) {h' : dp_H} {r : Int32}  : ∀ (h : dp_H) (x0 : Nat) (y0 : Int32), b_X6_add_36  h x0 y0 = some (h', r) → ∀ (H : Heap) (locs : List Loc) (ls : Array Slot), dp_w D a B h s.heap H locs → lv_has ls 2 [(0, .ref (B + x0))] → W p l e rm_X6_add s m args below meth c H locs 0 0 (MQ below (dp_Q D a B (some (.int r)) h') args s rm_X6_add.cells rm_X6_add.slots (fun q => B ≤ q)) (F0 m 36 ls [.int y0]) := by
  intro h x0 y0 hm H locs ls hw hl
  obtain ⟨hx, hb, hml, hown, hlk, hK, hB⟩ := id X
  unfold b_X6_add_36 at hm
  refine lv_istore_n (lv' := [(1, .int y0), (0, .ref (B + x0))]) hx hb dX6_add_36 rfl hl (by decide) rfl (fun ls hl => ?_)
  refine lv_iload_n hx hb dX6_add_37 rfl (lv_at hl 0 rfl) ?_
  refine lv_if_eq (tgt := 51) hx hb dX6_add_38 (by decide) (fun hc => ?_) (fun hc => ?_)
  · have hm := dp_ip hc hm
    refine lv_sipush (v := (-1003)) hx hb dX6_add_51 (by decide) ?_
    cases hm
    exact dp_iret X hr hw dX6_add_54
  · have hm := dp_in hc hm
    refine lv_aload_n hx hb dX6_add_41 rfl (lv_at hl 1 rfl) ?_
    obtain ⟨v1, ev1, hm⟩ := dp_ob hm
    refine dp_getr X hw cl_X6 5 (by decide) fl_X6_45 ev1 dX6_add_42 ?_
    obtain ⟨v2, ev2, hm⟩ := dp_ob hm
    refine dp_cV (As := []) (rest := []) X hw (c_X0_isUp l D a B h v1 ev2) vm_X0_isUp ml_X6_68 (by decide) rfl rfl (ck_X0_isUp ev2) rfl rfl hl.1 rfl (Nat.le_of_ble_eq_true rfl) dX6_add_45 ⟨(Nat.zero_le _), (Nat.zero_le _)⟩ (fun H locs hw => ?_)
    refine lv_if_eq (tgt := 55) hx hb dX6_add_48 (by decide) (fun hc => ?_) (fun hc => ?_)
    · have hm := dp_ip hc hm
      refine lv_aload_n hx hb dX6_add_55 rfl (lv_at hl 1 rfl) ?_
      obtain ⟨v3, ev3, hm⟩ := dp_ob hm
      refine dp_getr X hw cl_X6 2 (by decide) fl_X6_28 ev3 dX6_add_56 ?_
      refine lv_aload_n hx hb dX6_add_59 rfl (lv_at hl 1 rfl) ?_
      obtain ⟨v4, ev4, hm⟩ := dp_ob hm
      refine dp_getr X hw cl_X6 1 (by decide) fl_X6_21 ev4 dX6_add_60 ?_
      obtain ⟨v5, ev5, hm⟩ := dp_ob hm
      refine dp_cV (As := []) (rest := [.ref (B + v3)]) X hw (c_X2_draft l D a B h v4 ev5) vm_X2_draft ml_X6_71 (by decide) rfl rfl (ck_X2_draft ev5) rfl rfl hl.1 rfl (Nat.le_of_ble_eq_true rfl) dX6_add_63 ⟨(Nat.zero_le _), (Nat.zero_le _)⟩ (fun H locs hw => ?_)
      obtain ⟨h6, v7, ev7, hm⟩ := dp_ob2 hm
      refine dp_cV (As := [.ref (B + v5)]) (rest := []) X hw (c_X3_append l D a B h v3 v5 ev7) vm_X3_append ml_X6_75 (by decide) rfl rfl (ck_X3_append ev7) rfl rfl hl.1 rfl (Nat.le_of_ble_eq_true rfl) dX6_add_66 ⟨(Nat.zero_le _), (Nat.zero_le _)⟩ (fun H locs hw => ?_)
      refine lv_if_ne (tgt := 76) hx hb dX6_add_69 (by decide) (fun hc => ?_) (fun hc => ?_)
      · have hm := dp_in hc hm
        refine lv_aload_n hx hb dX6_add_76 rfl (lv_at hl 1 rfl) ?_
        obtain ⟨v8, ev8, hm⟩ := dp_ob hm
        refine dp_getr X hw cl_X6 0 (by decide) fl_X6_14 ev8 dX6_add_77 ?_
        obtain ⟨h9, eh9, hm⟩ := dp_ob hm
        refine dp_cVv (As := []) (rest := []) X hw (c_X5_clear l D a B h6 v8 eh9) vm_X5_clear ml_X6_57 (by decide) rfl rfl (ck_X5_clear eh9) rfl rfl hl.1 rfl (Nat.le_of_ble_eq_true rfl) dX6_add_80 ⟨(Nat.zero_le _), (Nat.zero_le _)⟩ (fun H locs hw => ?_)
        refine lv_aload_n hx hb dX6_add_83 rfl (lv_at hl 1 rfl) ?_
        obtain ⟨v10, ev10, hm⟩ := dp_ob hm
        refine dp_getr X hw cl_X6 2 (by decide) fl_X6_28 ev10 dX6_add_84 ?_
        obtain ⟨v11, ev11, hm⟩ := dp_ob hm
        refine dp_cV (As := []) (rest := []) X hw (c_X3_size l D a B h9 v10 ev11) vm_X3_size ml_X6_78 (by decide) rfl rfl (ck_X3_size ev11) rfl rfl hl.1 rfl (Nat.le_of_ble_eq_true rfl) dX6_add_87 ⟨(Nat.zero_le _), (Nat.zero_le _)⟩ (fun H locs hw => ?_)
        refine lv_iconst (v := 1) hx hb dX6_add_90 (by decide) ?_
        refine lv_isub hx hb dX6_add_91 ?_
        cases hm
        exact dp_iret X hr hw dX6_add_92
      · have hm := dp_ip hc hm
        refine lv_sipush (v := (-1004)) hx hb dX6_add_72 (by decide) ?_
        cases hm
        exact dp_iret X hr hw dX6_add_75
    · have hm := dp_in hc hm
      refine lv_sipush (v := (-1003)) hx hb dX6_add_51 (by decide) ?_
      cases hm
      exact dp_iret X hr hw dX6_add_54
theorem ck_X6_add {h : dp_H} {x0 : Nat} {h' : dp_H} {r : Int32} (hm : m_X6_add h x0 = some (h', r)) : dp_is h x0 6 = true := (dp_ck_e hm).1
set_option maxRecDepth 100000 in
set_option maxHeartbeats 4000000 in
theorem c_X6_add (l : Launch) (D : va_G) (a : dp_A) (B : Nat) (h : dp_H) (x0 : Nat) {h' : dp_H} {r : Int32} (hm : m_X6_add h x0 = some (h', r)) : dp_M l D a B yX6_add cX6_add 2 (some .int) rm_X6_add [.ref (B + x0)] h (some (.int r)) h' := by
  refine dp_M.of (own := RX6) (nm := "add") (by decide) rfl rfl (Nat.le_of_ble_eq_true rfl) ?_
  intro p e s m below meth c ls X hr hin hw hl
  have hl : lv_has ls 2 [(0, .ref (B + x0))] := hl
  obtain ⟨hx, hb, hml, hown, hlk, hK, hB⟩ := id X
  unfold m_X6_add at hm
  obtain ⟨hck, hm⟩ := dp_ck_e hm
  refine lv_aload_n hx hb dX6_add_0 rfl (lv_at hl 0 rfl) ?_
  obtain ⟨v1, ev1, hm⟩ := dp_ob hm
  refine dp_getr X hw cl_X6 1 (by decide) fl_X6_21 ev1 dX6_add_1 ?_
  refine lv_aload_n hx hb dX6_add_4 rfl (lv_at hl 0 rfl) ?_
  obtain ⟨v2, ev2, hm⟩ := dp_ob hm
  refine dp_getr X hw cl_X6 0 (by decide) fl_X6_14 ev2 dX6_add_5 ?_
  obtain ⟨h3, v4, ev4, hm⟩ := dp_ob2 hm
  refine dp_cV (As := [.ref (B + v2)]) (rest := []) X hw (c_X2_scan l D a B h v1 v2 ev4) vm_X2_scan ml_X6_60 (by decide) rfl rfl (ck_X2_scan ev4) rfl rfl hl.1 rfl (Nat.le_of_ble_eq_true rfl) dX6_add_8 ⟨(Nat.zero_le _), (Nat.zero_le _)⟩ (fun H locs hw => ?_)
  refine lv_aload_n hx hb dX6_add_11 rfl (lv_at hl 0 rfl) ?_
  obtain ⟨v5, ev5, hm⟩ := dp_ob hm
  refine dp_getr X hw cl_X6 0 (by decide) fl_X6_14 ev5 dX6_add_12 ?_
  obtain ⟨v6, ev6, hm⟩ := dp_ob hm
  refine dp_cV (As := []) (rest := [.int v4]) X hw (c_X5_size l D a B h3 v5 ev6) vm_X5_size ml_X6_53 (by decide) rfl rfl (ck_X5_size ev6) rfl rfl hl.1 rfl (Nat.le_of_ble_eq_true rfl) dX6_add_15 ⟨(Nat.zero_le _), (Nat.zero_le _)⟩ (fun H locs hw => ?_)
  refine lv_icmp_ne (tgt := 35) hx hb dX6_add_18 (by decide) (fun hc => ?_) (fun hc => ?_)
  · have hm := dp_in hc hm
    refine lv_iconst (v := 0) hx hb dX6_add_35 (by decide) ?_
    exact v_X6_add_36 X hr h3 x0 0 hm _ _ _ hw (lv_sub hl [0] rfl)
  · have hm := dp_ip hc hm
    refine lv_aload_n hx hb dX6_add_21 rfl (lv_at hl 0 rfl) ?_
    obtain ⟨v7, ev7, hm⟩ := dp_ob hm
    refine dp_getr X hw cl_X6 1 (by decide) fl_X6_21 ev7 dX6_add_22 ?_
    obtain ⟨v8, ev8, hm⟩ := dp_ob hm
    refine dp_cV (As := []) (rest := []) X hw (c_X2_isWhole l D a B h3 v7 ev8) vm_X2_isWhole ml_X6_64 (by decide) rfl rfl (ck_X2_isWhole ev8) rfl rfl hl.1 rfl (Nat.le_of_ble_eq_true rfl) dX6_add_25 ⟨(Nat.zero_le _), (Nat.zero_le _)⟩ (fun H locs hw => ?_)
    refine lv_if_eq (tgt := 35) hx hb dX6_add_28 (by decide) (fun hc => ?_) (fun hc => ?_)
    · have hm := dp_ip hc hm
      refine lv_iconst (v := 0) hx hb dX6_add_35 (by decide) ?_
      exact v_X6_add_36 X hr h3 x0 0 hm _ _ _ hw (lv_sub hl [0] rfl)
    · have hm := dp_in hc hm
      refine lv_iconst (v := 1) hx hb dX6_add_31 (by decide) ?_
      refine lv_goto (tgt := 36) hx hb dX6_add_32 (by decide) ?_
      exact v_X6_add_36 X hr h3 x0 1 hm _ _ _ hw (lv_sub hl [0] rfl)
theorem ck_X6_drop {h : dp_H} {x0 : Nat} {x1 : Int32} {h' : dp_H} {r : Int32} (hm : m_X6_drop h x0 x1 = some (h', r)) : dp_is h x0 6 = true := (dp_ck_e hm).1
set_option maxRecDepth 100000 in
set_option maxHeartbeats 4000000 in
theorem c_X6_drop (l : Launch) (D : va_G) (a : dp_A) (B : Nat) (h : dp_H) (x0 : Nat) (x1 : Int32) {h' : dp_H} {r : Int32} (hm : m_X6_drop h x0 x1 = some (h', r)) : dp_M l D a B yX6_drop cX6_drop 2 (some .int) rm_X6_drop [.ref (B + x0), .int x1] h (some (.int r)) h' := by
  refine dp_M.of (own := RX6) (nm := "drop") (by decide) rfl rfl (Nat.le_of_ble_eq_true rfl) ?_
  intro p e s m below meth c ls X hr hin hw hl
  have hl : lv_has ls 2 [(0, .ref (B + x0)), (1, .int x1)] := hl
  obtain ⟨hx, hb, hml, hown, hlk, hK, hB⟩ := id X
  unfold m_X6_drop at hm
  obtain ⟨hck, hm⟩ := dp_ck_e hm
  refine lv_aload_n hx hb dX6_drop_0 rfl (lv_at hl 0 rfl) ?_
  obtain ⟨v1, ev1, hm⟩ := dp_ob hm
  refine dp_getr X hw cl_X6 2 (by decide) fl_X6_28 ev1 dX6_drop_1 ?_
  refine lv_iload_n hx hb dX6_drop_4 rfl (lv_at hl 1 rfl) ?_
  obtain ⟨v2, ev2, hm⟩ := dp_ob hm
  refine dp_cV (As := [.int x1]) (rest := []) X hw (c_X3_at l D a B h v1 x1 ev2) vm_X3_at ml_X6_79 (by decide) rfl rfl (ck_X3_at ev2) rfl rfl hl.1 rfl (Nat.le_of_ble_eq_true rfl) dX6_drop_5 ⟨(Nat.zero_le _), (Nat.zero_le _)⟩ (fun H locs hw => ?_)
  rcases v2 with _ | u3
  · have hl : lv_has ls 2 [(0, .ref (B + x0)), (1, .int x1)] := hl
    have hm := dp_om_n hm
    refine lv_ifnonnullN hx hb dX6_drop_8 ?_
    refine lv_sipush (v := (-1001)) hx hb dX6_drop_11 (by decide) ?_
    cases hm
    exact dp_iret X hr hw dX6_drop_14
  · have hl : lv_has ls 2 [(0, .ref (B + x0)), (1, .int x1)] := hl
    have hm := dp_om_s hm
    refine lv_ifnonnull (tgt := 15) hx hb dX6_drop_8 (by decide) ?_
    refine lv_aload_n hx hb dX6_drop_15 rfl (lv_at hl 0 rfl) ?_
    obtain ⟨v4, ev4, hm⟩ := dp_ob hm
    refine dp_getr X hw cl_X6 5 (by decide) fl_X6_45 ev4 dX6_drop_16 ?_
    obtain ⟨v5, ev5, hm⟩ := dp_ob hm
    refine dp_cV (As := []) (rest := []) X hw (c_X0_isUp l D a B h v4 ev5) vm_X0_isUp ml_X6_68 (by decide) rfl rfl (ck_X0_isUp ev5) rfl rfl hl.1 rfl (Nat.le_of_ble_eq_true rfl) dX6_drop_19 ⟨(Nat.zero_le _), (Nat.zero_le _)⟩ (fun H locs hw => ?_)
    refine lv_if_eq (tgt := 29) hx hb dX6_drop_22 (by decide) (fun hc => ?_) (fun hc => ?_)
    · have hm := dp_ip hc hm
      refine lv_aload_n hx hb dX6_drop_29 rfl (lv_at hl 0 rfl) ?_
      obtain ⟨v6, ev6, hm⟩ := dp_ob hm
      refine dp_getr X hw cl_X6 2 (by decide) fl_X6_28 ev6 dX6_drop_30 ?_
      refine lv_iload_n hx hb dX6_drop_33 rfl (lv_at hl 1 rfl) ?_
      obtain ⟨h7, eh7, hm⟩ := dp_ob hm
      refine dp_cVv (As := [.int x1]) (rest := []) X hw (c_X3_remove l D a B h v6 x1 eh7) vm_X3_remove ml_X6_83 (by decide) rfl rfl (ck_X3_remove eh7) rfl rfl hl.1 rfl (Nat.le_of_ble_eq_true rfl) dX6_drop_34 ⟨(Nat.zero_le _), (Nat.zero_le _)⟩ (fun H locs hw => ?_)
      refine lv_aload_n hx hb dX6_drop_37 rfl (lv_at hl 0 rfl) ?_
      obtain ⟨v8, ev8, hm⟩ := dp_ob hm
      refine dp_getr X hw cl_X6 2 (by decide) fl_X6_28 ev8 dX6_drop_38 ?_
      obtain ⟨v9, ev9, hm⟩ := dp_ob hm
      refine dp_cV (As := []) (rest := []) X hw (c_X3_size l D a B h7 v8 ev9) vm_X3_size ml_X6_78 (by decide) rfl rfl (ck_X3_size ev9) rfl rfl hl.1 rfl (Nat.le_of_ble_eq_true rfl) dX6_drop_41 ⟨(Nat.zero_le _), (Nat.zero_le _)⟩ (fun H locs hw => ?_)
      cases hm
      exact dp_iret X hr hw dX6_drop_44
    · have hm := dp_in hc hm
      refine lv_sipush (v := (-1003)) hx hb dX6_drop_25 (by decide) ?_
      cases hm
      exact dp_iret X hr hw dX6_drop_28
theorem ck_X6_pattern {h : dp_H} {x0 : Nat} {x1 : Int32} {x2 : Int32} {r : Int32} (hm : m_X6_pattern h x0 x1 x2 = some r) : dp_is h x0 6 = true := (dp_ck_e hm).1
set_option maxRecDepth 100000 in
set_option maxHeartbeats 4000000 in
theorem c_X6_pattern (l : Launch) (D : va_G) (a : dp_A) (B : Nat) (h : dp_H) (x0 : Nat) (x1 : Int32) (x2 : Int32) {r : Int32} (hm : m_X6_pattern h x0 x1 x2 = some r) : dp_M l D a B yX6_pattern cX6_pattern 4 (some .int) rm_X6_pattern [.ref (B + x0), .int x1, .int x2] h (some (.int r)) h := by
  refine dp_M.of (own := RX6) (nm := "pattern") (by decide) rfl rfl (Nat.le_of_ble_eq_true rfl) ?_
  intro p e s m below meth c ls X hr hin hw hl
  have hl : lv_has ls 4 [(0, .ref (B + x0)), (1, .int x1), (2, .int x2)] := hl
  obtain ⟨hx, hb, hml, hown, hlk, hK, hB⟩ := id X
  unfold m_X6_pattern at hm
  obtain ⟨hck, hm⟩ := dp_ck_e hm
  refine lv_aload_n hx hb dX6_pattern_0 rfl (lv_at hl 0 rfl) ?_
  obtain ⟨v1, ev1, hm⟩ := dp_ob hm
  refine dp_getr X hw cl_X6 2 (by decide) fl_X6_28 ev1 dX6_pattern_1 ?_
  refine lv_iload_n hx hb dX6_pattern_4 rfl (lv_at hl 1 rfl) ?_
  obtain ⟨v2, ev2, hm⟩ := dp_ob hm
  refine dp_cV (As := [.int x1]) (rest := []) X hw (c_X3_at l D a B h v1 x1 ev2) vm_X3_at ml_X6_79 (by decide) rfl rfl (ck_X3_at ev2) rfl rfl hl.1 rfl (Nat.le_of_ble_eq_true rfl) dX6_pattern_5 ⟨(Nat.zero_le _), (Nat.zero_le _)⟩ (fun H locs hw => ?_)
  refine dp_astore_n (B := B) (o := v2) (lv' := [(3, dp_ro B v2), (0, .ref (B + x0)), (1, .int x1), (2, .int x2)]) hx hb dX6_pattern_8 rfl hl (by decide) rfl (fun ls hl => ?_)
  refine dp_aload_n (B := B) (o := v2) hx hb dX6_pattern_9 rfl (lv_at hl 0 rfl) ?_
  rcases v2 with _ | u3
  · have hl : lv_has ls 4 [(3, dp_ro B none), (0, .ref (B + x0)), (1, .int x1), (2, .int x2)] := hl
    have hm := dp_om_n hm
    refine lv_ifnonnullN hx hb dX6_pattern_10 ?_
    refine lv_sipush (v := (-1001)) hx hb dX6_pattern_13 (by decide) ?_
    cases hm
    exact dp_iret X hr hw dX6_pattern_16
  · have hl : lv_has ls 4 [(3, .ref (B + u3)), (0, .ref (B + x0)), (1, .int x1), (2, .int x2)] := hl
    have hm := dp_om_s hm
    refine lv_ifnonnull (tgt := 17) hx hb dX6_pattern_10 (by decide) ?_
    refine lv_iload_n hx hb dX6_pattern_17 rfl (lv_at hl 3 rfl) ?_
    by_cases hc0 : x2 = 0
    · have hm := dp_ip hc0 hm
      refine lv_tableIn (off := 38) (tgt := 56) hx hb dX6_pattern_18 (by rw [hc0]; first | done | decide) (by rw [hc0]; first | done | decide) (by rw [hc0]; first | done | decide) (by decide) ?_
      refine lv_aload_n hx hb dX6_pattern_56 rfl (lv_at hl 0 rfl) ?_
      obtain ⟨v4, ev4, hm⟩ := dp_ob hm
      refine dp_cV (As := []) (rest := []) X hw (c_X1_places l D a B h u3 ev4) vm_X1_places ml_X6_86 (by decide) rfl rfl (ck_X1_places ev4) rfl rfl hl.1 rfl (Nat.le_of_ble_eq_true rfl) dX6_pattern_57 ⟨(Nat.zero_le _), (Nat.zero_le _)⟩ (fun H locs hw => ?_)
      cases hm
      exact dp_iret X hr hw dX6_pattern_60
    have hm := dp_in hc0 hm
    by_cases hc1 : x2 = 1
    · have hm := dp_ip hc1 hm
      refine lv_tableIn (off := 43) (tgt := 61) hx hb dX6_pattern_18 (by rw [hc1]; first | done | decide) (by rw [hc1]; first | done | decide) (by rw [hc1]; first | done | decide) (by decide) ?_
      refine lv_aload_n hx hb dX6_pattern_61 rfl (lv_at hl 0 rfl) ?_
      obtain ⟨v5, ev5, hm⟩ := dp_ob hm
      refine dp_cV (As := []) (rest := []) X hw (c_X1_isOpen l D a B h u3 ev5) vm_X1_isOpen ml_X6_91 (by decide) rfl rfl (ck_X1_isOpen ev5) rfl rfl hl.1 rfl (Nat.le_of_ble_eq_true rfl) dX6_pattern_62 ⟨(Nat.zero_le _), (Nat.zero_le _)⟩ (fun H locs hw => ?_)
      refine lv_if_eq (tgt := 72) hx hb dX6_pattern_65 (by decide) (fun hc => ?_) (fun hc => ?_)
      · have hm := dp_ip hc hm
        refine lv_iconst (v := 0) hx hb dX6_pattern_72 (by decide) ?_
        cases hm
        exact dp_iret X hr hw dX6_pattern_73
      · have hm := dp_in hc hm
        refine lv_iconst (v := 1) hx hb dX6_pattern_68 (by decide) ?_
        refine lv_goto (tgt := 73) hx hb dX6_pattern_69 (by decide) ?_
        cases hm
        exact dp_iret X hr hw dX6_pattern_73
    have hm := dp_in hc1 hm
    by_cases hc2 : x2 = 2
    · have hm := dp_ip hc2 hm
      refine lv_tableIn (off := 56) (tgt := 74) hx hb dX6_pattern_18 (by rw [hc2]; first | done | decide) (by rw [hc2]; first | done | decide) (by rw [hc2]; first | done | decide) (by decide) ?_
      refine lv_aload_n hx hb dX6_pattern_74 rfl (lv_at hl 0 rfl) ?_
      obtain ⟨v6, ev6, hm⟩ := dp_ob hm
      refine dp_cV (As := []) (rest := []) X hw (c_X1_way l D a B h u3 ev6) vm_X1_way ml_X6_94 (by decide) rfl rfl (ck_X1_way ev6) rfl rfl hl.1 rfl (Nat.le_of_ble_eq_true rfl) dX6_pattern_75 ⟨(Nat.zero_le _), (Nat.zero_le _)⟩ (fun H locs hw => ?_)
      cases hm
      exact dp_iret X hr hw dX6_pattern_78
    have hm := dp_in hc2 hm
    by_cases hc3 : x2 = 3
    · have hm := dp_ip hc3 hm
      refine lv_tableIn (off := 61) (tgt := 79) hx hb dX6_pattern_18 (by rw [hc3]; first | done | decide) (by rw [hc3]; first | done | decide) (by rw [hc3]; first | done | decide) (by decide) ?_
      refine lv_aload_n hx hb dX6_pattern_79 rfl (lv_at hl 0 rfl) ?_
      obtain ⟨v7, ev7, hm⟩ := dp_ob hm
      refine dp_cV (As := []) (rest := []) X hw (c_X1_dropped l D a B h u3 ev7) vm_X1_dropped ml_X6_97 (by decide) rfl rfl (ck_X1_dropped ev7) rfl rfl hl.1 rfl (Nat.le_of_ble_eq_true rfl) dX6_pattern_80 ⟨(Nat.zero_le _), (Nat.zero_le _)⟩ (fun H locs hw => ?_)
      cases hm
      exact dp_iret X hr hw dX6_pattern_83
    have hm := dp_in hc3 hm
    by_cases hc4 : x2 = 4
    · have hm := dp_ip hc4 hm
      refine lv_tableIn (off := 66) (tgt := 84) hx hb dX6_pattern_18 (by rw [hc4]; first | done | decide) (by rw [hc4]; first | done | decide) (by rw [hc4]; first | done | decide) (by decide) ?_
      refine lv_aload_n hx hb dX6_pattern_84 rfl (lv_at hl 0 rfl) ?_
      obtain ⟨v8, ev8, hm⟩ := dp_ob hm
      refine dp_cV (As := []) (rest := []) X hw (c_X1_ahead l D a B h u3 ev8) vm_X1_ahead ml_X6_100 (by decide) rfl rfl (ck_X1_ahead ev8) rfl rfl hl.1 rfl (Nat.le_of_ble_eq_true rfl) dX6_pattern_85 ⟨(Nat.zero_le _), (Nat.zero_le _)⟩ (fun H locs hw => ?_)
      obtain ⟨v9, ev9, hm⟩ := dp_ob hm
      refine dp_cV (As := []) (rest := []) X hw (c_X5_size l D a B h v8 ev9) vm_X5_size ml_X6_53 (by decide) rfl rfl (ck_X5_size ev9) rfl rfl hl.1 rfl (Nat.le_of_ble_eq_true rfl) dX6_pattern_88 ⟨(Nat.zero_le _), (Nat.zero_le _)⟩ (fun H locs hw => ?_)
      cases hm
      exact dp_iret X hr hw dX6_pattern_91
    have hm := dp_in hc4 hm
    by_cases hc5 : x2 = 5
    · have hm := dp_ip hc5 hm
      refine lv_tableIn (off := 74) (tgt := 92) hx hb dX6_pattern_18 (by rw [hc5]; first | done | decide) (by rw [hc5]; first | done | decide) (by rw [hc5]; first | done | decide) (by decide) ?_
      refine lv_aload_n hx hb dX6_pattern_92 rfl (lv_at hl 0 rfl) ?_
      obtain ⟨v10, ev10, hm⟩ := dp_ob hm
      refine dp_cV (As := []) (rest := []) X hw (c_X1_ahead l D a B h u3 ev10) vm_X1_ahead ml_X6_100 (by decide) rfl rfl (ck_X1_ahead ev10) rfl rfl hl.1 rfl (Nat.le_of_ble_eq_true rfl) dX6_pattern_93 ⟨(Nat.zero_le _), (Nat.zero_le _)⟩ (fun H locs hw => ?_)
      obtain ⟨v11, ev11, hm⟩ := dp_ob hm
      refine dp_cV (As := []) (rest := []) X hw (c_X5_asNumber l D a B h v10 ev11) vm_X5_asNumber ml_X6_104 (by decide) rfl rfl (ck_X5_asNumber ev11) rfl rfl hl.1 rfl (Nat.le_of_ble_eq_true rfl) dX6_pattern_96 ⟨(Nat.zero_le _), (Nat.zero_le _)⟩ (fun H locs hw => ?_)
      cases hm
      exact dp_iret X hr hw dX6_pattern_99
    have hm := dp_in hc5 hm
    have hd0 : Int32.toInt x2 ≠ 0 := fun q => hc0 (Int32.toInt_inj.mp (q.trans (by decide)))
    have hd1 : Int32.toInt x2 ≠ 1 := fun q => hc1 (Int32.toInt_inj.mp (q.trans (by decide)))
    have hd2 : Int32.toInt x2 ≠ 2 := fun q => hc2 (Int32.toInt_inj.mp (q.trans (by decide)))
    have hd3 : Int32.toInt x2 ≠ 3 := fun q => hc3 (Int32.toInt_inj.mp (q.trans (by decide)))
    have hd4 : Int32.toInt x2 ≠ 4 := fun q => hc4 (Int32.toInt_inj.mp (q.trans (by decide)))
    have hd5 : Int32.toInt x2 ≠ 5 := fun q => hc5 (Int32.toInt_inj.mp (q.trans (by decide)))
    refine lv_tableOut (tgt := 100) hx hb dX6_pattern_18 (by omega) (by decide) ?_
    refine lv_sipush (v := (-1002)) hx hb dX6_pattern_100 (by decide) ?_
    cases hm
    exact dp_iret X hr hw dX6_pattern_103
theorem ck_X6_lets {h : dp_H} {x0 : Nat} {x1 : Int32} {x2 : Int32} {r : Int32} (hm : m_X6_lets h x0 x1 x2 = some r) : dp_is h x0 6 = true := (dp_ck_e hm).1
set_option maxRecDepth 100000 in
set_option maxHeartbeats 4000000 in
theorem c_X6_lets (l : Launch) (D : va_G) (a : dp_A) (B : Nat) (h : dp_H) (x0 : Nat) (x1 : Int32) (x2 : Int32) {r : Int32} (hm : m_X6_lets h x0 x1 x2 = some r) : dp_M l D a B yX6_lets cX6_lets 4 (some .int) rm_X6_lets [.ref (B + x0), .int x1, .int x2] h (some (.int r)) h := by
  refine dp_M.of (own := RX6) (nm := "lets") (by decide) rfl rfl (Nat.le_of_ble_eq_true rfl) ?_
  intro p e s m below meth c ls X hr hin hw hl
  have hl : lv_has ls 4 [(0, .ref (B + x0)), (1, .int x1), (2, .int x2)] := hl
  obtain ⟨hx, hb, hml, hown, hlk, hK, hB⟩ := id X
  unfold m_X6_lets at hm
  obtain ⟨hck, hm⟩ := dp_ck_e hm
  refine lv_aload_n hx hb dX6_lets_0 rfl (lv_at hl 0 rfl) ?_
  obtain ⟨v1, ev1, hm⟩ := dp_ob hm
  refine dp_getr X hw cl_X6 2 (by decide) fl_X6_28 ev1 dX6_lets_1 ?_
  refine lv_iload_n hx hb dX6_lets_4 rfl (lv_at hl 1 rfl) ?_
  obtain ⟨v2, ev2, hm⟩ := dp_ob hm
  refine dp_cV (As := [.int x1]) (rest := []) X hw (c_X3_at l D a B h v1 x1 ev2) vm_X3_at ml_X6_79 (by decide) rfl rfl (ck_X3_at ev2) rfl rfl hl.1 rfl (Nat.le_of_ble_eq_true rfl) dX6_lets_5 ⟨(Nat.zero_le _), (Nat.zero_le _)⟩ (fun H locs hw => ?_)
  refine dp_astore_n (B := B) (o := v2) (lv' := [(3, dp_ro B v2), (0, .ref (B + x0)), (1, .int x1), (2, .int x2)]) hx hb dX6_lets_8 rfl hl (by decide) rfl (fun ls hl => ?_)
  refine dp_aload_n (B := B) (o := v2) hx hb dX6_lets_9 rfl (lv_at hl 0 rfl) ?_
  rcases v2 with _ | u3
  · have hl : lv_has ls 4 [(3, dp_ro B none), (0, .ref (B + x0)), (1, .int x1), (2, .int x2)] := hl
    have hm := dp_om_n hm
    refine lv_ifnonnullN hx hb dX6_lets_10 ?_
    refine lv_sipush (v := (-1001)) hx hb dX6_lets_13 (by decide) ?_
    cases hm
    exact dp_iret X hr hw dX6_lets_16
  · have hl : lv_has ls 4 [(3, .ref (B + u3)), (0, .ref (B + x0)), (1, .int x1), (2, .int x2)] := hl
    have hm := dp_om_s hm
    refine lv_ifnonnull (tgt := 17) hx hb dX6_lets_10 (by decide) ?_
    refine lv_iload_n hx hb dX6_lets_17 rfl (lv_at hl 3 rfl) ?_
    refine lv_if_lt (tgt := 27) hx hb dX6_lets_18 (by decide) (fun hc => ?_) (fun hc => ?_)
    · have hm := dp_ip hc hm
      refine lv_sipush (v := (-1002)) hx hb dX6_lets_27 (by decide) ?_
      cases hm
      exact dp_iret X hr hw dX6_lets_30
    · have hm := dp_in hc hm
      refine lv_iload_n hx hb dX6_lets_21 rfl (lv_at hl 3 rfl) ?_
      refine lv_bipush (v := 10) hx hb dX6_lets_22 (by decide) ?_
      refine lv_icmp_lt (tgt := 31) hx hb dX6_lets_24 (by decide) (fun hc => ?_) (fun hc => ?_)
      · have hm := dp_ip hc hm
        refine lv_aload_n hx hb dX6_lets_31 rfl (lv_at hl 0 rfl) ?_
        refine lv_iload_n hx hb dX6_lets_32 rfl (lv_at hl 3 rfl) ?_
        obtain ⟨v4, ev4, hm⟩ := dp_ob hm
        refine dp_cV (As := [.int x2]) (rest := []) X hw (c_X1_digitsAt l D a B h u3 x2 ev4) vm_X1_digitsAt ml_X6_107 (by decide) rfl rfl (ck_X1_digitsAt ev4) rfl rfl hl.1 rfl (Nat.le_of_ble_eq_true rfl) dX6_lets_33 ⟨(Nat.zero_le _), (Nat.zero_le _)⟩ (fun H locs hw => ?_)
        cases hm
        exact dp_iret X hr hw dX6_lets_36
      · have hm := dp_in hc hm
        refine lv_sipush (v := (-1002)) hx hb dX6_lets_27 (by decide) ?_
        cases hm
        exact dp_iret X hr hw dX6_lets_30
theorem ck_X6_narrower {h : dp_H} {x0 : Nat} {x1 : Int32} {x2 : Int32} {r : Int32} (hm : m_X6_narrower h x0 x1 x2 = some r) : dp_is h x0 6 = true := (dp_ck_e hm).1
set_option maxRecDepth 100000 in
set_option maxHeartbeats 4000000 in
theorem c_X6_narrower (l : Launch) (D : va_G) (a : dp_A) (B : Nat) (h : dp_H) (x0 : Nat) (x1 : Int32) (x2 : Int32) {r : Int32} (hm : m_X6_narrower h x0 x1 x2 = some r) : dp_M l D a B yX6_narrower cX6_narrower 5 (some .int) rm_X6_narrower [.ref (B + x0), .int x1, .int x2] h (some (.int r)) h := by
  refine dp_M.of (own := RX6) (nm := "narrower") (by decide) rfl rfl (Nat.le_of_ble_eq_true rfl) ?_
  intro p e s m below meth c ls X hr hin hw hl
  have hl : lv_has ls 5 [(0, .ref (B + x0)), (1, .int x1), (2, .int x2)] := hl
  obtain ⟨hx, hb, hml, hown, hlk, hK, hB⟩ := id X
  unfold m_X6_narrower at hm
  obtain ⟨hck, hm⟩ := dp_ck_e hm
  refine lv_aload_n hx hb dX6_narrower_0 rfl (lv_at hl 0 rfl) ?_
  obtain ⟨v1, ev1, hm⟩ := dp_ob hm
  refine dp_getr X hw cl_X6 2 (by decide) fl_X6_28 ev1 dX6_narrower_1 ?_
  refine lv_iload_n hx hb dX6_narrower_4 rfl (lv_at hl 1 rfl) ?_
  obtain ⟨v2, ev2, hm⟩ := dp_ob hm
  refine dp_cV (As := [.int x1]) (rest := []) X hw (c_X3_at l D a B h v1 x1 ev2) vm_X3_at ml_X6_79 (by decide) rfl rfl (ck_X3_at ev2) rfl rfl hl.1 rfl (Nat.le_of_ble_eq_true rfl) dX6_narrower_5 ⟨(Nat.zero_le _), (Nat.zero_le _)⟩ (fun H locs hw => ?_)
  refine dp_astore_n (B := B) (o := v2) (lv' := [(3, dp_ro B v2), (0, .ref (B + x0)), (1, .int x1), (2, .int x2)]) hx hb dX6_narrower_8 rfl hl (by decide) rfl (fun ls hl => ?_)
  refine lv_aload_n hx hb dX6_narrower_9 rfl (lv_at hl 1 rfl) ?_
  obtain ⟨v3, ev3, hm⟩ := dp_ob hm
  refine dp_getr X hw cl_X6 2 (by decide) fl_X6_28 ev3 dX6_narrower_10 ?_
  refine lv_iload_n hx hb dX6_narrower_13 rfl (lv_at hl 3 rfl) ?_
  obtain ⟨v4, ev4, hm⟩ := dp_ob hm
  refine dp_cV (As := [.int x2]) (rest := []) X hw (c_X3_at l D a B h v3 x2 ev4) vm_X3_at ml_X6_79 (by decide) rfl rfl (ck_X3_at ev4) rfl rfl hl.1 rfl (Nat.le_of_ble_eq_true rfl) dX6_narrower_14 ⟨(Nat.zero_le _), (Nat.zero_le _)⟩ (fun H locs hw => ?_)
  refine dp_astore (B := B) (o := v4) (lv' := [(4, dp_ro B v4), (3, dp_ro B v2), (0, .ref (B + x0)), (1, .int x1), (2, .int x2)]) hx hb dX6_narrower_17 hl (by decide) (by rcases v2 with _ | _ <;> rfl) (fun ls hl => ?_)
  refine dp_aload_n (B := B) (o := v2) hx hb dX6_narrower_19 rfl (lv_at hl 1 rfl) ?_
  rcases v2 with _ | u5
  · have hl : lv_has ls 5 [(4, dp_ro B v4), (3, dp_ro B none), (0, .ref (B + x0)), (1, .int x1), (2, .int x2)] := hl
    have hm := dp_om_n hm
    refine lv_ifnullN (tgt := 28) hx hb dX6_narrower_20 (by decide) ?_
    refine lv_sipush (v := (-1001)) hx hb dX6_narrower_28 (by decide) ?_
    cases hm
    exact dp_iret X hr hw dX6_narrower_31
  · have hl : lv_has ls 5 [(4, dp_ro B v4), (3, .ref (B + u5)), (0, .ref (B + x0)), (1, .int x1), (2, .int x2)] := hl
    have hm := dp_om_s hm
    refine lv_ifnull hx hb dX6_narrower_20 ?_
    refine dp_aload (B := B) (o := v4) hx hb dX6_narrower_23 (lv_at hl 0 rfl) ?_
    rcases v4 with _ | u6
    · have hl : lv_has ls 5 [(4, dp_ro B none), (3, .ref (B + u5)), (0, .ref (B + x0)), (1, .int x1), (2, .int x2)] := hl
      have hm := dp_om_n hm
      refine lv_ifnonnullN hx hb dX6_narrower_25 ?_
      refine lv_sipush (v := (-1001)) hx hb dX6_narrower_28 (by decide) ?_
      cases hm
      exact dp_iret X hr hw dX6_narrower_31
    · have hl : lv_has ls 5 [(4, .ref (B + u6)), (3, .ref (B + u5)), (0, .ref (B + x0)), (1, .int x1), (2, .int x2)] := hl
      have hm := dp_om_s hm
      refine lv_ifnonnull (tgt := 32) hx hb dX6_narrower_25 (by decide) ?_
      refine lv_aload_n hx hb dX6_narrower_32 rfl (lv_at hl 1 rfl) ?_
      refine lv_aload hx hb dX6_narrower_33 (lv_at hl 0 rfl) ?_
      obtain ⟨v7, ev7, hm⟩ := dp_ob hm
      refine dp_cV (As := [.ref (B + u6)]) (rest := []) X hw (c_X1_isNarrowerThan l D a B h u5 u6 ev7) vm_X1_isNarrowerThan ml_X6_111 (by decide) rfl rfl (ck_X1_isNarrowerThan ev7) rfl rfl hl.1 rfl (Nat.le_of_ble_eq_true rfl) dX6_narrower_35 ⟨(Nat.zero_le _), (Nat.zero_le _)⟩ (fun H locs hw => ?_)
      refine lv_if_eq (tgt := 43) hx hb dX6_narrower_38 (by decide) (fun hc => ?_) (fun hc => ?_)
      · have hm := dp_ip hc hm
        refine lv_aload hx hb dX6_narrower_43 (lv_at hl 0 rfl) ?_
        refine lv_aload_n hx hb dX6_narrower_45 rfl (lv_at hl 1 rfl) ?_
        obtain ⟨v8, ev8, hm⟩ := dp_ob hm
        refine dp_cV (As := [.ref (B + u5)]) (rest := []) X hw (c_X1_isNarrowerThan l D a B h u6 u5 ev8) vm_X1_isNarrowerThan ml_X6_111 (by decide) rfl rfl (ck_X1_isNarrowerThan ev8) rfl rfl hl.1 rfl (Nat.le_of_ble_eq_true rfl) dX6_narrower_46 ⟨(Nat.zero_le _), (Nat.zero_le _)⟩ (fun H locs hw => ?_)
        refine lv_if_eq (tgt := 56) hx hb dX6_narrower_49 (by decide) (fun hc => ?_) (fun hc => ?_)
        · have hm := dp_ip hc hm
          refine lv_iconst (v := 2) hx hb dX6_narrower_56 (by decide) ?_
          cases hm
          exact dp_iret X hr hw dX6_narrower_57
        · have hm := dp_in hc hm
          refine lv_iconst (v := 1) hx hb dX6_narrower_52 (by decide) ?_
          refine lv_goto (tgt := 57) hx hb dX6_narrower_53 (by decide) ?_
          cases hm
          exact dp_iret X hr hw dX6_narrower_57
      · have hm := dp_in hc hm
        refine lv_iconst (v := 0) hx hb dX6_narrower_41 (by decide) ?_
        cases hm
        exact dp_iret X hr hw dX6_narrower_42
set_option maxRecDepth 100000 in
set_option maxHeartbeats 4000000 in
theorem v_X6_clash_24 {p : Program} {l : Launch} {e : Env} {s : State} {m : MethodId} {args : Array Value} {below : List Frame} {meth : Method} {c : Code} {D : va_G} {a : dp_A} {B : Nat} (X : dp_X p s m meth c cX6_clash 5 RX6 D a B) (hr : meth.sig.returnType = (some .int)) {h : dp_H} {r : Int32} {k4 : Nat → Int32 → Int32 → Option Int32} (hk4 : ∀ (x0 : Nat) (x2 : Int32) (x3 : Int32), k4 x0 x2 x3 = some r → ∀ (H : Heap) (locs : List Loc) (ls : Array Slot), dp_w D a B h s.heap H locs → lv_has ls 5 [(0, .ref (B + x0)), (2, .int x2), (3, .int x3)] → W p l e rm_X6_clash s m args below meth c H locs 0 0 (MQ below (dp_Q D a B (some (.int r)) h) args s rm_X6_clash.cells rm_X6_clash.slots (fun q => B ≤ q)) (F0 m 4 ls [])) {k24 : Nat → Int32 → Int32 → Int32 → Option Int32} (hk24 : ∀ (x0 : Nat) (x2 : Int32) (x3 : Int32) (x4 : Int32), k24 x0 x2 x3 x4 = some r → ∀ (H : Heap) (locs : List Loc) (ls : Array Slot), dp_w D a B h s.heap H locs → lv_has ls 5 [(0, .ref (B + x0)), (2, .int x2), (3, .int x3), (4, .int x4)] → W p l e rm_X6_clash s m args below meth c H locs 0 0 (MQ below (dp_Q D a B (some (.int r)) h) args s rm_X6_clash.cells rm_X6_clash.slots (fun q => B ≤ q)) (F0 m 24 ls [])) : ∀ (x0 : Nat) (x2 : Int32) (x3 : Int32) (x4 : Int32), b_X6_clash_24 h k4 k24 x0 x2 x3 x4 = some r → ∀ (H : Heap) (locs : List Loc) (ls : Array Slot), dp_w D a B h s.heap H locs → lv_has ls 5 [(0, .ref (B + x0)), (2, .int x2), (3, .int x3), (4, .int x4)] → W p l e rm_X6_clash s m args below meth c H locs 0 0 (MQ below (dp_Q D a B (some (.int r)) h) args s rm_X6_clash.cells rm_X6_clash.slots (fun q => B ≤ q)) (F0 m 24 ls []) := by
  intro x0 x2 x3 x4 hm H locs ls hw hl
  obtain ⟨hx, hb, hml, hown, hlk, hK, hB⟩ := id X
  unfold b_X6_clash_24 at hm
  refine lv_iload hx hb dX6_clash_24 (lv_at hl 3 rfl) ?_
  refine lv_aload_n hx hb dX6_clash_26 rfl (lv_at hl 0 rfl) ?_
  obtain ⟨v1, ev1, hm⟩ := dp_ob hm
  refine dp_getr X hw cl_X6 2 (by decide) fl_X6_28 ev1 dX6_clash_27 ?_
  obtain ⟨v2, ev2, hm⟩ := dp_ob hm
  refine dp_cV (As := []) (rest := [.int x4]) X hw (c_X3_size l D a B h v1 ev2) vm_X3_size ml_X6_78 (by decide) rfl rfl (ck_X3_size ev2) rfl rfl hl.1 rfl (Nat.le_of_ble_eq_true rfl) dX6_clash_30 ⟨(Nat.zero_le _), (Nat.zero_le _)⟩ (fun H locs hw => ?_)
  refine lv_icmp_ge (tgt := 70) hx hb dX6_clash_33 (by decide) (fun hc => ?_) (fun hc => ?_)
  · have hm := dp_ip hc hm
    refine lv_iinc (v := (x3 + 1)) (lv' := [(3, .int (x3 + 1)), (0, .ref (B + x0)), (2, .int x2), (4, .int x4)]) hx hb dX6_clash_70 hl (k := 2) rfl rfl (by decide) rfl (fun ls hl => ?_)
    refine lv_goto (tgt := 4) hx hb dX6_clash_73 (by decide) ?_
    exact hk4 x0 x2 (x3 + 1) hm _ _ _ hw (lv_sub hl [1, 2, 0] rfl)
  · have hm := dp_in hc hm
    refine lv_aload_n hx hb dX6_clash_36 rfl (lv_at hl 0 rfl) ?_
    obtain ⟨v3, ev3, hm⟩ := dp_ob hm
    refine dp_getr X hw cl_X6 2 (by decide) fl_X6_28 ev3 dX6_clash_37 ?_
    refine lv_iload_n hx hb dX6_clash_40 rfl (lv_at hl 2 rfl) ?_
    refine lv_iload hx hb dX6_clash_41 (lv_at hl 3 rfl) ?_
    obtain ⟨v4, ev4, hm⟩ := dp_ob hm
    refine dp_cV (As := [.int x3, .int x4]) (rest := []) X hw (c_X3_isClash l D a B h v3 x3 x4 ev4) vm_X3_isClash ml_X6_114 (by decide) rfl rfl (ck_X3_isClash ev4) rfl rfl hl.1 rfl (Nat.le_of_ble_eq_true rfl) dX6_clash_43 ⟨(Nat.zero_le _), (Nat.zero_le _)⟩ (fun H locs hw => ?_)
    refine lv_if_eq (tgt := 64) hx hb dX6_clash_46 (by decide) (fun hc => ?_) (fun hc => ?_)
    · have hm := dp_ip hc hm
      refine lv_iinc (v := (x4 + 1)) (lv' := [(4, .int (x4 + 1)), (0, .ref (B + x0)), (2, .int x2), (3, .int x3)]) hx hb dX6_clash_64 hl (k := 3) rfl rfl (by decide) rfl (fun ls hl => ?_)
      refine lv_goto (tgt := 24) hx hb dX6_clash_67 (by decide) ?_
      exact hk24 x0 x2 x3 (x4 + 1) hm _ _ _ hw (lv_sub hl [1, 2, 3, 0] rfl)
    · have hm := dp_in hc hm
      refine lv_iload_n hx hb dX6_clash_49 rfl (lv_at hl 1 rfl) ?_
      refine lv_if_ne (tgt := 61) hx hb dX6_clash_50 (by decide) (fun hc => ?_) (fun hc => ?_)
      · have hm := dp_in hc hm
        refine lv_iinc (v := (x2 + (-1))) (lv' := [(2, .int (x2 + (-1))), (0, .ref (B + x0)), (3, .int x3), (4, .int x4)]) hx hb dX6_clash_61 hl (k := 1) rfl rfl (by decide) rfl (fun ls hl => ?_)
        refine lv_iinc (v := (x4 + 1)) (lv' := [(4, .int (x4 + 1)), (2, .int (x2 + (-1))), (0, .ref (B + x0)), (3, .int x3)]) hx hb dX6_clash_64 hl (k := 3) rfl rfl (by decide) rfl (fun ls hl => ?_)
        refine lv_goto (tgt := 24) hx hb dX6_clash_67 (by decide) ?_
        exact hk24 x0 (x2 + (-1)) x3 (x4 + 1) hm _ _ _ hw (lv_sub hl [2, 1, 3, 0] rfl)
      · have hm := dp_ip hc hm
        refine lv_bipush (v := 16) hx hb dX6_clash_53 (by decide) ?_
        refine lv_iload_n hx hb dX6_clash_55 rfl (lv_at hl 2 rfl) ?_
        refine lv_imul hx hb dX6_clash_56 ?_
        refine lv_iload hx hb dX6_clash_57 (lv_at hl 3 rfl) ?_
        refine lv_iadd hx hb dX6_clash_59 ?_
        cases hm
        exact dp_iret X hr hw dX6_clash_60
set_option maxRecDepth 100000 in
set_option maxHeartbeats 4000000 in
theorem w_X6_clash_24 {p : Program} {l : Launch} {e : Env} {s : State} {m : MethodId} {args : Array Value} {below : List Frame} {meth : Method} {c : Code} {D : va_G} {a : dp_A} {B : Nat} (X : dp_X p s m meth c cX6_clash 5 RX6 D a B) (hr : meth.sig.returnType = (some .int)) {h : dp_H} {r : Int32} {k4 : Nat → Int32 → Int32 → Option Int32} (hk4 : ∀ (x0 : Nat) (x2 : Int32) (x3 : Int32), k4 x0 x2 x3 = some r → ∀ (H : Heap) (locs : List Loc) (ls : Array Slot), dp_w D a B h s.heap H locs → lv_has ls 5 [(0, .ref (B + x0)), (2, .int x2), (3, .int x3)] → W p l e rm_X6_clash s m args below meth c H locs 0 0 (MQ below (dp_Q D a B (some (.int r)) h) args s rm_X6_clash.cells rm_X6_clash.slots (fun q => B ≤ q)) (F0 m 4 ls [])) : ∀ (n : Nat) (x0 : Nat) (x2 : Int32) (x3 : Int32) (x4 : Int32), m_X6_clash_24 h k4 n x0 x2 x3 x4 = some r → ∀ (H : Heap) (locs : List Loc) (ls : Array Slot), dp_w D a B h s.heap H locs → lv_has ls 5 [(0, .ref (B + x0)), (2, .int x2), (3, .int x3), (4, .int x4)] → W p l e rm_X6_clash s m args below meth c H locs 0 0 (MQ below (dp_Q D a B (some (.int r)) h) args s rm_X6_clash.cells rm_X6_clash.slots (fun q => B ≤ q)) (F0 m 24 ls []) := by
  intro n
  induction n with
  | zero => intro x0 x2 x3 x4 hm; cases hm
  | succ n ih => intro x0 x2 x3 x4 hm; exact v_X6_clash_24 X hr hk4 ih x0 x2 x3 x4 hm
set_option maxRecDepth 100000 in
set_option maxHeartbeats 4000000 in
theorem v_X6_clash_4 {p : Program} {l : Launch} {e : Env} {s : State} {m : MethodId} {args : Array Value} {below : List Frame} {meth : Method} {c : Code} {D : va_G} {a : dp_A} {B : Nat} (X : dp_X p s m meth c cX6_clash 5 RX6 D a B) (hr : meth.sig.returnType = (some .int)) {h : dp_H} {r : Int32} {k4 : Nat → Int32 → Int32 → Option Int32} (hk4 : ∀ (x0 : Nat) (x2 : Int32) (x3 : Int32), k4 x0 x2 x3 = some r → ∀ (H : Heap) (locs : List Loc) (ls : Array Slot), dp_w D a B h s.heap H locs → lv_has ls 5 [(0, .ref (B + x0)), (2, .int x2), (3, .int x3)] → W p l e rm_X6_clash s m args below meth c H locs 0 0 (MQ below (dp_Q D a B (some (.int r)) h) args s rm_X6_clash.cells rm_X6_clash.slots (fun q => B ≤ q)) (F0 m 4 ls [])) : ∀ (x0 : Nat) (x2 : Int32) (x3 : Int32), b_X6_clash_4 h k4 x0 x2 x3 = some r → ∀ (H : Heap) (locs : List Loc) (ls : Array Slot), dp_w D a B h s.heap H locs → lv_has ls 5 [(0, .ref (B + x0)), (2, .int x2), (3, .int x3)] → W p l e rm_X6_clash s m args below meth c H locs 0 0 (MQ below (dp_Q D a B (some (.int r)) h) args s rm_X6_clash.cells rm_X6_clash.slots (fun q => B ≤ q)) (F0 m 4 ls []) := by
  intro x0 x2 x3 hm H locs ls hw hl
  obtain ⟨hx, hb, hml, hown, hlk, hK, hB⟩ := id X
  unfold b_X6_clash_4 at hm
  refine lv_iload_n hx hb dX6_clash_4 rfl (lv_at hl 2 rfl) ?_
  refine lv_aload_n hx hb dX6_clash_5 rfl (lv_at hl 0 rfl) ?_
  obtain ⟨v1, ev1, hm⟩ := dp_ob hm
  refine dp_getr X hw cl_X6 2 (by decide) fl_X6_28 ev1 dX6_clash_6 ?_
  obtain ⟨v2, ev2, hm⟩ := dp_ob hm
  refine dp_cV (As := []) (rest := [.int x3]) X hw (c_X3_size l D a B h v1 ev2) vm_X3_size ml_X6_78 (by decide) rfl rfl (ck_X3_size ev2) rfl rfl hl.1 rfl (Nat.le_of_ble_eq_true rfl) dX6_clash_9 ⟨(Nat.zero_le _), (Nat.zero_le _)⟩ (fun H locs hw => ?_)
  refine lv_icmp_ge (tgt := 76) hx hb dX6_clash_12 (by decide) (fun hc => ?_) (fun hc => ?_)
  · have hm := dp_ip hc hm
    refine lv_sipush (v := (-1001)) hx hb dX6_clash_76 (by decide) ?_
    cases hm
    exact dp_iret X hr hw dX6_clash_79
  · have hm := dp_in hc hm
    refine lv_iload_n hx hb dX6_clash_15 rfl (lv_at hl 1 rfl) ?_
    refine lv_if_lt (tgt := 76) hx hb dX6_clash_16 (by decide) (fun hc => ?_) (fun hc => ?_)
    · have hm := dp_ip hc hm
      refine lv_sipush (v := (-1001)) hx hb dX6_clash_76 (by decide) ?_
      cases hm
      exact dp_iret X hr hw dX6_clash_79
    · have hm := dp_in hc hm
      refine lv_iload_n hx hb dX6_clash_19 rfl (lv_at hl 2 rfl) ?_
      refine lv_iconst (v := 1) hx hb dX6_clash_20 (by decide) ?_
      refine lv_iadd hx hb dX6_clash_21 ?_
      refine lv_istore (lv' := [(4, .int (x3 + 1)), (0, .ref (B + x0)), (2, .int x2), (3, .int x3)]) hx hb dX6_clash_22 hl (by decide) rfl (fun ls hl => ?_)
      exact w_X6_clash_24 X hr hk4 64 x0 x2 x3 (x3 + 1) hm _ _ _ hw (lv_sub hl [1, 2, 3, 0] rfl)
set_option maxRecDepth 100000 in
set_option maxHeartbeats 4000000 in
theorem w_X6_clash_4 {p : Program} {l : Launch} {e : Env} {s : State} {m : MethodId} {args : Array Value} {below : List Frame} {meth : Method} {c : Code} {D : va_G} {a : dp_A} {B : Nat} (X : dp_X p s m meth c cX6_clash 5 RX6 D a B) (hr : meth.sig.returnType = (some .int)) {h : dp_H} {r : Int32}  : ∀ (n : Nat) (x0 : Nat) (x2 : Int32) (x3 : Int32), m_X6_clash_4 h  n x0 x2 x3 = some r → ∀ (H : Heap) (locs : List Loc) (ls : Array Slot), dp_w D a B h s.heap H locs → lv_has ls 5 [(0, .ref (B + x0)), (2, .int x2), (3, .int x3)] → W p l e rm_X6_clash s m args below meth c H locs 0 0 (MQ below (dp_Q D a B (some (.int r)) h) args s rm_X6_clash.cells rm_X6_clash.slots (fun q => B ≤ q)) (F0 m 4 ls []) := by
  intro n
  induction n with
  | zero => intro x0 x2 x3 hm; cases hm
  | succ n ih => intro x0 x2 x3 hm; exact v_X6_clash_4 X hr ih x0 x2 x3 hm
theorem ck_X6_clash {h : dp_H} {x0 : Nat} {x1 : Int32} {r : Int32} (hm : m_X6_clash h x0 x1 = some r) : dp_is h x0 6 = true := (dp_ck_e hm).1
set_option maxRecDepth 100000 in
set_option maxHeartbeats 4000000 in
theorem c_X6_clash (l : Launch) (D : va_G) (a : dp_A) (B : Nat) (h : dp_H) (x0 : Nat) (x1 : Int32) {r : Int32} (hm : m_X6_clash h x0 x1 = some r) : dp_M l D a B yX6_clash cX6_clash 5 (some .int) rm_X6_clash [.ref (B + x0), .int x1] h (some (.int r)) h := by
  refine dp_M.of (own := RX6) (nm := "clash") (by decide) rfl rfl (Nat.le_of_ble_eq_true rfl) ?_
  intro p e s m below meth c ls X hr hin hw hl
  have hl : lv_has ls 5 [(0, .ref (B + x0)), (1, .int x1)] := hl
  obtain ⟨hx, hb, hml, hown, hlk, hK, hB⟩ := id X
  unfold m_X6_clash at hm
  obtain ⟨hck, hm⟩ := dp_ck_e hm
  refine lv_iload_n hx hb dX6_clash_0 rfl (lv_at hl 1 rfl) ?_
  refine lv_istore_n (lv' := [(2, .int x1), (0, .ref (B + x0)), (1, .int x1)]) hx hb dX6_clash_1 rfl hl (by decide) rfl (fun ls hl => ?_)
  refine lv_iconst (v := 0) hx hb dX6_clash_2 (by decide) ?_
  refine lv_istore_n (lv' := [(3, .int 0), (2, .int x1), (0, .ref (B + x0)), (1, .int x1)]) hx hb dX6_clash_3 rfl hl (by decide) rfl (fun ls hl => ?_)
  exact w_X6_clash_4 X hr 64 x0 x1 0 hm _ _ _ hw (lv_sub hl [2, 1, 0] rfl)
