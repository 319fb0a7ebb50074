set_option maxRecDepth 100000 in
set_option maxHeartbeats 4000000 in
theorem v_X6_readsPageAsRow_9 {p : Program} {l : Launch} {e : Env} {s : State} {m : MethodId} {args : Array Value} {below : List Frame} {meth : Method} {c : Code} {D : va_G} {a : dp_A} {B : Nat} (X : dp_X p s m meth c cX6_readsPageAsRow 2 RX6 D a B) (hr : meth.sig.returnType = (some .boolean)) {h' : dp_H} {r : Int32} {k9 : dp_H → Nat → Int32 → Option (dp_H × Int32)} (hk9 : ∀ (h : dp_H) (x0 : Nat) (x1 : Int32), k9 h x0 x1 = some (h', r) → ∀ (H : Heap) (locs : List Loc) (ls : Array Slot), dp_w D a B h s.heap H locs → lv_has ls 2 [(0, .ref (B + x0)), (1, .int x1)] → W p l e rm_X6_readsPageAsRow s m args below meth c H locs 0 0 (MQ below (dp_Q D a B (some (.int r)) h') args s rm_X6_readsPageAsRow.cells rm_X6_readsPageAsRow.slots (fun q => B ≤ q)) (F0 m 9 ls [])) : ∀ (h : dp_H) (x0 : Nat) (x1 : Int32), b_X6_readsPageAsRow_9 k9 h x0 x1 = some (h', r) → ∀ (H : Heap) (locs : List Loc) (ls : Array Slot), dp_w D a B h s.heap H locs → lv_has ls 2 [(0, .ref (B + x0)), (1, .int x1)] → W p l e rm_X6_readsPageAsRow s m args below meth c H locs 0 0 (MQ below (dp_Q D a B (some (.int r)) h') args s rm_X6_readsPageAsRow.cells rm_X6_readsPageAsRow.slots (fun q => B ≤ q)) (F0 m 9 ls []) := by
  intro h x0 x1 hm H locs ls hw hl
  obtain ⟨hx, hb, hml, hown, hlk, hK, hB⟩ := id X
  unfold b_X6_readsPageAsRow_9 at hm
  refine lv_iload_n hx hb dX6_readsPageAsRow_9 rfl (lv_at hl 1 rfl) ?_
  refine lv_aload_n hx hb dX6_readsPageAsRow_10 rfl (lv_at hl 0 rfl) ?_
  obtain ⟨v1, ev1, hm⟩ := dp_ob hm
  refine dp_getr X hw cl_X6 0 (by decide) fl_X6_14 ev1 dX6_readsPageAsRow_11 ?_
  obtain ⟨v2, ev2, hm⟩ := dp_ob hm
  refine dp_cV (As := []) (rest := [.int x1]) X hw (c_X5_size l D a B h v1 ev2) vm_X5_size ml_X6_53 (by decide) rfl rfl (ck_X5_size ev2) rfl rfl hl.1 rfl (Nat.le_of_ble_eq_true rfl) dX6_readsPageAsRow_14 ⟨(Nat.zero_le _), (Nat.zero_le _)⟩ (fun H locs hw => ?_)
  refine lv_icmp_ge (tgt := 63) hx hb dX6_readsPageAsRow_17 (by decide) (fun hc => ?_) (fun hc => ?_)
  · have hm := dp_ip hc hm
    refine lv_aload_n hx hb dX6_readsPageAsRow_63 rfl (lv_at hl 0 rfl) ?_
    obtain ⟨v3, ev3, hm⟩ := dp_ob hm
    refine dp_getr X hw cl_X6 0 (by decide) fl_X6_14 ev3 dX6_readsPageAsRow_64 ?_
    obtain ⟨v4, ev4, hm⟩ := dp_ob hm
    refine dp_cV (As := []) (rest := []) X hw (c_X5_size l D a B h v3 ev4) vm_X5_size ml_X6_53 (by decide) rfl rfl (ck_X5_size ev4) rfl rfl hl.1 rfl (Nat.le_of_ble_eq_true rfl) dX6_readsPageAsRow_67 ⟨(Nat.zero_le _), (Nat.zero_le _)⟩ (fun H locs hw => ?_)
    refine lv_if_le (tgt := 77) hx hb dX6_readsPageAsRow_70 (by decide) (fun hc => ?_) (fun hc => ?_)
    · have hm := dp_ip hc hm
      refine lv_iconst (v := 0) hx hb dX6_readsPageAsRow_77 (by decide) ?_
      cases hm
      exact dp_zret X hr hw (by decide) dX6_readsPageAsRow_78
    · have hm := dp_in hc hm
      refine lv_iconst (v := 1) hx hb dX6_readsPageAsRow_73 (by decide) ?_
      refine lv_goto (tgt := 78) hx hb dX6_readsPageAsRow_74 (by decide) ?_
      cases hm
      exact dp_zret X hr hw (by decide) dX6_readsPageAsRow_78
  · have hm := dp_in hc hm
    refine lv_aload_n hx hb dX6_readsPageAsRow_20 rfl (lv_at hl 0 rfl) ?_
    obtain ⟨v5, ev5, hm⟩ := dp_ob hm
    refine dp_getr X hw cl_X6 0 (by decide) fl_X6_14 ev5 dX6_readsPageAsRow_21 ?_
    refine lv_iload_n hx hb dX6_readsPageAsRow_24 rfl (lv_at hl 1 rfl) ?_
    obtain ⟨v6, ev6, hm⟩ := dp_ob hm
    refine dp_cV (As := [.int x1]) (rest := []) X hw (c_X5_at l D a B h v5 x1 ev6) vm_X5_at ml_X6_140 (by decide) rfl rfl (ck_X5_at ev6) rfl rfl hl.1 rfl (Nat.le_of_ble_eq_true rfl) dX6_readsPageAsRow_25 ⟨(Nat.zero_le _), (Nat.zero_le _)⟩ (fun H locs hw => ?_)
    obtain ⟨v7, ev7, hm⟩ := dp_ob hm
    refine dp_cS (As := [.int v6]) (rest := []) X hw (c_X6_isFigure l D a B h v6 ev7) sm_X6_isFigure st_X6_isFigure ml_X6_142 (by decide) rfl rfl rfl hl.1 rfl (Nat.le_of_ble_eq_true rfl) dX6_readsPageAsRow_28 ⟨(Nat.zero_le _), (Nat.zero_le _)⟩ (fun H locs hw => ?_)
    refine lv_if_eq (tgt := 55) hx hb dX6_readsPageAsRow_31 (by decide) (fun hc => ?_) (fun hc => ?_)
    · have hm := dp_ip hc hm
      refine lv_iconst (v := 0) hx hb dX6_readsPageAsRow_55 (by decide) ?_
      cases hm
      exact dp_zret X hr hw (by decide) dX6_readsPageAsRow_56
    · have hm := dp_in hc hm
      refine lv_aload_n hx hb dX6_readsPageAsRow_34 rfl (lv_at hl 0 rfl) ?_
      obtain ⟨v8, ev8, hm⟩ := dp_ob hm
      refine dp_getr X hw cl_X6 3 (by decide) fl_X6_32 ev8 dX6_readsPageAsRow_35 ?_
      refine lv_aload_n hx hb dX6_readsPageAsRow_38 rfl (lv_at hl 0 rfl) ?_
      obtain ⟨v9, ev9, hm⟩ := dp_ob hm
      refine dp_getr X hw cl_X6 0 (by decide) fl_X6_14 ev9 dX6_readsPageAsRow_39 ?_
      refine lv_iload_n hx hb dX6_readsPageAsRow_42 rfl (lv_at hl 1 rfl) ?_
      obtain ⟨v10, ev10, hm⟩ := dp_ob hm
      refine dp_cV (As := [.int x1]) (rest := [.ref (B + v8)]) X hw (c_X5_at l D a B h v9 x1 ev10) vm_X5_at ml_X6_140 (by decide) rfl rfl (ck_X5_at ev10) rfl rfl hl.1 rfl (Nat.le_of_ble_eq_true rfl) dX6_readsPageAsRow_43 ⟨(Nat.zero_le _), (Nat.zero_le _)⟩ (fun H locs hw => ?_)
      refine lv_bipush (v := 48) hx hb dX6_readsPageAsRow_46 (by decide) ?_
      refine lv_isub hx hb dX6_readsPageAsRow_48 ?_
      obtain ⟨h11, v12, ev12, hm⟩ := dp_ob2 hm
      refine dp_cV (As := [.int (v10 - 48)]) (rest := []) X hw (c_X5_append l D a B h v8 (v10 - 48) ev12) vm_X5_append ml_X6_49 (by decide) rfl rfl (ck_X5_append ev12) rfl rfl hl.1 rfl (Nat.le_of_ble_eq_true rfl) dX6_readsPageAsRow_49 ⟨(Nat.zero_le _), (Nat.zero_le _)⟩ (fun H locs hw => ?_)
      refine lv_if_ne (tgt := 57) hx hb dX6_readsPageAsRow_52 (by decide) (fun hc => ?_) (fun hc => ?_)
      · have hm := dp_in hc hm
        refine lv_iinc (v := (x1 + 1)) (lv' := [(1, .int (x1 + 1)), (0, .ref (B + x0))]) hx hb dX6_readsPageAsRow_57 hl (k := 1) rfl rfl (by decide) rfl (fun ls hl => ?_)
        refine lv_goto (tgt := 9) hx hb dX6_readsPageAsRow_60 (by decide) ?_
        exact hk9 h11 x0 (x1 + 1) hm _ _ _ hw (lv_sub hl [1, 0] rfl)
      · have hm := dp_ip hc hm
        refine lv_iconst (v := 0) hx hb dX6_readsPageAsRow_55 (by decide) ?_
        cases hm
        exact dp_zret X hr hw (by decide) dX6_readsPageAsRow_56
set_option maxRecDepth 100000 in
set_option maxHeartbeats 4000000 in
theorem w_X6_readsPageAsRow_9 {p : Program} {l : Launch} {e : Env} {s : State} {m : MethodId} {args : Array Value} {below : List Frame} {meth : Method} {c : Code} {D : va_G} {a : dp_A} {B : Nat} (X : dp_X p s m meth c cX6_readsPageAsRow 2 RX6 D a B) (hr : meth.sig.returnType = (some .boolean)) {h' : dp_H} {r : Int32}  : ∀ (n : Nat) (h : dp_H) (x0 : Nat) (x1 : Int32), m_X6_readsPageAsRow_9  n h x0 x1 = some (h', r) → ∀ (H : Heap) (locs : List Loc) (ls : Array Slot), dp_w D a B h s.heap H locs → lv_has ls 2 [(0, .ref (B + x0)), (1, .int x1)] → W p l e rm_X6_readsPageAsRow s m args below meth c H locs 0 0 (MQ below (dp_Q D a B (some (.int r)) h') args s rm_X6_readsPageAsRow.cells rm_X6_readsPageAsRow.slots (fun q => B ≤ q)) (F0 m 9 ls []) := by
  intro n
  induction n with
  | zero => intro h x0 x1 hm; cases hm
  | succ n ih => intro h x0 x1 hm; exact v_X6_readsPageAsRow_9 X hr ih h x0 x1 hm
theorem ck_X6_readsPageAsRow {h : dp_H} {x0 : Nat} {h' : dp_H} {r : Int32} (hm : m_X6_readsPageAsRow h x0 = some (h', r)) : dp_is h x0 6 = true := (dp_ck_e hm).1
set_option maxRecDepth 100000 in
set_option maxHeartbeats 4000000 in
theorem c_X6_readsPageAsRow (l : Launch) (D : va_G) (a : dp_A) (B : Nat) (h : dp_H) (x0 : Nat) {h' : dp_H} {r : Int32} (hm : m_X6_readsPageAsRow h x0 = some (h', r)) : dp_M l D a B yX6_readsPageAsRow cX6_readsPageAsRow 2 (some .boolean) rm_X6_readsPageAsRow [.ref (B + x0)] h (some (.int r)) h' := by
  refine dp_M.of (own := RX6) (nm := "readsPageAsRow") (by decide) rfl rfl (Nat.le_of_ble_eq_true rfl) ?_
  intro p e s m below meth c ls X hr hin hw hl
  have hl : lv_has ls 2 [(0, .ref (B + x0))] := hl
  obtain ⟨hx, hb, hml, hown, hlk, hK, hB⟩ := id X
  unfold m_X6_readsPageAsRow at hm
  obtain ⟨hck, hm⟩ := dp_ck_e hm
  refine lv_aload_n hx hb dX6_readsPageAsRow_0 rfl (lv_at hl 0 rfl) ?_
  obtain ⟨v1, ev1, hm⟩ := dp_ob hm
  refine dp_getr X hw cl_X6 3 (by decide) fl_X6_32 ev1 dX6_readsPageAsRow_1 ?_
  obtain ⟨h2, eh2, hm⟩ := dp_ob hm
  refine dp_cVv (As := []) (rest := []) X hw (c_X5_clear l D a B h v1 eh2) vm_X5_clear ml_X6_57 (by decide) rfl rfl (ck_X5_clear eh2) rfl rfl hl.1 rfl (Nat.le_of_ble_eq_true rfl) dX6_readsPageAsRow_4 ⟨(Nat.zero_le _), (Nat.zero_le _)⟩ (fun H locs hw => ?_)
  refine lv_iconst (v := 0) hx hb dX6_readsPageAsRow_7 (by decide) ?_
  refine lv_istore_n (lv' := [(1, .int 0), (0, .ref (B + x0))]) hx hb dX6_readsPageAsRow_8 rfl hl (by decide) rfl (fun ls hl => ?_)
  exact w_X6_readsPageAsRow_9 X hr 64 h2 x0 0 hm _ _ _ hw (lv_sub hl [1, 0] rfl)
set_option maxRecDepth 100000 in
set_option maxHeartbeats 4000000 in
theorem v_X6_row_35 {p : Program} {l : Launch} {e : Env} {s : State} {m : MethodId} {args : Array Value} {below : List Frame} {meth : Method} {c : Code} {D : va_G} {a : dp_A} {B : Nat} (X : dp_X p s m meth c cX6_row 3 RX6 D a B) (hr : meth.sig.returnType = (some .int)) {h' : dp_H} {r : Int32}  : ∀ (h : dp_H) (x0 : Nat) (x1 : Int32), b_X6_row_35  h x0 x1 = some (h', r) → ∀ (H : Heap) (locs : List Loc) (ls : Array Slot), dp_w D a B h s.heap H locs → lv_has ls 3 [(0, .ref (B + x0)), (1, .int x1)] → W p l e rm_X6_row s m args below meth c H locs 0 0 (MQ below (dp_Q D a B (some (.int r)) h') args s rm_X6_row.cells rm_X6_row.slots (fun q => B ≤ q)) (F0 m 35 ls []) := by
  intro h x0 x1 hm H locs ls hw hl
  obtain ⟨hx, hb, hml, hown, hlk, hK, hB⟩ := id X
  unfold b_X6_row_35 at hm
  refine lv_aload_n hx hb dX6_row_35 rfl (lv_at hl 0 rfl) ?_
  obtain ⟨h1, v2, ev2, hm⟩ := dp_ob2 hm
  refine dp_cV (As := []) (rest := []) X hw (c_X6_readsPageAsRow l D a B h x0 ev2) vm_X6_readsPageAsRow ml_X6_118 (by decide) rfl rfl (ck_X6_readsPageAsRow ev2) rfl rfl hl.1 rfl (Nat.le_of_ble_eq_true rfl) dX6_row_36 ⟨(Nat.zero_le _), (Nat.zero_le _)⟩ (fun H locs hw => ?_)
  refine lv_if_ne (tgt := 46) hx hb dX6_row_39 (by decide) (fun hc => ?_) (fun hc => ?_)
  · have hm := dp_in hc hm
    refine lv_iload_n hx hb dX6_row_46 rfl (lv_at hl 1 rfl) ?_
    by_cases hc0 : x1 = 0
    · have hm := dp_ip hc0 hm
      refine lv_tableIn (off := 25) (tgt := 72) hx hb dX6_row_47 (by rw [hc0]; first | done | decide) (by rw [hc0]; first | done | decide) (by rw [hc0]; first | done | decide) (by decide) ?_
      refine lv_aload_n hx hb dX6_row_72 rfl (lv_at hl 0 rfl) ?_
      obtain ⟨v3, ev3, hm⟩ := dp_ob hm
      refine dp_getr X hw cl_X6 2 (by decide) fl_X6_28 ev3 dX6_row_73 ?_
      refine lv_aload_n hx hb dX6_row_76 rfl (lv_at hl 0 rfl) ?_
      obtain ⟨v4, ev4, hm⟩ := dp_ob hm
      refine dp_getr X hw cl_X6 3 (by decide) fl_X6_32 ev4 dX6_row_77 ?_
      refine lv_iconst (v := 0) hx hb dX6_row_80 (by decide) ?_
      obtain ⟨v5, ev5, hm⟩ := dp_ob hm
      refine dp_cV (As := [.ref (B + v4), .int 0]) (rest := []) X hw (c_X3_winner l D a B h1 v3 v4 0 ev5) vm_X3_winner ml_X6_121 (by decide) rfl rfl (ck_X3_winner ev5) rfl rfl hl.1 rfl (Nat.le_of_ble_eq_true rfl) dX6_row_81 ⟨(Nat.zero_le _), (Nat.zero_le _)⟩ (fun H locs hw => ?_)
      cases hm
      exact dp_iret X hr hw dX6_row_84
    have hm := dp_in hc0 hm
    by_cases hc1 : x1 = 1
    · have hm := dp_ip hc1 hm
      refine lv_tableIn (off := 38) (tgt := 85) hx hb dX6_row_47 (by rw [hc1]; first | done | decide) (by rw [hc1]; first | done | decide) (by rw [hc1]; first | done | decide) (by decide) ?_
      refine lv_aload_n hx hb dX6_row_85 rfl (lv_at hl 0 rfl) ?_
      obtain ⟨v6, ev6, hm⟩ := dp_ob hm
      refine dp_getr X hw cl_X6 2 (by decide) fl_X6_28 ev6 dX6_row_86 ?_
      refine lv_aload_n hx hb dX6_row_89 rfl (lv_at hl 0 rfl) ?_
      obtain ⟨v7, ev7, hm⟩ := dp_ob hm
      refine dp_getr X hw cl_X6 3 (by decide) fl_X6_32 ev7 dX6_row_90 ?_
      refine lv_iconst (v := 1) hx hb dX6_row_93 (by decide) ?_
      obtain ⟨v8, ev8, hm⟩ := dp_ob hm
      refine dp_cV (As := [.ref (B + v7), .int 1]) (rest := []) X hw (c_X3_reached l D a B h1 v6 v7 1 ev8) vm_X3_reached ml_X6_125 (by decide) rfl rfl (ck_X3_reached ev8) rfl rfl hl.1 rfl (Nat.le_of_ble_eq_true rfl) dX6_row_94 ⟨(Nat.zero_le _), (Nat.zero_le _)⟩ (fun H locs hw => ?_)
      cases hm
      exact dp_iret X hr hw dX6_row_97
    have hm := dp_in hc1 hm
    by_cases hc2 : x1 = 2
    · have hm := dp_ip hc2 hm
      refine lv_tableIn (off := 51) (tgt := 98) hx hb dX6_row_47 (by rw [hc2]; first | done | decide) (by rw [hc2]; first | done | decide) (by rw [hc2]; first | done | decide) (by decide) ?_
      refine lv_aload_n hx hb dX6_row_98 rfl (lv_at hl 0 rfl) ?_
      obtain ⟨v9, ev9, hm⟩ := dp_ob hm
      refine dp_getr X hw cl_X6 2 (by decide) fl_X6_28 ev9 dX6_row_99 ?_
      refine lv_aload_n hx hb dX6_row_102 rfl (lv_at hl 0 rfl) ?_
      obtain ⟨v10, ev10, hm⟩ := dp_ob hm
      refine dp_getr X hw cl_X6 3 (by decide) fl_X6_32 ev10 dX6_row_103 ?_
      refine lv_iconst (v := 2) hx hb dX6_row_106 (by decide) ?_
      obtain ⟨v11, ev11, hm⟩ := dp_ob hm
      refine dp_cV (As := [.ref (B + v10), .int 2]) (rest := []) X hw (c_X3_reached l D a B h1 v9 v10 2 ev11) vm_X3_reached ml_X6_125 (by decide) rfl rfl (ck_X3_reached ev11) rfl rfl hl.1 rfl (Nat.le_of_ble_eq_true rfl) dX6_row_107 ⟨(Nat.zero_le _), (Nat.zero_le _)⟩ (fun H locs hw => ?_)
      cases hm
      exact dp_iret X hr hw dX6_row_110
    have hm := dp_in hc2 hm
    have hd0 : Int32.toInt x1 ≠ 0 := fun q => hc0 (Int32.toInt_inj.mp (q.trans (by decide)))
    have hd1 : Int32.toInt x1 ≠ 1 := fun q => hc1 (Int32.toInt_inj.mp (q.trans (by decide)))
    have hd2 : Int32.toInt x1 ≠ 2 := fun q => hc2 (Int32.toInt_inj.mp (q.trans (by decide)))
    refine lv_tableOut (tgt := 111) hx hb dX6_row_47 (by omega) (by decide) ?_
    refine lv_aload_n hx hb dX6_row_111 rfl (lv_at hl 0 rfl) ?_
    obtain ⟨v12, ev12, hm⟩ := dp_ob hm
    refine dp_getr X hw cl_X6 4 (by decide) fl_X6_38 ev12 dX6_row_112 ?_
    refine lv_aload_n hx hb dX6_row_115 rfl (lv_at hl 0 rfl) ?_
    obtain ⟨v13, ev13, hm⟩ := dp_ob hm
    refine dp_getr X hw cl_X6 2 (by decide) fl_X6_28 ev13 dX6_row_116 ?_
    refine lv_aload_n hx hb dX6_row_119 rfl (lv_at hl 0 rfl) ?_
    obtain ⟨v14, ev14, hm⟩ := dp_ob hm
    refine dp_getr X hw cl_X6 3 (by decide) fl_X6_32 ev14 dX6_row_120 ?_
    obtain ⟨h15, eh15, hm⟩ := dp_ob hm
    refine dp_cVv (As := [.ref (B + v13), .ref (B + v14)]) (rest := []) X hw (c_X4_read l D a B h1 v12 v13 v14 eh15) vm_X4_read ml_X6_129 (by decide) rfl rfl (ck_X4_read eh15) rfl rfl hl.1 rfl (Nat.le_of_ble_eq_true rfl) dX6_row_123 ⟨(Nat.zero_le _), (Nat.zero_le _)⟩ (fun H locs hw => ?_)
    refine lv_iload_n hx hb dX6_row_126 rfl (lv_at hl 1 rfl) ?_
    by_cases hc0 : x1 = 3
    · have hm := dp_ip hc0 hm
      refine lv_tableIn (off := 25) (tgt := 152) hx hb dX6_row_127 (by rw [hc0]; first | done | decide) (by rw [hc0]; first | done | decide) (by rw [hc0]; first | done | decide) (by decide) ?_
      refine lv_aload_n hx hb dX6_row_152 rfl (lv_at hl 0 rfl) ?_
      obtain ⟨v16, ev16, hm⟩ := dp_ob hm
      refine dp_getr X hw cl_X6 4 (by decide) fl_X6_38 ev16 dX6_row_153 ?_
      obtain ⟨v17, ev17, hm⟩ := dp_ob hm
      refine dp_cV (As := []) (rest := []) X hw (c_X4_way l D a B h15 v16 ev17) vm_X4_way ml_X6_133 (by decide) rfl rfl (ck_X4_way ev17) rfl rfl hl.1 rfl (Nat.le_of_ble_eq_true rfl) dX6_row_156 ⟨(Nat.zero_le _), (Nat.zero_le _)⟩ (fun H locs hw => ?_)
      cases hm
      exact dp_iret X hr hw dX6_row_159
    have hm := dp_in hc0 hm
    by_cases hc1 : x1 = 4
    · have hm := dp_ip hc1 hm
      refine lv_tableIn (off := 33) (tgt := 160) hx hb dX6_row_127 (by rw [hc1]; first | done | decide) (by rw [hc1]; first | done | decide) (by rw [hc1]; first | done | decide) (by decide) ?_
      refine lv_aload_n hx hb dX6_row_160 rfl (lv_at hl 0 rfl) ?_
      obtain ⟨v18, ev18, hm⟩ := dp_ob hm
      refine dp_getr X hw cl_X6 4 (by decide) fl_X6_38 ev18 dX6_row_161 ?_
      obtain ⟨v19, ev19, hm⟩ := dp_ob hm
      refine dp_cV (As := []) (rest := []) X hw (c_X4_times l D a B h15 v18 ev19) vm_X4_times ml_X6_134 (by decide) rfl rfl (ck_X4_times ev19) rfl rfl hl.1 rfl (Nat.le_of_ble_eq_true rfl) dX6_row_164 ⟨(Nat.zero_le _), (Nat.zero_le _)⟩ (fun H locs hw => ?_)
      cases hm
      exact dp_iret X hr hw dX6_row_167
    have hm := dp_in hc1 hm
    by_cases hc2 : x1 = 5
    · have hm := dp_ip hc2 hm
      refine lv_tableIn (off := 41) (tgt := 168) hx hb dX6_row_127 (by rw [hc2]; first | done | decide) (by rw [hc2]; first | done | decide) (by rw [hc2]; first | done | decide) (by decide) ?_
      refine lv_aload_n hx hb dX6_row_168 rfl (lv_at hl 0 rfl) ?_
      obtain ⟨v20, ev20, hm⟩ := dp_ob hm
      refine dp_getr X hw cl_X6 4 (by decide) fl_X6_38 ev20 dX6_row_169 ?_
      obtain ⟨v21, ev21, hm⟩ := dp_ob hm
      refine dp_cV (As := []) (rest := []) X hw (c_X4_result l D a B h15 v20 ev21) vm_X4_result ml_X6_137 (by decide) rfl rfl (ck_X4_result ev21) rfl rfl hl.1 rfl (Nat.le_of_ble_eq_true rfl) dX6_row_172 ⟨(Nat.zero_le _), (Nat.zero_le _)⟩ (fun H locs hw => ?_)
      obtain ⟨v22, ev22, hm⟩ := dp_ob hm
      refine dp_cV (As := []) (rest := []) X hw (c_X5_size l D a B h15 v21 ev22) vm_X5_size ml_X6_53 (by decide) rfl rfl (ck_X5_size ev22) rfl rfl hl.1 rfl (Nat.le_of_ble_eq_true rfl) dX6_row_175 ⟨(Nat.zero_le _), (Nat.zero_le _)⟩ (fun H locs hw => ?_)
      cases hm
      exact dp_iret X hr hw dX6_row_178
    have hm := dp_in hc2 hm
    have hd0 : Int32.toInt x1 ≠ 3 := fun q => hc0 (Int32.toInt_inj.mp (q.trans (by decide)))
    have hd1 : Int32.toInt x1 ≠ 4 := fun q => hc1 (Int32.toInt_inj.mp (q.trans (by decide)))
    have hd2 : Int32.toInt x1 ≠ 5 := fun q => hc2 (Int32.toInt_inj.mp (q.trans (by decide)))
    refine lv_tableOut (tgt := 179) hx hb dX6_row_127 (by omega) (by decide) ?_
    refine lv_aload_n hx hb dX6_row_179 rfl (lv_at hl 0 rfl) ?_
    obtain ⟨v23, ev23, hm⟩ := dp_ob hm
    refine dp_getr X hw cl_X6 4 (by decide) fl_X6_38 ev23 dX6_row_180 ?_
    obtain ⟨v24, ev24, hm⟩ := dp_ob hm
    refine dp_cV (As := []) (rest := []) X hw (c_X4_result l D a B h15 v23 ev24) vm_X4_result ml_X6_137 (by decide) rfl rfl (ck_X4_result ev24) rfl rfl hl.1 rfl (Nat.le_of_ble_eq_true rfl) dX6_row_183 ⟨(Nat.zero_le _), (Nat.zero_le _)⟩ (fun H locs hw => ?_)
    refine lv_iload_n hx hb dX6_row_186 rfl (lv_at hl 1 rfl) ?_
    refine lv_bipush (v := 10) hx hb dX6_row_187 (by decide) ?_
    refine lv_isub hx hb dX6_row_189 ?_
    obtain ⟨v25, ev25, hm⟩ := dp_ob hm
    refine dp_cV (As := [.int (x1 - 10)]) (rest := []) X hw (c_X5_at l D a B h15 v24 (x1 - 10) ev25) vm_X5_at ml_X6_140 (by decide) rfl rfl (ck_X5_at ev25) rfl rfl hl.1 rfl (Nat.le_of_ble_eq_true rfl) dX6_row_190 ⟨(Nat.zero_le _), (Nat.zero_le _)⟩ (fun H locs hw => ?_)
    cases hm
    exact dp_iret X hr hw dX6_row_193
  · have hm := dp_ip hc hm
    refine lv_sipush (v := (-1003)) hx hb dX6_row_42 (by decide) ?_
    cases hm
    exact dp_iret X hr hw dX6_row_45
set_option maxRecDepth 100000 in
set_option maxHeartbeats 4000000 in
theorem v_X6_row_16 {p : Program} {l : Launch} {e : Env} {s : State} {m : MethodId} {args : Array Value} {below : List Frame} {meth : Method} {c : Code} {D : va_G} {a : dp_A} {B : Nat} (X : dp_X p s m meth c cX6_row 3 RX6 D a B) (hr : meth.sig.returnType = (some .int)) {h' : dp_H} {r : Int32}  : ∀ (h : dp_H) (x0 : Nat) (x1 : Int32), b_X6_row_16  h x0 x1 = some (h', r) → ∀ (H : Heap) (locs : List Loc) (ls : Array Slot), dp_w D a B h s.heap H locs → lv_has ls 3 [(0, .ref (B + x0)), (1, .int x1)] → W p l e rm_X6_row s m args below meth c H locs 0 0 (MQ below (dp_Q D a B (some (.int r)) h') args s rm_X6_row.cells rm_X6_row.slots (fun q => B ≤ q)) (F0 m 16 ls []) := by
  intro h x0 x1 hm H locs ls hw hl
  obtain ⟨hx, hb, hml, hown, hlk, hK, hB⟩ := id X
  unfold b_X6_row_16 at hm
  refine lv_iconst (v := 0) hx hb dX6_row_16 (by decide) ?_
  refine lv_istore_n (lv' := [(2, .int 0), (0, .ref (B + x0)), (1, .int x1)]) hx hb dX6_row_17 rfl hl (by decide) rfl (fun ls hl => ?_)
  refine lv_iload_n hx hb dX6_row_18 rfl (lv_at hl 0 rfl) ?_
  refine lv_if_ne (tgt := 35) hx hb dX6_row_19 (by decide) (fun hc => absurd (by decide) hc) (fun _ => ?_)
  refine lv_iload_n hx hb dX6_row_22 rfl (lv_at hl 2 rfl) ?_
  refine lv_if_lt (tgt := 31) hx hb dX6_row_23 (by decide) (fun hc => ?_) (fun hc => ?_)
  · have hm := dp_ip hc hm
    refine lv_sipush (v := (-1002)) hx hb dX6_row_31 (by decide) ?_
    cases hm
    exact dp_iret X hr hw dX6_row_34
  · have hm := dp_in hc hm
    refine lv_iload_n hx hb dX6_row_26 rfl (lv_at hl 2 rfl) ?_
    refine lv_iconst (v := 5) hx hb dX6_row_27 (by decide) ?_
    refine lv_icmp_le (tgt := 35) hx hb dX6_row_28 (by decide) (fun hc => ?_) (fun hc => ?_)
    · have hm := dp_ip hc hm
      exact v_X6_row_35 X hr h x0 x1 hm _ _ _ hw (lv_sub hl [1, 2] rfl)
    · have hm := dp_in hc hm
      refine lv_sipush (v := (-1002)) hx hb dX6_row_31 (by decide) ?_
      cases hm
      exact dp_iret X hr hw dX6_row_34
theorem ck_X6_row {h : dp_H} {x0 : Nat} {x1 : Int32} {h' : dp_H} {r : Int32} (hm : m_X6_row h x0 x1 = some (h', r)) : dp_is h x0 6 = true := (dp_ck_e hm).1
set_option maxRecDepth 100000 in
set_option maxHeartbeats 4000000 in
theorem c_X6_row (l : Launch) (D : va_G) (a : dp_A) (B : Nat) (h : dp_H) (x0 : Nat) (x1 : Int32) {h' : dp_H} {r : Int32} (hm : m_X6_row h x0 x1 = some (h', r)) : dp_M l D a B yX6_row cX6_row 3 (some .int) rm_X6_row [.ref (B + x0), .int x1] h (some (.int r)) h' := by
  refine dp_M.of (own := RX6) (nm := "row") (by decide) rfl rfl (Nat.le_of_ble_eq_true rfl) ?_
  intro p e s m below meth c ls X hr hin hw hl
  have hl : lv_has ls 3 [(0, .ref (B + x0)), (1, .int x1)] := hl
  obtain ⟨hx, hb, hml, hown, hlk, hK, hB⟩ := id X
  unfold m_X6_row at hm
  obtain ⟨hck, hm⟩ := dp_ck_e hm
  refine lv_iload_n hx hb dX6_row_0 rfl (lv_at hl 1 rfl) ?_
  refine lv_bipush (v := 10) hx hb dX6_row_1 (by decide) ?_
  refine lv_icmp_lt (tgt := 16) hx hb dX6_row_3 (by decide) (fun hc => ?_) (fun hc => ?_)
  · have hm := dp_ip hc hm
    exact v_X6_row_16 X hr h x0 x1 hm _ _ _ hw (lv_sub hl [0, 1] rfl)
  · have hm := dp_in hc hm
    refine lv_iload_n hx hb dX6_row_6 rfl (lv_at hl 1 rfl) ?_
    refine lv_bipush (v := 20) hx hb dX6_row_7 (by decide) ?_
    refine lv_icmp_ge (tgt := 16) hx hb dX6_row_9 (by decide) (fun hc => ?_) (fun hc => ?_)
    · have hm := dp_ip hc hm
      exact v_X6_row_16 X hr h x0 x1 hm _ _ _ hw (lv_sub hl [0, 1] rfl)
    · have hm := dp_in hc hm
      refine lv_iconst (v := 1) hx hb dX6_row_12 (by decide) ?_
      refine lv_goto (tgt := 17) hx hb dX6_row_13 (by decide) ?_
      refine lv_istore_n (lv' := [(2, .int 1), (0, .ref (B + x0)), (1, .int x1)]) hx hb dX6_row_17 rfl hl (by decide) rfl (fun ls hl => ?_)
      refine lv_iload_n hx hb dX6_row_18 rfl (lv_at hl 0 rfl) ?_
      refine lv_if_ne (tgt := 35) hx hb dX6_row_19 (by decide) (fun _ => ?_) (fun hc => absurd hc (by decide))
      exact v_X6_row_35 X hr h x0 x1 hm _ _ _ hw (lv_sub hl [1, 2] rfl)
theorem ck_X6_stage {h : dp_H} {x0 : Nat} {x1 : Int32} {x2 : Int32} {h' : dp_H} {r : Int32} (hm : m_X6_stage h x0 x1 x2 = some (h', r)) : dp_is h x0 6 = true := (dp_ck_e hm).1
set_option maxRecDepth 100000 in
set_option maxHeartbeats 4000000 in
theorem c_X6_stage (l : Launch) (D : va_G) (a : dp_A) (B : Nat) (h : dp_H) (x0 : Nat) (x1 : Int32) (x2 : Int32) {h' : dp_H} {r : Int32} (hm : m_X6_stage h x0 x1 x2 = some (h', r)) : dp_M l D a B yX6_stage cX6_stage 4 (some .int) rm_X6_stage [.ref (B + x0), .int x1, .int x2] h (some (.int r)) h' := by
  refine dp_M.of (own := RX6) (nm := "stage") (by decide) rfl rfl (Nat.le_of_ble_eq_true rfl) ?_
  intro p e s m below meth c ls X hr hin hw hl
  have hl : lv_has ls 4 [(0, .ref (B + x0)), (1, .int x1), (2, .int x2)] := hl
  obtain ⟨hx, hb, hml, hown, hlk, hK, hB⟩ := id X
  unfold m_X6_stage at hm
  obtain ⟨hck, hm⟩ := dp_ck_e hm
  refine lv_iload_n hx hb dX6_stage_0 rfl (lv_at hl 1 rfl) ?_
  refine lv_if_lt (tgt := 20) hx hb dX6_stage_1 (by decide) (fun hc => ?_) (fun hc => ?_)
  · have hm := dp_ip hc hm
    refine lv_sipush (v := (-1002)) hx hb dX6_stage_20 (by decide) ?_
    cases hm
    exact dp_iret X hr hw dX6_stage_23
  · have hm := dp_in hc hm
    refine lv_iload_n hx hb dX6_stage_4 rfl (lv_at hl 1 rfl) ?_
    refine lv_iconst (v := 3) hx hb dX6_stage_5 (by decide) ?_
    refine lv_icmp_ge (tgt := 20) hx hb dX6_stage_6 (by decide) (fun hc => ?_) (fun hc => ?_)
    · have hm := dp_ip hc hm
      refine lv_sipush (v := (-1002)) hx hb dX6_stage_20 (by decide) ?_
      cases hm
      exact dp_iret X hr hw dX6_stage_23
    · have hm := dp_in hc hm
      refine lv_iload_n hx hb dX6_stage_9 rfl (lv_at hl 2 rfl) ?_
      refine lv_iconst (v := 1) hx hb dX6_stage_10 (by decide) ?_
      refine lv_icmp_lt (tgt := 20) hx hb dX6_stage_11 (by decide) (fun hc => ?_) (fun hc => ?_)
      · have hm := dp_ip hc hm
        refine lv_sipush (v := (-1002)) hx hb dX6_stage_20 (by decide) ?_
        cases hm
        exact dp_iret X hr hw dX6_stage_23
      · have hm := dp_in hc hm
        refine lv_iload_n hx hb dX6_stage_14 rfl (lv_at hl 2 rfl) ?_
        refine lv_bipush (v := 99) hx hb dX6_stage_15 (by decide) ?_
        refine lv_icmp_le (tgt := 24) hx hb dX6_stage_17 (by decide) (fun hc => ?_) (fun hc => ?_)
        · have hm := dp_ip hc hm
          refine lv_aload_n hx hb dX6_stage_24 rfl (lv_at hl 0 rfl) ?_
          obtain ⟨v1, ev1, hm⟩ := dp_ob hm
          refine dp_getr X hw cl_X6 5 (by decide) fl_X6_45 ev1 dX6_stage_25 ?_
          refine lv_iload_n hx hb dX6_stage_28 rfl (lv_at hl 1 rfl) ?_
          obtain ⟨v2, ev2, hm⟩ := dp_ob hm
          refine dp_cV (As := [.int x1]) (rest := []) X hw (c_X0_ticksOf l D a B h v1 x1 ev2) vm_X0_ticksOf ml_X6_145 (by decide) rfl rfl (ck_X0_ticksOf ev2) rfl rfl hl.1 rfl (Nat.le_of_ble_eq_true rfl) dX6_stage_29 ⟨(Nat.zero_le _), (Nat.zero_le _)⟩ (fun H locs hw => ?_)
          refine lv_istore_n (lv' := [(3, .int v2), (0, .ref (B + x0)), (1, .int x1), (2, .int x2)]) hx hb dX6_stage_32 rfl hl (by decide) rfl (fun ls hl => ?_)
          refine lv_aload_n hx hb dX6_stage_33 rfl (lv_at hl 1 rfl) ?_
          obtain ⟨v3, ev3, hm⟩ := dp_ob hm
          refine dp_getr X hw cl_X6 5 (by decide) fl_X6_45 ev3 dX6_stage_34 ?_
          refine lv_iload_n hx hb dX6_stage_37 rfl (lv_at hl 2 rfl) ?_
          refine lv_iload_n hx hb dX6_stage_38 rfl (lv_at hl 3 rfl) ?_
          obtain ⟨h4, eh4, hm⟩ := dp_ob hm
          refine dp_cVv (As := [.int x1, .int x2]) (rest := []) X hw (c_X0_setTicks l D a B h v3 x1 x2 eh4) vm_X0_setTicks ml_X6_148 (by decide) rfl rfl (ck_X0_setTicks eh4) rfl rfl hl.1 rfl (Nat.le_of_ble_eq_true rfl) dX6_stage_39 ⟨(Nat.zero_le _), (Nat.zero_le _)⟩ (fun H locs hw => ?_)
          refine lv_iload_n hx hb dX6_stage_42 rfl (lv_at hl 0 rfl) ?_
          cases hm
          exact dp_iret X hr hw dX6_stage_43
        · have hm := dp_in hc hm
          refine lv_sipush (v := (-1002)) hx hb dX6_stage_20 (by decide) ?_
          cases hm
          exact dp_iret X hr hw dX6_stage_23
theorem ck_X6_lift {h : dp_H} {x0 : Nat} {h' : dp_H} {r : Int32} (hm : m_X6_lift h x0 = some (h', r)) : dp_is h x0 6 = true := (dp_ck_e hm).1
set_option maxRecDepth 100000 in
set_option maxHeartbeats 4000000 in
theorem c_X6_lift (l : Launch) (D : va_G) (a : dp_A) (B : Nat) (h : dp_H) (x0 : Nat) {h' : dp_H} {r : Int32} (hm : m_X6_lift h x0 = some (h', r)) : dp_M l D a B yX6_lift cX6_lift 1 (some .int) rm_X6_lift [.ref (B + x0)] h (some (.int r)) h' := by
  refine dp_M.of (own := RX6) (nm := "lift") (by decide) rfl rfl (Nat.le_of_ble_eq_true rfl) ?_
  intro p e s m below meth c ls X hr hin hw hl
  have hl : lv_has ls 1 [(0, .ref (B + x0))] := hl
  obtain ⟨hx, hb, hml, hown, hlk, hK, hB⟩ := id X
  unfold m_X6_lift at hm
  obtain ⟨hck, hm⟩ := dp_ck_e hm
  refine lv_aload_n hx hb dX6_lift_0 rfl (lv_at hl 0 rfl) ?_
  obtain ⟨v1, ev1, hm⟩ := dp_ob hm
  refine dp_getr X hw cl_X6 5 (by decide) fl_X6_45 ev1 dX6_lift_1 ?_
  obtain ⟨v2, ev2, hm⟩ := dp_ob hm
  refine dp_cV (As := []) (rest := []) X hw (c_X0_isUp l D a B h v1 ev2) vm_X0_isUp ml_X6_68 (by decide) rfl rfl (ck_X0_isUp ev2) rfl rfl hl.1 rfl (Nat.le_of_ble_eq_true rfl) dX6_lift_4 ⟨(Nat.zero_le _), (Nat.zero_le _)⟩ (fun H locs hw => ?_)
  refine lv_if_eq (tgt := 14) hx hb dX6_lift_7 (by decide) (fun hc => ?_) (fun hc => ?_)
  · have hm := dp_ip hc hm
    refine lv_aload_n hx hb dX6_lift_14 rfl (lv_at hl 0 rfl) ?_
    obtain ⟨v3, ev3, hm⟩ := dp_ob hm
    refine dp_getr X hw cl_X6 5 (by decide) fl_X6_45 ev3 dX6_lift_15 ?_
    refine lv_aload_n hx hb dX6_lift_18 rfl (lv_at hl 0 rfl) ?_
    obtain ⟨v4, ev4, hm⟩ := dp_ob hm
    refine dp_getr X hw cl_X6 2 (by decide) fl_X6_28 ev4 dX6_lift_19 ?_
    obtain ⟨h5, eh5, hm⟩ := dp_ob hm
    refine dp_cVv (As := [.ref (B + v4)]) (rest := []) X hw (c_X0_putUp l D a B h v3 v4 eh5) vm_X0_putUp ml_X6_152 (by decide) rfl rfl (ck_X0_putUp eh5) rfl rfl hl.1 rfl (Nat.le_of_ble_eq_true rfl) dX6_lift_22 ⟨(Nat.zero_le _), (Nat.zero_le _)⟩ (fun H locs hw => ?_)
    refine lv_aload_n hx hb dX6_lift_25 rfl (lv_at hl 0 rfl) ?_
    obtain ⟨v6, ev6, hm⟩ := dp_ob hm
    refine dp_getr X hw cl_X6 5 (by decide) fl_X6_45 ev6 dX6_lift_26 ?_
    obtain ⟨v7, ev7, hm⟩ := dp_ob hm
    refine dp_cV (As := []) (rest := []) X hw (c_X0_ticksLeft l D a B h5 v6 ev7) vm_X0_ticksLeft ml_X6_156 (by decide) rfl rfl (ck_X0_ticksLeft ev7) rfl rfl hl.1 rfl (Nat.le_of_ble_eq_true rfl) dX6_lift_29 ⟨(Nat.zero_le _), (Nat.zero_le _)⟩ (fun H locs hw => ?_)
    cases hm
    exact dp_iret X hr hw dX6_lift_32
  · have hm := dp_in hc hm
    refine lv_sipush (v := (-1003)) hx hb dX6_lift_10 (by decide) ?_
    cases hm
    exact dp_iret X hr hw dX6_lift_13
theorem ck_X6_hang {h : dp_H} {x0 : Nat} {h' : dp_H} {r : Int32} (hm : m_X6_hang h x0 = some (h', r)) : dp_is h x0 6 = true := (dp_ck_e hm).1
set_option maxRecDepth 100000 in
set_option maxHeartbeats 4000000 in
theorem c_X6_hang (l : Launch) (D : va_G) (a : dp_A) (B : Nat) (h : dp_H) (x0 : Nat) {h' : dp_H} {r : Int32} (hm : m_X6_hang h x0 = some (h', r)) : dp_M l D a B yX6_hang cX6_hang 2 (some .int) rm_X6_hang [.ref (B + x0)] h (some (.int r)) h' := by
  refine dp_M.of (own := RX6) (nm := "hang") (by decide) rfl rfl (Nat.le_of_ble_eq_true rfl) ?_
  intro p e s m below meth c ls X hr hin hw hl
  have hl : lv_has ls 2 [(0, .ref (B + x0))] := hl
  obtain ⟨hx, hb, hml, hown, hlk, hK, hB⟩ := id X
  unfold m_X6_hang at hm
  obtain ⟨hck, hm⟩ := dp_ck_e hm
  refine lv_aload_n hx hb dX6_hang_0 rfl (lv_at hl 0 rfl) ?_
  obtain ⟨v1, ev1, hm⟩ := dp_ob hm
  refine dp_getr X hw cl_X6 5 (by decide) fl_X6_45 ev1 dX6_hang_1 ?_
  obtain ⟨v2, ev2, hm⟩ := dp_ob hm
  refine dp_cV (As := []) (rest := []) X hw (c_X0_isUp l D a B h v1 ev2) vm_X0_isUp ml_X6_68 (by decide) rfl rfl (ck_X0_isUp ev2) rfl rfl hl.1 rfl (Nat.le_of_ble_eq_true rfl) dX6_hang_4 ⟨(Nat.zero_le _), (Nat.zero_le _)⟩ (fun H locs hw => ?_)
  refine lv_if_ne (tgt := 14) hx hb dX6_hang_7 (by decide) (fun hc => ?_) (fun hc => ?_)
  · have hm := dp_in hc hm
    refine lv_aload_n hx hb dX6_hang_14 rfl (lv_at hl 0 rfl) ?_
    obtain ⟨v3, ev3, hm⟩ := dp_ob hm
    refine dp_getr X hw cl_X6 5 (by decide) fl_X6_45 ev3 dX6_hang_15 ?_
    obtain ⟨v4, ev4, hm⟩ := dp_ob hm
    refine dp_cV (As := []) (rest := []) X hw (c_X0_dialled l D a B h v3 ev4) vm_X0_dialled ml_X6_159 (by decide) rfl rfl (ck_X0_dialled ev4) rfl rfl hl.1 rfl (Nat.le_of_ble_eq_true rfl) dX6_hang_18 ⟨(Nat.zero_le _), (Nat.zero_le _)⟩ (fun H locs hw => ?_)
    obtain ⟨v5, ev5, hm⟩ := dp_ob hm
    refine dp_cV (As := []) (rest := []) X hw (c_X5_size l D a B h v4 ev5) vm_X5_size ml_X6_53 (by decide) rfl rfl (ck_X5_size ev5) rfl rfl hl.1 rfl (Nat.le_of_ble_eq_true rfl) dX6_hang_21 ⟨(Nat.zero_le _), (Nat.zero_le _)⟩ (fun H locs hw => ?_)
    refine lv_istore_n (lv' := [(1, .int v5), (0, .ref (B + x0))]) hx hb dX6_hang_24 rfl hl (by decide) rfl (fun ls hl => ?_)
    refine lv_aload_n hx hb dX6_hang_25 rfl (lv_at hl 1 rfl) ?_
    obtain ⟨v6, ev6, hm⟩ := dp_ob hm
    refine dp_getr X hw cl_X6 5 (by decide) fl_X6_45 ev6 dX6_hang_26 ?_
    obtain ⟨h7, eh7, hm⟩ := dp_ob hm
    refine dp_cVv (As := []) (rest := []) X hw (c_X0_putDown l D a B h v6 eh7) vm_X0_putDown ml_X6_162 (by decide) rfl rfl (ck_X0_putDown eh7) rfl rfl hl.1 rfl (Nat.le_of_ble_eq_true rfl) dX6_hang_29 ⟨(Nat.zero_le _), (Nat.zero_le _)⟩ (fun H locs hw => ?_)
    refine lv_iload_n hx hb dX6_hang_32 rfl (lv_at hl 0 rfl) ?_
    cases hm
    exact dp_iret X hr hw dX6_hang_33
  · have hm := dp_ip hc hm
    refine lv_sipush (v := (-1003)) hx hb dX6_hang_10 (by decide) ?_
    cases hm
    exact dp_iret X hr hw dX6_hang_13
theorem ck_X6_press {h : dp_H} {x0 : Nat} {x1 : Int32} {h' : dp_H} {r : Int32} (hm : m_X6_press h x0 x1 = some (h', r)) : dp_is h x0 6 = true := (dp_ck_e hm).1
set_option maxRecDepth 100000 in
set_option maxHeartbeats 4000000 in
theorem c_X6_press (l : Launch) (D : va_G) (a : dp_A) (B : Nat) (h : dp_H) (x0 : Nat) (x1 : Int32) {h' : dp_H} {r : Int32} (hm : m_X6_press h x0 x1 = some (h', r)) : dp_M l D a B yX6_press cX6_press 2 (some .int) rm_X6_press [.ref (B + x0), .int x1] h (some (.int r)) h' := by
  refine dp_M.of (own := RX6) (nm := "press") (by decide) rfl rfl (Nat.le_of_ble_eq_true rfl) ?_
  intro p e s m below meth c ls X hr hin hw hl
  have hl : lv_has ls 2 [(0, .ref (B + x0)), (1, .int x1)] := hl
  obtain ⟨hx, hb, hml, hown, hlk, hK, hB⟩ := id X
  unfold m_X6_press at hm
  obtain ⟨hck, hm⟩ := dp_ck_e hm
  refine lv_iload_n hx hb dX6_press_0 rfl (lv_at hl 1 rfl) ?_
  refine lv_if_lt (tgt := 10) hx hb dX6_press_1 (by decide) (fun hc => ?_) (fun hc => ?_)
  · have hm := dp_ip hc hm
    refine lv_sipush (v := (-1002)) hx hb dX6_press_10 (by decide) ?_
    cases hm
    exact dp_iret X hr hw dX6_press_13
  · have hm := dp_in hc hm
    refine lv_iload_n hx hb dX6_press_4 rfl (lv_at hl 1 rfl) ?_
    refine lv_bipush (v := 9) hx hb dX6_press_5 (by decide) ?_
    refine lv_icmp_le (tgt := 14) hx hb dX6_press_7 (by decide) (fun hc => ?_) (fun hc => ?_)
    · have hm := dp_ip hc hm
      refine lv_aload_n hx hb dX6_press_14 rfl (lv_at hl 0 rfl) ?_
      obtain ⟨v1, ev1, hm⟩ := dp_ob hm
      refine dp_getr X hw cl_X6 5 (by decide) fl_X6_45 ev1 dX6_press_15 ?_
      obtain ⟨v2, ev2, hm⟩ := dp_ob hm
      refine dp_cV (As := []) (rest := []) X hw (c_X0_isWaiting l D a B h v1 ev2) vm_X0_isWaiting ml_X6_165 (by decide) rfl rfl (ck_X0_isWaiting ev2) rfl rfl hl.1 rfl (Nat.le_of_ble_eq_true rfl) dX6_press_18 ⟨(Nat.zero_le _), (Nat.zero_le _)⟩ (fun H locs hw => ?_)
      refine lv_if_ne (tgt := 28) hx hb dX6_press_21 (by decide) (fun hc => ?_) (fun hc => ?_)
      · have hm := dp_in hc hm
        refine lv_aload_n hx hb dX6_press_28 rfl (lv_at hl 0 rfl) ?_
        obtain ⟨v3, ev3, hm⟩ := dp_ob hm
        refine dp_getr X hw cl_X6 5 (by decide) fl_X6_45 ev3 dX6_press_29 ?_
        refine lv_iload_n hx hb dX6_press_32 rfl (lv_at hl 1 rfl) ?_
        refine lv_aload_n hx hb dX6_press_33 rfl (lv_at hl 0 rfl) ?_
        obtain ⟨v4, ev4, hm⟩ := dp_ob hm
        refine dp_getr X hw cl_X6 2 (by decide) fl_X6_28 ev4 dX6_press_34 ?_
        obtain ⟨h5, eh5, hm⟩ := dp_ob hm
        refine dp_cVv (As := [.int x1, .ref (B + v4)]) (rest := []) X hw (c_X0_take l D a B h v3 x1 v4 eh5) vm_X0_take ml_X6_168 (by decide) rfl rfl (ck_X0_take eh5) rfl rfl hl.1 rfl (Nat.le_of_ble_eq_true rfl) dX6_press_37 ⟨(Nat.zero_le _), (Nat.zero_le _)⟩ (fun H locs hw => ?_)
        refine lv_aload_n hx hb dX6_press_40 rfl (lv_at hl 0 rfl) ?_
        obtain ⟨v6, ev6, hm⟩ := dp_ob hm
        refine dp_getr X hw cl_X6 5 (by decide) fl_X6_45 ev6 dX6_press_41 ?_
        obtain ⟨v7, ev7, hm⟩ := dp_ob hm
        refine dp_cV (As := []) (rest := []) X hw (c_X0_state l D a B h5 v6 ev7) vm_X0_state ml_X6_172 (by decide) rfl rfl (ck_X0_state ev7) rfl rfl hl.1 rfl (Nat.le_of_ble_eq_true rfl) dX6_press_44 ⟨(Nat.zero_le _), (Nat.zero_le _)⟩ (fun H locs hw => ?_)
        cases hm
        exact dp_iret X hr hw dX6_press_47
      · have hm := dp_ip hc hm
        refine lv_sipush (v := (-1003)) hx hb dX6_press_24 (by decide) ?_
        cases hm
        exact dp_iret X hr hw dX6_press_27
    · have hm := dp_in hc hm
      refine lv_sipush (v := (-1002)) hx hb dX6_press_10 (by decide) ?_
      cases hm
      exact dp_iret X hr hw dX6_press_13
theorem ck_X6_pass {h : dp_H} {x0 : Nat} {x1 : Int32} {h' : dp_H} {r : Int32} (hm : m_X6_pass h x0 x1 = some (h', r)) : dp_is h x0 6 = true := (dp_ck_e hm).1
set_option maxRecDepth 100000 in
set_option maxHeartbeats 4000000 in
theorem c_X6_pass (l : Launch) (D : va_G) (a : dp_A) (B : Nat) (h : dp_H) (x0 : Nat) (x1 : Int32) {h' : dp_H} {r : Int32} (hm : m_X6_pass h x0 x1 = some (h', r)) : dp_M l D a B yX6_pass cX6_pass 2 (some .int) rm_X6_pass [.ref (B + x0), .int x1] h (some (.int r)) h' := by
  refine dp_M.of (own := RX6) (nm := "pass") (by decide) rfl rfl (Nat.le_of_ble_eq_true rfl) ?_
  intro p e s m below meth c ls X hr hin hw hl
  have hl : lv_has ls 2 [(0, .ref (B + x0)), (1, .int x1)] := hl
  obtain ⟨hx, hb, hml, hown, hlk, hK, hB⟩ := id X
  unfold m_X6_pass at hm
  obtain ⟨hck, hm⟩ := dp_ck_e hm
  refine lv_iload_n hx hb dX6_pass_0 rfl (lv_at hl 1 rfl) ?_
  refine lv_iconst (v := 1) hx hb dX6_pass_1 (by decide) ?_
  refine lv_icmp_lt (tgt := 11) hx hb dX6_pass_2 (by decide) (fun hc => ?_) (fun hc => ?_)
  · have hm := dp_ip hc hm
    refine lv_sipush (v := (-1002)) hx hb dX6_pass_11 (by decide) ?_
    cases hm
    exact dp_iret X hr hw dX6_pass_14
  · have hm := dp_in hc hm
    refine lv_iload_n hx hb dX6_pass_5 rfl (lv_at hl 1 rfl) ?_
    refine lv_bipush (v := 99) hx hb dX6_pass_6 (by decide) ?_
    refine lv_icmp_le (tgt := 15) hx hb dX6_pass_8 (by decide) (fun hc => ?_) (fun hc => ?_)
    · have hm := dp_ip hc hm
      refine lv_aload_n hx hb dX6_pass_15 rfl (lv_at hl 0 rfl) ?_
      obtain ⟨v1, ev1, hm⟩ := dp_ob hm
      refine dp_getr X hw cl_X6 5 (by decide) fl_X6_45 ev1 dX6_pass_16 ?_
      obtain ⟨v2, ev2, hm⟩ := dp_ob hm
      refine dp_cV (As := []) (rest := []) X hw (c_X0_isWaiting l D a B h v1 ev2) vm_X0_isWaiting ml_X6_165 (by decide) rfl rfl (ck_X0_isWaiting ev2) rfl rfl hl.1 rfl (Nat.le_of_ble_eq_true rfl) dX6_pass_19 ⟨(Nat.zero_le _), (Nat.zero_le _)⟩ (fun H locs hw => ?_)
      refine lv_if_ne (tgt := 29) hx hb dX6_pass_22 (by decide) (fun hc => ?_) (fun hc => ?_)
      · have hm := dp_in hc hm
        refine lv_aload_n hx hb dX6_pass_29 rfl (lv_at hl 0 rfl) ?_
        obtain ⟨v3, ev3, hm⟩ := dp_ob hm
        refine dp_getr X hw cl_X6 5 (by decide) fl_X6_45 ev3 dX6_pass_30 ?_
        refine lv_iload_n hx hb dX6_pass_33 rfl (lv_at hl 1 rfl) ?_
        refine lv_aload_n hx hb dX6_pass_34 rfl (lv_at hl 0 rfl) ?_
        obtain ⟨v4, ev4, hm⟩ := dp_ob hm
        refine dp_getr X hw cl_X6 2 (by decide) fl_X6_28 ev4 dX6_pass_35 ?_
        obtain ⟨h5, eh5, hm⟩ := dp_ob hm
        refine dp_cVv (As := [.int x1, .ref (B + v4)]) (rest := []) X hw (c_X0_letTicksGo l D a B h v3 x1 v4 eh5) vm_X0_letTicksGo ml_X6_175 (by decide) rfl rfl (ck_X0_letTicksGo eh5) rfl rfl hl.1 rfl (Nat.le_of_ble_eq_true rfl) dX6_pass_38 ⟨(Nat.zero_le _), (Nat.zero_le _)⟩ (fun H locs hw => ?_)
        refine lv_aload_n hx hb dX6_pass_41 rfl (lv_at hl 0 rfl) ?_
        obtain ⟨v6, ev6, hm⟩ := dp_ob hm
        refine dp_getr X hw cl_X6 5 (by decide) fl_X6_45 ev6 dX6_pass_42 ?_
        obtain ⟨v7, ev7, hm⟩ := dp_ob hm
        refine dp_cV (As := []) (rest := []) X hw (c_X0_state l D a B h5 v6 ev7) vm_X0_state ml_X6_172 (by decide) rfl rfl (ck_X0_state ev7) rfl rfl hl.1 rfl (Nat.le_of_ble_eq_true rfl) dX6_pass_45 ⟨(Nat.zero_le _), (Nat.zero_le _)⟩ (fun H locs hw => ?_)
        cases hm
        exact dp_iret X hr hw dX6_pass_48
      · have hm := dp_ip hc hm
        refine lv_sipush (v := (-1003)) hx hb dX6_pass_25 (by decide) ?_
        cases hm
        exact dp_iret X hr hw dX6_pass_28
    · have hm := dp_in hc hm
      refine lv_sipush (v := (-1002)) hx hb dX6_pass_11 (by decide) ?_
      cases hm
      exact dp_iret X hr hw dX6_pass_14
theorem ck_X6_end {h : dp_H} {x0 : Nat} {h' : dp_H} {r : Int32} (hm : m_X6_end h x0 = some (h', r)) : dp_is h x0 6 = true := (dp_ck_e hm).1
set_option maxRecDepth 100000 in
set_option maxHeartbeats 4000000 in
theorem c_X6_end (l : Launch) (D : va_G) (a : dp_A) (B : Nat) (h : dp_H) (x0 : Nat) {h' : dp_H} {r : Int32} (hm : m_X6_end h x0 = some (h', r)) : dp_M l D a B yX6_end cX6_end 1 (some .int) rm_X6_end [.ref (B + x0)] h (some (.int r)) h' := by
  refine dp_M.of (own := RX6) (nm := "end") (by decide) rfl rfl (Nat.le_of_ble_eq_true rfl) ?_
  intro p e s m below meth c ls X hr hin hw hl
  have hl : lv_has ls 1 [(0, .ref (B + x0))] := hl
  obtain ⟨hx, hb, hml, hown, hlk, hK, hB⟩ := id X
  unfold m_X6_end at hm
  obtain ⟨hck, hm⟩ := dp_ck_e hm
  refine lv_aload_n hx hb dX6_end_0 rfl (lv_at hl 0 rfl) ?_
  obtain ⟨v1, ev1, hm⟩ := dp_ob hm
  refine dp_getr X hw cl_X6 5 (by decide) fl_X6_45 ev1 dX6_end_1 ?_
  obtain ⟨v2, ev2, hm⟩ := dp_ob hm
  refine dp_cV (As := []) (rest := []) X hw (c_X0_isWaiting l D a B h v1 ev2) vm_X0_isWaiting ml_X6_165 (by decide) rfl rfl (ck_X0_isWaiting ev2) rfl rfl hl.1 rfl (Nat.le_of_ble_eq_true rfl) dX6_end_4 ⟨(Nat.zero_le _), (Nat.zero_le _)⟩ (fun H locs hw => ?_)
  refine lv_if_ne (tgt := 14) hx hb dX6_end_7 (by decide) (fun hc => ?_) (fun hc => ?_)
  · have hm := dp_in hc hm
    refine lv_aload_n hx hb dX6_end_14 rfl (lv_at hl 0 rfl) ?_
    obtain ⟨v3, ev3, hm⟩ := dp_ob hm
    refine dp_getr X hw cl_X6 5 (by decide) fl_X6_45 ev3 dX6_end_15 ?_
    refine lv_iconst (v := 3) hx hb dX6_end_18 (by decide) ?_
    refine lv_aload_n hx hb dX6_end_19 rfl (lv_at hl 0 rfl) ?_
    obtain ⟨v4, ev4, hm⟩ := dp_ob hm
    refine dp_getr X hw cl_X6 2 (by decide) fl_X6_28 ev4 dX6_end_20 ?_
    obtain ⟨h5, eh5, hm⟩ := dp_ob hm
    refine dp_cVv (As := [.int 3, .ref (B + v4)]) (rest := []) X hw (c_X0_settle l D a B h v3 3 v4 eh5) vm_X0_settle ml_X6_178 (by decide) rfl rfl (ck_X0_settle eh5) rfl rfl hl.1 rfl (Nat.le_of_ble_eq_true rfl) dX6_end_23 ⟨(Nat.zero_le _), (Nat.zero_le _)⟩ (fun H locs hw => ?_)
    refine lv_aload_n hx hb dX6_end_26 rfl (lv_at hl 0 rfl) ?_
    obtain ⟨v6, ev6, hm⟩ := dp_ob hm
    refine dp_getr X hw cl_X6 5 (by decide) fl_X6_45 ev6 dX6_end_27 ?_
    obtain ⟨v7, ev7, hm⟩ := dp_ob hm
    refine dp_cV (As := []) (rest := []) X hw (c_X0_state l D a B h5 v6 ev7) vm_X0_state ml_X6_172 (by decide) rfl rfl (ck_X0_state ev7) rfl rfl hl.1 rfl (Nat.le_of_ble_eq_true rfl) dX6_end_30 ⟨(Nat.zero_le _), (Nat.zero_le _)⟩ (fun H locs hw => ?_)
    cases hm
    exact dp_iret X hr hw dX6_end_33
  · have hm := dp_ip hc hm
    refine lv_sipush (v := (-1003)) hx hb dX6_end_10 (by decide) ?_
    cases hm
    exact dp_iret X hr hw dX6_end_13
theorem ck_X6_wayOfTheLine {h : dp_H} {x0 : Nat} {h' : dp_H} {r : Int32} (hm : m_X6_wayOfTheLine h x0 = some (h', r)) : dp_is h x0 6 = true := (dp_ck_e hm).1
set_option maxRecDepth 100000 in
set_option maxHeartbeats 4000000 in
theorem c_X6_wayOfTheLine (l : Launch) (D : va_G) (a : dp_A) (B : Nat) (h : dp_H) (x0 : Nat) {h' : dp_H} {r : Int32} (hm : m_X6_wayOfTheLine h x0 = some (h', r)) : dp_M l D a B yX6_wayOfTheLine cX6_wayOfTheLine 1 (some .int) rm_X6_wayOfTheLine [.ref (B + x0)] h (some (.int r)) h' := by
  refine dp_M.of (own := RX6) (nm := "wayOfTheLine") (by decide) rfl rfl (Nat.le_of_ble_eq_true rfl) ?_
  intro p e s m below meth c ls X hr hin hw hl
  have hl : lv_has ls 1 [(0, .ref (B + x0))] := hl
  obtain ⟨hx, hb, hml, hown, hlk, hK, hB⟩ := id X
  unfold m_X6_wayOfTheLine at hm
  obtain ⟨hck, hm⟩ := dp_ck_e hm
  refine lv_aload_n hx hb dX6_wayOfTheLine_0 rfl (lv_at hl 0 rfl) ?_
  obtain ⟨v1, ev1, hm⟩ := dp_ob hm
  refine dp_getr X hw cl_X6 5 (by decide) fl_X6_45 ev1 dX6_wayOfTheLine_1 ?_
  obtain ⟨v2, ev2, hm⟩ := dp_ob hm
  refine dp_cV (As := []) (rest := []) X hw (c_X0_state l D a B h v1 ev2) vm_X0_state ml_X6_172 (by decide) rfl rfl (ck_X0_state ev2) rfl rfl hl.1 rfl (Nat.le_of_ble_eq_true rfl) dX6_wayOfTheLine_4 ⟨(Nat.zero_le _), (Nat.zero_le _)⟩ (fun H locs hw => ?_)
  refine lv_iconst (v := 2) hx hb dX6_wayOfTheLine_7 (by decide) ?_
  refine lv_icmp_eq (tgt := 13) hx hb dX6_wayOfTheLine_8 (by decide) (fun hc => ?_) (fun hc => ?_)
  · have hm := dp_ip hc hm
    refine lv_aload_n hx hb dX6_wayOfTheLine_13 rfl (lv_at hl 0 rfl) ?_
    obtain ⟨v3, ev3, hm⟩ := dp_ob hm
    refine dp_getr X hw cl_X6 5 (by decide) fl_X6_45 ev3 dX6_wayOfTheLine_14 ?_
    obtain ⟨v4, ev4, hm⟩ := dp_ob hm
    refine dp_cV (As := []) (rest := []) X hw (c_X0_ended l D a B h v3 ev4) vm_X0_ended ml_X6_190 (by decide) rfl rfl (ck_X0_ended ev4) rfl rfl hl.1 rfl (Nat.le_of_ble_eq_true rfl) dX6_wayOfTheLine_17 ⟨(Nat.zero_le _), (Nat.zero_le _)⟩ (fun H locs hw => ?_)
    refine lv_iconst (v := 4) hx hb dX6_wayOfTheLine_20 (by decide) ?_
    refine lv_icmp_ne (tgt := 27) hx hb dX6_wayOfTheLine_21 (by decide) (fun hc => ?_) (fun hc => ?_)
    · have hm := dp_in hc hm
      refine lv_aload_n hx hb dX6_wayOfTheLine_27 rfl (lv_at hl 0 rfl) ?_
      obtain ⟨v5, ev5, hm⟩ := dp_ob hm
      refine dp_getr X hw cl_X6 4 (by decide) fl_X6_38 ev5 dX6_wayOfTheLine_28 ?_
      refine lv_aload_n hx hb dX6_wayOfTheLine_31 rfl (lv_at hl 0 rfl) ?_
      obtain ⟨v6, ev6, hm⟩ := dp_ob hm
      refine dp_getr X hw cl_X6 2 (by decide) fl_X6_28 ev6 dX6_wayOfTheLine_32 ?_
      refine lv_aload_n hx hb dX6_wayOfTheLine_35 rfl (lv_at hl 0 rfl) ?_
      obtain ⟨v7, ev7, hm⟩ := dp_ob hm
      refine dp_getr X hw cl_X6 5 (by decide) fl_X6_45 ev7 dX6_wayOfTheLine_36 ?_
      obtain ⟨v8, ev8, hm⟩ := dp_ob hm
      refine dp_cV (As := []) (rest := [.ref (B + v6), .ref (B + v5)]) X hw (c_X0_dialled l D a B h v7 ev8) vm_X0_dialled ml_X6_159 (by decide) rfl rfl (ck_X0_dialled ev8) rfl rfl hl.1 rfl (Nat.le_of_ble_eq_true rfl) dX6_wayOfTheLine_39 ⟨(Nat.zero_le _), (Nat.zero_le _)⟩ (fun H locs hw => ?_)
      obtain ⟨h9, eh9, hm⟩ := dp_ob hm
      refine dp_cVv (As := [.ref (B + v6), .ref (B + v8)]) (rest := []) X hw (c_X4_read l D a B h v5 v6 v8 eh9) vm_X4_read ml_X6_129 (by decide) rfl rfl (ck_X4_read eh9) rfl rfl hl.1 rfl (Nat.le_of_ble_eq_true rfl) dX6_wayOfTheLine_42 ⟨(Nat.zero_le _), (Nat.zero_le _)⟩ (fun H locs hw => ?_)
      refine lv_aload_n hx hb dX6_wayOfTheLine_45 rfl (lv_at hl 0 rfl) ?_
      obtain ⟨v10, ev10, hm⟩ := dp_ob hm
      refine dp_getr X hw cl_X6 4 (by decide) fl_X6_38 ev10 dX6_wayOfTheLine_46 ?_
      obtain ⟨v11, ev11, hm⟩ := dp_ob hm
      refine dp_cV (As := []) (rest := []) X hw (c_X4_way l D a B h9 v10 ev11) vm_X4_way ml_X6_133 (by decide) rfl rfl (ck_X4_way ev11) rfl rfl hl.1 rfl (Nat.le_of_ble_eq_true rfl) dX6_wayOfTheLine_49 ⟨(Nat.zero_le _), (Nat.zero_le _)⟩ (fun H locs hw => ?_)
      cases hm
      exact dp_iret X hr hw dX6_wayOfTheLine_52
    · have hm := dp_ip hc hm
      refine lv_bipush (v := 9) hx hb dX6_wayOfTheLine_24 (by decide) ?_
      cases hm
      exact dp_iret X hr hw dX6_wayOfTheLine_26
  · have hm := dp_in hc hm
    refine lv_iconst (v := (-1)) hx hb dX6_wayOfTheLine_11 (by decide) ?_
    cases hm
    exact dp_iret X hr hw dX6_wayOfTheLine_12
set_option maxRecDepth 100000 in
set_option maxHeartbeats 4000000 in
theorem v_X6_line_27 {p : Program} {l : Launch} {e : Env} {s : State} {m : MethodId} {args : Array Value} {below : List Frame} {meth : Method} {c : Code} {D : va_G} {a : dp_A} {B : Nat} (X : dp_X p s m meth c cX6_line 2 RX6 D a B) (hr : meth.sig.returnType = (some .int)) {h' : dp_H} {r : Int32}  : ∀ (h : dp_H) (x0 : Nat) (x1 : Int32), b_X6_line_27  h x0 x1 = some (h', r) → ∀ (H : Heap) (locs : List Loc) (ls : Array Slot), dp_w D a B h s.heap H locs → lv_has ls 2 [(0, .ref (B + x0)), (1, .int x1)] → W p l e rm_X6_line s m args below meth c H locs 0 0 (MQ below (dp_Q D a B (some (.int r)) h') args s rm_X6_line.cells rm_X6_line.slots (fun q => B ≤ q)) (F0 m 27 ls []) := by
  intro h x0 x1 hm H locs ls hw hl
  obtain ⟨hx, hb, hml, hown, hlk, hK, hB⟩ := id X
  unfold b_X6_line_27 at hm
  refine lv_iload_n hx hb dX6_line_27 rfl (lv_at hl 1 rfl) ?_
  by_cases hc0 : x1 = 0
  · have hm := dp_ip hc0 hm
    refine lv_tableIn (off := 48) (tgt := 76) hx hb dX6_line_28 (by rw [hc0]; first | done | decide) (by rw [hc0]; first | done | decide) (by rw [hc0]; first | done | decide) (by decide) ?_
    refine lv_aload_n hx hb dX6_line_76 rfl (lv_at hl 0 rfl) ?_
    obtain ⟨v1, ev1, hm⟩ := dp_ob hm
    refine dp_getr X hw cl_X6 5 (by decide) fl_X6_45 ev1 dX6_line_77 ?_
    obtain ⟨v2, ev2, hm⟩ := dp_ob hm
    refine dp_cV (As := []) (rest := []) X hw (c_X0_state l D a B h v1 ev2) vm_X0_state ml_X6_172 (by decide) rfl rfl (ck_X0_state ev2) rfl rfl hl.1 rfl (Nat.le_of_ble_eq_true rfl) dX6_line_80 ⟨(Nat.zero_le _), (Nat.zero_le _)⟩ (fun H locs hw => ?_)
    cases hm
    exact dp_iret X hr hw dX6_line_83
  have hm := dp_in hc0 hm
  by_cases hc1 : x1 = 1
  · have hm := dp_ip hc1 hm
    refine lv_tableIn (off := 56) (tgt := 84) hx hb dX6_line_28 (by rw [hc1]; first | done | decide) (by rw [hc1]; first | done | decide) (by rw [hc1]; first | done | decide) (by decide) ?_
    refine lv_aload_n hx hb dX6_line_84 rfl (lv_at hl 0 rfl) ?_
    obtain ⟨v3, ev3, hm⟩ := dp_ob hm
    refine dp_getr X hw cl_X6 5 (by decide) fl_X6_45 ev3 dX6_line_85 ?_
    obtain ⟨v4, ev4, hm⟩ := dp_ob hm
    refine dp_cV (As := []) (rest := []) X hw (c_X0_dialled l D a B h v3 ev4) vm_X0_dialled ml_X6_159 (by decide) rfl rfl (ck_X0_dialled ev4) rfl rfl hl.1 rfl (Nat.le_of_ble_eq_true rfl) dX6_line_88 ⟨(Nat.zero_le _), (Nat.zero_le _)⟩ (fun H locs hw => ?_)
    obtain ⟨v5, ev5, hm⟩ := dp_ob hm
    refine dp_cV (As := []) (rest := []) X hw (c_X5_size l D a B h v4 ev5) vm_X5_size ml_X6_53 (by decide) rfl rfl (ck_X5_size ev5) rfl rfl hl.1 rfl (Nat.le_of_ble_eq_true rfl) dX6_line_91 ⟨(Nat.zero_le _), (Nat.zero_le _)⟩ (fun H locs hw => ?_)
    cases hm
    exact dp_iret X hr hw dX6_line_94
  have hm := dp_in hc1 hm
  by_cases hc2 : x1 = 2
  · have hm := dp_ip hc2 hm
    refine lv_tableIn (off := 67) (tgt := 95) hx hb dX6_line_28 (by rw [hc2]; first | done | decide) (by rw [hc2]; first | done | decide) (by rw [hc2]; first | done | decide) (by decide) ?_
    refine lv_aload_n hx hb dX6_line_95 rfl (lv_at hl 0 rfl) ?_
    obtain ⟨v6, ev6, hm⟩ := dp_ob hm
    refine dp_getr X hw cl_X6 5 (by decide) fl_X6_45 ev6 dX6_line_96 ?_
    obtain ⟨v7, ev7, hm⟩ := dp_ob hm
    refine dp_cV (As := []) (rest := []) X hw (c_X0_ticksLeft l D a B h v6 ev7) vm_X0_ticksLeft ml_X6_156 (by decide) rfl rfl (ck_X0_ticksLeft ev7) rfl rfl hl.1 rfl (Nat.le_of_ble_eq_true rfl) dX6_line_99 ⟨(Nat.zero_le _), (Nat.zero_le _)⟩ (fun H locs hw => ?_)
    cases hm
    exact dp_iret X hr hw dX6_line_102
  have hm := dp_in hc2 hm
  by_cases hc3 : x1 = 3
  · have hm := dp_ip hc3 hm
    refine lv_tableIn (off := 75) (tgt := 103) hx hb dX6_line_28 (by rw [hc3]; first | done | decide) (by rw [hc3]; first | done | decide) (by rw [hc3]; first | done | decide) (by decide) ?_
    refine lv_aload_n hx hb dX6_line_103 rfl (lv_at hl 0 rfl) ?_
    obtain ⟨v8, ev8, hm⟩ := dp_ob hm
    refine dp_getr X hw cl_X6 5 (by decide) fl_X6_45 ev8 dX6_line_104 ?_
    obtain ⟨v9, ev9, hm⟩ := dp_ob hm
    refine dp_cV (As := []) (rest := []) X hw (c_X0_isWaiting l D a B h v8 ev9) vm_X0_isWaiting ml_X6_165 (by decide) rfl rfl (ck_X0_isWaiting ev9) rfl rfl hl.1 rfl (Nat.le_of_ble_eq_true rfl) dX6_line_107 ⟨(Nat.zero_le _), (Nat.zero_le _)⟩ (fun H locs hw => ?_)
    refine lv_if_eq (tgt := 127) hx hb dX6_line_110 (by decide) (fun hc => ?_) (fun hc => ?_)
    · have hm := dp_ip hc hm
      refine lv_iconst (v := (-1)) hx hb dX6_line_127 (by decide) ?_
      cases hm
      exact dp_iret X hr hw dX6_line_128
    · have hm := dp_in hc hm
      refine lv_aload_n hx hb dX6_line_113 rfl (lv_at hl 0 rfl) ?_
      obtain ⟨v10, ev10, hm⟩ := dp_ob hm
      refine dp_getr X hw cl_X6 5 (by decide) fl_X6_45 ev10 dX6_line_114 ?_
      refine lv_aload_n hx hb dX6_line_117 rfl (lv_at hl 0 rfl) ?_
      obtain ⟨v11, ev11, hm⟩ := dp_ob hm
      refine dp_getr X hw cl_X6 2 (by decide) fl_X6_28 ev11 dX6_line_118 ?_
      obtain ⟨v12, ev12, hm⟩ := dp_ob hm
      refine dp_cV (As := [.ref (B + v11)]) (rest := []) X hw (c_X0_currentStage l D a B h v10 v11 ev12) vm_X0_currentStage ml_X6_181 (by decide) rfl rfl (ck_X0_currentStage ev12) rfl rfl hl.1 rfl (Nat.le_of_ble_eq_true rfl) dX6_line_121 ⟨(Nat.zero_le _), (Nat.zero_le _)⟩ (fun H locs hw => ?_)
      refine lv_goto (tgt := 128) hx hb dX6_line_124 (by decide) ?_
      cases hm
      exact dp_iret X hr hw dX6_line_128
  have hm := dp_in hc3 hm
  by_cases hc4 : x1 = 4
  · have hm := dp_ip hc4 hm
    refine lv_tableIn (off := 101) (tgt := 129) hx hb dX6_line_28 (by rw [hc4]; first | done | decide) (by rw [hc4]; first | done | decide) (by rw [hc4]; first | done | decide) (by decide) ?_
    refine lv_aload_n hx hb dX6_line_129 rfl (lv_at hl 0 rfl) ?_
    obtain ⟨v13, ev13, hm⟩ := dp_ob hm
    refine dp_getr X hw cl_X6 5 (by decide) fl_X6_45 ev13 dX6_line_130 ?_
    refine lv_aload_n hx hb dX6_line_133 rfl (lv_at hl 0 rfl) ?_
    obtain ⟨v14, ev14, hm⟩ := dp_ob hm
    refine dp_getr X hw cl_X6 2 (by decide) fl_X6_28 ev14 dX6_line_134 ?_
    obtain ⟨v15, ev15, hm⟩ := dp_ob hm
    refine dp_cV (As := [.ref (B + v14)]) (rest := []) X hw (c_X0_winner l D a B h v13 v14 ev15) vm_X0_winner ml_X6_185 (by decide) rfl rfl (ck_X0_winner ev15) rfl rfl hl.1 rfl (Nat.le_of_ble_eq_true rfl) dX6_line_137 ⟨(Nat.zero_le _), (Nat.zero_le _)⟩ (fun H locs hw => ?_)
    cases hm
    exact dp_iret X hr hw dX6_line_140
  have hm := dp_in hc4 hm
  by_cases hc5 : x1 = 5
  · have hm := dp_ip hc5 hm
    refine lv_tableIn (off := 113) (tgt := 141) hx hb dX6_line_28 (by rw [hc5]; first | done | decide) (by rw [hc5]; first | done | decide) (by rw [hc5]; first | done | decide) (by decide) ?_
    refine lv_aload_n hx hb dX6_line_141 rfl (lv_at hl 0 rfl) ?_
    obtain ⟨v16, ev16, hm⟩ := dp_ob hm
    refine dp_getr X hw cl_X6 2 (by decide) fl_X6_28 ev16 dX6_line_142 ?_
    refine lv_aload_n hx hb dX6_line_145 rfl (lv_at hl 0 rfl) ?_
    obtain ⟨v17, ev17, hm⟩ := dp_ob hm
    refine dp_getr X hw cl_X6 5 (by decide) fl_X6_45 ev17 dX6_line_146 ?_
    obtain ⟨v18, ev18, hm⟩ := dp_ob hm
    refine dp_cV (As := []) (rest := [.ref (B + v16)]) X hw (c_X0_dialled l D a B h v17 ev18) vm_X0_dialled ml_X6_159 (by decide) rfl rfl (ck_X0_dialled ev18) rfl rfl hl.1 rfl (Nat.le_of_ble_eq_true rfl) dX6_line_149 ⟨(Nat.zero_le _), (Nat.zero_le _)⟩ (fun H locs hw => ?_)
    obtain ⟨v19, ev19, hm⟩ := dp_ob hm
    refine dp_cV (As := [.ref (B + v18)]) (rest := []) X hw (c_X3_sureFrom l D a B h v16 v18 ev19) vm_X3_sureFrom ml_X6_187 (by decide) rfl rfl (ck_X3_sureFrom ev19) rfl rfl hl.1 rfl (Nat.le_of_ble_eq_true rfl) dX6_line_152 ⟨(Nat.zero_le _), (Nat.zero_le _)⟩ (fun H locs hw => ?_)
    cases hm
    exact dp_iret X hr hw dX6_line_155
  have hm := dp_in hc5 hm
  by_cases hc6 : x1 = 6
  · have hm := dp_ip hc6 hm
    refine lv_tableIn (off := 128) (tgt := 156) hx hb dX6_line_28 (by rw [hc6]; first | done | decide) (by rw [hc6]; first | done | decide) (by rw [hc6]; first | done | decide) (by decide) ?_
    refine lv_aload_n hx hb dX6_line_156 rfl (lv_at hl 0 rfl) ?_
    obtain ⟨v20, ev20, hm⟩ := dp_ob hm
    refine dp_getr X hw cl_X6 5 (by decide) fl_X6_45 ev20 dX6_line_157 ?_
    obtain ⟨v21, ev21, hm⟩ := dp_ob hm
    refine dp_cV (As := []) (rest := []) X hw (c_X0_ended l D a B h v20 ev21) vm_X0_ended ml_X6_190 (by decide) rfl rfl (ck_X0_ended ev21) rfl rfl hl.1 rfl (Nat.le_of_ble_eq_true rfl) dX6_line_160 ⟨(Nat.zero_le _), (Nat.zero_le _)⟩ (fun H locs hw => ?_)
    cases hm
    exact dp_iret X hr hw dX6_line_163
  have hm := dp_in hc6 hm
  by_cases hc7 : x1 = 7
  · have hm := dp_ip hc7 hm
    refine lv_tableIn (off := 136) (tgt := 164) hx hb dX6_line_28 (by rw [hc7]; first | done | decide) (by rw [hc7]; first | done | decide) (by rw [hc7]; first | done | decide) (by decide) ?_
    refine lv_aload_n hx hb dX6_line_164 rfl (lv_at hl 0 rfl) ?_
    obtain ⟨h22, v23, ev23, hm⟩ := dp_ob2 hm
    refine dp_cV (As := []) (rest := []) X hw (c_X6_wayOfTheLine l D a B h x0 ev23) vm_X6_wayOfTheLine ml_X6_193 (by decide) rfl rfl (ck_X6_wayOfTheLine ev23) rfl rfl hl.1 rfl (Nat.le_of_ble_eq_true rfl) dX6_line_165 ⟨(Nat.zero_le _), (Nat.zero_le _)⟩ (fun H locs hw => ?_)
    cases hm
    exact dp_iret X hr hw dX6_line_168
  have hm := dp_in hc7 hm
  have hd0 : Int32.toInt x1 ≠ 0 := fun q => hc0 (Int32.toInt_inj.mp (q.trans (by decide)))
  have hd1 : Int32.toInt x1 ≠ 1 := fun q => hc1 (Int32.toInt_inj.mp (q.trans (by decide)))
  have hd2 : Int32.toInt x1 ≠ 2 := fun q => hc2 (Int32.toInt_inj.mp (q.trans (by decide)))
  have hd3 : Int32.toInt x1 ≠ 3 := fun q => hc3 (Int32.toInt_inj.mp (q.trans (by decide)))
  have hd4 : Int32.toInt x1 ≠ 4 := fun q => hc4 (Int32.toInt_inj.mp (q.trans (by decide)))
  have hd5 : Int32.toInt x1 ≠ 5 := fun q => hc5 (Int32.toInt_inj.mp (q.trans (by decide)))
  have hd6 : Int32.toInt x1 ≠ 6 := fun q => hc6 (Int32.toInt_inj.mp (q.trans (by decide)))
  have hd7 : Int32.toInt x1 ≠ 7 := fun q => hc7 (Int32.toInt_inj.mp (q.trans (by decide)))
  refine lv_tableOut (tgt := 169) hx hb dX6_line_28 (by omega) (by decide) ?_
  refine lv_sipush (v := (-1002)) hx hb dX6_line_169 (by decide) ?_
  cases hm
  exact dp_iret X hr hw dX6_line_172
theorem ck_X6_line {h : dp_H} {x0 : Nat} {x1 : Int32} {h' : dp_H} {r : Int32} (hm : m_X6_line h x0 x1 = some (h', r)) : dp_is h x0 6 = true := (dp_ck_e hm).1
set_option maxRecDepth 100000 in
set_option maxHeartbeats 4000000 in
theorem c_X6_line (l : Launch) (D : va_G) (a : dp_A) (B : Nat) (h : dp_H) (x0 : Nat) (x1 : Int32) {h' : dp_H} {r : Int32} (hm : m_X6_line h x0 x1 = some (h', r)) : dp_M l D a B yX6_line cX6_line 2 (some .int) rm_X6_line [.ref (B + x0), .int x1] h (some (.int r)) h' := by
  refine dp_M.of (own := RX6) (nm := "line") (by decide) rfl rfl (Nat.le_of_ble_eq_true rfl) ?_
  intro p e s m below meth c ls X hr hin hw hl
  have hl : lv_has ls 2 [(0, .ref (B + x0)), (1, .int x1)] := hl
  obtain ⟨hx, hb, hml, hown, hlk, hK, hB⟩ := id X
  unfold m_X6_line at hm
  obtain ⟨hck, hm⟩ := dp_ck_e hm
  refine lv_iload_n hx hb dX6_line_0 rfl (lv_at hl 1 rfl) ?_
  refine lv_bipush (v := 10) hx hb dX6_line_1 (by decide) ?_
  refine lv_icmp_lt (tgt := 27) hx hb dX6_line_3 (by decide) (fun hc => ?_) (fun hc => ?_)
  · have hm := dp_ip hc hm
    exact v_X6_line_27 X hr h x0 x1 hm _ _ _ hw (lv_sub hl [0, 1] rfl)
  · have hm := dp_in hc hm
    refine lv_iload_n hx hb dX6_line_6 rfl (lv_at hl 1 rfl) ?_
    refine lv_bipush (v := 20) hx hb dX6_line_7 (by decide) ?_
    refine lv_icmp_ge (tgt := 27) hx hb dX6_line_9 (by decide) (fun hc => ?_) (fun hc => ?_)
    · have hm := dp_ip hc hm
      exact v_X6_line_27 X hr h x0 x1 hm _ _ _ hw (lv_sub hl [0, 1] rfl)
    · have hm := dp_in hc hm
      refine lv_aload_n hx hb dX6_line_12 rfl (lv_at hl 0 rfl) ?_
      obtain ⟨v1, ev1, hm⟩ := dp_ob hm
      refine dp_getr X hw cl_X6 5 (by decide) fl_X6_45 ev1 dX6_line_13 ?_
      obtain ⟨v2, ev2, hm⟩ := dp_ob hm
      refine dp_cV (As := []) (rest := []) X hw (c_X0_dialled l D a B h v1 ev2) vm_X0_dialled ml_X6_159 (by decide) rfl rfl (ck_X0_dialled ev2) rfl rfl hl.1 rfl (Nat.le_of_ble_eq_true rfl) dX6_line_16 ⟨(Nat.zero_le _), (Nat.zero_le _)⟩ (fun H locs hw => ?_)
      refine lv_iload_n hx hb dX6_line_19 rfl (lv_at hl 1 rfl) ?_
      refine lv_bipush (v := 10) hx hb dX6_line_20 (by decide) ?_
      refine lv_isub hx hb dX6_line_22 ?_
      obtain ⟨v3, ev3, hm⟩ := dp_ob hm
      refine dp_cV (As := [.int (x1 - 10)]) (rest := []) X hw (c_X5_at l D a B h v2 (x1 - 10) ev3) vm_X5_at ml_X6_140 (by decide) rfl rfl (ck_X5_at ev3) rfl rfl hl.1 rfl (Nat.le_of_ble_eq_true rfl) dX6_line_23 ⟨(Nat.zero_le _), (Nat.zero_le _)⟩ (fun H locs hw => ?_)
      cases hm
      exact dp_iret X hr hw dX6_line_26
theorem ck_X6_count {h : dp_H} {x0 : Nat} {x1 : Int32} {r : Int32} (hm : m_X6_count h x0 x1 = some r) : dp_is h x0 6 = true := (dp_ck_e hm).1
set_option maxRecDepth 100000 in
set_option maxHeartbeats 4000000 in
theorem c_X6_count (l : Launch) (D : va_G) (a : dp_A) (B : Nat) (h : dp_H) (x0 : Nat) (x1 : Int32) {r : Int32} (hm : m_X6_count h x0 x1 = some r) : dp_M l D a B yX6_count cX6_count 2 (some .int) rm_X6_count [.ref (B + x0), .int x1] h (some (.int r)) h := by
  refine dp_M.of (own := RX6) (nm := "count") (by decide) rfl rfl (Nat.le_of_ble_eq_true rfl) ?_
  intro p e s m below meth c ls X hr hin hw hl
  have hl : lv_has ls 2 [(0, .ref (B + x0)), (1, .int x1)] := hl
  obtain ⟨hx, hb, hml, hown, hlk, hK, hB⟩ := id X
  unfold m_X6_count at hm
  obtain ⟨hck, hm⟩ := dp_ck_e hm
  refine lv_iload_n hx hb dX6_count_0 rfl (lv_at hl 1 rfl) ?_
  by_cases hc0 : x1 = 0
  · have hm := dp_ip hc0 hm
    refine lv_tableIn (off := 55) (tgt := 56) hx hb dX6_count_1 (by rw [hc0]; first | done | decide) (by rw [hc0]; first | done | decide) (by rw [hc0]; first | done | decide) (by decide) ?_
    refine lv_aload_n hx hb dX6_count_56 rfl (lv_at hl 0 rfl) ?_
    obtain ⟨v1, ev1, hm⟩ := dp_ob hm
    refine dp_getr X hw cl_X6 2 (by decide) fl_X6_28 ev1 dX6_count_57 ?_
    obtain ⟨v2, ev2, hm⟩ := dp_ob hm
    refine dp_cV (As := []) (rest := []) X hw (c_X3_size l D a B h v1 ev2) vm_X3_size ml_X6_78 (by decide) rfl rfl (ck_X3_size ev2) rfl rfl hl.1 rfl (Nat.le_of_ble_eq_true rfl) dX6_count_60 ⟨(Nat.zero_le _), (Nat.zero_le _)⟩ (fun H locs hw => ?_)
    cases hm
    exact dp_iret X hr hw dX6_count_63
  have hm := dp_in hc0 hm
  by_cases hc1 : x1 = 1
  · have hm := dp_ip hc1 hm
    refine lv_tableIn (off := 63) (tgt := 64) hx hb dX6_count_1 (by rw [hc1]; first | done | decide) (by rw [hc1]; first | done | decide) (by rw [hc1]; first | done | decide) (by decide) ?_
    refine lv_aload_n hx hb dX6_count_64 rfl (lv_at hl 0 rfl) ?_
    obtain ⟨v3, ev3, hm⟩ := dp_ob hm
    refine dp_getr X hw cl_X6 0 (by decide) fl_X6_14 ev3 dX6_count_65 ?_
    obtain ⟨v4, ev4, hm⟩ := dp_ob hm
    refine dp_cV (As := []) (rest := []) X hw (c_X5_size l D a B h v3 ev4) vm_X5_size ml_X6_53 (by decide) rfl rfl (ck_X5_size ev4) rfl rfl hl.1 rfl (Nat.le_of_ble_eq_true rfl) dX6_count_68 ⟨(Nat.zero_le _), (Nat.zero_le _)⟩ (fun H locs hw => ?_)
    cases hm
    exact dp_iret X hr hw dX6_count_71
  have hm := dp_in hc1 hm
  by_cases hc2 : x1 = 2
  · have hm := dp_ip hc2 hm
    refine lv_tableIn (off := 71) (tgt := 72) hx hb dX6_count_1 (by rw [hc2]; first | done | decide) (by rw [hc2]; first | done | decide) (by rw [hc2]; first | done | decide) (by decide) ?_
    refine lv_aload_n hx hb dX6_count_72 rfl (lv_at hl 0 rfl) ?_
    obtain ⟨v5, ev5, hm⟩ := dp_ob hm
    refine dp_getr X hw cl_X6 2 (by decide) fl_X6_28 ev5 dX6_count_73 ?_
    obtain ⟨v6, ev6, hm⟩ := dp_ob hm
    refine dp_cV (As := []) (rest := []) X hw (c_X3_clashes l D a B h v5 ev6) vm_X3_clashes ml_X6_196 (by decide) rfl rfl (ck_X3_clashes ev6) rfl rfl hl.1 rfl (Nat.le_of_ble_eq_true rfl) dX6_count_76 ⟨(Nat.zero_le _), (Nat.zero_le _)⟩ (fun H locs hw => ?_)
    cases hm
    exact dp_iret X hr hw dX6_count_79
  have hm := dp_in hc2 hm
  by_cases hc3 : x1 = 3
  · have hm := dp_ip hc3 hm
    refine lv_tableIn (off := 79) (tgt := 80) hx hb dX6_count_1 (by rw [hc3]; first | done | decide) (by rw [hc3]; first | done | decide) (by rw [hc3]; first | done | decide) (by decide) ?_
    refine lv_aload_n hx hb dX6_count_80 rfl (lv_at hl 0 rfl) ?_
    obtain ⟨v7, ev7, hm⟩ := dp_ob hm
    refine dp_getr X hw cl_X6 5 (by decide) fl_X6_45 ev7 dX6_count_81 ?_
    refine lv_iconst (v := 0) hx hb dX6_count_84 (by decide) ?_
    obtain ⟨v8, ev8, hm⟩ := dp_ob hm
    refine dp_cV (As := [.int 0]) (rest := []) X hw (c_X0_ticksOf l D a B h v7 0 ev8) vm_X0_ticksOf ml_X6_145 (by decide) rfl rfl (ck_X0_ticksOf ev8) rfl rfl hl.1 rfl (Nat.le_of_ble_eq_true rfl) dX6_count_85 ⟨(Nat.zero_le _), (Nat.zero_le _)⟩ (fun H locs hw => ?_)
    cases hm
    exact dp_iret X hr hw dX6_count_88
  have hm := dp_in hc3 hm
  by_cases hc4 : x1 = 4
  · have hm := dp_ip hc4 hm
    refine lv_tableIn (off := 88) (tgt := 89) hx hb dX6_count_1 (by rw [hc4]; first | done | decide) (by rw [hc4]; first | done | decide) (by rw [hc4]; first | done | decide) (by decide) ?_
    refine lv_aload_n hx hb dX6_count_89 rfl (lv_at hl 0 rfl) ?_
    obtain ⟨v9, ev9, hm⟩ := dp_ob hm
    refine dp_getr X hw cl_X6 5 (by decide) fl_X6_45 ev9 dX6_count_90 ?_
    refine lv_iconst (v := 1) hx hb dX6_count_93 (by decide) ?_
    obtain ⟨v10, ev10, hm⟩ := dp_ob hm
    refine dp_cV (As := [.int 1]) (rest := []) X hw (c_X0_ticksOf l D a B h v9 1 ev10) vm_X0_ticksOf ml_X6_145 (by decide) rfl rfl (ck_X0_ticksOf ev10) rfl rfl hl.1 rfl (Nat.le_of_ble_eq_true rfl) dX6_count_94 ⟨(Nat.zero_le _), (Nat.zero_le _)⟩ (fun H locs hw => ?_)
    cases hm
    exact dp_iret X hr hw dX6_count_97
  have hm := dp_in hc4 hm
  by_cases hc5 : x1 = 5
  · have hm := dp_ip hc5 hm
    refine lv_tableIn (off := 97) (tgt := 98) hx hb dX6_count_1 (by rw [hc5]; first | done | decide) (by rw [hc5]; first | done | decide) (by rw [hc5]; first | done | decide) (by decide) ?_
    refine lv_aload_n hx hb dX6_count_98 rfl (lv_at hl 0 rfl) ?_
    obtain ⟨v11, ev11, hm⟩ := dp_ob hm
    refine dp_getr X hw cl_X6 5 (by decide) fl_X6_45 ev11 dX6_count_99 ?_
    refine lv_iconst (v := 2) hx hb dX6_count_102 (by decide) ?_
    obtain ⟨v12, ev12, hm⟩ := dp_ob hm
    refine dp_cV (As := [.int 2]) (rest := []) X hw (c_X0_ticksOf l D a B h v11 2 ev12) vm_X0_ticksOf ml_X6_145 (by decide) rfl rfl (ck_X0_ticksOf ev12) rfl rfl hl.1 rfl (Nat.le_of_ble_eq_true rfl) dX6_count_103 ⟨(Nat.zero_le _), (Nat.zero_le _)⟩ (fun H locs hw => ?_)
    cases hm
    exact dp_iret X hr hw dX6_count_106
  have hm := dp_in hc5 hm
  by_cases hc6 : x1 = 6
  · have hm := dp_ip hc6 hm
    refine lv_tableIn (off := 106) (tgt := 107) hx hb dX6_count_1 (by rw [hc6]; first | done | decide) (by rw [hc6]; first | done | decide) (by rw [hc6]; first | done | decide) (by decide) ?_
    refine lv_aload_n hx hb dX6_count_107 rfl (lv_at hl 0 rfl) ?_
    obtain ⟨v13, ev13, hm⟩ := dp_ob hm
    refine dp_getr X hw cl_X6 5 (by decide) fl_X6_45 ev13 dX6_count_108 ?_
    obtain ⟨v14, ev14, hm⟩ := dp_ob hm
    refine dp_cV (As := []) (rest := []) X hw (c_X0_timesLifted l D a B h v13 ev14) vm_X0_timesLifted ml_X6_199 (by decide) rfl rfl (ck_X0_timesLifted ev14) rfl rfl hl.1 rfl (Nat.le_of_ble_eq_true rfl) dX6_count_111 ⟨(Nat.zero_le _), (Nat.zero_le _)⟩ (fun H locs hw => ?_)
    cases hm
    exact dp_iret X hr hw dX6_count_114
  have hm := dp_in hc6 hm
  by_cases hc7 : x1 = 7
  · have hm := dp_ip hc7 hm
    refine lv_tableIn (off := 114) (tgt := 115) hx hb dX6_count_1 (by rw [hc7]; first | done | decide) (by rw [hc7]; first | done | decide) (by rw [hc7]; first | done | decide) (by decide) ?_
    refine lv_aload_n hx hb dX6_count_115 rfl (lv_at hl 0 rfl) ?_
    obtain ⟨v15, ev15, hm⟩ := dp_ob hm
    refine dp_getr X hw cl_X6 5 (by decide) fl_X6_45 ev15 dX6_count_116 ?_
    obtain ⟨v16, ev16, hm⟩ := dp_ob hm
    refine dp_cV (As := []) (rest := []) X hw (c_X0_timesReady l D a B h v15 ev16) vm_X0_timesReady ml_X6_202 (by decide) rfl rfl (ck_X0_timesReady ev16) rfl rfl hl.1 rfl (Nat.le_of_ble_eq_true rfl) dX6_count_119 ⟨(Nat.zero_le _), (Nat.zero_le _)⟩ (fun H locs hw => ?_)
    cases hm
    exact dp_iret X hr hw dX6_count_122
  have hm := dp_in hc7 hm
  by_cases hc8 : x1 = 8
  · have hm := dp_ip hc8 hm
    refine lv_tableIn (off := 122) (tgt := 123) hx hb dX6_count_1 (by rw [hc8]; first | done | decide) (by rw [hc8]; first | done | decide) (by rw [hc8]; first | done | decide) (by decide) ?_
    refine lv_aload_n hx hb dX6_count_123 rfl (lv_at hl 0 rfl) ?_
    obtain ⟨v17, ev17, hm⟩ := dp_ob hm
    refine dp_getr X hw cl_X6 5 (by decide) fl_X6_45 ev17 dX6_count_124 ?_
    obtain ⟨v18, ev18, hm⟩ := dp_ob hm
    refine dp_cV (As := []) (rest := []) X hw (c_X0_timesLost l D a B h v17 ev18) vm_X0_timesLost ml_X6_205 (by decide) rfl rfl (ck_X0_timesLost ev18) rfl rfl hl.1 rfl (Nat.le_of_ble_eq_true rfl) dX6_count_127 ⟨(Nat.zero_le _), (Nat.zero_le _)⟩ (fun H locs hw => ?_)
    cases hm
    exact dp_iret X hr hw dX6_count_130
  have hm := dp_in hc8 hm
  by_cases hc9 : x1 = 9
  · have hm := dp_ip hc9 hm
    refine lv_tableIn (off := 130) (tgt := 131) hx hb dX6_count_1 (by rw [hc9]; first | done | decide) (by rw [hc9]; first | done | decide) (by rw [hc9]; first | done | decide) (by decide) ?_
    refine lv_aload_n hx hb dX6_count_131 rfl (lv_at hl 0 rfl) ?_
    obtain ⟨v19, ev19, hm⟩ := dp_ob hm
    refine dp_getr X hw cl_X6 5 (by decide) fl_X6_45 ev19 dX6_count_132 ?_
    obtain ⟨v20, ev20, hm⟩ := dp_ob hm
    refine dp_cV (As := []) (rest := []) X hw (c_X0_digitsEver l D a B h v19 ev20) vm_X0_digitsEver ml_X6_208 (by decide) rfl rfl (ck_X0_digitsEver ev20) rfl rfl hl.1 rfl (Nat.le_of_ble_eq_true rfl) dX6_count_135 ⟨(Nat.zero_le _), (Nat.zero_le _)⟩ (fun H locs hw => ?_)
    cases hm
    exact dp_iret X hr hw dX6_count_138
  have hm := dp_in hc9 hm
  have hd0 : Int32.toInt x1 ≠ 0 := fun q => hc0 (Int32.toInt_inj.mp (q.trans (by decide)))
  have hd1 : Int32.toInt x1 ≠ 1 := fun q => hc1 (Int32.toInt_inj.mp (q.trans (by decide)))
  have hd2 : Int32.toInt x1 ≠ 2 := fun q => hc2 (Int32.toInt_inj.mp (q.trans (by decide)))
  have hd3 : Int32.toInt x1 ≠ 3 := fun q => hc3 (Int32.toInt_inj.mp (q.trans (by decide)))
  have hd4 : Int32.toInt x1 ≠ 4 := fun q => hc4 (Int32.toInt_inj.mp (q.trans (by decide)))
  have hd5 : Int32.toInt x1 ≠ 5 := fun q => hc5 (Int32.toInt_inj.mp (q.trans (by decide)))
  have hd6 : Int32.toInt x1 ≠ 6 := fun q => hc6 (Int32.toInt_inj.mp (q.trans (by decide)))
  have hd7 : Int32.toInt x1 ≠ 7 := fun q => hc7 (Int32.toInt_inj.mp (q.trans (by decide)))
  have hd8 : Int32.toInt x1 ≠ 8 := fun q => hc8 (Int32.toInt_inj.mp (q.trans (by decide)))
  have hd9 : Int32.toInt x1 ≠ 9 := fun q => hc9 (Int32.toInt_inj.mp (q.trans (by decide)))
  refine lv_tableOut (tgt := 139) hx hb dX6_count_1 (by omega) (by decide) ?_
  refine lv_sipush (v := (-1002)) hx hb dX6_count_139 (by decide) ?_
  cases hm
  exact dp_iret X hr hw dX6_count_142
set_option maxRecDepth 100000 in
set_option maxHeartbeats 4000000 in
theorem v_X6_digestOfPatterns_52 {p : Program} {l : Launch} {e : Env} {s : State} {m : MethodId} {args : Array Value} {below : List Frame} {meth : Method} {c : Code} {D : va_G} {a : dp_A} {B : Nat} (X : dp_X p s m meth c cX6_digestOfPatterns 7 RX6 D a B) (hr : meth.sig.returnType = (some .long)) {h : dp_H} {r : Int64} {k5 : Nat → Int64 → Int32 → Option Int64} (hk5 : ∀ (x0 : Nat) (x3 : Int64) (x5 : Int32), k5 x0 x3 x5 = some r → ∀ (H : Heap) (locs : List Loc) (ls : Array Slot), dp_w D a B h s.heap H locs → lv_has ls 7 [(0, .ref (B + x0)), (3, .long x3), (5, .int x5)] → W p l e rm_X6_digestOfPatterns s m args below meth c H locs 0 0 (MQ below (dp_Q D a B (some (.long r)) h) args s rm_X6_digestOfPatterns.cells rm_X6_digestOfPatterns.slots (fun q => B ≤ q)) (F0 m 5 ls [])) {k52 : Nat → Int64 → Int32 → Int32 → Option Int64} (hk52 : ∀ (x0 : Nat) (x3 : Int64) (x5 : Int32) (x6 : Int32), k52 x0 x3 x5 x6 = some r → ∀ (H : Heap) (locs : List Loc) (ls : Array Slot), dp_w D a B h s.heap H locs → lv_has ls 7 [(0, .ref (B + x0)), (3, .long x3), (5, .int x5), (6, .int x6)] → W p l e rm_X6_digestOfPatterns s m args below meth c H locs 0 0 (MQ below (dp_Q D a B (some (.long r)) h) args s rm_X6_digestOfPatterns.cells rm_X6_digestOfPatterns.slots (fun q => B ≤ q)) (F0 m 52 ls [])) : ∀ (x0 : Nat) (x3 : Int64) (x5 : Int32) (x6 : Int32), b_X6_digestOfPatterns_52 h k5 k52 x0 x3 x5 x6 = some r → ∀ (H : Heap) (locs : List Loc) (ls : Array Slot), dp_w D a B h s.heap H locs → lv_has ls 7 [(0, .ref (B + x0)), (3, .long x3), (5, .int x5), (6, .int x6)] → W p l e rm_X6_digestOfPatterns s m args below meth c H locs 0 0 (MQ below (dp_Q D a B (some (.long r)) h) args s rm_X6_digestOfPatterns.cells rm_X6_digestOfPatterns.slots (fun q => B ≤ q)) (F0 m 52 ls []) := by
  intro x0 x3 x5 x6 hm H locs ls hw hl
  obtain ⟨hx, hb, hml, hown, hlk, hK, hB⟩ := id X
  unfold b_X6_digestOfPatterns_52 at hm
  refine lv_iload hx hb dX6_digestOfPatterns_52 (lv_at hl 3 rfl) ?_
  refine lv_bipush (v := 10) hx hb dX6_digestOfPatterns_54 (by decide) ?_
  refine lv_icmp_ge (tgt := 81) hx hb dX6_digestOfPatterns_56 (by decide) (fun hc => ?_) (fun hc => ?_)
  · have hm := dp_ip hc hm
    refine lv_iinc (v := (x5 + 1)) (lv' := [(5, .int (x5 + 1)), (0, .ref (B + x0)), (3, .long x3), (6, .int x6)]) hx hb dX6_digestOfPatterns_81 hl (k := 2) rfl rfl (by decide) rfl (fun ls hl => ?_)
    refine lv_goto (tgt := 5) hx hb dX6_digestOfPatterns_84 (by decide) ?_
    exact hk5 x0 x3 (x5 + 1) hm _ _ _ hw (lv_sub hl [1, 2, 0] rfl)
  · have hm := dp_in hc hm
    refine lv_ldc2 (v := 31) hx hb hown (hK.word kl_X6_220 rfl) dX6_digestOfPatterns_59 ?_
    refine lv_lload_n hx hb dX6_digestOfPatterns_62 rfl (lv_at hl 1 rfl) ?_
    refine lv_lmul hx hb dX6_digestOfPatterns_63 ?_
    refine lv_aload_n hx hb dX6_digestOfPatterns_64 rfl (lv_at hl 0 rfl) ?_
    refine lv_iload hx hb dX6_digestOfPatterns_65 (lv_at hl 2 rfl) ?_
    refine lv_iload hx hb dX6_digestOfPatterns_67 (lv_at hl 3 rfl) ?_
    obtain ⟨v1, ev1, hm⟩ := dp_ob hm
    refine dp_cV (As := [.int x5, .int x6]) (rest := [.long (31 * x3)]) X hw (c_X6_lets l D a B h x0 x5 x6 ev1) vm_X6_lets ml_X6_232 (by decide) rfl rfl (ck_X6_lets ev1) rfl rfl hl.1 rfl (Nat.le_of_ble_eq_true rfl) dX6_digestOfPatterns_69 ⟨(Nat.zero_le _), (Nat.zero_le _)⟩ (fun H locs hw => ?_)
    refine lv_i2l (v := (Int32.toInt64 v1)) hx hb dX6_digestOfPatterns_72 rfl ?_
    refine lv_ladd hx hb dX6_digestOfPatterns_73 ?_
    refine lv_lstore_n (lv' := [(3, .long ((31 * x3) + (Int32.toInt64 v1))), (0, .ref (B + x0)), (5, .int x5), (6, .int x6)]) hx hb dX6_digestOfPatterns_74 rfl hl (by decide) rfl (fun ls hl => ?_)
    refine lv_iinc (v := (x6 + 1)) (lv' := [(6, .int (x6 + 1)), (3, .long ((31 * x3) + (Int32.toInt64 v1))), (0, .ref (B + x0)), (5, .int x5)]) hx hb dX6_digestOfPatterns_75 hl (k := 3) rfl rfl (by decide) rfl (fun ls hl => ?_)
    refine lv_goto (tgt := 52) hx hb dX6_digestOfPatterns_78 (by decide) ?_
    exact hk52 x0 ((31 * x3) + (Int32.toInt64 v1)) x5 (x6 + 1) hm _ _ _ hw (lv_sub hl [2, 1, 3, 0] rfl)
set_option maxRecDepth 100000 in
set_option maxHeartbeats 4000000 in
theorem w_X6_digestOfPatterns_52 {p : Program} {l : Launch} {e : Env} {s : State} {m : MethodId} {args : Array Value} {below : List Frame} {meth : Method} {c : Code} {D : va_G} {a : dp_A} {B : Nat} (X : dp_X p s m meth c cX6_digestOfPatterns 7 RX6 D a B) (hr : meth.sig.returnType = (some .long)) {h : dp_H} {r : Int64} {k5 : Nat → Int64 → Int32 → Option Int64} (hk5 : ∀ (x0 : Nat) (x3 : Int64) (x5 : Int32), k5 x0 x3 x5 = some r → ∀ (H : Heap) (locs : List Loc) (ls : Array Slot), dp_w D a B h s.heap H locs → lv_has ls 7 [(0, .ref (B + x0)), (3, .long x3), (5, .int x5)] → W p l e rm_X6_digestOfPatterns s m args below meth c H locs 0 0 (MQ below (dp_Q D a B (some (.long r)) h) args s rm_X6_digestOfPatterns.cells rm_X6_digestOfPatterns.slots (fun q => B ≤ q)) (F0 m 5 ls [])) : ∀ (n : Nat) (x0 : Nat) (x3 : Int64) (x5 : Int32) (x6 : Int32), m_X6_digestOfPatterns_52 h k5 n x0 x3 x5 x6 = some r → ∀ (H : Heap) (locs : List Loc) (ls : Array Slot), dp_w D a B h s.heap H locs → lv_has ls 7 [(0, .ref (B + x0)), (3, .long x3), (5, .int x5), (6, .int x6)] → W p l e rm_X6_digestOfPatterns s m args below meth c H locs 0 0 (MQ below (dp_Q D a B (some (.long r)) h) args s rm_X6_digestOfPatterns.cells rm_X6_digestOfPatterns.slots (fun q => B ≤ q)) (F0 m 52 ls []) := by
  intro n
  induction n with
  | zero => intro x0 x3 x5 x6 hm; cases hm
  | succ n ih => intro x0 x3 x5 x6 hm; exact v_X6_digestOfPatterns_52 X hr hk5 ih x0 x3 x5 x6 hm
set_option maxRecDepth 100000 in
set_option maxHeartbeats 4000000 in
theorem v_X6_digestOfPatterns_20 {p : Program} {l : Launch} {e : Env} {s : State} {m : MethodId} {args : Array Value} {below : List Frame} {meth : Method} {c : Code} {D : va_G} {a : dp_A} {B : Nat} (X : dp_X p s m meth c cX6_digestOfPatterns 7 RX6 D a B) (hr : meth.sig.returnType = (some .long)) {h : dp_H} {r : Int64} {k5 : Nat → Int64 → Int32 → Option Int64} (hk5 : ∀ (x0 : Nat) (x3 : Int64) (x5 : Int32), k5 x0 x3 x5 = some r → ∀ (H : Heap) (locs : List Loc) (ls : Array Slot), dp_w D a B h s.heap H locs → lv_has ls 7 [(0, .ref (B + x0)), (3, .long x3), (5, .int x5)] → W p l e rm_X6_digestOfPatterns s m args below meth c H locs 0 0 (MQ below (dp_Q D a B (some (.long r)) h) args s rm_X6_digestOfPatterns.cells rm_X6_digestOfPatterns.slots (fun q => B ≤ q)) (F0 m 5 ls [])) {k20 : Nat → Int64 → Int32 → Int32 → Option Int64} (hk20 : ∀ (x0 : Nat) (x3 : Int64) (x5 : Int32) (x6 : Int32), k20 x0 x3 x5 x6 = some r → ∀ (H : Heap) (locs : List Loc) (ls : Array Slot), dp_w D a B h s.heap H locs → lv_has ls 7 [(0, .ref (B + x0)), (3, .long x3), (5, .int x5), (6, .int x6)] → W p l e rm_X6_digestOfPatterns s m args below meth c H locs 0 0 (MQ below (dp_Q D a B (some (.long r)) h) args s rm_X6_digestOfPatterns.cells rm_X6_digestOfPatterns.slots (fun q => B ≤ q)) (F0 m 20 ls [])) : ∀ (x0 : Nat) (x3 : Int64) (x5 : Int32) (x6 : Int32), b_X6_digestOfPatterns_20 h k5 k20 x0 x3 x5 x6 = some r → ∀ (H : Heap) (locs : List Loc) (ls : Array Slot), dp_w D a B h s.heap H locs → lv_has ls 7 [(0, .ref (B + x0)), (3, .long x3), (5, .int x5), (6, .int x6)] → W p l e rm_X6_digestOfPatterns s m args below meth c H locs 0 0 (MQ below (dp_Q D a B (some (.long r)) h) args s rm_X6_digestOfPatterns.cells rm_X6_digestOfPatterns.slots (fun q => B ≤ q)) (F0 m 20 ls []) := by
  intro x0 x3 x5 x6 hm H locs ls hw hl
  obtain ⟨hx, hb, hml, hown, hlk, hK, hB⟩ := id X
  unfold b_X6_digestOfPatterns_20 at hm
  refine lv_iload hx hb dX6_digestOfPatterns_20 (lv_at hl 3 rfl) ?_
  refine lv_bipush (v := 6) hx hb dX6_digestOfPatterns_22 (by decide) ?_
  refine lv_icmp_ge (tgt := 49) hx hb dX6_digestOfPatterns_24 (by decide) (fun hc => ?_) (fun hc => ?_)
  · have hm := dp_ip hc hm
    refine lv_iconst (v := 0) hx hb dX6_digestOfPatterns_49 (by decide) ?_
    refine lv_istore (lv' := [(6, .int 0), (0, .ref (B + x0)), (3, .long x3), (5, .int x5)]) hx hb dX6_digestOfPatterns_50 hl (by decide) rfl (fun ls hl => ?_)
    exact w_X6_digestOfPatterns_52 X hr hk5 64 x0 x3 x5 0 hm _ _ _ hw (lv_sub hl [1, 2, 3, 0] rfl)
  · have hm := dp_in hc hm
    refine lv_ldc2 (v := 31) hx hb hown (hK.word kl_X6_220 rfl) dX6_digestOfPatterns_27 ?_
    refine lv_lload_n hx hb dX6_digestOfPatterns_30 rfl (lv_at hl 1 rfl) ?_
    refine lv_lmul hx hb dX6_digestOfPatterns_31 ?_
    refine lv_aload_n hx hb dX6_digestOfPatterns_32 rfl (lv_at hl 0 rfl) ?_
    refine lv_iload hx hb dX6_digestOfPatterns_33 (lv_at hl 2 rfl) ?_
    refine lv_iload hx hb dX6_digestOfPatterns_35 (lv_at hl 3 rfl) ?_
    obtain ⟨v1, ev1, hm⟩ := dp_ob hm
    refine dp_cV (As := [.int x5, .int x6]) (rest := [.long (31 * x3)]) X hw (c_X6_pattern l D a B h x0 x5 x6 ev1) vm_X6_pattern ml_X6_228 (by decide) rfl rfl (ck_X6_pattern ev1) rfl rfl hl.1 rfl (Nat.le_of_ble_eq_true rfl) dX6_digestOfPatterns_37 ⟨(Nat.zero_le _), (Nat.zero_le _)⟩ (fun H locs hw => ?_)
    refine lv_i2l (v := (Int32.toInt64 v1)) hx hb dX6_digestOfPatterns_40 rfl ?_
    refine lv_ladd hx hb dX6_digestOfPatterns_41 ?_
    refine lv_lstore_n (lv' := [(3, .long ((31 * x3) + (Int32.toInt64 v1))), (0, .ref (B + x0)), (5, .int x5), (6, .int x6)]) hx hb dX6_digestOfPatterns_42 rfl hl (by decide) rfl (fun ls hl => ?_)
    refine lv_iinc (v := (x6 + 1)) (lv' := [(6, .int (x6 + 1)), (3, .long ((31 * x3) + (Int32.toInt64 v1))), (0, .ref (B + x0)), (5, .int x5)]) hx hb dX6_digestOfPatterns_43 hl (k := 3) rfl rfl (by decide) rfl (fun ls hl => ?_)
    refine lv_goto (tgt := 20) hx hb dX6_digestOfPatterns_46 (by decide) ?_
    exact hk20 x0 ((31 * x3) + (Int32.toInt64 v1)) x5 (x6 + 1) hm _ _ _ hw (lv_sub hl [2, 1, 3, 0] rfl)
set_option maxRecDepth 100000 in
set_option maxHeartbeats 4000000 in
theorem w_X6_digestOfPatterns_20 {p : Program} {l : Launch} {e : Env} {s : State} {m : MethodId} {args : Array Value} {below : List Frame} {meth : Method} {c : Code} {D : va_G} {a : dp_A} {B : Nat} (X : dp_X p s m meth c cX6_digestOfPatterns 7 RX6 D a B) (hr : meth.sig.returnType = (some .long)) {h : dp_H} {r : Int64} {k5 : Nat → Int64 → Int32 → Option Int64} (hk5 : ∀ (x0 : Nat) (x3 : Int64) (x5 : Int32), k5 x0 x3 x5 = some r → ∀ (H : Heap) (locs : List Loc) (ls : Array Slot), dp_w D a B h s.heap H locs → lv_has ls 7 [(0, .ref (B + x0)), (3, .long x3), (5, .int x5)] → W p l e rm_X6_digestOfPatterns s m args below meth c H locs 0 0 (MQ below (dp_Q D a B (some (.long r)) h) args s rm_X6_digestOfPatterns.cells rm_X6_digestOfPatterns.slots (fun q => B ≤ q)) (F0 m 5 ls [])) : ∀ (n : Nat) (x0 : Nat) (x3 : Int64) (x5 : Int32) (x6 : Int32), m_X6_digestOfPatterns_20 h k5 n x0 x3 x5 x6 = some r → ∀ (H : Heap) (locs : List Loc) (ls : Array Slot), dp_w D a B h s.heap H locs → lv_has ls 7 [(0, .ref (B + x0)), (3, .long x3), (5, .int x5), (6, .int x6)] → W p l e rm_X6_digestOfPatterns s m args below meth c H locs 0 0 (MQ below (dp_Q D a B (some (.long r)) h) args s rm_X6_digestOfPatterns.cells rm_X6_digestOfPatterns.slots (fun q => B ≤ q)) (F0 m 20 ls []) := by
  intro n
  induction n with
  | zero => intro x0 x3 x5 x6 hm; cases hm
  | succ n ih => intro x0 x3 x5 x6 hm; exact v_X6_digestOfPatterns_20 X hr hk5 ih x0 x3 x5 x6 hm
set_option maxRecDepth 100000 in
set_option maxHeartbeats 4000000 in
theorem v_X6_digestOfPatterns_5 {p : Program} {l : Launch} {e : Env} {s : State} {m : MethodId} {args : Array Value} {below : List Frame} {meth : Method} {c : Code} {D : va_G} {a : dp_A} {B : Nat} (X : dp_X p s m meth c cX6_digestOfPatterns 7 RX6 D a B) (hr : meth.sig.returnType = (some .long)) {h : dp_H} {r : Int64} {k5 : Nat → Int64 → Int32 → Option Int64} (hk5 : ∀ (x0 : Nat) (x3 : Int64) (x5 : Int32), k5 x0 x3 x5 = some r → ∀ (H : Heap) (locs : List Loc) (ls : Array Slot), dp_w D a B h s.heap H locs → lv_has ls 7 [(0, .ref (B + x0)), (3, .long x3), (5, .int x5)] → W p l e rm_X6_digestOfPatterns s m args below meth c H locs 0 0 (MQ below (dp_Q D a B (some (.long r)) h) args s rm_X6_digestOfPatterns.cells rm_X6_digestOfPatterns.slots (fun q => B ≤ q)) (F0 m 5 ls [])) : ∀ (x0 : Nat) (x3 : Int64) (x5 : Int32), b_X6_digestOfPatterns_5 h k5 x0 x3 x5 = some r → ∀ (H : Heap) (locs : List Loc) (ls : Array Slot), dp_w D a B h s.heap H locs → lv_has ls 7 [(0, .ref (B + x0)), (3, .long x3), (5, .int x5)] → W p l e rm_X6_digestOfPatterns s m args below meth c H locs 0 0 (MQ below (dp_Q D a B (some (.long r)) h) args s rm_X6_digestOfPatterns.cells rm_X6_digestOfPatterns.slots (fun q => B ≤ q)) (F0 m 5 ls []) := by
  intro x0 x3 x5 hm H locs ls hw hl
  obtain ⟨hx, hb, hml, hown, hlk, hK, hB⟩ := id X
  unfold b_X6_digestOfPatterns_5 at hm
  refine lv_iload hx hb dX6_digestOfPatterns_5 (lv_at hl 2 rfl) ?_
  refine lv_aload_n hx hb dX6_digestOfPatterns_7 rfl (lv_at hl 0 rfl) ?_
  obtain ⟨v1, ev1, hm⟩ := dp_ob hm
  refine dp_getr X hw cl_X6 2 (by decide) fl_X6_28 ev1 dX6_digestOfPatterns_8 ?_
  obtain ⟨v2, ev2, hm⟩ := dp_ob hm
  refine dp_cV (As := []) (rest := [.int x5]) X hw (c_X3_size l D a B h v1 ev2) vm_X3_size ml_X6_78 (by decide) rfl rfl (ck_X3_size ev2) rfl rfl hl.1 rfl (Nat.le_of_ble_eq_true rfl) dX6_digestOfPatterns_11 ⟨(Nat.zero_le _), (Nat.zero_le _)⟩ (fun H locs hw => ?_)
  refine lv_icmp_ge (tgt := 87) hx hb dX6_digestOfPatterns_14 (by decide) (fun hc => ?_) (fun hc => ?_)
  · have hm := dp_ip hc hm
    refine lv_lload_n hx hb dX6_digestOfPatterns_87 rfl (lv_at hl 1 rfl) ?_
    cases hm
    exact dp_lret X hr hw dX6_digestOfPatterns_88
  · have hm := dp_in hc hm
    refine lv_iconst (v := 0) hx hb dX6_digestOfPatterns_17 (by decide) ?_
    refine lv_istore (lv' := [(6, .int 0), (0, .ref (B + x0)), (3, .long x3), (5, .int x5)]) hx hb dX6_digestOfPatterns_18 hl (by decide) rfl (fun ls hl => ?_)
    exact w_X6_digestOfPatterns_20 X hr hk5 64 x0 x3 x5 0 hm _ _ _ hw (lv_sub hl [1, 2, 3, 0] rfl)
set_option maxRecDepth 100000 in
set_option maxHeartbeats 4000000 in
theorem w_X6_digestOfPatterns_5 {p : Program} {l : Launch} {e : Env} {s : State} {m : MethodId} {args : Array Value} {below : List Frame} {meth : Method} {c : Code} {D : va_G} {a : dp_A} {B : Nat} (X : dp_X p s m meth c cX6_digestOfPatterns 7 RX6 D a B) (hr : meth.sig.returnType = (some .long)) {h : dp_H} {r : Int64}  : ∀ (n : Nat) (x0 : Nat) (x3 : Int64) (x5 : Int32), m_X6_digestOfPatterns_5 h  n x0 x3 x5 = some r → ∀ (H : Heap) (locs : List Loc) (ls : Array Slot), dp_w D a B h s.heap H locs → lv_has ls 7 [(0, .ref (B + x0)), (3, .long x3), (5, .int x5)] → W p l e rm_X6_digestOfPatterns s m args below meth c H locs 0 0 (MQ below (dp_Q D a B (some (.long r)) h) args s rm_X6_digestOfPatterns.cells rm_X6_digestOfPatterns.slots (fun q => B ≤ q)) (F0 m 5 ls []) := by
  intro n
  induction n with
  | zero => intro x0 x3 x5 hm; cases hm
  | succ n ih => intro x0 x3 x5 hm; exact v_X6_digestOfPatterns_5 X hr ih x0 x3 x5 hm
theorem ck_X6_digestOfPatterns {h : dp_H} {x0 : Nat} {x1 : Int64} {r : Int64} (hm : m_X6_digestOfPatterns h x0 x1 = some r) : dp_is h x0 6 = true := (dp_ck_e hm).1
set_option maxRecDepth 100000 in
set_option maxHeartbeats 4000000 in
theorem c_X6_digestOfPatterns (l : Launch) (D : va_G) (a : dp_A) (B : Nat) (h : dp_H) (x0 : Nat) (x1 : Int64) {r : Int64} (hm : m_X6_digestOfPatterns h x0 x1 = some r) : dp_M l D a B yX6_digestOfPatterns cX6_digestOfPatterns 7 (some .long) rm_X6_digestOfPatterns [.ref (B + x0), .long x1] h (some (.long r)) h := by
  refine dp_M.of (own := RX6) (nm := "digestOfPatterns") (by decide) rfl rfl (Nat.le_of_ble_eq_true rfl) ?_
  intro p e s m below meth c ls X hr hin hw hl
  have hl : lv_has ls 7 [(0, .ref (B + x0)), (1, .long x1)] := hl
  obtain ⟨hx, hb, hml, hown, hlk, hK, hB⟩ := id X
  unfold m_X6_digestOfPatterns at hm
  obtain ⟨hck, hm⟩ := dp_ck_e hm
  refine lv_lload_n hx hb dX6_digestOfPatterns_0 rfl (lv_at hl 1 rfl) ?_
  refine lv_lstore_n (lv' := [(3, .long x1), (0, .ref (B + x0)), (1, .long x1)]) hx hb dX6_digestOfPatterns_1 rfl hl (by decide) rfl (fun ls hl => ?_)
  refine lv_iconst (v := 0) hx hb dX6_digestOfPatterns_2 (by decide) ?_
  refine lv_istore (lv' := [(5, .int 0), (3, .long x1), (0, .ref (B + x0)), (1, .long x1)]) hx hb dX6_digestOfPatterns_3 hl (by decide) rfl (fun ls hl => ?_)
  exact w_X6_digestOfPatterns_5 X hr 64 x0 x1 0 hm _ _ _ hw (lv_sub hl [2, 1, 0] rfl)
set_option maxRecDepth 100000 in
set_option maxHeartbeats 4000000 in
theorem v_X6_digestOfClashes_23 {p : Program} {l : Launch} {e : Env} {s : State} {m : MethodId} {args : Array Value} {below : List Frame} {meth : Method} {c : Code} {D : va_G} {a : dp_A} {B : Nat} (X : dp_X p s m meth c cX6_digestOfClashes 7 RX6 D a B) (hr : meth.sig.returnType = (some .long)) {h : dp_H} {r : Int64} {k5 : Nat → Int64 → Int32 → Option Int64} (hk5 : ∀ (x0 : Nat) (x3 : Int64) (x5 : Int32), k5 x0 x3 x5 = some r → ∀ (H : Heap) (locs : List Loc) (ls : Array Slot), dp_w D a B h s.heap H locs → lv_has ls 7 [(0, .ref (B + x0)), (3, .long x3), (5, .int x5)] → W p l e rm_X6_digestOfClashes s m args below meth c H locs 0 0 (MQ below (dp_Q D a B (some (.long r)) h) args s rm_X6_digestOfClashes.cells rm_X6_digestOfClashes.slots (fun q => B ≤ q)) (F0 m 5 ls [])) {k23 : Nat → Int64 → Int32 → Int32 → Option Int64} (hk23 : ∀ (x0 : Nat) (x3 : Int64) (x5 : Int32) (x6 : Int32), k23 x0 x3 x5 x6 = some r → ∀ (H : Heap) (locs : List Loc) (ls : Array Slot), dp_w D a B h s.heap H locs → lv_has ls 7 [(0, .ref (B + x0)), (3, .long x3), (5, .int x5), (6, .int x6)] → W p l e rm_X6_digestOfClashes s m args below meth c H locs 0 0 (MQ below (dp_Q D a B (some (.long r)) h) args s rm_X6_digestOfClashes.cells rm_X6_digestOfClashes.slots (fun q => B ≤ q)) (F0 m 23 ls [])) : ∀ (x0 : Nat) (x3 : Int64) (x5 : Int32) (x6 : Int32), b_X6_digestOfClashes_23 h k5 k23 x0 x3 x5 x6 = some r → ∀ (H : Heap) (locs : List Loc) (ls : Array Slot), dp_w D a B h s.heap H locs → lv_has ls 7 [(0, .ref (B + x0)), (3, .long x3), (5, .int x5), (6, .int x6)] → W p l e rm_X6_digestOfClashes s m args below meth c H locs 0 0 (MQ below (dp_Q D a B (some (.long r)) h) args s rm_X6_digestOfClashes.cells rm_X6_digestOfClashes.slots (fun q => B ≤ q)) (F0 m 23 ls []) := by
  intro x0 x3 x5 x6 hm H locs ls hw hl
  obtain ⟨hx, hb, hml, hown, hlk, hK, hB⟩ := id X
  unfold b_X6_digestOfClashes_23 at hm
  refine lv_iload hx hb dX6_digestOfClashes_23 (lv_at hl 3 rfl) ?_
  refine lv_aload_n hx hb dX6_digestOfClashes_25 rfl (lv_at hl 0 rfl) ?_
  obtain ⟨v1, ev1, hm⟩ := dp_ob hm
  refine dp_getr X hw cl_X6 2 (by decide) fl_X6_28 ev1 dX6_digestOfClashes_26 ?_
  obtain ⟨v2, ev2, hm⟩ := dp_ob hm
  refine dp_cV (As := []) (rest := [.int x6]) X hw (c_X3_size l D a B h v1 ev2) vm_X3_size ml_X6_78 (by decide) rfl rfl (ck_X3_size ev2) rfl rfl hl.1 rfl (Nat.le_of_ble_eq_true rfl) dX6_digestOfClashes_29 ⟨(Nat.zero_le _), (Nat.zero_le _)⟩ (fun H locs hw => ?_)
  refine lv_icmp_ge (tgt := 71) hx hb dX6_digestOfClashes_32 (by decide) (fun hc => ?_) (fun hc => ?_)
  · have hm := dp_ip hc hm
    refine lv_iinc (v := (x5 + 1)) (lv' := [(5, .int (x5 + 1)), (0, .ref (B + x0)), (3, .long x3), (6, .int x6)]) hx hb dX6_digestOfClashes_71 hl (k := 2) rfl rfl (by decide) rfl (fun ls hl => ?_)
    refine lv_goto (tgt := 5) hx hb dX6_digestOfClashes_74 (by decide) ?_
    exact hk5 x0 x3 (x5 + 1) hm _ _ _ hw (lv_sub hl [1, 2, 0] rfl)
  · have hm := dp_in hc hm
    refine lv_aload_n hx hb dX6_digestOfClashes_35 rfl (lv_at hl 0 rfl) ?_
    obtain ⟨v3, ev3, hm⟩ := dp_ob hm
    refine dp_getr X hw cl_X6 2 (by decide) fl_X6_28 ev3 dX6_digestOfClashes_36 ?_
    refine lv_iload hx hb dX6_digestOfClashes_39 (lv_at hl 2 rfl) ?_
    refine lv_iload hx hb dX6_digestOfClashes_41 (lv_at hl 3 rfl) ?_
    obtain ⟨v4, ev4, hm⟩ := dp_ob hm
    refine dp_cV (As := [.int x5, .int x6]) (rest := []) X hw (c_X3_isClash l D a B h v3 x5 x6 ev4) vm_X3_isClash ml_X6_114 (by decide) rfl rfl (ck_X3_isClash ev4) rfl rfl hl.1 rfl (Nat.le_of_ble_eq_true rfl) dX6_digestOfClashes_43 ⟨(Nat.zero_le _), (Nat.zero_le _)⟩ (fun H locs hw => ?_)
    refine lv_if_eq (tgt := 65) hx hb dX6_digestOfClashes_46 (by decide) (fun hc => ?_) (fun hc => ?_)
    · have hm := dp_ip hc hm
      refine lv_iinc (v := (x6 + 1)) (lv' := [(6, .int (x6 + 1)), (0, .ref (B + x0)), (3, .long x3), (5, .int x5)]) hx hb dX6_digestOfClashes_65 hl (k := 3) rfl rfl (by decide) rfl (fun ls hl => ?_)
      refine lv_goto (tgt := 23) hx hb dX6_digestOfClashes_68 (by decide) ?_
      exact hk23 x0 x3 x5 (x6 + 1) hm _ _ _ hw (lv_sub hl [1, 2, 3, 0] rfl)
    · have hm := dp_in hc hm
      refine lv_ldc2 (v := 31) hx hb hown (hK.word kl_X6_220 rfl) dX6_digestOfClashes_49 ?_
      refine lv_lload_n hx hb dX6_digestOfClashes_52 rfl (lv_at hl 1 rfl) ?_
      refine lv_lmul hx hb dX6_digestOfClashes_53 ?_
      refine lv_bipush (v := 16) hx hb dX6_digestOfClashes_54 (by decide) ?_
      refine lv_iload hx hb dX6_digestOfClashes_56 (lv_at hl 2 rfl) ?_
      refine lv_imul hx hb dX6_digestOfClashes_58 ?_
      refine lv_iload hx hb dX6_digestOfClashes_59 (lv_at hl 3 rfl) ?_
      refine lv_iadd hx hb dX6_digestOfClashes_61 ?_
      refine lv_i2l (v := (Int32.toInt64 ((16 * x5) + x6))) hx hb dX6_digestOfClashes_62 rfl ?_
      refine lv_ladd hx hb dX6_digestOfClashes_63 ?_
      refine lv_lstore_n (lv' := [(3, .long ((31 * x3) + (Int32.toInt64 ((16 * x5) + x6)))), (0, .ref (B + x0)), (5, .int x5), (6, .int x6)]) hx hb dX6_digestOfClashes_64 rfl hl (by decide) rfl (fun ls hl => ?_)
      refine lv_iinc (v := (x6 + 1)) (lv' := [(6, .int (x6 + 1)), (3, .long ((31 * x3) + (Int32.toInt64 ((16 * x5) + x6)))), (0, .ref (B + x0)), (5, .int x5)]) hx hb dX6_digestOfClashes_65 hl (k := 3) rfl rfl (by decide) rfl (fun ls hl => ?_)
      refine lv_goto (tgt := 23) hx hb dX6_digestOfClashes_68 (by decide) ?_
      exact hk23 x0 ((31 * x3) + (Int32.toInt64 ((16 * x5) + x6))) x5 (x6 + 1) hm _ _ _ hw (lv_sub hl [2, 1, 3, 0] rfl)
set_option maxRecDepth 100000 in
set_option maxHeartbeats 4000000 in
theorem w_X6_digestOfClashes_23 {p : Program} {l : Launch} {e : Env} {s : State} {m : MethodId} {args : Array Value} {below : List Frame} {meth : Method} {c : Code} {D : va_G} {a : dp_A} {B : Nat} (X : dp_X p s m meth c cX6_digestOfClashes 7 RX6 D a B) (hr : meth.sig.returnType = (some .long)) {h : dp_H} {r : Int64} {k5 : Nat → Int64 → Int32 → Option Int64} (hk5 : ∀ (x0 : Nat) (x3 : Int64) (x5 : Int32), k5 x0 x3 x5 = some r → ∀ (H : Heap) (locs : List Loc) (ls : Array Slot), dp_w D a B h s.heap H locs → lv_has ls 7 [(0, .ref (B + x0)), (3, .long x3), (5, .int x5)] → W p l e rm_X6_digestOfClashes s m args below meth c H locs 0 0 (MQ below (dp_Q D a B (some (.long r)) h) args s rm_X6_digestOfClashes.cells rm_X6_digestOfClashes.slots (fun q => B ≤ q)) (F0 m 5 ls [])) : ∀ (n : Nat) (x0 : Nat) (x3 : Int64) (x5 : Int32) (x6 : Int32), m_X6_digestOfClashes_23 h k5 n x0 x3 x5 x6 = some r → ∀ (H : Heap) (locs : List Loc) (ls : Array Slot), dp_w D a B h s.heap H locs → lv_has ls 7 [(0, .ref (B + x0)), (3, .long x3), (5, .int x5), (6, .int x6)] → W p l e rm_X6_digestOfClashes s m args below meth c H locs 0 0 (MQ below (dp_Q D a B (some (.long r)) h) args s rm_X6_digestOfClashes.cells rm_X6_digestOfClashes.slots (fun q => B ≤ q)) (F0 m 23 ls []) := by
  intro n
  induction n with
  | zero => intro x0 x3 x5 x6 hm; cases hm
  | succ n ih => intro x0 x3 x5 x6 hm; exact v_X6_digestOfClashes_23 X hr hk5 ih x0 x3 x5 x6 hm
set_option maxRecDepth 100000 in
set_option maxHeartbeats 4000000 in
theorem v_X6_digestOfClashes_5 {p : Program} {l : Launch} {e : Env} {s : State} {m : MethodId} {args : Array Value} {below : List Frame} {meth : Method} {c : Code} {D : va_G} {a : dp_A} {B : Nat} (X : dp_X p s m meth c cX6_digestOfClashes 7 RX6 D a B) (hr : meth.sig.returnType = (some .long)) {h : dp_H} {r : Int64} {k5 : Nat → Int64 → Int32 → Option Int64} (hk5 : ∀ (x0 : Nat) (x3 : Int64) (x5 : Int32), k5 x0 x3 x5 = some r → ∀ (H : Heap) (locs : List Loc) (ls : Array Slot), dp_w D a B h s.heap H locs → lv_has ls 7 [(0, .ref (B + x0)), (3, .long x3), (5, .int x5)] → W p l e rm_X6_digestOfClashes s m args below meth c H locs 0 0 (MQ below (dp_Q D a B (some (.long r)) h) args s rm_X6_digestOfClashes.cells rm_X6_digestOfClashes.slots (fun q => B ≤ q)) (F0 m 5 ls [])) : ∀ (x0 : Nat) (x3 : Int64) (x5 : Int32), b_X6_digestOfClashes_5 h k5 x0 x3 x5 = some r → ∀ (H : Heap) (locs : List Loc) (ls : Array Slot), dp_w D a B h s.heap H locs → lv_has ls 7 [(0, .ref (B + x0)), (3, .long x3), (5, .int x5)] → W p l e rm_X6_digestOfClashes s m args below meth c H locs 0 0 (MQ below (dp_Q D a B (some (.long r)) h) args s rm_X6_digestOfClashes.cells rm_X6_digestOfClashes.slots (fun q => B ≤ q)) (F0 m 5 ls []) := by
  intro x0 x3 x5 hm H locs ls hw hl
  obtain ⟨hx, hb, hml, hown, hlk, hK, hB⟩ := id X
  unfold b_X6_digestOfClashes_5 at hm
  refine lv_iload hx hb dX6_digestOfClashes_5 (lv_at hl 2 rfl) ?_
  refine lv_aload_n hx hb dX6_digestOfClashes_7 rfl (lv_at hl 0 rfl) ?_
  obtain ⟨v1, ev1, hm⟩ := dp_ob hm
  refine dp_getr X hw cl_X6 2 (by decide) fl_X6_28 ev1 dX6_digestOfClashes_8 ?_
  obtain ⟨v2, ev2, hm⟩ := dp_ob hm
  refine dp_cV (As := []) (rest := [.int x5]) X hw (c_X3_size l D a B h v1 ev2) vm_X3_size ml_X6_78 (by decide) rfl rfl (ck_X3_size ev2) rfl rfl hl.1 rfl (Nat.le_of_ble_eq_true rfl) dX6_digestOfClashes_11 ⟨(Nat.zero_le _), (Nat.zero_le _)⟩ (fun H locs hw => ?_)
  refine lv_icmp_ge (tgt := 77) hx hb dX6_digestOfClashes_14 (by decide) (fun hc => ?_) (fun hc => ?_)
  · have hm := dp_ip hc hm
    refine lv_lload_n hx hb dX6_digestOfClashes_77 rfl (lv_at hl 1 rfl) ?_
    cases hm
    exact dp_lret X hr hw dX6_digestOfClashes_78
  · have hm := dp_in hc hm
    refine lv_iload hx hb dX6_digestOfClashes_17 (lv_at hl 2 rfl) ?_
    refine lv_iconst (v := 1) hx hb dX6_digestOfClashes_19 (by decide) ?_
    refine lv_iadd hx hb dX6_digestOfClashes_20 ?_
    refine lv_istore (lv' := [(6, .int (x5 + 1)), (0, .ref (B + x0)), (3, .long x3), (5, .int x5)]) hx hb dX6_digestOfClashes_21 hl (by decide) rfl (fun ls hl => ?_)
    exact w_X6_digestOfClashes_23 X hr hk5 64 x0 x3 x5 (x5 + 1) hm _ _ _ hw (lv_sub hl [1, 2, 3, 0] rfl)
set_option maxRecDepth 100000 in
set_option maxHeartbeats 4000000 in
theorem w_X6_digestOfClashes_5 {p : Program} {l : Launch} {e : Env} {s : State} {m : MethodId} {args : Array Value} {below : List Frame} {meth : Method} {c : Code} {D : va_G} {a : dp_A} {B : Nat} (X : dp_X p s m meth c cX6_digestOfClashes 7 RX6 D a B) (hr : meth.sig.returnType = (some .long)) {h : dp_H} {r : Int64}  : ∀ (n : Nat) (x0 : Nat) (x3 : Int64) (x5 : Int32), m_X6_digestOfClashes_5 h  n x0 x3 x5 = some r → ∀ (H : Heap) (locs : List Loc) (ls : Array Slot), dp_w D a B h s.heap H locs → lv_has ls 7 [(0, .ref (B + x0)), (3, .long x3), (5, .int x5)] → W p l e rm_X6_digestOfClashes s m args below meth c H locs 0 0 (MQ below (dp_Q D a B (some (.long r)) h) args s rm_X6_digestOfClashes.cells rm_X6_digestOfClashes.slots (fun q => B ≤ q)) (F0 m 5 ls []) := by
  intro n
  induction n with
  | zero => intro x0 x3 x5 hm; cases hm
  | succ n ih => intro x0 x3 x5 hm; exact v_X6_digestOfClashes_5 X hr ih x0 x3 x5 hm
theorem ck_X6_digestOfClashes {h : dp_H} {x0 : Nat} {x1 : Int64} {r : Int64} (hm : m_X6_digestOfClashes h x0 x1 = some r) : dp_is h x0 6 = true := (dp_ck_e hm).1
set_option maxRecDepth 100000 in
set_option maxHeartbeats 4000000 in
theorem c_X6_digestOfClashes (l : Launch) (D : va_G) (a : dp_A) (B : Nat) (h : dp_H) (x0 : Nat) (x1 : Int64) {r : Int64} (hm : m_X6_digestOfClashes h x0 x1 = some r) : dp_M l D a B yX6_digestOfClashes cX6_digestOfClashes 7 (some .long) rm_X6_digestOfClashes [.ref (B + x0), .long x1] h (some (.long r)) h := by
  refine dp_M.of (own := RX6) (nm := "digestOfClashes") (by decide) rfl rfl (Nat.le_of_ble_eq_true rfl) ?_
  intro p e s m below meth c ls X hr hin hw hl
  have hl : lv_has ls 7 [(0, .ref (B + x0)), (1, .long x1)] := hl
  obtain ⟨hx, hb, hml, hown, hlk, hK, hB⟩ := id X
  unfold m_X6_digestOfClashes at hm
  obtain ⟨hck, hm⟩ := dp_ck_e hm
  refine lv_lload_n hx hb dX6_digestOfClashes_0 rfl (lv_at hl 1 rfl) ?_
  refine lv_lstore_n (lv' := [(3, .long x1), (0, .ref (B + x0)), (1, .long x1)]) hx hb dX6_digestOfClashes_1 rfl hl (by decide) rfl (fun ls hl => ?_)
  refine lv_iconst (v := 0) hx hb dX6_digestOfClashes_2 (by decide) ?_
  refine lv_istore (lv' := [(5, .int 0), (3, .long x1), (0, .ref (B + x0)), (1, .long x1)]) hx hb dX6_digestOfClashes_3 hl (by decide) rfl (fun ls hl => ?_)
  exact w_X6_digestOfClashes_5 X hr 64 x0 x1 0 hm _ _ _ hw (lv_sub hl [2, 1, 0] rfl)
set_option maxRecDepth 100000 in
set_option maxHeartbeats 4000000 in
theorem v_X6_digest_108 {p : Program} {l : Launch} {e : Env} {s : State} {m : MethodId} {args : Array Value} {below : List Frame} {meth : Method} {c : Code} {D : va_G} {a : dp_A} {B : Nat} (X : dp_X p s m meth c cX6_digest 4 RX6 D a B) (hr : meth.sig.returnType = (some .long)) {h' : dp_H} {r : Int64} {k108 : dp_H → Nat → Int64 → Int32 → Option (dp_H × Int64)} (hk108 : ∀ (h : dp_H) (x0 : Nat) (x1 : Int64) (x3 : Int32), k108 h x0 x1 x3 = some (h', r) → ∀ (H : Heap) (locs : List Loc) (ls : Array Slot), dp_w D a B h s.heap H locs → lv_has ls 4 [(0, .ref (B + x0)), (1, .long x1), (3, .int x3)] → W p l e rm_X6_digest s m args below meth c H locs 0 0 (MQ below (dp_Q D a B (some (.long r)) h') args s rm_X6_digest.cells rm_X6_digest.slots (fun q => B ≤ q)) (F0 m 108 ls [])) : ∀ (h : dp_H) (x0 : Nat) (x1 : Int64) (x3 : Int32), b_X6_digest_108 k108 h x0 x1 x3 = some (h', r) → ∀ (H : Heap) (locs : List Loc) (ls : Array Slot), dp_w D a B h s.heap H locs → lv_has ls 4 [(0, .ref (B + x0)), (1, .long x1), (3, .int x3)] → W p l e rm_X6_digest s m args below meth c H locs 0 0 (MQ below (dp_Q D a B (some (.long r)) h') args s rm_X6_digest.cells rm_X6_digest.slots (fun q => B ≤ q)) (F0 m 108 ls []) := by
  intro h x0 x1 x3 hm H locs ls hw hl
  obtain ⟨hx, hb, hml, hown, hlk, hK, hB⟩ := id X
  unfold b_X6_digest_108 at hm
  refine lv_iload_n hx hb dX6_digest_108 rfl (lv_at hl 2 rfl) ?_
  refine lv_bipush (v := 10) hx hb dX6_digest_109 (by decide) ?_
  refine lv_icmp_ge (tgt := 133) hx hb dX6_digest_111 (by decide) (fun hc => ?_) (fun hc => ?_)
  · have hm := dp_ip hc hm
    refine lv_lload_n hx hb dX6_digest_133 rfl (lv_at hl 1 rfl) ?_
    cases hm
    exact dp_lret X hr hw dX6_digest_134
  · have hm := dp_in hc hm
    refine lv_ldc2 (v := 31) hx hb hown (hK.word kl_X6_220 rfl) dX6_digest_114 ?_
    refine lv_lload_n hx hb dX6_digest_117 rfl (lv_at hl 1 rfl) ?_
    refine lv_lmul hx hb dX6_digest_118 ?_
    refine lv_aload_n hx hb dX6_digest_119 rfl (lv_at hl 0 rfl) ?_
    refine lv_iload_n hx hb dX6_digest_120 rfl (lv_at hl 2 rfl) ?_
    obtain ⟨v1, ev1, hm⟩ := dp_ob hm
    refine dp_cV (As := [.int x3]) (rest := [.long (31 * x1)]) X hw (c_X6_count l D a B h x0 x3 ev1) vm_X6_count ml_X6_225 (by decide) rfl rfl (ck_X6_count ev1) rfl rfl hl.1 rfl (Nat.le_of_ble_eq_true rfl) dX6_digest_121 ⟨(Nat.zero_le _), (Nat.zero_le _)⟩ (fun H locs hw => ?_)
    refine lv_i2l (v := (Int32.toInt64 v1)) hx hb dX6_digest_124 rfl ?_
    refine lv_ladd hx hb dX6_digest_125 ?_
    refine lv_lstore_n (lv' := [(1, .long ((31 * x1) + (Int32.toInt64 v1))), (0, .ref (B + x0)), (3, .int x3)]) hx hb dX6_digest_126 rfl hl (by decide) rfl (fun ls hl => ?_)
    refine lv_iinc (v := (x3 + 1)) (lv' := [(3, .int (x3 + 1)), (1, .long ((31 * x1) + (Int32.toInt64 v1))), (0, .ref (B + x0))]) hx hb dX6_digest_127 hl (k := 2) rfl rfl (by decide) rfl (fun ls hl => ?_)
    refine lv_goto (tgt := 108) hx hb dX6_digest_130 (by decide) ?_
    exact hk108 h x0 ((31 * x1) + (Int32.toInt64 v1)) (x3 + 1) hm _ _ _ hw (lv_sub hl [2, 1, 0] rfl)
set_option maxRecDepth 100000 in
set_option maxHeartbeats 4000000 in
theorem w_X6_digest_108 {p : Program} {l : Launch} {e : Env} {s : State} {m : MethodId} {args : Array Value} {below : List Frame} {meth : Method} {c : Code} {D : va_G} {a : dp_A} {B : Nat} (X : dp_X p s m meth c cX6_digest 4 RX6 D a B) (hr : meth.sig.returnType = (some .long)) {h' : dp_H} {r : Int64}  : ∀ (n : Nat) (h : dp_H) (x0 : Nat) (x1 : Int64) (x3 : Int32), m_X6_digest_108  n h x0 x1 x3 = some (h', r) → ∀ (H : Heap) (locs : List Loc) (ls : Array Slot), dp_w D a B h s.heap H locs → lv_has ls 4 [(0, .ref (B + x0)), (1, .long x1), (3, .int x3)] → W p l e rm_X6_digest s m args below meth c H locs 0 0 (MQ below (dp_Q D a B (some (.long r)) h') args s rm_X6_digest.cells rm_X6_digest.slots (fun q => B ≤ q)) (F0 m 108 ls []) := by
  intro n
  induction n with
  | zero => intro h x0 x1 x3 hm; cases hm
  | succ n ih => intro h x0 x1 x3 hm; exact v_X6_digest_108 X hr ih h x0 x1 x3 hm
set_option maxRecDepth 100000 in
set_option maxHeartbeats 4000000 in
theorem v_X6_digest_73 {p : Program} {l : Launch} {e : Env} {s : State} {m : MethodId} {args : Array Value} {below : List Frame} {meth : Method} {c : Code} {D : va_G} {a : dp_A} {B : Nat} (X : dp_X p s m meth c cX6_digest 4 RX6 D a B) (hr : meth.sig.returnType = (some .long)) {h' : dp_H} {r : Int64} {k73 : dp_H → Nat → Int64 → Int32 → Option (dp_H × Int64)} (hk73 : ∀ (h : dp_H) (x0 : Nat) (x1 : Int64) (x3 : Int32), k73 h x0 x1 x3 = some (h', r) → ∀ (H : Heap) (locs : List Loc) (ls : Array Slot), dp_w D a B h s.heap H locs → lv_has ls 4 [(0, .ref (B + x0)), (1, .long x1), (3, .int x3)] → W p l e rm_X6_digest s m args below meth c H locs 0 0 (MQ below (dp_Q D a B (some (.long r)) h') args s rm_X6_digest.cells rm_X6_digest.slots (fun q => B ≤ q)) (F0 m 73 ls [])) : ∀ (h : dp_H) (x0 : Nat) (x1 : Int64) (x3 : Int32), b_X6_digest_73 k73 h x0 x1 x3 = some (h', r) → ∀ (H : Heap) (locs : List Loc) (ls : Array Slot), dp_w D a B h s.heap H locs → lv_has ls 4 [(0, .ref (B + x0)), (1, .long x1), (3, .int x3)] → W p l e rm_X6_digest s m args below meth c H locs 0 0 (MQ below (dp_Q D a B (some (.long r)) h') args s rm_X6_digest.cells rm_X6_digest.slots (fun q => B ≤ q)) (F0 m 73 ls []) := by
  intro h x0 x1 x3 hm H locs ls hw hl
  obtain ⟨hx, hb, hml, hown, hlk, hK, hB⟩ := id X
  unfold b_X6_digest_73 at hm
  refine lv_iload_n hx hb dX6_digest_73 rfl (lv_at hl 2 rfl) ?_
  refine lv_aload_n hx hb dX6_digest_74 rfl (lv_at hl 0 rfl) ?_
  obtain ⟨v1, ev1, hm⟩ := dp_ob hm
  refine dp_getr X hw cl_X6 0 (by decide) fl_X6_14 ev1 dX6_digest_75 ?_
  obtain ⟨v2, ev2, hm⟩ := dp_ob hm
  refine dp_cV (As := []) (rest := [.int x3]) X hw (c_X5_size l D a B h v1 ev2) vm_X5_size ml_X6_53 (by decide) rfl rfl (ck_X5_size ev2) rfl rfl hl.1 rfl (Nat.le_of_ble_eq_true rfl) dX6_digest_78 ⟨(Nat.zero_le _), (Nat.zero_le _)⟩ (fun H locs hw => ?_)
  refine lv_icmp_ge (tgt := 106) hx hb dX6_digest_81 (by decide) (fun hc => ?_) (fun hc => ?_)
  · have hm := dp_ip hc hm
    refine lv_iconst (v := 0) hx hb dX6_digest_106 (by decide) ?_
    refine lv_istore_n (lv' := [(3, .int 0), (0, .ref (B + x0)), (1, .long x1)]) hx hb dX6_digest_107 rfl hl (by decide) rfl (fun ls hl => ?_)
    exact w_X6_digest_108 X hr 64 h x0 x1 0 hm _ _ _ hw (lv_sub hl [1, 2, 0] rfl)
  · have hm := dp_in hc hm
    refine lv_ldc2 (v := 31) hx hb hown (hK.word kl_X6_220 rfl) dX6_digest_84 ?_
    refine lv_lload_n hx hb dX6_digest_87 rfl (lv_at hl 1 rfl) ?_
    refine lv_lmul hx hb dX6_digest_88 ?_
    refine lv_aload_n hx hb dX6_digest_89 rfl (lv_at hl 0 rfl) ?_
    obtain ⟨v3, ev3, hm⟩ := dp_ob hm
    refine dp_getr X hw cl_X6 0 (by decide) fl_X6_14 ev3 dX6_digest_90 ?_
    refine lv_iload_n hx hb dX6_digest_93 rfl (lv_at hl 2 rfl) ?_
    obtain ⟨v4, ev4, hm⟩ := dp_ob hm
    refine dp_cV (As := [.int x3]) (rest := [.long (31 * x1)]) X hw (c_X5_at l D a B h v3 x3 ev4) vm_X5_at ml_X6_140 (by decide) rfl rfl (ck_X5_at ev4) rfl rfl hl.1 rfl (Nat.le_of_ble_eq_true rfl) dX6_digest_94 ⟨(Nat.zero_le _), (Nat.zero_le _)⟩ (fun H locs hw => ?_)
    refine lv_i2l (v := (Int32.toInt64 v4)) hx hb dX6_digest_97 rfl ?_
    refine lv_ladd hx hb dX6_digest_98 ?_
    refine lv_lstore_n (lv' := [(1, .long ((31 * x1) + (Int32.toInt64 v4))), (0, .ref (B + x0)), (3, .int x3)]) hx hb dX6_digest_99 rfl hl (by decide) rfl (fun ls hl => ?_)
    refine lv_iinc (v := (x3 + 1)) (lv' := [(3, .int (x3 + 1)), (1, .long ((31 * x1) + (Int32.toInt64 v4))), (0, .ref (B + x0))]) hx hb dX6_digest_100 hl (k := 2) rfl rfl (by decide) rfl (fun ls hl => ?_)
    refine lv_goto (tgt := 73) hx hb dX6_digest_103 (by decide) ?_
    exact hk73 h x0 ((31 * x1) + (Int32.toInt64 v4)) (x3 + 1) hm _ _ _ hw (lv_sub hl [2, 1, 0] rfl)
set_option maxRecDepth 100000 in
set_option maxHeartbeats 4000000 in
theorem w_X6_digest_73 {p : Program} {l : Launch} {e : Env} {s : State} {m : MethodId} {args : Array Value} {below : List Frame} {meth : Method} {c : Code} {D : va_G} {a : dp_A} {B : Nat} (X : dp_X p s m meth c cX6_digest 4 RX6 D a B) (hr : meth.sig.returnType = (some .long)) {h' : dp_H} {r : Int64}  : ∀ (n : Nat) (h : dp_H) (x0 : Nat) (x1 : Int64) (x3 : Int32), m_X6_digest_73  n h x0 x1 x3 = some (h', r) → ∀ (H : Heap) (locs : List Loc) (ls : Array Slot), dp_w D a B h s.heap H locs → lv_has ls 4 [(0, .ref (B + x0)), (1, .long x1), (3, .int x3)] → W p l e rm_X6_digest s m args below meth c H locs 0 0 (MQ below (dp_Q D a B (some (.long r)) h') args s rm_X6_digest.cells rm_X6_digest.slots (fun q => B ≤ q)) (F0 m 73 ls []) := by
  intro n
  induction n with
  | zero => intro h x0 x1 x3 hm; cases hm
  | succ n ih => intro h x0 x1 x3 hm; exact v_X6_digest_73 X hr ih h x0 x1 x3 hm
set_option maxRecDepth 100000 in
set_option maxHeartbeats 4000000 in
theorem v_X6_digest_43 {p : Program} {l : Launch} {e : Env} {s : State} {m : MethodId} {args : Array Value} {below : List Frame} {meth : Method} {c : Code} {D : va_G} {a : dp_A} {B : Nat} (X : dp_X p s m meth c cX6_digest 4 RX6 D a B) (hr : meth.sig.returnType = (some .long)) {h' : dp_H} {r : Int64} {k43 : dp_H → Nat → Int64 → Int32 → Option (dp_H × Int64)} (hk43 : ∀ (h : dp_H) (x0 : Nat) (x1 : Int64) (x3 : Int32), k43 h x0 x1 x3 = some (h', r) → ∀ (H : Heap) (locs : List Loc) (ls : Array Slot), dp_w D a B h s.heap H locs → lv_has ls 4 [(0, .ref (B + x0)), (1, .long x1), (3, .int x3)] → W p l e rm_X6_digest s m args below meth c H locs 0 0 (MQ below (dp_Q D a B (some (.long r)) h') args s rm_X6_digest.cells rm_X6_digest.slots (fun q => B ≤ q)) (F0 m 43 ls [])) : ∀ (h : dp_H) (x0 : Nat) (x1 : Int64) (x3 : Int32), b_X6_digest_43 k43 h x0 x1 x3 = some (h', r) → ∀ (H : Heap) (locs : List Loc) (ls : Array Slot), dp_w D a B h s.heap H locs → lv_has ls 4 [(0, .ref (B + x0)), (1, .long x1), (3, .int x3)] → W p l e rm_X6_digest s m args below meth c H locs 0 0 (MQ below (dp_Q D a B (some (.long r)) h') args s rm_X6_digest.cells rm_X6_digest.slots (fun q => B ≤ q)) (F0 m 43 ls []) := by
  intro h x0 x1 x3 hm H locs ls hw hl
  obtain ⟨hx, hb, hml, hown, hlk, hK, hB⟩ := id X
  unfold b_X6_digest_43 at hm
  refine lv_iload_n hx hb dX6_digest_43 rfl (lv_at hl 2 rfl) ?_
  refine lv_bipush (v := 10) hx hb dX6_digest_44 (by decide) ?_
  refine lv_icmp_ge (tgt := 71) hx hb dX6_digest_46 (by decide) (fun hc => ?_) (fun hc => ?_)
  · have hm := dp_ip hc hm
    refine lv_iconst (v := 0) hx hb dX6_digest_71 (by decide) ?_
    refine lv_istore_n (lv' := [(3, .int 0), (0, .ref (B + x0)), (1, .long x1)]) hx hb dX6_digest_72 rfl hl (by decide) rfl (fun ls hl => ?_)
    exact w_X6_digest_73 X hr 64 h x0 x1 0 hm _ _ _ hw (lv_sub hl [1, 2, 0] rfl)
  · have hm := dp_in hc hm
    refine lv_ldc2 (v := 31) hx hb hown (hK.word kl_X6_220 rfl) dX6_digest_49 ?_
    refine lv_lload_n hx hb dX6_digest_52 rfl (lv_at hl 1 rfl) ?_
    refine lv_lmul hx hb dX6_digest_53 ?_
    refine lv_aload_n hx hb dX6_digest_54 rfl (lv_at hl 0 rfl) ?_
    refine lv_bipush (v := 10) hx hb dX6_digest_55 (by decide) ?_
    refine lv_iload_n hx hb dX6_digest_57 rfl (lv_at hl 2 rfl) ?_
    refine lv_iadd hx hb dX6_digest_58 ?_
    obtain ⟨h1, v2, ev2, hm⟩ := dp_ob2 hm
    refine dp_cV (As := [.int (10 + x3)]) (rest := [.long (31 * x1)]) X hw (c_X6_line l D a B h x0 (10 + x3) ev2) vm_X6_line ml_X6_222 (by decide) rfl rfl (ck_X6_line ev2) rfl rfl hl.1 rfl (Nat.le_of_ble_eq_true rfl) dX6_digest_59 ⟨(Nat.zero_le _), (Nat.zero_le _)⟩ (fun H locs hw => ?_)
    refine lv_i2l (v := (Int32.toInt64 v2)) hx hb dX6_digest_62 rfl ?_
    refine lv_ladd hx hb dX6_digest_63 ?_
    refine lv_lstore_n (lv' := [(1, .long ((31 * x1) + (Int32.toInt64 v2))), (0, .ref (B + x0)), (3, .int x3)]) hx hb dX6_digest_64 rfl hl (by decide) rfl (fun ls hl => ?_)
    refine lv_iinc (v := (x3 + 1)) (lv' := [(3, .int (x3 + 1)), (1, .long ((31 * x1) + (Int32.toInt64 v2))), (0, .ref (B + x0))]) hx hb dX6_digest_65 hl (k := 2) rfl rfl (by decide) rfl (fun ls hl => ?_)
    refine lv_goto (tgt := 43) hx hb dX6_digest_68 (by decide) ?_
    exact hk43 h1 x0 ((31 * x1) + (Int32.toInt64 v2)) (x3 + 1) hm _ _ _ hw (lv_sub hl [2, 1, 0] rfl)
set_option maxRecDepth 100000 in
set_option maxHeartbeats 4000000 in
theorem w_X6_digest_43 {p : Program} {l : Launch} {e : Env} {s : State} {m : MethodId} {args : Array Value} {below : List Frame} {meth : Method} {c : Code} {D : va_G} {a : dp_A} {B : Nat} (X : dp_X p s m meth c cX6_digest 4 RX6 D a B) (hr : meth.sig.returnType = (some .long)) {h' : dp_H} {r : Int64}  : ∀ (n : Nat) (h : dp_H) (x0 : Nat) (x1 : Int64) (x3 : Int32), m_X6_digest_43  n h x0 x1 x3 = some (h', r) → ∀ (H : Heap) (locs : List Loc) (ls : Array Slot), dp_w D a B h s.heap H locs → lv_has ls 4 [(0, .ref (B + x0)), (1, .long x1), (3, .int x3)] → W p l e rm_X6_digest s m args below meth c H locs 0 0 (MQ below (dp_Q D a B (some (.long r)) h') args s rm_X6_digest.cells rm_X6_digest.slots (fun q => B ≤ q)) (F0 m 43 ls []) := by
  intro n
  induction n with
  | zero => intro h x0 x1 x3 hm; cases hm
  | succ n ih => intro h x0 x1 x3 hm; exact v_X6_digest_43 X hr ih h x0 x1 x3 hm
set_option maxRecDepth 100000 in
set_option maxHeartbeats 4000000 in
theorem v_X6_digest_16 {p : Program} {l : Launch} {e : Env} {s : State} {m : MethodId} {args : Array Value} {below : List Frame} {meth : Method} {c : Code} {D : va_G} {a : dp_A} {B : Nat} (X : dp_X p s m meth c cX6_digest 4 RX6 D a B) (hr : meth.sig.returnType = (some .long)) {h' : dp_H} {r : Int64} {k16 : dp_H → Nat → Int64 → Int32 → Option (dp_H × Int64)} (hk16 : ∀ (h : dp_H) (x0 : Nat) (x1 : Int64) (x3 : Int32), k16 h x0 x1 x3 = some (h', r) → ∀ (H : Heap) (locs : List Loc) (ls : Array Slot), dp_w D a B h s.heap H locs → lv_has ls 4 [(0, .ref (B + x0)), (1, .long x1), (3, .int x3)] → W p l e rm_X6_digest s m args below meth c H locs 0 0 (MQ below (dp_Q D a B (some (.long r)) h') args s rm_X6_digest.cells rm_X6_digest.slots (fun q => B ≤ q)) (F0 m 16 ls [])) : ∀ (h : dp_H) (x0 : Nat) (x1 : Int64) (x3 : Int32), b_X6_digest_16 k16 h x0 x1 x3 = some (h', r) → ∀ (H : Heap) (locs : List Loc) (ls : Array Slot), dp_w D a B h s.heap H locs → lv_has ls 4 [(0, .ref (B + x0)), (1, .long x1), (3, .int x3)] → W p l e rm_X6_digest s m args below meth c H locs 0 0 (MQ below (dp_Q D a B (some (.long r)) h') args s rm_X6_digest.cells rm_X6_digest.slots (fun q => B ≤ q)) (F0 m 16 ls []) := by
  intro h x0 x1 x3 hm H locs ls hw hl
  obtain ⟨hx, hb, hml, hown, hlk, hK, hB⟩ := id X
  unfold b_X6_digest_16 at hm
  refine lv_iload_n hx hb dX6_digest_16 rfl (lv_at hl 2 rfl) ?_
  refine lv_bipush (v := 8) hx hb dX6_digest_17 (by decide) ?_
  refine lv_icmp_ge (tgt := 41) hx hb dX6_digest_19 (by decide) (fun hc => ?_) (fun hc => ?_)
  · have hm := dp_ip hc hm
    refine lv_iconst (v := 0) hx hb dX6_digest_41 (by decide) ?_
    refine lv_istore_n (lv' := [(3, .int 0), (0, .ref (B + x0)), (1, .long x1)]) hx hb dX6_digest_42 rfl hl (by decide) rfl (fun ls hl => ?_)
    exact w_X6_digest_43 X hr 64 h x0 x1 0 hm _ _ _ hw (lv_sub hl [1, 2, 0] rfl)
  · have hm := dp_in hc hm
    refine lv_ldc2 (v := 31) hx hb hown (hK.word kl_X6_220 rfl) dX6_digest_22 ?_
    refine lv_lload_n hx hb dX6_digest_25 rfl (lv_at hl 1 rfl) ?_
    refine lv_lmul hx hb dX6_digest_26 ?_
    refine lv_aload_n hx hb dX6_digest_27 rfl (lv_at hl 0 rfl) ?_
    refine lv_iload_n hx hb dX6_digest_28 rfl (lv_at hl 2 rfl) ?_
    obtain ⟨h1, v2, ev2, hm⟩ := dp_ob2 hm
    refine dp_cV (As := [.int x3]) (rest := [.long (31 * x1)]) X hw (c_X6_line l D a B h x0 x3 ev2) vm_X6_line ml_X6_222 (by decide) rfl rfl (ck_X6_line ev2) rfl rfl hl.1 rfl (Nat.le_of_ble_eq_true rfl) dX6_digest_29 ⟨(Nat.zero_le _), (Nat.zero_le _)⟩ (fun H locs hw => ?_)
    refine lv_i2l (v := (Int32.toInt64 v2)) hx hb dX6_digest_32 rfl ?_
    refine lv_ladd hx hb dX6_digest_33 ?_
    refine lv_lstore_n (lv' := [(1, .long ((31 * x1) + (Int32.toInt64 v2))), (0, .ref (B + x0)), (3, .int x3)]) hx hb dX6_digest_34 rfl hl (by decide) rfl (fun ls hl => ?_)
    refine lv_iinc (v := (x3 + 1)) (lv' := [(3, .int (x3 + 1)), (1, .long ((31 * x1) + (Int32.toInt64 v2))), (0, .ref (B + x0))]) hx hb dX6_digest_35 hl (k := 2) rfl rfl (by decide) rfl (fun ls hl => ?_)
    refine lv_goto (tgt := 16) hx hb dX6_digest_38 (by decide) ?_
    exact hk16 h1 x0 ((31 * x1) + (Int32.toInt64 v2)) (x3 + 1) hm _ _ _ hw (lv_sub hl [2, 1, 0] rfl)
set_option maxRecDepth 100000 in
set_option maxHeartbeats 4000000 in
theorem w_X6_digest_16 {p : Program} {l : Launch} {e : Env} {s : State} {m : MethodId} {args : Array Value} {below : List Frame} {meth : Method} {c : Code} {D : va_G} {a : dp_A} {B : Nat} (X : dp_X p s m meth c cX6_digest 4 RX6 D a B) (hr : meth.sig.returnType = (some .long)) {h' : dp_H} {r : Int64}  : ∀ (n : Nat) (h : dp_H) (x0 : Nat) (x1 : Int64) (x3 : Int32), m_X6_digest_16  n h x0 x1 x3 = some (h', r) → ∀ (H : Heap) (locs : List Loc) (ls : Array Slot), dp_w D a B h s.heap H locs → lv_has ls 4 [(0, .ref (B + x0)), (1, .long x1), (3, .int x3)] → W p l e rm_X6_digest s m args below meth c H locs 0 0 (MQ below (dp_Q D a B (some (.long r)) h') args s rm_X6_digest.cells rm_X6_digest.slots (fun q => B ≤ q)) (F0 m 16 ls []) := by
  intro n
  induction n with
  | zero => intro h x0 x1 x3 hm; cases hm
  | succ n ih => intro h x0 x1 x3 hm; exact v_X6_digest_16 X hr ih h x0 x1 x3 hm
theorem ck_X6_digest {h : dp_H} {x0 : Nat} {h' : dp_H} {r : Int64} (hm : m_X6_digest h x0 = some (h', r)) : dp_is h x0 6 = true := (dp_ck_e hm).1
set_option maxRecDepth 100000 in
set_option maxHeartbeats 4000000 in
theorem c_X6_digest (l : Launch) (D : va_G) (a : dp_A) (B : Nat) (h : dp_H) (x0 : Nat) {h' : dp_H} {r : Int64} (hm : m_X6_digest h x0 = some (h', r)) : dp_M l D a B yX6_digest cX6_digest 4 (some .long) rm_X6_digest [.ref (B + x0)] h (some (.long r)) h' := by
  refine dp_M.of (own := RX6) (nm := "digest") (by decide) rfl rfl (Nat.le_of_ble_eq_true rfl) ?_
  intro p e s m below meth c ls X hr hin hw hl
  have hl : lv_has ls 4 [(0, .ref (B + x0))] := hl
  obtain ⟨hx, hb, hml, hown, hlk, hK, hB⟩ := id X
  unfold m_X6_digest at hm
  obtain ⟨hck, hm⟩ := dp_ck_e hm
  refine lv_aload_n hx hb dX6_digest_0 rfl (lv_at hl 0 rfl) ?_
  refine lv_ldc2 (v := 1669) hx hb hown (hK.word kl_X6_211 rfl) dX6_digest_1 ?_
  obtain ⟨v1, ev1, hm⟩ := dp_ob hm
  refine dp_cV (As := [.long 1669]) (rest := []) X hw (c_X6_digestOfPatterns l D a B h x0 1669 ev1) vm_X6_digestOfPatterns ml_X6_213 (by decide) rfl rfl (ck_X6_digestOfPatterns ev1) rfl rfl hl.1 rfl (Nat.le_of_ble_eq_true rfl) dX6_digest_4 ⟨(Nat.zero_le _), (Nat.zero_le _)⟩ (fun H locs hw => ?_)
  refine lv_lstore_n (lv' := [(1, .long v1), (0, .ref (B + x0))]) hx hb dX6_digest_7 rfl hl (by decide) rfl (fun ls hl => ?_)
  refine lv_aload_n hx hb dX6_digest_8 rfl (lv_at hl 1 rfl) ?_
  refine lv_lload_n hx hb dX6_digest_9 rfl (lv_at hl 0 rfl) ?_
  obtain ⟨v2, ev2, hm⟩ := dp_ob hm
  refine dp_cV (As := [.long v1]) (rest := []) X hw (c_X6_digestOfClashes l D a B h x0 v1 ev2) vm_X6_digestOfClashes ml_X6_217 (by decide) rfl rfl (ck_X6_digestOfClashes ev2) rfl rfl hl.1 rfl (Nat.le_of_ble_eq_true rfl) dX6_digest_10 ⟨(Nat.zero_le _), (Nat.zero_le _)⟩ (fun H locs hw => ?_)
  refine lv_lstore_n (lv' := [(1, .long v2), (0, .ref (B + x0))]) hx hb dX6_digest_13 rfl hl (by decide) rfl (fun ls hl => ?_)
  refine lv_iconst (v := 0) hx hb dX6_digest_14 (by decide) ?_
  refine lv_istore_n (lv' := [(3, .int 0), (1, .long v2), (0, .ref (B + x0))]) hx hb dX6_digest_15 rfl hl (by decide) rfl (fun ls hl => ?_)
  exact w_X6_digest_16 X hr 64 h x0 v2 0 hm _ _ _ hw (lv_sub hl [2, 1, 0] rfl)
theorem ck_X7_init {h : dp_H} {x0 : Nat} {h' : dp_H} (hm : m_X7_init h x0 = some h') : dp_is h x0 7 = true := (dp_ck_e hm).1
set_option maxRecDepth 100000 in
set_option maxHeartbeats 4000000 in
theorem c_X7_init (l : Launch) (D : va_G) (a : dp_A) (B : Nat) (h : dp_H) (x0 : Nat) {h' : dp_H} (hm : m_X7_init h x0 = some h') : dp_M l D a B yX7_init cX7_init 1 none rm_X7_init [.ref (B + x0)] h none h' := by
  refine dp_M.of (own := RX7) (nm := "<init>") (by decide) rfl rfl (Nat.le_of_ble_eq_true rfl) ?_
  intro p e s m below meth c ls X hr hin hw hl
  have hl : lv_has ls 1 [(0, .ref (B + x0))] := hl
  obtain ⟨hx, hb, hml, hown, hlk, hK, hB⟩ := id X
  unfold m_X7_init at hm
  obtain ⟨hck, hm⟩ := dp_ck_e hm
  refine lv_aload_n hx hb dX7_init_0 rfl (lv_at hl 0 rfl) ?_
  refine W.objInit hx hb hown (hK.word ml_X7_1 rfl) (hK.word obj_inst rfl) (hK.word obj_code rfl) rfl (hl.1.trans hml.symm) rfl dX7_init_1 (Nat.le_of_ble_eq_true rfl) (Nat.le_of_ble_eq_true rfl) ?_
  refine W.eq (g2 := F0 m 4 ls []) rfl ?_
  refine lv_aload_n hx hb dX7_init_4 rfl (lv_at hl 0 rfl) ?_
  refine lv_bipush (v := 52) hx hb dX7_init_5 (by decide) ?_
  obtain ⟨h1, eh1, hm⟩ := dp_ob hm
  refine dp_newi X hw ac_i eh1 (by decide) (by decide) dX7_init_7 (fun H hw => ?_)
  obtain ⟨h2, eh2, hm⟩ := dp_ob hm
  refine dp_putFr X hin hw cl_X7 1 (by decide) fl_X7_7 rfl rfl (Or.inr ⟨_, rfl⟩) eh2 dX7_init_9 (fun H locs hw => ?_)
  refine lv_aload_n hx hb dX7_init_12 rfl (lv_at hl 0 rfl) ?_
  refine lv_bipush (v := 10) hx hb dX7_init_13 (by decide) ?_
  obtain ⟨h3, eh3, hm⟩ := dp_ob hm
  refine dp_newi X hw ac_i eh3 (by decide) (by decide) dX7_init_15 (fun H hw => ?_)
  obtain ⟨h4, eh4, hm⟩ := dp_ob hm
  refine dp_putFr X hin hw cl_X7 3 (by decide) fl_X7_13 rfl rfl (Or.inr ⟨_, rfl⟩) eh4 dX7_init_17 (fun H locs hw => ?_)
  refine lv_aload_n hx hb dX7_init_20 rfl (lv_at hl 0 rfl) ?_
  refine lv_bipush (v := 10) hx hb dX7_init_21 (by decide) ?_
  obtain ⟨h5, eh5, hm⟩ := dp_ob hm
  refine dp_newz X hw ac_z eh5 (by decide) (by decide) dX7_init_23 (fun H hw => ?_)
  obtain ⟨h6, eh6, hm⟩ := dp_ob hm
  refine dp_putFr X hin hw cl_X7 4 (by decide) fl_X7_16 rfl rfl (Or.inr ⟨_, rfl⟩) eh6 dX7_init_25 (fun H locs hw => ?_)
  refine lv_aload_n hx hb dX7_init_28 rfl (lv_at hl 0 rfl) ?_
  refine lv_bipush (v := 80) hx hb dX7_init_29 (by decide) ?_
  obtain ⟨h7, eh7, hm⟩ := dp_ob hm
  refine dp_newi X hw ac_i eh7 (by decide) (by decide) dX7_init_31 (fun H hw => ?_)
  obtain ⟨h8, eh8, hm⟩ := dp_ob hm
  refine dp_putFr X hin hw cl_X7 5 (by decide) fl_X7_20 rfl rfl (Or.inr ⟨_, rfl⟩) eh8 dX7_init_33 (fun H locs hw => ?_)
  refine lv_aload_n hx hb dX7_init_36 rfl (lv_at hl 0 rfl) ?_
  refine lv_bipush (v := 10) hx hb dX7_init_37 (by decide) ?_
  obtain ⟨h9, eh9, hm⟩ := dp_ob hm
  refine dp_newi X hw ac_i eh9 (by decide) (by decide) dX7_init_39 (fun H hw => ?_)
  obtain ⟨h10, eh10, hm⟩ := dp_ob hm
  refine dp_putFr X hin hw cl_X7 6 (by decide) fl_X7_23 rfl rfl (Or.inr ⟨_, rfl⟩) eh10 dX7_init_41 (fun H locs hw => ?_)
  refine lv_aload_n hx hb dX7_init_44 rfl (lv_at hl 0 rfl) ?_
  refine lv_bipush (v := 10) hx hb dX7_init_45 (by decide) ?_
  obtain ⟨h11, eh11, hm⟩ := dp_ob hm
  refine dp_newi X hw ac_i eh11 (by decide) (by decide) dX7_init_47 (fun H hw => ?_)
  obtain ⟨h12, eh12, hm⟩ := dp_ob hm
  refine dp_putFr X hin hw cl_X7 7 (by decide) fl_X7_26 rfl rfl (Or.inr ⟨_, rfl⟩) eh12 dX7_init_49 (fun H locs hw => ?_)
  refine lv_aload_n hx hb dX7_init_52 rfl (lv_at hl 0 rfl) ?_
  refine lv_bipush (v := 10) hx hb dX7_init_53 (by decide) ?_
  obtain ⟨h13, eh13, hm⟩ := dp_ob hm
  refine dp_newi X hw ac_i eh13 (by decide) (by decide) dX7_init_55 (fun H hw => ?_)
  obtain ⟨h14, eh14, hm⟩ := dp_ob hm
  refine dp_putFr X hin hw cl_X7 8 (by decide) fl_X7_29 rfl rfl (Or.inr ⟨_, rfl⟩) eh14 dX7_init_57 (fun H locs hw => ?_)
  refine lv_aload_n hx hb dX7_init_60 rfl (lv_at hl 0 rfl) ?_
  refine lv_bipush (v := 40) hx hb dX7_init_61 (by decide) ?_
  obtain ⟨h15, eh15, hm⟩ := dp_ob hm
  refine dp_newi X hw ac_i eh15 (by decide) (by decide) dX7_init_63 (fun H hw => ?_)
  obtain ⟨h16, eh16, hm⟩ := dp_ob hm
  refine dp_putFr X hin hw cl_X7 9 (by decide) fl_X7_32 rfl rfl (Or.inr ⟨_, rfl⟩) eh16 dX7_init_65 (fun H locs hw => ?_)
  refine lv_aload_n hx hb dX7_init_68 rfl (lv_at hl 0 rfl) ?_
  refine lv_iconst (v := 3) hx hb dX7_init_69 (by decide) ?_
  obtain ⟨h17, eh17, hm⟩ := dp_ob hm
  refine dp_newi X hw ac_i eh17 (by decide) (by decide) dX7_init_70 (fun H hw => ?_)
  obtain ⟨h18, eh18, hm⟩ := dp_ob hm
  refine dp_putFr X hin hw cl_X7 10 (by decide) fl_X7_35 rfl rfl (Or.inr ⟨_, rfl⟩) eh18 dX7_init_72 (fun H locs hw => ?_)
  refine lv_aload_n hx hb dX7_init_75 rfl (lv_at hl 0 rfl) ?_
  refine lv_bipush (v := 8) hx hb dX7_init_76 (by decide) ?_
  obtain ⟨h19, eh19, hm⟩ := dp_ob hm
  refine dp_newi X hw ac_i eh19 (by decide) (by decide) dX7_init_78 (fun H hw => ?_)
  obtain ⟨h20, eh20, hm⟩ := dp_ob hm
  refine dp_putFr X hin hw cl_X7 18 (by decide) fl_X7_38 rfl rfl (Or.inr ⟨_, rfl⟩) eh20 dX7_init_80 (fun H locs hw => ?_)
  refine lv_aload_n hx hb dX7_init_83 rfl (lv_at hl 0 rfl) ?_
  refine lv_iconst (v := 4) hx hb dX7_init_84 (by decide) ?_
  obtain ⟨h21, eh21, hm⟩ := dp_ob hm
  refine dp_newi X hw ac_i eh21 (by decide) (by decide) dX7_init_85 (fun H hw => ?_)
  obtain ⟨h22, eh22, hm⟩ := dp_ob hm
  refine dp_putFr X hin hw cl_X7 23 (by decide) fl_X7_41 rfl rfl (Or.inr ⟨_, rfl⟩) eh22 dX7_init_87 (fun H locs hw => ?_)
  refine lv_aload_n hx hb dX7_init_90 rfl (lv_at hl 0 rfl) ?_
  refine lv_bipush (v := 14) hx hb dX7_init_91 (by decide) ?_
  obtain ⟨h23, eh23, hm⟩ := dp_ob hm
  refine dp_newi X hw ac_i eh23 (by decide) (by decide) dX7_init_93 (fun H hw => ?_)
  obtain ⟨h24, eh24, hm⟩ := dp_ob hm
  refine dp_putFr X hin hw cl_X7 25 (by decide) fl_X7_44 rfl rfl (Or.inr ⟨_, rfl⟩) eh24 dX7_init_95 (fun H locs hw => ?_)
  refine lv_aload_n hx hb dX7_init_98 rfl (lv_at hl 0 rfl) ?_
  refine lv_bipush (v := 10) hx hb dX7_init_99 (by decide) ?_
  obtain ⟨h25, eh25, hm⟩ := dp_ob hm
  refine dp_newi X hw ac_i eh25 (by decide) (by decide) dX7_init_101 (fun H hw => ?_)
  obtain ⟨h26, eh26, hm⟩ := dp_ob hm
  refine dp_putFr X hin hw cl_X7 29 (by decide) fl_X7_47 rfl rfl (Or.inr ⟨_, rfl⟩) eh26 dX7_init_103 (fun H locs hw => ?_)
  refine lv_aload_n hx hb dX7_init_106 rfl (lv_at hl 0 rfl) ?_
  obtain ⟨v27, ev27, hm⟩ := dp_ob hm
  refine dp_getr X hw cl_X7 10 (by decide) fl_X7_35 ev27 dX7_init_107 ?_
  refine lv_iconst (v := 0) hx hb dX7_init_110 (by decide) ?_
  refine lv_bipush (v := 15) hx hb dX7_init_111 (by decide) ?_
  obtain ⟨h28, eh28, hm⟩ := dp_ob hm
  refine dp_iast X hw eh28 dX7_init_113 (fun H locs hw => ?_)
  refine lv_aload_n hx hb dX7_init_114 rfl (lv_at hl 0 rfl) ?_
  obtain ⟨v29, ev29, hm⟩ := dp_ob hm
  refine dp_getr X hw cl_X7 10 (by decide) fl_X7_35 ev29 dX7_init_115 ?_
  refine lv_iconst (v := 1) hx hb dX7_init_118 (by decide) ?_
  refine lv_bipush (v := 8) hx hb dX7_init_119 (by decide) ?_
  obtain ⟨h30, eh30, hm⟩ := dp_ob hm
  refine dp_iast X hw eh30 dX7_init_121 (fun H locs hw => ?_)
  refine lv_aload_n hx hb dX7_init_122 rfl (lv_at hl 0 rfl) ?_
  obtain ⟨v31, ev31, hm⟩ := dp_ob hm
  refine dp_getr X hw cl_X7 10 (by decide) fl_X7_35 ev31 dX7_init_123 ?_
  refine lv_iconst (v := 2) hx hb dX7_init_126 (by decide) ?_
  refine lv_iconst (v := 4) hx hb dX7_init_127 (by decide) ?_
  obtain ⟨h32, eh32, hm⟩ := dp_ob hm
  refine dp_iast X hw eh32 dX7_init_128 (fun H locs hw => ?_)
  cases hm
  refine W.widen (k := rm_X7_init.cells) (n := rm_X7_init.slots) (by decide) (by decide) ?_
  exact dp_vret X hr hw dX7_init_129
set_option maxRecDepth 100000 in
set_option maxHeartbeats 4000000 in
theorem c_X7_within (l : Launch) (D : va_G) (a : dp_A) (B : Nat) (h : dp_H) (x0 : Int32) (x1 : Int32) (x2 : Int32) {r : Int32} (hm : m_X7_within h x0 x1 x2 = some r) : dp_M l D a B yX7_within cX7_within 3 (some .boolean) rm_X7_within [.int x0, .int x1, .int x2] h (some (.int r)) h := by
  refine dp_M.of (own := RX7) (nm := "within") (by decide) rfl rfl (Nat.le_of_ble_eq_true rfl) ?_
  intro p e s m below meth c ls X hr hin hw hl
  have hl : lv_has ls 3 [(0, .int x0), (1, .int x1), (2, .int x2)] := hl
  obtain ⟨hx, hb, hml, hown, hlk, hK, hB⟩ := id X
  unfold m_X7_within at hm
  refine lv_iload_n hx hb dX7_within_0 rfl (lv_at hl 0 rfl) ?_
  refine lv_iload_n hx hb dX7_within_1 rfl (lv_at hl 1 rfl) ?_
  refine lv_icmp_lt (tgt := 14) hx hb dX7_within_2 (by decide) (fun hc => ?_) (fun hc => ?_)
  · have hm := dp_ip hc hm
    refine lv_iconst (v := 0) hx hb dX7_within_14 (by decide) ?_
    cases hm
    exact dp_zret X hr hw (by decide) dX7_within_15
  · have hm := dp_in hc hm
    refine lv_iload_n hx hb dX7_within_5 rfl (lv_at hl 0 rfl) ?_
    refine lv_iload_n hx hb dX7_within_6 rfl (lv_at hl 2 rfl) ?_
    refine lv_icmp_gt (tgt := 14) hx hb dX7_within_7 (by decide) (fun hc => ?_) (fun hc => ?_)
    · have hm := dp_ip hc hm
      refine lv_iconst (v := 0) hx hb dX7_within_14 (by decide) ?_
      cases hm
      exact dp_zret X hr hw (by decide) dX7_within_15
    · have hm := dp_in hc hm
      refine lv_iconst (v := 1) hx hb dX7_within_10 (by decide) ?_
      refine lv_goto (tgt := 15) hx hb dX7_within_11 (by decide) ?_
      cases hm
      exact dp_zret X hr hw (by decide) dX7_within_15
set_option maxRecDepth 100000 in
set_option maxHeartbeats 4000000 in
theorem v_X7_ones_4 {p : Program} {l : Launch} {e : Env} {s : State} {m : MethodId} {args : Array Value} {below : List Frame} {meth : Method} {c : Code} {D : va_G} {a : dp_A} {B : Nat} (X : dp_X p s m meth c cX7_ones 3 RX7 D a B) (hr : meth.sig.returnType = (some .int)) {h : dp_H} {r : Int32} {k4 : Int32 → Int32 → Int32 → Option Int32} (hk4 : ∀ (x0 : Int32) (x1 : Int32) (x2 : Int32), k4 x0 x1 x2 = some r → ∀ (H : Heap) (locs : List Loc) (ls : Array Slot), dp_w D a B h s.heap H locs → lv_has ls 3 [(0, .int x0), (1, .int x1), (2, .int x2)] → W p l e rm_X7_ones s m args below meth c H locs 0 0 (MQ below (dp_Q D a B (some (.int r)) h) args s rm_X7_ones.cells rm_X7_ones.slots (fun q => B ≤ q)) (F0 m 4 ls [])) : ∀ (x0 : Int32) (x1 : Int32) (x2 : Int32), b_X7_ones_4 h k4 x0 x1 x2 = some r → ∀ (H : Heap) (locs : List Loc) (ls : Array Slot), dp_w D a B h s.heap H locs → lv_has ls 3 [(0, .int x0), (1, .int x1), (2, .int x2)] → W p l e rm_X7_ones s m args below meth c H locs 0 0 (MQ below (dp_Q D a B (some (.int r)) h) args s rm_X7_ones.cells rm_X7_ones.slots (fun q => B ≤ q)) (F0 m 4 ls []) := by
  intro x0 x1 x2 hm H locs ls hw hl
  obtain ⟨hx, hb, hml, hown, hlk, hK, hB⟩ := id X
  unfold b_X7_ones_4 at hm
  refine lv_iload_n hx hb dX7_ones_4 rfl (lv_at hl 2 rfl) ?_
  refine lv_bipush (v := 10) hx hb dX7_ones_5 (by decide) ?_
  refine lv_icmp_ge (tgt := 24) hx hb dX7_ones_7 (by decide) (fun hc => ?_) (fun hc => ?_)
  · have hm := dp_ip hc hm
    refine lv_iload_n hx hb dX7_ones_24 rfl (lv_at hl 1 rfl) ?_
    cases hm
    exact dp_iret X hr hw dX7_ones_25
  · have hm := dp_in hc hm
    refine lv_iload_n hx hb dX7_ones_10 rfl (lv_at hl 1 rfl) ?_
    refine lv_iload_n hx hb dX7_ones_11 rfl (lv_at hl 0 rfl) ?_
    refine lv_iload_n hx hb dX7_ones_12 rfl (lv_at hl 2 rfl) ?_
    refine lv_ishr hx hb dX7_ones_13 ?_
    refine lv_iconst (v := 1) hx hb dX7_ones_14 (by decide) ?_
    refine lv_iand hx hb dX7_ones_15 ?_
    refine lv_iadd hx hb dX7_ones_16 ?_
    refine lv_istore_n (lv' := [(1, .int (x1 + ((x0 >>> (x2 &&& 31)) &&& 1))), (0, .int x0), (2, .int x2)]) hx hb dX7_ones_17 rfl hl (by decide) rfl (fun ls hl => ?_)
    refine lv_iinc (v := (x2 + 1)) (lv' := [(2, .int (x2 + 1)), (1, .int (x1 + ((x0 >>> (x2 &&& 31)) &&& 1))), (0, .int x0)]) hx hb dX7_ones_18 hl (k := 2) rfl rfl (by decide) rfl (fun ls hl => ?_)
    refine lv_goto (tgt := 4) hx hb dX7_ones_21 (by decide) ?_
    exact hk4 x0 (x1 + ((x0 >>> (x2 &&& 31)) &&& 1)) (x2 + 1) hm _ _ _ hw (lv_sub hl [2, 1, 0] rfl)
set_option maxRecDepth 100000 in
set_option maxHeartbeats 4000000 in
theorem w_X7_ones_4 {p : Program} {l : Launch} {e : Env} {s : State} {m : MethodId} {args : Array Value} {below : List Frame} {meth : Method} {c : Code} {D : va_G} {a : dp_A} {B : Nat} (X : dp_X p s m meth c cX7_ones 3 RX7 D a B) (hr : meth.sig.returnType = (some .int)) {h : dp_H} {r : Int32}  : ∀ (n : Nat) (x0 : Int32) (x1 : Int32) (x2 : Int32), m_X7_ones_4 h  n x0 x1 x2 = some r → ∀ (H : Heap) (locs : List Loc) (ls : Array Slot), dp_w D a B h s.heap H locs → lv_has ls 3 [(0, .int x0), (1, .int x1), (2, .int x2)] → W p l e rm_X7_ones s m args below meth c H locs 0 0 (MQ below (dp_Q D a B (some (.int r)) h) args s rm_X7_ones.cells rm_X7_ones.slots (fun q => B ≤ q)) (F0 m 4 ls []) := by
  intro n
  induction n with
  | zero => intro x0 x1 x2 hm; cases hm
  | succ n ih => intro x0 x1 x2 hm; exact v_X7_ones_4 X hr ih x0 x1 x2 hm
set_option maxRecDepth 100000 in
set_option maxHeartbeats 4000000 in
theorem c_X7_ones (l : Launch) (D : va_G) (a : dp_A) (B : Nat) (h : dp_H) (x0 : Int32) {r : Int32} (hm : m_X7_ones h x0 = some r) : dp_M l D a B yX7_ones cX7_ones 3 (some .int) rm_X7_ones [.int x0] h (some (.int r)) h := by
  refine dp_M.of (own := RX7) (nm := "ones") (by decide) rfl rfl (Nat.le_of_ble_eq_true rfl) ?_
  intro p e s m below meth c ls X hr hin hw hl
  have hl : lv_has ls 3 [(0, .int x0)] := hl
  obtain ⟨hx, hb, hml, hown, hlk, hK, hB⟩ := id X
  unfold m_X7_ones at hm
  refine lv_iconst (v := 0) hx hb dX7_ones_0 (by decide) ?_
  refine lv_istore_n (lv' := [(1, .int 0), (0, .int x0)]) hx hb dX7_ones_1 rfl hl (by decide) rfl (fun ls hl => ?_)
  refine lv_iconst (v := 0) hx hb dX7_ones_2 (by decide) ?_
  refine lv_istore_n (lv' := [(2, .int 0), (1, .int 0), (0, .int x0)]) hx hb dX7_ones_3 rfl hl (by decide) rfl (fun ls hl => ?_)
  exact w_X7_ones_4 X hr 64 x0 0 0 hm _ _ _ hw (lv_sub hl [2, 1, 0] rfl)
theorem ck_X7_letter {h : dp_H} {x0 : Nat} {x1 : Int32} {h' : dp_H} {r : Int32} (hm : m_X7_letter h x0 x1 = some (h', r)) : dp_is h x0 7 = true := (dp_ck_e hm).1
set_option maxRecDepth 100000 in
set_option maxHeartbeats 4000000 in
theorem c_X7_letter (l : Launch) (D : va_G) (a : dp_A) (B : Nat) (h : dp_H) (x0 : Nat) (x1 : Int32) {h' : dp_H} {r : Int32} (hm : m_X7_letter h x0 x1 = some (h', r)) : dp_M l D a B yX7_letter cX7_letter 2 (some .int) rm_X7_letter [.ref (B + x0), .int x1] h (some (.int r)) h' := by
  refine dp_M.of (own := RX7) (nm := "letter") (by decide) rfl rfl (Nat.le_of_ble_eq_true rfl) ?_
  intro p e s m below meth c ls X hr hin hw hl
  have hl : lv_has ls 2 [(0, .ref (B + x0)), (1, .int x1)] := hl
  obtain ⟨hx, hb, hml, hown, hlk, hK, hB⟩ := id X
  unfold m_X7_letter at hm
  obtain ⟨hck, hm⟩ := dp_ck_e hm
  refine lv_iload_n hx hb dX7_letter_0 rfl (lv_at hl 1 rfl) ?_
  refine lv_bipush (v := 32) hx hb dX7_letter_1 (by decide) ?_
  refine lv_bipush (v := 126) hx hb dX7_letter_3 (by decide) ?_
  obtain ⟨v1, ev1, hm⟩ := dp_ob hm
  refine dp_cS (As := [.int x1, .int 32, .int 126]) (rest := []) X hw (c_X7_within l D a B h x1 32 126 ev1) sm_X7_within st_X7_within ml_X7_50 (by decide) rfl rfl rfl hl.1 rfl (Nat.le_of_ble_eq_true rfl) dX7_letter_5 ⟨(Nat.zero_le _), (Nat.zero_le _)⟩ (fun H locs hw => ?_)
  refine lv_if_ne (tgt := 15) hx hb dX7_letter_8 (by decide) (fun hc => ?_) (fun hc => ?_)
  · have hm := dp_in hc hm
    refine lv_aload_n hx hb dX7_letter_15 rfl (lv_at hl 0 rfl) ?_
    obtain ⟨v2, ev2, hm⟩ := dp_ob hm
    refine dp_geti X hw cl_X7 0 (by decide) fl_X7_54 ev2 dX7_letter_16 ?_
    refine lv_bipush (v := 52) hx hb dX7_letter_19 (by decide) ?_
    refine lv_icmp_ne (tgt := 28) hx hb dX7_letter_21 (by decide) (fun hc => ?_) (fun hc => ?_)
    · have hm := dp_in hc hm
      refine lv_aload_n hx hb dX7_letter_28 rfl (lv_at hl 0 rfl) ?_
      obtain ⟨v3, ev3, hm⟩ := dp_ob hm
      refine dp_getr X hw cl_X7 1 (by decide) fl_X7_7 ev3 dX7_letter_29 ?_
      refine lv_aload_n hx hb dX7_letter_32 rfl (lv_at hl 0 rfl) ?_
      obtain ⟨v4, ev4, hm⟩ := dp_ob hm
      refine dp_geti X hw cl_X7 0 (by decide) fl_X7_54 ev4 dX7_letter_33 ?_
      refine lv_iload_n hx hb dX7_letter_36 rfl (lv_at hl 1 rfl) ?_
      obtain ⟨h5, eh5, hm⟩ := dp_ob hm
      refine dp_iast X hw eh5 dX7_letter_37 (fun H locs hw => ?_)
      refine lv_aload_n hx hb dX7_letter_38 rfl (lv_at hl 0 rfl) ?_
      refine lv_dup hx hb dX7_letter_39 rfl ?_
      obtain ⟨v6, ev6, hm⟩ := dp_ob hm
      refine dp_geti X hw cl_X7 0 (by decide) fl_X7_54 ev6 dX7_letter_40 ?_
      refine lv_iconst (v := 1) hx hb dX7_letter_43 (by decide) ?_
      refine lv_iadd hx hb dX7_letter_44 ?_
      obtain ⟨h7, eh7, hm⟩ := dp_ob hm
      refine dp_puti X hw cl_X7 0 (by decide) fl_X7_54 rfl rfl eh7 dX7_letter_45 (fun H locs hw => ?_)
      refine lv_aload_n hx hb dX7_letter_48 rfl (lv_at hl 0 rfl) ?_
      obtain ⟨v8, ev8, hm⟩ := dp_ob hm
      refine dp_geti X hw cl_X7 0 (by decide) fl_X7_54 ev8 dX7_letter_49 ?_
      cases hm
      exact dp_iret X hr hw dX7_letter_52
    · have hm := dp_ip hc hm
      refine lv_sipush (v := (-1004)) hx hb dX7_letter_24 (by decide) ?_
      cases hm
      exact dp_iret X hr hw dX7_letter_27
  · have hm := dp_ip hc hm
    refine lv_sipush (v := (-1002)) hx hb dX7_letter_11 (by decide) ?_
    cases hm
    exact dp_iret X hr hw dX7_letter_14
