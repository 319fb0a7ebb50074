theorem ck_X7_blank {h : dp_H} {x0 : Nat} {h' : dp_H} {r : Int32} (hm : m_X7_blank h x0 = some (h', r)) : dp_is h x0 7 = true := (dp_ck_e hm).1
set_option maxRecDepth 100000 in
set_option maxHeartbeats 4000000 in
theorem c_X7_blank (l : Launch) (D : va_G) (a : dp_A) (B : Nat) (h : dp_H) (x0 : Nat) {h' : dp_H} {r : Int32} (hm : m_X7_blank h x0 = some (h', r)) : dp_M l D a B yX7_blank cX7_blank 2 (some .int) rm_X7_blank [.ref (B + x0)] h (some (.int r)) h' := by
  refine dp_M.of (own := RX7) (nm := "blank") (by decide) rfl rfl (Nat.le_of_ble_eq_true rfl) ?_
  intro p e s m below meth c ls X hr hin hw hl
  have hl : lv_has ls 2 [(0, .ref (B + x0))] := hl
  obtain ⟨hx, hb, hml, hown, hlk, hK, hB⟩ := id X
  unfold m_X7_blank at hm
  obtain ⟨hck, hm⟩ := dp_ck_e hm
  refine lv_aload_n hx hb dX7_blank_0 rfl (lv_at hl 0 rfl) ?_
  obtain ⟨v1, ev1, hm⟩ := dp_ob hm
  refine dp_geti X hw cl_X7 0 (by decide) fl_X7_54 ev1 dX7_blank_1 ?_
  refine lv_istore_n (lv' := [(1, .int v1), (0, .ref (B + x0))]) hx hb dX7_blank_4 rfl hl (by decide) rfl (fun ls hl => ?_)
  refine lv_aload_n hx hb dX7_blank_5 rfl (lv_at hl 1 rfl) ?_
  refine lv_iconst (v := 0) hx hb dX7_blank_6 (by decide) ?_
  obtain ⟨h2, eh2, hm⟩ := dp_ob hm
  refine dp_puti X hw cl_X7 0 (by decide) fl_X7_54 rfl rfl eh2 dX7_blank_7 (fun H locs hw => ?_)
  refine lv_iload_n hx hb dX7_blank_10 rfl (lv_at hl 0 rfl) ?_
  cases hm
  exact dp_iret X hr hw dX7_blank_11
theorem ck_X7_letsNext {h : dp_H} {x0 : Nat} {x1 : Int32} {h' : dp_H} {r : Int32} (hm : m_X7_letsNext h x0 x1 = some (h', r)) : dp_is h x0 7 = true := (dp_ck_e hm).1
set_option maxRecDepth 100000 in
set_option maxHeartbeats 4000000 in
theorem c_X7_letsNext (l : Launch) (D : va_G) (a : dp_A) (B : Nat) (h : dp_H) (x0 : Nat) (x1 : Int32) {h' : dp_H} {r : Int32} (hm : m_X7_letsNext h x0 x1 = some (h', r)) : dp_M l D a B yX7_letsNext cX7_letsNext 2 (some .boolean) rm_X7_letsNext [.ref (B + x0), .int x1] h (some (.int r)) h' := by
  refine dp_M.of (own := RX7) (nm := "letsNext") (by decide) rfl rfl (Nat.le_of_ble_eq_true rfl) ?_
  intro p e s m below meth c ls X hr hin hw hl
  have hl : lv_has ls 2 [(0, .ref (B + x0)), (1, .int x1)] := hl
  obtain ⟨hx, hb, hml, hown, hlk, hK, hB⟩ := id X
  unfold m_X7_letsNext at hm
  obtain ⟨hck, hm⟩ := dp_ck_e hm
  refine lv_aload_n hx hb dX7_letsNext_0 rfl (lv_at hl 0 rfl) ?_
  obtain ⟨v1, ev1, hm⟩ := dp_ob hm
  refine dp_getr X hw cl_X7 18 (by decide) fl_X7_38 ev1 dX7_letsNext_1 ?_
  refine lv_aload_n hx hb dX7_letsNext_4 rfl (lv_at hl 0 rfl) ?_
  obtain ⟨v2, ev2, hm⟩ := dp_ob hm
  refine dp_geti X hw cl_X7 16 (by decide) fl_X7_58 ev2 dX7_letsNext_5 ?_
  refine lv_iload_n hx hb dX7_letsNext_8 rfl (lv_at hl 1 rfl) ?_
  obtain ⟨h3, eh3, hm⟩ := dp_ob hm
  refine dp_iast X hw eh3 dX7_letsNext_9 (fun H locs hw => ?_)
  refine lv_aload_n hx hb dX7_letsNext_10 rfl (lv_at hl 0 rfl) ?_
  refine lv_dup hx hb dX7_letsNext_11 rfl ?_
  obtain ⟨v4, ev4, hm⟩ := dp_ob hm
  refine dp_geti X hw cl_X7 16 (by decide) fl_X7_58 ev4 dX7_letsNext_12 ?_
  refine lv_iconst (v := 1) hx hb dX7_letsNext_15 (by decide) ?_
  refine lv_iadd hx hb dX7_letsNext_16 ?_
  obtain ⟨h5, eh5, hm⟩ := dp_ob hm
  refine dp_puti X hw cl_X7 16 (by decide) fl_X7_58 rfl rfl eh5 dX7_letsNext_17 (fun H locs hw => ?_)
  refine lv_aload_n hx hb dX7_letsNext_20 rfl (lv_at hl 0 rfl) ?_
  refine lv_iconst (v := 0) hx hb dX7_letsNext_21 (by decide) ?_
  obtain ⟨h6, eh6, hm⟩ := dp_ob hm
  refine dp_puti X hw cl_X7 15 (by decide) fl_X7_61 rfl rfl eh6 dX7_letsNext_22 (fun H locs hw => ?_)
  refine lv_iconst (v := 1) hx hb dX7_letsNext_25 (by decide) ?_
  cases hm
  exact dp_zret X hr hw (by decide) dX7_letsNext_26
set_option maxRecDepth 100000 in
set_option maxHeartbeats 4000000 in
theorem v_X7_takesPlace_98 {p : Program} {l : Launch} {e : Env} {s : State} {m : MethodId} {args : Array Value} {below : List Frame} {meth : Method} {c : Code} {D : va_G} {a : dp_A} {B : Nat} (X : dp_X p s m meth c cX7_takesPlace 3 RX7 D a B) (hr : meth.sig.returnType = (some .boolean)) {h' : dp_H} {r : Int32}  : ∀ (h : dp_H) (x0 : Nat) (x1 : Int32) (y0 : Int32), b_X7_takesPlace_98  h x0 x1 y0 = some (h', r) → ∀ (H : Heap) (locs : List Loc) (ls : Array Slot), dp_w D a B h s.heap H locs → lv_has ls 3 [(0, .ref (B + x0)), (1, .int x1)] → W p l e rm_X7_takesPlace s m args below meth c H locs 0 0 (MQ below (dp_Q D a B (some (.int r)) h') args s rm_X7_takesPlace.cells rm_X7_takesPlace.slots (fun q => B ≤ q)) (F0 m 98 ls [.int y0]) := by
  intro h x0 x1 y0 hm H locs ls hw hl
  obtain ⟨hx, hb, hml, hown, hlk, hK, hB⟩ := id X
  unfold b_X7_takesPlace_98 at hm
  refine lv_istore_n (lv' := [(2, .int y0), (0, .ref (B + x0)), (1, .int x1)]) hx hb dX7_takesPlace_98 rfl hl (by decide) rfl (fun ls hl => ?_)
  refine lv_iload_n hx hb dX7_takesPlace_99 rfl (lv_at hl 0 rfl) ?_
  refine lv_if_eq (tgt := 144) hx hb dX7_takesPlace_100 (by decide) (fun hc => ?_) (fun hc => ?_)
  · have hm := dp_ip hc hm
    refine lv_iconst (v := 0) hx hb dX7_takesPlace_144 (by decide) ?_
    cases hm
    exact dp_zret X hr hw (by decide) dX7_takesPlace_145
  · have hm := dp_in hc hm
    refine lv_aload_n hx hb dX7_takesPlace_103 rfl (lv_at hl 1 rfl) ?_
    refine lv_iload_n hx hb dX7_takesPlace_104 rfl (lv_at hl 2 rfl) ?_
    refine lv_bipush (v := 78) hx hb dX7_takesPlace_105 (by decide) ?_
    refine lv_icmp_ne (tgt := 116) hx hb dX7_takesPlace_107 (by decide) (fun hc => ?_) (fun hc => ?_)
    · have hm := dp_in hc hm
      refine lv_iload_n hx hb dX7_takesPlace_116 rfl (lv_at hl 2 rfl) ?_
      refine lv_bipush (v := 88) hx hb dX7_takesPlace_117 (by decide) ?_
      refine lv_icmp_ne (tgt := 128) hx hb dX7_takesPlace_119 (by decide) (fun hc => ?_) (fun hc => ?_)
      · have hm := dp_in hc hm
        refine lv_iconst (v := 1) hx hb dX7_takesPlace_128 (by decide) ?_
        refine lv_iload_n hx hb dX7_takesPlace_129 rfl (lv_at hl 2 rfl) ?_
        refine lv_bipush (v := 48) hx hb dX7_takesPlace_130 (by decide) ?_
        refine lv_isub hx hb dX7_takesPlace_132 ?_
        refine lv_ishl hx hb dX7_takesPlace_133 ?_
        obtain ⟨h1, v2, ev2, hm⟩ := dp_ob2 hm
        refine dp_cV (As := [.int (1 <<< ((x1 - 48) &&& 31))]) (rest := []) X hw (c_X7_letsNext l D a B h x0 (1 <<< ((x1 - 48) &&& 31)) ev2) vm_X7_letsNext ml_X7_68 (by decide) rfl rfl (ck_X7_letsNext ev2) rfl rfl hl.1 rfl (Nat.le_of_ble_eq_true rfl) dX7_takesPlace_134 ⟨(Nat.zero_le _), (Nat.zero_le _)⟩ (fun H locs hw => ?_)
        refine lv_if_eq (tgt := 144) hx hb dX7_takesPlace_137 (by decide) (fun hc => ?_) (fun hc => ?_)
        · have hm := dp_ip hc hm
          refine lv_iconst (v := 0) hx hb dX7_takesPlace_144 (by decide) ?_
          cases hm
          exact dp_zret X hr hw (by decide) dX7_takesPlace_145
        · have hm := dp_in hc hm
          refine lv_iconst (v := 1) hx hb dX7_takesPlace_140 (by decide) ?_
          refine lv_goto (tgt := 145) hx hb dX7_takesPlace_141 (by decide) ?_
          cases hm
          exact dp_zret X hr hw (by decide) dX7_takesPlace_145
      · have hm := dp_ip hc hm
        refine lv_sipush (v := 1023) hx hb dX7_takesPlace_122 (by decide) ?_
        refine lv_goto (tgt := 134) hx hb dX7_takesPlace_125 (by decide) ?_
        obtain ⟨h3, v4, ev4, hm⟩ := dp_ob2 hm
        refine dp_cV (As := [.int 1023]) (rest := []) X hw (c_X7_letsNext l D a B h x0 1023 ev4) vm_X7_letsNext ml_X7_68 (by decide) rfl rfl (ck_X7_letsNext ev4) rfl rfl hl.1 rfl (Nat.le_of_ble_eq_true rfl) dX7_takesPlace_134 ⟨(Nat.zero_le _), (Nat.zero_le _)⟩ (fun H locs hw => ?_)
        refine lv_if_eq (tgt := 144) hx hb dX7_takesPlace_137 (by decide) (fun hc => ?_) (fun hc => ?_)
        · have hm := dp_ip hc hm
          refine lv_iconst (v := 0) hx hb dX7_takesPlace_144 (by decide) ?_
          cases hm
          exact dp_zret X hr hw (by decide) dX7_takesPlace_145
        · have hm := dp_in hc hm
          refine lv_iconst (v := 1) hx hb dX7_takesPlace_140 (by decide) ?_
          refine lv_goto (tgt := 145) hx hb dX7_takesPlace_141 (by decide) ?_
          cases hm
          exact dp_zret X hr hw (by decide) dX7_takesPlace_145
    · have hm := dp_ip hc hm
      refine lv_sipush (v := 1020) hx hb dX7_takesPlace_110 (by decide) ?_
      refine lv_goto (tgt := 134) hx hb dX7_takesPlace_113 (by decide) ?_
      obtain ⟨h5, v6, ev6, hm⟩ := dp_ob2 hm
      refine dp_cV (As := [.int 1020]) (rest := []) X hw (c_X7_letsNext l D a B h x0 1020 ev6) vm_X7_letsNext ml_X7_68 (by decide) rfl rfl (ck_X7_letsNext ev6) rfl rfl hl.1 rfl (Nat.le_of_ble_eq_true rfl) dX7_takesPlace_134 ⟨(Nat.zero_le _), (Nat.zero_le _)⟩ (fun H locs hw => ?_)
      refine lv_if_eq (tgt := 144) hx hb dX7_takesPlace_137 (by decide) (fun hc => ?_) (fun hc => ?_)
      · have hm := dp_ip hc hm
        refine lv_iconst (v := 0) hx hb dX7_takesPlace_144 (by decide) ?_
        cases hm
        exact dp_zret X hr hw (by decide) dX7_takesPlace_145
      · have hm := dp_in hc hm
        refine lv_iconst (v := 1) hx hb dX7_takesPlace_140 (by decide) ?_
        refine lv_goto (tgt := 145) hx hb dX7_takesPlace_141 (by decide) ?_
        cases hm
        exact dp_zret X hr hw (by decide) dX7_takesPlace_145
set_option maxRecDepth 100000 in
set_option maxHeartbeats 4000000 in
theorem v_X7_takesPlace_46 {p : Program} {l : Launch} {e : Env} {s : State} {m : MethodId} {args : Array Value} {below : List Frame} {meth : Method} {c : Code} {D : va_G} {a : dp_A} {B : Nat} (X : dp_X p s m meth c cX7_takesPlace 3 RX7 D a B) (hr : meth.sig.returnType = (some .boolean)) {h' : dp_H} {r : Int32}  : ∀ (h : dp_H) (x0 : Nat) (x1 : Int32), b_X7_takesPlace_46  h x0 x1 = some (h', r) → ∀ (H : Heap) (locs : List Loc) (ls : Array Slot), dp_w D a B h s.heap H locs → lv_has ls 3 [(0, .ref (B + x0)), (1, .int x1)] → W p l e rm_X7_takesPlace s m args below meth c H locs 0 0 (MQ below (dp_Q D a B (some (.int r)) h') args s rm_X7_takesPlace.cells rm_X7_takesPlace.slots (fun q => B ≤ q)) (F0 m 46 ls []) := by
  intro h x0 x1 hm H locs ls hw hl
  obtain ⟨hx, hb, hml, hown, hlk, hK, hB⟩ := id X
  unfold b_X7_takesPlace_46 at hm
  refine lv_aload_n hx hb dX7_takesPlace_46 rfl (lv_at hl 0 rfl) ?_
  obtain ⟨v1, ev1, hm⟩ := dp_ob hm
  refine dp_geti X hw cl_X7 16 (by decide) fl_X7_58 ev1 dX7_takesPlace_47 ?_
  refine lv_bipush (v := 8) hx hb dX7_takesPlace_50 (by decide) ?_
  refine lv_icmp_ne (tgt := 57) hx hb dX7_takesPlace_52 (by decide) (fun hc => ?_) (fun hc => ?_)
  · have hm := dp_in hc hm
    refine lv_iload_n hx hb dX7_takesPlace_57 rfl (lv_at hl 1 rfl) ?_
    refine lv_bipush (v := 91) hx hb dX7_takesPlace_58 (by decide) ?_
    refine lv_icmp_ne (tgt := 70) hx hb dX7_takesPlace_60 (by decide) (fun hc => ?_) (fun hc => ?_)
    · have hm := dp_in hc hm
      refine lv_iload_n hx hb dX7_takesPlace_70 rfl (lv_at hl 1 rfl) ?_
      refine lv_bipush (v := 48) hx hb dX7_takesPlace_71 (by decide) ?_
      refine lv_bipush (v := 57) hx hb dX7_takesPlace_73 (by decide) ?_
      obtain ⟨v2, ev2, hm⟩ := dp_ob hm
      refine dp_cS (As := [.int x1, .int 48, .int 57]) (rest := []) X hw (c_X7_within l D a B h x1 48 57 ev2) sm_X7_within st_X7_within ml_X7_50 (by decide) rfl rfl rfl hl.1 rfl (Nat.le_of_ble_eq_true rfl) dX7_takesPlace_75 ⟨(Nat.zero_le _), (Nat.zero_le _)⟩ (fun H locs hw => ?_)
      refine lv_if_ne (tgt := 93) hx hb dX7_takesPlace_78 (by decide) (fun hc => ?_) (fun hc => ?_)
      · have hm := dp_in hc hm
        refine lv_iconst (v := 1) hx hb dX7_takesPlace_93 (by decide) ?_
        refine lv_goto (tgt := 98) hx hb dX7_takesPlace_94 (by decide) ?_
        exact v_X7_takesPlace_98 X hr h x0 x1 1 hm _ _ _ hw (lv_sub hl [0, 1] rfl)
      · have hm := dp_ip hc hm
        refine lv_iload_n hx hb dX7_takesPlace_81 rfl (lv_at hl 1 rfl) ?_
        refine lv_bipush (v := 78) hx hb dX7_takesPlace_82 (by decide) ?_
        refine lv_icmp_eq (tgt := 93) hx hb dX7_takesPlace_84 (by decide) (fun hc => ?_) (fun hc => ?_)
        · have hm := dp_ip hc hm
          refine lv_iconst (v := 1) hx hb dX7_takesPlace_93 (by decide) ?_
          refine lv_goto (tgt := 98) hx hb dX7_takesPlace_94 (by decide) ?_
          exact v_X7_takesPlace_98 X hr h x0 x1 1 hm _ _ _ hw (lv_sub hl [0, 1] rfl)
        · have hm := dp_in hc hm
          refine lv_iload_n hx hb dX7_takesPlace_87 rfl (lv_at hl 1 rfl) ?_
          refine lv_bipush (v := 88) hx hb dX7_takesPlace_88 (by decide) ?_
          refine lv_icmp_ne (tgt := 97) hx hb dX7_takesPlace_90 (by decide) (fun hc => ?_) (fun hc => ?_)
          · have hm := dp_in hc hm
            refine lv_iconst (v := 0) hx hb dX7_takesPlace_97 (by decide) ?_
            exact v_X7_takesPlace_98 X hr h x0 x1 0 hm _ _ _ hw (lv_sub hl [0, 1] rfl)
          · have hm := dp_ip hc hm
            refine lv_iconst (v := 1) hx hb dX7_takesPlace_93 (by decide) ?_
            refine lv_goto (tgt := 98) hx hb dX7_takesPlace_94 (by decide) ?_
            exact v_X7_takesPlace_98 X hr h x0 x1 1 hm _ _ _ hw (lv_sub hl [0, 1] rfl)
    · have hm := dp_ip hc hm
      refine lv_aload_n hx hb dX7_takesPlace_63 rfl (lv_at hl 0 rfl) ?_
      refine lv_iconst (v := 1) hx hb dX7_takesPlace_64 (by decide) ?_
      obtain ⟨h3, eh3, hm⟩ := dp_ob hm
      refine dp_puti X hw cl_X7 15 (by decide) fl_X7_61 rfl rfl eh3 dX7_takesPlace_65 (fun H locs hw => ?_)
      refine lv_iconst (v := 1) hx hb dX7_takesPlace_68 (by decide) ?_
      cases hm
      exact dp_zret X hr hw (by decide) dX7_takesPlace_69
  · have hm := dp_ip hc hm
    refine lv_iconst (v := 0) hx hb dX7_takesPlace_55 (by decide) ?_
    cases hm
    exact dp_zret X hr hw (by decide) dX7_takesPlace_56
set_option maxRecDepth 100000 in
set_option maxHeartbeats 4000000 in
theorem v_X7_takesPlace_21 {p : Program} {l : Launch} {e : Env} {s : State} {m : MethodId} {args : Array Value} {below : List Frame} {meth : Method} {c : Code} {D : va_G} {a : dp_A} {B : Nat} (X : dp_X p s m meth c cX7_takesPlace 3 RX7 D a B) (hr : meth.sig.returnType = (some .boolean)) {h' : dp_H} {r : Int32}  : ∀ (h : dp_H) (x0 : Nat) (x1 : Int32), b_X7_takesPlace_21  h x0 x1 = some (h', r) → ∀ (H : Heap) (locs : List Loc) (ls : Array Slot), dp_w D a B h s.heap H locs → lv_has ls 3 [(0, .ref (B + x0)), (1, .int x1)] → W p l e rm_X7_takesPlace s m args below meth c H locs 0 0 (MQ below (dp_Q D a B (some (.int r)) h') args s rm_X7_takesPlace.cells rm_X7_takesPlace.slots (fun q => B ≤ q)) (F0 m 21 ls []) := by
  intro h x0 x1 hm H locs ls hw hl
  obtain ⟨hx, hb, hml, hown, hlk, hK, hB⟩ := id X
  unfold b_X7_takesPlace_21 at hm
  refine lv_iload_n hx hb dX7_takesPlace_21 rfl (lv_at hl 1 rfl) ?_
  refine lv_bipush (v := 46) hx hb dX7_takesPlace_22 (by decide) ?_
  refine lv_icmp_ne (tgt := 46) hx hb dX7_takesPlace_24 (by decide) (fun hc => ?_) (fun hc => ?_)
  · have hm := dp_in hc hm
    exact v_X7_takesPlace_46 X hr h x0 x1 hm _ _ _ hw (lv_sub hl [0, 1] rfl)
  · have hm := dp_ip hc hm
    refine lv_aload_n hx hb dX7_takesPlace_27 rfl (lv_at hl 0 rfl) ?_
    obtain ⟨v1, ev1, hm⟩ := dp_ob hm
    refine dp_geti X hw cl_X7 16 (by decide) fl_X7_58 ev1 dX7_takesPlace_28 ?_
    refine lv_if_le (tgt := 46) hx hb dX7_takesPlace_31 (by decide) (fun hc => ?_) (fun hc => ?_)
    · have hm := dp_ip hc hm
      exact v_X7_takesPlace_46 X hr h x0 x1 hm _ _ _ hw (lv_sub hl [0, 1] rfl)
    · have hm := dp_in hc hm
      refine lv_aload_n hx hb dX7_takesPlace_34 rfl (lv_at hl 0 rfl) ?_
      refine lv_iconst (v := 1) hx hb dX7_takesPlace_35 (by decide) ?_
      obtain ⟨h2, eh2, hm⟩ := dp_ob hm
      refine dp_putz X hw cl_X7 17 (by decide) fl_X7_64 rfl rfl (by decide) eh2 dX7_takesPlace_36 (fun H locs hw => ?_)
      refine lv_aload_n hx hb dX7_takesPlace_39 rfl (lv_at hl 0 rfl) ?_
      refine lv_iconst (v := 5) hx hb dX7_takesPlace_40 (by decide) ?_
      obtain ⟨h3, eh3, hm⟩ := dp_ob hm
      refine dp_puti X hw cl_X7 15 (by decide) fl_X7_61 rfl rfl eh3 dX7_takesPlace_41 (fun H locs hw => ?_)
      refine lv_iconst (v := 1) hx hb dX7_takesPlace_44 (by decide) ?_
      cases hm
      exact dp_zret X hr hw (by decide) dX7_takesPlace_45
theorem ck_X7_takesPlace {h : dp_H} {x0 : Nat} {x1 : Int32} {h' : dp_H} {r : Int32} (hm : m_X7_takesPlace h x0 x1 = some (h', r)) : dp_is h x0 7 = true := (dp_ck_e hm).1
set_option maxRecDepth 100000 in
set_option maxHeartbeats 4000000 in
theorem c_X7_takesPlace (l : Launch) (D : va_G) (a : dp_A) (B : Nat) (h : dp_H) (x0 : Nat) (x1 : Int32) {h' : dp_H} {r : Int32} (hm : m_X7_takesPlace h x0 x1 = some (h', r)) : dp_M l D a B yX7_takesPlace cX7_takesPlace 3 (some .boolean) rm_X7_takesPlace [.ref (B + x0), .int x1] h (some (.int r)) h' := by
  refine dp_M.of (own := RX7) (nm := "takesPlace") (by decide) rfl rfl (Nat.le_of_ble_eq_true rfl) ?_
  intro p e s m below meth c ls X hr hin hw hl
  have hl : lv_has ls 3 [(0, .ref (B + x0)), (1, .int x1)] := hl
  obtain ⟨hx, hb, hml, hown, hlk, hK, hB⟩ := id X
  unfold m_X7_takesPlace at hm
  obtain ⟨hck, hm⟩ := dp_ck_e hm
  refine lv_iload_n hx hb dX7_takesPlace_0 rfl (lv_at hl 1 rfl) ?_
  refine lv_bipush (v := 61) hx hb dX7_takesPlace_1 (by decide) ?_
  refine lv_icmp_ne (tgt := 21) hx hb dX7_takesPlace_3 (by decide) (fun hc => ?_) (fun hc => ?_)
  · have hm := dp_in hc hm
    exact v_X7_takesPlace_21 X hr h x0 x1 hm _ _ _ hw (lv_sub hl [0, 1] rfl)
  · have hm := dp_ip hc hm
    refine lv_aload_n hx hb dX7_takesPlace_6 rfl (lv_at hl 0 rfl) ?_
    obtain ⟨v1, ev1, hm⟩ := dp_ob hm
    refine dp_geti X hw cl_X7 16 (by decide) fl_X7_58 ev1 dX7_takesPlace_7 ?_
    refine lv_if_le (tgt := 21) hx hb dX7_takesPlace_10 (by decide) (fun hc => ?_) (fun hc => ?_)
    · have hm := dp_ip hc hm
      exact v_X7_takesPlace_21 X hr h x0 x1 hm _ _ _ hw (lv_sub hl [0, 1] rfl)
    · have hm := dp_in hc hm
      refine lv_aload_n hx hb dX7_takesPlace_13 rfl (lv_at hl 0 rfl) ?_
      refine lv_bipush (v := 6) hx hb dX7_takesPlace_14 (by decide) ?_
      obtain ⟨h2, eh2, hm⟩ := dp_ob hm
      refine dp_puti X hw cl_X7 15 (by decide) fl_X7_61 rfl rfl eh2 dX7_takesPlace_16 (fun H locs hw => ?_)
      refine lv_iconst (v := 1) hx hb dX7_takesPlace_19 (by decide) ?_
      cases hm
      exact dp_zret X hr hw (by decide) dX7_takesPlace_20
set_option maxRecDepth 100000 in
set_option maxHeartbeats 4000000 in
theorem v_X7_takesSpan_149 {p : Program} {l : Launch} {e : Env} {s : State} {m : MethodId} {args : Array Value} {below : List Frame} {meth : Method} {c : Code} {D : va_G} {a : dp_A} {B : Nat} (X : dp_X p s m meth c cX7_takesSpan 4 RX7 D a B) (hr : meth.sig.returnType = (some .boolean)) {h' : dp_H} {r : Int32}  : ∀ (h : dp_H) (x0 : Nat) (x3 : Int32) (y0 : Int32) (y1 : Nat), b_X7_takesSpan_149  h x0 x3 y0 y1 = some (h', r) → ∀ (H : Heap) (locs : List Loc) (ls : Array Slot), dp_w D a B h s.heap H locs → lv_has ls 4 [(0, .ref (B + x0)), (3, .int x3)] → W p l e rm_X7_takesSpan s m args below meth c H locs 0 0 (MQ below (dp_Q D a B (some (.int r)) h') args s rm_X7_takesSpan.cells rm_X7_takesSpan.slots (fun q => B ≤ q)) (F0 m 149 ls [.int y0, .ref (B + y1)]) := by
  intro h x0 x3 y0 y1 hm H locs ls hw hl
  obtain ⟨hx, hb, hml, hown, hlk, hK, hB⟩ := id X
  unfold b_X7_takesSpan_149 at hm
  obtain ⟨h1, eh1, hm⟩ := dp_ob hm
  refine dp_puti X hw cl_X7 21 (by decide) fl_X7_75 rfl rfl eh1 dX7_takesSpan_149 (fun H locs hw => ?_)
  refine lv_aload_n hx hb dX7_takesSpan_152 rfl (lv_at hl 0 rfl) ?_
  refine lv_dup hx hb dX7_takesSpan_153 rfl ?_
  obtain ⟨v2, ev2, hm⟩ := dp_ob hm
  refine dp_geti X hw cl_X7 15 (by decide) fl_X7_61 ev2 dX7_takesSpan_154 ?_
  refine lv_iload_n hx hb dX7_takesSpan_157 rfl (lv_at hl 1 rfl) ?_
  refine lv_if_eq (tgt := 165) hx hb dX7_takesSpan_158 (by decide) (fun hc => ?_) (fun hc => ?_)
  · have hm := dp_ip hc hm
    refine lv_iconst (v := 0) hx hb dX7_takesSpan_165 (by decide) ?_
    refine lv_iadd hx hb dX7_takesSpan_166 ?_
    obtain ⟨h3, eh3, hm⟩ := dp_ob hm
    refine dp_puti X hw cl_X7 15 (by decide) fl_X7_61 rfl rfl eh3 dX7_takesSpan_167 (fun H locs hw => ?_)
    refine lv_iload_n hx hb dX7_takesSpan_170 rfl (lv_at hl 1 rfl) ?_
    obtain ⟨hz, hm⟩ := dp_b_e hm
    cases hm
    exact dp_zret X hr hw hz dX7_takesSpan_171
  · have hm := dp_in hc hm
    refine lv_iconst (v := 1) hx hb dX7_takesSpan_161 (by decide) ?_
    refine lv_goto (tgt := 166) hx hb dX7_takesSpan_162 (by decide) ?_
    refine lv_iadd hx hb dX7_takesSpan_166 ?_
    obtain ⟨h4, eh4, hm⟩ := dp_ob hm
    refine dp_puti X hw cl_X7 15 (by decide) fl_X7_61 rfl rfl eh4 dX7_takesSpan_167 (fun H locs hw => ?_)
    refine lv_iload_n hx hb dX7_takesSpan_170 rfl (lv_at hl 1 rfl) ?_
    obtain ⟨hz, hm⟩ := dp_b_e hm
    cases hm
    exact dp_zret X hr hw hz dX7_takesSpan_171
set_option maxRecDepth 100000 in
set_option maxHeartbeats 4000000 in
theorem v_X7_takesSpan_112 {p : Program} {l : Launch} {e : Env} {s : State} {m : MethodId} {args : Array Value} {below : List Frame} {meth : Method} {c : Code} {D : va_G} {a : dp_A} {B : Nat} (X : dp_X p s m meth c cX7_takesSpan 4 RX7 D a B) (hr : meth.sig.returnType = (some .boolean)) {h' : dp_H} {r : Int32}  : ∀ (h : dp_H) (x0 : Nat) (x2 : Int32) (x3 : Int32), b_X7_takesSpan_112  h x0 x2 x3 = some (h', r) → ∀ (H : Heap) (locs : List Loc) (ls : Array Slot), dp_w D a B h s.heap H locs → lv_has ls 4 [(0, .ref (B + x0)), (2, .int x2), (3, .int x3)] → W p l e rm_X7_takesSpan s m args below meth c H locs 0 0 (MQ below (dp_Q D a B (some (.int r)) h') args s rm_X7_takesSpan.cells rm_X7_takesSpan.slots (fun q => B ≤ q)) (F0 m 112 ls []) := by
  intro h x0 x2 x3 hm H locs ls hw hl
  obtain ⟨hx, hb, hml, hown, hlk, hK, hB⟩ := id X
  unfold b_X7_takesSpan_112 at hm
  refine lv_aload_n hx hb dX7_takesSpan_112 rfl (lv_at hl 0 rfl) ?_
  refine lv_aload_n hx hb dX7_takesSpan_113 rfl (lv_at hl 0 rfl) ?_
  obtain ⟨v1, ev1, hm⟩ := dp_ob hm
  refine dp_geti X hw cl_X7 15 (by decide) fl_X7_61 ev1 dX7_takesSpan_114 ?_
  refine lv_iconst (v := 1) hx hb dX7_takesSpan_117 (by decide) ?_
  refine lv_icmp_ne (tgt := 125) hx hb dX7_takesSpan_118 (by decide) (fun hc => ?_) (fun hc => ?_)
  · have hm := dp_in hc hm
    refine lv_aload_n hx hb dX7_takesSpan_125 rfl (lv_at hl 0 rfl) ?_
    obtain ⟨v2, ev2, hm⟩ := dp_ob hm
    refine dp_geti X hw cl_X7 19 (by decide) fl_X7_72 ev2 dX7_takesSpan_126 ?_
    obtain ⟨h3, eh3, hm⟩ := dp_ob hm
    refine dp_puti X hw cl_X7 19 (by decide) fl_X7_72 rfl rfl eh3 dX7_takesSpan_129 (fun H locs hw => ?_)
    refine lv_aload_n hx hb dX7_takesSpan_132 rfl (lv_at hl 0 rfl) ?_
    refine lv_aload_n hx hb dX7_takesSpan_133 rfl (lv_at hl 0 rfl) ?_
    obtain ⟨v4, ev4, hm⟩ := dp_ob hm
    refine dp_geti X hw cl_X7 15 (by decide) fl_X7_61 ev4 dX7_takesSpan_134 ?_
    refine lv_iconst (v := 3) hx hb dX7_takesSpan_137 (by decide) ?_
    refine lv_icmp_ne (tgt := 145) hx hb dX7_takesSpan_138 (by decide) (fun hc => ?_) (fun hc => ?_)
    · have hm := dp_in hc hm
      refine lv_aload_n hx hb dX7_takesSpan_145 rfl (lv_at hl 0 rfl) ?_
      obtain ⟨v5, ev5, hm⟩ := dp_ob hm
      refine dp_geti X hw cl_X7 21 (by decide) fl_X7_75 ev5 dX7_takesSpan_146 ?_
      exact v_X7_takesSpan_149 X hr h3 x0 x3 v5 x0 hm _ _ _ hw (lv_sub hl [0, 2] rfl)
    · have hm := dp_ip hc hm
      refine lv_iload_n hx hb dX7_takesSpan_141 rfl (lv_at hl 1 rfl) ?_
      refine lv_goto (tgt := 149) hx hb dX7_takesSpan_142 (by decide) ?_
      exact v_X7_takesSpan_149 X hr h3 x0 x3 x2 x0 hm _ _ _ hw (lv_sub hl [0, 2] rfl)
  · have hm := dp_ip hc hm
    refine lv_iload_n hx hb dX7_takesSpan_121 rfl (lv_at hl 1 rfl) ?_
    refine lv_goto (tgt := 129) hx hb dX7_takesSpan_122 (by decide) ?_
    obtain ⟨h6, eh6, hm⟩ := dp_ob hm
    refine dp_puti X hw cl_X7 19 (by decide) fl_X7_72 rfl rfl eh6 dX7_takesSpan_129 (fun H locs hw => ?_)
    refine lv_aload_n hx hb dX7_takesSpan_132 rfl (lv_at hl 0 rfl) ?_
    refine lv_aload_n hx hb dX7_takesSpan_133 rfl (lv_at hl 0 rfl) ?_
    obtain ⟨v7, ev7, hm⟩ := dp_ob hm
    refine dp_geti X hw cl_X7 15 (by decide) fl_X7_61 ev7 dX7_takesSpan_134 ?_
    refine lv_iconst (v := 3) hx hb dX7_takesSpan_137 (by decide) ?_
    refine lv_icmp_ne (tgt := 145) hx hb dX7_takesSpan_138 (by decide) (fun hc => ?_) (fun hc => ?_)
    · have hm := dp_in hc hm
      refine lv_aload_n hx hb dX7_takesSpan_145 rfl (lv_at hl 0 rfl) ?_
      obtain ⟨v8, ev8, hm⟩ := dp_ob hm
      refine dp_geti X hw cl_X7 21 (by decide) fl_X7_75 ev8 dX7_takesSpan_146 ?_
      exact v_X7_takesSpan_149 X hr h6 x0 x3 v8 x0 hm _ _ _ hw (lv_sub hl [0, 2] rfl)
    · have hm := dp_ip hc hm
      refine lv_iload_n hx hb dX7_takesSpan_141 rfl (lv_at hl 1 rfl) ?_
      refine lv_goto (tgt := 149) hx hb dX7_takesSpan_142 (by decide) ?_
      exact v_X7_takesSpan_149 X hr h6 x0 x3 x2 x0 hm _ _ _ hw (lv_sub hl [0, 2] rfl)
set_option maxRecDepth 100000 in
set_option maxHeartbeats 4000000 in
theorem v_X7_takesSpan_79 {p : Program} {l : Launch} {e : Env} {s : State} {m : MethodId} {args : Array Value} {below : List Frame} {meth : Method} {c : Code} {D : va_G} {a : dp_A} {B : Nat} (X : dp_X p s m meth c cX7_takesSpan 4 RX7 D a B) (hr : meth.sig.returnType = (some .boolean)) {h' : dp_H} {r : Int32}  : ∀ (h : dp_H) (x0 : Nat) (x2 : Int32) (y0 : Int32), b_X7_takesSpan_79  h x0 x2 y0 = some (h', r) → ∀ (H : Heap) (locs : List Loc) (ls : Array Slot), dp_w D a B h s.heap H locs → lv_has ls 4 [(0, .ref (B + x0)), (2, .int x2)] → W p l e rm_X7_takesSpan s m args below meth c H locs 0 0 (MQ below (dp_Q D a B (some (.int r)) h') args s rm_X7_takesSpan.cells rm_X7_takesSpan.slots (fun q => B ≤ q)) (F0 m 79 ls [.int y0]) := by
  intro h x0 x2 y0 hm H locs ls hw hl
  obtain ⟨hx, hb, hml, hown, hlk, hK, hB⟩ := id X
  unfold b_X7_takesSpan_79 at hm
  refine lv_istore_n (lv' := [(3, .int y0), (0, .ref (B + x0)), (2, .int x2)]) hx hb dX7_takesSpan_79 rfl hl (by decide) rfl (fun ls hl => ?_)
  refine lv_iload_n hx hb dX7_takesSpan_80 rfl (lv_at hl 0 rfl) ?_
  refine lv_if_eq (tgt := 112) hx hb dX7_takesSpan_81 (by decide) (fun hc => ?_) (fun hc => ?_)
  · have hm := dp_ip hc hm
    exact v_X7_takesSpan_112 X hr h x0 x2 y0 hm _ _ _ hw (lv_sub hl [1, 2, 0] rfl)
  · have hm := dp_in hc hm
    refine lv_aload_n hx hb dX7_takesSpan_84 rfl (lv_at hl 1 rfl) ?_
    obtain ⟨v1, ev1, hm⟩ := dp_ob hm
    refine dp_geti X hw cl_X7 15 (by decide) fl_X7_61 ev1 dX7_takesSpan_85 ?_
    refine lv_iconst (v := 4) hx hb dX7_takesSpan_88 (by decide) ?_
    refine lv_icmp_ne (tgt := 112) hx hb dX7_takesSpan_89 (by decide) (fun hc => ?_) (fun hc => ?_)
    · have hm := dp_in hc hm
      exact v_X7_takesSpan_112 X hr h x0 x2 y0 hm _ _ _ hw (lv_sub hl [1, 2, 0] rfl)
    · have hm := dp_ip hc hm
      refine lv_aload_n hx hb dX7_takesSpan_92 rfl (lv_at hl 1 rfl) ?_
      refine lv_iconst (v := 1) hx hb dX7_takesSpan_93 (by decide) ?_
      refine lv_aload_n hx hb dX7_takesSpan_94 rfl (lv_at hl 1 rfl) ?_
      obtain ⟨v2, ev2, hm⟩ := dp_ob hm
      refine dp_geti X hw cl_X7 21 (by decide) fl_X7_75 ev2 dX7_takesSpan_95 ?_
      refine lv_iconst (v := 1) hx hb dX7_takesSpan_98 (by decide) ?_
      refine lv_iadd hx hb dX7_takesSpan_99 ?_
      refine lv_ishl hx hb dX7_takesSpan_100 ?_
      refine lv_iconst (v := 1) hx hb dX7_takesSpan_101 (by decide) ?_
      refine lv_aload_n hx hb dX7_takesSpan_102 rfl (lv_at hl 1 rfl) ?_
      obtain ⟨v3, ev3, hm⟩ := dp_ob hm
      refine dp_geti X hw cl_X7 19 (by decide) fl_X7_72 ev3 dX7_takesSpan_103 ?_
      refine lv_ishl hx hb dX7_takesSpan_106 ?_
      refine lv_isub hx hb dX7_takesSpan_107 ?_
      obtain ⟨h4, v5, ev5, hm⟩ := dp_ob2 hm
      refine dp_cV (As := [.int ((1 <<< ((v2 + 1) &&& 31)) - (1 <<< (v3 &&& 31)))]) (rest := []) X hw (c_X7_letsNext l D a B h x0 ((1 <<< ((v2 + 1) &&& 31)) - (1 <<< (v3 &&& 31))) ev5) vm_X7_letsNext ml_X7_68 (by decide) rfl rfl (ck_X7_letsNext ev5) rfl rfl hl.1 rfl (Nat.le_of_ble_eq_true rfl) dX7_takesSpan_108 ⟨(Nat.zero_le _), (Nat.zero_le _)⟩ (fun H locs hw => ?_)
      obtain ⟨hz, hm⟩ := dp_b_e hm
      cases hm
      exact dp_zret X hr hw hz dX7_takesSpan_111
theorem ck_X7_takesSpan {h : dp_H} {x0 : Nat} {x1 : Int32} {h' : dp_H} {r : Int32} (hm : m_X7_takesSpan h x0 x1 = some (h', r)) : dp_is h x0 7 = true := (dp_ck_e hm).1
set_option maxRecDepth 100000 in
set_option maxHeartbeats 4000000 in
theorem c_X7_takesSpan (l : Launch) (D : va_G) (a : dp_A) (B : Nat) (h : dp_H) (x0 : Nat) (x1 : Int32) {h' : dp_H} {r : Int32} (hm : m_X7_takesSpan h x0 x1 = some (h', r)) : dp_M l D a B yX7_takesSpan cX7_takesSpan 4 (some .boolean) rm_X7_takesSpan [.ref (B + x0), .int x1] h (some (.int r)) h' := by
  refine dp_M.of (own := RX7) (nm := "takesSpan") (by decide) rfl rfl (Nat.le_of_ble_eq_true rfl) ?_
  intro p e s m below meth c ls X hr hin hw hl
  have hl : lv_has ls 4 [(0, .ref (B + x0)), (1, .int x1)] := hl
  obtain ⟨hx, hb, hml, hown, hlk, hK, hB⟩ := id X
  unfold m_X7_takesSpan at hm
  obtain ⟨hck, hm⟩ := dp_ck_e hm
  refine lv_iload_n hx hb dX7_takesSpan_0 rfl (lv_at hl 1 rfl) ?_
  refine lv_bipush (v := 48) hx hb dX7_takesSpan_1 (by decide) ?_
  refine lv_isub hx hb dX7_takesSpan_3 ?_
  refine lv_istore_n (lv' := [(2, .int (x1 - 48)), (0, .ref (B + x0)), (1, .int x1)]) hx hb dX7_takesSpan_4 rfl hl (by decide) rfl (fun ls hl => ?_)
  refine lv_aload_n hx hb dX7_takesSpan_5 rfl (lv_at hl 1 rfl) ?_
  obtain ⟨v1, ev1, hm⟩ := dp_ob hm
  refine dp_geti X hw cl_X7 15 (by decide) fl_X7_61 ev1 dX7_takesSpan_6 ?_
  refine lv_iconst (v := 1) hx hb dX7_takesSpan_9 (by decide) ?_
  refine lv_icmp_ne (tgt := 23) hx hb dX7_takesSpan_10 (by decide) (fun hc => ?_) (fun hc => ?_)
  · have hm := dp_in hc hm
    refine lv_aload_n hx hb dX7_takesSpan_23 rfl (lv_at hl 1 rfl) ?_
    obtain ⟨v2, ev2, hm⟩ := dp_ob hm
    refine dp_geti X hw cl_X7 15 (by decide) fl_X7_61 ev2 dX7_takesSpan_24 ?_
    refine lv_iconst (v := 2) hx hb dX7_takesSpan_27 (by decide) ?_
    refine lv_icmp_ne (tgt := 45) hx hb dX7_takesSpan_28 (by decide) (fun hc => ?_) (fun hc => ?_)
    · have hm := dp_in hc hm
      refine lv_aload_n hx hb dX7_takesSpan_45 rfl (lv_at hl 1 rfl) ?_
      obtain ⟨v3, ev3, hm⟩ := dp_ob hm
      refine dp_geti X hw cl_X7 15 (by decide) fl_X7_61 ev3 dX7_takesSpan_46 ?_
      refine lv_iconst (v := 3) hx hb dX7_takesSpan_49 (by decide) ?_
      refine lv_icmp_ne (tgt := 68) hx hb dX7_takesSpan_50 (by decide) (fun hc => ?_) (fun hc => ?_)
      · have hm := dp_in hc hm
        refine lv_iload_n hx hb dX7_takesSpan_68 rfl (lv_at hl 2 rfl) ?_
        refine lv_bipush (v := 93) hx hb dX7_takesSpan_69 (by decide) ?_
        refine lv_icmp_ne (tgt := 78) hx hb dX7_takesSpan_71 (by decide) (fun hc => ?_) (fun hc => ?_)
        · have hm := dp_in hc hm
          refine lv_iconst (v := 0) hx hb dX7_takesSpan_78 (by decide) ?_
          exact v_X7_takesSpan_79 X hr h x0 (x1 - 48) 0 hm _ _ _ hw (lv_sub hl [1, 0] rfl)
        · have hm := dp_ip hc hm
          refine lv_iconst (v := 1) hx hb dX7_takesSpan_74 (by decide) ?_
          refine lv_goto (tgt := 79) hx hb dX7_takesSpan_75 (by decide) ?_
          exact v_X7_takesSpan_79 X hr h x0 (x1 - 48) 1 hm _ _ _ hw (lv_sub hl [1, 0] rfl)
      · have hm := dp_ip hc hm
        refine lv_iload_n hx hb dX7_takesSpan_53 rfl (lv_at hl 0 rfl) ?_
        refine lv_aload_n hx hb dX7_takesSpan_54 rfl (lv_at hl 1 rfl) ?_
        obtain ⟨v4, ev4, hm⟩ := dp_ob hm
        refine dp_geti X hw cl_X7 19 (by decide) fl_X7_72 ev4 dX7_takesSpan_55 ?_
        refine lv_iconst (v := 1) hx hb dX7_takesSpan_58 (by decide) ?_
        refine lv_iadd hx hb dX7_takesSpan_59 ?_
        refine lv_bipush (v := 9) hx hb dX7_takesSpan_60 (by decide) ?_
        obtain ⟨v5, ev5, hm⟩ := dp_ob hm
        refine dp_cS (As := [.int (x1 - 48), .int (v4 + 1), .int 9]) (rest := []) X hw (c_X7_within l D a B h (x1 - 48) (v4 + 1) 9 ev5) sm_X7_within st_X7_within ml_X7_50 (by decide) rfl rfl rfl hl.1 rfl (Nat.le_of_ble_eq_true rfl) dX7_takesSpan_62 ⟨(Nat.zero_le _), (Nat.zero_le _)⟩ (fun H locs hw => ?_)
        refine lv_goto (tgt := 79) hx hb dX7_takesSpan_65 (by decide) ?_
        exact v_X7_takesSpan_79 X hr h x0 (x1 - 48) v5 hm _ _ _ hw (lv_sub hl [1, 0] rfl)
    · have hm := dp_ip hc hm
      refine lv_iload_n hx hb dX7_takesSpan_31 rfl (lv_at hl 2 rfl) ?_
      refine lv_bipush (v := 45) hx hb dX7_takesSpan_32 (by decide) ?_
      refine lv_icmp_ne (tgt := 41) hx hb dX7_takesSpan_34 (by decide) (fun hc => ?_) (fun hc => ?_)
      · have hm := dp_in hc hm
        refine lv_iconst (v := 0) hx hb dX7_takesSpan_41 (by decide) ?_
        refine lv_goto (tgt := 79) hx hb dX7_takesSpan_42 (by decide) ?_
        exact v_X7_takesSpan_79 X hr h x0 (x1 - 48) 0 hm _ _ _ hw (lv_sub hl [1, 0] rfl)
      · have hm := dp_ip hc hm
        refine lv_iconst (v := 1) hx hb dX7_takesSpan_37 (by decide) ?_
        refine lv_goto (tgt := 79) hx hb dX7_takesSpan_38 (by decide) ?_
        exact v_X7_takesSpan_79 X hr h x0 (x1 - 48) 1 hm _ _ _ hw (lv_sub hl [1, 0] rfl)
  · have hm := dp_ip hc hm
    refine lv_iload_n hx hb dX7_takesSpan_13 rfl (lv_at hl 0 rfl) ?_
    refine lv_iconst (v := 0) hx hb dX7_takesSpan_14 (by decide) ?_
    refine lv_bipush (v := 8) hx hb dX7_takesSpan_15 (by decide) ?_
    obtain ⟨v6, ev6, hm⟩ := dp_ob hm
    refine dp_cS (As := [.int (x1 - 48), .int 0, .int 8]) (rest := []) X hw (c_X7_within l D a B h (x1 - 48) 0 8 ev6) sm_X7_within st_X7_within ml_X7_50 (by decide) rfl rfl rfl hl.1 rfl (Nat.le_of_ble_eq_true rfl) dX7_takesSpan_17 ⟨(Nat.zero_le _), (Nat.zero_le _)⟩ (fun H locs hw => ?_)
    refine lv_goto (tgt := 79) hx hb dX7_takesSpan_20 (by decide) ?_
    exact v_X7_takesSpan_79 X hr h x0 (x1 - 48) v6 hm _ _ _ hw (lv_sub hl [1, 0] rfl)
theorem ck_X7_takesWay {h : dp_H} {x0 : Nat} {x1 : Int32} {h' : dp_H} {r : Int32} (hm : m_X7_takesWay h x0 x1 = some (h', r)) : dp_is h x0 7 = true := (dp_ck_e hm).1
set_option maxRecDepth 100000 in
set_option maxHeartbeats 4000000 in
theorem c_X7_takesWay (l : Launch) (D : va_G) (a : dp_A) (B : Nat) (h : dp_H) (x0 : Nat) (x1 : Int32) {h' : dp_H} {r : Int32} (hm : m_X7_takesWay h x0 x1 = some (h', r)) : dp_M l D a B yX7_takesWay cX7_takesWay 2 (some .boolean) rm_X7_takesWay [.ref (B + x0), .int x1] h (some (.int r)) h' := by
  refine dp_M.of (own := RX7) (nm := "takesWay") (by decide) rfl rfl (Nat.le_of_ble_eq_true rfl) ?_
  intro p e s m below meth c ls X hr hin hw hl
  have hl : lv_has ls 2 [(0, .ref (B + x0)), (1, .int x1)] := hl
  obtain ⟨hx, hb, hml, hown, hlk, hK, hB⟩ := id X
  unfold m_X7_takesWay at hm
  obtain ⟨hck, hm⟩ := dp_ck_e hm
  refine lv_aload_n hx hb dX7_takesWay_0 rfl (lv_at hl 0 rfl) ?_
  refine lv_iload_n hx hb dX7_takesWay_1 rfl (lv_at hl 1 rfl) ?_
  refine lv_bipush (v := 97) hx hb dX7_takesWay_2 (by decide) ?_
  refine lv_bipush (v := 104) hx hb dX7_takesWay_4 (by decide) ?_
  obtain ⟨v1, ev1, hm⟩ := dp_ob hm
  refine dp_cS (As := [.int x1, .int 97, .int 104]) (rest := [.ref (B + x0)]) X hw (c_X7_within l D a B h x1 97 104 ev1) sm_X7_within st_X7_within ml_X7_50 (by decide) rfl rfl rfl hl.1 rfl (Nat.le_of_ble_eq_true rfl) dX7_takesWay_6 ⟨(Nat.zero_le _), (Nat.zero_le _)⟩ (fun H locs hw => ?_)
  refine lv_if_eq (tgt := 19) hx hb dX7_takesWay_9 (by decide) (fun hc => ?_) (fun hc => ?_)
  · have hm := dp_ip hc hm
    refine lv_iload_n hx hb dX7_takesWay_19 rfl (lv_at hl 1 rfl) ?_
    refine lv_bipush (v := 45) hx hb dX7_takesWay_20 (by decide) ?_
    refine lv_icmp_ne (tgt := 30) hx hb dX7_takesWay_22 (by decide) (fun hc => ?_) (fun hc => ?_)
    · have hm := dp_in hc hm
      refine lv_iload_n hx hb dX7_takesWay_30 rfl (lv_at hl 1 rfl) ?_
      refine lv_bipush (v := 33) hx hb dX7_takesWay_31 (by decide) ?_
      refine lv_icmp_ne (tgt := 41) hx hb dX7_takesWay_33 (by decide) (fun hc => ?_) (fun hc => ?_)
      · have hm := dp_in hc hm
        refine lv_iload_n hx hb dX7_takesWay_41 rfl (lv_at hl 1 rfl) ?_
        refine lv_bipush (v := 42) hx hb dX7_takesWay_42 (by decide) ?_
        refine lv_icmp_ne (tgt := 52) hx hb dX7_takesWay_44 (by decide) (fun hc => ?_) (fun hc => ?_)
        · have hm := dp_in hc hm
          refine lv_iconst (v := (-1)) hx hb dX7_takesWay_52 (by decide) ?_
          obtain ⟨h2, eh2, hm⟩ := dp_ob hm
          refine dp_puti X hw cl_X7 20 (by decide) fl_X7_78 rfl rfl eh2 dX7_takesWay_53 (fun H locs hw => ?_)
          refine lv_aload_n hx hb dX7_takesWay_56 rfl (lv_at hl 0 rfl) ?_
          refine lv_bipush (v := 7) hx hb dX7_takesWay_57 (by decide) ?_
          obtain ⟨h3, eh3, hm⟩ := dp_ob hm
          refine dp_puti X hw cl_X7 15 (by decide) fl_X7_61 rfl rfl eh3 dX7_takesWay_59 (fun H locs hw => ?_)
          refine lv_aload_n hx hb dX7_takesWay_62 rfl (lv_at hl 0 rfl) ?_
          obtain ⟨v4, ev4, hm⟩ := dp_ob hm
          refine dp_geti X hw cl_X7 20 (by decide) fl_X7_78 ev4 dX7_takesWay_63 ?_
          refine lv_iconst (v := (-1)) hx hb dX7_takesWay_66 (by decide) ?_
          refine lv_icmp_eq (tgt := 74) hx hb dX7_takesWay_67 (by decide) (fun hc => ?_) (fun hc => ?_)
          · have hm := dp_ip hc hm
            refine lv_iconst (v := 0) hx hb dX7_takesWay_74 (by decide) ?_
            cases hm
            exact dp_zret X hr hw (by decide) dX7_takesWay_75
          · have hm := dp_in hc hm
            refine lv_iconst (v := 1) hx hb dX7_takesWay_70 (by decide) ?_
            refine lv_goto (tgt := 75) hx hb dX7_takesWay_71 (by decide) ?_
            cases hm
            exact dp_zret X hr hw (by decide) dX7_takesWay_75
        · have hm := dp_ip hc hm
          refine lv_bipush (v := 10) hx hb dX7_takesWay_47 (by decide) ?_
          refine lv_goto (tgt := 53) hx hb dX7_takesWay_49 (by decide) ?_
          obtain ⟨h5, eh5, hm⟩ := dp_ob hm
          refine dp_puti X hw cl_X7 20 (by decide) fl_X7_78 rfl rfl eh5 dX7_takesWay_53 (fun H locs hw => ?_)
          refine lv_aload_n hx hb dX7_takesWay_56 rfl (lv_at hl 0 rfl) ?_
          refine lv_bipush (v := 7) hx hb dX7_takesWay_57 (by decide) ?_
          obtain ⟨h6, eh6, hm⟩ := dp_ob hm
          refine dp_puti X hw cl_X7 15 (by decide) fl_X7_61 rfl rfl eh6 dX7_takesWay_59 (fun H locs hw => ?_)
          refine lv_aload_n hx hb dX7_takesWay_62 rfl (lv_at hl 0 rfl) ?_
          obtain ⟨v7, ev7, hm⟩ := dp_ob hm
          refine dp_geti X hw cl_X7 20 (by decide) fl_X7_78 ev7 dX7_takesWay_63 ?_
          refine lv_iconst (v := (-1)) hx hb dX7_takesWay_66 (by decide) ?_
          refine lv_icmp_eq (tgt := 74) hx hb dX7_takesWay_67 (by decide) (fun hc => ?_) (fun hc => ?_)
          · have hm := dp_ip hc hm
            refine lv_iconst (v := 0) hx hb dX7_takesWay_74 (by decide) ?_
            cases hm
            exact dp_zret X hr hw (by decide) dX7_takesWay_75
          · have hm := dp_in hc hm
            refine lv_iconst (v := 1) hx hb dX7_takesWay_70 (by decide) ?_
            refine lv_goto (tgt := 75) hx hb dX7_takesWay_71 (by decide) ?_
            cases hm
            exact dp_zret X hr hw (by decide) dX7_takesWay_75
      · have hm := dp_ip hc hm
        refine lv_bipush (v := 9) hx hb dX7_takesWay_36 (by decide) ?_
        refine lv_goto (tgt := 53) hx hb dX7_takesWay_38 (by decide) ?_
        obtain ⟨h8, eh8, hm⟩ := dp_ob hm
        refine dp_puti X hw cl_X7 20 (by decide) fl_X7_78 rfl rfl eh8 dX7_takesWay_53 (fun H locs hw => ?_)
        refine lv_aload_n hx hb dX7_takesWay_56 rfl (lv_at hl 0 rfl) ?_
        refine lv_bipush (v := 7) hx hb dX7_takesWay_57 (by decide) ?_
        obtain ⟨h9, eh9, hm⟩ := dp_ob hm
        refine dp_puti X hw cl_X7 15 (by decide) fl_X7_61 rfl rfl eh9 dX7_takesWay_59 (fun H locs hw => ?_)
        refine lv_aload_n hx hb dX7_takesWay_62 rfl (lv_at hl 0 rfl) ?_
        obtain ⟨v10, ev10, hm⟩ := dp_ob hm
        refine dp_geti X hw cl_X7 20 (by decide) fl_X7_78 ev10 dX7_takesWay_63 ?_
        refine lv_iconst (v := (-1)) hx hb dX7_takesWay_66 (by decide) ?_
        refine lv_icmp_eq (tgt := 74) hx hb dX7_takesWay_67 (by decide) (fun hc => ?_) (fun hc => ?_)
        · have hm := dp_ip hc hm
          refine lv_iconst (v := 0) hx hb dX7_takesWay_74 (by decide) ?_
          cases hm
          exact dp_zret X hr hw (by decide) dX7_takesWay_75
        · have hm := dp_in hc hm
          refine lv_iconst (v := 1) hx hb dX7_takesWay_70 (by decide) ?_
          refine lv_goto (tgt := 75) hx hb dX7_takesWay_71 (by decide) ?_
          cases hm
          exact dp_zret X hr hw (by decide) dX7_takesWay_75
    · have hm := dp_ip hc hm
      refine lv_bipush (v := 8) hx hb dX7_takesWay_25 (by decide) ?_
      refine lv_goto (tgt := 53) hx hb dX7_takesWay_27 (by decide) ?_
      obtain ⟨h11, eh11, hm⟩ := dp_ob hm
      refine dp_puti X hw cl_X7 20 (by decide) fl_X7_78 rfl rfl eh11 dX7_takesWay_53 (fun H locs hw => ?_)
      refine lv_aload_n hx hb dX7_takesWay_56 rfl (lv_at hl 0 rfl) ?_
      refine lv_bipush (v := 7) hx hb dX7_takesWay_57 (by decide) ?_
      obtain ⟨h12, eh12, hm⟩ := dp_ob hm
      refine dp_puti X hw cl_X7 15 (by decide) fl_X7_61 rfl rfl eh12 dX7_takesWay_59 (fun H locs hw => ?_)
      refine lv_aload_n hx hb dX7_takesWay_62 rfl (lv_at hl 0 rfl) ?_
      obtain ⟨v13, ev13, hm⟩ := dp_ob hm
      refine dp_geti X hw cl_X7 20 (by decide) fl_X7_78 ev13 dX7_takesWay_63 ?_
      refine lv_iconst (v := (-1)) hx hb dX7_takesWay_66 (by decide) ?_
      refine lv_icmp_eq (tgt := 74) hx hb dX7_takesWay_67 (by decide) (fun hc => ?_) (fun hc => ?_)
      · have hm := dp_ip hc hm
        refine lv_iconst (v := 0) hx hb dX7_takesWay_74 (by decide) ?_
        cases hm
        exact dp_zret X hr hw (by decide) dX7_takesWay_75
      · have hm := dp_in hc hm
        refine lv_iconst (v := 1) hx hb dX7_takesWay_70 (by decide) ?_
        refine lv_goto (tgt := 75) hx hb dX7_takesWay_71 (by decide) ?_
        cases hm
        exact dp_zret X hr hw (by decide) dX7_takesWay_75
  · have hm := dp_in hc hm
    refine lv_iload_n hx hb dX7_takesWay_12 rfl (lv_at hl 1 rfl) ?_
    refine lv_bipush (v := 97) hx hb dX7_takesWay_13 (by decide) ?_
    refine lv_isub hx hb dX7_takesWay_15 ?_
    refine lv_goto (tgt := 53) hx hb dX7_takesWay_16 (by decide) ?_
    obtain ⟨h14, eh14, hm⟩ := dp_ob hm
    refine dp_puti X hw cl_X7 20 (by decide) fl_X7_78 rfl rfl eh14 dX7_takesWay_53 (fun H locs hw => ?_)
    refine lv_aload_n hx hb dX7_takesWay_56 rfl (lv_at hl 0 rfl) ?_
    refine lv_bipush (v := 7) hx hb dX7_takesWay_57 (by decide) ?_
    obtain ⟨h15, eh15, hm⟩ := dp_ob hm
    refine dp_puti X hw cl_X7 15 (by decide) fl_X7_61 rfl rfl eh15 dX7_takesWay_59 (fun H locs hw => ?_)
    refine lv_aload_n hx hb dX7_takesWay_62 rfl (lv_at hl 0 rfl) ?_
    obtain ⟨v16, ev16, hm⟩ := dp_ob hm
    refine dp_geti X hw cl_X7 20 (by decide) fl_X7_78 ev16 dX7_takesWay_63 ?_
    refine lv_iconst (v := (-1)) hx hb dX7_takesWay_66 (by decide) ?_
    refine lv_icmp_eq (tgt := 74) hx hb dX7_takesWay_67 (by decide) (fun hc => ?_) (fun hc => ?_)
    · have hm := dp_ip hc hm
      refine lv_iconst (v := 0) hx hb dX7_takesWay_74 (by decide) ?_
      cases hm
      exact dp_zret X hr hw (by decide) dX7_takesWay_75
    · have hm := dp_in hc hm
      refine lv_iconst (v := 1) hx hb dX7_takesWay_70 (by decide) ?_
      refine lv_goto (tgt := 75) hx hb dX7_takesWay_71 (by decide) ?_
      cases hm
      exact dp_zret X hr hw (by decide) dX7_takesWay_75
theorem ck_X7_takesDrop {h : dp_H} {x0 : Nat} {x1 : Int32} {h' : dp_H} {r : Int32} (hm : m_X7_takesDrop h x0 x1 = some (h', r)) : dp_is h x0 7 = true := (dp_ck_e hm).1
set_option maxRecDepth 100000 in
set_option maxHeartbeats 4000000 in
theorem c_X7_takesDrop (l : Launch) (D : va_G) (a : dp_A) (B : Nat) (h : dp_H) (x0 : Nat) (x1 : Int32) {h' : dp_H} {r : Int32} (hm : m_X7_takesDrop h x0 x1 = some (h', r)) : dp_M l D a B yX7_takesDrop cX7_takesDrop 2 (some .boolean) rm_X7_takesDrop [.ref (B + x0), .int x1] h (some (.int r)) h' := by
  refine dp_M.of (own := RX7) (nm := "takesDrop") (by decide) rfl rfl (Nat.le_of_ble_eq_true rfl) ?_
  intro p e s m below meth c ls X hr hin hw hl
  have hl : lv_has ls 2 [(0, .ref (B + x0)), (1, .int x1)] := hl
  obtain ⟨hx, hb, hml, hown, hlk, hK, hB⟩ := id X
  unfold m_X7_takesDrop at hm
  obtain ⟨hck, hm⟩ := dp_ck_e hm
  refine lv_aload_n hx hb dX7_takesDrop_0 rfl (lv_at hl 0 rfl) ?_
  refine lv_iload_n hx hb dX7_takesDrop_1 rfl (lv_at hl 1 rfl) ?_
  obtain ⟨h1, eh1, hm⟩ := dp_ob hm
  refine dp_puti X hw cl_X7 21 (by decide) fl_X7_75 rfl rfl eh1 dX7_takesDrop_2 (fun H locs hw => ?_)
  refine lv_aload_n hx hb dX7_takesDrop_5 rfl (lv_at hl 0 rfl) ?_
  refine lv_bipush (v := 9) hx hb dX7_takesDrop_6 (by decide) ?_
  obtain ⟨h2, eh2, hm⟩ := dp_ob hm
  refine dp_puti X hw cl_X7 15 (by decide) fl_X7_61 rfl rfl eh2 dX7_takesDrop_8 (fun H locs hw => ?_)
  refine lv_iload_n hx hb dX7_takesDrop_11 rfl (lv_at hl 1 rfl) ?_
  refine lv_iconst (v := 0) hx hb dX7_takesDrop_12 (by decide) ?_
  refine lv_aload_n hx hb dX7_takesDrop_13 rfl (lv_at hl 0 rfl) ?_
  obtain ⟨v3, ev3, hm⟩ := dp_ob hm
  refine dp_geti X hw cl_X7 16 (by decide) fl_X7_58 ev3 dX7_takesDrop_14 ?_
  obtain ⟨v4, ev4, hm⟩ := dp_ob hm
  refine dp_cS (As := [.int x1, .int 0, .int v3]) (rest := []) X hw (c_X7_within l D a B h2 x1 0 v3 ev4) sm_X7_within st_X7_within ml_X7_50 (by decide) rfl rfl rfl hl.1 rfl (Nat.le_of_ble_eq_true rfl) dX7_takesDrop_17 ⟨(Nat.zero_le _), (Nat.zero_le _)⟩ (fun H locs hw => ?_)
  obtain ⟨hz, hm⟩ := dp_b_e hm
  cases hm
  exact dp_zret X hr hw hz dX7_takesDrop_20
set_option maxRecDepth 100000 in
set_option maxHeartbeats 4000000 in
theorem v_X7_takesAhead_23 {p : Program} {l : Launch} {e : Env} {s : State} {m : MethodId} {args : Array Value} {below : List Frame} {meth : Method} {c : Code} {D : va_G} {a : dp_A} {B : Nat} (X : dp_X p s m meth c cX7_takesAhead 3 RX7 D a B) (hr : meth.sig.returnType = (some .boolean)) {h' : dp_H} {r : Int32}  : ∀ (h : dp_H) (x0 : Nat) (x1 : Int32) (y0 : Int32), b_X7_takesAhead_23  h x0 x1 y0 = some (h', r) → ∀ (H : Heap) (locs : List Loc) (ls : Array Slot), dp_w D a B h s.heap H locs → lv_has ls 3 [(0, .ref (B + x0)), (1, .int x1)] → W p l e rm_X7_takesAhead s m args below meth c H locs 0 0 (MQ below (dp_Q D a B (some (.int r)) h') args s rm_X7_takesAhead.cells rm_X7_takesAhead.slots (fun q => B ≤ q)) (F0 m 23 ls [.int y0]) := by
  intro h x0 x1 y0 hm H locs ls hw hl
  obtain ⟨hx, hb, hml, hown, hlk, hK, hB⟩ := id X
  unfold b_X7_takesAhead_23 at hm
  refine lv_istore_n (lv' := [(2, .int y0), (0, .ref (B + x0)), (1, .int x1)]) hx hb dX7_takesAhead_23 rfl hl (by decide) rfl (fun ls hl => ?_)
  refine lv_iload_n hx hb dX7_takesAhead_24 rfl (lv_at hl 0 rfl) ?_
  refine lv_if_eq (tgt := 48) hx hb dX7_takesAhead_25 (by decide) (fun hc => ?_) (fun hc => ?_)
  · have hm := dp_ip hc hm
    refine lv_iload_n hx hb dX7_takesAhead_48 rfl (lv_at hl 0 rfl) ?_
    obtain ⟨hz, hm⟩ := dp_b_e hm
    cases hm
    exact dp_zret X hr hw hz dX7_takesAhead_49
  · have hm := dp_in hc hm
    refine lv_aload_n hx hb dX7_takesAhead_28 rfl (lv_at hl 1 rfl) ?_
    obtain ⟨v1, ev1, hm⟩ := dp_ob hm
    refine dp_getr X hw cl_X7 23 (by decide) fl_X7_41 ev1 dX7_takesAhead_29 ?_
    refine lv_aload_n hx hb dX7_takesAhead_32 rfl (lv_at hl 1 rfl) ?_
    obtain ⟨v2, ev2, hm⟩ := dp_ob hm
    refine dp_geti X hw cl_X7 22 (by decide) fl_X7_81 ev2 dX7_takesAhead_33 ?_
    refine lv_iload_n hx hb dX7_takesAhead_36 rfl (lv_at hl 2 rfl) ?_
    obtain ⟨h3, eh3, hm⟩ := dp_ob hm
    refine dp_iast X hw eh3 dX7_takesAhead_37 (fun H locs hw => ?_)
    refine lv_aload_n hx hb dX7_takesAhead_38 rfl (lv_at hl 1 rfl) ?_
    refine lv_dup hx hb dX7_takesAhead_39 rfl ?_
    obtain ⟨v4, ev4, hm⟩ := dp_ob hm
    refine dp_geti X hw cl_X7 22 (by decide) fl_X7_81 ev4 dX7_takesAhead_40 ?_
    refine lv_iconst (v := 1) hx hb dX7_takesAhead_43 (by decide) ?_
    refine lv_iadd hx hb dX7_takesAhead_44 ?_
    obtain ⟨h5, eh5, hm⟩ := dp_ob hm
    refine dp_puti X hw cl_X7 22 (by decide) fl_X7_81 rfl rfl eh5 dX7_takesAhead_45 (fun H locs hw => ?_)
    refine lv_iload_n hx hb dX7_takesAhead_48 rfl (lv_at hl 0 rfl) ?_
    obtain ⟨hz, hm⟩ := dp_b_e hm
    cases hm
    exact dp_zret X hr hw hz dX7_takesAhead_49
theorem ck_X7_takesAhead {h : dp_H} {x0 : Nat} {x1 : Int32} {h' : dp_H} {r : Int32} (hm : m_X7_takesAhead h x0 x1 = some (h', r)) : dp_is h x0 7 = true := (dp_ck_e hm).1
set_option maxRecDepth 100000 in
set_option maxHeartbeats 4000000 in
theorem c_X7_takesAhead (l : Launch) (D : va_G) (a : dp_A) (B : Nat) (h : dp_H) (x0 : Nat) (x1 : Int32) {h' : dp_H} {r : Int32} (hm : m_X7_takesAhead h x0 x1 = some (h', r)) : dp_M l D a B yX7_takesAhead cX7_takesAhead 3 (some .boolean) rm_X7_takesAhead [.ref (B + x0), .int x1] h (some (.int r)) h' := by
  refine dp_M.of (own := RX7) (nm := "takesAhead") (by decide) rfl rfl (Nat.le_of_ble_eq_true rfl) ?_
  intro p e s m below meth c ls X hr hin hw hl
  have hl : lv_has ls 3 [(0, .ref (B + x0)), (1, .int x1)] := hl
  obtain ⟨hx, hb, hml, hown, hlk, hK, hB⟩ := id X
  unfold m_X7_takesAhead at hm
  obtain ⟨hck, hm⟩ := dp_ck_e hm
  refine lv_iload_n hx hb dX7_takesAhead_0 rfl (lv_at hl 1 rfl) ?_
  refine lv_iconst (v := 0) hx hb dX7_takesAhead_1 (by decide) ?_
  refine lv_bipush (v := 9) hx hb dX7_takesAhead_2 (by decide) ?_
  obtain ⟨v1, ev1, hm⟩ := dp_ob hm
  refine dp_cS (As := [.int x1, .int 0, .int 9]) (rest := []) X hw (c_X7_within l D a B h x1 0 9 ev1) sm_X7_within st_X7_within ml_X7_50 (by decide) rfl rfl rfl hl.1 rfl (Nat.le_of_ble_eq_true rfl) dX7_takesAhead_4 ⟨(Nat.zero_le _), (Nat.zero_le _)⟩ (fun H locs hw => ?_)
  refine lv_if_eq (tgt := 22) hx hb dX7_takesAhead_7 (by decide) (fun hc => ?_) (fun hc => ?_)
  · have hm := dp_ip hc hm
    refine lv_iconst (v := 0) hx hb dX7_takesAhead_22 (by decide) ?_
    exact v_X7_takesAhead_23 X hr h x0 x1 0 hm _ _ _ hw (lv_sub hl [0, 1] rfl)
  · have hm := dp_in hc hm
    refine lv_aload_n hx hb dX7_takesAhead_10 rfl (lv_at hl 0 rfl) ?_
    obtain ⟨v2, ev2, hm⟩ := dp_ob hm
    refine dp_geti X hw cl_X7 22 (by decide) fl_X7_81 ev2 dX7_takesAhead_11 ?_
    refine lv_iconst (v := 4) hx hb dX7_takesAhead_14 (by decide) ?_
    refine lv_icmp_ge (tgt := 22) hx hb dX7_takesAhead_15 (by decide) (fun hc => ?_) (fun hc => ?_)
    · have hm := dp_ip hc hm
      refine lv_iconst (v := 0) hx hb dX7_takesAhead_22 (by decide) ?_
      exact v_X7_takesAhead_23 X hr h x0 x1 0 hm _ _ _ hw (lv_sub hl [0, 1] rfl)
    · have hm := dp_in hc hm
      refine lv_iconst (v := 1) hx hb dX7_takesAhead_18 (by decide) ?_
      refine lv_goto (tgt := 23) hx hb dX7_takesAhead_19 (by decide) ?_
      exact v_X7_takesAhead_23 X hr h x0 x1 1 hm _ _ _ hw (lv_sub hl [0, 1] rfl)
theorem ck_X7_takes {h : dp_H} {x0 : Nat} {x1 : Int32} {h' : dp_H} {r : Int32} (hm : m_X7_takes h x0 x1 = some (h', r)) : dp_is h x0 7 = true := (dp_ck_e hm).1
set_option maxRecDepth 100000 in
set_option maxHeartbeats 4000000 in
theorem c_X7_takes (l : Launch) (D : va_G) (a : dp_A) (B : Nat) (h : dp_H) (x0 : Nat) (x1 : Int32) {h' : dp_H} {r : Int32} (hm : m_X7_takes h x0 x1 = some (h', r)) : dp_M l D a B yX7_takes cX7_takes 2 (some .boolean) rm_X7_takes [.ref (B + x0), .int x1] h (some (.int r)) h' := by
  refine dp_M.of (own := RX7) (nm := "takes") (by decide) rfl rfl (Nat.le_of_ble_eq_true rfl) ?_
  intro p e s m below meth c ls X hr hin hw hl
  have hl : lv_has ls 2 [(0, .ref (B + x0)), (1, .int x1)] := hl
  obtain ⟨hx, hb, hml, hown, hlk, hK, hB⟩ := id X
  unfold m_X7_takes at hm
  obtain ⟨hck, hm⟩ := dp_ck_e hm
  refine lv_aload_n hx hb dX7_takes_0 rfl (lv_at hl 0 rfl) ?_
  obtain ⟨v1, ev1, hm⟩ := dp_ob hm
  refine dp_geti X hw cl_X7 15 (by decide) fl_X7_61 ev1 dX7_takes_1 ?_
  refine lv_if_ne (tgt := 13) hx hb dX7_takes_4 (by decide) (fun hc => ?_) (fun hc => ?_)
  · have hm := dp_in hc hm
    refine lv_aload_n hx hb dX7_takes_13 rfl (lv_at hl 0 rfl) ?_
    obtain ⟨v2, ev2, hm⟩ := dp_ob hm
    refine dp_geti X hw cl_X7 15 (by decide) fl_X7_61 ev2 dX7_takes_14 ?_
    refine lv_iconst (v := 5) hx hb dX7_takes_17 (by decide) ?_
    refine lv_icmp_ge (tgt := 27) hx hb dX7_takes_18 (by decide) (fun hc => ?_) (fun hc => ?_)
    · have hm := dp_ip hc hm
      refine lv_aload_n hx hb dX7_takes_27 rfl (lv_at hl 0 rfl) ?_
      obtain ⟨v3, ev3, hm⟩ := dp_ob hm
      refine dp_geti X hw cl_X7 15 (by decide) fl_X7_61 ev3 dX7_takes_28 ?_
      by_cases hc0 : v3 = 5
      · have hm := dp_ip hc0 hm
        refine lv_tableIn (off := 29) (tgt := 60) hx hb dX7_takes_31 (by rw [hc0]; first | done | decide) (by rw [hc0]; first | done | decide) (by rw [hc0]; first | done | decide) (by decide) ?_
        refine lv_aload_n hx hb dX7_takes_60 rfl (lv_at hl 0 rfl) ?_
        refine lv_bipush (v := 6) hx hb dX7_takes_61 (by decide) ?_
        obtain ⟨h4, eh4, hm⟩ := dp_ob hm
        refine dp_puti X hw cl_X7 15 (by decide) fl_X7_61 rfl rfl eh4 dX7_takes_63 (fun H locs hw => ?_)
        refine lv_iload_n hx hb dX7_takes_66 rfl (lv_at hl 1 rfl) ?_
        refine lv_bipush (v := 61) hx hb dX7_takes_67 (by decide) ?_
        refine lv_icmp_ne (tgt := 76) hx hb dX7_takes_69 (by decide) (fun hc => ?_) (fun hc => ?_)
        · have hm := dp_in hc hm
          refine lv_iconst (v := 0) hx hb dX7_takes_76 (by decide) ?_
          cases hm
          exact dp_zret X hr hw (by decide) dX7_takes_77
        · have hm := dp_ip hc hm
          refine lv_iconst (v := 1) hx hb dX7_takes_72 (by decide) ?_
          refine lv_goto (tgt := 77) hx hb dX7_takes_73 (by decide) ?_
          cases hm
          exact dp_zret X hr hw (by decide) dX7_takes_77
      have hm := dp_in hc0 hm
      by_cases hc1 : v3 = 6
      · have hm := dp_ip hc1 hm
        refine lv_tableIn (off := 47) (tgt := 78) hx hb dX7_takes_31 (by rw [hc1]; first | done | decide) (by rw [hc1]; first | done | decide) (by rw [hc1]; first | done | decide) (by decide) ?_
        refine lv_aload_n hx hb dX7_takes_78 rfl (lv_at hl 0 rfl) ?_
        refine lv_iload_n hx hb dX7_takes_79 rfl (lv_at hl 1 rfl) ?_
        obtain ⟨h5, v6, ev6, hm⟩ := dp_ob2 hm
        refine dp_cV (As := [.int x1]) (rest := []) X hw (c_X7_takesWay l D a B h x0 x1 ev6) vm_X7_takesWay ml_X7_90 (by decide) rfl rfl (ck_X7_takesWay ev6) rfl rfl hl.1 rfl (Nat.le_of_ble_eq_true rfl) dX7_takes_80 ⟨(Nat.zero_le _), (Nat.zero_le _)⟩ (fun H locs hw => ?_)
        obtain ⟨hz, hm⟩ := dp_b_e hm
        cases hm
        exact dp_zret X hr hw hz dX7_takes_83
      have hm := dp_in hc1 hm
      by_cases hc2 : v3 = 7
      · have hm := dp_ip hc2 hm
        refine lv_tableIn (off := 53) (tgt := 84) hx hb dX7_takes_31 (by rw [hc2]; first | done | decide) (by rw [hc2]; first | done | decide) (by rw [hc2]; first | done | decide) (by decide) ?_
        refine lv_aload_n hx hb dX7_takes_84 rfl (lv_at hl 0 rfl) ?_
        refine lv_bipush (v := 8) hx hb dX7_takes_85 (by decide) ?_
        obtain ⟨h7, eh7, hm⟩ := dp_ob hm
        refine dp_puti X hw cl_X7 15 (by decide) fl_X7_61 rfl rfl eh7 dX7_takes_87 (fun H locs hw => ?_)
        refine lv_iload_n hx hb dX7_takes_90 rfl (lv_at hl 1 rfl) ?_
        refine lv_bipush (v := 58) hx hb dX7_takes_91 (by decide) ?_
        refine lv_icmp_ne (tgt := 100) hx hb dX7_takes_93 (by decide) (fun hc => ?_) (fun hc => ?_)
        · have hm := dp_in hc hm
          refine lv_iconst (v := 0) hx hb dX7_takes_100 (by decide) ?_
          cases hm
          exact dp_zret X hr hw (by decide) dX7_takes_101
        · have hm := dp_ip hc hm
          refine lv_iconst (v := 1) hx hb dX7_takes_96 (by decide) ?_
          refine lv_goto (tgt := 101) hx hb dX7_takes_97 (by decide) ?_
          cases hm
          exact dp_zret X hr hw (by decide) dX7_takes_101
      have hm := dp_in hc2 hm
      by_cases hc3 : v3 = 8
      · have hm := dp_ip hc3 hm
        refine lv_tableIn (off := 71) (tgt := 102) hx hb dX7_takes_31 (by rw [hc3]; first | done | decide) (by rw [hc3]; first | done | decide) (by rw [hc3]; first | done | decide) (by decide) ?_
        refine lv_aload_n hx hb dX7_takes_102 rfl (lv_at hl 0 rfl) ?_
        refine lv_iload_n hx hb dX7_takes_103 rfl (lv_at hl 1 rfl) ?_
        refine lv_bipush (v := 48) hx hb dX7_takes_104 (by decide) ?_
        refine lv_isub hx hb dX7_takes_106 ?_
        obtain ⟨h8, v9, ev9, hm⟩ := dp_ob2 hm
        refine dp_cV (As := [.int (x1 - 48)]) (rest := []) X hw (c_X7_takesDrop l D a B h x0 (x1 - 48) ev9) vm_X7_takesDrop ml_X7_93 (by decide) rfl rfl (ck_X7_takesDrop ev9) rfl rfl hl.1 rfl (Nat.le_of_ble_eq_true rfl) dX7_takes_107 ⟨(Nat.zero_le _), (Nat.zero_le _)⟩ (fun H locs hw => ?_)
        obtain ⟨hz, hm⟩ := dp_b_e hm
        cases hm
        exact dp_zret X hr hw hz dX7_takes_110
      have hm := dp_in hc3 hm
      have hd0 : Int32.toInt v3 ≠ 5 := fun q => hc0 (Int32.toInt_inj.mp (q.trans (by decide)))
      have hd1 : Int32.toInt v3 ≠ 6 := fun q => hc1 (Int32.toInt_inj.mp (q.trans (by decide)))
      have hd2 : Int32.toInt v3 ≠ 7 := fun q => hc2 (Int32.toInt_inj.mp (q.trans (by decide)))
      have hd3 : Int32.toInt v3 ≠ 8 := fun q => hc3 (Int32.toInt_inj.mp (q.trans (by decide)))
      refine lv_tableOut (tgt := 111) hx hb dX7_takes_31 (by omega) (by decide) ?_
      refine lv_aload_n hx hb dX7_takes_111 rfl (lv_at hl 0 rfl) ?_
      refine lv_iload_n hx hb dX7_takes_112 rfl (lv_at hl 1 rfl) ?_
      refine lv_bipush (v := 48) hx hb dX7_takes_113 (by decide) ?_
      refine lv_isub hx hb dX7_takes_115 ?_
      obtain ⟨h10, v11, ev11, hm⟩ := dp_ob2 hm
      refine dp_cV (As := [.int (x1 - 48)]) (rest := []) X hw (c_X7_takesAhead l D a B h x0 (x1 - 48) ev11) vm_X7_takesAhead ml_X7_96 (by decide) rfl rfl (ck_X7_takesAhead ev11) rfl rfl hl.1 rfl (Nat.le_of_ble_eq_true rfl) dX7_takes_116 ⟨(Nat.zero_le _), (Nat.zero_le _)⟩ (fun H locs hw => ?_)
      obtain ⟨hz, hm⟩ := dp_b_e hm
      cases hm
      exact dp_zret X hr hw hz dX7_takes_119
    · have hm := dp_in hc hm
      refine lv_aload_n hx hb dX7_takes_21 rfl (lv_at hl 0 rfl) ?_
      refine lv_iload_n hx hb dX7_takes_22 rfl (lv_at hl 1 rfl) ?_
      obtain ⟨h12, v13, ev13, hm⟩ := dp_ob2 hm
      refine dp_cV (As := [.int x1]) (rest := []) X hw (c_X7_takesSpan l D a B h x0 x1 ev13) vm_X7_takesSpan ml_X7_87 (by decide) rfl rfl (ck_X7_takesSpan ev13) rfl rfl hl.1 rfl (Nat.le_of_ble_eq_true rfl) dX7_takes_23 ⟨(Nat.zero_le _), (Nat.zero_le _)⟩ (fun H locs hw => ?_)
      obtain ⟨hz, hm⟩ := dp_b_e hm
      cases hm
      exact dp_zret X hr hw hz dX7_takes_26
  · have hm := dp_ip hc hm
    refine lv_aload_n hx hb dX7_takes_7 rfl (lv_at hl 0 rfl) ?_
    refine lv_iload_n hx hb dX7_takes_8 rfl (lv_at hl 1 rfl) ?_
    obtain ⟨h14, v15, ev15, hm⟩ := dp_ob2 hm
    refine dp_cV (As := [.int x1]) (rest := []) X hw (c_X7_takesPlace l D a B h x0 x1 ev15) vm_X7_takesPlace ml_X7_84 (by decide) rfl rfl (ck_X7_takesPlace ev15) rfl rfl hl.1 rfl (Nat.le_of_ble_eq_true rfl) dX7_takes_9 ⟨(Nat.zero_le _), (Nat.zero_le _)⟩ (fun H locs hw => ?_)
    obtain ⟨hz, hm⟩ := dp_b_e hm
    cases hm
    exact dp_zret X hr hw hz dX7_takes_12
set_option maxRecDepth 100000 in
set_option maxHeartbeats 4000000 in
theorem v_X7_goAlong_22 {p : Program} {l : Launch} {e : Env} {s : State} {m : MethodId} {args : Array Value} {below : List Frame} {meth : Method} {c : Code} {D : va_G} {a : dp_A} {B : Nat} (X : dp_X p s m meth c cX7_goAlong 2 RX7 D a B) (hr : meth.sig.returnType = (some .int)) {h' : dp_H} {r : Int32} {k22 : dp_H → Nat → Int32 → Option (dp_H × Int32)} (hk22 : ∀ (h : dp_H) (x0 : Nat) (x1 : Int32), k22 h x0 x1 = some (h', r) → ∀ (H : Heap) (locs : List Loc) (ls : Array Slot), dp_w D a B h s.heap H locs → lv_has ls 2 [(0, .ref (B + x0)), (1, .int x1)] → W p l e rm_X7_goAlong s m args below meth c H locs 0 0 (MQ below (dp_Q D a B (some (.int r)) h') args s rm_X7_goAlong.cells rm_X7_goAlong.slots (fun q => B ≤ q)) (F0 m 22 ls [])) : ∀ (h : dp_H) (x0 : Nat) (x1 : Int32), b_X7_goAlong_22 k22 h x0 x1 = some (h', r) → ∀ (H : Heap) (locs : List Loc) (ls : Array Slot), dp_w D a B h s.heap H locs → lv_has ls 2 [(0, .ref (B + x0)), (1, .int x1)] → W p l e rm_X7_goAlong s m args below meth c H locs 0 0 (MQ below (dp_Q D a B (some (.int r)) h') args s rm_X7_goAlong.cells rm_X7_goAlong.slots (fun q => B ≤ q)) (F0 m 22 ls []) := by
  intro h x0 x1 hm H locs ls hw hl
  obtain ⟨hx, hb, hml, hown, hlk, hK, hB⟩ := id X
  unfold b_X7_goAlong_22 at hm
  refine lv_iload_n hx hb dX7_goAlong_22 rfl (lv_at hl 1 rfl) ?_
  refine lv_aload_n hx hb dX7_goAlong_23 rfl (lv_at hl 0 rfl) ?_
  obtain ⟨v1, ev1, hm⟩ := dp_ob hm
  refine dp_geti X hw cl_X7 0 (by decide) fl_X7_54 ev1 dX7_goAlong_24 ?_
  refine lv_icmp_ge (tgt := 49) hx hb dX7_goAlong_27 (by decide) (fun hc => ?_) (fun hc => ?_)
  · have hm := dp_ip hc hm
    refine lv_iload_n hx hb dX7_goAlong_49 rfl (lv_at hl 1 rfl) ?_
    cases hm
    exact dp_iret X hr hw dX7_goAlong_50
  · have hm := dp_in hc hm
    refine lv_aload_n hx hb dX7_goAlong_30 rfl (lv_at hl 0 rfl) ?_
    refine lv_aload_n hx hb dX7_goAlong_31 rfl (lv_at hl 0 rfl) ?_
    obtain ⟨v2, ev2, hm⟩ := dp_ob hm
    refine dp_getr X hw cl_X7 1 (by decide) fl_X7_7 ev2 dX7_goAlong_32 ?_
    refine lv_iload_n hx hb dX7_goAlong_35 rfl (lv_at hl 1 rfl) ?_
    obtain ⟨v3, ev3, hm⟩ := dp_ob hm
    refine dp_iald X hw ev3 dX7_goAlong_36 ?_
    obtain ⟨h4, v5, ev5, hm⟩ := dp_ob2 hm
    refine dp_cV (As := [.int v3]) (rest := []) X hw (c_X7_takes l D a B h x0 v3 ev5) vm_X7_takes ml_X7_99 (by decide) rfl rfl (ck_X7_takes ev5) rfl rfl hl.1 rfl (Nat.le_of_ble_eq_true rfl) dX7_goAlong_37 ⟨(Nat.zero_le _), (Nat.zero_le _)⟩ (fun H locs hw => ?_)
    refine lv_if_eq (tgt := 49) hx hb dX7_goAlong_40 (by decide) (fun hc => ?_) (fun hc => ?_)
    · have hm := dp_ip hc hm
      refine lv_iload_n hx hb dX7_goAlong_49 rfl (lv_at hl 1 rfl) ?_
      cases hm
      exact dp_iret X hr hw dX7_goAlong_50
    · have hm := dp_in hc hm
      refine lv_iinc (v := (x1 + 1)) (lv' := [(1, .int (x1 + 1)), (0, .ref (B + x0))]) hx hb dX7_goAlong_43 hl (k := 1) rfl rfl (by decide) rfl (fun ls hl => ?_)
      refine lv_goto (tgt := 22) hx hb dX7_goAlong_46 (by decide) ?_
      exact hk22 h4 x0 (x1 + 1) hm _ _ _ hw (lv_sub hl [1, 0] rfl)
set_option maxRecDepth 100000 in
set_option maxHeartbeats 4000000 in
theorem w_X7_goAlong_22 {p : Program} {l : Launch} {e : Env} {s : State} {m : MethodId} {args : Array Value} {below : List Frame} {meth : Method} {c : Code} {D : va_G} {a : dp_A} {B : Nat} (X : dp_X p s m meth c cX7_goAlong 2 RX7 D a B) (hr : meth.sig.returnType = (some .int)) {h' : dp_H} {r : Int32}  : ∀ (n : Nat) (h : dp_H) (x0 : Nat) (x1 : Int32), m_X7_goAlong_22  n h x0 x1 = some (h', r) → ∀ (H : Heap) (locs : List Loc) (ls : Array Slot), dp_w D a B h s.heap H locs → lv_has ls 2 [(0, .ref (B + x0)), (1, .int x1)] → W p l e rm_X7_goAlong s m args below meth c H locs 0 0 (MQ below (dp_Q D a B (some (.int r)) h') args s rm_X7_goAlong.cells rm_X7_goAlong.slots (fun q => B ≤ q)) (F0 m 22 ls []) := by
  intro n
  induction n with
  | zero => intro h x0 x1 hm; cases hm
  | succ n ih => intro h x0 x1 hm; exact v_X7_goAlong_22 X hr ih h x0 x1 hm
theorem ck_X7_goAlong {h : dp_H} {x0 : Nat} {h' : dp_H} {r : Int32} (hm : m_X7_goAlong h x0 = some (h', r)) : dp_is h x0 7 = true := (dp_ck_e hm).1
set_option maxRecDepth 100000 in
set_option maxHeartbeats 4000000 in
theorem c_X7_goAlong (l : Launch) (D : va_G) (a : dp_A) (B : Nat) (h : dp_H) (x0 : Nat) {h' : dp_H} {r : Int32} (hm : m_X7_goAlong h x0 = some (h', r)) : dp_M l D a B yX7_goAlong cX7_goAlong 2 (some .int) rm_X7_goAlong [.ref (B + x0)] h (some (.int r)) h' := by
  refine dp_M.of (own := RX7) (nm := "goAlong") (by decide) rfl rfl (Nat.le_of_ble_eq_true rfl) ?_
  intro p e s m below meth c ls X hr hin hw hl
  have hl : lv_has ls 2 [(0, .ref (B + x0))] := hl
  obtain ⟨hx, hb, hml, hown, hlk, hK, hB⟩ := id X
  unfold m_X7_goAlong at hm
  obtain ⟨hck, hm⟩ := dp_ck_e hm
  refine lv_aload_n hx hb dX7_goAlong_0 rfl (lv_at hl 0 rfl) ?_
  refine lv_iconst (v := 0) hx hb dX7_goAlong_1 (by decide) ?_
  obtain ⟨h1, eh1, hm⟩ := dp_ob hm
  refine dp_puti X hw cl_X7 15 (by decide) fl_X7_61 rfl rfl eh1 dX7_goAlong_2 (fun H locs hw => ?_)
  refine lv_aload_n hx hb dX7_goAlong_5 rfl (lv_at hl 0 rfl) ?_
  refine lv_iconst (v := 0) hx hb dX7_goAlong_6 (by decide) ?_
  obtain ⟨h2, eh2, hm⟩ := dp_ob hm
  refine dp_puti X hw cl_X7 16 (by decide) fl_X7_58 rfl rfl eh2 dX7_goAlong_7 (fun H locs hw => ?_)
  refine lv_aload_n hx hb dX7_goAlong_10 rfl (lv_at hl 0 rfl) ?_
  refine lv_iconst (v := 0) hx hb dX7_goAlong_11 (by decide) ?_
  obtain ⟨h3, eh3, hm⟩ := dp_ob hm
  refine dp_putz X hw cl_X7 17 (by decide) fl_X7_64 rfl rfl (by decide) eh3 dX7_goAlong_12 (fun H locs hw => ?_)
  refine lv_aload_n hx hb dX7_goAlong_15 rfl (lv_at hl 0 rfl) ?_
  refine lv_iconst (v := 0) hx hb dX7_goAlong_16 (by decide) ?_
  obtain ⟨h4, eh4, hm⟩ := dp_ob hm
  refine dp_puti X hw cl_X7 22 (by decide) fl_X7_81 rfl rfl eh4 dX7_goAlong_17 (fun H locs hw => ?_)
  refine lv_iconst (v := 0) hx hb dX7_goAlong_20 (by decide) ?_
  refine lv_istore_n (lv' := [(1, .int 0), (0, .ref (B + x0))]) hx hb dX7_goAlong_21 rfl hl (by decide) rfl (fun ls hl => ?_)
  exact w_X7_goAlong_22 X hr 64 h4 x0 0 hm _ _ _ hw (lv_sub hl [1, 0] rfl)
theorem ck_X7_fault {h : dp_H} {x0 : Nat} {h' : dp_H} {r : Int32} (hm : m_X7_fault h x0 = some (h', r)) : dp_is h x0 7 = true := (dp_ck_e hm).1
set_option maxRecDepth 100000 in
set_option maxHeartbeats 4000000 in
theorem c_X7_fault (l : Launch) (D : va_G) (a : dp_A) (B : Nat) (h : dp_H) (x0 : Nat) {h' : dp_H} {r : Int32} (hm : m_X7_fault h x0 = some (h', r)) : dp_M l D a B yX7_fault cX7_fault 1 (some .int) rm_X7_fault [.ref (B + x0)] h (some (.int r)) h' := by
  refine dp_M.of (own := RX7) (nm := "fault") (by decide) rfl rfl (Nat.le_of_ble_eq_true rfl) ?_
  intro p e s m below meth c ls X hr hin hw hl
  have hl : lv_has ls 1 [(0, .ref (B + x0))] := hl
  obtain ⟨hx, hb, hml, hown, hlk, hK, hB⟩ := id X
  unfold m_X7_fault at hm
  obtain ⟨hck, hm⟩ := dp_ck_e hm
  refine lv_aload_n hx hb dX7_fault_0 rfl (lv_at hl 0 rfl) ?_
  obtain ⟨h1, v2, ev2, hm⟩ := dp_ob2 hm
  refine dp_cV (As := []) (rest := []) X hw (c_X7_goAlong l D a B h x0 ev2) vm_X7_goAlong ml_X7_102 (by decide) rfl rfl (ck_X7_goAlong ev2) rfl rfl hl.1 rfl (Nat.le_of_ble_eq_true rfl) dX7_fault_1 ⟨(Nat.zero_le _), (Nat.zero_le _)⟩ (fun H locs hw => ?_)
  cases hm
  exact dp_iret X hr hw dX7_fault_4
set_option maxRecDepth 100000 in
set_option maxHeartbeats 4000000 in
theorem v_X7_keepPattern_85 {p : Program} {l : Launch} {e : Env} {s : State} {m : MethodId} {args : Array Value} {below : List Frame} {meth : Method} {c : Code} {D : va_G} {a : dp_A} {B : Nat} (X : dp_X p s m meth c cX7_keepPattern 3 RX7 D a B) (hr : meth.sig.returnType = none) {h' : dp_H} {k85 : dp_H → Nat → Int32 → Int32 → Option dp_H} (hk85 : ∀ (h : dp_H) (x0 : Nat) (x1 : Int32) (x2 : Int32), k85 h x0 x1 x2 = some h' → ∀ (H : Heap) (locs : List Loc) (ls : Array Slot), dp_w D a B h s.heap H locs → lv_has ls 3 [(0, .ref (B + x0)), (1, .int x1), (2, .int x2)] → W p l e rm_X7_keepPattern s m args below meth c H locs 0 0 (MQ below (dp_Q D a B none h') args s rm_X7_keepPattern.cells rm_X7_keepPattern.slots (fun q => B ≤ q)) (F0 m 85 ls [])) : ∀ (h : dp_H) (x0 : Nat) (x1 : Int32) (x2 : Int32), b_X7_keepPattern_85 k85 h x0 x1 x2 = some h' → ∀ (H : Heap) (locs : List Loc) (ls : Array Slot), dp_w D a B h s.heap H locs → lv_has ls 3 [(0, .ref (B + x0)), (1, .int x1), (2, .int x2)] → W p l e rm_X7_keepPattern s m args below meth c H locs 0 0 (MQ below (dp_Q D a B none h') args s rm_X7_keepPattern.cells rm_X7_keepPattern.slots (fun q => B ≤ q)) (F0 m 85 ls []) := by
  intro h x0 x1 x2 hm H locs ls hw hl
  obtain ⟨hx, hb, hml, hown, hlk, hK, hB⟩ := id X
  unfold b_X7_keepPattern_85 at hm
  refine lv_iload_n hx hb dX7_keepPattern_85 rfl (lv_at hl 2 rfl) ?_
  refine lv_aload_n hx hb dX7_keepPattern_86 rfl (lv_at hl 0 rfl) ?_
  obtain ⟨v1, ev1, hm⟩ := dp_ob hm
  refine dp_geti X hw cl_X7 22 (by decide) fl_X7_81 ev1 dX7_keepPattern_87 ?_
  refine lv_icmp_ge (tgt := 115) hx hb dX7_keepPattern_90 (by decide) (fun hc => ?_) (fun hc => ?_)
  · have hm := dp_ip hc hm
    cases hm
    exact dp_vret X hr hw dX7_keepPattern_115
  · have hm := dp_in hc hm
    refine lv_aload_n hx hb dX7_keepPattern_93 rfl (lv_at hl 0 rfl) ?_
    obtain ⟨v2, ev2, hm⟩ := dp_ob hm
    refine dp_getr X hw cl_X7 9 (by decide) fl_X7_32 ev2 dX7_keepPattern_94 ?_
    refine lv_iconst (v := 4) hx hb dX7_keepPattern_97 (by decide) ?_
    refine lv_iload_n hx hb dX7_keepPattern_98 rfl (lv_at hl 1 rfl) ?_
    refine lv_imul hx hb dX7_keepPattern_99 ?_
    refine lv_iload_n hx hb dX7_keepPattern_100 rfl (lv_at hl 2 rfl) ?_
    refine lv_iadd hx hb dX7_keepPattern_101 ?_
    refine lv_aload_n hx hb dX7_keepPattern_102 rfl (lv_at hl 0 rfl) ?_
    obtain ⟨v3, ev3, hm⟩ := dp_ob hm
    refine dp_getr X hw cl_X7 23 (by decide) fl_X7_41 ev3 dX7_keepPattern_103 ?_
    refine lv_iload_n hx hb dX7_keepPattern_106 rfl (lv_at hl 2 rfl) ?_
    obtain ⟨v4, ev4, hm⟩ := dp_ob hm
    refine dp_iald X hw ev4 dX7_keepPattern_107 ?_
    obtain ⟨h5, eh5, hm⟩ := dp_ob hm
    refine dp_iast X hw eh5 dX7_keepPattern_108 (fun H locs hw => ?_)
    refine lv_iinc (v := (x2 + 1)) (lv' := [(2, .int (x2 + 1)), (0, .ref (B + x0)), (1, .int x1)]) hx hb dX7_keepPattern_109 hl (k := 2) rfl rfl (by decide) rfl (fun ls hl => ?_)
    refine lv_goto (tgt := 85) hx hb dX7_keepPattern_112 (by decide) ?_
    exact hk85 h5 x0 x1 (x2 + 1) hm _ _ _ hw (lv_sub hl [1, 2, 0] rfl)
set_option maxRecDepth 100000 in
set_option maxHeartbeats 4000000 in
theorem w_X7_keepPattern_85 {p : Program} {l : Launch} {e : Env} {s : State} {m : MethodId} {args : Array Value} {below : List Frame} {meth : Method} {c : Code} {D : va_G} {a : dp_A} {B : Nat} (X : dp_X p s m meth c cX7_keepPattern 3 RX7 D a B) (hr : meth.sig.returnType = none) {h' : dp_H}  : ∀ (n : Nat) (h : dp_H) (x0 : Nat) (x1 : Int32) (x2 : Int32), m_X7_keepPattern_85  n h x0 x1 x2 = some h' → ∀ (H : Heap) (locs : List Loc) (ls : Array Slot), dp_w D a B h s.heap H locs → lv_has ls 3 [(0, .ref (B + x0)), (1, .int x1), (2, .int x2)] → W p l e rm_X7_keepPattern s m args below meth c H locs 0 0 (MQ below (dp_Q D a B none h') args s rm_X7_keepPattern.cells rm_X7_keepPattern.slots (fun q => B ≤ q)) (F0 m 85 ls []) := by
  intro n
  induction n with
  | zero => intro h x0 x1 x2 hm; cases hm
  | succ n ih => intro h x0 x1 x2 hm; exact v_X7_keepPattern_85 X hr ih h x0 x1 x2 hm
set_option maxRecDepth 100000 in
set_option maxHeartbeats 4000000 in
theorem v_X7_keepPattern_52 {p : Program} {l : Launch} {e : Env} {s : State} {m : MethodId} {args : Array Value} {below : List Frame} {meth : Method} {c : Code} {D : va_G} {a : dp_A} {B : Nat} (X : dp_X p s m meth c cX7_keepPattern 3 RX7 D a B) (hr : meth.sig.returnType = none) {h' : dp_H} {k52 : dp_H → Nat → Int32 → Int32 → Option dp_H} (hk52 : ∀ (h : dp_H) (x0 : Nat) (x1 : Int32) (x2 : Int32), k52 h x0 x1 x2 = some h' → ∀ (H : Heap) (locs : List Loc) (ls : Array Slot), dp_w D a B h s.heap H locs → lv_has ls 3 [(0, .ref (B + x0)), (1, .int x1), (2, .int x2)] → W p l e rm_X7_keepPattern s m args below meth c H locs 0 0 (MQ below (dp_Q D a B none h') args s rm_X7_keepPattern.cells rm_X7_keepPattern.slots (fun q => B ≤ q)) (F0 m 52 ls [])) : ∀ (h : dp_H) (x0 : Nat) (x1 : Int32) (x2 : Int32), b_X7_keepPattern_52 k52 h x0 x1 x2 = some h' → ∀ (H : Heap) (locs : List Loc) (ls : Array Slot), dp_w D a B h s.heap H locs → lv_has ls 3 [(0, .ref (B + x0)), (1, .int x1), (2, .int x2)] → W p l e rm_X7_keepPattern s m args below meth c H locs 0 0 (MQ below (dp_Q D a B none h') args s rm_X7_keepPattern.cells rm_X7_keepPattern.slots (fun q => B ≤ q)) (F0 m 52 ls []) := by
  intro h x0 x1 x2 hm H locs ls hw hl
  obtain ⟨hx, hb, hml, hown, hlk, hK, hB⟩ := id X
  unfold b_X7_keepPattern_52 at hm
  refine lv_iload_n hx hb dX7_keepPattern_52 rfl (lv_at hl 2 rfl) ?_
  refine lv_aload_n hx hb dX7_keepPattern_53 rfl (lv_at hl 0 rfl) ?_
  obtain ⟨v1, ev1, hm⟩ := dp_ob hm
  refine dp_geti X hw cl_X7 16 (by decide) fl_X7_58 ev1 dX7_keepPattern_54 ?_
  refine lv_icmp_ge (tgt := 83) hx hb dX7_keepPattern_57 (by decide) (fun hc => ?_) (fun hc => ?_)
  · have hm := dp_ip hc hm
    refine lv_iconst (v := 0) hx hb dX7_keepPattern_83 (by decide) ?_
    refine lv_istore_n (lv' := [(2, .int 0), (0, .ref (B + x0)), (1, .int x1)]) hx hb dX7_keepPattern_84 rfl hl (by decide) rfl (fun ls hl => ?_)
    exact w_X7_keepPattern_85 X hr 64 h x0 x1 0 hm _ _ _ hw (lv_sub hl [1, 2, 0] rfl)
  · have hm := dp_in hc hm
    refine lv_aload_n hx hb dX7_keepPattern_60 rfl (lv_at hl 0 rfl) ?_
    obtain ⟨v2, ev2, hm⟩ := dp_ob hm
    refine dp_getr X hw cl_X7 5 (by decide) fl_X7_20 ev2 dX7_keepPattern_61 ?_
    refine lv_bipush (v := 8) hx hb dX7_keepPattern_64 (by decide) ?_
    refine lv_iload_n hx hb dX7_keepPattern_66 rfl (lv_at hl 1 rfl) ?_
    refine lv_imul hx hb dX7_keepPattern_67 ?_
    refine lv_iload_n hx hb dX7_keepPattern_68 rfl (lv_at hl 2 rfl) ?_
    refine lv_iadd hx hb dX7_keepPattern_69 ?_
    refine lv_aload_n hx hb dX7_keepPattern_70 rfl (lv_at hl 0 rfl) ?_
    obtain ⟨v3, ev3, hm⟩ := dp_ob hm
    refine dp_getr X hw cl_X7 18 (by decide) fl_X7_38 ev3 dX7_keepPattern_71 ?_
    refine lv_iload_n hx hb dX7_keepPattern_74 rfl (lv_at hl 2 rfl) ?_
    obtain ⟨v4, ev4, hm⟩ := dp_ob hm
    refine dp_iald X hw ev4 dX7_keepPattern_75 ?_
    obtain ⟨h5, eh5, hm⟩ := dp_ob hm
    refine dp_iast X hw eh5 dX7_keepPattern_76 (fun H locs hw => ?_)
    refine lv_iinc (v := (x2 + 1)) (lv' := [(2, .int (x2 + 1)), (0, .ref (B + x0)), (1, .int x1)]) hx hb dX7_keepPattern_77 hl (k := 2) rfl rfl (by decide) rfl (fun ls hl => ?_)
    refine lv_goto (tgt := 52) hx hb dX7_keepPattern_80 (by decide) ?_
    exact hk52 h5 x0 x1 (x2 + 1) hm _ _ _ hw (lv_sub hl [1, 2, 0] rfl)
set_option maxRecDepth 100000 in
set_option maxHeartbeats 4000000 in
theorem w_X7_keepPattern_52 {p : Program} {l : Launch} {e : Env} {s : State} {m : MethodId} {args : Array Value} {below : List Frame} {meth : Method} {c : Code} {D : va_G} {a : dp_A} {B : Nat} (X : dp_X p s m meth c cX7_keepPattern 3 RX7 D a B) (hr : meth.sig.returnType = none) {h' : dp_H}  : ∀ (n : Nat) (h : dp_H) (x0 : Nat) (x1 : Int32) (x2 : Int32), m_X7_keepPattern_52  n h x0 x1 x2 = some h' → ∀ (H : Heap) (locs : List Loc) (ls : Array Slot), dp_w D a B h s.heap H locs → lv_has ls 3 [(0, .ref (B + x0)), (1, .int x1), (2, .int x2)] → W p l e rm_X7_keepPattern s m args below meth c H locs 0 0 (MQ below (dp_Q D a B none h') args s rm_X7_keepPattern.cells rm_X7_keepPattern.slots (fun q => B ≤ q)) (F0 m 52 ls []) := by
  intro n
  induction n with
  | zero => intro h x0 x1 x2 hm; cases hm
  | succ n ih => intro h x0 x1 x2 hm; exact v_X7_keepPattern_52 X hr ih h x0 x1 x2 hm
theorem ck_X7_keepPattern {h : dp_H} {x0 : Nat} {x1 : Int32} {h' : dp_H} (hm : m_X7_keepPattern h x0 x1 = some h') : dp_is h x0 7 = true := (dp_ck_e hm).1
set_option maxRecDepth 100000 in
set_option maxHeartbeats 4000000 in
theorem c_X7_keepPattern (l : Launch) (D : va_G) (a : dp_A) (B : Nat) (h : dp_H) (x0 : Nat) (x1 : Int32) {h' : dp_H} (hm : m_X7_keepPattern h x0 x1 = some h') : dp_M l D a B yX7_keepPattern cX7_keepPattern 3 none rm_X7_keepPattern [.ref (B + x0), .int x1] h none h' := by
  refine dp_M.of (own := RX7) (nm := "keepPattern") (by decide) rfl rfl (Nat.le_of_ble_eq_true rfl) ?_
  intro p e s m below meth c ls X hr hin hw hl
  have hl : lv_has ls 3 [(0, .ref (B + x0)), (1, .int x1)] := hl
  obtain ⟨hx, hb, hml, hown, hlk, hK, hB⟩ := id X
  unfold m_X7_keepPattern at hm
  obtain ⟨hck, hm⟩ := dp_ck_e hm
  refine lv_aload_n hx hb dX7_keepPattern_0 rfl (lv_at hl 0 rfl) ?_
  obtain ⟨v1, ev1, hm⟩ := dp_ob hm
  refine dp_getr X hw cl_X7 3 (by decide) fl_X7_13 ev1 dX7_keepPattern_1 ?_
  refine lv_iload_n hx hb dX7_keepPattern_4 rfl (lv_at hl 1 rfl) ?_
  refine lv_aload_n hx hb dX7_keepPattern_5 rfl (lv_at hl 0 rfl) ?_
  obtain ⟨v2, ev2, hm⟩ := dp_ob hm
  refine dp_geti X hw cl_X7 16 (by decide) fl_X7_58 ev2 dX7_keepPattern_6 ?_
  obtain ⟨h3, eh3, hm⟩ := dp_ob hm
  refine dp_iast X hw eh3 dX7_keepPattern_9 (fun H locs hw => ?_)
  refine lv_aload_n hx hb dX7_keepPattern_10 rfl (lv_at hl 0 rfl) ?_
  obtain ⟨v4, ev4, hm⟩ := dp_ob hm
  refine dp_getr X hw cl_X7 4 (by decide) fl_X7_16 ev4 dX7_keepPattern_11 ?_
  refine lv_iload_n hx hb dX7_keepPattern_14 rfl (lv_at hl 1 rfl) ?_
  refine lv_aload_n hx hb dX7_keepPattern_15 rfl (lv_at hl 0 rfl) ?_
  obtain ⟨v5, ev5, hm⟩ := dp_ob hm
  refine dp_geti X hw cl_X7 17 (by decide) fl_X7_64 ev5 dX7_keepPattern_16 ?_
  obtain ⟨hz, hm⟩ := dp_b_e hm
  obtain ⟨h6, eh6, hm⟩ := dp_ob hm
  refine dp_zast X hw hz eh6 dX7_keepPattern_19 (fun H locs hw => ?_)
  refine lv_aload_n hx hb dX7_keepPattern_20 rfl (lv_at hl 0 rfl) ?_
  obtain ⟨v7, ev7, hm⟩ := dp_ob hm
  refine dp_getr X hw cl_X7 6 (by decide) fl_X7_23 ev7 dX7_keepPattern_21 ?_
  refine lv_iload_n hx hb dX7_keepPattern_24 rfl (lv_at hl 1 rfl) ?_
  refine lv_aload_n hx hb dX7_keepPattern_25 rfl (lv_at hl 0 rfl) ?_
  obtain ⟨v8, ev8, hm⟩ := dp_ob hm
  refine dp_geti X hw cl_X7 20 (by decide) fl_X7_78 ev8 dX7_keepPattern_26 ?_
  obtain ⟨h9, eh9, hm⟩ := dp_ob hm
  refine dp_iast X hw eh9 dX7_keepPattern_29 (fun H locs hw => ?_)
  refine lv_aload_n hx hb dX7_keepPattern_30 rfl (lv_at hl 0 rfl) ?_
  obtain ⟨v10, ev10, hm⟩ := dp_ob hm
  refine dp_getr X hw cl_X7 7 (by decide) fl_X7_26 ev10 dX7_keepPattern_31 ?_
  refine lv_iload_n hx hb dX7_keepPattern_34 rfl (lv_at hl 1 rfl) ?_
  refine lv_aload_n hx hb dX7_keepPattern_35 rfl (lv_at hl 0 rfl) ?_
  obtain ⟨v11, ev11, hm⟩ := dp_ob hm
  refine dp_geti X hw cl_X7 21 (by decide) fl_X7_75 ev11 dX7_keepPattern_36 ?_
  obtain ⟨h12, eh12, hm⟩ := dp_ob hm
  refine dp_iast X hw eh12 dX7_keepPattern_39 (fun H locs hw => ?_)
  refine lv_aload_n hx hb dX7_keepPattern_40 rfl (lv_at hl 0 rfl) ?_
  obtain ⟨v13, ev13, hm⟩ := dp_ob hm
  refine dp_getr X hw cl_X7 8 (by decide) fl_X7_29 ev13 dX7_keepPattern_41 ?_
  refine lv_iload_n hx hb dX7_keepPattern_44 rfl (lv_at hl 1 rfl) ?_
  refine lv_aload_n hx hb dX7_keepPattern_45 rfl (lv_at hl 0 rfl) ?_
  obtain ⟨v14, ev14, hm⟩ := dp_ob hm
  refine dp_geti X hw cl_X7 22 (by decide) fl_X7_81 ev14 dX7_keepPattern_46 ?_
  obtain ⟨h15, eh15, hm⟩ := dp_ob hm
  refine dp_iast X hw eh15 dX7_keepPattern_49 (fun H locs hw => ?_)
  refine lv_iconst (v := 0) hx hb dX7_keepPattern_50 (by decide) ?_
  refine lv_istore_n (lv' := [(2, .int 0), (0, .ref (B + x0)), (1, .int x1)]) hx hb dX7_keepPattern_51 rfl hl (by decide) rfl (fun ls hl => ?_)
  exact w_X7_keepPattern_52 X hr 64 h15 x0 x1 0 hm _ _ _ hw (lv_sub hl [1, 2, 0] rfl)
theorem ck_X7_add {h : dp_H} {x0 : Nat} {h' : dp_H} {r : Int32} (hm : m_X7_add h x0 = some (h', r)) : dp_is h x0 7 = true := (dp_ck_e hm).1
set_option maxRecDepth 100000 in
set_option maxHeartbeats 4000000 in
theorem c_X7_add (l : Launch) (D : va_G) (a : dp_A) (B : Nat) (h : dp_H) (x0 : Nat) {h' : dp_H} {r : Int32} (hm : m_X7_add h x0 = some (h', r)) : dp_M l D a B yX7_add cX7_add 1 (some .int) rm_X7_add [.ref (B + x0)] h (some (.int r)) h' := by
  refine dp_M.of (own := RX7) (nm := "add") (by decide) rfl rfl (Nat.le_of_ble_eq_true rfl) ?_
  intro p e s m below meth c ls X hr hin hw hl
  have hl : lv_has ls 1 [(0, .ref (B + x0))] := hl
  obtain ⟨hx, hb, hml, hown, hlk, hK, hB⟩ := id X
  unfold m_X7_add at hm
  obtain ⟨hck, hm⟩ := dp_ck_e hm
  refine lv_aload_n hx hb dX7_add_0 rfl (lv_at hl 0 rfl) ?_
  obtain ⟨h1, v2, ev2, hm⟩ := dp_ob2 hm
  refine dp_cV (As := []) (rest := []) X hw (c_X7_goAlong l D a B h x0 ev2) vm_X7_goAlong ml_X7_102 (by decide) rfl rfl (ck_X7_goAlong ev2) rfl rfl hl.1 rfl (Nat.le_of_ble_eq_true rfl) dX7_add_1 ⟨(Nat.zero_le _), (Nat.zero_le _)⟩ (fun H locs hw => ?_)
  refine lv_aload_n hx hb dX7_add_4 rfl (lv_at hl 0 rfl) ?_
  obtain ⟨v3, ev3, hm⟩ := dp_ob hm
  refine dp_geti X hw cl_X7 0 (by decide) fl_X7_54 ev3 dX7_add_5 ?_
  refine lv_icmp_lt (tgt := 27) hx hb dX7_add_8 (by decide) (fun hc => ?_) (fun hc => ?_)
  · have hm := dp_ip hc hm
    refine lv_sipush (v := (-1003)) hx hb dX7_add_27 (by decide) ?_
    cases hm
    exact dp_iret X hr hw dX7_add_30
  · have hm := dp_in hc hm
    refine lv_aload_n hx hb dX7_add_11 rfl (lv_at hl 0 rfl) ?_
    obtain ⟨v4, ev4, hm⟩ := dp_ob hm
    refine dp_geti X hw cl_X7 15 (by decide) fl_X7_61 ev4 dX7_add_12 ?_
    refine lv_bipush (v := 9) hx hb dX7_add_15 (by decide) ?_
    refine lv_icmp_ne (tgt := 27) hx hb dX7_add_17 (by decide) (fun hc => ?_) (fun hc => ?_)
    · have hm := dp_in hc hm
      refine lv_sipush (v := (-1003)) hx hb dX7_add_27 (by decide) ?_
      cases hm
      exact dp_iret X hr hw dX7_add_30
    · have hm := dp_ip hc hm
      refine lv_aload_n hx hb dX7_add_20 rfl (lv_at hl 0 rfl) ?_
      obtain ⟨v5, ev5, hm⟩ := dp_ob hm
      refine dp_geti X hw cl_X7 27 (by decide) fl_X7_106 ev5 dX7_add_21 ?_
      refine lv_if_eq (tgt := 31) hx hb dX7_add_24 (by decide) (fun hc => ?_) (fun hc => ?_)
      · have hm := dp_ip hc hm
        refine lv_aload_n hx hb dX7_add_31 rfl (lv_at hl 0 rfl) ?_
        obtain ⟨v6, ev6, hm⟩ := dp_ob hm
        refine dp_geti X hw cl_X7 2 (by decide) fl_X7_109 ev6 dX7_add_32 ?_
        refine lv_bipush (v := 10) hx hb dX7_add_35 (by decide) ?_
        refine lv_icmp_ne (tgt := 44) hx hb dX7_add_37 (by decide) (fun hc => ?_) (fun hc => ?_)
        · have hm := dp_in hc hm
          refine lv_aload_n hx hb dX7_add_44 rfl (lv_at hl 0 rfl) ?_
          refine lv_aload_n hx hb dX7_add_45 rfl (lv_at hl 0 rfl) ?_
          obtain ⟨v7, ev7, hm⟩ := dp_ob hm
          refine dp_geti X hw cl_X7 2 (by decide) fl_X7_109 ev7 dX7_add_46 ?_
          obtain ⟨h8, eh8, hm⟩ := dp_ob hm
          refine dp_cVv (As := [.int v7]) (rest := []) X hw (c_X7_keepPattern l D a B h1 x0 v7 eh8) vm_X7_keepPattern ml_X7_112 (by decide) rfl rfl (ck_X7_keepPattern eh8) rfl rfl hl.1 rfl (Nat.le_of_ble_eq_true rfl) dX7_add_49 ⟨(Nat.zero_le _), (Nat.zero_le _)⟩ (fun H locs hw => ?_)
          refine lv_aload_n hx hb dX7_add_52 rfl (lv_at hl 0 rfl) ?_
          refine lv_dup hx hb dX7_add_53 rfl ?_
          obtain ⟨v9, ev9, hm⟩ := dp_ob hm
          refine dp_geti X hw cl_X7 2 (by decide) fl_X7_109 ev9 dX7_add_54 ?_
          refine lv_iconst (v := 1) hx hb dX7_add_57 (by decide) ?_
          refine lv_iadd hx hb dX7_add_58 ?_
          obtain ⟨h10, eh10, hm⟩ := dp_ob hm
          refine dp_puti X hw cl_X7 2 (by decide) fl_X7_109 rfl rfl eh10 dX7_add_59 (fun H locs hw => ?_)
          refine lv_aload_n hx hb dX7_add_62 rfl (lv_at hl 0 rfl) ?_
          refine lv_iconst (v := 0) hx hb dX7_add_63 (by decide) ?_
          obtain ⟨h11, eh11, hm⟩ := dp_ob hm
          refine dp_puti X hw cl_X7 0 (by decide) fl_X7_54 rfl rfl eh11 dX7_add_64 (fun H locs hw => ?_)
          refine lv_aload_n hx hb dX7_add_67 rfl (lv_at hl 0 rfl) ?_
          obtain ⟨v12, ev12, hm⟩ := dp_ob hm
          refine dp_geti X hw cl_X7 2 (by decide) fl_X7_109 ev12 dX7_add_68 ?_
          refine lv_iconst (v := 1) hx hb dX7_add_71 (by decide) ?_
          refine lv_isub hx hb dX7_add_72 ?_
          cases hm
          exact dp_iret X hr hw dX7_add_73
        · have hm := dp_ip hc hm
          refine lv_sipush (v := (-1004)) hx hb dX7_add_40 (by decide) ?_
          cases hm
          exact dp_iret X hr hw dX7_add_43
      · have hm := dp_in hc hm
        refine lv_sipush (v := (-1003)) hx hb dX7_add_27 (by decide) ?_
        cases hm
        exact dp_iret X hr hw dX7_add_30
theorem ck_X7_isPattern {h : dp_H} {x0 : Nat} {x1 : Int32} {r : Int32} (hm : m_X7_isPattern h x0 x1 = some r) : dp_is h x0 7 = true := (dp_ck_e hm).1
set_option maxRecDepth 100000 in
set_option maxHeartbeats 4000000 in
theorem c_X7_isPattern (l : Launch) (D : va_G) (a : dp_A) (B : Nat) (h : dp_H) (x0 : Nat) (x1 : Int32) {r : Int32} (hm : m_X7_isPattern h x0 x1 = some r) : dp_M l D a B yX7_isPattern cX7_isPattern 2 (some .boolean) rm_X7_isPattern [.ref (B + x0), .int x1] h (some (.int r)) h := by
  refine dp_M.of (own := RX7) (nm := "isPattern") (by decide) rfl rfl (Nat.le_of_ble_eq_true rfl) ?_
  intro p e s m below meth c ls X hr hin hw hl
  have hl : lv_has ls 2 [(0, .ref (B + x0)), (1, .int x1)] := hl
  obtain ⟨hx, hb, hml, hown, hlk, hK, hB⟩ := id X
  unfold m_X7_isPattern at hm
  obtain ⟨hck, hm⟩ := dp_ck_e hm
  refine lv_iload_n hx hb dX7_isPattern_0 rfl (lv_at hl 1 rfl) ?_
  refine lv_iconst (v := 0) hx hb dX7_isPattern_1 (by decide) ?_
  refine lv_aload_n hx hb dX7_isPattern_2 rfl (lv_at hl 0 rfl) ?_
  obtain ⟨v1, ev1, hm⟩ := dp_ob hm
  refine dp_geti X hw cl_X7 2 (by decide) fl_X7_109 ev1 dX7_isPattern_3 ?_
  refine lv_iconst (v := 1) hx hb dX7_isPattern_6 (by decide) ?_
  refine lv_isub hx hb dX7_isPattern_7 ?_
  obtain ⟨v2, ev2, hm⟩ := dp_ob hm
  refine dp_cS (As := [.int x1, .int 0, .int (v1 - 1)]) (rest := []) X hw (c_X7_within l D a B h x1 0 (v1 - 1) ev2) sm_X7_within st_X7_within ml_X7_50 (by decide) rfl rfl rfl hl.1 rfl (Nat.le_of_ble_eq_true rfl) dX7_isPattern_8 ⟨(Nat.zero_le _), (Nat.zero_le _)⟩ (fun H locs hw => ?_)
  obtain ⟨hz, hm⟩ := dp_b_e hm
  cases hm
  exact dp_zret X hr hw hz dX7_isPattern_11
set_option maxRecDepth 100000 in
set_option maxHeartbeats 4000000 in
theorem v_X7_copy_98 {p : Program} {l : Launch} {e : Env} {s : State} {m : MethodId} {args : Array Value} {below : List Frame} {meth : Method} {c : Code} {D : va_G} {a : dp_A} {B : Nat} (X : dp_X p s m meth c cX7_copy 4 RX7 D a B) (hr : meth.sig.returnType = none) {h' : dp_H} {k98 : dp_H → Nat → Int32 → Int32 → Int32 → Option dp_H} (hk98 : ∀ (h : dp_H) (x0 : Nat) (x1 : Int32) (x2 : Int32) (x3 : Int32), k98 h x0 x1 x2 x3 = some h' → ∀ (H : Heap) (locs : List Loc) (ls : Array Slot), dp_w D a B h s.heap H locs → lv_has ls 4 [(0, .ref (B + x0)), (1, .int x1), (2, .int x2), (3, .int x3)] → W p l e rm_X7_copy s m args below meth c H locs 0 0 (MQ below (dp_Q D a B none h') args s rm_X7_copy.cells rm_X7_copy.slots (fun q => B ≤ q)) (F0 m 98 ls [])) : ∀ (h : dp_H) (x0 : Nat) (x1 : Int32) (x2 : Int32) (x3 : Int32), b_X7_copy_98 k98 h x0 x1 x2 x3 = some h' → ∀ (H : Heap) (locs : List Loc) (ls : Array Slot), dp_w D a B h s.heap H locs → lv_has ls 4 [(0, .ref (B + x0)), (1, .int x1), (2, .int x2), (3, .int x3)] → W p l e rm_X7_copy s m args below meth c H locs 0 0 (MQ below (dp_Q D a B none h') args s rm_X7_copy.cells rm_X7_copy.slots (fun q => B ≤ q)) (F0 m 98 ls []) := by
  intro h x0 x1 x2 x3 hm H locs ls hw hl
  obtain ⟨hx, hb, hml, hown, hlk, hK, hB⟩ := id X
  unfold b_X7_copy_98 at hm
  refine lv_iload_n hx hb dX7_copy_98 rfl (lv_at hl 3 rfl) ?_
  refine lv_iconst (v := 4) hx hb dX7_copy_99 (by decide) ?_
  refine lv_icmp_ge (tgt := 129) hx hb dX7_copy_100 (by decide) (fun hc => ?_) (fun hc => ?_)
  · have hm := dp_ip hc hm
    cases hm
    exact dp_vret X hr hw dX7_copy_129
  · have hm := dp_in hc hm
    refine lv_aload_n hx hb dX7_copy_103 rfl (lv_at hl 0 rfl) ?_
    obtain ⟨v1, ev1, hm⟩ := dp_ob hm
    refine dp_getr X hw cl_X7 9 (by decide) fl_X7_32 ev1 dX7_copy_104 ?_
    refine lv_iconst (v := 4) hx hb dX7_copy_107 (by decide) ?_
    refine lv_iload_n hx hb dX7_copy_108 rfl (lv_at hl 2 rfl) ?_
    refine lv_imul hx hb dX7_copy_109 ?_
    refine lv_iload_n hx hb dX7_copy_110 rfl (lv_at hl 3 rfl) ?_
    refine lv_iadd hx hb dX7_copy_111 ?_
    refine lv_aload_n hx hb dX7_copy_112 rfl (lv_at hl 0 rfl) ?_
    obtain ⟨v2, ev2, hm⟩ := dp_ob hm
    refine dp_getr X hw cl_X7 9 (by decide) fl_X7_32 ev2 dX7_copy_113 ?_
    refine lv_iconst (v := 4) hx hb dX7_copy_116 (by decide) ?_
    refine lv_iload_n hx hb dX7_copy_117 rfl (lv_at hl 1 rfl) ?_
    refine lv_imul hx hb dX7_copy_118 ?_
    refine lv_iload_n hx hb dX7_copy_119 rfl (lv_at hl 3 rfl) ?_
    refine lv_iadd hx hb dX7_copy_120 ?_
    obtain ⟨v3, ev3, hm⟩ := dp_ob hm
    refine dp_iald X hw ev3 dX7_copy_121 ?_
    obtain ⟨h4, eh4, hm⟩ := dp_ob hm
    refine dp_iast X hw eh4 dX7_copy_122 (fun H locs hw => ?_)
    refine lv_iinc (v := (x3 + 1)) (lv' := [(3, .int (x3 + 1)), (0, .ref (B + x0)), (1, .int x1), (2, .int x2)]) hx hb dX7_copy_123 hl (k := 3) rfl rfl (by decide) rfl (fun ls hl => ?_)
    refine lv_goto (tgt := 98) hx hb dX7_copy_126 (by decide) ?_
    exact hk98 h4 x0 x1 x2 (x3 + 1) hm _ _ _ hw (lv_sub hl [1, 2, 3, 0] rfl)
set_option maxRecDepth 100000 in
set_option maxHeartbeats 4000000 in
theorem w_X7_copy_98 {p : Program} {l : Launch} {e : Env} {s : State} {m : MethodId} {args : Array Value} {below : List Frame} {meth : Method} {c : Code} {D : va_G} {a : dp_A} {B : Nat} (X : dp_X p s m meth c cX7_copy 4 RX7 D a B) (hr : meth.sig.returnType = none) {h' : dp_H}  : ∀ (n : Nat) (h : dp_H) (x0 : Nat) (x1 : Int32) (x2 : Int32) (x3 : Int32), m_X7_copy_98  n h x0 x1 x2 x3 = some h' → ∀ (H : Heap) (locs : List Loc) (ls : Array Slot), dp_w D a B h s.heap H locs → lv_has ls 4 [(0, .ref (B + x0)), (1, .int x1), (2, .int x2), (3, .int x3)] → W p l e rm_X7_copy s m args below meth c H locs 0 0 (MQ below (dp_Q D a B none h') args s rm_X7_copy.cells rm_X7_copy.slots (fun q => B ≤ q)) (F0 m 98 ls []) := by
  intro n
  induction n with
  | zero => intro h x0 x1 x2 x3 hm; cases hm
  | succ n ih => intro h x0 x1 x2 x3 hm; exact v_X7_copy_98 X hr ih h x0 x1 x2 x3 hm
set_option maxRecDepth 100000 in
set_option maxHeartbeats 4000000 in
theorem v_X7_copy_62 {p : Program} {l : Launch} {e : Env} {s : State} {m : MethodId} {args : Array Value} {below : List Frame} {meth : Method} {c : Code} {D : va_G} {a : dp_A} {B : Nat} (X : dp_X p s m meth c cX7_copy 4 RX7 D a B) (hr : meth.sig.returnType = none) {h' : dp_H} {k62 : dp_H → Nat → Int32 → Int32 → Int32 → Option dp_H} (hk62 : ∀ (h : dp_H) (x0 : Nat) (x1 : Int32) (x2 : Int32) (x3 : Int32), k62 h x0 x1 x2 x3 = some h' → ∀ (H : Heap) (locs : List Loc) (ls : Array Slot), dp_w D a B h s.heap H locs → lv_has ls 4 [(0, .ref (B + x0)), (1, .int x1), (2, .int x2), (3, .int x3)] → W p l e rm_X7_copy s m args below meth c H locs 0 0 (MQ below (dp_Q D a B none h') args s rm_X7_copy.cells rm_X7_copy.slots (fun q => B ≤ q)) (F0 m 62 ls [])) : ∀ (h : dp_H) (x0 : Nat) (x1 : Int32) (x2 : Int32) (x3 : Int32), b_X7_copy_62 k62 h x0 x1 x2 x3 = some h' → ∀ (H : Heap) (locs : List Loc) (ls : Array Slot), dp_w D a B h s.heap H locs → lv_has ls 4 [(0, .ref (B + x0)), (1, .int x1), (2, .int x2), (3, .int x3)] → W p l e rm_X7_copy s m args below meth c H locs 0 0 (MQ below (dp_Q D a B none h') args s rm_X7_copy.cells rm_X7_copy.slots (fun q => B ≤ q)) (F0 m 62 ls []) := by
  intro h x0 x1 x2 x3 hm H locs ls hw hl
  obtain ⟨hx, hb, hml, hown, hlk, hK, hB⟩ := id X
  unfold b_X7_copy_62 at hm
  refine lv_iload_n hx hb dX7_copy_62 rfl (lv_at hl 3 rfl) ?_
  refine lv_bipush (v := 8) hx hb dX7_copy_63 (by decide) ?_
  refine lv_icmp_ge (tgt := 96) hx hb dX7_copy_65 (by decide) (fun hc => ?_) (fun hc => ?_)
  · have hm := dp_ip hc hm
    refine lv_iconst (v := 0) hx hb dX7_copy_96 (by decide) ?_
    refine lv_istore_n (lv' := [(3, .int 0), (0, .ref (B + x0)), (1, .int x1), (2, .int x2)]) hx hb dX7_copy_97 rfl hl (by decide) rfl (fun ls hl => ?_)
    exact w_X7_copy_98 X hr 64 h x0 x1 x2 0 hm _ _ _ hw (lv_sub hl [1, 2, 3, 0] rfl)
  · have hm := dp_in hc hm
    refine lv_aload_n hx hb dX7_copy_68 rfl (lv_at hl 0 rfl) ?_
    obtain ⟨v1, ev1, hm⟩ := dp_ob hm
    refine dp_getr X hw cl_X7 5 (by decide) fl_X7_20 ev1 dX7_copy_69 ?_
    refine lv_bipush (v := 8) hx hb dX7_copy_72 (by decide) ?_
    refine lv_iload_n hx hb dX7_copy_74 rfl (lv_at hl 2 rfl) ?_
    refine lv_imul hx hb dX7_copy_75 ?_
    refine lv_iload_n hx hb dX7_copy_76 rfl (lv_at hl 3 rfl) ?_
    refine lv_iadd hx hb dX7_copy_77 ?_
    refine lv_aload_n hx hb dX7_copy_78 rfl (lv_at hl 0 rfl) ?_
    obtain ⟨v2, ev2, hm⟩ := dp_ob hm
    refine dp_getr X hw cl_X7 5 (by decide) fl_X7_20 ev2 dX7_copy_79 ?_
    refine lv_bipush (v := 8) hx hb dX7_copy_82 (by decide) ?_
    refine lv_iload_n hx hb dX7_copy_84 rfl (lv_at hl 1 rfl) ?_
    refine lv_imul hx hb dX7_copy_85 ?_
    refine lv_iload_n hx hb dX7_copy_86 rfl (lv_at hl 3 rfl) ?_
    refine lv_iadd hx hb dX7_copy_87 ?_
    obtain ⟨v3, ev3, hm⟩ := dp_ob hm
    refine dp_iald X hw ev3 dX7_copy_88 ?_
    obtain ⟨h4, eh4, hm⟩ := dp_ob hm
    refine dp_iast X hw eh4 dX7_copy_89 (fun H locs hw => ?_)
    refine lv_iinc (v := (x3 + 1)) (lv' := [(3, .int (x3 + 1)), (0, .ref (B + x0)), (1, .int x1), (2, .int x2)]) hx hb dX7_copy_90 hl (k := 3) rfl rfl (by decide) rfl (fun ls hl => ?_)
    refine lv_goto (tgt := 62) hx hb dX7_copy_93 (by decide) ?_
    exact hk62 h4 x0 x1 x2 (x3 + 1) hm _ _ _ hw (lv_sub hl [1, 2, 3, 0] rfl)
set_option maxRecDepth 100000 in
set_option maxHeartbeats 4000000 in
theorem w_X7_copy_62 {p : Program} {l : Launch} {e : Env} {s : State} {m : MethodId} {args : Array Value} {below : List Frame} {meth : Method} {c : Code} {D : va_G} {a : dp_A} {B : Nat} (X : dp_X p s m meth c cX7_copy 4 RX7 D a B) (hr : meth.sig.returnType = none) {h' : dp_H}  : ∀ (n : Nat) (h : dp_H) (x0 : Nat) (x1 : Int32) (x2 : Int32) (x3 : Int32), m_X7_copy_62  n h x0 x1 x2 x3 = some h' → ∀ (H : Heap) (locs : List Loc) (ls : Array Slot), dp_w D a B h s.heap H locs → lv_has ls 4 [(0, .ref (B + x0)), (1, .int x1), (2, .int x2), (3, .int x3)] → W p l e rm_X7_copy s m args below meth c H locs 0 0 (MQ below (dp_Q D a B none h') args s rm_X7_copy.cells rm_X7_copy.slots (fun q => B ≤ q)) (F0 m 62 ls []) := by
  intro n
  induction n with
  | zero => intro h x0 x1 x2 x3 hm; cases hm
  | succ n ih => intro h x0 x1 x2 x3 hm; exact v_X7_copy_62 X hr ih h x0 x1 x2 x3 hm
theorem ck_X7_copy {h : dp_H} {x0 : Nat} {x1 : Int32} {x2 : Int32} {h' : dp_H} (hm : m_X7_copy h x0 x1 x2 = some h') : dp_is h x0 7 = true := (dp_ck_e hm).1
set_option maxRecDepth 100000 in
set_option maxHeartbeats 4000000 in
theorem c_X7_copy (l : Launch) (D : va_G) (a : dp_A) (B : Nat) (h : dp_H) (x0 : Nat) (x1 : Int32) (x2 : Int32) {h' : dp_H} (hm : m_X7_copy h x0 x1 x2 = some h') : dp_M l D a B yX7_copy cX7_copy 4 none rm_X7_copy [.ref (B + x0), .int x1, .int x2] h none h' := by
  refine dp_M.of (own := RX7) (nm := "copy") (by decide) rfl rfl (Nat.le_of_ble_eq_true rfl) ?_
  intro p e s m below meth c ls X hr hin hw hl
  have hl : lv_has ls 4 [(0, .ref (B + x0)), (1, .int x1), (2, .int x2)] := hl
  obtain ⟨hx, hb, hml, hown, hlk, hK, hB⟩ := id X
  unfold m_X7_copy at hm
  obtain ⟨hck, hm⟩ := dp_ck_e hm
  refine lv_aload_n hx hb dX7_copy_0 rfl (lv_at hl 0 rfl) ?_
  obtain ⟨v1, ev1, hm⟩ := dp_ob hm
  refine dp_getr X hw cl_X7 3 (by decide) fl_X7_13 ev1 dX7_copy_1 ?_
  refine lv_iload_n hx hb dX7_copy_4 rfl (lv_at hl 2 rfl) ?_
  refine lv_aload_n hx hb dX7_copy_5 rfl (lv_at hl 0 rfl) ?_
  obtain ⟨v2, ev2, hm⟩ := dp_ob hm
  refine dp_getr X hw cl_X7 3 (by decide) fl_X7_13 ev2 dX7_copy_6 ?_
  refine lv_iload_n hx hb dX7_copy_9 rfl (lv_at hl 1 rfl) ?_
  obtain ⟨v3, ev3, hm⟩ := dp_ob hm
  refine dp_iald X hw ev3 dX7_copy_10 ?_
  obtain ⟨h4, eh4, hm⟩ := dp_ob hm
  refine dp_iast X hw eh4 dX7_copy_11 (fun H locs hw => ?_)
  refine lv_aload_n hx hb dX7_copy_12 rfl (lv_at hl 0 rfl) ?_
  obtain ⟨v5, ev5, hm⟩ := dp_ob hm
  refine dp_getr X hw cl_X7 4 (by decide) fl_X7_16 ev5 dX7_copy_13 ?_
  refine lv_iload_n hx hb dX7_copy_16 rfl (lv_at hl 2 rfl) ?_
  refine lv_aload_n hx hb dX7_copy_17 rfl (lv_at hl 0 rfl) ?_
  obtain ⟨v6, ev6, hm⟩ := dp_ob hm
  refine dp_getr X hw cl_X7 4 (by decide) fl_X7_16 ev6 dX7_copy_18 ?_
  refine lv_iload_n hx hb dX7_copy_21 rfl (lv_at hl 1 rfl) ?_
  obtain ⟨v7, ev7, hm⟩ := dp_ob hm
  refine dp_zald X hw ev7 dX7_copy_22 ?_
  obtain ⟨hz, hm⟩ := dp_b_e hm
  obtain ⟨h8, eh8, hm⟩ := dp_ob hm
  refine dp_zast X hw hz eh8 dX7_copy_23 (fun H locs hw => ?_)
  refine lv_aload_n hx hb dX7_copy_24 rfl (lv_at hl 0 rfl) ?_
  obtain ⟨v9, ev9, hm⟩ := dp_ob hm
  refine dp_getr X hw cl_X7 6 (by decide) fl_X7_23 ev9 dX7_copy_25 ?_
  refine lv_iload_n hx hb dX7_copy_28 rfl (lv_at hl 2 rfl) ?_
  refine lv_aload_n hx hb dX7_copy_29 rfl (lv_at hl 0 rfl) ?_
  obtain ⟨v10, ev10, hm⟩ := dp_ob hm
  refine dp_getr X hw cl_X7 6 (by decide) fl_X7_23 ev10 dX7_copy_30 ?_
  refine lv_iload_n hx hb dX7_copy_33 rfl (lv_at hl 1 rfl) ?_
  obtain ⟨v11, ev11, hm⟩ := dp_ob hm
  refine dp_iald X hw ev11 dX7_copy_34 ?_
  obtain ⟨h12, eh12, hm⟩ := dp_ob hm
  refine dp_iast X hw eh12 dX7_copy_35 (fun H locs hw => ?_)
  refine lv_aload_n hx hb dX7_copy_36 rfl (lv_at hl 0 rfl) ?_
  obtain ⟨v13, ev13, hm⟩ := dp_ob hm
  refine dp_getr X hw cl_X7 7 (by decide) fl_X7_26 ev13 dX7_copy_37 ?_
  refine lv_iload_n hx hb dX7_copy_40 rfl (lv_at hl 2 rfl) ?_
  refine lv_aload_n hx hb dX7_copy_41 rfl (lv_at hl 0 rfl) ?_
  obtain ⟨v14, ev14, hm⟩ := dp_ob hm
  refine dp_getr X hw cl_X7 7 (by decide) fl_X7_26 ev14 dX7_copy_42 ?_
  refine lv_iload_n hx hb dX7_copy_45 rfl (lv_at hl 1 rfl) ?_
  obtain ⟨v15, ev15, hm⟩ := dp_ob hm
  refine dp_iald X hw ev15 dX7_copy_46 ?_
  obtain ⟨h16, eh16, hm⟩ := dp_ob hm
  refine dp_iast X hw eh16 dX7_copy_47 (fun H locs hw => ?_)
  refine lv_aload_n hx hb dX7_copy_48 rfl (lv_at hl 0 rfl) ?_
  obtain ⟨v17, ev17, hm⟩ := dp_ob hm
  refine dp_getr X hw cl_X7 8 (by decide) fl_X7_29 ev17 dX7_copy_49 ?_
  refine lv_iload_n hx hb dX7_copy_52 rfl (lv_at hl 2 rfl) ?_
  refine lv_aload_n hx hb dX7_copy_53 rfl (lv_at hl 0 rfl) ?_
  obtain ⟨v18, ev18, hm⟩ := dp_ob hm
  refine dp_getr X hw cl_X7 8 (by decide) fl_X7_29 ev18 dX7_copy_54 ?_
  refine lv_iload_n hx hb dX7_copy_57 rfl (lv_at hl 1 rfl) ?_
  obtain ⟨v19, ev19, hm⟩ := dp_ob hm
  refine dp_iald X hw ev19 dX7_copy_58 ?_
  obtain ⟨h20, eh20, hm⟩ := dp_ob hm
  refine dp_iast X hw eh20 dX7_copy_59 (fun H locs hw => ?_)
  refine lv_iconst (v := 0) hx hb dX7_copy_60 (by decide) ?_
  refine lv_istore_n (lv' := [(3, .int 0), (0, .ref (B + x0)), (1, .int x1), (2, .int x2)]) hx hb dX7_copy_61 rfl hl (by decide) rfl (fun ls hl => ?_)
  exact w_X7_copy_62 X hr 64 h20 x0 x1 x2 0 hm _ _ _ hw (lv_sub hl [1, 2, 3, 0] rfl)
set_option maxRecDepth 100000 in
set_option maxHeartbeats 4000000 in
theorem v_X7_drop_35 {p : Program} {l : Launch} {e : Env} {s : State} {m : MethodId} {args : Array Value} {below : List Frame} {meth : Method} {c : Code} {D : va_G} {a : dp_A} {B : Nat} (X : dp_X p s m meth c cX7_drop 3 RX7 D a B) (hr : meth.sig.returnType = (some .int)) {h' : dp_H} {r : Int32} {k35 : dp_H → Nat → Int32 → Option (dp_H × Int32)} (hk35 : ∀ (h : dp_H) (x0 : Nat) (x2 : Int32), k35 h x0 x2 = some (h', r) → ∀ (H : Heap) (locs : List Loc) (ls : Array Slot), dp_w D a B h s.heap H locs → lv_has ls 3 [(0, .ref (B + x0)), (2, .int x2)] → W p l e rm_X7_drop s m args below meth c H locs 0 0 (MQ below (dp_Q D a B (some (.int r)) h') args s rm_X7_drop.cells rm_X7_drop.slots (fun q => B ≤ q)) (F0 m 35 ls [])) : ∀ (h : dp_H) (x0 : Nat) (x2 : Int32), b_X7_drop_35 k35 h x0 x2 = some (h', r) → ∀ (H : Heap) (locs : List Loc) (ls : Array Slot), dp_w D a B h s.heap H locs → lv_has ls 3 [(0, .ref (B + x0)), (2, .int x2)] → W p l e rm_X7_drop s m args below meth c H locs 0 0 (MQ below (dp_Q D a B (some (.int r)) h') args s rm_X7_drop.cells rm_X7_drop.slots (fun q => B ≤ q)) (F0 m 35 ls []) := by
  intro h x0 x2 hm H locs ls hw hl
  obtain ⟨hx, hb, hml, hown, hlk, hK, hB⟩ := id X
  unfold b_X7_drop_35 at hm
  refine lv_iload_n hx hb dX7_drop_35 rfl (lv_at hl 1 rfl) ?_
  refine lv_aload_n hx hb dX7_drop_36 rfl (lv_at hl 0 rfl) ?_
  obtain ⟨v1, ev1, hm⟩ := dp_ob hm
  refine dp_geti X hw cl_X7 2 (by decide) fl_X7_109 ev1 dX7_drop_37 ?_
  refine lv_icmp_ge (tgt := 57) hx hb dX7_drop_40 (by decide) (fun hc => ?_) (fun hc => ?_)
  · have hm := dp_ip hc hm
    refine lv_aload_n hx hb dX7_drop_57 rfl (lv_at hl 0 rfl) ?_
    obtain ⟨v2, ev2, hm⟩ := dp_ob hm
    refine dp_geti X hw cl_X7 2 (by decide) fl_X7_109 ev2 dX7_drop_58 ?_
    cases hm
    exact dp_iret X hr hw dX7_drop_61
  · have hm := dp_in hc hm
    refine lv_aload_n hx hb dX7_drop_43 rfl (lv_at hl 0 rfl) ?_
    refine lv_iload_n hx hb dX7_drop_44 rfl (lv_at hl 1 rfl) ?_
    refine lv_iconst (v := 1) hx hb dX7_drop_45 (by decide) ?_
    refine lv_iadd hx hb dX7_drop_46 ?_
    refine lv_iload_n hx hb dX7_drop_47 rfl (lv_at hl 1 rfl) ?_
    obtain ⟨h3, eh3, hm⟩ := dp_ob hm
    refine dp_cVv (As := [.int (x2 + 1), .int x2]) (rest := []) X hw (c_X7_copy l D a B h x0 (x2 + 1) x2 eh3) vm_X7_copy ml_X7_119 (by decide) rfl rfl (ck_X7_copy eh3) rfl rfl hl.1 rfl (Nat.le_of_ble_eq_true rfl) dX7_drop_48 ⟨(Nat.zero_le _), (Nat.zero_le _)⟩ (fun H locs hw => ?_)
    refine lv_iinc (v := (x2 + 1)) (lv' := [(2, .int (x2 + 1)), (0, .ref (B + x0))]) hx hb dX7_drop_51 hl (k := 1) rfl rfl (by decide) rfl (fun ls hl => ?_)
    refine lv_goto (tgt := 35) hx hb dX7_drop_54 (by decide) ?_
    exact hk35 h3 x0 (x2 + 1) hm _ _ _ hw (lv_sub hl [1, 0] rfl)
set_option maxRecDepth 100000 in
set_option maxHeartbeats 4000000 in
theorem w_X7_drop_35 {p : Program} {l : Launch} {e : Env} {s : State} {m : MethodId} {args : Array Value} {below : List Frame} {meth : Method} {c : Code} {D : va_G} {a : dp_A} {B : Nat} (X : dp_X p s m meth c cX7_drop 3 RX7 D a B) (hr : meth.sig.returnType = (some .int)) {h' : dp_H} {r : Int32}  : ∀ (n : Nat) (h : dp_H) (x0 : Nat) (x2 : Int32), m_X7_drop_35  n h x0 x2 = some (h', r) → ∀ (H : Heap) (locs : List Loc) (ls : Array Slot), dp_w D a B h s.heap H locs → lv_has ls 3 [(0, .ref (B + x0)), (2, .int x2)] → W p l e rm_X7_drop s m args below meth c H locs 0 0 (MQ below (dp_Q D a B (some (.int r)) h') args s rm_X7_drop.cells rm_X7_drop.slots (fun q => B ≤ q)) (F0 m 35 ls []) := by
  intro n
  induction n with
  | zero => intro h x0 x2 hm; cases hm
  | succ n ih => intro h x0 x2 hm; exact v_X7_drop_35 X hr ih h x0 x2 hm
theorem ck_X7_drop {h : dp_H} {x0 : Nat} {x1 : Int32} {h' : dp_H} {r : Int32} (hm : m_X7_drop h x0 x1 = some (h', r)) : dp_is h x0 7 = true := (dp_ck_e hm).1
set_option maxRecDepth 100000 in
set_option maxHeartbeats 4000000 in
theorem c_X7_drop (l : Launch) (D : va_G) (a : dp_A) (B : Nat) (h : dp_H) (x0 : Nat) (x1 : Int32) {h' : dp_H} {r : Int32} (hm : m_X7_drop h x0 x1 = some (h', r)) : dp_M l D a B yX7_drop cX7_drop 3 (some .int) rm_X7_drop [.ref (B + x0), .int x1] h (some (.int r)) h' := by
  refine dp_M.of (own := RX7) (nm := "drop") (by decide) rfl rfl (Nat.le_of_ble_eq_true rfl) ?_
  intro p e s m below meth c ls X hr hin hw hl
  have hl : lv_has ls 3 [(0, .ref (B + x0)), (1, .int x1)] := hl
  obtain ⟨hx, hb, hml, hown, hlk, hK, hB⟩ := id X
  unfold m_X7_drop at hm
  obtain ⟨hck, hm⟩ := dp_ck_e hm
  refine lv_aload_n hx hb dX7_drop_0 rfl (lv_at hl 0 rfl) ?_
  refine lv_iload_n hx hb dX7_drop_1 rfl (lv_at hl 1 rfl) ?_
  obtain ⟨v1, ev1, hm⟩ := dp_ob hm
  refine dp_cV (As := [.int x1]) (rest := []) X hw (c_X7_isPattern l D a B h x0 x1 ev1) vm_X7_isPattern ml_X7_116 (by decide) rfl rfl (ck_X7_isPattern ev1) rfl rfl hl.1 rfl (Nat.le_of_ble_eq_true rfl) dX7_drop_2 ⟨(Nat.zero_le _), (Nat.zero_le _)⟩ (fun H locs hw => ?_)
  refine lv_if_ne (tgt := 12) hx hb dX7_drop_5 (by decide) (fun hc => ?_) (fun hc => ?_)
  · have hm := dp_in hc hm
    refine lv_aload_n hx hb dX7_drop_12 rfl (lv_at hl 0 rfl) ?_
    obtain ⟨v2, ev2, hm⟩ := dp_ob hm
    refine dp_geti X hw cl_X7 27 (by decide) fl_X7_106 ev2 dX7_drop_13 ?_
    refine lv_if_eq (tgt := 23) hx hb dX7_drop_16 (by decide) (fun hc => ?_) (fun hc => ?_)
    · have hm := dp_ip hc hm
      refine lv_aload_n hx hb dX7_drop_23 rfl (lv_at hl 0 rfl) ?_
      refine lv_dup hx hb dX7_drop_24 rfl ?_
      obtain ⟨v3, ev3, hm⟩ := dp_ob hm
      refine dp_geti X hw cl_X7 2 (by decide) fl_X7_109 ev3 dX7_drop_25 ?_
      refine lv_iconst (v := 1) hx hb dX7_drop_28 (by decide) ?_
      refine lv_isub hx hb dX7_drop_29 ?_
      obtain ⟨h4, eh4, hm⟩ := dp_ob hm
      refine dp_puti X hw cl_X7 2 (by decide) fl_X7_109 rfl rfl eh4 dX7_drop_30 (fun H locs hw => ?_)
      refine lv_iload_n hx hb dX7_drop_33 rfl (lv_at hl 1 rfl) ?_
      refine lv_istore_n (lv' := [(2, .int x1), (0, .ref (B + x0)), (1, .int x1)]) hx hb dX7_drop_34 rfl hl (by decide) rfl (fun ls hl => ?_)
      exact w_X7_drop_35 X hr 64 h4 x0 x1 hm _ _ _ hw (lv_sub hl [1, 0] rfl)
    · have hm := dp_in hc hm
      refine lv_sipush (v := (-1003)) hx hb dX7_drop_19 (by decide) ?_
      cases hm
      exact dp_iret X hr hw dX7_drop_22
  · have hm := dp_ip hc hm
    refine lv_sipush (v := (-1001)) hx hb dX7_drop_8 (by decide) ?_
    cases hm
    exact dp_iret X hr hw dX7_drop_11
theorem ck_X7_letsOf {h : dp_H} {x0 : Nat} {x1 : Int32} {x2 : Int32} {r : Int32} (hm : m_X7_letsOf h x0 x1 x2 = some r) : dp_is h x0 7 = true := (dp_ck_e hm).1
set_option maxRecDepth 100000 in
set_option maxHeartbeats 4000000 in
theorem c_X7_letsOf (l : Launch) (D : va_G) (a : dp_A) (B : Nat) (h : dp_H) (x0 : Nat) (x1 : Int32) (x2 : Int32) {r : Int32} (hm : m_X7_letsOf h x0 x1 x2 = some r) : dp_M l D a B yX7_letsOf cX7_letsOf 3 (some .int) rm_X7_letsOf [.ref (B + x0), .int x1, .int x2] h (some (.int r)) h := by
  refine dp_M.of (own := RX7) (nm := "letsOf") (by decide) rfl rfl (Nat.le_of_ble_eq_true rfl) ?_
  intro p e s m below meth c ls X hr hin hw hl
  have hl : lv_has ls 3 [(0, .ref (B + x0)), (1, .int x1), (2, .int x2)] := hl
  obtain ⟨hx, hb, hml, hown, hlk, hK, hB⟩ := id X
  unfold m_X7_letsOf at hm
  obtain ⟨hck, hm⟩ := dp_ck_e hm
  refine lv_iload_n hx hb dX7_letsOf_0 rfl (lv_at hl 2 rfl) ?_
  refine lv_aload_n hx hb dX7_letsOf_1 rfl (lv_at hl 0 rfl) ?_
  obtain ⟨v1, ev1, hm⟩ := dp_ob hm
  refine dp_getr X hw cl_X7 3 (by decide) fl_X7_13 ev1 dX7_letsOf_2 ?_
  refine lv_iload_n hx hb dX7_letsOf_5 rfl (lv_at hl 1 rfl) ?_
  obtain ⟨v2, ev2, hm⟩ := dp_ob hm
  refine dp_iald X hw ev2 dX7_letsOf_6 ?_
  refine lv_icmp_ge (tgt := 24) hx hb dX7_letsOf_7 (by decide) (fun hc => ?_) (fun hc => ?_)
  · have hm := dp_ip hc hm
    refine lv_aload_n hx hb dX7_letsOf_24 rfl (lv_at hl 0 rfl) ?_
    obtain ⟨v3, ev3, hm⟩ := dp_ob hm
    refine dp_getr X hw cl_X7 4 (by decide) fl_X7_16 ev3 dX7_letsOf_25 ?_
    refine lv_iload_n hx hb dX7_letsOf_28 rfl (lv_at hl 1 rfl) ?_
    obtain ⟨v4, ev4, hm⟩ := dp_ob hm
    refine dp_zald X hw ev4 dX7_letsOf_29 ?_
    refine lv_if_eq (tgt := 39) hx hb dX7_letsOf_30 (by decide) (fun hc => ?_) (fun hc => ?_)
    · have hm := dp_ip hc hm
      refine lv_iconst (v := 0) hx hb dX7_letsOf_39 (by decide) ?_
      cases hm
      exact dp_iret X hr hw dX7_letsOf_40
    · have hm := dp_in hc hm
      refine lv_sipush (v := 1023) hx hb dX7_letsOf_33 (by decide) ?_
      refine lv_goto (tgt := 40) hx hb dX7_letsOf_36 (by decide) ?_
      cases hm
      exact dp_iret X hr hw dX7_letsOf_40
  · have hm := dp_in hc hm
    refine lv_aload_n hx hb dX7_letsOf_10 rfl (lv_at hl 0 rfl) ?_
    obtain ⟨v5, ev5, hm⟩ := dp_ob hm
    refine dp_getr X hw cl_X7 5 (by decide) fl_X7_20 ev5 dX7_letsOf_11 ?_
    refine lv_bipush (v := 8) hx hb dX7_letsOf_14 (by decide) ?_
    refine lv_iload_n hx hb dX7_letsOf_16 rfl (lv_at hl 1 rfl) ?_
    refine lv_imul hx hb dX7_letsOf_17 ?_
    refine lv_iload_n hx hb dX7_letsOf_18 rfl (lv_at hl 2 rfl) ?_
    refine lv_iadd hx hb dX7_letsOf_19 ?_
    obtain ⟨v6, ev6, hm⟩ := dp_ob hm
    refine dp_iald X hw ev6 dX7_letsOf_20 ?_
    refine lv_goto (tgt := 40) hx hb dX7_letsOf_21 (by decide) ?_
    cases hm
    exact dp_iret X hr hw dX7_letsOf_40
set_option maxRecDepth 100000 in
set_option maxHeartbeats 4000000 in
theorem v_X7_aheadNumber_4 {p : Program} {l : Launch} {e : Env} {s : State} {m : MethodId} {args : Array Value} {below : List Frame} {meth : Method} {c : Code} {D : va_G} {a : dp_A} {B : Nat} (X : dp_X p s m meth c cX7_aheadNumber 4 RX7 D a B) (hr : meth.sig.returnType = (some .int)) {h : dp_H} {r : Int32} {k4 : Nat → Int32 → Int32 → Int32 → Option Int32} (hk4 : ∀ (x0 : Nat) (x1 : Int32) (x2 : Int32) (x3 : Int32), k4 x0 x1 x2 x3 = some r → ∀ (H : Heap) (locs : List Loc) (ls : Array Slot), dp_w D a B h s.heap H locs → lv_has ls 4 [(0, .ref (B + x0)), (1, .int x1), (2, .int x2), (3, .int x3)] → W p l e rm_X7_aheadNumber s m args below meth c H locs 0 0 (MQ below (dp_Q D a B (some (.int r)) h) args s rm_X7_aheadNumber.cells rm_X7_aheadNumber.slots (fun q => B ≤ q)) (F0 m 4 ls [])) : ∀ (x0 : Nat) (x1 : Int32) (x2 : Int32) (x3 : Int32), b_X7_aheadNumber_4 h k4 x0 x1 x2 x3 = some r → ∀ (H : Heap) (locs : List Loc) (ls : Array Slot), dp_w D a B h s.heap H locs → lv_has ls 4 [(0, .ref (B + x0)), (1, .int x1), (2, .int x2), (3, .int x3)] → W p l e rm_X7_aheadNumber s m args below meth c H locs 0 0 (MQ below (dp_Q D a B (some (.int r)) h) args s rm_X7_aheadNumber.cells rm_X7_aheadNumber.slots (fun q => B ≤ q)) (F0 m 4 ls []) := by
  intro x0 x1 x2 x3 hm H locs ls hw hl
  obtain ⟨hx, hb, hml, hown, hlk, hK, hB⟩ := id X
  unfold b_X7_aheadNumber_4 at hm
  refine lv_iload_n hx hb dX7_aheadNumber_4 rfl (lv_at hl 3 rfl) ?_
  refine lv_aload_n hx hb dX7_aheadNumber_5 rfl (lv_at hl 0 rfl) ?_
  obtain ⟨v1, ev1, hm⟩ := dp_ob hm
  refine dp_getr X hw cl_X7 8 (by decide) fl_X7_29 ev1 dX7_aheadNumber_6 ?_
  refine lv_iload_n hx hb dX7_aheadNumber_9 rfl (lv_at hl 1 rfl) ?_
  obtain ⟨v2, ev2, hm⟩ := dp_ob hm
  refine dp_iald X hw ev2 dX7_aheadNumber_10 ?_
  refine lv_icmp_ge (tgt := 36) hx hb dX7_aheadNumber_11 (by decide) (fun hc => ?_) (fun hc => ?_)
  · have hm := dp_ip hc hm
    refine lv_iload_n hx hb dX7_aheadNumber_36 rfl (lv_at hl 2 rfl) ?_
    cases hm
    exact dp_iret X hr hw dX7_aheadNumber_37
  · have hm := dp_in hc hm
    refine lv_bipush (v := 10) hx hb dX7_aheadNumber_14 (by decide) ?_
    refine lv_iload_n hx hb dX7_aheadNumber_16 rfl (lv_at hl 2 rfl) ?_
    refine lv_imul hx hb dX7_aheadNumber_17 ?_
    refine lv_aload_n hx hb dX7_aheadNumber_18 rfl (lv_at hl 0 rfl) ?_
    obtain ⟨v3, ev3, hm⟩ := dp_ob hm
    refine dp_getr X hw cl_X7 9 (by decide) fl_X7_32 ev3 dX7_aheadNumber_19 ?_
    refine lv_iconst (v := 4) hx hb dX7_aheadNumber_22 (by decide) ?_
    refine lv_iload_n hx hb dX7_aheadNumber_23 rfl (lv_at hl 1 rfl) ?_
    refine lv_imul hx hb dX7_aheadNumber_24 ?_
    refine lv_iload_n hx hb dX7_aheadNumber_25 rfl (lv_at hl 3 rfl) ?_
    refine lv_iadd hx hb dX7_aheadNumber_26 ?_
    obtain ⟨v4, ev4, hm⟩ := dp_ob hm
    refine dp_iald X hw ev4 dX7_aheadNumber_27 ?_
    refine lv_iadd hx hb dX7_aheadNumber_28 ?_
    refine lv_istore_n (lv' := [(2, .int ((10 * x2) + v4)), (0, .ref (B + x0)), (1, .int x1), (3, .int x3)]) hx hb dX7_aheadNumber_29 rfl hl (by decide) rfl (fun ls hl => ?_)
    refine lv_iinc (v := (x3 + 1)) (lv' := [(3, .int (x3 + 1)), (2, .int ((10 * x2) + v4)), (0, .ref (B + x0)), (1, .int x1)]) hx hb dX7_aheadNumber_30 hl (k := 3) rfl rfl (by decide) rfl (fun ls hl => ?_)
    refine lv_goto (tgt := 4) hx hb dX7_aheadNumber_33 (by decide) ?_
    exact hk4 x0 x1 ((10 * x2) + v4) (x3 + 1) hm _ _ _ hw (lv_sub hl [2, 3, 1, 0] rfl)
set_option maxRecDepth 100000 in
set_option maxHeartbeats 4000000 in
theorem w_X7_aheadNumber_4 {p : Program} {l : Launch} {e : Env} {s : State} {m : MethodId} {args : Array Value} {below : List Frame} {meth : Method} {c : Code} {D : va_G} {a : dp_A} {B : Nat} (X : dp_X p s m meth c cX7_aheadNumber 4 RX7 D a B) (hr : meth.sig.returnType = (some .int)) {h : dp_H} {r : Int32}  : ∀ (n : Nat) (x0 : Nat) (x1 : Int32) (x2 : Int32) (x3 : Int32), m_X7_aheadNumber_4 h  n x0 x1 x2 x3 = some r → ∀ (H : Heap) (locs : List Loc) (ls : Array Slot), dp_w D a B h s.heap H locs → lv_has ls 4 [(0, .ref (B + x0)), (1, .int x1), (2, .int x2), (3, .int x3)] → W p l e rm_X7_aheadNumber s m args below meth c H locs 0 0 (MQ below (dp_Q D a B (some (.int r)) h) args s rm_X7_aheadNumber.cells rm_X7_aheadNumber.slots (fun q => B ≤ q)) (F0 m 4 ls []) := by
  intro n
  induction n with
  | zero => intro x0 x1 x2 x3 hm; cases hm
  | succ n ih => intro x0 x1 x2 x3 hm; exact v_X7_aheadNumber_4 X hr ih x0 x1 x2 x3 hm
theorem ck_X7_aheadNumber {h : dp_H} {x0 : Nat} {x1 : Int32} {r : Int32} (hm : m_X7_aheadNumber h x0 x1 = some r) : dp_is h x0 7 = true := (dp_ck_e hm).1
set_option maxRecDepth 100000 in
set_option maxHeartbeats 4000000 in
theorem c_X7_aheadNumber (l : Launch) (D : va_G) (a : dp_A) (B : Nat) (h : dp_H) (x0 : Nat) (x1 : Int32) {r : Int32} (hm : m_X7_aheadNumber h x0 x1 = some r) : dp_M l D a B yX7_aheadNumber cX7_aheadNumber 4 (some .int) rm_X7_aheadNumber [.ref (B + x0), .int x1] h (some (.int r)) h := by
  refine dp_M.of (own := RX7) (nm := "aheadNumber") (by decide) rfl rfl (Nat.le_of_ble_eq_true rfl) ?_
  intro p e s m below meth c ls X hr hin hw hl
  have hl : lv_has ls 4 [(0, .ref (B + x0)), (1, .int x1)] := hl
  obtain ⟨hx, hb, hml, hown, hlk, hK, hB⟩ := id X
  unfold m_X7_aheadNumber at hm
  obtain ⟨hck, hm⟩ := dp_ck_e hm
  refine lv_iconst (v := 0) hx hb dX7_aheadNumber_0 (by decide) ?_
  refine lv_istore_n (lv' := [(2, .int 0), (0, .ref (B + x0)), (1, .int x1)]) hx hb dX7_aheadNumber_1 rfl hl (by decide) rfl (fun ls hl => ?_)
  refine lv_iconst (v := 0) hx hb dX7_aheadNumber_2 (by decide) ?_
  refine lv_istore_n (lv' := [(3, .int 0), (2, .int 0), (0, .ref (B + x0)), (1, .int x1)]) hx hb dX7_aheadNumber_3 rfl hl (by decide) rfl (fun ls hl => ?_)
  exact w_X7_aheadNumber_4 X hr 64 x0 x1 0 0 hm _ _ _ hw (lv_sub hl [2, 3, 1, 0] rfl)
theorem ck_X7_patternNow {h : dp_H} {x0 : Nat} {x1 : Int32} {x2 : Int32} {r : Int32} (hm : m_X7_patternNow h x0 x1 x2 = some r) : dp_is h x0 7 = true := (dp_ck_e hm).1
set_option maxRecDepth 100000 in
set_option maxHeartbeats 4000000 in
theorem c_X7_patternNow (l : Launch) (D : va_G) (a : dp_A) (B : Nat) (h : dp_H) (x0 : Nat) (x1 : Int32) (x2 : Int32) {r : Int32} (hm : m_X7_patternNow h x0 x1 x2 = some r) : dp_M l D a B yX7_patternNow cX7_patternNow 3 (some .int) rm_X7_patternNow [.ref (B + x0), .int x1, .int x2] h (some (.int r)) h := by
  refine dp_M.of (own := RX7) (nm := "patternNow") (by decide) rfl rfl (Nat.le_of_ble_eq_true rfl) ?_
  intro p e s m below meth c ls X hr hin hw hl
  have hl : lv_has ls 3 [(0, .ref (B + x0)), (1, .int x1), (2, .int x2)] := hl
  obtain ⟨hx, hb, hml, hown, hlk, hK, hB⟩ := id X
  unfold m_X7_patternNow at hm
  obtain ⟨hck, hm⟩ := dp_ck_e hm
  refine lv_iload_n hx hb dX7_patternNow_0 rfl (lv_at hl 2 rfl) ?_
  by_cases hc0 : x2 = 0
  · have hm := dp_ip hc0 hm
    refine lv_tableIn (off := 35) (tgt := 36) hx hb dX7_patternNow_1 (by rw [hc0]; first | done | decide) (by rw [hc0]; first | done | decide) (by rw [hc0]; first | done | decide) (by decide) ?_
    refine lv_aload_n hx hb dX7_patternNow_36 rfl (lv_at hl 0 rfl) ?_
    obtain ⟨v1, ev1, hm⟩ := dp_ob hm
    refine dp_getr X hw cl_X7 3 (by decide) fl_X7_13 ev1 dX7_patternNow_37 ?_
    refine lv_iload_n hx hb dX7_patternNow_40 rfl (lv_at hl 1 rfl) ?_
    obtain ⟨v2, ev2, hm⟩ := dp_ob hm
    refine dp_iald X hw ev2 dX7_patternNow_41 ?_
    cases hm
    exact dp_iret X hr hw dX7_patternNow_42
  have hm := dp_in hc0 hm
  by_cases hc1 : x2 = 1
  · have hm := dp_ip hc1 hm
    refine lv_tableIn (off := 42) (tgt := 43) hx hb dX7_patternNow_1 (by rw [hc1]; first | done | decide) (by rw [hc1]; first | done | decide) (by rw [hc1]; first | done | decide) (by decide) ?_
    refine lv_aload_n hx hb dX7_patternNow_43 rfl (lv_at hl 0 rfl) ?_
    obtain ⟨v3, ev3, hm⟩ := dp_ob hm
    refine dp_getr X hw cl_X7 4 (by decide) fl_X7_16 ev3 dX7_patternNow_44 ?_
    refine lv_iload_n hx hb dX7_patternNow_47 rfl (lv_at hl 1 rfl) ?_
    obtain ⟨v4, ev4, hm⟩ := dp_ob hm
    refine dp_zald X hw ev4 dX7_patternNow_48 ?_
    refine lv_if_eq (tgt := 56) hx hb dX7_patternNow_49 (by decide) (fun hc => ?_) (fun hc => ?_)
    · have hm := dp_ip hc hm
      refine lv_iconst (v := 0) hx hb dX7_patternNow_56 (by decide) ?_
      cases hm
      exact dp_iret X hr hw dX7_patternNow_57
    · have hm := dp_in hc hm
      refine lv_iconst (v := 1) hx hb dX7_patternNow_52 (by decide) ?_
      refine lv_goto (tgt := 57) hx hb dX7_patternNow_53 (by decide) ?_
      cases hm
      exact dp_iret X hr hw dX7_patternNow_57
  have hm := dp_in hc1 hm
  by_cases hc2 : x2 = 2
  · have hm := dp_ip hc2 hm
    refine lv_tableIn (off := 57) (tgt := 58) hx hb dX7_patternNow_1 (by rw [hc2]; first | done | decide) (by rw [hc2]; first | done | decide) (by rw [hc2]; first | done | decide) (by decide) ?_
    refine lv_aload_n hx hb dX7_patternNow_58 rfl (lv_at hl 0 rfl) ?_
    obtain ⟨v5, ev5, hm⟩ := dp_ob hm
    refine dp_getr X hw cl_X7 6 (by decide) fl_X7_23 ev5 dX7_patternNow_59 ?_
    refine lv_iload_n hx hb dX7_patternNow_62 rfl (lv_at hl 1 rfl) ?_
    obtain ⟨v6, ev6, hm⟩ := dp_ob hm
    refine dp_iald X hw ev6 dX7_patternNow_63 ?_
    cases hm
    exact dp_iret X hr hw dX7_patternNow_64
  have hm := dp_in hc2 hm
  by_cases hc3 : x2 = 3
  · have hm := dp_ip hc3 hm
    refine lv_tableIn (off := 64) (tgt := 65) hx hb dX7_patternNow_1 (by rw [hc3]; first | done | decide) (by rw [hc3]; first | done | decide) (by rw [hc3]; first | done | decide) (by decide) ?_
    refine lv_aload_n hx hb dX7_patternNow_65 rfl (lv_at hl 0 rfl) ?_
    obtain ⟨v7, ev7, hm⟩ := dp_ob hm
    refine dp_getr X hw cl_X7 7 (by decide) fl_X7_26 ev7 dX7_patternNow_66 ?_
    refine lv_iload_n hx hb dX7_patternNow_69 rfl (lv_at hl 1 rfl) ?_
    obtain ⟨v8, ev8, hm⟩ := dp_ob hm
    refine dp_iald X hw ev8 dX7_patternNow_70 ?_
    cases hm
    exact dp_iret X hr hw dX7_patternNow_71
  have hm := dp_in hc3 hm
  by_cases hc4 : x2 = 4
  · have hm := dp_ip hc4 hm
    refine lv_tableIn (off := 71) (tgt := 72) hx hb dX7_patternNow_1 (by rw [hc4]; first | done | decide) (by rw [hc4]; first | done | decide) (by rw [hc4]; first | done | decide) (by decide) ?_
    refine lv_aload_n hx hb dX7_patternNow_72 rfl (lv_at hl 0 rfl) ?_
    obtain ⟨v9, ev9, hm⟩ := dp_ob hm
    refine dp_getr X hw cl_X7 8 (by decide) fl_X7_29 ev9 dX7_patternNow_73 ?_
    refine lv_iload_n hx hb dX7_patternNow_76 rfl (lv_at hl 1 rfl) ?_
    obtain ⟨v10, ev10, hm⟩ := dp_ob hm
    refine dp_iald X hw ev10 dX7_patternNow_77 ?_
    cases hm
    exact dp_iret X hr hw dX7_patternNow_78
  have hm := dp_in hc4 hm
  have hd0 : Int32.toInt x2 ≠ 0 := fun q => hc0 (Int32.toInt_inj.mp (q.trans (by decide)))
  have hd1 : Int32.toInt x2 ≠ 1 := fun q => hc1 (Int32.toInt_inj.mp (q.trans (by decide)))
  have hd2 : Int32.toInt x2 ≠ 2 := fun q => hc2 (Int32.toInt_inj.mp (q.trans (by decide)))
  have hd3 : Int32.toInt x2 ≠ 3 := fun q => hc3 (Int32.toInt_inj.mp (q.trans (by decide)))
  have hd4 : Int32.toInt x2 ≠ 4 := fun q => hc4 (Int32.toInt_inj.mp (q.trans (by decide)))
  refine lv_tableOut (tgt := 79) hx hb dX7_patternNow_1 (by omega) (by decide) ?_
  refine lv_aload_n hx hb dX7_patternNow_79 rfl (lv_at hl 0 rfl) ?_
  refine lv_iload_n hx hb dX7_patternNow_80 rfl (lv_at hl 1 rfl) ?_
  obtain ⟨v11, ev11, hm⟩ := dp_ob hm
  refine dp_cV (As := [.int x1]) (rest := []) X hw (c_X7_aheadNumber l D a B h x0 x1 ev11) vm_X7_aheadNumber ml_X7_123 (by decide) rfl rfl (ck_X7_aheadNumber ev11) rfl rfl hl.1 rfl (Nat.le_of_ble_eq_true rfl) dX7_patternNow_81 ⟨(Nat.zero_le _), (Nat.zero_le _)⟩ (fun H locs hw => ?_)
  cases hm
  exact dp_iret X hr hw dX7_patternNow_84
