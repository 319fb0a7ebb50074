set_option maxRecDepth 100000 in
set_option maxHeartbeats 4000000 in
theorem c_J6_bitCount_0f7a4 (l : Launch) (D : va_G) (a : dp_A) (B : Nat) (h : dp_H) (x0 : Int32) {r : Int32} (hm : m_J6_bitCount_0f7a4 h x0 = some r) : dp_M l D a B yJ6_bitCount_0f7a4 cJ6_bitCount_0f7a4 1 (some .int) rm_J6_bitCount_0f7a4 [.int x0] h (some (.int r)) h := by
  refine dp_M.of (own := RJ6) (nm := "bitCount") (by decide) rfl rfl (Nat.le_of_ble_eq_true rfl) ?_
  intro p e s m below meth c ls X hr hin hw hl
  have hl : lv_has ls 1 [(0, .int x0)] := hl
  obtain ⟨hx, hb, hml, hown, hlk, hK, hB⟩ := id X
  unfold m_J6_bitCount_0f7a4 at hm
  refine lv_iload_n hx hb dJ6_bitCount_0f7a4_0 rfl (lv_at hl 0 rfl) ?_
  refine lv_iload_n hx hb dJ6_bitCount_0f7a4_1 rfl (lv_at hl 0 rfl) ?_
  refine lv_iconst (v := 1) hx hb dJ6_bitCount_0f7a4_2 (by decide) ?_
  refine lv_iushr (v := (Int32.toUInt32 x0 >>> (Int32.toUInt32 1 &&& Int32.toUInt32 31)).toInt32) hx hb dJ6_bitCount_0f7a4_3 rfl ?_
  refine lv_ldcw (v := 1431655765) hx hb hown (hK.word kc_J6_265 rfl) dJ6_bitCount_0f7a4_4 ?_
  refine lv_iand hx hb dJ6_bitCount_0f7a4_7 ?_
  refine lv_isub hx hb dJ6_bitCount_0f7a4_8 ?_
  refine lv_istore_n (lv' := [(0, .int (x0 - (((Int32.toUInt32 x0 >>> (Int32.toUInt32 1 &&& Int32.toUInt32 31)).toInt32) &&& 1431655765)))]) hx hb dJ6_bitCount_0f7a4_9 rfl hl (by decide) rfl (fun ls hl => ?_)
  refine lv_iload_n hx hb dJ6_bitCount_0f7a4_10 rfl (lv_at hl 0 rfl) ?_
  refine lv_ldcw (v := 858993459) hx hb hown (hK.word kc_J6_266 rfl) dJ6_bitCount_0f7a4_11 ?_
  refine lv_iand hx hb dJ6_bitCount_0f7a4_14 ?_
  refine lv_iload_n hx hb dJ6_bitCount_0f7a4_15 rfl (lv_at hl 0 rfl) ?_
  refine lv_iconst (v := 2) hx hb dJ6_bitCount_0f7a4_16 (by decide) ?_
  refine lv_iushr (v := (Int32.toUInt32 (x0 - (((Int32.toUInt32 x0 >>> (Int32.toUInt32 1 &&& Int32.toUInt32 31)).toInt32) &&& 1431655765)) >>> (Int32.toUInt32 2 &&& Int32.toUInt32 31)).toInt32) hx hb dJ6_bitCount_0f7a4_17 rfl ?_
  refine lv_ldcw (v := 858993459) hx hb hown (hK.word kc_J6_266 rfl) dJ6_bitCount_0f7a4_18 ?_
  refine lv_iand hx hb dJ6_bitCount_0f7a4_21 ?_
  refine lv_iadd hx hb dJ6_bitCount_0f7a4_22 ?_
  refine lv_istore_n (lv' := [(0, .int (((x0 - (((Int32.toUInt32 x0 >>> (Int32.toUInt32 1 &&& Int32.toUInt32 31)).toInt32) &&& 1431655765)) &&& 858993459) + (((Int32.toUInt32 (x0 - (((Int32.toUInt32 x0 >>> (Int32.toUInt32 1 &&& Int32.toUInt32 31)).toInt32) &&& 1431655765)) >>> (Int32.toUInt32 2 &&& Int32.toUInt32 31)).toInt32) &&& 858993459)))]) hx hb dJ6_bitCount_0f7a4_23 rfl hl (by decide) rfl (fun ls hl => ?_)
  refine lv_iload_n hx hb dJ6_bitCount_0f7a4_24 rfl (lv_at hl 0 rfl) ?_
  refine lv_iload_n hx hb dJ6_bitCount_0f7a4_25 rfl (lv_at hl 0 rfl) ?_
  refine lv_iconst (v := 4) hx hb dJ6_bitCount_0f7a4_26 (by decide) ?_
  refine lv_iushr (v := (Int32.toUInt32 (((x0 - (((Int32.toUInt32 x0 >>> (Int32.toUInt32 1 &&& Int32.toUInt32 31)).toInt32) &&& 1431655765)) &&& 858993459) + (((Int32.toUInt32 (x0 - (((Int32.toUInt32 x0 >>> (Int32.toUInt32 1 &&& Int32.toUInt32 31)).toInt32) &&& 1431655765)) >>> (Int32.toUInt32 2 &&& Int32.toUInt32 31)).toInt32) &&& 858993459)) >>> (Int32.toUInt32 4 &&& Int32.toUInt32 31)).toInt32) hx hb dJ6_bitCount_0f7a4_27 rfl ?_
  refine lv_iadd hx hb dJ6_bitCount_0f7a4_28 ?_
  refine lv_ldcw (v := 252645135) hx hb hown (hK.word kc_J6_267 rfl) dJ6_bitCount_0f7a4_29 ?_
  refine lv_iand hx hb dJ6_bitCount_0f7a4_32 ?_
  refine lv_istore_n (lv' := [(0, .int (((((x0 - (((Int32.toUInt32 x0 >>> (Int32.toUInt32 1 &&& Int32.toUInt32 31)).toInt32) &&& 1431655765)) &&& 858993459) + (((Int32.toUInt32 (x0 - (((Int32.toUInt32 x0 >>> (Int32.toUInt32 1 &&& Int32.toUInt32 31)).toInt32) &&& 1431655765)) >>> (Int32.toUInt32 2 &&& Int32.toUInt32 31)).toInt32) &&& 858993459)) + ((Int32.toUInt32 (((x0 - (((Int32.toUInt32 x0 >>> (Int32.toUInt32 1 &&& Int32.toUInt32 31)).toInt32) &&& 1431655765)) &&& 858993459) + (((Int32.toUInt32 (x0 - (((Int32.toUInt32 x0 >>> (Int32.toUInt32 1 &&& Int32.toUInt32 31)).toInt32) &&& 1431655765)) >>> (Int32.toUInt32 2 &&& Int32.toUInt32 31)).toInt32) &&& 858993459)) >>> (Int32.toUInt32 4 &&& Int32.toUInt32 31)).toInt32)) &&& 252645135))]) hx hb dJ6_bitCount_0f7a4_33 rfl hl (by decide) rfl (fun ls hl => ?_)
  refine lv_iload_n hx hb dJ6_bitCount_0f7a4_34 rfl (lv_at hl 0 rfl) ?_
  refine lv_iload_n hx hb dJ6_bitCount_0f7a4_35 rfl (lv_at hl 0 rfl) ?_
  refine lv_bipush (v := 8) hx hb dJ6_bitCount_0f7a4_36 (by decide) ?_
  refine lv_iushr (v := (Int32.toUInt32 (((((x0 - (((Int32.toUInt32 x0 >>> (Int32.toUInt32 1 &&& Int32.toUInt32 31)).toInt32) &&& 1431655765)) &&& 858993459) + (((Int32.toUInt32 (x0 - (((Int32.toUInt32 x0 >>> (Int32.toUInt32 1 &&& Int32.toUInt32 31)).toInt32) &&& 1431655765)) >>> (Int32.toUInt32 2 &&& Int32.toUInt32 31)).toInt32) &&& 858993459)) + ((Int32.toUInt32 (((x0 - (((Int32.toUInt32 x0 >>> (Int32.toUInt32 1 &&& Int32.toUInt32 31)).toInt32) &&& 1431655765)) &&& 858993459) + (((Int32.toUInt32 (x0 - (((Int32.toUInt32 x0 >>> (Int32.toUInt32 1 &&& Int32.toUInt32 31)).toInt32) &&& 1431655765)) >>> (Int32.toUInt32 2 &&& Int32.toUInt32 31)).toInt32) &&& 858993459)) >>> (Int32.toUInt32 4 &&& Int32.toUInt32 31)).toInt32)) &&& 252645135) >>> (Int32.toUInt32 8 &&& Int32.toUInt32 31)).toInt32) hx hb dJ6_bitCount_0f7a4_38 rfl ?_
  refine lv_iadd hx hb dJ6_bitCount_0f7a4_39 ?_
  refine lv_istore_n (lv' := [(0, .int ((((((x0 - (((Int32.toUInt32 x0 >>> (Int32.toUInt32 1 &&& Int32.toUInt32 31)).toInt32) &&& 1431655765)) &&& 858993459) + (((Int32.toUInt32 (x0 - (((Int32.toUInt32 x0 >>> (Int32.toUInt32 1 &&& Int32.toUInt32 31)).toInt32) &&& 1431655765)) >>> (Int32.toUInt32 2 &&& Int32.toUInt32 31)).toInt32) &&& 858993459)) + ((Int32.toUInt32 (((x0 - (((Int32.toUInt32 x0 >>> (Int32.toUInt32 1 &&& Int32.toUInt32 31)).toInt32) &&& 1431655765)) &&& 858993459) + (((Int32.toUInt32 (x0 - (((Int32.toUInt32 x0 >>> (Int32.toUInt32 1 &&& Int32.toUInt32 31)).toInt32) &&& 1431655765)) >>> (Int32.toUInt32 2 &&& Int32.toUInt32 31)).toInt32) &&& 858993459)) >>> (Int32.toUInt32 4 &&& Int32.toUInt32 31)).toInt32)) &&& 252645135) + ((Int32.toUInt32 (((((x0 - (((Int32.toUInt32 x0 >>> (Int32.toUInt32 1 &&& Int32.toUInt32 31)).toInt32) &&& 1431655765)) &&& 858993459) + (((Int32.toUInt32 (x0 - (((Int32.toUInt32 x0 >>> (Int32.toUInt32 1 &&& Int32.toUInt32 31)).toInt32) &&& 1431655765)) >>> (Int32.toUInt32 2 &&& Int32.toUInt32 31)).toInt32) &&& 858993459)) + ((Int32.toUInt32 (((x0 - (((Int32.toUInt32 x0 >>> (Int32.toUInt32 1 &&& Int32.toUInt32 31)).toInt32) &&& 1431655765)) &&& 858993459) + (((Int32.toUInt32 (x0 - (((Int32.toUInt32 x0 >>> (Int32.toUInt32 1 &&& Int32.toUInt32 31)).toInt32) &&& 1431655765)) >>> (Int32.toUInt32 2 &&& Int32.toUInt32 31)).toInt32) &&& 858993459)) >>> (Int32.toUInt32 4 &&& Int32.toUInt32 31)).toInt32)) &&& 252645135) >>> (Int32.toUInt32 8 &&& Int32.toUInt32 31)).toInt32)))]) hx hb dJ6_bitCount_0f7a4_40 rfl hl (by decide) rfl (fun ls hl => ?_)
  refine lv_iload_n hx hb dJ6_bitCount_0f7a4_41 rfl (lv_at hl 0 rfl) ?_
  refine lv_iload_n hx hb dJ6_bitCount_0f7a4_42 rfl (lv_at hl 0 rfl) ?_
  refine lv_bipush (v := 16) hx hb dJ6_bitCount_0f7a4_43 (by decide) ?_
  refine lv_iushr (v := (Int32.toUInt32 ((((((x0 - (((Int32.toUInt32 x0 >>> (Int32.toUInt32 1 &&& Int32.toUInt32 31)).toInt32) &&& 1431655765)) &&& 858993459) + (((Int32.toUInt32 (x0 - (((Int32.toUInt32 x0 >>> (Int32.toUInt32 1 &&& Int32.toUInt32 31)).toInt32) &&& 1431655765)) >>> (Int32.toUInt32 2 &&& Int32.toUInt32 31)).toInt32) &&& 858993459)) + ((Int32.toUInt32 (((x0 - (((Int32.toUInt32 x0 >>> (Int32.toUInt32 1 &&& Int32.toUInt32 31)).toInt32) &&& 1431655765)) &&& 858993459) + (((Int32.toUInt32 (x0 - (((Int32.toUInt32 x0 >>> (Int32.toUInt32 1 &&& Int32.toUInt32 31)).toInt32) &&& 1431655765)) >>> (Int32.toUInt32 2 &&& Int32.toUInt32 31)).toInt32) &&& 858993459)) >>> (Int32.toUInt32 4 &&& Int32.toUInt32 31)).toInt32)) &&& 252645135) + ((Int32.toUInt32 (((((x0 - (((Int32.toUInt32 x0 >>> (Int32.toUInt32 1 &&& Int32.toUInt32 31)).toInt32) &&& 1431655765)) &&& 858993459) + (((Int32.toUInt32 (x0 - (((Int32.toUInt32 x0 >>> (Int32.toUInt32 1 &&& Int32.toUInt32 31)).toInt32) &&& 1431655765)) >>> (Int32.toUInt32 2 &&& Int32.toUInt32 31)).toInt32) &&& 858993459)) + ((Int32.toUInt32 (((x0 - (((Int32.toUInt32 x0 >>> (Int32.toUInt32 1 &&& Int32.toUInt32 31)).toInt32) &&& 1431655765)) &&& 858993459) + (((Int32.toUInt32 (x0 - (((Int32.toUInt32 x0 >>> (Int32.toUInt32 1 &&& Int32.toUInt32 31)).toInt32) &&& 1431655765)) >>> (Int32.toUInt32 2 &&& Int32.toUInt32 31)).toInt32) &&& 858993459)) >>> (Int32.toUInt32 4 &&& Int32.toUInt32 31)).toInt32)) &&& 252645135) >>> (Int32.toUInt32 8 &&& Int32.toUInt32 31)).toInt32)) >>> (Int32.toUInt32 16 &&& Int32.toUInt32 31)).toInt32) hx hb dJ6_bitCount_0f7a4_45 rfl ?_
  refine lv_iadd hx hb dJ6_bitCount_0f7a4_46 ?_
  refine lv_istore_n (lv' := [(0, .int (((((((x0 - (((Int32.toUInt32 x0 >>> (Int32.toUInt32 1 &&& Int32.toUInt32 31)).toInt32) &&& 1431655765)) &&& 858993459) + (((Int32.toUInt32 (x0 - (((Int32.toUInt32 x0 >>> (Int32.toUInt32 1 &&& Int32.toUInt32 31)).toInt32) &&& 1431655765)) >>> (Int32.toUInt32 2 &&& Int32.toUInt32 31)).toInt32) &&& 858993459)) + ((Int32.toUInt32 (((x0 - (((Int32.toUInt32 x0 >>> (Int32.toUInt32 1 &&& Int32.toUInt32 31)).toInt32) &&& 1431655765)) &&& 858993459) + (((Int32.toUInt32 (x0 - (((Int32.toUInt32 x0 >>> (Int32.toUInt32 1 &&& Int32.toUInt32 31)).toInt32) &&& 1431655765)) >>> (Int32.toUInt32 2 &&& Int32.toUInt32 31)).toInt32) &&& 858993459)) >>> (Int32.toUInt32 4 &&& Int32.toUInt32 31)).toInt32)) &&& 252645135) + ((Int32.toUInt32 (((((x0 - (((Int32.toUInt32 x0 >>> (Int32.toUInt32 1 &&& Int32.toUInt32 31)).toInt32) &&& 1431655765)) &&& 858993459) + (((Int32.toUInt32 (x0 - (((Int32.toUInt32 x0 >>> (Int32.toUInt32 1 &&& Int32.toUInt32 31)).toInt32) &&& 1431655765)) >>> (Int32.toUInt32 2 &&& Int32.toUInt32 31)).toInt32) &&& 858993459)) + ((Int32.toUInt32 (((x0 - (((Int32.toUInt32 x0 >>> (Int32.toUInt32 1 &&& Int32.toUInt32 31)).toInt32) &&& 1431655765)) &&& 858993459) + (((Int32.toUInt32 (x0 - (((Int32.toUInt32 x0 >>> (Int32.toUInt32 1 &&& Int32.toUInt32 31)).toInt32) &&& 1431655765)) >>> (Int32.toUInt32 2 &&& Int32.toUInt32 31)).toInt32) &&& 858993459)) >>> (Int32.toUInt32 4 &&& Int32.toUInt32 31)).toInt32)) &&& 252645135) >>> (Int32.toUInt32 8 &&& Int32.toUInt32 31)).toInt32)) + ((Int32.toUInt32 ((((((x0 - (((Int32.toUInt32 x0 >>> (Int32.toUInt32 1 &&& Int32.toUInt32 31)).toInt32) &&& 1431655765)) &&& 858993459) + (((Int32.toUInt32 (x0 - (((Int32.toUInt32 x0 >>> (Int32.toUInt32 1 &&& Int32.toUInt32 31)).toInt32) &&& 1431655765)) >>> (Int32.toUInt32 2 &&& Int32.toUInt32 31)).toInt32) &&& 858993459)) + ((Int32.toUInt32 (((x0 - (((Int32.toUInt32 x0 >>> (Int32.toUInt32 1 &&& Int32.toUInt32 31)).toInt32) &&& 1431655765)) &&& 858993459) + (((Int32.toUInt32 (x0 - (((Int32.toUInt32 x0 >>> (Int32.toUInt32 1 &&& Int32.toUInt32 31)).toInt32) &&& 1431655765)) >>> (Int32.toUInt32 2 &&& Int32.toUInt32 31)).toInt32) &&& 858993459)) >>> (Int32.toUInt32 4 &&& Int32.toUInt32 31)).toInt32)) &&& 252645135) + ((Int32.toUInt32 (((((x0 - (((Int32.toUInt32 x0 >>> (Int32.toUInt32 1 &&& Int32.toUInt32 31)).toInt32) &&& 1431655765)) &&& 858993459) + (((Int32.toUInt32 (x0 - (((Int32.toUInt32 x0 >>> (Int32.toUInt32 1 &&& Int32.toUInt32 31)).toInt32) &&& 1431655765)) >>> (Int32.toUInt32 2 &&& Int32.toUInt32 31)).toInt32) &&& 858993459)) + ((Int32.toUInt32 (((x0 - (((Int32.toUInt32 x0 >>> (Int32.toUInt32 1 &&& Int32.toUInt32 31)).toInt32) &&& 1431655765)) &&& 858993459) + (((Int32.toUInt32 (x0 - (((Int32.toUInt32 x0 >>> (Int32.toUInt32 1 &&& Int32.toUInt32 31)).toInt32) &&& 1431655765)) >>> (Int32.toUInt32 2 &&& Int32.toUInt32 31)).toInt32) &&& 858993459)) >>> (Int32.toUInt32 4 &&& Int32.toUInt32 31)).toInt32)) &&& 252645135) >>> (Int32.toUInt32 8 &&& Int32.toUInt32 31)).toInt32)) >>> (Int32.toUInt32 16 &&& Int32.toUInt32 31)).toInt32)))]) hx hb dJ6_bitCount_0f7a4_47 rfl hl (by decide) rfl (fun ls hl => ?_)
  refine lv_iload_n hx hb dJ6_bitCount_0f7a4_48 rfl (lv_at hl 0 rfl) ?_
  refine lv_bipush (v := 63) hx hb dJ6_bitCount_0f7a4_49 (by decide) ?_
  refine lv_iand hx hb dJ6_bitCount_0f7a4_51 ?_
  cases hm
  exact dp_iret X hr hw dJ6_bitCount_0f7a4_52
theorem ck_X5_init {h : dp_H} {x0 : Nat} {x1 : Int32} {h' : dp_H} (hm : m_X5_init h x0 x1 = some h') : dp_is h x0 5 = true := (dp_ck_e hm).1
set_option maxRecDepth 100000 in
set_option maxHeartbeats 4000000 in
theorem c_X5_init (l : Launch) (D : va_G) (a : dp_A) (B : Nat) (h : dp_H) (x0 : Nat) (x1 : Int32) {h' : dp_H} (hm : m_X5_init h x0 x1 = some h') : dp_M l D a B yX5_init cX5_init 2 none rm_X5_init [.ref (B + x0), .int x1] h none h' := by
  refine dp_M.of (own := RX5) (nm := "<init>") (by decide) rfl rfl (Nat.le_of_ble_eq_true rfl) ?_
  intro p e s m below meth c ls X hr hin hw hl
  have hl : lv_has ls 2 [(0, .ref (B + x0)), (1, .int x1)] := hl
  obtain ⟨hx, hb, hml, hown, hlk, hK, hB⟩ := id X
  unfold m_X5_init at hm
  obtain ⟨hck, hm⟩ := dp_ck_e hm
  refine lv_aload_n hx hb dX5_init_0 rfl (lv_at hl 0 rfl) ?_
  refine W.objInit hx hb hown (hK.word ml_X5_3 rfl) (hK.word obj_inst rfl) (hK.word obj_code rfl) rfl (hl.1.trans hml.symm) rfl dX5_init_1 (Nat.le_of_ble_eq_true rfl) (Nat.le_of_ble_eq_true rfl) ?_
  refine W.eq (g2 := F0 m 4 ls []) rfl ?_
  refine lv_aload_n hx hb dX5_init_4 rfl (lv_at hl 0 rfl) ?_
  refine lv_iload_n hx hb dX5_init_5 rfl (lv_at hl 1 rfl) ?_
  refine lv_iconst (v := 0) hx hb dX5_init_6 (by decide) ?_
  refine va_mmax hx hb (hml.trans hl.1.symm) hown (hK.word ml_X5_9 rfl) (hK.word max_stat rfl) (hK.word max_ini rfl) (hK.word max_code rfl) (Nat.le_of_ble_eq_true rfl) (Nat.le_of_ble_eq_true rfl) (by decide) (by decide) dX5_init_7 ?_
  obtain ⟨h1, eh1, hm⟩ := dp_ob hm
  refine dp_newi X hw ac_i eh1 (by decide) (by decide) dX5_init_10 (fun H hw => ?_)
  obtain ⟨h2, eh2, hm⟩ := dp_ob hm
  refine dp_putFr X hin hw cl_X5 0 (by decide) fl_X5_15 rfl rfl (Or.inr ⟨_, rfl⟩) eh2 dX5_init_12 (fun H locs hw => ?_)
  cases hm
  refine W.widen (k := rm_X5_init.cells) (n := rm_X5_init.slots) (by decide) (by decide) ?_
  exact dp_vret X hr hw dX5_init_15
theorem ck_X0_init {h : dp_H} {x0 : Nat} {h' : dp_H} (hm : m_X0_init h x0 = some h') : dp_is h x0 0 = true := (dp_ck_e hm).1
set_option maxRecDepth 100000 in
set_option maxHeartbeats 4000000 in
theorem c_X0_init (l : Launch) (D : va_G) (a : dp_A) (B : Nat) (h : dp_H) (x0 : Nat) {h' : dp_H} (hm : m_X0_init h x0 = some h') : dp_M l D a B yX0_init cX0_init 1 none rm_X0_init [.ref (B + x0)] h none h' := by
  refine dp_M.of (own := RX0) (nm := "<init>") (by decide) rfl rfl (Nat.le_of_ble_eq_true rfl) ?_
  intro p e s m below meth c ls X hr hin hw hl
  have hl : lv_has ls 1 [(0, .ref (B + x0))] := hl
  obtain ⟨hx, hb, hml, hown, hlk, hK, hB⟩ := id X
  unfold m_X0_init at hm
  obtain ⟨hck, hm⟩ := dp_ck_e hm
  refine lv_aload_n hx hb dX0_init_0 rfl (lv_at hl 0 rfl) ?_
  refine W.objInit hx hb hown (hK.word ml_X0_3 rfl) (hK.word obj_inst rfl) (hK.word obj_code rfl) rfl (hl.1.trans hml.symm) rfl dX0_init_1 (Nat.le_of_ble_eq_true rfl) (Nat.le_of_ble_eq_true rfl) ?_
  refine W.eq (g2 := F0 m 4 ls []) rfl ?_
  refine lv_aload_n hx hb dX0_init_4 rfl (lv_at hl 0 rfl) ?_
  obtain ⟨h1, eh1, hm⟩ := dp_ob hm
  refine dp_newc X hw cl_X5 cn_X0_9 ci_X5 ini_X5 bl_X5_ok eh1 (by decide) (by decide) dX0_init_5 (fun H hw => ?_)
  refine lv_dup hx hb dX0_init_8 rfl ?_
  refine lv_bipush (v := 10) hx hb dX0_init_9 (by decide) ?_
  obtain ⟨h2, eh2, hm⟩ := dp_ob hm
  refine dp_cI (As := [.int 10]) (rest := [.ref (B + (List.length h)), .ref (B + x0)]) X hw (c_X5_init l D a B h1 (List.length h) 10 eh2) sm_X5_init rfl in_X5_init ml_X0_11 (by decide) rfl hl.1 rfl (Nat.le_of_ble_eq_true rfl) dX0_init_11 ⟨(by decide), (by decide)⟩ (fun H locs hw => ?_)
  refine W.widen (k := 0 + 1 + 1) (n := 0 + 2 + 80) (Nat.le_refl _) (Nat.le_refl _) ?_
  obtain ⟨h3, eh3, hm⟩ := dp_ob hm
  refine dp_putFr X hin hw cl_X0 0 (by decide) fl_X0_14 rfl rfl (Or.inl ⟨_, rfl⟩) eh3 dX0_init_14 (fun H locs hw => ?_)
  refine lv_aload_n hx hb dX0_init_17 rfl (lv_at hl 0 rfl) ?_
  refine lv_iconst (v := 3) hx hb dX0_init_18 (by decide) ?_
  obtain ⟨h4, eh4, hm⟩ := dp_ob hm
  refine dp_newi X hw ac_i eh4 (by decide) (by decide) dX0_init_19 (fun H hw => ?_)
  refine lv_dup hx hb dX0_init_21 rfl ?_
  refine lv_iconst (v := 0) hx hb dX0_init_22 (by decide) ?_
  refine lv_bipush (v := 15) hx hb dX0_init_23 (by decide) ?_
  obtain ⟨h5, eh5, hm⟩ := dp_ob hm
  refine dp_iast X hw eh5 dX0_init_25 (fun H locs hw => ?_)
  refine lv_dup hx hb dX0_init_26 rfl ?_
  refine lv_iconst (v := 1) hx hb dX0_init_27 (by decide) ?_
  refine lv_bipush (v := 8) hx hb dX0_init_28 (by decide) ?_
  obtain ⟨h6, eh6, hm⟩ := dp_ob hm
  refine dp_iast X hw eh6 dX0_init_30 (fun H locs hw => ?_)
  refine lv_dup hx hb dX0_init_31 rfl ?_
  refine lv_iconst (v := 2) hx hb dX0_init_32 (by decide) ?_
  refine lv_iconst (v := 4) hx hb dX0_init_33 (by decide) ?_
  obtain ⟨h7, eh7, hm⟩ := dp_ob hm
  refine dp_iast X hw eh7 dX0_init_34 (fun H locs hw => ?_)
  obtain ⟨h8, eh8, hm⟩ := dp_ob hm
  refine dp_putFr X hin hw cl_X0 1 (by decide) fl_X0_20 rfl rfl (Or.inr ⟨_, rfl⟩) eh8 dX0_init_35 (fun H locs hw => ?_)
  refine lv_aload_n hx hb dX0_init_38 rfl (lv_at hl 0 rfl) ?_
  refine lv_iconst (v := 0) hx hb dX0_init_39 (by decide) ?_
  obtain ⟨h9, eh9, hm⟩ := dp_ob hm
  refine dp_puti X hw cl_X0 2 (by decide) fl_X0_24 rfl rfl eh9 dX0_init_40 (fun H locs hw => ?_)
  refine lv_aload_n hx hb dX0_init_43 rfl (lv_at hl 0 rfl) ?_
  refine lv_iconst (v := 0) hx hb dX0_init_44 (by decide) ?_
  obtain ⟨h10, eh10, hm⟩ := dp_ob hm
  refine dp_puti X hw cl_X0 3 (by decide) fl_X0_28 rfl rfl eh10 dX0_init_45 (fun H locs hw => ?_)
  cases hm
  refine W.widen (k := rm_X0_init.cells) (n := rm_X0_init.slots) (by decide) (by decide) ?_
  exact dp_vret X hr hw dX0_init_48
theorem ck_X0_dialled {h : dp_H} {x0 : Nat} {r : Nat} (hm : m_X0_dialled h x0 = some r) : dp_is h x0 0 = true := (dp_ck_e hm).1
set_option maxRecDepth 100000 in
set_option maxHeartbeats 4000000 in
theorem c_X0_dialled (l : Launch) (D : va_G) (a : dp_A) (B : Nat) (h : dp_H) (x0 : Nat) {r : Nat} (hm : m_X0_dialled h x0 = some r) : dp_M l D a B yX0_dialled cX0_dialled 1 (some (.object "DialPlan$Row")) rm_X0_dialled [.ref (B + x0)] h (some (.ref (B + r))) h := by
  refine dp_M.of (own := RX0) (nm := "dialled") (by decide) rfl rfl (Nat.le_of_ble_eq_true rfl) ?_
  intro p e s m below meth c ls X hr hin hw hl
  have hl : lv_has ls 1 [(0, .ref (B + x0))] := hl
  obtain ⟨hx, hb, hml, hown, hlk, hK, hB⟩ := id X
  unfold m_X0_dialled at hm
  obtain ⟨hck, hm⟩ := dp_ck_e hm
  refine lv_aload_n hx hb dX0_dialled_0 rfl (lv_at hl 0 rfl) ?_
  obtain ⟨v1, ev1, hm⟩ := dp_ob hm
  refine dp_getr X hw cl_X0 0 (by decide) fl_X0_14 ev1 dX0_dialled_1 ?_
  cases hm
  exact dp_aret X hr (Or.inl ⟨_, rfl⟩) hw dX0_dialled_4
theorem ck_X0_state {h : dp_H} {x0 : Nat} {r : Int32} (hm : m_X0_state h x0 = some r) : dp_is h x0 0 = true := (dp_ck_e hm).1
set_option maxRecDepth 100000 in
set_option maxHeartbeats 4000000 in
theorem c_X0_state (l : Launch) (D : va_G) (a : dp_A) (B : Nat) (h : dp_H) (x0 : Nat) {r : Int32} (hm : m_X0_state h x0 = some r) : dp_M l D a B yX0_state cX0_state 1 (some .int) rm_X0_state [.ref (B + x0)] h (some (.int r)) h := by
  refine dp_M.of (own := RX0) (nm := "state") (by decide) rfl rfl (Nat.le_of_ble_eq_true rfl) ?_
  intro p e s m below meth c ls X hr hin hw hl
  have hl : lv_has ls 1 [(0, .ref (B + x0))] := hl
  obtain ⟨hx, hb, hml, hown, hlk, hK, hB⟩ := id X
  unfold m_X0_state at hm
  obtain ⟨hck, hm⟩ := dp_ck_e hm
  refine lv_aload_n hx hb dX0_state_0 rfl (lv_at hl 0 rfl) ?_
  obtain ⟨v1, ev1, hm⟩ := dp_ob hm
  refine dp_geti X hw cl_X0 2 (by decide) fl_X0_24 ev1 dX0_state_1 ?_
  cases hm
  exact dp_iret X hr hw dX0_state_4
theorem ck_X0_isUp {h : dp_H} {x0 : Nat} {r : Int32} (hm : m_X0_isUp h x0 = some r) : dp_is h x0 0 = true := (dp_ck_e hm).1
set_option maxRecDepth 100000 in
set_option maxHeartbeats 4000000 in
theorem c_X0_isUp (l : Launch) (D : va_G) (a : dp_A) (B : Nat) (h : dp_H) (x0 : Nat) {r : Int32} (hm : m_X0_isUp h x0 = some r) : dp_M l D a B yX0_isUp cX0_isUp 1 (some .boolean) rm_X0_isUp [.ref (B + x0)] h (some (.int r)) h := by
  refine dp_M.of (own := RX0) (nm := "isUp") (by decide) rfl rfl (Nat.le_of_ble_eq_true rfl) ?_
  intro p e s m below meth c ls X hr hin hw hl
  have hl : lv_has ls 1 [(0, .ref (B + x0))] := hl
  obtain ⟨hx, hb, hml, hown, hlk, hK, hB⟩ := id X
  unfold m_X0_isUp at hm
  obtain ⟨hck, hm⟩ := dp_ck_e hm
  refine lv_aload_n hx hb dX0_isUp_0 rfl (lv_at hl 0 rfl) ?_
  obtain ⟨v1, ev1, hm⟩ := dp_ob hm
  refine dp_geti X hw cl_X0 2 (by decide) fl_X0_24 ev1 dX0_isUp_1 ?_
  refine lv_if_eq (tgt := 11) hx hb dX0_isUp_4 (by decide) (fun hc => ?_) (fun hc => ?_)
  · have hm := dp_ip hc hm
    refine lv_iconst (v := 0) hx hb dX0_isUp_11 (by decide) ?_
    cases hm
    exact dp_zret X hr hw (by decide) dX0_isUp_12
  · have hm := dp_in hc hm
    refine lv_iconst (v := 1) hx hb dX0_isUp_7 (by decide) ?_
    refine lv_goto (tgt := 12) hx hb dX0_isUp_8 (by decide) ?_
    cases hm
    exact dp_zret X hr hw (by decide) dX0_isUp_12
theorem ck_X0_isWaiting {h : dp_H} {x0 : Nat} {r : Int32} (hm : m_X0_isWaiting h x0 = some r) : dp_is h x0 0 = true := (dp_ck_e hm).1
set_option maxRecDepth 100000 in
set_option maxHeartbeats 4000000 in
theorem c_X0_isWaiting (l : Launch) (D : va_G) (a : dp_A) (B : Nat) (h : dp_H) (x0 : Nat) {r : Int32} (hm : m_X0_isWaiting h x0 = some r) : dp_M l D a B yX0_isWaiting cX0_isWaiting 1 (some .boolean) rm_X0_isWaiting [.ref (B + x0)] h (some (.int r)) h := by
  refine dp_M.of (own := RX0) (nm := "isWaiting") (by decide) rfl rfl (Nat.le_of_ble_eq_true rfl) ?_
  intro p e s m below meth c ls X hr hin hw hl
  have hl : lv_has ls 1 [(0, .ref (B + x0))] := hl
  obtain ⟨hx, hb, hml, hown, hlk, hK, hB⟩ := id X
  unfold m_X0_isWaiting at hm
  obtain ⟨hck, hm⟩ := dp_ck_e hm
  refine lv_aload_n hx hb dX0_isWaiting_0 rfl (lv_at hl 0 rfl) ?_
  obtain ⟨v1, ev1, hm⟩ := dp_ob hm
  refine dp_geti X hw cl_X0 2 (by decide) fl_X0_24 ev1 dX0_isWaiting_1 ?_
  refine lv_iconst (v := 1) hx hb dX0_isWaiting_4 (by decide) ?_
  refine lv_icmp_ne (tgt := 12) hx hb dX0_isWaiting_5 (by decide) (fun hc => ?_) (fun hc => ?_)
  · have hm := dp_in hc hm
    refine lv_iconst (v := 0) hx hb dX0_isWaiting_12 (by decide) ?_
    cases hm
    exact dp_zret X hr hw (by decide) dX0_isWaiting_13
  · have hm := dp_ip hc hm
    refine lv_iconst (v := 1) hx hb dX0_isWaiting_8 (by decide) ?_
    refine lv_goto (tgt := 13) hx hb dX0_isWaiting_9 (by decide) ?_
    cases hm
    exact dp_zret X hr hw (by decide) dX0_isWaiting_13
theorem ck_X0_ended {h : dp_H} {x0 : Nat} {r : Int32} (hm : m_X0_ended h x0 = some r) : dp_is h x0 0 = true := (dp_ck_e hm).1
set_option maxRecDepth 100000 in
set_option maxHeartbeats 4000000 in
theorem c_X0_ended (l : Launch) (D : va_G) (a : dp_A) (B : Nat) (h : dp_H) (x0 : Nat) {r : Int32} (hm : m_X0_ended h x0 = some r) : dp_M l D a B yX0_ended cX0_ended 1 (some .int) rm_X0_ended [.ref (B + x0)] h (some (.int r)) h := by
  refine dp_M.of (own := RX0) (nm := "ended") (by decide) rfl rfl (Nat.le_of_ble_eq_true rfl) ?_
  intro p e s m below meth c ls X hr hin hw hl
  have hl : lv_has ls 1 [(0, .ref (B + x0))] := hl
  obtain ⟨hx, hb, hml, hown, hlk, hK, hB⟩ := id X
  unfold m_X0_ended at hm
  obtain ⟨hck, hm⟩ := dp_ck_e hm
  refine lv_aload_n hx hb dX0_ended_0 rfl (lv_at hl 0 rfl) ?_
  obtain ⟨v1, ev1, hm⟩ := dp_ob hm
  refine dp_geti X hw cl_X0 3 (by decide) fl_X0_28 ev1 dX0_ended_1 ?_
  cases hm
  exact dp_iret X hr hw dX0_ended_4
theorem ck_X0_ticksLeft {h : dp_H} {x0 : Nat} {r : Int32} (hm : m_X0_ticksLeft h x0 = some r) : dp_is h x0 0 = true := (dp_ck_e hm).1
set_option maxRecDepth 100000 in
set_option maxHeartbeats 4000000 in
theorem c_X0_ticksLeft (l : Launch) (D : va_G) (a : dp_A) (B : Nat) (h : dp_H) (x0 : Nat) {r : Int32} (hm : m_X0_ticksLeft h x0 = some r) : dp_M l D a B yX0_ticksLeft cX0_ticksLeft 1 (some .int) rm_X0_ticksLeft [.ref (B + x0)] h (some (.int r)) h := by
  refine dp_M.of (own := RX0) (nm := "ticksLeft") (by decide) rfl rfl (Nat.le_of_ble_eq_true rfl) ?_
  intro p e s m below meth c ls X hr hin hw hl
  have hl : lv_has ls 1 [(0, .ref (B + x0))] := hl
  obtain ⟨hx, hb, hml, hown, hlk, hK, hB⟩ := id X
  unfold m_X0_ticksLeft at hm
  obtain ⟨hck, hm⟩ := dp_ck_e hm
  refine lv_aload_n hx hb dX0_ticksLeft_0 rfl (lv_at hl 0 rfl) ?_
  obtain ⟨v1, ev1, hm⟩ := dp_ob hm
  refine dp_geti X hw cl_X0 4 (by decide) fl_X0_31 ev1 dX0_ticksLeft_1 ?_
  cases hm
  exact dp_iret X hr hw dX0_ticksLeft_4
theorem ck_X0_timesLifted {h : dp_H} {x0 : Nat} {r : Int32} (hm : m_X0_timesLifted h x0 = some r) : dp_is h x0 0 = true := (dp_ck_e hm).1
set_option maxRecDepth 100000 in
set_option maxHeartbeats 4000000 in
theorem c_X0_timesLifted (l : Launch) (D : va_G) (a : dp_A) (B : Nat) (h : dp_H) (x0 : Nat) {r : Int32} (hm : m_X0_timesLifted h x0 = some r) : dp_M l D a B yX0_timesLifted cX0_timesLifted 1 (some .int) rm_X0_timesLifted [.ref (B + x0)] h (some (.int r)) h := by
  refine dp_M.of (own := RX0) (nm := "timesLifted") (by decide) rfl rfl (Nat.le_of_ble_eq_true rfl) ?_
  intro p e s m below meth c ls X hr hin hw hl
  have hl : lv_has ls 1 [(0, .ref (B + x0))] := hl
  obtain ⟨hx, hb, hml, hown, hlk, hK, hB⟩ := id X
  unfold m_X0_timesLifted at hm
  obtain ⟨hck, hm⟩ := dp_ck_e hm
  refine lv_aload_n hx hb dX0_timesLifted_0 rfl (lv_at hl 0 rfl) ?_
  obtain ⟨v1, ev1, hm⟩ := dp_ob hm
  refine dp_geti X hw cl_X0 5 (by decide) fl_X0_34 ev1 dX0_timesLifted_1 ?_
  cases hm
  exact dp_iret X hr hw dX0_timesLifted_4
theorem ck_X0_timesReady {h : dp_H} {x0 : Nat} {r : Int32} (hm : m_X0_timesReady h x0 = some r) : dp_is h x0 0 = true := (dp_ck_e hm).1
set_option maxRecDepth 100000 in
set_option maxHeartbeats 4000000 in
theorem c_X0_timesReady (l : Launch) (D : va_G) (a : dp_A) (B : Nat) (h : dp_H) (x0 : Nat) {r : Int32} (hm : m_X0_timesReady h x0 = some r) : dp_M l D a B yX0_timesReady cX0_timesReady 1 (some .int) rm_X0_timesReady [.ref (B + x0)] h (some (.int r)) h := by
  refine dp_M.of (own := RX0) (nm := "timesReady") (by decide) rfl rfl (Nat.le_of_ble_eq_true rfl) ?_
  intro p e s m below meth c ls X hr hin hw hl
  have hl : lv_has ls 1 [(0, .ref (B + x0))] := hl
  obtain ⟨hx, hb, hml, hown, hlk, hK, hB⟩ := id X
  unfold m_X0_timesReady at hm
  obtain ⟨hck, hm⟩ := dp_ck_e hm
  refine lv_aload_n hx hb dX0_timesReady_0 rfl (lv_at hl 0 rfl) ?_
  obtain ⟨v1, ev1, hm⟩ := dp_ob hm
  refine dp_geti X hw cl_X0 6 (by decide) fl_X0_37 ev1 dX0_timesReady_1 ?_
  cases hm
  exact dp_iret X hr hw dX0_timesReady_4
theorem ck_X0_timesLost {h : dp_H} {x0 : Nat} {r : Int32} (hm : m_X0_timesLost h x0 = some r) : dp_is h x0 0 = true := (dp_ck_e hm).1
set_option maxRecDepth 100000 in
set_option maxHeartbeats 4000000 in
theorem c_X0_timesLost (l : Launch) (D : va_G) (a : dp_A) (B : Nat) (h : dp_H) (x0 : Nat) {r : Int32} (hm : m_X0_timesLost h x0 = some r) : dp_M l D a B yX0_timesLost cX0_timesLost 1 (some .int) rm_X0_timesLost [.ref (B + x0)] h (some (.int r)) h := by
  refine dp_M.of (own := RX0) (nm := "timesLost") (by decide) rfl rfl (Nat.le_of_ble_eq_true rfl) ?_
  intro p e s m below meth c ls X hr hin hw hl
  have hl : lv_has ls 1 [(0, .ref (B + x0))] := hl
  obtain ⟨hx, hb, hml, hown, hlk, hK, hB⟩ := id X
  unfold m_X0_timesLost at hm
  obtain ⟨hck, hm⟩ := dp_ck_e hm
  refine lv_aload_n hx hb dX0_timesLost_0 rfl (lv_at hl 0 rfl) ?_
  obtain ⟨v1, ev1, hm⟩ := dp_ob hm
  refine dp_geti X hw cl_X0 7 (by decide) fl_X0_40 ev1 dX0_timesLost_1 ?_
  cases hm
  exact dp_iret X hr hw dX0_timesLost_4
theorem ck_X0_digitsEver {h : dp_H} {x0 : Nat} {r : Int32} (hm : m_X0_digitsEver h x0 = some r) : dp_is h x0 0 = true := (dp_ck_e hm).1
set_option maxRecDepth 100000 in
set_option maxHeartbeats 4000000 in
theorem c_X0_digitsEver (l : Launch) (D : va_G) (a : dp_A) (B : Nat) (h : dp_H) (x0 : Nat) {r : Int32} (hm : m_X0_digitsEver h x0 = some r) : dp_M l D a B yX0_digitsEver cX0_digitsEver 1 (some .int) rm_X0_digitsEver [.ref (B + x0)] h (some (.int r)) h := by
  refine dp_M.of (own := RX0) (nm := "digitsEver") (by decide) rfl rfl (Nat.le_of_ble_eq_true rfl) ?_
  intro p e s m below meth c ls X hr hin hw hl
  have hl : lv_has ls 1 [(0, .ref (B + x0))] := hl
  obtain ⟨hx, hb, hml, hown, hlk, hK, hB⟩ := id X
  unfold m_X0_digitsEver at hm
  obtain ⟨hck, hm⟩ := dp_ck_e hm
  refine lv_aload_n hx hb dX0_digitsEver_0 rfl (lv_at hl 0 rfl) ?_
  obtain ⟨v1, ev1, hm⟩ := dp_ob hm
  refine dp_geti X hw cl_X0 8 (by decide) fl_X0_43 ev1 dX0_digitsEver_1 ?_
  cases hm
  exact dp_iret X hr hw dX0_digitsEver_4
theorem ck_X0_ticksOf {h : dp_H} {x0 : Nat} {x1 : Int32} {r : Int32} (hm : m_X0_ticksOf h x0 x1 = some r) : dp_is h x0 0 = true := (dp_ck_e hm).1
set_option maxRecDepth 100000 in
set_option maxHeartbeats 4000000 in
theorem c_X0_ticksOf (l : Launch) (D : va_G) (a : dp_A) (B : Nat) (h : dp_H) (x0 : Nat) (x1 : Int32) {r : Int32} (hm : m_X0_ticksOf h x0 x1 = some r) : dp_M l D a B yX0_ticksOf cX0_ticksOf 2 (some .int) rm_X0_ticksOf [.ref (B + x0), .int x1] h (some (.int r)) h := by
  refine dp_M.of (own := RX0) (nm := "ticksOf") (by decide) rfl rfl (Nat.le_of_ble_eq_true rfl) ?_
  intro p e s m below meth c ls X hr hin hw hl
  have hl : lv_has ls 2 [(0, .ref (B + x0)), (1, .int x1)] := hl
  obtain ⟨hx, hb, hml, hown, hlk, hK, hB⟩ := id X
  unfold m_X0_ticksOf at hm
  obtain ⟨hck, hm⟩ := dp_ck_e hm
  refine lv_iload_n hx hb dX0_ticksOf_0 rfl (lv_at hl 1 rfl) ?_
  refine lv_if_lt (tgt := 22) hx hb dX0_ticksOf_1 (by decide) (fun hc => ?_) (fun hc => ?_)
  · have hm := dp_ip hc hm
    refine lv_iconst (v := 0) hx hb dX0_ticksOf_22 (by decide) ?_
    cases hm
    exact dp_iret X hr hw dX0_ticksOf_23
  · have hm := dp_in hc hm
    refine lv_iload_n hx hb dX0_ticksOf_4 rfl (lv_at hl 1 rfl) ?_
    refine lv_aload_n hx hb dX0_ticksOf_5 rfl (lv_at hl 0 rfl) ?_
    obtain ⟨v1, ev1, hm⟩ := dp_ob hm
    refine dp_getr X hw cl_X0 1 (by decide) fl_X0_20 ev1 dX0_ticksOf_6 ?_
    obtain ⟨v2, ev2, hm⟩ := dp_ob hm
    refine dp_alen X hw ev2 dX0_ticksOf_9 ?_
    refine lv_icmp_ge (tgt := 22) hx hb dX0_ticksOf_10 (by decide) (fun hc => ?_) (fun hc => ?_)
    · have hm := dp_ip hc hm
      refine lv_iconst (v := 0) hx hb dX0_ticksOf_22 (by decide) ?_
      cases hm
      exact dp_iret X hr hw dX0_ticksOf_23
    · have hm := dp_in hc hm
      refine lv_aload_n hx hb dX0_ticksOf_13 rfl (lv_at hl 0 rfl) ?_
      obtain ⟨v3, ev3, hm⟩ := dp_ob hm
      refine dp_getr X hw cl_X0 1 (by decide) fl_X0_20 ev3 dX0_ticksOf_14 ?_
      refine lv_iload_n hx hb dX0_ticksOf_17 rfl (lv_at hl 1 rfl) ?_
      obtain ⟨v4, ev4, hm⟩ := dp_ob hm
      refine dp_iald X hw ev4 dX0_ticksOf_18 ?_
      refine lv_goto (tgt := 23) hx hb dX0_ticksOf_19 (by decide) ?_
      cases hm
      exact dp_iret X hr hw dX0_ticksOf_23
theorem ck_X0_setTicks {h : dp_H} {x0 : Nat} {x1 : Int32} {x2 : Int32} {h' : dp_H} (hm : m_X0_setTicks h x0 x1 x2 = some h') : dp_is h x0 0 = true := (dp_ck_e hm).1
set_option maxRecDepth 100000 in
set_option maxHeartbeats 4000000 in
theorem c_X0_setTicks (l : Launch) (D : va_G) (a : dp_A) (B : Nat) (h : dp_H) (x0 : Nat) (x1 : Int32) (x2 : Int32) {h' : dp_H} (hm : m_X0_setTicks h x0 x1 x2 = some h') : dp_M l D a B yX0_setTicks cX0_setTicks 3 none rm_X0_setTicks [.ref (B + x0), .int x1, .int x2] h none h' := by
  refine dp_M.of (own := RX0) (nm := "setTicks") (by decide) rfl rfl (Nat.le_of_ble_eq_true rfl) ?_
  intro p e s m below meth c ls X hr hin hw hl
  have hl : lv_has ls 3 [(0, .ref (B + x0)), (1, .int x1), (2, .int x2)] := hl
  obtain ⟨hx, hb, hml, hown, hlk, hK, hB⟩ := id X
  unfold m_X0_setTicks at hm
  obtain ⟨hck, hm⟩ := dp_ck_e hm
  refine lv_iload_n hx hb dX0_setTicks_0 rfl (lv_at hl 1 rfl) ?_
  refine lv_if_lt (tgt := 20) hx hb dX0_setTicks_1 (by decide) (fun hc => ?_) (fun hc => ?_)
  · have hm := dp_ip hc hm
    cases hm
    exact dp_vret X hr hw dX0_setTicks_20
  · have hm := dp_in hc hm
    refine lv_iload_n hx hb dX0_setTicks_4 rfl (lv_at hl 1 rfl) ?_
    refine lv_aload_n hx hb dX0_setTicks_5 rfl (lv_at hl 0 rfl) ?_
    obtain ⟨v1, ev1, hm⟩ := dp_ob hm
    refine dp_getr X hw cl_X0 1 (by decide) fl_X0_20 ev1 dX0_setTicks_6 ?_
    obtain ⟨v2, ev2, hm⟩ := dp_ob hm
    refine dp_alen X hw ev2 dX0_setTicks_9 ?_
    refine lv_icmp_ge (tgt := 20) hx hb dX0_setTicks_10 (by decide) (fun hc => ?_) (fun hc => ?_)
    · have hm := dp_ip hc hm
      cases hm
      exact dp_vret X hr hw dX0_setTicks_20
    · have hm := dp_in hc hm
      refine lv_aload_n hx hb dX0_setTicks_13 rfl (lv_at hl 0 rfl) ?_
      obtain ⟨v3, ev3, hm⟩ := dp_ob hm
      refine dp_getr X hw cl_X0 1 (by decide) fl_X0_20 ev3 dX0_setTicks_14 ?_
      refine lv_iload_n hx hb dX0_setTicks_17 rfl (lv_at hl 1 rfl) ?_
      refine lv_iload_n hx hb dX0_setTicks_18 rfl (lv_at hl 2 rfl) ?_
      obtain ⟨h4, eh4, hm⟩ := dp_ob hm
      refine dp_iast X hw eh4 dX0_setTicks_19 (fun H locs hw => ?_)
      cases hm
      exact dp_vret X hr hw dX0_setTicks_20
theorem ck_X5_size {h : dp_H} {x0 : Nat} {r : Int32} (hm : m_X5_size h x0 = some r) : dp_is h x0 5 = true := (dp_ck_e hm).1
set_option maxRecDepth 100000 in
set_option maxHeartbeats 4000000 in
theorem c_X5_size (l : Launch) (D : va_G) (a : dp_A) (B : Nat) (h : dp_H) (x0 : Nat) {r : Int32} (hm : m_X5_size h x0 = some r) : dp_M l D a B yX5_size cX5_size 1 (some .int) rm_X5_size [.ref (B + x0)] h (some (.int r)) h := by
  refine dp_M.of (own := RX5) (nm := "size") (by decide) rfl rfl (Nat.le_of_ble_eq_true rfl) ?_
  intro p e s m below meth c ls X hr hin hw hl
  have hl : lv_has ls 1 [(0, .ref (B + x0))] := hl
  obtain ⟨hx, hb, hml, hown, hlk, hK, hB⟩ := id X
  unfold m_X5_size at hm
  obtain ⟨hck, hm⟩ := dp_ck_e hm
  refine lv_aload_n hx hb dX5_size_0 rfl (lv_at hl 0 rfl) ?_
  obtain ⟨v1, ev1, hm⟩ := dp_ob hm
  refine dp_geti X hw cl_X5 1 (by decide) fl_X5_21 ev1 dX5_size_1 ?_
  cases hm
  exact dp_iret X hr hw dX5_size_4
theorem ck_X3_at {h : dp_H} {x0 : Nat} {x1 : Int32} {r : Option Nat} (hm : m_X3_at h x0 x1 = some r) : dp_is h x0 3 = true := (dp_ck_e hm).1
set_option maxRecDepth 100000 in
set_option maxHeartbeats 4000000 in
theorem c_X3_at (l : Launch) (D : va_G) (a : dp_A) (B : Nat) (h : dp_H) (x0 : Nat) (x1 : Int32) {r : Option Nat} (hm : m_X3_at h x0 x1 = some r) : dp_M l D a B yX3_at cX3_at 3 (some (.object "DialPlan$Pattern")) rm_X3_at [.ref (B + x0), .int x1] h (some (dp_ro B r)) h := by
  refine dp_M.of (own := RX3) (nm := "at") (by decide) rfl rfl (Nat.le_of_ble_eq_true rfl) ?_
  intro p e s m below meth c ls X hr hin hw hl
  have hl : lv_has ls 3 [(0, .ref (B + x0)), (1, .int x1)] := hl
  obtain ⟨hx, hb, hml, hown, hlk, hK, hB⟩ := id X
  unfold m_X3_at at hm
  obtain ⟨hck, hm⟩ := dp_ck_e hm
  refine lv_iload_n hx hb dX3_at_0 rfl (lv_at hl 1 rfl) ?_
  refine lv_if_lt (tgt := 25) hx hb dX3_at_1 (by decide) (fun hc => ?_) (fun hc => ?_)
  · have hm := dp_ip hc hm
    refine lv_iconst (v := 0) hx hb dX3_at_25 (by decide) ?_
    refine lv_istore_n (lv' := [(2, .int 0), (0, .ref (B + x0)), (1, .int x1)]) hx hb dX3_at_26 rfl hl (by decide) rfl (fun ls hl => ?_)
    refine lv_iload_n hx hb dX3_at_27 rfl (lv_at hl 0 rfl) ?_
    refine lv_if_eq (tgt := 40) hx hb dX3_at_28 (by decide) (fun _ => ?_) (fun hc => absurd (by decide) hc)
    refine lv_null hx hb dX3_at_40 ?_
    cases hm
    exact dp_areto X hr (Or.inl ⟨_, rfl⟩) hw dX3_at_41
  · have hm := dp_in hc hm
    refine lv_iload_n hx hb dX3_at_4 rfl (lv_at hl 1 rfl) ?_
    refine lv_aload_n hx hb dX3_at_5 rfl (lv_at hl 0 rfl) ?_
    obtain ⟨v1, ev1, hm⟩ := dp_ob hm
    refine dp_geti X hw cl_X3 1 (by decide) fl_X3_18 ev1 dX3_at_6 ?_
    refine lv_icmp_ge (tgt := 25) hx hb dX3_at_9 (by decide) (fun hc => ?_) (fun hc => ?_)
    · have hm := dp_ip hc hm
      refine lv_iconst (v := 0) hx hb dX3_at_25 (by decide) ?_
      refine lv_istore_n (lv' := [(2, .int 0), (0, .ref (B + x0)), (1, .int x1)]) hx hb dX3_at_26 rfl hl (by decide) rfl (fun ls hl => ?_)
      refine lv_iload_n hx hb dX3_at_27 rfl (lv_at hl 0 rfl) ?_
      refine lv_if_eq (tgt := 40) hx hb dX3_at_28 (by decide) (fun _ => ?_) (fun hc => absurd (by decide) hc)
      refine lv_null hx hb dX3_at_40 ?_
      cases hm
      exact dp_areto X hr (Or.inl ⟨_, rfl⟩) hw dX3_at_41
    · have hm := dp_in hc hm
      refine lv_iload_n hx hb dX3_at_12 rfl (lv_at hl 1 rfl) ?_
      refine lv_aload_n hx hb dX3_at_13 rfl (lv_at hl 0 rfl) ?_
      obtain ⟨v2, ev2, hm⟩ := dp_ob hm
      refine dp_getr X hw cl_X3 0 (by decide) fl_X3_11 ev2 dX3_at_14 ?_
      obtain ⟨v3, ev3, hm⟩ := dp_ob hm
      refine dp_alen X hw ev3 dX3_at_17 ?_
      refine lv_icmp_ge (tgt := 25) hx hb dX3_at_18 (by decide) (fun hc => ?_) (fun hc => ?_)
      · have hm := dp_ip hc hm
        refine lv_iconst (v := 0) hx hb dX3_at_25 (by decide) ?_
        refine lv_istore_n (lv' := [(2, .int 0), (0, .ref (B + x0)), (1, .int x1)]) hx hb dX3_at_26 rfl hl (by decide) rfl (fun ls hl => ?_)
        refine lv_iload_n hx hb dX3_at_27 rfl (lv_at hl 0 rfl) ?_
        refine lv_if_eq (tgt := 40) hx hb dX3_at_28 (by decide) (fun _ => ?_) (fun hc => absurd (by decide) hc)
        refine lv_null hx hb dX3_at_40 ?_
        cases hm
        exact dp_areto X hr (Or.inl ⟨_, rfl⟩) hw dX3_at_41
      · have hm := dp_in hc hm
        refine lv_iconst (v := 1) hx hb dX3_at_21 (by decide) ?_
        refine lv_goto (tgt := 26) hx hb dX3_at_22 (by decide) ?_
        refine lv_istore_n (lv' := [(2, .int 1), (0, .ref (B + x0)), (1, .int x1)]) hx hb dX3_at_26 rfl hl (by decide) rfl (fun ls hl => ?_)
        refine lv_iload_n hx hb dX3_at_27 rfl (lv_at hl 0 rfl) ?_
        refine lv_if_eq (tgt := 40) hx hb dX3_at_28 (by decide) (fun hc => absurd hc (by decide)) (fun _ => ?_)
        refine lv_aload_n hx hb dX3_at_31 rfl (lv_at hl 1 rfl) ?_
        obtain ⟨v4, ev4, hm⟩ := dp_ob hm
        refine dp_getr X hw cl_X3 0 (by decide) fl_X3_11 ev4 dX3_at_32 ?_
        refine lv_iload_n hx hb dX3_at_35 rfl (lv_at hl 2 rfl) ?_
        obtain ⟨v5, ev5, hm⟩ := dp_ob hm
        refine dp_aald X hw ev5 dX3_at_36 ?_
        refine lv_goto (tgt := 41) hx hb dX3_at_37 (by decide) ?_
        cases hm
        exact dp_areto X hr (Or.inl ⟨_, rfl⟩) hw dX3_at_41
theorem ck_X5_at {h : dp_H} {x0 : Nat} {x1 : Int32} {r : Int32} (hm : m_X5_at h x0 x1 = some r) : dp_is h x0 5 = true := (dp_ck_e hm).1
set_option maxRecDepth 100000 in
set_option maxHeartbeats 4000000 in
theorem c_X5_at (l : Launch) (D : va_G) (a : dp_A) (B : Nat) (h : dp_H) (x0 : Nat) (x1 : Int32) {r : Int32} (hm : m_X5_at h x0 x1 = some r) : dp_M l D a B yX5_at cX5_at 3 (some .int) rm_X5_at [.ref (B + x0), .int x1] h (some (.int r)) h := by
  refine dp_M.of (own := RX5) (nm := "at") (by decide) rfl rfl (Nat.le_of_ble_eq_true rfl) ?_
  intro p e s m below meth c ls X hr hin hw hl
  have hl : lv_has ls 3 [(0, .ref (B + x0)), (1, .int x1)] := hl
  obtain ⟨hx, hb, hml, hown, hlk, hK, hB⟩ := id X
  unfold m_X5_at at hm
  obtain ⟨hck, hm⟩ := dp_ck_e hm
  refine lv_iload_n hx hb dX5_at_0 rfl (lv_at hl 1 rfl) ?_
  refine lv_if_lt (tgt := 25) hx hb dX5_at_1 (by decide) (fun hc => ?_) (fun hc => ?_)
  · have hm := dp_ip hc hm
    refine lv_iconst (v := 0) hx hb dX5_at_25 (by decide) ?_
    refine lv_istore_n (lv' := [(2, .int 0), (0, .ref (B + x0)), (1, .int x1)]) hx hb dX5_at_26 rfl hl (by decide) rfl (fun ls hl => ?_)
    refine lv_iload_n hx hb dX5_at_27 rfl (lv_at hl 0 rfl) ?_
    refine lv_if_eq (tgt := 40) hx hb dX5_at_28 (by decide) (fun _ => ?_) (fun hc => absurd (by decide) hc)
    refine lv_iconst (v := (-1)) hx hb dX5_at_40 (by decide) ?_
    cases hm
    exact dp_iret X hr hw dX5_at_41
  · have hm := dp_in hc hm
    refine lv_iload_n hx hb dX5_at_4 rfl (lv_at hl 1 rfl) ?_
    refine lv_aload_n hx hb dX5_at_5 rfl (lv_at hl 0 rfl) ?_
    obtain ⟨v1, ev1, hm⟩ := dp_ob hm
    refine dp_geti X hw cl_X5 1 (by decide) fl_X5_21 ev1 dX5_at_6 ?_
    refine lv_icmp_ge (tgt := 25) hx hb dX5_at_9 (by decide) (fun hc => ?_) (fun hc => ?_)
    · have hm := dp_ip hc hm
      refine lv_iconst (v := 0) hx hb dX5_at_25 (by decide) ?_
      refine lv_istore_n (lv' := [(2, .int 0), (0, .ref (B + x0)), (1, .int x1)]) hx hb dX5_at_26 rfl hl (by decide) rfl (fun ls hl => ?_)
      refine lv_iload_n hx hb dX5_at_27 rfl (lv_at hl 0 rfl) ?_
      refine lv_if_eq (tgt := 40) hx hb dX5_at_28 (by decide) (fun _ => ?_) (fun hc => absurd (by decide) hc)
      refine lv_iconst (v := (-1)) hx hb dX5_at_40 (by decide) ?_
      cases hm
      exact dp_iret X hr hw dX5_at_41
    · have hm := dp_in hc hm
      refine lv_iload_n hx hb dX5_at_12 rfl (lv_at hl 1 rfl) ?_
      refine lv_aload_n hx hb dX5_at_13 rfl (lv_at hl 0 rfl) ?_
      obtain ⟨v2, ev2, hm⟩ := dp_ob hm
      refine dp_getr X hw cl_X5 0 (by decide) fl_X5_15 ev2 dX5_at_14 ?_
      obtain ⟨v3, ev3, hm⟩ := dp_ob hm
      refine dp_alen X hw ev3 dX5_at_17 ?_
      refine lv_icmp_ge (tgt := 25) hx hb dX5_at_18 (by decide) (fun hc => ?_) (fun hc => ?_)
      · have hm := dp_ip hc hm
        refine lv_iconst (v := 0) hx hb dX5_at_25 (by decide) ?_
        refine lv_istore_n (lv' := [(2, .int 0), (0, .ref (B + x0)), (1, .int x1)]) hx hb dX5_at_26 rfl hl (by decide) rfl (fun ls hl => ?_)
        refine lv_iload_n hx hb dX5_at_27 rfl (lv_at hl 0 rfl) ?_
        refine lv_if_eq (tgt := 40) hx hb dX5_at_28 (by decide) (fun _ => ?_) (fun hc => absurd (by decide) hc)
        refine lv_iconst (v := (-1)) hx hb dX5_at_40 (by decide) ?_
        cases hm
        exact dp_iret X hr hw dX5_at_41
      · have hm := dp_in hc hm
        refine lv_iconst (v := 1) hx hb dX5_at_21 (by decide) ?_
        refine lv_goto (tgt := 26) hx hb dX5_at_22 (by decide) ?_
        refine lv_istore_n (lv' := [(2, .int 1), (0, .ref (B + x0)), (1, .int x1)]) hx hb dX5_at_26 rfl hl (by decide) rfl (fun ls hl => ?_)
        refine lv_iload_n hx hb dX5_at_27 rfl (lv_at hl 0 rfl) ?_
        refine lv_if_eq (tgt := 40) hx hb dX5_at_28 (by decide) (fun hc => absurd hc (by decide)) (fun _ => ?_)
        refine lv_aload_n hx hb dX5_at_31 rfl (lv_at hl 1 rfl) ?_
        obtain ⟨v4, ev4, hm⟩ := dp_ob hm
        refine dp_getr X hw cl_X5 0 (by decide) fl_X5_15 ev4 dX5_at_32 ?_
        refine lv_iload_n hx hb dX5_at_35 rfl (lv_at hl 2 rfl) ?_
        obtain ⟨v5, ev5, hm⟩ := dp_ob hm
        refine dp_iald X hw ev5 dX5_at_36 ?_
        refine lv_goto (tgt := 41) hx hb dX5_at_37 (by decide) ?_
        cases hm
        exact dp_iret X hr hw dX5_at_41
set_option maxRecDepth 100000 in
set_option maxHeartbeats 4000000 in
theorem v_X1_reach_87 {p : Program} {l : Launch} {e : Env} {s : State} {m : MethodId} {args : Array Value} {below : List Frame} {meth : Method} {c : Code} {D : va_G} {a : dp_A} {B : Nat} (X : dp_X p s m meth c cX1_reach 5 RX1 D a B) (hr : meth.sig.returnType = (some .int)) {h : dp_H} {r : Int32}  : ∀ (x0 : Nat) (x2 : Int32) (x3 : Int32), b_X1_reach_87 h  x0 x2 x3 = some r → ∀ (H : Heap) (locs : List Loc) (ls : Array Slot), dp_w D a B h s.heap H locs → lv_has ls 5 [(0, .ref (B + x0)), (2, .int x2), (3, .int x3)] → W p l e rm_X1_reach s m args below meth c H locs 0 0 (MQ below (dp_Q D a B (some (.int r)) h) args s rm_X1_reach.cells rm_X1_reach.slots (fun q => B ≤ q)) (F0 m 87 ls []) := by
  intro x0 x2 x3 hm H locs ls hw hl
  obtain ⟨hx, hb, hml, hown, hlk, hK, hB⟩ := id X
  unfold b_X1_reach_87 at hm
  refine lv_iload_n hx hb dX1_reach_87 rfl (lv_at hl 1 rfl) ?_
  refine lv_aload_n hx hb dX1_reach_88 rfl (lv_at hl 0 rfl) ?_
  obtain ⟨v1, ev1, hm⟩ := dp_ob hm
  refine dp_geti X hw cl_X1 3 (by decide) fl_X1_27 ev1 dX1_reach_89 ?_
  refine lv_icmp_lt (tgt := 108) hx hb dX1_reach_92 (by decide) (fun hc => ?_) (fun hc => ?_)
  · have hm := dp_ip hc hm
    refine lv_iload_n hx hb dX1_reach_108 rfl (lv_at hl 2 rfl) ?_
    refine lv_iconst (v := 2) hx hb dX1_reach_109 (by decide) ?_
    refine lv_ior hx hb dX1_reach_110 ?_
    refine lv_istore_n (lv' := [(3, .int (x3 ||| 2)), (0, .ref (B + x0)), (2, .int x2)]) hx hb dX1_reach_111 rfl hl (by decide) rfl (fun ls hl => ?_)
    refine lv_iload_n hx hb dX1_reach_112 rfl (lv_at hl 0 rfl) ?_
    cases hm
    exact dp_iret X hr hw dX1_reach_113
  · have hm := dp_in hc hm
    refine lv_aload_n hx hb dX1_reach_95 rfl (lv_at hl 0 rfl) ?_
    obtain ⟨v2, ev2, hm⟩ := dp_ob hm
    refine dp_geti X hw cl_X1 4 (by decide) fl_X1_31 ev2 dX1_reach_96 ?_
    refine lv_if_eq (tgt := 112) hx hb dX1_reach_99 (by decide) (fun hc => ?_) (fun hc => ?_)
    · have hm := dp_ip hc hm
      refine lv_iload_n hx hb dX1_reach_112 rfl (lv_at hl 2 rfl) ?_
      cases hm
      exact dp_iret X hr hw dX1_reach_113
    · have hm := dp_in hc hm
      refine lv_iload_n hx hb dX1_reach_102 rfl (lv_at hl 1 rfl) ?_
      refine lv_bipush (v := 10) hx hb dX1_reach_103 (by decide) ?_
      refine lv_icmp_ge (tgt := 112) hx hb dX1_reach_105 (by decide) (fun hc => ?_) (fun hc => ?_)
      · have hm := dp_ip hc hm
        refine lv_iload_n hx hb dX1_reach_112 rfl (lv_at hl 2 rfl) ?_
        cases hm
        exact dp_iret X hr hw dX1_reach_113
      · have hm := dp_in hc hm
        refine lv_iload_n hx hb dX1_reach_108 rfl (lv_at hl 2 rfl) ?_
        refine lv_iconst (v := 2) hx hb dX1_reach_109 (by decide) ?_
        refine lv_ior hx hb dX1_reach_110 ?_
        refine lv_istore_n (lv' := [(3, .int (x3 ||| 2)), (0, .ref (B + x0)), (2, .int x2)]) hx hb dX1_reach_111 rfl hl (by decide) rfl (fun ls hl => ?_)
        refine lv_iload_n hx hb dX1_reach_112 rfl (lv_at hl 0 rfl) ?_
        cases hm
        exact dp_iret X hr hw dX1_reach_113
set_option maxRecDepth 100000 in
set_option maxHeartbeats 4000000 in
theorem v_X1_reach_58 {p : Program} {l : Launch} {e : Env} {s : State} {m : MethodId} {args : Array Value} {below : List Frame} {meth : Method} {c : Code} {D : va_G} {a : dp_A} {B : Nat} (X : dp_X p s m meth c cX1_reach 5 RX1 D a B) (hr : meth.sig.returnType = (some .int)) {h : dp_H} {r : Int32}  : ∀ (x0 : Nat) (x2 : Int32), b_X1_reach_58 h  x0 x2 = some r → ∀ (H : Heap) (locs : List Loc) (ls : Array Slot), dp_w D a B h s.heap H locs → lv_has ls 5 [(0, .ref (B + x0)), (2, .int x2)] → W p l e rm_X1_reach s m args below meth c H locs 0 0 (MQ below (dp_Q D a B (some (.int r)) h) args s rm_X1_reach.cells rm_X1_reach.slots (fun q => B ≤ q)) (F0 m 58 ls []) := by
  intro x0 x2 hm H locs ls hw hl
  obtain ⟨hx, hb, hml, hown, hlk, hK, hB⟩ := id X
  unfold b_X1_reach_58 at hm
  refine lv_iconst (v := 0) hx hb dX1_reach_58 (by decide) ?_
  refine lv_istore_n (lv' := [(3, .int 0), (0, .ref (B + x0)), (2, .int x2)]) hx hb dX1_reach_59 rfl hl (by decide) rfl (fun ls hl => ?_)
  refine lv_iload_n hx hb dX1_reach_60 rfl (lv_at hl 2 rfl) ?_
  refine lv_aload_n hx hb dX1_reach_61 rfl (lv_at hl 1 rfl) ?_
  obtain ⟨v1, ev1, hm⟩ := dp_ob hm
  refine dp_geti X hw cl_X1 3 (by decide) fl_X1_27 ev1 dX1_reach_62 ?_
  refine lv_icmp_eq (tgt := 83) hx hb dX1_reach_65 (by decide) (fun hc => ?_) (fun hc => ?_)
  · have hm := dp_ip hc hm
    refine lv_iload_n hx hb dX1_reach_83 rfl (lv_at hl 0 rfl) ?_
    refine lv_iconst (v := 1) hx hb dX1_reach_84 (by decide) ?_
    refine lv_ior hx hb dX1_reach_85 ?_
    refine lv_istore_n (lv' := [(3, .int (0 ||| 1)), (0, .ref (B + x0)), (2, .int x2)]) hx hb dX1_reach_86 rfl hl (by decide) rfl (fun ls hl => ?_)
    exact v_X1_reach_87 X hr x0 x2 (0 ||| 1) hm _ _ _ hw (lv_sub hl [1, 2, 0] rfl)
  · have hm := dp_in hc hm
    refine lv_aload_n hx hb dX1_reach_68 rfl (lv_at hl 1 rfl) ?_
    obtain ⟨v2, ev2, hm⟩ := dp_ob hm
    refine dp_geti X hw cl_X1 4 (by decide) fl_X1_31 ev2 dX1_reach_69 ?_
    refine lv_if_eq (tgt := 87) hx hb dX1_reach_72 (by decide) (fun hc => ?_) (fun hc => ?_)
    · have hm := dp_ip hc hm
      exact v_X1_reach_87 X hr x0 x2 0 hm _ _ _ hw (lv_sub hl [1, 2, 0] rfl)
    · have hm := dp_in hc hm
      refine lv_iload_n hx hb dX1_reach_75 rfl (lv_at hl 2 rfl) ?_
      refine lv_aload_n hx hb dX1_reach_76 rfl (lv_at hl 1 rfl) ?_
      obtain ⟨v3, ev3, hm⟩ := dp_ob hm
      refine dp_geti X hw cl_X1 3 (by decide) fl_X1_27 ev3 dX1_reach_77 ?_
      refine lv_icmp_le (tgt := 87) hx hb dX1_reach_80 (by decide) (fun hc => ?_) (fun hc => ?_)
      · have hm := dp_ip hc hm
        exact v_X1_reach_87 X hr x0 x2 0 hm _ _ _ hw (lv_sub hl [1, 2, 0] rfl)
      · have hm := dp_in hc hm
        refine lv_iload_n hx hb dX1_reach_83 rfl (lv_at hl 0 rfl) ?_
        refine lv_iconst (v := 1) hx hb dX1_reach_84 (by decide) ?_
        refine lv_ior hx hb dX1_reach_85 ?_
        refine lv_istore_n (lv' := [(3, .int (0 ||| 1)), (0, .ref (B + x0)), (2, .int x2)]) hx hb dX1_reach_86 rfl hl (by decide) rfl (fun ls hl => ?_)
        exact v_X1_reach_87 X hr x0 x2 (0 ||| 1) hm _ _ _ hw (lv_sub hl [1, 2, 0] rfl)
set_option maxRecDepth 100000 in
set_option maxHeartbeats 4000000 in
theorem v_X1_reach_2 {p : Program} {l : Launch} {e : Env} {s : State} {m : MethodId} {args : Array Value} {below : List Frame} {meth : Method} {c : Code} {D : va_G} {a : dp_A} {B : Nat} (X : dp_X p s m meth c cX1_reach 5 RX1 D a B) (hr : meth.sig.returnType = (some .int)) {h : dp_H} {r : Int32} {k2 : Nat → Nat → Int32 → Int32 → Option Int32} (hk2 : ∀ (x0 : Nat) (x1 : Nat) (x2 : Int32) (x3 : Int32), k2 x0 x1 x2 x3 = some r → ∀ (H : Heap) (locs : List Loc) (ls : Array Slot), dp_w D a B h s.heap H locs → lv_has ls 5 [(0, .ref (B + x0)), (1, .ref (B + x1)), (2, .int x2), (3, .int x3)] → W p l e rm_X1_reach s m args below meth c H locs 0 0 (MQ below (dp_Q D a B (some (.int r)) h) args s rm_X1_reach.cells rm_X1_reach.slots (fun q => B ≤ q)) (F0 m 2 ls [])) : ∀ (x0 : Nat) (x1 : Nat) (x2 : Int32) (x3 : Int32), b_X1_reach_2 h k2 x0 x1 x2 x3 = some r → ∀ (H : Heap) (locs : List Loc) (ls : Array Slot), dp_w D a B h s.heap H locs → lv_has ls 5 [(0, .ref (B + x0)), (1, .ref (B + x1)), (2, .int x2), (3, .int x3)] → W p l e rm_X1_reach s m args below meth c H locs 0 0 (MQ below (dp_Q D a B (some (.int r)) h) args s rm_X1_reach.cells rm_X1_reach.slots (fun q => B ≤ q)) (F0 m 2 ls []) := by
  intro x0 x1 x2 x3 hm H locs ls hw hl
  obtain ⟨hx, hb, hml, hown, hlk, hK, hB⟩ := id X
  unfold b_X1_reach_2 at hm
  refine lv_iload_n hx hb dX1_reach_2 rfl (lv_at hl 3 rfl) ?_
  refine lv_iload_n hx hb dX1_reach_3 rfl (lv_at hl 2 rfl) ?_
  refine lv_icmp_ge (tgt := 58) hx hb dX1_reach_4 (by decide) (fun hc => ?_) (fun hc => ?_)
  · have hm := dp_ip hc hm
    exact v_X1_reach_58 X hr x0 x2 hm _ _ _ hw (lv_sub hl [0, 2] rfl)
  · have hm := dp_in hc hm
    refine lv_iload_n hx hb dX1_reach_7 rfl (lv_at hl 3 rfl) ?_
    refine lv_aload_n hx hb dX1_reach_8 rfl (lv_at hl 0 rfl) ?_
    obtain ⟨v1, ev1, hm⟩ := dp_ob hm
    refine dp_geti X hw cl_X1 3 (by decide) fl_X1_27 ev1 dX1_reach_9 ?_
    refine lv_icmp_ge (tgt := 58) hx hb dX1_reach_12 (by decide) (fun hc => ?_) (fun hc => ?_)
    · have hm := dp_ip hc hm
      exact v_X1_reach_58 X hr x0 x2 hm _ _ _ hw (lv_sub hl [0, 2] rfl)
    · have hm := dp_in hc hm
      refine lv_iload_n hx hb dX1_reach_15 rfl (lv_at hl 3 rfl) ?_
      refine lv_aload_n hx hb dX1_reach_16 rfl (lv_at hl 0 rfl) ?_
      obtain ⟨v2, ev2, hm⟩ := dp_ob hm
      refine dp_getr X hw cl_X1 0 (by decide) fl_X1_9 ev2 dX1_reach_17 ?_
      obtain ⟨v3, ev3, hm⟩ := dp_ob hm
      refine dp_alen X hw ev3 dX1_reach_20 ?_
      refine lv_icmp_ge (tgt := 58) hx hb dX1_reach_21 (by decide) (fun hc => ?_) (fun hc => ?_)
      · have hm := dp_ip hc hm
        exact v_X1_reach_58 X hr x0 x2 hm _ _ _ hw (lv_sub hl [0, 2] rfl)
      · have hm := dp_in hc hm
        refine lv_aload_n hx hb dX1_reach_24 rfl (lv_at hl 1 rfl) ?_
        refine lv_iload_n hx hb dX1_reach_25 rfl (lv_at hl 3 rfl) ?_
        obtain ⟨v4, ev4, hm⟩ := dp_ob hm
        refine dp_cV (As := [.int x3]) (rest := []) X hw (c_X5_at l D a B h x1 x3 ev4) vm_X5_at ml_X1_64 (by decide) rfl rfl (ck_X5_at ev4) rfl rfl hl.1 rfl (Nat.le_of_ble_eq_true rfl) dX1_reach_26 ⟨(Nat.zero_le _), (Nat.zero_le _)⟩ (fun H locs hw => ?_)
        refine lv_istore (lv' := [(4, .int v4), (0, .ref (B + x0)), (1, .ref (B + x1)), (2, .int x2), (3, .int x3)]) hx hb dX1_reach_29 hl (by decide) rfl (fun ls hl => ?_)
        refine lv_iload hx hb dX1_reach_31 (lv_at hl 0 rfl) ?_
        refine lv_if_lt (tgt := 50) hx hb dX1_reach_33 (by decide) (fun hc => ?_) (fun hc => ?_)
        · have hm := dp_ip hc hm
          refine lv_iconst (v := 0) hx hb dX1_reach_50 (by decide) ?_
          cases hm
          exact dp_iret X hr hw dX1_reach_51
        · have hm := dp_in hc hm
          refine lv_aload_n hx hb dX1_reach_36 rfl (lv_at hl 1 rfl) ?_
          obtain ⟨v5, ev5, hm⟩ := dp_ob hm
          refine dp_getr X hw cl_X1 0 (by decide) fl_X1_9 ev5 dX1_reach_37 ?_
          refine lv_iload_n hx hb dX1_reach_40 rfl (lv_at hl 4 rfl) ?_
          obtain ⟨v6, ev6, hm⟩ := dp_ob hm
          refine dp_iald X hw ev6 dX1_reach_41 ?_
          refine lv_iload hx hb dX1_reach_42 (lv_at hl 0 rfl) ?_
          refine lv_ishr hx hb dX1_reach_44 ?_
          refine lv_iconst (v := 1) hx hb dX1_reach_45 (by decide) ?_
          refine lv_iand hx hb dX1_reach_46 ?_
          refine lv_if_ne (tgt := 52) hx hb dX1_reach_47 (by decide) (fun hc => ?_) (fun hc => ?_)
          · have hm := dp_in hc hm
            refine lv_iinc (v := (x3 + 1)) (lv' := [(3, .int (x3 + 1)), (4, .int v4), (0, .ref (B + x0)), (1, .ref (B + x1)), (2, .int x2)]) hx hb dX1_reach_52 hl (k := 4) rfl rfl (by decide) rfl (fun ls hl => ?_)
            refine lv_goto (tgt := 2) hx hb dX1_reach_55 (by decide) ?_
            exact hk2 x0 x1 x2 (x3 + 1) hm _ _ _ hw (lv_sub hl [2, 3, 4, 0] rfl)
          · have hm := dp_ip hc hm
            refine lv_iconst (v := 0) hx hb dX1_reach_50 (by decide) ?_
            cases hm
            exact dp_iret X hr hw dX1_reach_51
set_option maxRecDepth 100000 in
set_option maxHeartbeats 4000000 in
theorem w_X1_reach_2 {p : Program} {l : Launch} {e : Env} {s : State} {m : MethodId} {args : Array Value} {below : List Frame} {meth : Method} {c : Code} {D : va_G} {a : dp_A} {B : Nat} (X : dp_X p s m meth c cX1_reach 5 RX1 D a B) (hr : meth.sig.returnType = (some .int)) {h : dp_H} {r : Int32}  : ∀ (n : Nat) (x0 : Nat) (x1 : Nat) (x2 : Int32) (x3 : Int32), m_X1_reach_2 h  n x0 x1 x2 x3 = some r → ∀ (H : Heap) (locs : List Loc) (ls : Array Slot), dp_w D a B h s.heap H locs → lv_has ls 5 [(0, .ref (B + x0)), (1, .ref (B + x1)), (2, .int x2), (3, .int x3)] → W p l e rm_X1_reach s m args below meth c H locs 0 0 (MQ below (dp_Q D a B (some (.int r)) h) args s rm_X1_reach.cells rm_X1_reach.slots (fun q => B ≤ q)) (F0 m 2 ls []) := by
  intro n
  induction n with
  | zero => intro x0 x1 x2 x3 hm; cases hm
  | succ n ih => intro x0 x1 x2 x3 hm; exact v_X1_reach_2 X hr ih x0 x1 x2 x3 hm
theorem ck_X1_reach {h : dp_H} {x0 : Nat} {x1 : Nat} {x2 : Int32} {r : Int32} (hm : m_X1_reach h x0 x1 x2 = some r) : dp_is h x0 1 = true := (dp_ck_e hm).1
set_option maxRecDepth 100000 in
set_option maxHeartbeats 4000000 in
theorem c_X1_reach (l : Launch) (D : va_G) (a : dp_A) (B : Nat) (h : dp_H) (x0 : Nat) (x1 : Nat) (x2 : Int32) {r : Int32} (hm : m_X1_reach h x0 x1 x2 = some r) : dp_M l D a B yX1_reach cX1_reach 5 (some .int) rm_X1_reach [.ref (B + x0), .ref (B + x1), .int x2] h (some (.int r)) h := by
  refine dp_M.of (own := RX1) (nm := "reach") (by decide) rfl rfl (Nat.le_of_ble_eq_true rfl) ?_
  intro p e s m below meth c ls X hr hin hw hl
  have hl : lv_has ls 5 [(0, .ref (B + x0)), (1, .ref (B + x1)), (2, .int x2)] := hl
  obtain ⟨hx, hb, hml, hown, hlk, hK, hB⟩ := id X
  unfold m_X1_reach at hm
  obtain ⟨hck, hm⟩ := dp_ck_e hm
  refine lv_iconst (v := 0) hx hb dX1_reach_0 (by decide) ?_
  refine lv_istore_n (lv' := [(3, .int 0), (0, .ref (B + x0)), (1, .ref (B + x1)), (2, .int x2)]) hx hb dX1_reach_1 rfl hl (by decide) rfl (fun ls hl => ?_)
  exact w_X1_reach_2 X hr 64 x0 x1 x2 0 hm _ _ _ hw (lv_sub hl [1, 2, 3, 0] rfl)
set_option maxRecDepth 100000 in
set_option maxHeartbeats 4000000 in
theorem v_X3_reached_5 {p : Program} {l : Launch} {e : Env} {s : State} {m : MethodId} {args : Array Value} {below : List Frame} {meth : Method} {c : Code} {D : va_G} {a : dp_A} {B : Nat} (X : dp_X p s m meth c cX3_reached 6 RX3 D a B) (hr : meth.sig.returnType = (some .int)) {h : dp_H} {r : Int32} {k5 : Nat → Nat → Int32 → Int32 → Int32 → Option Int32} (hk5 : ∀ (x0 : Nat) (x1 : Nat) (x2 : Int32) (x3 : Int32) (x4 : Int32), k5 x0 x1 x2 x3 x4 = some r → ∀ (H : Heap) (locs : List Loc) (ls : Array Slot), dp_w D a B h s.heap H locs → lv_has ls 6 [(0, .ref (B + x0)), (1, .ref (B + x1)), (2, .int x2), (3, .int x3), (4, .int x4)] → W p l e rm_X3_reached s m args below meth c H locs 0 0 (MQ below (dp_Q D a B (some (.int r)) h) args s rm_X3_reached.cells rm_X3_reached.slots (fun q => B ≤ q)) (F0 m 5 ls [])) : ∀ (x0 : Nat) (x1 : Nat) (x2 : Int32) (x3 : Int32) (x4 : Int32), b_X3_reached_5 h k5 x0 x1 x2 x3 x4 = some r → ∀ (H : Heap) (locs : List Loc) (ls : Array Slot), dp_w D a B h s.heap H locs → lv_has ls 6 [(0, .ref (B + x0)), (1, .ref (B + x1)), (2, .int x2), (3, .int x3), (4, .int x4)] → W p l e rm_X3_reached s m args below meth c H locs 0 0 (MQ below (dp_Q D a B (some (.int r)) h) args s rm_X3_reached.cells rm_X3_reached.slots (fun q => B ≤ q)) (F0 m 5 ls []) := by
  intro x0 x1 x2 x3 x4 hm H locs ls hw hl
  obtain ⟨hx, hb, hml, hown, hlk, hK, hB⟩ := id X
  unfold b_X3_reached_5 at hm
  refine lv_iload hx hb dX3_reached_5 (lv_at hl 4 rfl) ?_
  refine lv_aload_n hx hb dX3_reached_7 rfl (lv_at hl 0 rfl) ?_
  obtain ⟨v1, ev1, hm⟩ := dp_ob hm
  refine dp_geti X hw cl_X3 1 (by decide) fl_X3_18 ev1 dX3_reached_8 ?_
  refine lv_icmp_ge (tgt := 55) hx hb dX3_reached_11 (by decide) (fun hc => ?_) (fun hc => ?_)
  · have hm := dp_ip hc hm
    refine lv_iload_n hx hb dX3_reached_55 rfl (lv_at hl 3 rfl) ?_
    cases hm
    exact dp_iret X hr hw dX3_reached_56
  · have hm := dp_in hc hm
    refine lv_aload_n hx hb dX3_reached_14 rfl (lv_at hl 0 rfl) ?_
    refine lv_iload hx hb dX3_reached_15 (lv_at hl 4 rfl) ?_
    obtain ⟨v2, ev2, hm⟩ := dp_ob hm
    refine dp_cV (As := [.int x4]) (rest := []) X hw (c_X3_at l D a B h x0 x4 ev2) vm_X3_at ml_X3_26 (by decide) rfl rfl (ck_X3_at ev2) rfl rfl hl.1 rfl (Nat.le_of_ble_eq_true rfl) dX3_reached_17 ⟨(Nat.zero_le _), (Nat.zero_le _)⟩ (fun H locs hw => ?_)
    refine dp_astore (B := B) (o := v2) (lv' := [(5, dp_ro B v2), (0, .ref (B + x0)), (1, .ref (B + x1)), (2, .int x2), (3, .int x3), (4, .int x4)]) hx hb dX3_reached_20 hl (by decide) rfl (fun ls hl => ?_)
    refine dp_aload (B := B) (o := v2) hx hb dX3_reached_22 (lv_at hl 0 rfl) ?_
    rcases v2 with _ | u3
    · have hl : lv_has ls 6 [(5, dp_ro B none), (0, .ref (B + x0)), (1, .ref (B + x1)), (2, .int x2), (3, .int x3), (4, .int x4)] := hl
      have hm := dp_om_n hm
      refine lv_ifnullN (tgt := 49) hx hb dX3_reached_24 (by decide) ?_
      refine lv_iinc (v := (x4 + 1)) (lv' := [(4, .int (x4 + 1)), (5, dp_ro B none), (0, .ref (B + x0)), (1, .ref (B + x1)), (2, .int x2), (3, .int x3)]) hx hb dX3_reached_49 hl (k := 5) rfl rfl (by decide) rfl (fun ls hl => ?_)
      refine lv_goto (tgt := 5) hx hb dX3_reached_52 (by decide) ?_
      exact hk5 x0 x1 x2 x3 (x4 + 1) hm _ _ _ hw (lv_sub hl [2, 3, 4, 5, 0] rfl)
    · have hl : lv_has ls 6 [(5, .ref (B + u3)), (0, .ref (B + x0)), (1, .ref (B + x1)), (2, .int x2), (3, .int x3), (4, .int x4)] := hl
      have hm := dp_om_s hm
      refine lv_ifnull hx hb dX3_reached_24 ?_
      refine lv_aload hx hb dX3_reached_27 (lv_at hl 0 rfl) ?_
      refine lv_aload_n hx hb dX3_reached_29 rfl (lv_at hl 2 rfl) ?_
      refine lv_aload_n hx hb dX3_reached_30 rfl (lv_at hl 2 rfl) ?_
      obtain ⟨v4, ev4, hm⟩ := dp_ob hm
      refine dp_cV (As := []) (rest := [.ref (B + x1), .ref (B + u3)]) X hw (c_X5_size l D a B h x1 ev4) vm_X5_size ml_X3_30 (by decide) rfl rfl (ck_X5_size ev4) rfl rfl hl.1 rfl (Nat.le_of_ble_eq_true rfl) dX3_reached_31 ⟨(Nat.zero_le _), (Nat.zero_le _)⟩ (fun H locs hw => ?_)
      obtain ⟨v5, ev5, hm⟩ := dp_ob hm
      refine dp_cV (As := [.ref (B + x1), .int v4]) (rest := []) X hw (c_X1_reach l D a B h u3 x1 v4 ev5) vm_X1_reach ml_X3_35 (by decide) rfl rfl (ck_X1_reach ev5) rfl rfl hl.1 rfl (Nat.le_of_ble_eq_true rfl) dX3_reached_34 ⟨(Nat.zero_le _), (Nat.zero_le _)⟩ (fun H locs hw => ?_)
      refine lv_iload_n hx hb dX3_reached_37 rfl (lv_at hl 3 rfl) ?_
      refine lv_iand hx hb dX3_reached_38 ?_
      refine lv_if_eq (tgt := 49) hx hb dX3_reached_39 (by decide) (fun hc => ?_) (fun hc => ?_)
      · have hm := dp_ip hc hm
        refine lv_iinc (v := (x4 + 1)) (lv' := [(4, .int (x4 + 1)), (5, .ref (B + u3)), (0, .ref (B + x0)), (1, .ref (B + x1)), (2, .int x2), (3, .int x3)]) hx hb dX3_reached_49 hl (k := 5) rfl rfl (by decide) rfl (fun ls hl => ?_)
        refine lv_goto (tgt := 5) hx hb dX3_reached_52 (by decide) ?_
        exact hk5 x0 x1 x2 x3 (x4 + 1) hm _ _ _ hw (lv_sub hl [2, 3, 4, 5, 0] rfl)
      · have hm := dp_in hc hm
        refine lv_iload_n hx hb dX3_reached_42 rfl (lv_at hl 4 rfl) ?_
        refine lv_iconst (v := 1) hx hb dX3_reached_43 (by decide) ?_
        refine lv_iload hx hb dX3_reached_44 (lv_at hl 5 rfl) ?_
        refine lv_ishl hx hb dX3_reached_46 ?_
        refine lv_ior hx hb dX3_reached_47 ?_
        refine lv_istore_n (lv' := [(3, .int (x3 ||| (1 <<< (x4 &&& 31)))), (5, .ref (B + u3)), (0, .ref (B + x0)), (1, .ref (B + x1)), (2, .int x2), (4, .int x4)]) hx hb dX3_reached_48 rfl hl (by decide) rfl (fun ls hl => ?_)
        refine lv_iinc (v := (x4 + 1)) (lv' := [(4, .int (x4 + 1)), (3, .int (x3 ||| (1 <<< (x4 &&& 31)))), (5, .ref (B + u3)), (0, .ref (B + x0)), (1, .ref (B + x1)), (2, .int x2)]) hx hb dX3_reached_49 hl (k := 5) rfl rfl (by decide) rfl (fun ls hl => ?_)
        refine lv_goto (tgt := 5) hx hb dX3_reached_52 (by decide) ?_
        exact hk5 x0 x1 x2 (x3 ||| (1 <<< (x4 &&& 31))) (x4 + 1) hm _ _ _ hw (lv_sub hl [3, 4, 5, 1, 0] rfl)
set_option maxRecDepth 100000 in
set_option maxHeartbeats 4000000 in
theorem w_X3_reached_5 {p : Program} {l : Launch} {e : Env} {s : State} {m : MethodId} {args : Array Value} {below : List Frame} {meth : Method} {c : Code} {D : va_G} {a : dp_A} {B : Nat} (X : dp_X p s m meth c cX3_reached 6 RX3 D a B) (hr : meth.sig.returnType = (some .int)) {h : dp_H} {r : Int32}  : ∀ (n : Nat) (x0 : Nat) (x1 : Nat) (x2 : Int32) (x3 : Int32) (x4 : Int32), m_X3_reached_5 h  n x0 x1 x2 x3 x4 = some r → ∀ (H : Heap) (locs : List Loc) (ls : Array Slot), dp_w D a B h s.heap H locs → lv_has ls 6 [(0, .ref (B + x0)), (1, .ref (B + x1)), (2, .int x2), (3, .int x3), (4, .int x4)] → W p l e rm_X3_reached s m args below meth c H locs 0 0 (MQ below (dp_Q D a B (some (.int r)) h) args s rm_X3_reached.cells rm_X3_reached.slots (fun q => B ≤ q)) (F0 m 5 ls []) := by
  intro n
  induction n with
  | zero => intro x0 x1 x2 x3 x4 hm; cases hm
  | succ n ih => intro x0 x1 x2 x3 x4 hm; exact v_X3_reached_5 X hr ih x0 x1 x2 x3 x4 hm
theorem ck_X3_reached {h : dp_H} {x0 : Nat} {x1 : Nat} {x2 : Int32} {r : Int32} (hm : m_X3_reached h x0 x1 x2 = some r) : dp_is h x0 3 = true := (dp_ck_e hm).1
set_option maxRecDepth 100000 in
set_option maxHeartbeats 4000000 in
theorem c_X3_reached (l : Launch) (D : va_G) (a : dp_A) (B : Nat) (h : dp_H) (x0 : Nat) (x1 : Nat) (x2 : Int32) {r : Int32} (hm : m_X3_reached h x0 x1 x2 = some r) : dp_M l D a B yX3_reached cX3_reached 6 (some .int) rm_X3_reached [.ref (B + x0), .ref (B + x1), .int x2] h (some (.int r)) h := by
  refine dp_M.of (own := RX3) (nm := "reached") (by decide) rfl rfl (Nat.le_of_ble_eq_true rfl) ?_
  intro p e s m below meth c ls X hr hin hw hl
  have hl : lv_has ls 6 [(0, .ref (B + x0)), (1, .ref (B + x1)), (2, .int x2)] := hl
  obtain ⟨hx, hb, hml, hown, hlk, hK, hB⟩ := id X
  unfold m_X3_reached at hm
  obtain ⟨hck, hm⟩ := dp_ck_e hm
  refine lv_iconst (v := 0) hx hb dX3_reached_0 (by decide) ?_
  refine lv_istore_n (lv' := [(3, .int 0), (0, .ref (B + x0)), (1, .ref (B + x1)), (2, .int x2)]) hx hb dX3_reached_1 rfl hl (by decide) rfl (fun ls hl => ?_)
  refine lv_iconst (v := 0) hx hb dX3_reached_2 (by decide) ?_
  refine lv_istore (lv' := [(4, .int 0), (3, .int 0), (0, .ref (B + x0)), (1, .ref (B + x1)), (2, .int x2)]) hx hb dX3_reached_3 hl (by decide) rfl (fun ls hl => ?_)
  exact w_X3_reached_5 X hr 64 x0 x1 x2 0 0 hm _ _ _ hw (lv_sub hl [2, 3, 4, 1, 0] rfl)
theorem ck_X0_currentStage {h : dp_H} {x0 : Nat} {x1 : Nat} {r : Int32} (hm : m_X0_currentStage h x0 x1 = some r) : dp_is h x0 0 = true := (dp_ck_e hm).1
set_option maxRecDepth 100000 in
set_option maxHeartbeats 4000000 in
theorem c_X0_currentStage (l : Launch) (D : va_G) (a : dp_A) (B : Nat) (h : dp_H) (x0 : Nat) (x1 : Nat) {r : Int32} (hm : m_X0_currentStage h x0 x1 = some r) : dp_M l D a B yX0_currentStage cX0_currentStage 2 (some .int) rm_X0_currentStage [.ref (B + x0), .ref (B + x1)] h (some (.int r)) h := by
  refine dp_M.of (own := RX0) (nm := "currentStage") (by decide) rfl rfl (Nat.le_of_ble_eq_true rfl) ?_
  intro p e s m below meth c ls X hr hin hw hl
  have hl : lv_has ls 2 [(0, .ref (B + x0)), (1, .ref (B + x1))] := hl
  obtain ⟨hx, hb, hml, hown, hlk, hK, hB⟩ := id X
  unfold m_X0_currentStage at hm
  obtain ⟨hck, hm⟩ := dp_ck_e hm
  refine lv_aload_n hx hb dX0_currentStage_0 rfl (lv_at hl 0 rfl) ?_
  obtain ⟨v1, ev1, hm⟩ := dp_ob hm
  refine dp_getr X hw cl_X0 0 (by decide) fl_X0_14 ev1 dX0_currentStage_1 ?_
  obtain ⟨v2, ev2, hm⟩ := dp_ob hm
  refine dp_cV (As := []) (rest := []) X hw (c_X5_size l D a B h v1 ev2) vm_X5_size ml_X0_46 (by decide) rfl rfl (ck_X5_size ev2) rfl rfl hl.1 rfl (Nat.le_of_ble_eq_true rfl) dX0_currentStage_4 ⟨(Nat.zero_le _), (Nat.zero_le _)⟩ (fun H locs hw => ?_)
  refine lv_if_ne (tgt := 12) hx hb dX0_currentStage_7 (by decide) (fun hc => ?_) (fun hc => ?_)
  · have hm := dp_in hc hm
    refine lv_aload_n hx hb dX0_currentStage_12 rfl (lv_at hl 1 rfl) ?_
    refine lv_aload_n hx hb dX0_currentStage_13 rfl (lv_at hl 0 rfl) ?_
    obtain ⟨v3, ev3, hm⟩ := dp_ob hm
    refine dp_getr X hw cl_X0 0 (by decide) fl_X0_14 ev3 dX0_currentStage_14 ?_
    refine lv_iconst (v := 1) hx hb dX0_currentStage_17 (by decide) ?_
    obtain ⟨v4, ev4, hm⟩ := dp_ob hm
    refine dp_cV (As := [.ref (B + v3), .int 1]) (rest := []) X hw (c_X3_reached l D a B h x1 v3 1 ev4) vm_X3_reached ml_X0_52 (by decide) rfl rfl (ck_X3_reached ev4) rfl rfl hl.1 rfl (Nat.le_of_ble_eq_true rfl) dX0_currentStage_18 ⟨(Nat.zero_le _), (Nat.zero_le _)⟩ (fun H locs hw => ?_)
    refine lv_if_ne (tgt := 28) hx hb dX0_currentStage_21 (by decide) (fun hc => ?_) (fun hc => ?_)
    · have hm := dp_in hc hm
      refine lv_iconst (v := 2) hx hb dX0_currentStage_28 (by decide) ?_
      cases hm
      exact dp_iret X hr hw dX0_currentStage_29
    · have hm := dp_ip hc hm
      refine lv_iconst (v := 1) hx hb dX0_currentStage_24 (by decide) ?_
      refine lv_goto (tgt := 29) hx hb dX0_currentStage_25 (by decide) ?_
      cases hm
      exact dp_iret X hr hw dX0_currentStage_29
  · have hm := dp_ip hc hm
    refine lv_iconst (v := 0) hx hb dX0_currentStage_10 (by decide) ?_
    cases hm
    exact dp_iret X hr hw dX0_currentStage_11
theorem ck_X1_way {h : dp_H} {x0 : Nat} {r : Int32} (hm : m_X1_way h x0 = some r) : dp_is h x0 1 = true := (dp_ck_e hm).1
set_option maxRecDepth 100000 in
set_option maxHeartbeats 4000000 in
theorem c_X1_way (l : Launch) (D : va_G) (a : dp_A) (B : Nat) (h : dp_H) (x0 : Nat) {r : Int32} (hm : m_X1_way h x0 = some r) : dp_M l D a B yX1_way cX1_way 1 (some .int) rm_X1_way [.ref (B + x0)] h (some (.int r)) h := by
  refine dp_M.of (own := RX1) (nm := "way") (by decide) rfl rfl (Nat.le_of_ble_eq_true rfl) ?_
  intro p e s m below meth c ls X hr hin hw hl
  have hl : lv_has ls 1 [(0, .ref (B + x0))] := hl
  obtain ⟨hx, hb, hml, hown, hlk, hK, hB⟩ := id X
  unfold m_X1_way at hm
  obtain ⟨hck, hm⟩ := dp_ck_e hm
  refine lv_aload_n hx hb dX1_way_0 rfl (lv_at hl 0 rfl) ?_
  obtain ⟨v1, ev1, hm⟩ := dp_ob hm
  refine dp_geti X hw cl_X1 5 (by decide) fl_X1_35 ev1 dX1_way_1 ?_
  cases hm
  exact dp_iret X hr hw dX1_way_4
set_option maxRecDepth 100000 in
set_option maxHeartbeats 4000000 in
theorem v_X1_isNarrowerThan_2 {p : Program} {l : Launch} {e : Env} {s : State} {m : MethodId} {args : Array Value} {below : List Frame} {meth : Method} {c : Code} {D : va_G} {a : dp_A} {B : Nat} (X : dp_X p s m meth c cX1_isNarrowerThan 3 RX1 D a B) (hr : meth.sig.returnType = (some .boolean)) {h : dp_H} {r : Int32} {k2 : Nat → Nat → Int32 → Option Int32} (hk2 : ∀ (x0 : Nat) (x1 : Nat) (x2 : Int32), k2 x0 x1 x2 = some r → ∀ (H : Heap) (locs : List Loc) (ls : Array Slot), dp_w D a B h s.heap H locs → lv_has ls 3 [(0, .ref (B + x0)), (1, .ref (B + x1)), (2, .int x2)] → W p l e rm_X1_isNarrowerThan s m args below meth c H locs 0 0 (MQ below (dp_Q D a B (some (.int r)) h) args s rm_X1_isNarrowerThan.cells rm_X1_isNarrowerThan.slots (fun q => B ≤ q)) (F0 m 2 ls [])) : ∀ (x0 : Nat) (x1 : Nat) (x2 : Int32), b_X1_isNarrowerThan_2 h k2 x0 x1 x2 = some r → ∀ (H : Heap) (locs : List Loc) (ls : Array Slot), dp_w D a B h s.heap H locs → lv_has ls 3 [(0, .ref (B + x0)), (1, .ref (B + x1)), (2, .int x2)] → W p l e rm_X1_isNarrowerThan s m args below meth c H locs 0 0 (MQ below (dp_Q D a B (some (.int r)) h) args s rm_X1_isNarrowerThan.cells rm_X1_isNarrowerThan.slots (fun q => B ≤ q)) (F0 m 2 ls []) := by
  intro x0 x1 x2 hm H locs ls hw hl
  obtain ⟨hx, hb, hml, hown, hlk, hK, hB⟩ := id X
  unfold b_X1_isNarrowerThan_2 at hm
  refine lv_iload_n hx hb dX1_isNarrowerThan_2 rfl (lv_at hl 2 rfl) ?_
  refine lv_aload_n hx hb dX1_isNarrowerThan_3 rfl (lv_at hl 0 rfl) ?_
  obtain ⟨v1, ev1, hm⟩ := dp_ob hm
  refine dp_getr X hw cl_X1 1 (by decide) fl_X1_15 ev1 dX1_isNarrowerThan_4 ?_
  obtain ⟨v2, ev2, hm⟩ := dp_ob hm
  refine dp_alen X hw ev2 dX1_isNarrowerThan_7 ?_
  refine lv_icmp_ge (tgt := 62) hx hb dX1_isNarrowerThan_8 (by decide) (fun hc => ?_) (fun hc => ?_)
  · have hm := dp_ip hc hm
    refine lv_iconst (v := 0) hx hb dX1_isNarrowerThan_62 (by decide) ?_
    cases hm
    exact dp_zret X hr hw (by decide) dX1_isNarrowerThan_63
  · have hm := dp_in hc hm
    refine lv_iload_n hx hb dX1_isNarrowerThan_11 rfl (lv_at hl 2 rfl) ?_
    refine lv_aload_n hx hb dX1_isNarrowerThan_12 rfl (lv_at hl 1 rfl) ?_
    obtain ⟨v3, ev3, hm⟩ := dp_ob hm
    refine dp_getr X hw cl_X1 1 (by decide) fl_X1_15 ev3 dX1_isNarrowerThan_13 ?_
    obtain ⟨v4, ev4, hm⟩ := dp_ob hm
    refine dp_alen X hw ev4 dX1_isNarrowerThan_16 ?_
    refine lv_icmp_ge (tgt := 62) hx hb dX1_isNarrowerThan_17 (by decide) (fun hc => ?_) (fun hc => ?_)
    · have hm := dp_ip hc hm
      refine lv_iconst (v := 0) hx hb dX1_isNarrowerThan_62 (by decide) ?_
      cases hm
      exact dp_zret X hr hw (by decide) dX1_isNarrowerThan_63
    · have hm := dp_in hc hm
      refine lv_aload_n hx hb dX1_isNarrowerThan_20 rfl (lv_at hl 0 rfl) ?_
      obtain ⟨v5, ev5, hm⟩ := dp_ob hm
      refine dp_getr X hw cl_X1 1 (by decide) fl_X1_15 ev5 dX1_isNarrowerThan_21 ?_
      refine lv_iload_n hx hb dX1_isNarrowerThan_24 rfl (lv_at hl 2 rfl) ?_
      obtain ⟨v6, ev6, hm⟩ := dp_ob hm
      refine dp_iald X hw ev6 dX1_isNarrowerThan_25 ?_
      refine lv_aload_n hx hb dX1_isNarrowerThan_26 rfl (lv_at hl 1 rfl) ?_
      obtain ⟨v7, ev7, hm⟩ := dp_ob hm
      refine dp_getr X hw cl_X1 1 (by decide) fl_X1_15 ev7 dX1_isNarrowerThan_27 ?_
      refine lv_iload_n hx hb dX1_isNarrowerThan_30 rfl (lv_at hl 2 rfl) ?_
      obtain ⟨v8, ev8, hm⟩ := dp_ob hm
      refine dp_iald X hw ev8 dX1_isNarrowerThan_31 ?_
      refine lv_icmp_eq (tgt := 56) hx hb dX1_isNarrowerThan_32 (by decide) (fun hc => ?_) (fun hc => ?_)
      · have hm := dp_ip hc hm
        refine lv_iinc (v := (x2 + 1)) (lv' := [(2, .int (x2 + 1)), (0, .ref (B + x0)), (1, .ref (B + x1))]) hx hb dX1_isNarrowerThan_56 hl (k := 2) rfl rfl (by decide) rfl (fun ls hl => ?_)
        refine lv_goto (tgt := 2) hx hb dX1_isNarrowerThan_59 (by decide) ?_
        exact hk2 x0 x1 (x2 + 1) hm _ _ _ hw (lv_sub hl [1, 2, 0] rfl)
      · have hm := dp_in hc hm
        refine lv_aload_n hx hb dX1_isNarrowerThan_35 rfl (lv_at hl 0 rfl) ?_
        obtain ⟨v9, ev9, hm⟩ := dp_ob hm
        refine dp_getr X hw cl_X1 1 (by decide) fl_X1_15 ev9 dX1_isNarrowerThan_36 ?_
        refine lv_iload_n hx hb dX1_isNarrowerThan_39 rfl (lv_at hl 2 rfl) ?_
        obtain ⟨v10, ev10, hm⟩ := dp_ob hm
        refine dp_iald X hw ev10 dX1_isNarrowerThan_40 ?_
        refine lv_aload_n hx hb dX1_isNarrowerThan_41 rfl (lv_at hl 1 rfl) ?_
        obtain ⟨v11, ev11, hm⟩ := dp_ob hm
        refine dp_getr X hw cl_X1 1 (by decide) fl_X1_15 ev11 dX1_isNarrowerThan_42 ?_
        refine lv_iload_n hx hb dX1_isNarrowerThan_45 rfl (lv_at hl 2 rfl) ?_
        obtain ⟨v12, ev12, hm⟩ := dp_ob hm
        refine dp_iald X hw ev12 dX1_isNarrowerThan_46 ?_
        refine lv_icmp_ge (tgt := 54) hx hb dX1_isNarrowerThan_47 (by decide) (fun hc => ?_) (fun hc => ?_)
        · have hm := dp_ip hc hm
          refine lv_iconst (v := 0) hx hb dX1_isNarrowerThan_54 (by decide) ?_
          cases hm
          exact dp_zret X hr hw (by decide) dX1_isNarrowerThan_55
        · have hm := dp_in hc hm
          refine lv_iconst (v := 1) hx hb dX1_isNarrowerThan_50 (by decide) ?_
          refine lv_goto (tgt := 55) hx hb dX1_isNarrowerThan_51 (by decide) ?_
          cases hm
          exact dp_zret X hr hw (by decide) dX1_isNarrowerThan_55
set_option maxRecDepth 100000 in
set_option maxHeartbeats 4000000 in
theorem w_X1_isNarrowerThan_2 {p : Program} {l : Launch} {e : Env} {s : State} {m : MethodId} {args : Array Value} {below : List Frame} {meth : Method} {c : Code} {D : va_G} {a : dp_A} {B : Nat} (X : dp_X p s m meth c cX1_isNarrowerThan 3 RX1 D a B) (hr : meth.sig.returnType = (some .boolean)) {h : dp_H} {r : Int32}  : ∀ (n : Nat) (x0 : Nat) (x1 : Nat) (x2 : Int32), m_X1_isNarrowerThan_2 h  n x0 x1 x2 = some r → ∀ (H : Heap) (locs : List Loc) (ls : Array Slot), dp_w D a B h s.heap H locs → lv_has ls 3 [(0, .ref (B + x0)), (1, .ref (B + x1)), (2, .int x2)] → W p l e rm_X1_isNarrowerThan s m args below meth c H locs 0 0 (MQ below (dp_Q D a B (some (.int r)) h) args s rm_X1_isNarrowerThan.cells rm_X1_isNarrowerThan.slots (fun q => B ≤ q)) (F0 m 2 ls []) := by
  intro n
  induction n with
  | zero => intro x0 x1 x2 hm; cases hm
  | succ n ih => intro x0 x1 x2 hm; exact v_X1_isNarrowerThan_2 X hr ih x0 x1 x2 hm
theorem ck_X1_isNarrowerThan {h : dp_H} {x0 : Nat} {x1 : Nat} {r : Int32} (hm : m_X1_isNarrowerThan h x0 x1 = some r) : dp_is h x0 1 = true := (dp_ck_e hm).1
set_option maxRecDepth 100000 in
set_option maxHeartbeats 4000000 in
theorem c_X1_isNarrowerThan (l : Launch) (D : va_G) (a : dp_A) (B : Nat) (h : dp_H) (x0 : Nat) (x1 : Nat) {r : Int32} (hm : m_X1_isNarrowerThan h x0 x1 = some r) : dp_M l D a B yX1_isNarrowerThan cX1_isNarrowerThan 3 (some .boolean) rm_X1_isNarrowerThan [.ref (B + x0), .ref (B + x1)] h (some (.int r)) h := by
  refine dp_M.of (own := RX1) (nm := "isNarrowerThan") (by decide) rfl rfl (Nat.le_of_ble_eq_true rfl) ?_
  intro p e s m below meth c ls X hr hin hw hl
  have hl : lv_has ls 3 [(0, .ref (B + x0)), (1, .ref (B + x1))] := hl
  obtain ⟨hx, hb, hml, hown, hlk, hK, hB⟩ := id X
  unfold m_X1_isNarrowerThan at hm
  obtain ⟨hck, hm⟩ := dp_ck_e hm
  refine lv_iconst (v := 0) hx hb dX1_isNarrowerThan_0 (by decide) ?_
  refine lv_istore_n (lv' := [(2, .int 0), (0, .ref (B + x0)), (1, .ref (B + x1))]) hx hb dX1_isNarrowerThan_1 rfl hl (by decide) rfl (fun ls hl => ?_)
  exact w_X1_isNarrowerThan_2 X hr 64 x0 x1 0 hm _ _ _ hw (lv_sub hl [1, 2, 0] rfl)
set_option maxRecDepth 100000 in
set_option maxHeartbeats 4000000 in
theorem v_X3_winner_44 {p : Program} {l : Launch} {e : Env} {s : State} {m : MethodId} {args : Array Value} {below : List Frame} {meth : Method} {c : Code} {D : va_G} {a : dp_A} {B : Nat} (X : dp_X p s m meth c cX3_winner 7 RX3 D a B) (hr : meth.sig.returnType = (some .int)) {h : dp_H} {r : Int32} {k8 : Nat → Nat → Int32 → Int32 → Option Nat → Int32 → Option Int32} (hk8 : ∀ (x0 : Nat) (x1 : Nat) (x2 : Int32) (x3 : Int32) (x4 : Option Nat) (x5 : Int32), k8 x0 x1 x2 x3 x4 x5 = some r → ∀ (H : Heap) (locs : List Loc) (ls : Array Slot), dp_w D a B h s.heap H locs → lv_has ls 7 [(0, .ref (B + x0)), (1, .ref (B + x1)), (2, .int x2), (3, .int x3), (4, dp_ro B x4), (5, .int x5)] → W p l e rm_X3_winner s m args below meth c H locs 0 0 (MQ below (dp_Q D a B (some (.int r)) h) args s rm_X3_winner.cells rm_X3_winner.slots (fun q => B ≤ q)) (F0 m 8 ls [])) : ∀ (x0 : Nat) (x1 : Nat) (x2 : Int32) (x3 : Int32) (x4 : Option Nat) (x5 : Int32) (x6 : Nat), b_X3_winner_44 h k8 x0 x1 x2 x3 x4 x5 x6 = some r → ∀ (H : Heap) (locs : List Loc) (ls : Array Slot), dp_w D a B h s.heap H locs → lv_has ls 7 [(0, .ref (B + x0)), (1, .ref (B + x1)), (2, .int x2), (3, .int x3), (4, dp_ro B x4), (5, .int x5), (6, .ref (B + x6))] → W p l e rm_X3_winner s m args below meth c H locs 0 0 (MQ below (dp_Q D a B (some (.int r)) h) args s rm_X3_winner.cells rm_X3_winner.slots (fun q => B ≤ q)) (F0 m 44 ls []) := by
  intro x0 x1 x2 x3 x4 x5 x6 hm H locs ls hw hl
  obtain ⟨hx, hb, hml, hown, hlk, hK, hB⟩ := id X
  unfold b_X3_winner_44 at hm
  refine lv_aload hx hb dX3_winner_44 (lv_at hl 6 rfl) ?_
  refine lv_aload_n hx hb dX3_winner_46 rfl (lv_at hl 1 rfl) ?_
  refine lv_aload_n hx hb dX3_winner_47 rfl (lv_at hl 1 rfl) ?_
  obtain ⟨v1, ev1, hm⟩ := dp_ob hm
  refine dp_cV (As := []) (rest := [.ref (B + x1), .ref (B + x6)]) X hw (c_X5_size l D a B h x1 ev1) vm_X5_size ml_X3_30 (by decide) rfl rfl (ck_X5_size ev1) rfl rfl hl.1 rfl (Nat.le_of_ble_eq_true rfl) dX3_winner_48 ⟨(Nat.zero_le _), (Nat.zero_le _)⟩ (fun H locs hw => ?_)
  obtain ⟨v2, ev2, hm⟩ := dp_ob hm
  refine dp_cV (As := [.ref (B + x1), .int v1]) (rest := []) X hw (c_X1_reach l D a B h x6 x1 v1 ev2) vm_X1_reach ml_X3_35 (by decide) rfl rfl (ck_X1_reach ev2) rfl rfl hl.1 rfl (Nat.le_of_ble_eq_true rfl) dX3_winner_51 ⟨(Nat.zero_le _), (Nat.zero_le _)⟩ (fun H locs hw => ?_)
  refine lv_iconst (v := 1) hx hb dX3_winner_54 (by decide) ?_
  refine lv_iand hx hb dX3_winner_55 ?_
  refine lv_if_ne (tgt := 62) hx hb dX3_winner_56 (by decide) (fun hc => ?_) (fun hc => ?_)
  · have hm := dp_in hc hm
    refine dp_aload (B := B) (o := x4) hx hb dX3_winner_62 (lv_at hl 4 rfl) ?_
    rcases x4 with _ | u3
    · have hl : lv_has ls 7 [(0, .ref (B + x0)), (1, .ref (B + x1)), (2, .int x2), (3, .int x3), (4, dp_ro B none), (5, .int x5), (6, .ref (B + x6))] := hl
      have hm := dp_om_n hm
      refine lv_ifnullN (tgt := 77) hx hb dX3_winner_64 (by decide) ?_
      refine lv_aload hx hb dX3_winner_77 (lv_at hl 6 rfl) ?_
      refine lv_astore (lv' := [(4, .ref (B + x6)), (0, .ref (B + x0)), (1, .ref (B + x1)), (2, .int x2), (3, .int x3), (5, .int x5), (6, .ref (B + x6))]) hx hb dX3_winner_79 hl (by decide) rfl (fun ls hl => ?_)
      refine lv_iload hx hb dX3_winner_81 (lv_at hl 5 rfl) ?_
      refine lv_istore_n (lv' := [(3, .int x5), (4, .ref (B + x6)), (0, .ref (B + x0)), (1, .ref (B + x1)), (2, .int x2), (5, .int x5), (6, .ref (B + x6))]) hx hb dX3_winner_83 rfl hl (by decide) rfl (fun ls hl => ?_)
      refine lv_iinc (v := (x5 + 1)) (lv' := [(5, .int (x5 + 1)), (3, .int x5), (4, .ref (B + x6)), (0, .ref (B + x0)), (1, .ref (B + x1)), (2, .int x2), (6, .ref (B + x6))]) hx hb dX3_winner_84 hl (k := 5) rfl rfl (by decide) rfl (fun ls hl => ?_)
      refine lv_goto (tgt := 8) hx hb dX3_winner_87 (by decide) ?_
      exact hk8 x0 x1 x2 x5 (some x6) (x5 + 1) hm _ _ _ hw (lv_sub hl [3, 4, 5, 1, 2, 0] rfl)
    · have hl : lv_has ls 7 [(0, .ref (B + x0)), (1, .ref (B + x1)), (2, .int x2), (3, .int x3), (4, .ref (B + u3)), (5, .int x5), (6, .ref (B + x6))] := hl
      have hm := dp_om_s hm
      refine lv_ifnull hx hb dX3_winner_64 ?_
      refine lv_aload hx hb dX3_winner_67 (lv_at hl 6 rfl) ?_
      refine lv_aload hx hb dX3_winner_69 (lv_at hl 4 rfl) ?_
      obtain ⟨v4, ev4, hm⟩ := dp_ob hm
      refine dp_cV (As := [.ref (B + u3)]) (rest := []) X hw (c_X1_isNarrowerThan l D a B h x6 u3 ev4) vm_X1_isNarrowerThan ml_X3_42 (by decide) rfl rfl (ck_X1_isNarrowerThan ev4) rfl rfl hl.1 rfl (Nat.le_of_ble_eq_true rfl) dX3_winner_71 ⟨(Nat.zero_le _), (Nat.zero_le _)⟩ (fun H locs hw => ?_)
      refine lv_if_eq (tgt := 84) hx hb dX3_winner_74 (by decide) (fun hc => ?_) (fun hc => ?_)
      · have hm := dp_ip hc hm
        refine lv_iinc (v := (x5 + 1)) (lv' := [(5, .int (x5 + 1)), (0, .ref (B + x0)), (1, .ref (B + x1)), (2, .int x2), (3, .int x3), (4, .ref (B + u3)), (6, .ref (B + x6))]) hx hb dX3_winner_84 hl (k := 5) rfl rfl (by decide) rfl (fun ls hl => ?_)
        refine lv_goto (tgt := 8) hx hb dX3_winner_87 (by decide) ?_
        exact hk8 x0 x1 x2 x3 (some u3) (x5 + 1) hm _ _ _ hw (lv_sub hl [1, 2, 3, 4, 5, 0] rfl)
      · have hm := dp_in hc hm
        refine lv_aload hx hb dX3_winner_77 (lv_at hl 6 rfl) ?_
        refine lv_astore (lv' := [(4, .ref (B + x6)), (0, .ref (B + x0)), (1, .ref (B + x1)), (2, .int x2), (3, .int x3), (5, .int x5), (6, .ref (B + x6))]) hx hb dX3_winner_79 hl (by decide) rfl (fun ls hl => ?_)
        refine lv_iload hx hb dX3_winner_81 (lv_at hl 5 rfl) ?_
        refine lv_istore_n (lv' := [(3, .int x5), (4, .ref (B + x6)), (0, .ref (B + x0)), (1, .ref (B + x1)), (2, .int x2), (5, .int x5), (6, .ref (B + x6))]) hx hb dX3_winner_83 rfl hl (by decide) rfl (fun ls hl => ?_)
        refine lv_iinc (v := (x5 + 1)) (lv' := [(5, .int (x5 + 1)), (3, .int x5), (4, .ref (B + x6)), (0, .ref (B + x0)), (1, .ref (B + x1)), (2, .int x2), (6, .ref (B + x6))]) hx hb dX3_winner_84 hl (k := 5) rfl rfl (by decide) rfl (fun ls hl => ?_)
        refine lv_goto (tgt := 8) hx hb dX3_winner_87 (by decide) ?_
        exact hk8 x0 x1 x2 x5 (some x6) (x5 + 1) hm _ _ _ hw (lv_sub hl [3, 4, 5, 1, 2, 0] rfl)
  · have hm := dp_ip hc hm
    refine lv_goto (tgt := 84) hx hb dX3_winner_59 (by decide) ?_
    refine lv_iinc (v := (x5 + 1)) (lv' := [(5, .int (x5 + 1)), (0, .ref (B + x0)), (1, .ref (B + x1)), (2, .int x2), (3, .int x3), (4, dp_ro B x4), (6, .ref (B + x6))]) hx hb dX3_winner_84 hl (k := 5) rfl rfl (by decide) (by rcases x4 with _ | _ <;> rfl) (fun ls hl => ?_)
    refine lv_goto (tgt := 8) hx hb dX3_winner_87 (by decide) ?_
    exact hk8 x0 x1 x2 x3 x4 (x5 + 1) hm _ _ _ hw (lv_sub hl [1, 2, 3, 4, 5, 0] rfl)
set_option maxRecDepth 100000 in
set_option maxHeartbeats 4000000 in
theorem v_X3_winner_8 {p : Program} {l : Launch} {e : Env} {s : State} {m : MethodId} {args : Array Value} {below : List Frame} {meth : Method} {c : Code} {D : va_G} {a : dp_A} {B : Nat} (X : dp_X p s m meth c cX3_winner 7 RX3 D a B) (hr : meth.sig.returnType = (some .int)) {h : dp_H} {r : Int32} {k8 : Nat → Nat → Int32 → Int32 → Option Nat → Int32 → Option Int32} (hk8 : ∀ (x0 : Nat) (x1 : Nat) (x2 : Int32) (x3 : Int32) (x4 : Option Nat) (x5 : Int32), k8 x0 x1 x2 x3 x4 x5 = some r → ∀ (H : Heap) (locs : List Loc) (ls : Array Slot), dp_w D a B h s.heap H locs → lv_has ls 7 [(0, .ref (B + x0)), (1, .ref (B + x1)), (2, .int x2), (3, .int x3), (4, dp_ro B x4), (5, .int x5)] → W p l e rm_X3_winner s m args below meth c H locs 0 0 (MQ below (dp_Q D a B (some (.int r)) h) args s rm_X3_winner.cells rm_X3_winner.slots (fun q => B ≤ q)) (F0 m 8 ls [])) : ∀ (x0 : Nat) (x1 : Nat) (x2 : Int32) (x3 : Int32) (x4 : Option Nat) (x5 : Int32), b_X3_winner_8 h k8 x0 x1 x2 x3 x4 x5 = some r → ∀ (H : Heap) (locs : List Loc) (ls : Array Slot), dp_w D a B h s.heap H locs → lv_has ls 7 [(0, .ref (B + x0)), (1, .ref (B + x1)), (2, .int x2), (3, .int x3), (4, dp_ro B x4), (5, .int x5)] → W p l e rm_X3_winner s m args below meth c H locs 0 0 (MQ below (dp_Q D a B (some (.int r)) h) args s rm_X3_winner.cells rm_X3_winner.slots (fun q => B ≤ q)) (F0 m 8 ls []) := by
  intro x0 x1 x2 x3 x4 x5 hm H locs ls hw hl
  obtain ⟨hx, hb, hml, hown, hlk, hK, hB⟩ := id X
  unfold b_X3_winner_8 at hm
  refine lv_iload hx hb dX3_winner_8 (lv_at hl 5 rfl) ?_
  refine lv_aload_n hx hb dX3_winner_10 rfl (lv_at hl 0 rfl) ?_
  obtain ⟨v1, ev1, hm⟩ := dp_ob hm
  refine dp_geti X hw cl_X3 1 (by decide) fl_X3_18 ev1 dX3_winner_11 ?_
  refine lv_icmp_ge (tgt := 90) hx hb dX3_winner_14 (by decide) (fun hc => ?_) (fun hc => ?_)
  · have hm := dp_ip hc hm
    refine lv_iload_n hx hb dX3_winner_90 rfl (lv_at hl 3 rfl) ?_
    cases hm
    exact dp_iret X hr hw dX3_winner_91
  · have hm := dp_in hc hm
    refine lv_aload_n hx hb dX3_winner_17 rfl (lv_at hl 0 rfl) ?_
    refine lv_iload hx hb dX3_winner_18 (lv_at hl 5 rfl) ?_
    obtain ⟨v2, ev2, hm⟩ := dp_ob hm
    refine dp_cV (As := [.int x5]) (rest := []) X hw (c_X3_at l D a B h x0 x5 ev2) vm_X3_at ml_X3_26 (by decide) rfl rfl (ck_X3_at ev2) rfl rfl hl.1 rfl (Nat.le_of_ble_eq_true rfl) dX3_winner_20 ⟨(Nat.zero_le _), (Nat.zero_le _)⟩ (fun H locs hw => ?_)
    refine dp_astore (B := B) (o := v2) (lv' := [(6, dp_ro B v2), (0, .ref (B + x0)), (1, .ref (B + x1)), (2, .int x2), (3, .int x3), (4, dp_ro B x4), (5, .int x5)]) hx hb dX3_winner_23 hl (by decide) rfl (fun ls hl => ?_)
    refine dp_aload (B := B) (o := v2) hx hb dX3_winner_25 (lv_at hl 0 rfl) ?_
    rcases v2 with _ | u3
    · have hl : lv_has ls 7 [(6, dp_ro B none), (0, .ref (B + x0)), (1, .ref (B + x1)), (2, .int x2), (3, .int x3), (4, dp_ro B x4), (5, .int x5)] := hl
      have hm := dp_om_n hm
      refine lv_ifnullN (tgt := 84) hx hb dX3_winner_27 (by decide) ?_
      refine lv_iinc (v := (x5 + 1)) (lv' := [(5, .int (x5 + 1)), (6, dp_ro B none), (0, .ref (B + x0)), (1, .ref (B + x1)), (2, .int x2), (3, .int x3), (4, dp_ro B x4)]) hx hb dX3_winner_84 hl (k := 6) rfl rfl (by decide) (by rcases x4 with _ | _ <;> rfl) (fun ls hl => ?_)
      refine lv_goto (tgt := 8) hx hb dX3_winner_87 (by decide) ?_
      exact hk8 x0 x1 x2 x3 x4 (x5 + 1) hm _ _ _ hw (lv_sub hl [2, 3, 4, 5, 6, 0] rfl)
    · have hl : lv_has ls 7 [(6, .ref (B + u3)), (0, .ref (B + x0)), (1, .ref (B + x1)), (2, .int x2), (3, .int x3), (4, dp_ro B x4), (5, .int x5)] := hl
      have hm := dp_om_s hm
      refine lv_ifnull hx hb dX3_winner_27 ?_
      refine lv_iload_n hx hb dX3_winner_30 rfl (lv_at hl 3 rfl) ?_
      refine lv_if_eq (tgt := 44) hx hb dX3_winner_31 (by decide) (fun hc => ?_) (fun hc => ?_)
      · have hm := dp_ip hc hm
        exact v_X3_winner_44 X hr hk8 x0 x1 x2 x3 x4 x5 u3 hm _ _ _ hw (lv_sub hl [1, 2, 3, 4, 5, 6, 0] rfl)
      · have hm := dp_in hc hm
        refine lv_aload hx hb dX3_winner_34 (lv_at hl 0 rfl) ?_
        obtain ⟨v4, ev4, hm⟩ := dp_ob hm
        refine dp_cV (As := []) (rest := []) X hw (c_X1_way l D a B h u3 ev4) vm_X1_way ml_X3_39 (by decide) rfl rfl (ck_X1_way ev4) rfl rfl hl.1 rfl (Nat.le_of_ble_eq_true rfl) dX3_winner_36 ⟨(Nat.zero_le _), (Nat.zero_le _)⟩ (fun H locs hw => ?_)
        refine lv_bipush (v := 9) hx hb dX3_winner_39 (by decide) ?_
        refine lv_icmp_ne (tgt := 84) hx hb dX3_winner_41 (by decide) (fun hc => ?_) (fun hc => ?_)
        · have hm := dp_in hc hm
          refine lv_iinc (v := (x5 + 1)) (lv' := [(5, .int (x5 + 1)), (6, .ref (B + u3)), (0, .ref (B + x0)), (1, .ref (B + x1)), (2, .int x2), (3, .int x3), (4, dp_ro B x4)]) hx hb dX3_winner_84 hl (k := 6) rfl rfl (by decide) (by rcases x4 with _ | _ <;> rfl) (fun ls hl => ?_)
          refine lv_goto (tgt := 8) hx hb dX3_winner_87 (by decide) ?_
          exact hk8 x0 x1 x2 x3 x4 (x5 + 1) hm _ _ _ hw (lv_sub hl [2, 3, 4, 5, 6, 0] rfl)
        · have hm := dp_ip hc hm
          exact v_X3_winner_44 X hr hk8 x0 x1 x2 x3 x4 x5 u3 hm _ _ _ hw (lv_sub hl [1, 2, 3, 4, 5, 6, 0] rfl)
set_option maxRecDepth 100000 in
set_option maxHeartbeats 4000000 in
theorem w_X3_winner_8 {p : Program} {l : Launch} {e : Env} {s : State} {m : MethodId} {args : Array Value} {below : List Frame} {meth : Method} {c : Code} {D : va_G} {a : dp_A} {B : Nat} (X : dp_X p s m meth c cX3_winner 7 RX3 D a B) (hr : meth.sig.returnType = (some .int)) {h : dp_H} {r : Int32}  : ∀ (n : Nat) (x0 : Nat) (x1 : Nat) (x2 : Int32) (x3 : Int32) (x4 : Option Nat) (x5 : Int32), m_X3_winner_8 h  n x0 x1 x2 x3 x4 x5 = some r → ∀ (H : Heap) (locs : List Loc) (ls : Array Slot), dp_w D a B h s.heap H locs → lv_has ls 7 [(0, .ref (B + x0)), (1, .ref (B + x1)), (2, .int x2), (3, .int x3), (4, dp_ro B x4), (5, .int x5)] → W p l e rm_X3_winner s m args below meth c H locs 0 0 (MQ below (dp_Q D a B (some (.int r)) h) args s rm_X3_winner.cells rm_X3_winner.slots (fun q => B ≤ q)) (F0 m 8 ls []) := by
  intro n
  induction n with
  | zero => intro x0 x1 x2 x3 x4 x5 hm; cases hm
  | succ n ih => intro x0 x1 x2 x3 x4 x5 hm; exact v_X3_winner_8 X hr ih x0 x1 x2 x3 x4 x5 hm
theorem ck_X3_winner {h : dp_H} {x0 : Nat} {x1 : Nat} {x2 : Int32} {r : Int32} (hm : m_X3_winner h x0 x1 x2 = some r) : dp_is h x0 3 = true := (dp_ck_e hm).1
set_option maxRecDepth 100000 in
set_option maxHeartbeats 4000000 in
theorem c_X3_winner (l : Launch) (D : va_G) (a : dp_A) (B : Nat) (h : dp_H) (x0 : Nat) (x1 : Nat) (x2 : Int32) {r : Int32} (hm : m_X3_winner h x0 x1 x2 = some r) : dp_M l D a B yX3_winner cX3_winner 7 (some .int) rm_X3_winner [.ref (B + x0), .ref (B + x1), .int x2] h (some (.int r)) h := by
  refine dp_M.of (own := RX3) (nm := "winner") (by decide) rfl rfl (Nat.le_of_ble_eq_true rfl) ?_
  intro p e s m below meth c ls X hr hin hw hl
  have hl : lv_has ls 7 [(0, .ref (B + x0)), (1, .ref (B + x1)), (2, .int x2)] := hl
  obtain ⟨hx, hb, hml, hown, hlk, hK, hB⟩ := id X
  unfold m_X3_winner at hm
  obtain ⟨hck, hm⟩ := dp_ck_e hm
  refine lv_iconst (v := (-1)) hx hb dX3_winner_0 (by decide) ?_
  refine lv_istore_n (lv' := [(3, .int (-1)), (0, .ref (B + x0)), (1, .ref (B + x1)), (2, .int x2)]) hx hb dX3_winner_1 rfl hl (by decide) rfl (fun ls hl => ?_)
  refine lv_null hx hb dX3_winner_2 ?_
  refine dp_astore (B := B) (o := none) (lv' := [(4, dp_ro B none), (3, .int (-1)), (0, .ref (B + x0)), (1, .ref (B + x1)), (2, .int x2)]) hx hb dX3_winner_3 hl (by decide) rfl (fun ls hl => ?_)
  refine lv_iconst (v := 0) hx hb dX3_winner_5 (by decide) ?_
  refine lv_istore (lv' := [(5, .int 0), (4, dp_ro B none), (3, .int (-1)), (0, .ref (B + x0)), (1, .ref (B + x1)), (2, .int x2)]) hx hb dX3_winner_6 hl (by decide) rfl (fun ls hl => ?_)
  exact w_X3_winner_8 X hr 64 x0 x1 x2 (-1) none 0 hm _ _ _ hw (lv_sub hl [3, 4, 5, 2, 1, 0] rfl)
theorem ck_X0_winner {h : dp_H} {x0 : Nat} {x1 : Nat} {r : Int32} (hm : m_X0_winner h x0 x1 = some r) : dp_is h x0 0 = true := (dp_ck_e hm).1
set_option maxRecDepth 100000 in
set_option maxHeartbeats 4000000 in
theorem c_X0_winner (l : Launch) (D : va_G) (a : dp_A) (B : Nat) (h : dp_H) (x0 : Nat) (x1 : Nat) {r : Int32} (hm : m_X0_winner h x0 x1 = some r) : dp_M l D a B yX0_winner cX0_winner 2 (some .int) rm_X0_winner [.ref (B + x0), .ref (B + x1)] h (some (.int r)) h := by
  refine dp_M.of (own := RX0) (nm := "winner") (by decide) rfl rfl (Nat.le_of_ble_eq_true rfl) ?_
  intro p e s m below meth c ls X hr hin hw hl
  have hl : lv_has ls 2 [(0, .ref (B + x0)), (1, .ref (B + x1))] := hl
  obtain ⟨hx, hb, hml, hown, hlk, hK, hB⟩ := id X
  unfold m_X0_winner at hm
  obtain ⟨hck, hm⟩ := dp_ck_e hm
  refine lv_aload_n hx hb dX0_winner_0 rfl (lv_at hl 0 rfl) ?_
  obtain ⟨v1, ev1, hm⟩ := dp_ob hm
  refine dp_geti X hw cl_X0 2 (by decide) fl_X0_24 ev1 dX0_winner_1 ?_
  refine lv_iconst (v := 2) hx hb dX0_winner_4 (by decide) ?_
  refine lv_icmp_ne (tgt := 32) hx hb dX0_winner_5 (by decide) (fun hc => ?_) (fun hc => ?_)
  · have hm := dp_in hc hm
    refine lv_iconst (v := (-1)) hx hb dX0_winner_32 (by decide) ?_
    cases hm
    exact dp_iret X hr hw dX0_winner_33
  · have hm := dp_ip hc hm
    refine lv_aload_n hx hb dX0_winner_8 rfl (lv_at hl 1 rfl) ?_
    refine lv_aload_n hx hb dX0_winner_9 rfl (lv_at hl 0 rfl) ?_
    obtain ⟨v2, ev2, hm⟩ := dp_ob hm
    refine dp_getr X hw cl_X0 0 (by decide) fl_X0_14 ev2 dX0_winner_10 ?_
    refine lv_aload_n hx hb dX0_winner_13 rfl (lv_at hl 0 rfl) ?_
    obtain ⟨v3, ev3, hm⟩ := dp_ob hm
    refine dp_geti X hw cl_X0 3 (by decide) fl_X0_28 ev3 dX0_winner_14 ?_
    refine lv_iconst (v := 4) hx hb dX0_winner_17 (by decide) ?_
    refine lv_icmp_ne (tgt := 25) hx hb dX0_winner_18 (by decide) (fun hc => ?_) (fun hc => ?_)
    · have hm := dp_in hc hm
      refine lv_iconst (v := 0) hx hb dX0_winner_25 (by decide) ?_
      obtain ⟨v4, ev4, hm⟩ := dp_ob hm
      refine dp_cV (As := [.ref (B + v2), .int 0]) (rest := []) X hw (c_X3_winner l D a B h x1 v2 0 ev4) vm_X3_winner ml_X0_58 (by decide) rfl rfl (ck_X3_winner ev4) rfl rfl hl.1 rfl (Nat.le_of_ble_eq_true rfl) dX0_winner_26 ⟨(Nat.zero_le _), (Nat.zero_le _)⟩ (fun H locs hw => ?_)
      refine lv_goto (tgt := 33) hx hb dX0_winner_29 (by decide) ?_
      cases hm
      exact dp_iret X hr hw dX0_winner_33
    · have hm := dp_ip hc hm
      refine lv_iconst (v := 1) hx hb dX0_winner_21 (by decide) ?_
      refine lv_goto (tgt := 26) hx hb dX0_winner_22 (by decide) ?_
      obtain ⟨v5, ev5, hm⟩ := dp_ob hm
      refine dp_cV (As := [.ref (B + v2), .int 1]) (rest := []) X hw (c_X3_winner l D a B h x1 v2 1 ev5) vm_X3_winner ml_X0_58 (by decide) rfl rfl (ck_X3_winner ev5) rfl rfl hl.1 rfl (Nat.le_of_ble_eq_true rfl) dX0_winner_26 ⟨(Nat.zero_le _), (Nat.zero_le _)⟩ (fun H locs hw => ?_)
      refine lv_goto (tgt := 33) hx hb dX0_winner_29 (by decide) ?_
      cases hm
      exact dp_iret X hr hw dX0_winner_33
theorem ck_X0_goOnWaiting {h : dp_H} {x0 : Nat} {x1 : Nat} {h' : dp_H} (hm : m_X0_goOnWaiting h x0 x1 = some h') : dp_is h x0 0 = true := (dp_ck_e hm).1
set_option maxRecDepth 100000 in
set_option maxHeartbeats 4000000 in
theorem c_X0_goOnWaiting (l : Launch) (D : va_G) (a : dp_A) (B : Nat) (h : dp_H) (x0 : Nat) (x1 : Nat) {h' : dp_H} (hm : m_X0_goOnWaiting h x0 x1 = some h') : dp_M l D a B yX0_goOnWaiting cX0_goOnWaiting 2 none rm_X0_goOnWaiting [.ref (B + x0), .ref (B + x1)] h none h' := by
  refine dp_M.of (own := RX0) (nm := "goOnWaiting") (by decide) rfl rfl (Nat.le_of_ble_eq_true rfl) ?_
  intro p e s m below meth c ls X hr hin hw hl
  have hl : lv_has ls 2 [(0, .ref (B + x0)), (1, .ref (B + x1))] := hl
  obtain ⟨hx, hb, hml, hown, hlk, hK, hB⟩ := id X
  unfold m_X0_goOnWaiting at hm
  obtain ⟨hck, hm⟩ := dp_ck_e hm
  refine lv_aload_n hx hb dX0_goOnWaiting_0 rfl (lv_at hl 0 rfl) ?_
  refine lv_iconst (v := 1) hx hb dX0_goOnWaiting_1 (by decide) ?_
  obtain ⟨h1, eh1, hm⟩ := dp_ob hm
  refine dp_puti X hw cl_X0 2 (by decide) fl_X0_24 rfl rfl eh1 dX0_goOnWaiting_2 (fun H locs hw => ?_)
  refine lv_aload_n hx hb dX0_goOnWaiting_5 rfl (lv_at hl 0 rfl) ?_
  refine lv_aload_n hx hb dX0_goOnWaiting_6 rfl (lv_at hl 0 rfl) ?_
  refine lv_aload_n hx hb dX0_goOnWaiting_7 rfl (lv_at hl 0 rfl) ?_
  refine lv_aload_n hx hb dX0_goOnWaiting_8 rfl (lv_at hl 1 rfl) ?_
  obtain ⟨v2, ev2, hm⟩ := dp_ob hm
  refine dp_cV (As := [.ref (B + x1)]) (rest := [.ref (B + x0), .ref (B + x0)]) X hw (c_X0_currentStage l D a B h1 x0 x1 ev2) vm_X0_currentStage ml_X0_77 (by decide) rfl rfl (ck_X0_currentStage ev2) rfl rfl hl.1 rfl (Nat.le_of_ble_eq_true rfl) dX0_goOnWaiting_9 ⟨(Nat.zero_le _), (Nat.zero_le _)⟩ (fun H locs hw => ?_)
  obtain ⟨v3, ev3, hm⟩ := dp_ob hm
  refine dp_cV (As := [.int v2]) (rest := [.ref (B + x0)]) X hw (c_X0_ticksOf l D a B h1 x0 v2 ev3) vm_X0_ticksOf ml_X0_81 (by decide) rfl rfl (ck_X0_ticksOf ev3) rfl rfl hl.1 rfl (Nat.le_of_ble_eq_true rfl) dX0_goOnWaiting_12 ⟨(Nat.zero_le _), (Nat.zero_le _)⟩ (fun H locs hw => ?_)
  obtain ⟨h4, eh4, hm⟩ := dp_ob hm
  refine dp_puti X hw cl_X0 4 (by decide) fl_X0_31 rfl rfl eh4 dX0_goOnWaiting_15 (fun H locs hw => ?_)
  cases hm
  exact dp_vret X hr hw dX0_goOnWaiting_18
theorem ck_X0_putUp {h : dp_H} {x0 : Nat} {x1 : Nat} {h' : dp_H} (hm : m_X0_putUp h x0 x1 = some h') : dp_is h x0 0 = true := (dp_ck_e hm).1
set_option maxRecDepth 100000 in
set_option maxHeartbeats 4000000 in
theorem c_X0_putUp (l : Launch) (D : va_G) (a : dp_A) (B : Nat) (h : dp_H) (x0 : Nat) (x1 : Nat) {h' : dp_H} (hm : m_X0_putUp h x0 x1 = some h') : dp_M l D a B yX0_putUp cX0_putUp 2 none rm_X0_putUp [.ref (B + x0), .ref (B + x1)] h none h' := by
  refine dp_M.of (own := RX0) (nm := "putUp") (by decide) rfl rfl (Nat.le_of_ble_eq_true rfl) ?_
  intro p e s m below meth c ls X hr hin hw hl
  have hl : lv_has ls 2 [(0, .ref (B + x0)), (1, .ref (B + x1))] := hl
  obtain ⟨hx, hb, hml, hown, hlk, hK, hB⟩ := id X
  unfold m_X0_putUp at hm
  obtain ⟨hck, hm⟩ := dp_ck_e hm
  refine lv_aload_n hx hb dX0_putUp_0 rfl (lv_at hl 0 rfl) ?_
  refine lv_dup hx hb dX0_putUp_1 rfl ?_
  obtain ⟨v1, ev1, hm⟩ := dp_ob hm
  refine dp_geti X hw cl_X0 5 (by decide) fl_X0_34 ev1 dX0_putUp_2 ?_
  refine lv_iconst (v := 1) hx hb dX0_putUp_5 (by decide) ?_
  refine lv_iadd hx hb dX0_putUp_6 ?_
  obtain ⟨h2, eh2, hm⟩ := dp_ob hm
  refine dp_puti X hw cl_X0 5 (by decide) fl_X0_34 rfl rfl eh2 dX0_putUp_7 (fun H locs hw => ?_)
  refine lv_aload_n hx hb dX0_putUp_10 rfl (lv_at hl 0 rfl) ?_
  refine lv_aload_n hx hb dX0_putUp_11 rfl (lv_at hl 1 rfl) ?_
  obtain ⟨h3, eh3, hm⟩ := dp_ob hm
  refine dp_cVv (As := [.ref (B + x1)]) (rest := []) X hw (c_X0_goOnWaiting l D a B h2 x0 x1 eh3) vm_X0_goOnWaiting ml_X0_62 (by decide) rfl rfl (ck_X0_goOnWaiting eh3) rfl rfl hl.1 rfl (Nat.le_of_ble_eq_true rfl) dX0_putUp_12 ⟨(Nat.zero_le _), (Nat.zero_le _)⟩ (fun H locs hw => ?_)
  cases hm
  exact dp_vret X hr hw dX0_putUp_15
theorem ck_X5_clear {h : dp_H} {x0 : Nat} {h' : dp_H} (hm : m_X5_clear h x0 = some h') : dp_is h x0 5 = true := (dp_ck_e hm).1
set_option maxRecDepth 100000 in
set_option maxHeartbeats 4000000 in
theorem c_X5_clear (l : Launch) (D : va_G) (a : dp_A) (B : Nat) (h : dp_H) (x0 : Nat) {h' : dp_H} (hm : m_X5_clear h x0 = some h') : dp_M l D a B yX5_clear cX5_clear 1 none rm_X5_clear [.ref (B + x0)] h none h' := by
  refine dp_M.of (own := RX5) (nm := "clear") (by decide) rfl rfl (Nat.le_of_ble_eq_true rfl) ?_
  intro p e s m below meth c ls X hr hin hw hl
  have hl : lv_has ls 1 [(0, .ref (B + x0))] := hl
  obtain ⟨hx, hb, hml, hown, hlk, hK, hB⟩ := id X
  unfold m_X5_clear at hm
  obtain ⟨hck, hm⟩ := dp_ck_e hm
  refine lv_aload_n hx hb dX5_clear_0 rfl (lv_at hl 0 rfl) ?_
  refine lv_iconst (v := 0) hx hb dX5_clear_1 (by decide) ?_
  obtain ⟨h1, eh1, hm⟩ := dp_ob hm
  refine dp_puti X hw cl_X5 1 (by decide) fl_X5_21 rfl rfl eh1 dX5_clear_2 (fun H locs hw => ?_)
  cases hm
  exact dp_vret X hr hw dX5_clear_5
theorem ck_X0_putDown {h : dp_H} {x0 : Nat} {h' : dp_H} (hm : m_X0_putDown h x0 = some h') : dp_is h x0 0 = true := (dp_ck_e hm).1
set_option maxRecDepth 100000 in
set_option maxHeartbeats 4000000 in
theorem c_X0_putDown (l : Launch) (D : va_G) (a : dp_A) (B : Nat) (h : dp_H) (x0 : Nat) {h' : dp_H} (hm : m_X0_putDown h x0 = some h') : dp_M l D a B yX0_putDown cX0_putDown 1 none rm_X0_putDown [.ref (B + x0)] h none h' := by
  refine dp_M.of (own := RX0) (nm := "putDown") (by decide) rfl rfl (Nat.le_of_ble_eq_true rfl) ?_
  intro p e s m below meth c ls X hr hin hw hl
  have hl : lv_has ls 1 [(0, .ref (B + x0))] := hl
  obtain ⟨hx, hb, hml, hown, hlk, hK, hB⟩ := id X
  unfold m_X0_putDown at hm
  obtain ⟨hck, hm⟩ := dp_ck_e hm
  refine lv_aload_n hx hb dX0_putDown_0 rfl (lv_at hl 0 rfl) ?_
  obtain ⟨v1, ev1, hm⟩ := dp_ob hm
  refine dp_getr X hw cl_X0 0 (by decide) fl_X0_14 ev1 dX0_putDown_1 ?_
  obtain ⟨h2, eh2, hm⟩ := dp_ob hm
  refine dp_cVv (As := []) (rest := []) X hw (c_X5_clear l D a B h v1 eh2) vm_X5_clear ml_X0_66 (by decide) rfl rfl (ck_X5_clear eh2) rfl rfl hl.1 rfl (Nat.le_of_ble_eq_true rfl) dX0_putDown_4 ⟨(Nat.zero_le _), (Nat.zero_le _)⟩ (fun H locs hw => ?_)
  refine lv_aload_n hx hb dX0_putDown_7 rfl (lv_at hl 0 rfl) ?_
  refine lv_iconst (v := 0) hx hb dX0_putDown_8 (by decide) ?_
  obtain ⟨h3, eh3, hm⟩ := dp_ob hm
  refine dp_puti X hw cl_X0 3 (by decide) fl_X0_28 rfl rfl eh3 dX0_putDown_9 (fun H locs hw => ?_)
  refine lv_aload_n hx hb dX0_putDown_12 rfl (lv_at hl 0 rfl) ?_
  refine lv_iconst (v := 0) hx hb dX0_putDown_13 (by decide) ?_
  obtain ⟨h4, eh4, hm⟩ := dp_ob hm
  refine dp_puti X hw cl_X0 4 (by decide) fl_X0_31 rfl rfl eh4 dX0_putDown_14 (fun H locs hw => ?_)
  refine lv_aload_n hx hb dX0_putDown_17 rfl (lv_at hl 0 rfl) ?_
  refine lv_iconst (v := 0) hx hb dX0_putDown_18 (by decide) ?_
  obtain ⟨h5, eh5, hm⟩ := dp_ob hm
  refine dp_puti X hw cl_X0 2 (by decide) fl_X0_24 rfl rfl eh5 dX0_putDown_19 (fun H locs hw => ?_)
  cases hm
  exact dp_vret X hr hw dX0_putDown_22
theorem ck_X5_append {h : dp_H} {x0 : Nat} {x1 : Int32} {h' : dp_H} {r : Int32} (hm : m_X5_append h x0 x1 = some (h', r)) : dp_is h x0 5 = true := (dp_ck_e hm).1
set_option maxRecDepth 100000 in
set_option maxHeartbeats 4000000 in
theorem c_X5_append (l : Launch) (D : va_G) (a : dp_A) (B : Nat) (h : dp_H) (x0 : Nat) (x1 : Int32) {h' : dp_H} {r : Int32} (hm : m_X5_append h x0 x1 = some (h', r)) : dp_M l D a B yX5_append cX5_append 2 (some .boolean) rm_X5_append [.ref (B + x0), .int x1] h (some (.int r)) h' := by
  refine dp_M.of (own := RX5) (nm := "append") (by decide) rfl rfl (Nat.le_of_ble_eq_true rfl) ?_
  intro p e s m below meth c ls X hr hin hw hl
  have hl : lv_has ls 2 [(0, .ref (B + x0)), (1, .int x1)] := hl
  obtain ⟨hx, hb, hml, hown, hlk, hK, hB⟩ := id X
  unfold m_X5_append at hm
  obtain ⟨hck, hm⟩ := dp_ck_e hm
  refine lv_aload_n hx hb dX5_append_0 rfl (lv_at hl 0 rfl) ?_
  obtain ⟨v1, ev1, hm⟩ := dp_ob hm
  refine dp_geti X hw cl_X5 1 (by decide) fl_X5_21 ev1 dX5_append_1 ?_
  refine lv_if_lt (tgt := 19) hx hb dX5_append_4 (by decide) (fun hc => ?_) (fun hc => ?_)
  · have hm := dp_ip hc hm
    refine lv_iconst (v := 0) hx hb dX5_append_19 (by decide) ?_
    cases hm
    exact dp_zret X hr hw (by decide) dX5_append_20
  · have hm := dp_in hc hm
    refine lv_aload_n hx hb dX5_append_7 rfl (lv_at hl 0 rfl) ?_
    obtain ⟨v2, ev2, hm⟩ := dp_ob hm
    refine dp_geti X hw cl_X5 1 (by decide) fl_X5_21 ev2 dX5_append_8 ?_
    refine lv_aload_n hx hb dX5_append_11 rfl (lv_at hl 0 rfl) ?_
    obtain ⟨v3, ev3, hm⟩ := dp_ob hm
    refine dp_getr X hw cl_X5 0 (by decide) fl_X5_15 ev3 dX5_append_12 ?_
    obtain ⟨v4, ev4, hm⟩ := dp_ob hm
    refine dp_alen X hw ev4 dX5_append_15 ?_
    refine lv_icmp_lt (tgt := 21) hx hb dX5_append_16 (by decide) (fun hc => ?_) (fun hc => ?_)
    · have hm := dp_ip hc hm
      refine lv_aload_n hx hb dX5_append_21 rfl (lv_at hl 0 rfl) ?_
      obtain ⟨v5, ev5, hm⟩ := dp_ob hm
      refine dp_getr X hw cl_X5 0 (by decide) fl_X5_15 ev5 dX5_append_22 ?_
      refine lv_aload_n hx hb dX5_append_25 rfl (lv_at hl 0 rfl) ?_
      obtain ⟨v6, ev6, hm⟩ := dp_ob hm
      refine dp_geti X hw cl_X5 1 (by decide) fl_X5_21 ev6 dX5_append_26 ?_
      refine lv_iload_n hx hb dX5_append_29 rfl (lv_at hl 1 rfl) ?_
      obtain ⟨h7, eh7, hm⟩ := dp_ob hm
      refine dp_iast X hw eh7 dX5_append_30 (fun H locs hw => ?_)
      refine lv_aload_n hx hb dX5_append_31 rfl (lv_at hl 0 rfl) ?_
      refine lv_dup hx hb dX5_append_32 rfl ?_
      obtain ⟨v8, ev8, hm⟩ := dp_ob hm
      refine dp_geti X hw cl_X5 1 (by decide) fl_X5_21 ev8 dX5_append_33 ?_
      refine lv_iconst (v := 1) hx hb dX5_append_36 (by decide) ?_
      refine lv_iadd hx hb dX5_append_37 ?_
      obtain ⟨h9, eh9, hm⟩ := dp_ob hm
      refine dp_puti X hw cl_X5 1 (by decide) fl_X5_21 rfl rfl eh9 dX5_append_38 (fun H locs hw => ?_)
      refine lv_iconst (v := 1) hx hb dX5_append_41 (by decide) ?_
      cases hm
      exact dp_zret X hr hw (by decide) dX5_append_42
    · have hm := dp_in hc hm
      refine lv_iconst (v := 0) hx hb dX5_append_19 (by decide) ?_
      cases hm
      exact dp_zret X hr hw (by decide) dX5_append_20
theorem ck_X0_settle {h : dp_H} {x0 : Nat} {x1 : Int32} {x2 : Nat} {h' : dp_H} (hm : m_X0_settle h x0 x1 x2 = some h') : dp_is h x0 0 = true := (dp_ck_e hm).1
set_option maxRecDepth 100000 in
set_option maxHeartbeats 4000000 in
theorem c_X0_settle (l : Launch) (D : va_G) (a : dp_A) (B : Nat) (h : dp_H) (x0 : Nat) (x1 : Int32) (x2 : Nat) {h' : dp_H} (hm : m_X0_settle h x0 x1 x2 = some h') : dp_M l D a B yX0_settle cX0_settle 3 none rm_X0_settle [.ref (B + x0), .int x1, .ref (B + x2)] h none h' := by
  refine dp_M.of (own := RX0) (nm := "settle") (by decide) rfl rfl (Nat.le_of_ble_eq_true rfl) ?_
  intro p e s m below meth c ls X hr hin hw hl
  have hl : lv_has ls 3 [(0, .ref (B + x0)), (1, .int x1), (2, .ref (B + x2))] := hl
  obtain ⟨hx, hb, hml, hown, hlk, hK, hB⟩ := id X
  unfold m_X0_settle at hm
  obtain ⟨hck, hm⟩ := dp_ck_e hm
  refine lv_aload_n hx hb dX0_settle_0 rfl (lv_at hl 0 rfl) ?_
  refine lv_iload_n hx hb dX0_settle_1 rfl (lv_at hl 1 rfl) ?_
  obtain ⟨h1, eh1, hm⟩ := dp_ob hm
  refine dp_puti X hw cl_X0 3 (by decide) fl_X0_28 rfl rfl eh1 dX0_settle_2 (fun H locs hw => ?_)
  refine lv_aload_n hx hb dX0_settle_5 rfl (lv_at hl 0 rfl) ?_
  refine lv_iconst (v := 0) hx hb dX0_settle_6 (by decide) ?_
  obtain ⟨h2, eh2, hm⟩ := dp_ob hm
  refine dp_puti X hw cl_X0 4 (by decide) fl_X0_31 rfl rfl eh2 dX0_settle_7 (fun H locs hw => ?_)
  refine lv_aload_n hx hb dX0_settle_10 rfl (lv_at hl 2 rfl) ?_
  refine lv_aload_n hx hb dX0_settle_11 rfl (lv_at hl 0 rfl) ?_
  obtain ⟨v3, ev3, hm⟩ := dp_ob hm
  refine dp_getr X hw cl_X0 0 (by decide) fl_X0_14 ev3 dX0_settle_12 ?_
  refine lv_iconst (v := 1) hx hb dX0_settle_15 (by decide) ?_
  obtain ⟨v4, ev4, hm⟩ := dp_ob hm
  refine dp_cV (As := [.ref (B + v3), .int 1]) (rest := []) X hw (c_X3_reached l D a B h2 x2 v3 1 ev4) vm_X3_reached ml_X0_52 (by decide) rfl rfl (ck_X3_reached ev4) rfl rfl hl.1 rfl (Nat.le_of_ble_eq_true rfl) dX0_settle_16 ⟨(Nat.zero_le _), (Nat.zero_le _)⟩ (fun H locs hw => ?_)
  refine lv_if_eq (tgt := 40) hx hb dX0_settle_19 (by decide) (fun hc => ?_) (fun hc => ?_)
  · have hm := dp_ip hc hm
    refine lv_aload_n hx hb dX0_settle_40 rfl (lv_at hl 0 rfl) ?_
    refine lv_iconst (v := 3) hx hb dX0_settle_41 (by decide) ?_
    obtain ⟨h5, eh5, hm⟩ := dp_ob hm
    refine dp_puti X hw cl_X0 2 (by decide) fl_X0_24 rfl rfl eh5 dX0_settle_42 (fun H locs hw => ?_)
    refine lv_aload_n hx hb dX0_settle_45 rfl (lv_at hl 0 rfl) ?_
    refine lv_dup hx hb dX0_settle_46 rfl ?_
    obtain ⟨v6, ev6, hm⟩ := dp_ob hm
    refine dp_geti X hw cl_X0 7 (by decide) fl_X0_40 ev6 dX0_settle_47 ?_
    refine lv_iconst (v := 1) hx hb dX0_settle_50 (by decide) ?_
    refine lv_iadd hx hb dX0_settle_51 ?_
    obtain ⟨h7, eh7, hm⟩ := dp_ob hm
    refine dp_puti X hw cl_X0 7 (by decide) fl_X0_40 rfl rfl eh7 dX0_settle_52 (fun H locs hw => ?_)
    cases hm
    exact dp_vret X hr hw dX0_settle_55
  · have hm := dp_in hc hm
    refine lv_aload_n hx hb dX0_settle_22 rfl (lv_at hl 0 rfl) ?_
    refine lv_iconst (v := 2) hx hb dX0_settle_23 (by decide) ?_
    obtain ⟨h8, eh8, hm⟩ := dp_ob hm
    refine dp_puti X hw cl_X0 2 (by decide) fl_X0_24 rfl rfl eh8 dX0_settle_24 (fun H locs hw => ?_)
    refine lv_aload_n hx hb dX0_settle_27 rfl (lv_at hl 0 rfl) ?_
    refine lv_dup hx hb dX0_settle_28 rfl ?_
    obtain ⟨v9, ev9, hm⟩ := dp_ob hm
    refine dp_geti X hw cl_X0 6 (by decide) fl_X0_37 ev9 dX0_settle_29 ?_
    refine lv_iconst (v := 1) hx hb dX0_settle_32 (by decide) ?_
    refine lv_iadd hx hb dX0_settle_33 ?_
    obtain ⟨h10, eh10, hm⟩ := dp_ob hm
    refine dp_puti X hw cl_X0 6 (by decide) fl_X0_37 rfl rfl eh10 dX0_settle_34 (fun H locs hw => ?_)
    refine lv_goto (tgt := 55) hx hb dX0_settle_37 (by decide) ?_
    cases hm
    exact dp_vret X hr hw dX0_settle_55
set_option maxRecDepth 100000 in
set_option maxHeartbeats 4000000 in
theorem v_X0_take_70 {p : Program} {l : Launch} {e : Env} {s : State} {m : MethodId} {args : Array Value} {below : List Frame} {meth : Method} {c : Code} {D : va_G} {a : dp_A} {B : Nat} (X : dp_X p s m meth c cX0_take 5 RX0 D a B) (hr : meth.sig.returnType = none) {h' : dp_H}  : ∀ (h : dp_H) (x0 : Nat) (x2 : Nat) (x3 : Int32) (y0 : Int32), b_X0_take_70  h x0 x2 x3 y0 = some h' → ∀ (H : Heap) (locs : List Loc) (ls : Array Slot), dp_w D a B h s.heap H locs → lv_has ls 5 [(0, .ref (B + x0)), (2, .ref (B + x2)), (3, .int x3)] → W p l e rm_X0_take s m args below meth c H locs 0 0 (MQ below (dp_Q D a B none h') args s rm_X0_take.cells rm_X0_take.slots (fun q => B ≤ q)) (F0 m 70 ls [.int y0]) := by
  intro h x0 x2 x3 y0 hm H locs ls hw hl
  obtain ⟨hx, hb, hml, hown, hlk, hK, hB⟩ := id X
  unfold b_X0_take_70 at hm
  refine lv_istore (lv' := [(4, .int y0), (0, .ref (B + x0)), (2, .ref (B + x2)), (3, .int x3)]) hx hb dX0_take_70 hl (by decide) rfl (fun ls hl => ?_)
  refine lv_iload_n hx hb dX0_take_72 rfl (lv_at hl 3 rfl) ?_
  refine lv_if_eq (tgt := 85) hx hb dX0_take_73 (by decide) (fun hc => ?_) (fun hc => ?_)
  · have hm := dp_ip hc hm
    refine lv_iload hx hb dX0_take_85 (lv_at hl 0 rfl) ?_
    refine lv_if_eq (tgt := 99) hx hb dX0_take_87 (by decide) (fun hc => ?_) (fun hc => ?_)
    · have hm := dp_ip hc hm
      refine lv_aload_n hx hb dX0_take_99 rfl (lv_at hl 1 rfl) ?_
      refine lv_aload_n hx hb dX0_take_100 rfl (lv_at hl 2 rfl) ?_
      obtain ⟨h1, eh1, hm⟩ := dp_ob hm
      refine dp_cVv (As := [.ref (B + x2)]) (rest := []) X hw (c_X0_goOnWaiting l D a B h x0 x2 eh1) vm_X0_goOnWaiting ml_X0_62 (by decide) rfl rfl (ck_X0_goOnWaiting eh1) rfl rfl hl.1 rfl (Nat.le_of_ble_eq_true rfl) dX0_take_101 ⟨(Nat.zero_le _), (Nat.zero_le _)⟩ (fun H locs hw => ?_)
      cases hm
      exact dp_vret X hr hw dX0_take_104
    · have hm := dp_in hc hm
      refine lv_aload_n hx hb dX0_take_90 rfl (lv_at hl 1 rfl) ?_
      refine lv_iconst (v := 1) hx hb dX0_take_91 (by decide) ?_
      refine lv_aload_n hx hb dX0_take_92 rfl (lv_at hl 2 rfl) ?_
      obtain ⟨h2, eh2, hm⟩ := dp_ob hm
      refine dp_cVv (As := [.int 1, .ref (B + x2)]) (rest := []) X hw (c_X0_settle l D a B h x0 1 x2 eh2) vm_X0_settle ml_X0_73 (by decide) rfl rfl (ck_X0_settle eh2) rfl rfl hl.1 rfl (Nat.le_of_ble_eq_true rfl) dX0_take_93 ⟨(Nat.zero_le _), (Nat.zero_le _)⟩ (fun H locs hw => ?_)
      refine lv_goto (tgt := 104) hx hb dX0_take_96 (by decide) ?_
      cases hm
      exact dp_vret X hr hw dX0_take_104
  · have hm := dp_in hc hm
    refine lv_aload_n hx hb dX0_take_76 rfl (lv_at hl 1 rfl) ?_
    refine lv_iconst (v := 4) hx hb dX0_take_77 (by decide) ?_
    refine lv_aload_n hx hb dX0_take_78 rfl (lv_at hl 2 rfl) ?_
    obtain ⟨h3, eh3, hm⟩ := dp_ob hm
    refine dp_cVv (As := [.int 4, .ref (B + x2)]) (rest := []) X hw (c_X0_settle l D a B h x0 4 x2 eh3) vm_X0_settle ml_X0_73 (by decide) rfl rfl (ck_X0_settle eh3) rfl rfl hl.1 rfl (Nat.le_of_ble_eq_true rfl) dX0_take_79 ⟨(Nat.zero_le _), (Nat.zero_le _)⟩ (fun H locs hw => ?_)
    refine lv_goto (tgt := 104) hx hb dX0_take_82 (by decide) ?_
    cases hm
    exact dp_vret X hr hw dX0_take_104
set_option maxRecDepth 100000 in
set_option maxHeartbeats 4000000 in
theorem v_X0_take_40 {p : Program} {l : Launch} {e : Env} {s : State} {m : MethodId} {args : Array Value} {below : List Frame} {meth : Method} {c : Code} {D : va_G} {a : dp_A} {B : Nat} (X : dp_X p s m meth c cX0_take 5 RX0 D a B) (hr : meth.sig.returnType = none) {h' : dp_H}  : ∀ (h : dp_H) (x0 : Nat) (x2 : Nat) (y0 : Int32), b_X0_take_40  h x0 x2 y0 = some h' → ∀ (H : Heap) (locs : List Loc) (ls : Array Slot), dp_w D a B h s.heap H locs → lv_has ls 5 [(0, .ref (B + x0)), (2, .ref (B + x2))] → W p l e rm_X0_take s m args below meth c H locs 0 0 (MQ below (dp_Q D a B none h') args s rm_X0_take.cells rm_X0_take.slots (fun q => B ≤ q)) (F0 m 40 ls [.int y0]) := by
  intro h x0 x2 y0 hm H locs ls hw hl
  obtain ⟨hx, hb, hml, hown, hlk, hK, hB⟩ := id X
  unfold b_X0_take_40 at hm
  refine lv_istore_n (lv' := [(3, .int y0), (0, .ref (B + x0)), (2, .ref (B + x2))]) hx hb dX0_take_40 rfl hl (by decide) rfl (fun ls hl => ?_)
  refine lv_aload_n hx hb dX0_take_41 rfl (lv_at hl 1 rfl) ?_
  obtain ⟨v1, ev1, hm⟩ := dp_ob hm
  refine dp_getr X hw cl_X0 0 (by decide) fl_X0_14 ev1 dX0_take_42 ?_
  obtain ⟨v2, ev2, hm⟩ := dp_ob hm
  refine dp_cV (As := []) (rest := []) X hw (c_X5_size l D a B h v1 ev2) vm_X5_size ml_X0_46 (by decide) rfl rfl (ck_X5_size ev2) rfl rfl hl.1 rfl (Nat.le_of_ble_eq_true rfl) dX0_take_45 ⟨(Nat.zero_le _), (Nat.zero_le _)⟩ (fun H locs hw => ?_)
  refine lv_bipush (v := 10) hx hb dX0_take_48 (by decide) ?_
  refine lv_icmp_ge (tgt := 65) hx hb dX0_take_50 (by decide) (fun hc => ?_) (fun hc => ?_)
  · have hm := dp_ip hc hm
    refine lv_iconst (v := 1) hx hb dX0_take_65 (by decide) ?_
    refine lv_goto (tgt := 70) hx hb dX0_take_66 (by decide) ?_
    exact v_X0_take_70 X hr h x0 x2 y0 1 hm _ _ _ hw (lv_sub hl [1, 2, 0] rfl)
  · have hm := dp_in hc hm
    refine lv_aload_n hx hb dX0_take_53 rfl (lv_at hl 2 rfl) ?_
    refine lv_aload_n hx hb dX0_take_54 rfl (lv_at hl 1 rfl) ?_
    obtain ⟨v3, ev3, hm⟩ := dp_ob hm
    refine dp_getr X hw cl_X0 0 (by decide) fl_X0_14 ev3 dX0_take_55 ?_
    refine lv_iconst (v := 2) hx hb dX0_take_58 (by decide) ?_
    obtain ⟨v4, ev4, hm⟩ := dp_ob hm
    refine dp_cV (As := [.ref (B + v3), .int 2]) (rest := []) X hw (c_X3_reached l D a B h x2 v3 2 ev4) vm_X3_reached ml_X0_52 (by decide) rfl rfl (ck_X3_reached ev4) rfl rfl hl.1 rfl (Nat.le_of_ble_eq_true rfl) dX0_take_59 ⟨(Nat.zero_le _), (Nat.zero_le _)⟩ (fun H locs hw => ?_)
    refine lv_if_ne (tgt := 69) hx hb dX0_take_62 (by decide) (fun hc => ?_) (fun hc => ?_)
    · have hm := dp_in hc hm
      refine lv_iconst (v := 0) hx hb dX0_take_69 (by decide) ?_
      exact v_X0_take_70 X hr h x0 x2 y0 0 hm _ _ _ hw (lv_sub hl [1, 2, 0] rfl)
    · have hm := dp_ip hc hm
      refine lv_iconst (v := 1) hx hb dX0_take_65 (by decide) ?_
      refine lv_goto (tgt := 70) hx hb dX0_take_66 (by decide) ?_
      exact v_X0_take_70 X hr h x0 x2 y0 1 hm _ _ _ hw (lv_sub hl [1, 2, 0] rfl)
theorem ck_X0_take {h : dp_H} {x0 : Nat} {x1 : Int32} {x2 : Nat} {h' : dp_H} (hm : m_X0_take h x0 x1 x2 = some h') : dp_is h x0 0 = true := (dp_ck_e hm).1
set_option maxRecDepth 100000 in
set_option maxHeartbeats 4000000 in
theorem c_X0_take (l : Launch) (D : va_G) (a : dp_A) (B : Nat) (h : dp_H) (x0 : Nat) (x1 : Int32) (x2 : Nat) {h' : dp_H} (hm : m_X0_take h x0 x1 x2 = some h') : dp_M l D a B yX0_take cX0_take 5 none rm_X0_take [.ref (B + x0), .int x1, .ref (B + x2)] h none h' := by
  refine dp_M.of (own := RX0) (nm := "take") (by decide) rfl rfl (Nat.le_of_ble_eq_true rfl) ?_
  intro p e s m below meth c ls X hr hin hw hl
  have hl : lv_has ls 5 [(0, .ref (B + x0)), (1, .int x1), (2, .ref (B + x2))] := hl
  obtain ⟨hx, hb, hml, hown, hlk, hK, hB⟩ := id X
  unfold m_X0_take at hm
  obtain ⟨hck, hm⟩ := dp_ck_e hm
  refine lv_aload_n hx hb dX0_take_0 rfl (lv_at hl 0 rfl) ?_
  obtain ⟨v1, ev1, hm⟩ := dp_ob hm
  refine dp_getr X hw cl_X0 0 (by decide) fl_X0_14 ev1 dX0_take_1 ?_
  refine lv_iload_n hx hb dX0_take_4 rfl (lv_at hl 1 rfl) ?_
  obtain ⟨h2, v3, ev3, hm⟩ := dp_ob2 hm
  refine dp_cV (As := [.int x1]) (rest := []) X hw (c_X5_append l D a B h v1 x1 ev3) vm_X5_append ml_X0_69 (by decide) rfl rfl (ck_X5_append ev3) rfl rfl hl.1 rfl (Nat.le_of_ble_eq_true rfl) dX0_take_5 ⟨(Nat.zero_le _), (Nat.zero_le _)⟩ (fun H locs hw => ?_)
  refine lv_if_ne (tgt := 12) hx hb dX0_take_8 (by decide) (fun hc => ?_) (fun hc => ?_)
  · have hm := dp_in hc hm
    refine lv_aload_n hx hb dX0_take_12 rfl (lv_at hl 0 rfl) ?_
    refine lv_dup hx hb dX0_take_13 rfl ?_
    obtain ⟨v4, ev4, hm⟩ := dp_ob hm
    refine dp_geti X hw cl_X0 8 (by decide) fl_X0_43 ev4 dX0_take_14 ?_
    refine lv_iconst (v := 1) hx hb dX0_take_17 (by decide) ?_
    refine lv_iadd hx hb dX0_take_18 ?_
    obtain ⟨h5, eh5, hm⟩ := dp_ob hm
    refine dp_puti X hw cl_X0 8 (by decide) fl_X0_43 rfl rfl eh5 dX0_take_19 (fun H locs hw => ?_)
    refine lv_aload_n hx hb dX0_take_22 rfl (lv_at hl 2 rfl) ?_
    refine lv_aload_n hx hb dX0_take_23 rfl (lv_at hl 0 rfl) ?_
    obtain ⟨v6, ev6, hm⟩ := dp_ob hm
    refine dp_getr X hw cl_X0 0 (by decide) fl_X0_14 ev6 dX0_take_24 ?_
    refine lv_iconst (v := 1) hx hb dX0_take_27 (by decide) ?_
    obtain ⟨v7, ev7, hm⟩ := dp_ob hm
    refine dp_cV (As := [.ref (B + v6), .int 1]) (rest := []) X hw (c_X3_winner l D a B h5 x2 v6 1 ev7) vm_X3_winner ml_X0_58 (by decide) rfl rfl (ck_X3_winner ev7) rfl rfl hl.1 rfl (Nat.le_of_ble_eq_true rfl) dX0_take_28 ⟨(Nat.zero_le _), (Nat.zero_le _)⟩ (fun H locs hw => ?_)
    refine lv_iconst (v := (-1)) hx hb dX0_take_31 (by decide) ?_
    refine lv_icmp_eq (tgt := 39) hx hb dX0_take_32 (by decide) (fun hc => ?_) (fun hc => ?_)
    · have hm := dp_ip hc hm
      refine lv_iconst (v := 0) hx hb dX0_take_39 (by decide) ?_
      exact v_X0_take_40 X hr h5 x0 x2 0 hm _ _ _ hw (lv_sub hl [0, 2] rfl)
    · have hm := dp_in hc hm
      refine lv_iconst (v := 1) hx hb dX0_take_35 (by decide) ?_
      refine lv_goto (tgt := 40) hx hb dX0_take_36 (by decide) ?_
      exact v_X0_take_40 X hr h5 x0 x2 1 hm _ _ _ hw (lv_sub hl [0, 2] rfl)
  · have hm := dp_ip hc hm
    cases hm
    exact dp_vret X hr hw dX0_take_11
theorem ck_X0_letTicksGo {h : dp_H} {x0 : Nat} {x1 : Int32} {x2 : Nat} {h' : dp_H} (hm : m_X0_letTicksGo h x0 x1 x2 = some h') : dp_is h x0 0 = true := (dp_ck_e hm).1
set_option maxRecDepth 100000 in
set_option maxHeartbeats 4000000 in
theorem c_X0_letTicksGo (l : Launch) (D : va_G) (a : dp_A) (B : Nat) (h : dp_H) (x0 : Nat) (x1 : Int32) (x2 : Nat) {h' : dp_H} (hm : m_X0_letTicksGo h x0 x1 x2 = some h') : dp_M l D a B yX0_letTicksGo cX0_letTicksGo 3 none rm_X0_letTicksGo [.ref (B + x0), .int x1, .ref (B + x2)] h none h' := by
  refine dp_M.of (own := RX0) (nm := "letTicksGo") (by decide) rfl rfl (Nat.le_of_ble_eq_true rfl) ?_
  intro p e s m below meth c ls X hr hin hw hl
  have hl : lv_has ls 3 [(0, .ref (B + x0)), (1, .int x1), (2, .ref (B + x2))] := hl
  obtain ⟨hx, hb, hml, hown, hlk, hK, hB⟩ := id X
  unfold m_X0_letTicksGo at hm
  obtain ⟨hck, hm⟩ := dp_ck_e hm
  refine lv_iload_n hx hb dX0_letTicksGo_0 rfl (lv_at hl 1 rfl) ?_
  refine lv_aload_n hx hb dX0_letTicksGo_1 rfl (lv_at hl 0 rfl) ?_
  obtain ⟨v1, ev1, hm⟩ := dp_ob hm
  refine dp_geti X hw cl_X0 4 (by decide) fl_X0_31 ev1 dX0_letTicksGo_2 ?_
  refine lv_icmp_ge (tgt := 21) hx hb dX0_letTicksGo_5 (by decide) (fun hc => ?_) (fun hc => ?_)
  · have hm := dp_ip hc hm
    refine lv_aload_n hx hb dX0_letTicksGo_21 rfl (lv_at hl 0 rfl) ?_
    refine lv_iconst (v := 2) hx hb dX0_letTicksGo_22 (by decide) ?_
    refine lv_aload_n hx hb dX0_letTicksGo_23 rfl (lv_at hl 2 rfl) ?_
    obtain ⟨h2, eh2, hm⟩ := dp_ob hm
    refine dp_cVv (As := [.int 2, .ref (B + x2)]) (rest := []) X hw (c_X0_settle l D a B h x0 2 x2 eh2) vm_X0_settle ml_X0_73 (by decide) rfl rfl (ck_X0_settle eh2) rfl rfl hl.1 rfl (Nat.le_of_ble_eq_true rfl) dX0_letTicksGo_24 ⟨(Nat.zero_le _), (Nat.zero_le _)⟩ (fun H locs hw => ?_)
    cases hm
    exact dp_vret X hr hw dX0_letTicksGo_27
  · have hm := dp_in hc hm
    refine lv_aload_n hx hb dX0_letTicksGo_8 rfl (lv_at hl 0 rfl) ?_
    refine lv_dup hx hb dX0_letTicksGo_9 rfl ?_
    obtain ⟨v3, ev3, hm⟩ := dp_ob hm
    refine dp_geti X hw cl_X0 4 (by decide) fl_X0_31 ev3 dX0_letTicksGo_10 ?_
    refine lv_iload_n hx hb dX0_letTicksGo_13 rfl (lv_at hl 1 rfl) ?_
    refine lv_isub hx hb dX0_letTicksGo_14 ?_
    obtain ⟨h4, eh4, hm⟩ := dp_ob hm
    refine dp_puti X hw cl_X0 4 (by decide) fl_X0_31 rfl rfl eh4 dX0_letTicksGo_15 (fun H locs hw => ?_)
    refine lv_goto (tgt := 27) hx hb dX0_letTicksGo_18 (by decide) ?_
    cases hm
    exact dp_vret X hr hw dX0_letTicksGo_27
theorem ck_X1_init {h : dp_H} {x0 : Nat} {h' : dp_H} (hm : m_X1_init h x0 = some h') : dp_is h x0 1 = true := (dp_ck_e hm).1
set_option maxRecDepth 100000 in
set_option maxHeartbeats 4000000 in
theorem c_X1_init (l : Launch) (D : va_G) (a : dp_A) (B : Nat) (h : dp_H) (x0 : Nat) {h' : dp_H} (hm : m_X1_init h x0 = some h') : dp_M l D a B yX1_init cX1_init 1 none rm_X1_init [.ref (B + x0)] h none h' := by
  refine dp_M.of (own := RX1) (nm := "<init>") (by decide) rfl rfl (Nat.le_of_ble_eq_true rfl) ?_
  intro p e s m below meth c ls X hr hin hw hl
  have hl : lv_has ls 1 [(0, .ref (B + x0))] := hl
  obtain ⟨hx, hb, hml, hown, hlk, hK, hB⟩ := id X
  unfold m_X1_init at hm
  obtain ⟨hck, hm⟩ := dp_ck_e hm
  refine lv_aload_n hx hb dX1_init_0 rfl (lv_at hl 0 rfl) ?_
  refine W.objInit hx hb hown (hK.word ml_X1_3 rfl) (hK.word obj_inst rfl) (hK.word obj_code rfl) rfl (hl.1.trans hml.symm) rfl dX1_init_1 (Nat.le_of_ble_eq_true rfl) (Nat.le_of_ble_eq_true rfl) ?_
  refine W.eq (g2 := F0 m 4 ls []) rfl ?_
  refine lv_aload_n hx hb dX1_init_4 rfl (lv_at hl 0 rfl) ?_
  refine lv_bipush (v := 10) hx hb dX1_init_5 (by decide) ?_
  obtain ⟨h1, eh1, hm⟩ := dp_ob hm
  refine dp_newi X hw ac_i eh1 (by decide) (by decide) dX1_init_7 (fun H hw => ?_)
  obtain ⟨h2, eh2, hm⟩ := dp_ob hm
  refine dp_putFr X hin hw cl_X1 0 (by decide) fl_X1_9 rfl rfl (Or.inr ⟨_, rfl⟩) eh2 dX1_init_9 (fun H locs hw => ?_)
  refine lv_aload_n hx hb dX1_init_12 rfl (lv_at hl 0 rfl) ?_
  refine lv_bipush (v := 10) hx hb dX1_init_13 (by decide) ?_
  obtain ⟨h3, eh3, hm⟩ := dp_ob hm
  refine dp_newi X hw ac_i eh3 (by decide) (by decide) dX1_init_15 (fun H hw => ?_)
  obtain ⟨h4, eh4, hm⟩ := dp_ob hm
  refine dp_putFr X hin hw cl_X1 1 (by decide) fl_X1_15 rfl rfl (Or.inr ⟨_, rfl⟩) eh4 dX1_init_17 (fun H locs hw => ?_)
  refine lv_aload_n hx hb dX1_init_20 rfl (lv_at hl 0 rfl) ?_
  obtain ⟨h5, eh5, hm⟩ := dp_ob hm
  refine dp_newc X hw cl_X5 cn_X1_18 ci_X5 ini_X5 bl_X5_ok eh5 (by decide) (by decide) dX1_init_21 (fun H hw => ?_)
  refine lv_dup hx hb dX1_init_24 rfl ?_
  refine lv_iconst (v := 4) hx hb dX1_init_25 (by decide) ?_
  obtain ⟨h6, eh6, hm⟩ := dp_ob hm
  refine dp_cI (As := [.int 4]) (rest := [.ref (B + (List.length h4)), .ref (B + x0)]) X hw (c_X5_init l D a B h5 (List.length h4) 4 eh6) sm_X5_init rfl in_X5_init ml_X1_20 (by decide) rfl hl.1 rfl (Nat.le_of_ble_eq_true rfl) dX1_init_26 ⟨(by decide), (by decide)⟩ (fun H locs hw => ?_)
  refine W.widen (k := 0 + 1 + 1 + 1 + 1) (n := 0 + 80 + 80 + 2 + 80) (Nat.le_refl _) (Nat.le_refl _) ?_
  obtain ⟨h7, eh7, hm⟩ := dp_ob hm
  refine dp_putFr X hin hw cl_X1 2 (by decide) fl_X1_23 rfl rfl (Or.inl ⟨_, rfl⟩) eh7 dX1_init_29 (fun H locs hw => ?_)
  cases hm
  refine W.widen (k := rm_X1_init.cells) (n := rm_X1_init.slots) (by decide) (by decide) ?_
  exact dp_vret X hr hw dX1_init_32
theorem ck_X1_places {h : dp_H} {x0 : Nat} {r : Int32} (hm : m_X1_places h x0 = some r) : dp_is h x0 1 = true := (dp_ck_e hm).1
set_option maxRecDepth 100000 in
set_option maxHeartbeats 4000000 in
theorem c_X1_places (l : Launch) (D : va_G) (a : dp_A) (B : Nat) (h : dp_H) (x0 : Nat) {r : Int32} (hm : m_X1_places h x0 = some r) : dp_M l D a B yX1_places cX1_places 1 (some .int) rm_X1_places [.ref (B + x0)] h (some (.int r)) h := by
  refine dp_M.of (own := RX1) (nm := "places") (by decide) rfl rfl (Nat.le_of_ble_eq_true rfl) ?_
  intro p e s m below meth c ls X hr hin hw hl
  have hl : lv_has ls 1 [(0, .ref (B + x0))] := hl
  obtain ⟨hx, hb, hml, hown, hlk, hK, hB⟩ := id X
  unfold m_X1_places at hm
  obtain ⟨hck, hm⟩ := dp_ck_e hm
  refine lv_aload_n hx hb dX1_places_0 rfl (lv_at hl 0 rfl) ?_
  obtain ⟨v1, ev1, hm⟩ := dp_ob hm
  refine dp_geti X hw cl_X1 3 (by decide) fl_X1_27 ev1 dX1_places_1 ?_
  cases hm
  exact dp_iret X hr hw dX1_places_4
theorem ck_X1_isOpen {h : dp_H} {x0 : Nat} {r : Int32} (hm : m_X1_isOpen h x0 = some r) : dp_is h x0 1 = true := (dp_ck_e hm).1
set_option maxRecDepth 100000 in
set_option maxHeartbeats 4000000 in
theorem c_X1_isOpen (l : Launch) (D : va_G) (a : dp_A) (B : Nat) (h : dp_H) (x0 : Nat) {r : Int32} (hm : m_X1_isOpen h x0 = some r) : dp_M l D a B yX1_isOpen cX1_isOpen 1 (some .boolean) rm_X1_isOpen [.ref (B + x0)] h (some (.int r)) h := by
  refine dp_M.of (own := RX1) (nm := "isOpen") (by decide) rfl rfl (Nat.le_of_ble_eq_true rfl) ?_
  intro p e s m below meth c ls X hr hin hw hl
  have hl : lv_has ls 1 [(0, .ref (B + x0))] := hl
  obtain ⟨hx, hb, hml, hown, hlk, hK, hB⟩ := id X
  unfold m_X1_isOpen at hm
  obtain ⟨hck, hm⟩ := dp_ck_e hm
  refine lv_aload_n hx hb dX1_isOpen_0 rfl (lv_at hl 0 rfl) ?_
  obtain ⟨v1, ev1, hm⟩ := dp_ob hm
  refine dp_geti X hw cl_X1 4 (by decide) fl_X1_31 ev1 dX1_isOpen_1 ?_
  obtain ⟨hz, hm⟩ := dp_b_e hm
  cases hm
  exact dp_zret X hr hw hz dX1_isOpen_4
theorem ck_X1_dropped {h : dp_H} {x0 : Nat} {r : Int32} (hm : m_X1_dropped h x0 = some r) : dp_is h x0 1 = true := (dp_ck_e hm).1
set_option maxRecDepth 100000 in
set_option maxHeartbeats 4000000 in
theorem c_X1_dropped (l : Launch) (D : va_G) (a : dp_A) (B : Nat) (h : dp_H) (x0 : Nat) {r : Int32} (hm : m_X1_dropped h x0 = some r) : dp_M l D a B yX1_dropped cX1_dropped 1 (some .int) rm_X1_dropped [.ref (B + x0)] h (some (.int r)) h := by
  refine dp_M.of (own := RX1) (nm := "dropped") (by decide) rfl rfl (Nat.le_of_ble_eq_true rfl) ?_
  intro p e s m below meth c ls X hr hin hw hl
  have hl : lv_has ls 1 [(0, .ref (B + x0))] := hl
  obtain ⟨hx, hb, hml, hown, hlk, hK, hB⟩ := id X
  unfold m_X1_dropped at hm
  obtain ⟨hck, hm⟩ := dp_ck_e hm
  refine lv_aload_n hx hb dX1_dropped_0 rfl (lv_at hl 0 rfl) ?_
  obtain ⟨v1, ev1, hm⟩ := dp_ob hm
  refine dp_geti X hw cl_X1 6 (by decide) fl_X1_38 ev1 dX1_dropped_1 ?_
  cases hm
  exact dp_iret X hr hw dX1_dropped_4
