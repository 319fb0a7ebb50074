/-! the law -/
section LAWROWS
variable {p : Program} {l : Launch} {e : Env} {R : Room} {s : State} {m : MethodId} {args : Array Value} {below : List Frame} {meth : Method} {c : Code} {H : Heap} {locs : List Loc} {cells slots : Nat} {Q : State → Prop} {cc : ByteArray} {pc : Nat} {ls : Array Slot} {rest : List Value}
theorem lc_lcmp (hexec : p.tables.exec = Jvm.exec) (hb : c.code = cc) {x : Int64} (hdg : decode cc pc = .ok (.lcmp, 1))
    (k : W p l e R s m args below meth c H locs cells slots Q (F0 m (pc + 1) ls (.int 0 :: rest))) : W p l e R s m args below meth c H locs cells slots Q (F0 m pc ls (.long x :: .long x :: rest)) := by
  intro T hT X
  obtain ⟨t, a, b⟩ := k T hT X
  refine ⟨t, ?_, b⟩
  have h1 : ¬ x > x := Int64.lt_irrefl
  jvm_step X.here [X.here.top, hexec, hb, hdg, h1]
  exact a
end LAWROWS
theorem lw_lt {i L : Nat} (hi : i ≤ L) (hL : L ≤ 1536) (h : ¬ Int32.ofNat L - 3 < nI i) : i + 3 ≤ L := by
  rcases Nat.lt_or_ge L (i + 3) with q | q
  · exfalso
    apply h
    rw [Int32.lt_iff_toInt_lt, show Int32.ofNat L - 3 = nI L - nI 3 from rfl, pk_sub_toInt (by omega) (by omega), nI_toInt (by omega)]
    omega
  · exact q
theorem lw_in {i k L : Nat} (hk : i + k < L) (hL : L ≤ 1536) : vp_in (nI (i + k)) L := by
  unfold vp_in
  rw [nI_clamp (by omega)]
  exact fun z => z.elim (nI_pos (by omega)) (by omega)
theorem lw_tab (z : Int32) : (z.toInt < 0 ∨ 18 < z.toInt) ∨ ∃ k : Nat, k ≤ 18 ∧ z.toInt = (k : Int) := by
  by_cases h1 : z.toInt < 0
  · exact Or.inl (Or.inl h1)
  · by_cases h2 : 18 < z.toInt
    · exact Or.inl (Or.inr h2)
    · exact Or.inr ⟨z.toInt.toNat, by omega, by omega⟩
set_option maxHeartbeats 4000000 in
set_option maxRecDepth 100000 in
theorem law_loop {p : Program} {e : Env} {s : State} {m : MethodId} {below : List Frame} {meth : Method} {c : Code} (l : Launch) {b L : Nat} {xs : Nat → Int32} (hL : L ≤ 1536) (C0 : lw_At p s m meth c b L xs) {D : va_G} {a : dp_A} (hK : dp_K D a s) :
    ∀ (n i : Nat), i ≤ L → L + 1 ≤ i + 3 * n → ∀ (vi ar : Nat → Nat → Int32) (pr : Nat → Nat) (hh : Int64) (H : Heap) (locs : List Loc), I_ vi ar pr → dp_w D a s.heap.size (wd_h vi ar pr hh) s.heap H locs → ∀ ls : Array Slot, lv_has ls 4 [(0, .ref b), (1, .ref (s.heap.size + 0)), (2, .ref (s.heap.size + 72)), (3, .int (nI i))] → W p l e room_1 s m #[Value.ref b] below meth c H locs 600000 7302250 (lw_Z below #[Value.ref b] s) (F0 m 18 ls []) := by
  obtain ⟨hx, hb, hr, hml, hown, hts, hX, hbl, hlocks, hgv⟩ := id C0
  have hbA : ¬ (fun q : Nat => s.heap.size ≤ q) b := Nat.not_le.mpr hbl
  have X : dp_X p s m meth c code 4 RL D a s.heap.size := ⟨hx, hb, hml, hown, hlocks, hK, Nat.le_refl _⟩
  intro n
  induction n with
  | zero =>
    intro i h1 h2
    exact absurd h2 (by omega)
  | succ n ih =>
    intro i hi hin vi ar pr hh H locs hI hw ls hl
    refine lv_iload_n hx hb dL_law_18 rfl (lv_at hl 3 rfl) ?_
    refine lv_aload_n hx hb dL_law_19 rfl (lv_at hl 0 rfl) ?_
    refine va_slen hx hb hX hbl hbA hw.2.2 dL_law_20 ?_
    refine lv_iconst (v := 3) hx hb dL_law_21 (by decide) ?_
    refine lv_isub hx hb dL_law_22 ?_
    refine lv_icmp_gt (tgt := 538) hx hb dL_law_23 (by decide) (fun hc => ?_) (fun hc => ?_)
    · refine lv_iconst (v := 1) hx hb dL_law_538 (by decide) ?_
      refine va_forget (fun q hq => hw.2.2.2.2 q hq) ?_
      exact lw_ret hx hb hr hlocks dL_law_539
    · have hlt : i + 3 ≤ L := lw_lt hi hL hc
      have tail : ∀ (vi ar : Nat → Nat → Int32) (pr : Nat → Nat) (hh : Int64) (H : Heap) (locs : List Loc), I_ vi ar pr → dp_w D a s.heap.size (wd_h vi ar pr hh) s.heap H locs → W p l e room_1 s m #[Value.ref b] below meth c H locs 600000 7302250 (lw_Z below #[Value.ref b] s) (F0 m 532 ls []) := by
        intro vi ar pr hh H locs hI hw
        refine lv_iinc (v := nI (i + 3)) (lv' := [(3, .int (nI (i + 3))), (0, .ref b), (1, .ref (s.heap.size + 0)), (2, .ref (s.heap.size + 72))]) hx hb dL_law_532 hl (k := 3) rfl (nI_add i 3) (by decide) rfl (fun ls hl => ?_)
        refine lv_goto (tgt := 18) hx hb dL_law_535 (by decide) ?_
        exact ih (i + 3) (by omega) (by omega) vi ar pr hh H locs hI hw ls (lv_sub hl [1, 2, 3, 0] rfl)
      refine lv_aload_n hx hb dL_law_26 rfl (lv_at hl 0 rfl) ?_
      refine lv_iload_n hx hb dL_law_27 rfl (lv_at hl 3 rfl) ?_
      refine va_sld hx hb hX hbl hbA hw.2.2 (lw_in (k := 0) (by omega) hL) dL_law_28 ?_
      refine lv_bipush (v := 31) hx hb dL_law_29 (by decide) ?_
      refine lv_iand hx hb dL_law_31 ?_
      rcases lw_tab (xs (nI i).toNatClampNeg &&& 31) with hout | ⟨k, hk, ek⟩
      · exact lv_tableOut (tgt := 532) hx hb dL_law_32 hout (by decide) (tail vi ar pr hh H locs hI hw)
      · have kk : k = 0 ∨ k = 1 ∨ k = 2 ∨ k = 3 ∨ k = 4 ∨ k = 5 ∨ k = 6 ∨ k = 7 ∨ k = 8 ∨ k = 9 ∨ k = 10 ∨ k = 11 ∨ k = 12 ∨ k = 13 ∨ k = 14 ∨ k = 15 ∨ k = 16 ∨ k = 17 ∨ k = 18 := by omega
        rcases kk with rfl | rfl | rfl | rfl | rfl | rfl | rfl | rfl | rfl | rfl | rfl | rfl | rfl | rfl | rfl | rfl | rfl | rfl | rfl
        · refine lv_tableIn (off := 92) (tgt := 124) hx hb dL_law_32 (by rw [ek]; decide) (by rw [ek]; decide) (by rw [ek]; rfl) (by decide) ?_
          obtain ⟨v1, a1, p1, v2, a2, r, e1, e2, hI2⟩ := ok_letter (xs (nI i + 1).toNatClampNeg) vi ar pr hh hI
          have e1 : m_X6_letter (wd_h vi ar pr hh) 0 (xs (nI i + 1).toNatClampNeg) = some (wd_h v1 a1 p1 hh, r) := e1
          have e2 : m_X7_letter (wd_h v1 a1 p1 hh) 72 (xs (nI i + 1).toNatClampNeg) = some (wd_h v2 a2 p1 hh, r) := e2
          refine lv_aload_n hx hb dL_law_124 rfl (lv_at hl 1 rfl) ?_
          refine lv_aload_n hx hb dL_law_125 rfl (lv_at hl 0 rfl) ?_
          refine lv_iload_n hx hb dL_law_126 rfl (lv_at hl 3 rfl) ?_
          refine lv_iconst (v := 1) hx hb dL_law_127 (by decide) ?_
          refine lv_iadd hx hb dL_law_128 ?_
          refine va_sld hx hb hX hbl hbA hw.2.2 (i := nI i + 1) (by rw [show nI i + 1 = nI (i + 1) from nI_add i 1]; exact lw_in (by omega) hL) dL_law_129 ?_
          refine dp_cV (As := [.int (xs (nI i + 1).toNatClampNeg)]) (rest := []) X hw (c_X6_letter l D a s.heap.size (wd_h vi ar pr hh) 0 (xs (nI i + 1).toNatClampNeg) e1) vm_X6_letter ml_L_13 (by decide) rfl rfl (ck_X6_letter e1) rfl rfl hl.1 rfl (Nat.le_of_ble_eq_true rfl) dL_law_130 ⟨Nat.le_refl _, Nat.le_refl _⟩ (fun H locs hw => ?_)
          refine lv_aload_n hx hb dL_law_133 rfl (lv_at hl 2 rfl) ?_
          refine lv_aload_n hx hb dL_law_134 rfl (lv_at hl 0 rfl) ?_
          refine lv_iload_n hx hb dL_law_135 rfl (lv_at hl 3 rfl) ?_
          refine lv_iconst (v := 1) hx hb dL_law_136 (by decide) ?_
          refine lv_iadd hx hb dL_law_137 ?_
          refine va_sld hx hb hX hbl hbA hw.2.2 (i := nI i + 1) (by rw [show nI i + 1 = nI (i + 1) from nI_add i 1]; exact lw_in (by omega) hL) dL_law_138 ?_
          refine dp_cV (As := [.int (xs (nI i + 1).toNatClampNeg)]) (rest := [.int r]) X hw (c_X7_letter l D a s.heap.size (wd_h v1 a1 p1 hh) 72 (xs (nI i + 1).toNatClampNeg) e2) vm_X7_letter ml_L_17 (by decide) rfl rfl (ck_X7_letter e2) rfl rfl hl.1 rfl (Nat.le_of_ble_eq_true rfl) dL_law_139 ⟨Nat.le_refl _, Nat.le_refl _⟩ (fun H locs hw => ?_)
          exact lv_icmp_eq (tgt := 532) hx hb dL_law_142 (by decide) (fun _ => tail v2 a2 p1 hh _ _ hI2 hw) (fun hc => absurd rfl hc)
        · refine lv_tableIn (off := 115) (tgt := 147) hx hb dL_law_32 (by rw [ek]; decide) (by rw [ek]; decide) (by rw [ek]; rfl) (by decide) ?_
          obtain ⟨v1, a1, p1, v2, a2, r, e1, e2, hI2⟩ := ok_blank vi ar pr hh hI
          have e1 : m_X6_blank (wd_h vi ar pr hh) 0 = some (wd_h v1 a1 p1 hh, r) := e1
          have e2 : m_X7_blank (wd_h v1 a1 p1 hh) 72 = some (wd_h v2 a2 p1 hh, r) := e2
          refine lv_aload_n hx hb dL_law_147 rfl (lv_at hl 1 rfl) ?_
          refine dp_cV (As := []) (rest := []) X hw (c_X6_blank l D a s.heap.size (wd_h vi ar pr hh) 0 e1) vm_X6_blank ml_L_18 (by decide) rfl rfl (ck_X6_blank e1) rfl rfl hl.1 rfl (Nat.le_of_ble_eq_true rfl) dL_law_148 ⟨Nat.le_refl _, Nat.le_refl _⟩ (fun H locs hw => ?_)
          refine lv_aload_n hx hb dL_law_151 rfl (lv_at hl 2 rfl) ?_
          refine dp_cV (As := []) (rest := [.int r]) X hw (c_X7_blank l D a s.heap.size (wd_h v1 a1 p1 hh) 72 e2) vm_X7_blank ml_L_22 (by decide) rfl rfl (ck_X7_blank e2) rfl rfl hl.1 rfl (Nat.le_of_ble_eq_true rfl) dL_law_152 ⟨Nat.le_refl _, Nat.le_refl _⟩ (fun H locs hw => ?_)
          exact lv_icmp_eq (tgt := 532) hx hb dL_law_155 (by decide) (fun _ => tail v2 a2 p1 hh _ _ hI2 hw) (fun hc => absurd rfl hc)
        · refine lv_tableIn (off := 128) (tgt := 160) hx hb dL_law_32 (by rw [ek]; decide) (by rw [ek]; decide) (by rw [ek]; rfl) (by decide) ?_
          obtain ⟨v1, a1, p1, v2, a2, r, e1, e2, hI2⟩ := ok_fault vi ar pr hh hI
          have e1 : m_X6_fault (wd_h vi ar pr hh) 0 = some (wd_h v1 a1 p1 hh, r) := e1
          have e2 : m_X7_fault (wd_h v1 a1 p1 hh) 72 = some (wd_h v2 a2 p1 hh, r) := e2
          refine lv_aload_n hx hb dL_law_160 rfl (lv_at hl 1 rfl) ?_
          refine dp_cV (As := []) (rest := []) X hw (c_X6_fault l D a s.heap.size (wd_h vi ar pr hh) 0 e1) vm_X6_fault ml_L_23 (by decide) rfl rfl (ck_X6_fault e1) rfl rfl hl.1 rfl (Nat.le_of_ble_eq_true rfl) dL_law_161 ⟨Nat.le_refl _, Nat.le_refl _⟩ (fun H locs hw => ?_)
          refine lv_aload_n hx hb dL_law_164 rfl (lv_at hl 2 rfl) ?_
          refine dp_cV (As := []) (rest := [.int r]) X hw (c_X7_fault l D a s.heap.size (wd_h v1 a1 p1 hh) 72 e2) vm_X7_fault ml_L_26 (by decide) rfl rfl (ck_X7_fault e2) rfl rfl hl.1 rfl (Nat.le_of_ble_eq_true rfl) dL_law_165 ⟨Nat.le_refl _, Nat.le_refl _⟩ (fun H locs hw => ?_)
          exact lv_icmp_eq (tgt := 532) hx hb dL_law_168 (by decide) (fun _ => tail v2 a2 p1 hh _ _ hI2 hw) (fun hc => absurd rfl hc)
        · refine lv_tableIn (off := 141) (tgt := 173) hx hb dL_law_32 (by rw [ek]; decide) (by rw [ek]; decide) (by rw [ek]; rfl) (by decide) ?_
          obtain ⟨v1, a1, p1, v2, a2, r, e1, e2, hI2⟩ := ok_add vi ar pr hh hI
          have e1 : m_X6_add (wd_h vi ar pr hh) 0 = some (wd_h v1 a1 p1 hh, r) := e1
          have e2 : m_X7_add (wd_h v1 a1 p1 hh) 72 = some (wd_h v2 a2 p1 hh, r) := e2
          refine lv_aload_n hx hb dL_law_173 rfl (lv_at hl 1 rfl) ?_
          refine dp_cV (As := []) (rest := []) X hw (c_X6_add l D a s.heap.size (wd_h vi ar pr hh) 0 e1) vm_X6_add ml_L_27 (by decide) rfl rfl (ck_X6_add e1) rfl rfl hl.1 rfl (Nat.le_of_ble_eq_true rfl) dL_law_174 ⟨Nat.le_refl _, Nat.le_refl _⟩ (fun H locs hw => ?_)
          refine lv_aload_n hx hb dL_law_177 rfl (lv_at hl 2 rfl) ?_
          refine dp_cV (As := []) (rest := [.int r]) X hw (c_X7_add l D a s.heap.size (wd_h v1 a1 p1 hh) 72 e2) vm_X7_add ml_L_30 (by decide) rfl rfl (ck_X7_add e2) rfl rfl hl.1 rfl (Nat.le_of_ble_eq_true rfl) dL_law_178 ⟨Nat.le_refl _, Nat.le_refl _⟩ (fun H locs hw => ?_)
          exact lv_icmp_eq (tgt := 532) hx hb dL_law_181 (by decide) (fun _ => tail v2 a2 p1 hh _ _ hI2 hw) (fun hc => absurd rfl hc)
        · refine lv_tableIn (off := 154) (tgt := 186) hx hb dL_law_32 (by rw [ek]; decide) (by rw [ek]; decide) (by rw [ek]; rfl) (by decide) ?_
          obtain ⟨v1, a1, p1, v2, a2, r, e1, e2, hI2⟩ := ok_drop (xs (nI i + 1).toNatClampNeg) vi ar pr hh hI
          have e1 : m_X6_drop (wd_h vi ar pr hh) 0 (xs (nI i + 1).toNatClampNeg) = some (wd_h v1 a1 p1 hh, r) := e1
          have e2 : m_X7_drop (wd_h v1 a1 p1 hh) 72 (xs (nI i + 1).toNatClampNeg) = some (wd_h v2 a2 p1 hh, r) := e2
          refine lv_aload_n hx hb dL_law_186 rfl (lv_at hl 1 rfl) ?_
          refine lv_aload_n hx hb dL_law_187 rfl (lv_at hl 0 rfl) ?_
          refine lv_iload_n hx hb dL_law_188 rfl (lv_at hl 3 rfl) ?_
          refine lv_iconst (v := 1) hx hb dL_law_189 (by decide) ?_
          refine lv_iadd hx hb dL_law_190 ?_
          refine va_sld hx hb hX hbl hbA hw.2.2 (i := nI i + 1) (by rw [show nI i + 1 = nI (i + 1) from nI_add i 1]; exact lw_in (by omega) hL) dL_law_191 ?_
          refine dp_cV (As := [.int (xs (nI i + 1).toNatClampNeg)]) (rest := []) X hw (c_X6_drop l D a s.heap.size (wd_h vi ar pr hh) 0 (xs (nI i + 1).toNatClampNeg) e1) vm_X6_drop ml_L_31 (by decide) rfl rfl (ck_X6_drop e1) rfl rfl hl.1 rfl (Nat.le_of_ble_eq_true rfl) dL_law_192 ⟨Nat.le_refl _, Nat.le_refl _⟩ (fun H locs hw => ?_)
          refine lv_aload_n hx hb dL_law_195 rfl (lv_at hl 2 rfl) ?_
          refine lv_aload_n hx hb dL_law_196 rfl (lv_at hl 0 rfl) ?_
          refine lv_iload_n hx hb dL_law_197 rfl (lv_at hl 3 rfl) ?_
          refine lv_iconst (v := 1) hx hb dL_law_198 (by decide) ?_
          refine lv_iadd hx hb dL_law_199 ?_
          refine va_sld hx hb hX hbl hbA hw.2.2 (i := nI i + 1) (by rw [show nI i + 1 = nI (i + 1) from nI_add i 1]; exact lw_in (by omega) hL) dL_law_200 ?_
          refine dp_cV (As := [.int (xs (nI i + 1).toNatClampNeg)]) (rest := [.int r]) X hw (c_X7_drop l D a s.heap.size (wd_h v1 a1 p1 hh) 72 (xs (nI i + 1).toNatClampNeg) e2) vm_X7_drop ml_L_34 (by decide) rfl rfl (ck_X7_drop e2) rfl rfl hl.1 rfl (Nat.le_of_ble_eq_true rfl) dL_law_201 ⟨Nat.le_refl _, Nat.le_refl _⟩ (fun H locs hw => ?_)
          exact lv_icmp_eq (tgt := 532) hx hb dL_law_204 (by decide) (fun _ => tail v2 a2 p1 hh _ _ hI2 hw) (fun hc => absurd rfl hc)
        · refine lv_tableIn (off := 177) (tgt := 209) hx hb dL_law_32 (by rw [ek]; decide) (by rw [ek]; decide) (by rw [ek]; rfl) (by decide) ?_
          obtain ⟨r, e1, e2⟩ := ok_pattern (xs (nI i + 1).toNatClampNeg) (xs (nI i + 2).toNatClampNeg) vi ar pr hh hI
          have e1 : m_X6_pattern (wd_h vi ar pr hh) 0 (xs (nI i + 1).toNatClampNeg) (xs (nI i + 2).toNatClampNeg) = some r := e1
          have e2 : m_X7_pattern (wd_h vi ar pr hh) 72 (xs (nI i + 1).toNatClampNeg) (xs (nI i + 2).toNatClampNeg) = some r := e2
          refine lv_aload_n hx hb dL_law_209 rfl (lv_at hl 1 rfl) ?_
          refine lv_aload_n hx hb dL_law_210 rfl (lv_at hl 0 rfl) ?_
          refine lv_iload_n hx hb dL_law_211 rfl (lv_at hl 3 rfl) ?_
          refine lv_iconst (v := 1) hx hb dL_law_212 (by decide) ?_
          refine lv_iadd hx hb dL_law_213 ?_
          refine va_sld hx hb hX hbl hbA hw.2.2 (i := nI i + 1) (by rw [show nI i + 1 = nI (i + 1) from nI_add i 1]; exact lw_in (by omega) hL) dL_law_214 ?_
          refine lv_aload_n hx hb dL_law_215 rfl (lv_at hl 0 rfl) ?_
          refine lv_iload_n hx hb dL_law_216 rfl (lv_at hl 3 rfl) ?_
          refine lv_iconst (v := 2) hx hb dL_law_217 (by decide) ?_
          refine lv_iadd hx hb dL_law_218 ?_
          refine va_sld hx hb hX hbl hbA hw.2.2 (i := nI i + 2) (by rw [show nI i + 2 = nI (i + 2) from nI_add i 2]; exact lw_in (by omega) hL) dL_law_219 ?_
          refine dp_cV (As := [.int (xs (nI i + 1).toNatClampNeg), .int (xs (nI i + 2).toNatClampNeg)]) (rest := []) X hw (c_X6_pattern l D a s.heap.size (wd_h vi ar pr hh) 0 (xs (nI i + 1).toNatClampNeg) (xs (nI i + 2).toNatClampNeg) e1) vm_X6_pattern ml_L_35 (by decide) rfl rfl (ck_X6_pattern e1) rfl rfl hl.1 rfl (Nat.le_of_ble_eq_true rfl) dL_law_220 ⟨Nat.le_refl _, Nat.le_refl _⟩ (fun H locs hw => ?_)
          refine lv_aload_n hx hb dL_law_223 rfl (lv_at hl 2 rfl) ?_
          refine lv_aload_n hx hb dL_law_224 rfl (lv_at hl 0 rfl) ?_
          refine lv_iload_n hx hb dL_law_225 rfl (lv_at hl 3 rfl) ?_
          refine lv_iconst (v := 1) hx hb dL_law_226 (by decide) ?_
          refine lv_iadd hx hb dL_law_227 ?_
          refine va_sld hx hb hX hbl hbA hw.2.2 (i := nI i + 1) (by rw [show nI i + 1 = nI (i + 1) from nI_add i 1]; exact lw_in (by omega) hL) dL_law_228 ?_
          refine lv_aload_n hx hb dL_law_229 rfl (lv_at hl 0 rfl) ?_
          refine lv_iload_n hx hb dL_law_230 rfl (lv_at hl 3 rfl) ?_
          refine lv_iconst (v := 2) hx hb dL_law_231 (by decide) ?_
          refine lv_iadd hx hb dL_law_232 ?_
          refine va_sld hx hb hX hbl hbA hw.2.2 (i := nI i + 2) (by rw [show nI i + 2 = nI (i + 2) from nI_add i 2]; exact lw_in (by omega) hL) dL_law_233 ?_
          refine dp_cV (As := [.int (xs (nI i + 1).toNatClampNeg), .int (xs (nI i + 2).toNatClampNeg)]) (rest := [.int r]) X hw (c_X7_pattern l D a s.heap.size (wd_h vi ar pr hh) 72 (xs (nI i + 1).toNatClampNeg) (xs (nI i + 2).toNatClampNeg) e2) vm_X7_pattern ml_L_39 (by decide) rfl rfl (ck_X7_pattern e2) rfl rfl hl.1 rfl (Nat.le_of_ble_eq_true rfl) dL_law_234 ⟨Nat.le_refl _, Nat.le_refl _⟩ (fun H locs hw => ?_)
          exact lv_icmp_eq (tgt := 532) hx hb dL_law_237 (by decide) (fun _ => tail vi ar pr hh _ _ hI hw) (fun hc => absurd rfl hc)
        · refine lv_tableIn (off := 210) (tgt := 242) hx hb dL_law_32 (by rw [ek]; decide) (by rw [ek]; decide) (by rw [ek]; rfl) (by decide) ?_
          obtain ⟨r, e1, e2⟩ := ok_lets (xs (nI i + 1).toNatClampNeg) (xs (nI i + 2).toNatClampNeg) vi ar pr hh hI
          have e1 : m_X6_lets (wd_h vi ar pr hh) 0 (xs (nI i + 1).toNatClampNeg) (xs (nI i + 2).toNatClampNeg) = some r := e1
          have e2 : m_X7_lets (wd_h vi ar pr hh) 72 (xs (nI i + 1).toNatClampNeg) (xs (nI i + 2).toNatClampNeg) = some r := e2
          refine lv_aload_n hx hb dL_law_242 rfl (lv_at hl 1 rfl) ?_
          refine lv_aload_n hx hb dL_law_243 rfl (lv_at hl 0 rfl) ?_
          refine lv_iload_n hx hb dL_law_244 rfl (lv_at hl 3 rfl) ?_
          refine lv_iconst (v := 1) hx hb dL_law_245 (by decide) ?_
          refine lv_iadd hx hb dL_law_246 ?_
          refine va_sld hx hb hX hbl hbA hw.2.2 (i := nI i + 1) (by rw [show nI i + 1 = nI (i + 1) from nI_add i 1]; exact lw_in (by omega) hL) dL_law_247 ?_
          refine lv_aload_n hx hb dL_law_248 rfl (lv_at hl 0 rfl) ?_
          refine lv_iload_n hx hb dL_law_249 rfl (lv_at hl 3 rfl) ?_
          refine lv_iconst (v := 2) hx hb dL_law_250 (by decide) ?_
          refine lv_iadd hx hb dL_law_251 ?_
          refine va_sld hx hb hX hbl hbA hw.2.2 (i := nI i + 2) (by rw [show nI i + 2 = nI (i + 2) from nI_add i 2]; exact lw_in (by omega) hL) dL_law_252 ?_
          refine dp_cV (As := [.int (xs (nI i + 1).toNatClampNeg), .int (xs (nI i + 2).toNatClampNeg)]) (rest := []) X hw (c_X6_lets l D a s.heap.size (wd_h vi ar pr hh) 0 (xs (nI i + 1).toNatClampNeg) (xs (nI i + 2).toNatClampNeg) e1) vm_X6_lets ml_L_40 (by decide) rfl rfl (ck_X6_lets e1) rfl rfl hl.1 rfl (Nat.le_of_ble_eq_true rfl) dL_law_253 ⟨Nat.le_refl _, Nat.le_refl _⟩ (fun H locs hw => ?_)
          refine lv_aload_n hx hb dL_law_256 rfl (lv_at hl 2 rfl) ?_
          refine lv_aload_n hx hb dL_law_257 rfl (lv_at hl 0 rfl) ?_
          refine lv_iload_n hx hb dL_law_258 rfl (lv_at hl 3 rfl) ?_
          refine lv_iconst (v := 1) hx hb dL_law_259 (by decide) ?_
          refine lv_iadd hx hb dL_law_260 ?_
          refine va_sld hx hb hX hbl hbA hw.2.2 (i := nI i + 1) (by rw [show nI i + 1 = nI (i + 1) from nI_add i 1]; exact lw_in (by omega) hL) dL_law_261 ?_
          refine lv_aload_n hx hb dL_law_262 rfl (lv_at hl 0 rfl) ?_
          refine lv_iload_n hx hb dL_law_263 rfl (lv_at hl 3 rfl) ?_
          refine lv_iconst (v := 2) hx hb dL_law_264 (by decide) ?_
          refine lv_iadd hx hb dL_law_265 ?_
          refine va_sld hx hb hX hbl hbA hw.2.2 (i := nI i + 2) (by rw [show nI i + 2 = nI (i + 2) from nI_add i 2]; exact lw_in (by omega) hL) dL_law_266 ?_
          refine dp_cV (As := [.int (xs (nI i + 1).toNatClampNeg), .int (xs (nI i + 2).toNatClampNeg)]) (rest := [.int r]) X hw (c_X7_lets l D a s.heap.size (wd_h vi ar pr hh) 72 (xs (nI i + 1).toNatClampNeg) (xs (nI i + 2).toNatClampNeg) e2) vm_X7_lets ml_L_43 (by decide) rfl rfl (ck_X7_lets e2) rfl rfl hl.1 rfl (Nat.le_of_ble_eq_true rfl) dL_law_267 ⟨Nat.le_refl _, Nat.le_refl _⟩ (fun H locs hw => ?_)
          exact lv_icmp_eq (tgt := 532) hx hb dL_law_270 (by decide) (fun _ => tail vi ar pr hh _ _ hI hw) (fun hc => absurd rfl hc)
        · refine lv_tableIn (off := 243) (tgt := 275) hx hb dL_law_32 (by rw [ek]; decide) (by rw [ek]; decide) (by rw [ek]; rfl) (by decide) ?_
          obtain ⟨r, e1, e2⟩ := ok_narrower (xs (nI i + 1).toNatClampNeg) (xs (nI i + 2).toNatClampNeg) vi ar pr hh hI
          have e1 : m_X6_narrower (wd_h vi ar pr hh) 0 (xs (nI i + 1).toNatClampNeg) (xs (nI i + 2).toNatClampNeg) = some r := e1
          have e2 : m_X7_narrower (wd_h vi ar pr hh) 72 (xs (nI i + 1).toNatClampNeg) (xs (nI i + 2).toNatClampNeg) = some r := e2
          refine lv_aload_n hx hb dL_law_275 rfl (lv_at hl 1 rfl) ?_
          refine lv_aload_n hx hb dL_law_276 rfl (lv_at hl 0 rfl) ?_
          refine lv_iload_n hx hb dL_law_277 rfl (lv_at hl 3 rfl) ?_
          refine lv_iconst (v := 1) hx hb dL_law_278 (by decide) ?_
          refine lv_iadd hx hb dL_law_279 ?_
          refine va_sld hx hb hX hbl hbA hw.2.2 (i := nI i + 1) (by rw [show nI i + 1 = nI (i + 1) from nI_add i 1]; exact lw_in (by omega) hL) dL_law_280 ?_
          refine lv_aload_n hx hb dL_law_281 rfl (lv_at hl 0 rfl) ?_
          refine lv_iload_n hx hb dL_law_282 rfl (lv_at hl 3 rfl) ?_
          refine lv_iconst (v := 2) hx hb dL_law_283 (by decide) ?_
          refine lv_iadd hx hb dL_law_284 ?_
          refine va_sld hx hb hX hbl hbA hw.2.2 (i := nI i + 2) (by rw [show nI i + 2 = nI (i + 2) from nI_add i 2]; exact lw_in (by omega) hL) dL_law_285 ?_
          refine dp_cV (As := [.int (xs (nI i + 1).toNatClampNeg), .int (xs (nI i + 2).toNatClampNeg)]) (rest := []) X hw (c_X6_narrower l D a s.heap.size (wd_h vi ar pr hh) 0 (xs (nI i + 1).toNatClampNeg) (xs (nI i + 2).toNatClampNeg) e1) vm_X6_narrower ml_L_44 (by decide) rfl rfl (ck_X6_narrower e1) rfl rfl hl.1 rfl (Nat.le_of_ble_eq_true rfl) dL_law_286 ⟨Nat.le_refl _, Nat.le_refl _⟩ (fun H locs hw => ?_)
          refine lv_aload_n hx hb dL_law_289 rfl (lv_at hl 2 rfl) ?_
          refine lv_aload_n hx hb dL_law_290 rfl (lv_at hl 0 rfl) ?_
          refine lv_iload_n hx hb dL_law_291 rfl (lv_at hl 3 rfl) ?_
          refine lv_iconst (v := 1) hx hb dL_law_292 (by decide) ?_
          refine lv_iadd hx hb dL_law_293 ?_
          refine va_sld hx hb hX hbl hbA hw.2.2 (i := nI i + 1) (by rw [show nI i + 1 = nI (i + 1) from nI_add i 1]; exact lw_in (by omega) hL) dL_law_294 ?_
          refine lv_aload_n hx hb dL_law_295 rfl (lv_at hl 0 rfl) ?_
          refine lv_iload_n hx hb dL_law_296 rfl (lv_at hl 3 rfl) ?_
          refine lv_iconst (v := 2) hx hb dL_law_297 (by decide) ?_
          refine lv_iadd hx hb dL_law_298 ?_
          refine va_sld hx hb hX hbl hbA hw.2.2 (i := nI i + 2) (by rw [show nI i + 2 = nI (i + 2) from nI_add i 2]; exact lw_in (by omega) hL) dL_law_299 ?_
          refine dp_cV (As := [.int (xs (nI i + 1).toNatClampNeg), .int (xs (nI i + 2).toNatClampNeg)]) (rest := [.int r]) X hw (c_X7_narrower l D a s.heap.size (wd_h vi ar pr hh) 72 (xs (nI i + 1).toNatClampNeg) (xs (nI i + 2).toNatClampNeg) e2) vm_X7_narrower ml_L_47 (by decide) rfl rfl (ck_X7_narrower e2) rfl rfl hl.1 rfl (Nat.le_of_ble_eq_true rfl) dL_law_300 ⟨Nat.le_refl _, Nat.le_refl _⟩ (fun H locs hw => ?_)
          exact lv_icmp_eq (tgt := 532) hx hb dL_law_303 (by decide) (fun _ => tail vi ar pr hh _ _ hI hw) (fun hc => absurd rfl hc)
        · refine lv_tableIn (off := 276) (tgt := 308) hx hb dL_law_32 (by rw [ek]; decide) (by rw [ek]; decide) (by rw [ek]; rfl) (by decide) ?_
          obtain ⟨r, e1, e2⟩ := ok_clash (xs (nI i + 1).toNatClampNeg) vi ar pr hh hI
          have e1 : m_X6_clash (wd_h vi ar pr hh) 0 (xs (nI i + 1).toNatClampNeg) = some r := e1
          have e2 : m_X7_clash (wd_h vi ar pr hh) 72 (xs (nI i + 1).toNatClampNeg) = some r := e2
          refine lv_aload_n hx hb dL_law_308 rfl (lv_at hl 1 rfl) ?_
          refine lv_aload_n hx hb dL_law_309 rfl (lv_at hl 0 rfl) ?_
          refine lv_iload_n hx hb dL_law_310 rfl (lv_at hl 3 rfl) ?_
          refine lv_iconst (v := 1) hx hb dL_law_311 (by decide) ?_
          refine lv_iadd hx hb dL_law_312 ?_
          refine va_sld hx hb hX hbl hbA hw.2.2 (i := nI i + 1) (by rw [show nI i + 1 = nI (i + 1) from nI_add i 1]; exact lw_in (by omega) hL) dL_law_313 ?_
          refine dp_cV (As := [.int (xs (nI i + 1).toNatClampNeg)]) (rest := []) X hw (c_X6_clash l D a s.heap.size (wd_h vi ar pr hh) 0 (xs (nI i + 1).toNatClampNeg) e1) vm_X6_clash ml_L_48 (by decide) rfl rfl (ck_X6_clash e1) rfl rfl hl.1 rfl (Nat.le_of_ble_eq_true rfl) dL_law_314 ⟨Nat.le_refl _, Nat.le_refl _⟩ (fun H locs hw => ?_)
          refine lv_aload_n hx hb dL_law_317 rfl (lv_at hl 2 rfl) ?_
          refine lv_aload_n hx hb dL_law_318 rfl (lv_at hl 0 rfl) ?_
          refine lv_iload_n hx hb dL_law_319 rfl (lv_at hl 3 rfl) ?_
          refine lv_iconst (v := 1) hx hb dL_law_320 (by decide) ?_
          refine lv_iadd hx hb dL_law_321 ?_
          refine va_sld hx hb hX hbl hbA hw.2.2 (i := nI i + 1) (by rw [show nI i + 1 = nI (i + 1) from nI_add i 1]; exact lw_in (by omega) hL) dL_law_322 ?_
          refine dp_cV (As := [.int (xs (nI i + 1).toNatClampNeg)]) (rest := [.int r]) X hw (c_X7_clash l D a s.heap.size (wd_h vi ar pr hh) 72 (xs (nI i + 1).toNatClampNeg) e2) vm_X7_clash ml_L_51 (by decide) rfl rfl (ck_X7_clash e2) rfl rfl hl.1 rfl (Nat.le_of_ble_eq_true rfl) dL_law_323 ⟨Nat.le_refl _, Nat.le_refl _⟩ (fun H locs hw => ?_)
          exact lv_icmp_eq (tgt := 532) hx hb dL_law_326 (by decide) (fun _ => tail vi ar pr hh _ _ hI hw) (fun hc => absurd rfl hc)
        · refine lv_tableIn (off := 299) (tgt := 331) hx hb dL_law_32 (by rw [ek]; decide) (by rw [ek]; decide) (by rw [ek]; rfl) (by decide) ?_
          obtain ⟨v1, a1, p1, v2, a2, r, e1, e2, hI2⟩ := ok_row (xs (nI i + 1).toNatClampNeg) vi ar pr hh hI
          have e1 : m_X6_row (wd_h vi ar pr hh) 0 (xs (nI i + 1).toNatClampNeg) = some (wd_h v1 a1 p1 hh, r) := e1
          have e2 : m_X7_row (wd_h v1 a1 p1 hh) 72 (xs (nI i + 1).toNatClampNeg) = some (wd_h v2 a2 p1 hh, r) := e2
          refine lv_aload_n hx hb dL_law_331 rfl (lv_at hl 1 rfl) ?_
          refine lv_aload_n hx hb dL_law_332 rfl (lv_at hl 0 rfl) ?_
          refine lv_iload_n hx hb dL_law_333 rfl (lv_at hl 3 rfl) ?_
          refine lv_iconst (v := 1) hx hb dL_law_334 (by decide) ?_
          refine lv_iadd hx hb dL_law_335 ?_
          refine va_sld hx hb hX hbl hbA hw.2.2 (i := nI i + 1) (by rw [show nI i + 1 = nI (i + 1) from nI_add i 1]; exact lw_in (by omega) hL) dL_law_336 ?_
          refine dp_cV (As := [.int (xs (nI i + 1).toNatClampNeg)]) (rest := []) X hw (c_X6_row l D a s.heap.size (wd_h vi ar pr hh) 0 (xs (nI i + 1).toNatClampNeg) e1) vm_X6_row ml_L_52 (by decide) rfl rfl (ck_X6_row e1) rfl rfl hl.1 rfl (Nat.le_of_ble_eq_true rfl) dL_law_337 ⟨Nat.le_refl _, Nat.le_refl _⟩ (fun H locs hw => ?_)
          refine lv_aload_n hx hb dL_law_340 rfl (lv_at hl 2 rfl) ?_
          refine lv_aload_n hx hb dL_law_341 rfl (lv_at hl 0 rfl) ?_
          refine lv_iload_n hx hb dL_law_342 rfl (lv_at hl 3 rfl) ?_
          refine lv_iconst (v := 1) hx hb dL_law_343 (by decide) ?_
          refine lv_iadd hx hb dL_law_344 ?_
          refine va_sld hx hb hX hbl hbA hw.2.2 (i := nI i + 1) (by rw [show nI i + 1 = nI (i + 1) from nI_add i 1]; exact lw_in (by omega) hL) dL_law_345 ?_
          refine dp_cV (As := [.int (xs (nI i + 1).toNatClampNeg)]) (rest := [.int r]) X hw (c_X7_row l D a s.heap.size (wd_h v1 a1 p1 hh) 72 (xs (nI i + 1).toNatClampNeg) e2) vm_X7_row ml_L_55 (by decide) rfl rfl (ck_X7_row e2) rfl rfl hl.1 rfl (Nat.le_of_ble_eq_true rfl) dL_law_346 ⟨Nat.le_refl _, Nat.le_refl _⟩ (fun H locs hw => ?_)
          exact lv_icmp_eq (tgt := 532) hx hb dL_law_349 (by decide) (fun _ => tail v2 a2 p1 hh _ _ hI2 hw) (fun hc => absurd rfl hc)
        · refine lv_tableIn (off := 322) (tgt := 354) hx hb dL_law_32 (by rw [ek]; decide) (by rw [ek]; decide) (by rw [ek]; rfl) (by decide) ?_
          obtain ⟨v1, a1, p1, v2, a2, r, e1, e2, hI2⟩ := ok_stage (xs (nI i + 1).toNatClampNeg) (xs (nI i + 2).toNatClampNeg) vi ar pr hh hI
          have e1 : m_X6_stage (wd_h vi ar pr hh) 0 (xs (nI i + 1).toNatClampNeg) (xs (nI i + 2).toNatClampNeg) = some (wd_h v1 a1 p1 hh, r) := e1
          have e2 : m_X7_stage (wd_h v1 a1 p1 hh) 72 (xs (nI i + 1).toNatClampNeg) (xs (nI i + 2).toNatClampNeg) = some (wd_h v2 a2 p1 hh, r) := e2
          refine lv_aload_n hx hb dL_law_354 rfl (lv_at hl 1 rfl) ?_
          refine lv_aload_n hx hb dL_law_355 rfl (lv_at hl 0 rfl) ?_
          refine lv_iload_n hx hb dL_law_356 rfl (lv_at hl 3 rfl) ?_
          refine lv_iconst (v := 1) hx hb dL_law_357 (by decide) ?_
          refine lv_iadd hx hb dL_law_358 ?_
          refine va_sld hx hb hX hbl hbA hw.2.2 (i := nI i + 1) (by rw [show nI i + 1 = nI (i + 1) from nI_add i 1]; exact lw_in (by omega) hL) dL_law_359 ?_
          refine lv_aload_n hx hb dL_law_360 rfl (lv_at hl 0 rfl) ?_
          refine lv_iload_n hx hb dL_law_361 rfl (lv_at hl 3 rfl) ?_
          refine lv_iconst (v := 2) hx hb dL_law_362 (by decide) ?_
          refine lv_iadd hx hb dL_law_363 ?_
          refine va_sld hx hb hX hbl hbA hw.2.2 (i := nI i + 2) (by rw [show nI i + 2 = nI (i + 2) from nI_add i 2]; exact lw_in (by omega) hL) dL_law_364 ?_
          refine dp_cV (As := [.int (xs (nI i + 1).toNatClampNeg), .int (xs (nI i + 2).toNatClampNeg)]) (rest := []) X hw (c_X6_stage l D a s.heap.size (wd_h vi ar pr hh) 0 (xs (nI i + 1).toNatClampNeg) (xs (nI i + 2).toNatClampNeg) e1) vm_X6_stage ml_L_56 (by decide) rfl rfl (ck_X6_stage e1) rfl rfl hl.1 rfl (Nat.le_of_ble_eq_true rfl) dL_law_365 ⟨Nat.le_refl _, Nat.le_refl _⟩ (fun H locs hw => ?_)
          refine lv_aload_n hx hb dL_law_368 rfl (lv_at hl 2 rfl) ?_
          refine lv_aload_n hx hb dL_law_369 rfl (lv_at hl 0 rfl) ?_
          refine lv_iload_n hx hb dL_law_370 rfl (lv_at hl 3 rfl) ?_
          refine lv_iconst (v := 1) hx hb dL_law_371 (by decide) ?_
          refine lv_iadd hx hb dL_law_372 ?_
          refine va_sld hx hb hX hbl hbA hw.2.2 (i := nI i + 1) (by rw [show nI i + 1 = nI (i + 1) from nI_add i 1]; exact lw_in (by omega) hL) dL_law_373 ?_
          refine lv_aload_n hx hb dL_law_374 rfl (lv_at hl 0 rfl) ?_
          refine lv_iload_n hx hb dL_law_375 rfl (lv_at hl 3 rfl) ?_
          refine lv_iconst (v := 2) hx hb dL_law_376 (by decide) ?_
          refine lv_iadd hx hb dL_law_377 ?_
          refine va_sld hx hb hX hbl hbA hw.2.2 (i := nI i + 2) (by rw [show nI i + 2 = nI (i + 2) from nI_add i 2]; exact lw_in (by omega) hL) dL_law_378 ?_
          refine dp_cV (As := [.int (xs (nI i + 1).toNatClampNeg), .int (xs (nI i + 2).toNatClampNeg)]) (rest := [.int r]) X hw (c_X7_stage l D a s.heap.size (wd_h v1 a1 p1 hh) 72 (xs (nI i + 1).toNatClampNeg) (xs (nI i + 2).toNatClampNeg) e2) vm_X7_stage ml_L_59 (by decide) rfl rfl (ck_X7_stage e2) rfl rfl hl.1 rfl (Nat.le_of_ble_eq_true rfl) dL_law_379 ⟨Nat.le_refl _, Nat.le_refl _⟩ (fun H locs hw => ?_)
          exact lv_icmp_eq (tgt := 532) hx hb dL_law_382 (by decide) (fun _ => tail v2 a2 p1 hh _ _ hI2 hw) (fun hc => absurd rfl hc)
        · refine lv_tableIn (off := 355) (tgt := 387) hx hb dL_law_32 (by rw [ek]; decide) (by rw [ek]; decide) (by rw [ek]; rfl) (by decide) ?_
          obtain ⟨v1, a1, p1, v2, a2, r, e1, e2, hI2⟩ := ok_lift vi ar pr hh hI
          have e1 : m_X6_lift (wd_h vi ar pr hh) 0 = some (wd_h v1 a1 p1 hh, r) := e1
          have e2 : m_X7_lift (wd_h v1 a1 p1 hh) 72 = some (wd_h v2 a2 p1 hh, r) := e2
          refine lv_aload_n hx hb dL_law_387 rfl (lv_at hl 1 rfl) ?_
          refine dp_cV (As := []) (rest := []) X hw (c_X6_lift l D a s.heap.size (wd_h vi ar pr hh) 0 e1) vm_X6_lift ml_L_60 (by decide) rfl rfl (ck_X6_lift e1) rfl rfl hl.1 rfl (Nat.le_of_ble_eq_true rfl) dL_law_388 ⟨Nat.le_refl _, Nat.le_refl _⟩ (fun H locs hw => ?_)
          refine lv_aload_n hx hb dL_law_391 rfl (lv_at hl 2 rfl) ?_
          refine dp_cV (As := []) (rest := [.int r]) X hw (c_X7_lift l D a s.heap.size (wd_h v1 a1 p1 hh) 72 e2) vm_X7_lift ml_L_63 (by decide) rfl rfl (ck_X7_lift e2) rfl rfl hl.1 rfl (Nat.le_of_ble_eq_true rfl) dL_law_392 ⟨Nat.le_refl _, Nat.le_refl _⟩ (fun H locs hw => ?_)
          exact lv_icmp_eq (tgt := 532) hx hb dL_law_395 (by decide) (fun _ => tail v2 a2 p1 hh _ _ hI2 hw) (fun hc => absurd rfl hc)
        · refine lv_tableIn (off := 368) (tgt := 400) hx hb dL_law_32 (by rw [ek]; decide) (by rw [ek]; decide) (by rw [ek]; rfl) (by decide) ?_
          obtain ⟨v1, a1, p1, v2, a2, r, e1, e2, hI2⟩ := ok_hang vi ar pr hh hI
          have e1 : m_X6_hang (wd_h vi ar pr hh) 0 = some (wd_h v1 a1 p1 hh, r) := e1
          have e2 : m_X7_hang (wd_h v1 a1 p1 hh) 72 = some (wd_h v2 a2 p1 hh, r) := e2
          refine lv_aload_n hx hb dL_law_400 rfl (lv_at hl 1 rfl) ?_
          refine dp_cV (As := []) (rest := []) X hw (c_X6_hang l D a s.heap.size (wd_h vi ar pr hh) 0 e1) vm_X6_hang ml_L_64 (by decide) rfl rfl (ck_X6_hang e1) rfl rfl hl.1 rfl (Nat.le_of_ble_eq_true rfl) dL_law_401 ⟨Nat.le_refl _, Nat.le_refl _⟩ (fun H locs hw => ?_)
          refine lv_aload_n hx hb dL_law_404 rfl (lv_at hl 2 rfl) ?_
          refine dp_cV (As := []) (rest := [.int r]) X hw (c_X7_hang l D a s.heap.size (wd_h v1 a1 p1 hh) 72 e2) vm_X7_hang ml_L_67 (by decide) rfl rfl (ck_X7_hang e2) rfl rfl hl.1 rfl (Nat.le_of_ble_eq_true rfl) dL_law_405 ⟨Nat.le_refl _, Nat.le_refl _⟩ (fun H locs hw => ?_)
          exact lv_icmp_eq (tgt := 532) hx hb dL_law_408 (by decide) (fun _ => tail v2 a2 p1 hh _ _ hI2 hw) (fun hc => absurd rfl hc)
        · refine lv_tableIn (off := 381) (tgt := 413) hx hb dL_law_32 (by rw [ek]; decide) (by rw [ek]; decide) (by rw [ek]; rfl) (by decide) ?_
          obtain ⟨v1, a1, p1, v2, a2, r, e1, e2, hI2⟩ := ok_press (xs (nI i + 1).toNatClampNeg) vi ar pr hh hI
          have e1 : m_X6_press (wd_h vi ar pr hh) 0 (xs (nI i + 1).toNatClampNeg) = some (wd_h v1 a1 p1 hh, r) := e1
          have e2 : m_X7_press (wd_h v1 a1 p1 hh) 72 (xs (nI i + 1).toNatClampNeg) = some (wd_h v2 a2 p1 hh, r) := e2
          refine lv_aload_n hx hb dL_law_413 rfl (lv_at hl 1 rfl) ?_
          refine lv_aload_n hx hb dL_law_414 rfl (lv_at hl 0 rfl) ?_
          refine lv_iload_n hx hb dL_law_415 rfl (lv_at hl 3 rfl) ?_
          refine lv_iconst (v := 1) hx hb dL_law_416 (by decide) ?_
          refine lv_iadd hx hb dL_law_417 ?_
          refine va_sld hx hb hX hbl hbA hw.2.2 (i := nI i + 1) (by rw [show nI i + 1 = nI (i + 1) from nI_add i 1]; exact lw_in (by omega) hL) dL_law_418 ?_
          refine dp_cV (As := [.int (xs (nI i + 1).toNatClampNeg)]) (rest := []) X hw (c_X6_press l D a s.heap.size (wd_h vi ar pr hh) 0 (xs (nI i + 1).toNatClampNeg) e1) vm_X6_press ml_L_68 (by decide) rfl rfl (ck_X6_press e1) rfl rfl hl.1 rfl (Nat.le_of_ble_eq_true rfl) dL_law_419 ⟨Nat.le_refl _, Nat.le_refl _⟩ (fun H locs hw => ?_)
          refine lv_aload_n hx hb dL_law_422 rfl (lv_at hl 2 rfl) ?_
          refine lv_aload_n hx hb dL_law_423 rfl (lv_at hl 0 rfl) ?_
          refine lv_iload_n hx hb dL_law_424 rfl (lv_at hl 3 rfl) ?_
          refine lv_iconst (v := 1) hx hb dL_law_425 (by decide) ?_
          refine lv_iadd hx hb dL_law_426 ?_
          refine va_sld hx hb hX hbl hbA hw.2.2 (i := nI i + 1) (by rw [show nI i + 1 = nI (i + 1) from nI_add i 1]; exact lw_in (by omega) hL) dL_law_427 ?_
          refine dp_cV (As := [.int (xs (nI i + 1).toNatClampNeg)]) (rest := [.int r]) X hw (c_X7_press l D a s.heap.size (wd_h v1 a1 p1 hh) 72 (xs (nI i + 1).toNatClampNeg) e2) vm_X7_press ml_L_71 (by decide) rfl rfl (ck_X7_press e2) rfl rfl hl.1 rfl (Nat.le_of_ble_eq_true rfl) dL_law_428 ⟨Nat.le_refl _, Nat.le_refl _⟩ (fun H locs hw => ?_)
          exact lv_icmp_eq (tgt := 532) hx hb dL_law_431 (by decide) (fun _ => tail v2 a2 p1 hh _ _ hI2 hw) (fun hc => absurd rfl hc)
        · refine lv_tableIn (off := 404) (tgt := 436) hx hb dL_law_32 (by rw [ek]; decide) (by rw [ek]; decide) (by rw [ek]; rfl) (by decide) ?_
          obtain ⟨v1, a1, p1, v2, a2, r, e1, e2, hI2⟩ := ok_pass (xs (nI i + 1).toNatClampNeg) vi ar pr hh hI
          have e1 : m_X6_pass (wd_h vi ar pr hh) 0 (xs (nI i + 1).toNatClampNeg) = some (wd_h v1 a1 p1 hh, r) := e1
          have e2 : m_X7_pass (wd_h v1 a1 p1 hh) 72 (xs (nI i + 1).toNatClampNeg) = some (wd_h v2 a2 p1 hh, r) := e2
          refine lv_aload_n hx hb dL_law_436 rfl (lv_at hl 1 rfl) ?_
          refine lv_aload_n hx hb dL_law_437 rfl (lv_at hl 0 rfl) ?_
          refine lv_iload_n hx hb dL_law_438 rfl (lv_at hl 3 rfl) ?_
          refine lv_iconst (v := 1) hx hb dL_law_439 (by decide) ?_
          refine lv_iadd hx hb dL_law_440 ?_
          refine va_sld hx hb hX hbl hbA hw.2.2 (i := nI i + 1) (by rw [show nI i + 1 = nI (i + 1) from nI_add i 1]; exact lw_in (by omega) hL) dL_law_441 ?_
          refine dp_cV (As := [.int (xs (nI i + 1).toNatClampNeg)]) (rest := []) X hw (c_X6_pass l D a s.heap.size (wd_h vi ar pr hh) 0 (xs (nI i + 1).toNatClampNeg) e1) vm_X6_pass ml_L_72 (by decide) rfl rfl (ck_X6_pass e1) rfl rfl hl.1 rfl (Nat.le_of_ble_eq_true rfl) dL_law_442 ⟨Nat.le_refl _, Nat.le_refl _⟩ (fun H locs hw => ?_)
          refine lv_aload_n hx hb dL_law_445 rfl (lv_at hl 2 rfl) ?_
          refine lv_aload_n hx hb dL_law_446 rfl (lv_at hl 0 rfl) ?_
          refine lv_iload_n hx hb dL_law_447 rfl (lv_at hl 3 rfl) ?_
          refine lv_iconst (v := 1) hx hb dL_law_448 (by decide) ?_
          refine lv_iadd hx hb dL_law_449 ?_
          refine va_sld hx hb hX hbl hbA hw.2.2 (i := nI i + 1) (by rw [show nI i + 1 = nI (i + 1) from nI_add i 1]; exact lw_in (by omega) hL) dL_law_450 ?_
          refine dp_cV (As := [.int (xs (nI i + 1).toNatClampNeg)]) (rest := [.int r]) X hw (c_X7_pass l D a s.heap.size (wd_h v1 a1 p1 hh) 72 (xs (nI i + 1).toNatClampNeg) e2) vm_X7_pass ml_L_75 (by decide) rfl rfl (ck_X7_pass e2) rfl rfl hl.1 rfl (Nat.le_of_ble_eq_true rfl) dL_law_451 ⟨Nat.le_refl _, Nat.le_refl _⟩ (fun H locs hw => ?_)
          exact lv_icmp_eq (tgt := 532) hx hb dL_law_454 (by decide) (fun _ => tail v2 a2 p1 hh _ _ hI2 hw) (fun hc => absurd rfl hc)
        · refine lv_tableIn (off := 427) (tgt := 459) hx hb dL_law_32 (by rw [ek]; decide) (by rw [ek]; decide) (by rw [ek]; rfl) (by decide) ?_
          obtain ⟨v1, a1, p1, v2, a2, r, e1, e2, hI2⟩ := ok_end vi ar pr hh hI
          have e1 : m_X6_end (wd_h vi ar pr hh) 0 = some (wd_h v1 a1 p1 hh, r) := e1
          have e2 : m_X7_end (wd_h v1 a1 p1 hh) 72 = some (wd_h v2 a2 p1 hh, r) := e2
          refine lv_aload_n hx hb dL_law_459 rfl (lv_at hl 1 rfl) ?_
          refine dp_cV (As := []) (rest := []) X hw (c_X6_end l D a s.heap.size (wd_h vi ar pr hh) 0 e1) vm_X6_end ml_L_76 (by decide) rfl rfl (ck_X6_end e1) rfl rfl hl.1 rfl (Nat.le_of_ble_eq_true rfl) dL_law_460 ⟨Nat.le_refl _, Nat.le_refl _⟩ (fun H locs hw => ?_)
          refine lv_aload_n hx hb dL_law_463 rfl (lv_at hl 2 rfl) ?_
          refine dp_cV (As := []) (rest := [.int r]) X hw (c_X7_end l D a s.heap.size (wd_h v1 a1 p1 hh) 72 e2) vm_X7_end ml_L_79 (by decide) rfl rfl (ck_X7_end e2) rfl rfl hl.1 rfl (Nat.le_of_ble_eq_true rfl) dL_law_464 ⟨Nat.le_refl _, Nat.le_refl _⟩ (fun H locs hw => ?_)
          exact lv_icmp_eq (tgt := 532) hx hb dL_law_467 (by decide) (fun _ => tail v2 a2 p1 hh _ _ hI2 hw) (fun hc => absurd rfl hc)
        · refine lv_tableIn (off := 440) (tgt := 472) hx hb dL_law_32 (by rw [ek]; decide) (by rw [ek]; decide) (by rw [ek]; rfl) (by decide) ?_
          obtain ⟨v1, a1, p1, v2, a2, r, e1, e2, hI2⟩ := ok_line (xs (nI i + 1).toNatClampNeg) vi ar pr hh hI
          have e1 : m_X6_line (wd_h vi ar pr hh) 0 (xs (nI i + 1).toNatClampNeg) = some (wd_h v1 a1 p1 hh, r) := e1
          have e2 : m_X7_line (wd_h v1 a1 p1 hh) 72 (xs (nI i + 1).toNatClampNeg) = some (wd_h v2 a2 p1 hh, r) := e2
          refine lv_aload_n hx hb dL_law_472 rfl (lv_at hl 1 rfl) ?_
          refine lv_aload_n hx hb dL_law_473 rfl (lv_at hl 0 rfl) ?_
          refine lv_iload_n hx hb dL_law_474 rfl (lv_at hl 3 rfl) ?_
          refine lv_iconst (v := 1) hx hb dL_law_475 (by decide) ?_
          refine lv_iadd hx hb dL_law_476 ?_
          refine va_sld hx hb hX hbl hbA hw.2.2 (i := nI i + 1) (by rw [show nI i + 1 = nI (i + 1) from nI_add i 1]; exact lw_in (by omega) hL) dL_law_477 ?_
          refine dp_cV (As := [.int (xs (nI i + 1).toNatClampNeg)]) (rest := []) X hw (c_X6_line l D a s.heap.size (wd_h vi ar pr hh) 0 (xs (nI i + 1).toNatClampNeg) e1) vm_X6_line ml_L_80 (by decide) rfl rfl (ck_X6_line e1) rfl rfl hl.1 rfl (Nat.le_of_ble_eq_true rfl) dL_law_478 ⟨Nat.le_refl _, Nat.le_refl _⟩ (fun H locs hw => ?_)
          refine lv_aload_n hx hb dL_law_481 rfl (lv_at hl 2 rfl) ?_
          refine lv_aload_n hx hb dL_law_482 rfl (lv_at hl 0 rfl) ?_
          refine lv_iload_n hx hb dL_law_483 rfl (lv_at hl 3 rfl) ?_
          refine lv_iconst (v := 1) hx hb dL_law_484 (by decide) ?_
          refine lv_iadd hx hb dL_law_485 ?_
          refine va_sld hx hb hX hbl hbA hw.2.2 (i := nI i + 1) (by rw [show nI i + 1 = nI (i + 1) from nI_add i 1]; exact lw_in (by omega) hL) dL_law_486 ?_
          refine dp_cV (As := [.int (xs (nI i + 1).toNatClampNeg)]) (rest := [.int r]) X hw (c_X7_line l D a s.heap.size (wd_h v1 a1 p1 hh) 72 (xs (nI i + 1).toNatClampNeg) e2) vm_X7_line ml_L_83 (by decide) rfl rfl (ck_X7_line e2) rfl rfl hl.1 rfl (Nat.le_of_ble_eq_true rfl) dL_law_487 ⟨Nat.le_refl _, Nat.le_refl _⟩ (fun H locs hw => ?_)
          exact lv_icmp_eq (tgt := 532) hx hb dL_law_490 (by decide) (fun _ => tail v2 a2 p1 hh _ _ hI2 hw) (fun hc => absurd rfl hc)
        · refine lv_tableIn (off := 463) (tgt := 495) hx hb dL_law_32 (by rw [ek]; decide) (by rw [ek]; decide) (by rw [ek]; rfl) (by decide) ?_
          obtain ⟨r, e1, e2⟩ := ok_count (xs (nI i + 1).toNatClampNeg) vi ar pr hh hI
          have e1 : m_X6_count (wd_h vi ar pr hh) 0 (xs (nI i + 1).toNatClampNeg) = some r := e1
          have e2 : m_X7_count (wd_h vi ar pr hh) 72 (xs (nI i + 1).toNatClampNeg) = some r := e2
          refine lv_aload_n hx hb dL_law_495 rfl (lv_at hl 1 rfl) ?_
          refine lv_aload_n hx hb dL_law_496 rfl (lv_at hl 0 rfl) ?_
          refine lv_iload_n hx hb dL_law_497 rfl (lv_at hl 3 rfl) ?_
          refine lv_iconst (v := 1) hx hb dL_law_498 (by decide) ?_
          refine lv_iadd hx hb dL_law_499 ?_
          refine va_sld hx hb hX hbl hbA hw.2.2 (i := nI i + 1) (by rw [show nI i + 1 = nI (i + 1) from nI_add i 1]; exact lw_in (by omega) hL) dL_law_500 ?_
          refine dp_cV (As := [.int (xs (nI i + 1).toNatClampNeg)]) (rest := []) X hw (c_X6_count l D a s.heap.size (wd_h vi ar pr hh) 0 (xs (nI i + 1).toNatClampNeg) e1) vm_X6_count ml_L_84 (by decide) rfl rfl (ck_X6_count e1) rfl rfl hl.1 rfl (Nat.le_of_ble_eq_true rfl) dL_law_501 ⟨Nat.le_refl _, Nat.le_refl _⟩ (fun H locs hw => ?_)
          refine lv_aload_n hx hb dL_law_504 rfl (lv_at hl 2 rfl) ?_
          refine lv_aload_n hx hb dL_law_505 rfl (lv_at hl 0 rfl) ?_
          refine lv_iload_n hx hb dL_law_506 rfl (lv_at hl 3 rfl) ?_
          refine lv_iconst (v := 1) hx hb dL_law_507 (by decide) ?_
          refine lv_iadd hx hb dL_law_508 ?_
          refine va_sld hx hb hX hbl hbA hw.2.2 (i := nI i + 1) (by rw [show nI i + 1 = nI (i + 1) from nI_add i 1]; exact lw_in (by omega) hL) dL_law_509 ?_
          refine dp_cV (As := [.int (xs (nI i + 1).toNatClampNeg)]) (rest := [.int r]) X hw (c_X7_count l D a s.heap.size (wd_h vi ar pr hh) 72 (xs (nI i + 1).toNatClampNeg) e2) vm_X7_count ml_L_87 (by decide) rfl rfl (ck_X7_count e2) rfl rfl hl.1 rfl (Nat.le_of_ble_eq_true rfl) dL_law_510 ⟨Nat.le_refl _, Nat.le_refl _⟩ (fun H locs hw => ?_)
          exact lv_icmp_eq (tgt := 532) hx hb dL_law_513 (by decide) (fun _ => tail vi ar pr hh _ _ hI hw) (fun hc => absurd rfl hc)
        · refine lv_tableIn (off := 486) (tgt := 518) hx hb dL_law_32 (by rw [ek]; decide) (by rw [ek]; decide) (by rw [ek]; rfl) (by decide) ?_
          obtain ⟨v1, a1, v2, a2, r, e1, e2, hI2⟩ := ok_digest vi ar pr hh hI
          refine lv_aload_n hx hb dL_law_518 rfl (lv_at hl 1 rfl) ?_
          refine dp_cV (As := []) (rest := []) X hw (c_X6_digest l D a s.heap.size (wd_h vi ar pr hh) 0 e1) vm_X6_digest ml_L_88 (by decide) rfl rfl (ck_X6_digest e1) rfl rfl hl.1 rfl (Nat.le_of_ble_eq_true rfl) dL_law_519 ⟨Nat.le_refl _, Nat.le_refl _⟩ (fun H locs hw => ?_)
          refine lv_aload_n hx hb dL_law_522 rfl (lv_at hl 2 rfl) ?_
          refine dp_cV (As := []) (rest := [.long r]) X hw (c_X7_digest l D a s.heap.size (wd_h v1 a1 pr hh) 72 e2) vm_X7_digest ml_L_92 (by decide) rfl rfl (ck_X7_digest e2) rfl rfl hl.1 rfl (Nat.le_of_ble_eq_true rfl) dL_law_523 ⟨Nat.le_refl _, Nat.le_refl _⟩ (fun H locs hw => ?_)
          refine lc_lcmp hx hb dL_law_526 ?_
          exact lv_if_eq (tgt := 532) hx hb dL_law_527 (by decide) (fun _ => tail v2 a2 pr r _ _ hI2 hw) (fun hc => absurd rfl hc)
theorem lw_nest {s : State} {b : Nat} (hts : ∀ w ∈ lw_tbl, w.before #[Value.ref b] s = true) : ∀ w ∈ dp_N, va_Nw w s := by
  intro w hw
  simp only [dp_N, List.mem_cons, List.not_mem_nil, or_false] at hw
  rcases hw with rfl | rfl | rfl | rfl | rfl | rfl
  · exact va_Nw.of rfl (hts _ (lw_at 38 (by decide +kernel)))
  · exact va_Nw.of rfl (hts _ (lw_at 44 (by decide +kernel)))
  · exact va_Nw.of rfl (hts _ (lw_at 93 (by decide +kernel)))
  · exact va_Nw.of rfl (hts _ (lw_at 103 (by decide +kernel)))
  · exact va_Nw.of rfl (hts _ (lw_at 124 (by decide +kernel)))
  · exact va_Nw.of rfl (hts _ (lw_at 254 (by decide +kernel)))
theorem lw_K {s : State} {b : Nat} (hts : ∀ w ∈ lw_tbl, w.before #[Value.ref b] s = true) : ∃ (D : va_G) (a : dp_A), dp_K D a s := by
  obtain ⟨c0, i0, hk0⟩ := u_known (C := RX0) (T := TX0) (N := 9) (n := 9) hts (fun w hw => (ly_X0 w hw).1) (hts _ ci_X0)
  obtain ⟨c1, i1, hk1⟩ := u_known (C := RX1) (T := TX1) (N := 7) (n := 7) hts (fun w hw => (ly_X1 w hw).1) (hts _ ci_X1)
  obtain ⟨c2, i2, hk2⟩ := u_known (C := RX2) (T := TX2) (N := 4) (n := 4) hts (fun w hw => (ly_X2 w hw).1) (hts _ ci_X2)
  obtain ⟨c3, i3, hk3⟩ := u_known (C := RX3) (T := TX3) (N := 2) (n := 2) hts (fun w hw => (ly_X3 w hw).1) (hts _ ci_X3)
  obtain ⟨c4, i4, hk4⟩ := u_known (C := RX4) (T := TX4) (N := 4) (n := 4) hts (fun w hw => (ly_X4 w hw).1) (hts _ ci_X4)
  obtain ⟨c5, i5, hk5⟩ := u_known (C := RX5) (T := TX5) (N := 2) (n := 2) hts (fun w hw => (ly_X5 w hw).1) (hts _ ci_X5)
  obtain ⟨c6, i6, hk6⟩ := u_known (C := RX6) (T := TX6) (N := 6) (n := 6) hts (fun w hw => (ly_X6 w hw).1) (hts _ ci_X6)
  obtain ⟨c7, i7, hk7⟩ := u_known (C := RX7) (T := TX7) (N := 33) (n := 33) hts (fun w hw => (ly_X7 w hw).1) (hts _ ci_X7)
  obtain ⟨cA, kA, pA, f1, f2, f3⟩ := Cond.arrayClass_spec (hts _ ac_i)
  obtain ⟨cZ, kZ, pZ, g1, g2, g3⟩ := Cond.arrayClass_spec (hts _ ac_z)
  have ao : (Cond.arrayOver (.object RX1)).before #[Value.ref b] s = true := hts _ (lw_at 92 (by decide +kernel))
  obtain ⟨comp, cR, kR, r1, r2, r3, r4, r5⟩ := Cond.arrayOver_spec ao
  refine ⟨(fun k => if k = 0 then c0 else if k = 1 then c1 else if k = 2 then c2 else if k = 3 then c3 else if k = 4 then c4 else if k = 5 then c5 else if k = 6 then c6 else c7, fun k => if k = 0 then i0 else if k = 1 then i1 else if k = 2 then i2 else if k = 3 then i3 else if k = 4 then i4 else if k = 5 then i5 else if k = 6 then i6 else i7), (cA, cZ, cR), fun w hw hg => word_at (State.WarmedH.refl s) (good_of_word hg) (hts w hw), ⟨fun k q hq => ?_, fun k q hq => ?_⟩, lw_nest hts, va_AO.of ao⟩
  · match k, hq with
    | 0, hq => cases hq; exact hk0
    | 1, hq => cases hq; exact hk1
    | 2, hq => cases hq; exact hk2
    | 3, hq => cases hq; exact hk3
    | 4, hq => cases hq; exact hk4
    | 5, hq => cases hq; exact hk5
    | 6, hq => cases hq; exact hk6
    | 7, hq => cases hq; exact hk7
    | k + 8, hq => simp [vwCl] at hq
  · match k, hq with
    | 0, hq => cases hq; exact ⟨fun n z => ⟨fun k h => (by cases h), kA, f2, pA, f3⟩, f1⟩
    | 1, hq => cases hq; exact ⟨fun n z => ⟨fun k h => (by cases h), kZ, g2, pZ, g3⟩, g1⟩
    | 2, hq => cases hq; exact ⟨fun n z => ⟨fun k h => (by cases h), kR, r3, comp, r4⟩, kR, comp, r3, r4, r1, r5⟩
    | k + 3, hq => simp at hq
