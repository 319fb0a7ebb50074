theorem in_ex : ∃ (h1 : dp_H) (vi ar : Nat → Nat → Int32) (pr : Nat → Nat) (hh : Int64), m_X6_init [.inl (6, bl_X6)] 0 = some h1 ∧ List.length h1 = 72 ∧ m_X7_init (h1 ++ [.inl (7, bl_X7)]) 72 = some (wd_h vi ar pr hh) ∧ I_ vi ar pr := ⟨L6_ 0, vi0, ar0, pr0, 0, in_c, in_l, by rw [in_m, in_h], I_0⟩
set_option maxHeartbeats 4000000 in
set_option maxRecDepth 100000 in
/-- THE LAW, from its entry -/
theorem whole_start {p : Program} {e : Env} {s : State} {m : MethodId} {below : List Frame} {meth : Method} {c : Code} (l : Launch) (hflags : l.flags = flags0) {b L : Nat} {xs : Nat → Int32} (hL : L ≤ 1536) (C0 : lw_At p s m meth c b L xs) : W p l e room_1 s m #[Value.ref b] below meth c s.heap [] 0 0 (lw_Z below #[Value.ref b] s) (entryFrame m ([Value.ref b] : List Value).toArray 4) := by
  obtain ⟨hx, hb, hr, hml, hown, hts, hX, hbl, hlocks, hgv⟩ := id C0
  obtain ⟨D, a, hK⟩ := lw_K hts
  obtain ⟨h1, vi, ar, pr, hh, in1, in2, in3, hI⟩ := in_ex
  have X : dp_X p s m meth c code 4 RL D a s.heap.size := ⟨hx, hb, hml, hown, hlocks, hK, Nat.le_refl _⟩
  have hw : dp_w D a s.heap.size [] s.heap s.heap [] := ⟨fun k q h => by simp [dp_e] at h, by simp, va_S.rf⟩
  have hl := lv_entry ([.ref b]) (n := 4) (Nat.le_of_ble_eq_true rfl)
  rw [lg_entry_eq]
  generalize (lg_sl ([.ref b]) ++ List.replicate (4 - (lg_sl ([.ref b])).length) Slot.unset).toArray = ls at hl ⊢
  have hl : lv_has ls 4 [(0, .ref b)] := hl
  refine dp_newc X hw cl_X6 cn_L_7 ci_X6 ini_X6 bl_X6_ok (show dp_nw [] 6 bl_X6 = some [.inl (6, bl_X6)] from rfl) (by decide) (by decide) dL_law_0 (fun H hw => ?_)
  refine lv_dup hx hb dL_law_3 rfl ?_
  refine dp_cI (As := []) (rest := [.ref (s.heap.size + 0)]) X hw (c_X6_init l D a s.heap.size [.inl (6, bl_X6)] 0 in1) sm_X6_init rfl in_X6_init ml_L_9 (by decide) rfl hl.1 rfl (Nat.le_of_ble_eq_true rfl) dL_law_4 ⟨by decide, by decide⟩ (fun H locs hw => ?_)
  refine lv_astore_n (lv' := [(1, .ref (s.heap.size + 0)), (0, .ref b)]) hx hb dL_law_7 rfl hl (by decide) rfl (fun ls hl => ?_)
  refine dp_newc X hw cl_X7 cn_L_10 ci_X7 ini_X7 bl_X7_ok (show dp_nw h1 7 bl_X7 = some (h1 ++ [.inl (7, bl_X7)]) from rfl) (by decide) (by decide) dL_law_8 (fun H hw => ?_)
  rw [in2]
  refine lv_dup hx hb dL_law_11 rfl ?_
  refine dp_cI (As := []) (rest := [.ref (s.heap.size + 72)]) X hw (c_X7_init l D a s.heap.size (h1 ++ [.inl (7, bl_X7)]) 72 in3) sm_X7_init rfl in_X7_init ml_L_12 (by decide) rfl hl.1 rfl (Nat.le_of_ble_eq_true rfl) dL_law_12 ⟨by decide, by decide⟩ (fun H locs hw => ?_)
  refine lv_astore_n (lv' := [(2, .ref (s.heap.size + 72)), (1, .ref (s.heap.size + 0)), (0, .ref b)]) hx hb dL_law_15 rfl hl (by decide) rfl (fun ls hl => ?_)
  refine lv_iconst (v := 0) hx hb dL_law_16 (by decide) ?_
  refine lv_istore_n (lv' := [(3, .int (nI 0)), (2, .ref (s.heap.size + 72)), (1, .ref (s.heap.size + 0)), (0, .ref b)]) hx hb dL_law_17 rfl hl (by decide) rfl (fun ls hl => ?_)
  refine W.widen (k := 600000) (n := 7302250) (by decide) (by decide) ?_
  exact law_loop l hL C0 hK 513 0 (by omega) (by omega) vi ar pr hh H locs hI hw ls (lv_sub hl [3, 2, 1, 0] rfl)
