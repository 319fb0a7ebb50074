/-! row -/
def rv_ (vi ar : Nat → Nat → Int32) (pr : Nat → Nat) (m : Nat) (pl dr an : Nat → Nat) (n : Nat) (g : Nat → Int32) (k : Nat) : Int32 :=
  if k = 0 then wo_ (wn_ (fi_ vi ar pr pl g n) (cx_ ar pr) m 0 none) else if k = 1 then bt_ (fi_ vi ar pr pl g n) m 0 0 else if k = 2 then bt_ (li_ vi ar pr pl g n) m 0 0
  else if k = 3 then (rx_ vi ar pr m pl dr an 6 n g).1 else if k = 4 then nI (6 - (rx_ vi ar pr m pl dr an 6 n g).2.1) else if k = 5 then nI (rx_ vi ar pr m pl dr an 6 n g).2.2.1
  else if k - 10 < (rx_ vi ar pr m pl dr an 6 n g).2.2.1 then (rx_ vi ar pr m pl dr an 6 n g).2.2.2 (k - 10) else -1
section RQ
variable {vi ar v a : Nat → Nat → Int32} {pr : Nat → Nat} {hh : Int64} {m : Nat} {pl dr an : Nat → Nat}
theorem rv_d {n k : Nat} {g : Nat → Int32} (hk : 10 ≤ k) : rv_ vi ar pr m pl dr an n g k = if k - 10 < (rx_ vi ar pr m pl dr an 6 n g).2.2.1 then (rx_ vi ar pr m pl dr an 6 n g).2.2.2 (k - 10) else -1 := by
  unfold rv_
  rw [if_neg (show ¬ k = 0 by omega), if_neg (show ¬ k = 1 by omega), if_neg (show ¬ k = 2 by omega), if_neg (show ¬ k = 3 by omega), if_neg (show ¬ k = 4 by omega), if_neg (show ¬ k = 5 by omega)]
theorem rc_l {n k : Nat} {g : Nat → Int32} (hL : PL_ vi ar pr m pl dr an) (S : SC_ vi ar v a) (hn : n ≤ 10) (hR : v 61 1 = nI n) (hd : sm_ 9 g n) (hg : ∀ q, q < n → a 62 q = g q) (hk : k ≤ 5 ∨ (10 ≤ k ∧ k < 20)) : ∃ v' a', (if nI k = 0 then ((dp_gr (wd_h v a pr hh) 0 6 2).bind fun v3 => (dp_gr (wd_h v a pr hh) 0 6 3).bind fun v4 => (m_X3_winner (wd_h v a pr hh) v3 v4 0).bind fun v5 => some (wd_h v a pr hh, v5)) else if nI k = 1 then ((dp_gr (wd_h v a pr hh) 0 6 2).bind fun v6 => (dp_gr (wd_h v a pr hh) 0 6 3).bind fun v7 => (m_X3_reached (wd_h v a pr hh) v6 v7 1).bind fun v8 => some (wd_h v a pr hh, v8)) else if nI k = 2 then ((dp_gr (wd_h v a pr hh) 0 6 2).bind fun v9 => (dp_gr (wd_h v a pr hh) 0 6 3).bind fun v10 => (m_X3_reached (wd_h v a pr hh) v9 v10 2).bind fun v11 => some (wd_h v a pr hh, v11)) else ((dp_gr (wd_h v a pr hh) 0 6 4).bind fun v12 => (dp_gr (wd_h v a pr hh) 0 6 2).bind fun v13 => (dp_gr (wd_h v a pr hh) 0 6 3).bind fun v14 => (m_X4_read (wd_h v a pr hh) v12 v13 v14).bind fun h15 => if nI k = 3 then ((dp_gr h15 0 6 4).bind fun v16 => (m_X4_way h15 v16).bind fun v17 => some (h15, v17)) else if nI k = 4 then ((dp_gr h15 0 6 4).bind fun v18 => (m_X4_times h15 v18).bind fun v19 => some (h15, v19)) else if nI k = 5 then ((dp_gr h15 0 6 4).bind fun v20 => (m_X4_result h15 v20).bind fun v21 => (m_X5_size h15 v21).bind fun v22 => some (h15, v22)) else ((dp_gr h15 0 6 4).bind fun v23 => (m_X4_result h15 v23).bind fun v24 => (m_X5_at h15 v24 (nI k - 10)).bind fun v25 => some (h15, v25)))) = some (wd_h v' a' pr hh, rv_ vi ar pr m pl dr an n g k) ∧ SC_ vi ar v' a' := by
  have hRw : Rw_ v 61 10 n := ⟨rfl, rfl, by decide, hR, hn⟩
  have hd2 : sm_ 9 (a (61 + 1)) n := sm_eq hd hg
  have ne : ∀ (j : Nat), j ≤ 5 → k ≠ j → ¬ nI k = nI j := fun j hj hkj z => hkj ((nI_eq (by omega) (by omega)).mp z)
  by_cases k0 : k = 0
  · subst k0
    rw [if_pos (show nI 0 = 0 from rfl), gr_6_2 w0_, Option.bind_some, gr_6_3 w0_, Option.bind_some, pn_wn (S.pn hL) hRw hd2, fi_eq hL S.pf hg, cx_fr hL S.pf.a]
    exact ⟨v, a, rfl, S⟩
  by_cases k1 : k = 1
  · subst k1
    rw [if_neg (show ¬ nI 1 = 0 by decide), if_pos (show nI 1 = 1 from rfl), gr_6_2 w0_, Option.bind_some, gr_6_3 w0_, Option.bind_some, pn_fit (S.pn hL) hRw hd2, fi_eq hL S.pf hg]
    exact ⟨v, a, rfl, S⟩
  by_cases k2 : k = 2
  · subst k2
    rw [if_neg (show ¬ nI 2 = 0 by decide), if_neg (show ¬ nI 2 = 1 by decide), if_pos (show nI 2 = 2 from rfl), gr_6_2 w0_, Option.bind_some, gr_6_3 w0_, Option.bind_some, pn_lead (S.pn hL) hRw hd2, li_eq hL S.pf hg]
    exact ⟨v, a, rfl, S⟩
  obtain ⟨v2, a2, g1, g2, g3, g4, g5, g6, g7, g8, g9⟩ := cd_ (hh := hh) (S.pn hL) hRw hd2 (by decide) (by decide)
  rw [rx_fr hL S.pf.v S.pf.a] at g4 g5 g6 g7 g8 g9
  obtain ⟨q1, q2, q3, q4⟩ := rx_congr (n := n) (g := a (61 + 1)) (g' := g) hL 6 n (a (61 + 1)) g hg
  rw [q1] at g4
  rw [q2] at g5
  rw [q3] at g7 g8 g9
  rw [q3] at q4
  have S2 : SC_ vi ar v2 a2 := S.trans ⟨fun c e q => by unfold kv_ at q; rw [g2 c (by omega) (by omega) (by omega)], fun c e q => by unfold ka_ at q; rw [g3 c (by omega) (by omega)]⟩
  rw [if_neg (show ¬ nI k = 0 from ne 0 (by omega) k0), if_neg (show ¬ nI k = 1 from ne 1 (by omega) k1), if_neg (show ¬ nI k = 2 from ne 2 (by omega) k2), gr_6_4 w0_, Option.bind_some, gr_6_2 w0_, Option.bind_some, gr_6_3 w0_, Option.bind_some, g1, Option.bind_some]
  refine ⟨v2, a2, ?_, S2⟩
  by_cases k3 : k = 3
  · subst k3
    rw [if_pos (show nI 3 = 3 from rfl), gr_6_4 w0_, Option.bind_some, m_X4_way, wd_ck w63 (by decide), gi_4_2 w63, g4]
    rfl
  by_cases k4 : k = 4
  · subst k4
    rw [if_neg (show ¬ nI 4 = 3 by decide), if_pos (show nI 4 = 4 from rfl), gr_6_4 w0_, Option.bind_some, m_X4_times, wd_ck w63 (by decide), gi_4_3 w63, g5]
    rfl
  have hr : m_X4_result (wd_h v2 a2 pr hh) 63 = some 64 := by
    rw [m_X4_result, wd_ck w63 (by decide), gr_4_0 w63]; rfl
  by_cases k5 : k = 5
  · subst k5
    rw [if_neg (show ¬ nI 5 = 3 by decide), if_neg (show ¬ nI 5 = 4 by decide), if_pos (show nI 5 = 5 from rfl), gr_6_4 w0_, Option.bind_some, hr, Option.bind_some, ro_size (rw_64 g8 g7)]
    rfl
  rcases hk with hk | ⟨hk, hk2⟩
  · omega
  rw [if_neg (show ¬ nI k = 3 from ne 3 (by omega) k3), if_neg (show ¬ nI k = 4 from ne 4 (by omega) k4), if_neg (show ¬ nI k = 5 from ne 5 (by omega) k5), gr_6_4 w0_, Option.bind_some, hr, Option.bind_some, show (10 : Int32) = nI 10 from rfl, pk_sub hk, ro_at (rw_64 g8 g7) (by omega), Option.bind_some, rv_d hk]
  by_cases hl : k - 10 < (rx_ vi ar pr m pl dr an 6 n g).2.2.1
  · rw [if_pos hl, if_pos hl, show (64 + 1 : Nat) = 65 from rfl, g9 _ hl, q4 _ hl]
  · rw [if_neg hl, if_neg hl]
theorem rm_l {n k : Nat} {g : Nat → Int32} (hL : PL_ vi ar pr m pl dr an) (S : SC_ vi ar v a) (hn : n ≤ 10) (h0 : v 72 0 = nI n) (hd : sm_ 9 g n) (hg : ∀ q, q < n → a 73 q - 48 = g q) (hk : k ≤ 5 ∨ (10 ≤ k ∧ k < 20)) : ∃ v' a', m_X7_rowNow (wd_h v a pr hh) 72 (nI k) = some (wd_h v' a' pr hh, rv_ vi ar pr m pl dr an n g k) ∧ SC_ vi ar v' a' := by
  rw [m_X7_rowNow, wd_ck w72 (by decide), gi_7_0 w72, h0, Option.bind_some, pi_7_24 w72, Option.bind_some]
  obtain ⟨c, f', e1, e2, e3⟩ := rn_l (v := up2 v 72 24 (nI n)) (a := a) (pr := pr) (hh := hh) (x := nI k) hn up2_s n 0 64 a (by omega) (by omega) (fun _ _ => rfl) (fun q hq => absurd hq (Nat.not_lt_zero q))
  rw [show (0 : Int32) = nI 0 from rfl, e1]
  have S1 : SC_ vi ar (up2 v 72 24 (nI n)) c := S.trans (lp_sc e2)
  have h84 : ∀ q, q < n → c 84 q = g q := fun q hq => (e3 q hq).trans (hg q hq)
  have ne : ∀ (j : Nat), j ≤ 5 → k ≠ j → ¬ nI k = nI j := fun j hj hkj z => hkj ((nI_eq (by omega) (by omega)).mp z)
  show ∃ v' a', b_X7_rowNow_10 _ _ _ _ _ = _ ∧ _
  unfold b_X7_rowNow_10
  rw [gi_7_24 w72, up2_s, Option.bind_some, if_pos (nI_le (by omega) (by omega))]
  by_cases k0 : k = 0
  · subst k0
    rw [if_neg (show ¬ 3 ≤ nI 0 by decide), if_pos (show nI 0 = 0 from rfl), Option.bind_some, m_fit hL S1.pf hn hd h84, Option.bind_some, m_wn hL S1.pf]
    exact ⟨_, c, rfl, S1⟩
  by_cases k1 : k = 1
  · subst k1
    rw [if_neg (show ¬ 3 ≤ nI 1 by decide), if_neg (show ¬ nI 1 = 0 by decide), if_pos (show nI 1 = 1 from rfl), Option.bind_some, m_fit hL S1.pf hn hd h84]
    exact ⟨_, c, rfl, S1⟩
  by_cases k2 : k = 2
  · subst k2
    rw [if_neg (show ¬ 3 ≤ nI 2 by decide), if_neg (show ¬ nI 2 = 0 by decide), if_neg (show ¬ nI 2 = 1 by decide), Option.bind_some, m_lead hL S1.pf hn hd h84]
    exact ⟨_, c, rfl, S1⟩
  obtain ⟨v2, a2, g1, g2, g3, g4, g5, g6, g7⟩ := md_ (hh := hh) (S1.pn hL) hn up2_s (sm_eq hd h84)
  rw [rx_fr hL S1.pf.v S1.pf.a] at g1 g5 g6 g7
  obtain ⟨q1, q2, q3, q4⟩ := rx_congr (n := n) (g := c 84) (g' := g) hL 6 n (c 84) g h84
  rw [q1] at g1
  rw [q2] at g5
  rw [q1, q3] at g6 g7
  rw [q3] at q4
  have S2 : SC_ vi ar v2 a2 := S1.trans ⟨fun k e q => by
    unfold kv_ at q
    by_cases ek : k = 72
    · rw [ek, g3 e (by omega) (by omega)]
    · rw [g2 k ek], fun k e q => by unfold ka_ at q; rw [g4 k (by omega)]⟩
  rw [if_pos (show 3 ≤ nI k from nI_le (a := 3) (by omega) (by omega)), g1, dp_b2_s]
  refine ⟨v2, a2, ?_, S2⟩
  by_cases k3 : k = 3
  · subst k3
    rw [if_neg (show ¬ 5 ≤ nI 3 by decide), if_pos (show nI 3 = 3 from rfl)]
    rfl
  by_cases k4 : k = 4
  · subst k4
    rw [if_neg (show ¬ 5 ≤ nI 4 by decide), if_neg (show ¬ nI 4 = 3 by decide), gi_7_26 w72, g5]
    rfl
  rw [if_pos (show 5 ≤ nI k from nI_le (a := 5) (by omega) (by omega))]
  by_cases k5 : k = 5
  · subst k5
    by_cases z : (rx_ vi ar pr m pl dr an 6 n g).1 = -1
    · rw [if_pos z]
      unfold b_X7_rowNow_125
      rw [if_pos (show nI 5 = 5 from rfl)]
      show _ = some (_, nI (rx_ vi ar pr m pl dr an 6 n g).2.2.1)
      rw [g7 z]; rfl
    · rw [if_neg z, gi_7_24 w72, (g6 z).1, Option.bind_some]
      unfold b_X7_rowNow_125
      rw [if_pos (show nI 5 = 5 from rfl)]
      rfl
  rcases hk with hk | ⟨hk, hk2⟩
  · omega
  rw [rv_d hk]
  by_cases z : (rx_ vi ar pr m pl dr an 6 n g).1 = -1
  · rw [if_pos z]
    unfold b_X7_rowNow_125
    rw [if_neg (show ¬ nI k = 5 from ne 5 (by omega) k5), show (10 : Int32) = nI 10 from rfl, pk_sub hk, if_pos (show 0 ≤ nI (k - 10) from nI_pos' (by omega)), g7 z, if_neg (Nat.not_lt_zero _)]
  · obtain ⟨z1, z2⟩ := g6 z
    have zl : (rx_ vi ar pr m pl dr an 6 n g).2.2.1 ≤ 10 := by
      have h := (cd_ (vi := up2 (up2 v 72 24 (nI n)) 61 1 (nI n)) (ar := fun x y => if x = 62 then g y else c x y) (pr := pr) (hh := hh) (m := m) (pl := pl) (dr := dr) (an := an) ((S1.pn hL).fr2 (fun a b q => up2_n (by omega)) (fun a b q => if_neg (by omega))) (rk := 61) (n := n) ⟨rfl, rfl, by decide, up2_s, hn⟩ hd (by decide) (by decide))
      obtain ⟨v3, a3, -, -, -, -, -, -, h7, -⟩ := h
      have F3 : PF_ vi ar (up2 (up2 v 72 24 (nI n)) 61 1 (nI n)) (fun x y => if x = 62 then g y else c x y) := S1.pf.trans ⟨fun a b q => up2_n (by omega), fun a b q => if_neg (by omega)⟩
      rw [rx_fr hL F3.v F3.a] at h7
      exact h7
    rw [if_neg z, gi_7_24 w72, z1, Option.bind_some]
    unfold b_X7_rowNow_125
    rw [if_neg (show ¬ nI k = 5 from ne 5 (by omega) k5), show (10 : Int32) = nI 10 from rfl, pk_sub hk]
    by_cases hl : k - 10 < (rx_ vi ar pr m pl dr an 6 n g).2.2.1
    · rw [if_neg (nI_ge hl (by omega)), if_pos hl, gr_7_25 w72, Option.bind_some, rd_84 (by omega), Option.bind_some, z2 _ hl, q4 _ hl]
    · rw [if_pos (nI_le (by omega) (by omega)), if_neg hl]
end RQ
theorem ok_row (x : Int32) : OK_ (fun h => m_X6_row h 0 x) (fun h => m_X7_row h 72 x) := by
  intro vi ar pr hh hI
  show ∃ vi1 ar1 pr1 vi2 ar2 r, m_X6_row (wd_h vi ar pr hh) 0 x = _ ∧ m_X7_row (wd_h vi1 ar1 pr1 hh) 72 x = _ ∧ _
  obtain ⟨n, m, pl, dr, an, s, nd, hP, hL, hN, hS, hC⟩ := id hI
  have ck : ∀ {h : dp_H} {β : Type} {o : Option β}, dp_ck h 72 7 (some (0 : Int32)) = some 0 → dp_ck h 72 7 o = o := fun {h β o} q => by
    unfold dp_ck at q ⊢
    split at q
    · rename_i z; rw [if_pos z]
    · cases q
  have good : ∀ k : Nat, (k ≤ 5 ∨ (10 ≤ k ∧ k < 20)) → x = nI k → m_X6_row (wd_h vi ar pr hh) 0 x = b_X6_row_35 (wd_h vi ar pr hh) 0 x → (∀ h : dp_H, dp_ck h 72 7 (some (0 : Int32)) = some 0 → m_X7_row h 72 x = ((m_X7_isRow h 72).bind fun v6 => if v6 = 0 then (some (h, (-1003))) else (dp_b2 (m_X7_rowNow h 72 x) fun h7 v8 => some (h7, v8)))) → ∃ vi1 ar1 pr1 vi2 ar2 r, m_X6_row (wd_h vi ar pr hh) 0 x = some (wd_h vi1 ar1 pr1 hh, r) ∧ m_X7_row (wd_h vi1 ar1 pr1 hh) 72 x = some (wd_h vi2 ar2 pr1 hh, r) ∧ I_ vi2 ar2 pr1 := by
    intro k hk hx hC6 hM
    rw [hC6]
    have hW : Rw_ (up2 vi 61 1 0) 61 10 0 := ⟨rfl, rfl, by decide, up2_s, by omega⟩
    obtain ⟨v1, a1, e1, e2, e3, e4⟩ := rr_l (pr := pr) (hh := hh) (cs := ar 2) hP.1 n 0 64 (up2 vi 61 1 0) ar (by omega) (by omega) (by have := hP.1; omega) (by rw [up2_n (by omega)]; exact hP.2.1) rfl up2_s (fun q hq => absurd hq (Nat.not_lt_zero q))
    have cl : m_X5_clear (wd_h vi ar pr hh) 61 = some (wd_h (up2 vi 61 1 0) ar pr hh) := by
      rw [m_X5_clear, wd_ck (c := 5) rfl (by decide), pi_5_1 rfl]; rfl
    have S1 : SC_ vi ar v1 a1 := ⟨fun c e q => by unfold kv_ at q; rw [e2 c (by omega), up2_n (by omega)], fun c e q => by unfold ka_ at q; rw [e3 c (by omega)]⟩
    have er : m_X6_readsPageAsRow (wd_h vi ar pr hh) 0 = some (wd_h v1 a1 pr hh, if (decide (1 ≤ n) && decide (n ≤ 10) && rk_ (ar 2) n 0) = true then 1 else 0) := by
      rw [m_X6_readsPageAsRow, wd_ck w0_ (by decide), gr_6_3 w0_, Option.bind_some, cl, Option.bind_some]
      exact e1
    have h72 : v1 72 0 = nI n := by rw [e2 72 (by decide), up2_n (by omega)]; exact hP.2.2.1
    have h73 : ∀ q, q < n → a1 73 q = ar 2 q := fun q hq => by rw [e3 73 (by decide)]; exact hP.2.2.2 q hq
    unfold b_X6_row_35
    rw [er, dp_b2_s]
    by_cases ok : (decide (1 ≤ n) && decide (n ≤ 10) && rk_ (ar 2) n 0) = true
    · obtain ⟨f1, f2⟩ := e4 ok
      have ok2 := ok
      rw [Bool.and_eq_true, Bool.and_eq_true] at ok2
      have hn1 : n ≤ 10 := of_decide_eq_true ok2.1.2
      have hd : sm_ 9 (fun q => ar 2 q - 48) n := fun q hq => by
        have h := rk_all n 0 ok2.2 q (by omega) (by omega)
        cases hdq : dg_ (ar 2 q) with
        | none => rw [hdq] at h; cases h
        | some d => exact ⟨d, (dg_s hdq).2.2.1, (dg_s hdq).2.2.2⟩
      obtain ⟨v2, a2, c1, S2⟩ := rc_l (hh := hh) (g := fun q => ar 2 q - 48) hL S1 hn1 f1 hd f2 hk
      have hP2 := S2.pg hP
      obtain ⟨v3, a3, c2, S3⟩ := rm_l (hh := hh) (g := fun q => ar 2 q - 48) hL S2 hn1 hP2.2.2.1 hd (fun q hq => by rw [S2.2 73 q (by unfold ka_; omega), hP.2.2.2 q hq]) hk
      rw [if_pos ok, if_neg (show ¬ (1 : Int32) = 0 by decide), hx, c1]
      refine ⟨v2, a2, pr, v3, a3, _, rfl, ?_, hI.sc S3⟩
      rw [← hx, hM _ (wd_ck w72 (by decide)), mr_ hP.1 hP2.2.2.1 (fun q hq => by rw [S2.2 73 q (by unfold ka_; omega), hP.2.2.2 q hq]), if_pos ok, Option.bind_some, if_neg (show ¬ (1 : Int32) = 0 by decide), b2i, hx, c2]
    · rw [if_neg ok, if_pos rfl]
      refine ⟨v1, a1, pr, v1, a1, _, rfl, ?_, hI.sc S1⟩
      rw [hM _ (wd_ck w72 (by decide)), mr_ hP.1 h72 h73, if_neg ok, Option.bind_some, if_pos rfl]
  rcases pk_ix x (n := 20) (by decide) with h0 | h1 | ⟨k, hk, hx⟩
  · refine ⟨vi, ar, pr, vi, ar, -1002, ?_, ?_, hI⟩
    · rw [m_X6_row, wd_ck w0_ (by decide), if_pos (Int32.lt_trans h0 (by decide))]
      unfold b_X6_row_16
      rw [if_pos h0]
    · rw [m_X7_row, wd_ck w72 (by decide), wi_, if_pos h0, Option.bind_some, if_pos rfl, wi_, if_pos (Int32.lt_trans h0 (by decide)), Option.bind_some, if_pos rfl]
  · have g : ∀ {y : Int32}, y < 20 → y < x := fun q => Int32.lt_of_lt_of_le q h1
    refine ⟨vi, ar, pr, vi, ar, -1002, ?_, ?_, hI⟩
    · rw [m_X6_row, wd_ck w0_ (by decide), if_neg (Int32.not_lt.mpr (Int32.le_of_lt (g (y := 10) (by decide)))), if_pos (show 20 ≤ x from h1)]
      unfold b_X6_row_16
      rw [if_neg (Int32.not_lt.mpr (Int32.le_of_lt (g (y := 0) (by decide)))), if_neg (Int32.not_le.mpr (g (y := 5) (by decide)))]
    · rw [m_X7_row, wd_ck w72 (by decide), wi_, if_neg (Int32.not_lt.mpr (Int32.le_of_lt (g (y := 0) (by decide)))), if_pos (g (y := 5) (by decide)), Option.bind_some, if_pos rfl, wi_, if_neg (Int32.not_lt.mpr (Int32.le_of_lt (g (y := 10) (by decide)))), if_pos (g (y := 19) (by decide)), Option.bind_some, if_pos rfl]
  · by_cases h5 : k ≤ 5
    · refine good k (Or.inl h5) hx ?_ (fun h hck => ?_)
      · rw [m_X6_row, wd_ck w0_ (by decide), hx, if_pos (show nI k < 10 from nI_lt (b := 10) (by omega) (by omega))]
        unfold b_X6_row_16
        rw [if_neg (nI_pos (by omega)), if_pos (show nI k ≤ 5 from nI_le (b := 5) h5 (by omega))]
      · rw [m_X7_row, ck hck, wi_, hx, if_neg (nI_pos (by omega)), if_neg (show ¬ 5 < nI k from nI_nlt (a := 5) h5 (by omega)), Option.bind_some, if_neg (show ¬ (1 : Int32) = 0 by decide)]
    · by_cases h10 : 10 ≤ k
      · refine good k (Or.inr ⟨h10, hk⟩) hx ?_ (fun h hck => ?_)
        · rw [m_X6_row, wd_ck w0_ (by decide), hx, if_neg (show ¬ nI k < 10 from nI_nlt (b := 10) h10 (by omega)), if_neg (show ¬ 20 ≤ nI k from nI_ge (b := 20) hk (by omega))]
        · rw [m_X7_row, ck hck, wi_, hx, if_neg (nI_pos (by omega)), if_pos (show 5 < nI k from nI_lt (a := 5) (by omega) (by omega)), Option.bind_some, if_pos rfl, wi_, if_neg (show ¬ nI k < 10 from nI_nlt (b := 10) h10 (by omega)), if_neg (show ¬ 19 < nI k from nI_nlt (a := 19) (by omega) (by omega)), Option.bind_some, if_neg (show ¬ (1 : Int32) = 0 by decide)]
      · refine ⟨vi, ar, pr, vi, ar, -1002, ?_, ?_, hI⟩
        · rw [m_X6_row, wd_ck w0_ (by decide), hx, if_pos (show nI k < 10 from nI_lt (b := 10) (by omega) (by omega))]
          unfold b_X6_row_16
          rw [if_neg (nI_pos (by omega)), if_neg (show ¬ nI k ≤ 5 from nI_ge (a := 5) (by omega) (by omega))]
        · rw [m_X7_row, wd_ck w72 (by decide), wi_, hx, if_neg (nI_pos (by omega)), if_pos (show 5 < nI k from nI_lt (a := 5) (by omega) (by omega)), Option.bind_some, if_pos rfl, wi_, if_pos (show nI k < 10 from nI_lt (b := 10) (by omega) (by omega)), Option.bind_some, if_pos rfl]
