/-! what the line tells -/
def lv_ (vi ar : Nat → Nat → Int32) (pr : Nat → Nat) (m : Nat) (pl dr an : Nat → Nat) (s nd : Nat) (x : Nat) : Int32 :=
  if x = 0 then nI s else if x = 1 then nI nd else if x = 2 then vi 68 4
  else if x = 3 then (if s = 1 then (if nd = 0 then 0 else if bt_ (fi_ vi ar pr pl (ar 70) nd) m 0 0 = 0 then 1 else 2) else -1)
  else if x = 4 then (if s = 2 then (if vi 68 3 = 4 then wo_ (wn_ (fun i => fi_ vi ar pr pl (ar 70) nd i && he_ vi pr i) (cx_ ar pr) m 0 none) else wo_ (wn_ (fi_ vi ar pr pl (ar 70) nd) (cx_ ar pr) m 0 none)) else -1)
  else if x = 5 then wo_ (fl_ (sb_ vi ar pr m pl an (ar 70)) (nd + 1) 0)
  else if x = 6 then vi 68 3
  else if x = 7 then (if s = 2 then (if vi 68 3 = 4 then 9 else (rx_ vi ar pr m pl dr an 6 nd (ar 70)).1) else -1)
  else if x - 10 < nd then ar 70 (x - 10) else -1
section TL
variable {vi ar v a : Nat → Nat → Int32} {pr : Nat → Nat} {hh : Int64} {m : Nat} {pl dr an : Nat → Nat}
theorem SC_.refl : SC_ vi ar vi ar := ⟨fun _ _ _ => rfl, fun _ _ _ => rfl⟩
theorem SC_.a70 (g : SC_ vi ar v a) : a 70 = ar 70 := funext fun b => g.2 70 b (by unfold ka_; omega)
theorem SC_.a85 (g : SC_ vi ar v a) : a 85 = ar 85 := funext fun b => g.2 85 b (by unfold ka_; omega)
theorem SC_.v68 (g : SC_ vi ar v a) : v 68 = vi 68 := funext fun b => g.1 68 b (by unfold kv_; omega)
theorem lv_d {s nd x : Nat} (hx : 10 ≤ x) : lv_ vi ar pr m pl dr an s nd x = if x - 10 < nd then ar 70 (x - 10) else -1 := by
  unfold lv_
  rw [if_neg (show ¬ x = 0 by omega), if_neg (show ¬ x = 1 by omega), if_neg (show ¬ x = 2 by omega), if_neg (show ¬ x = 3 by omega), if_neg (show ¬ x = 4 by omega), if_neg (show ¬ x = 5 by omega), if_neg (show ¬ x = 6 by omega), if_neg (show ¬ x = 7 by omega)]
theorem c_wn {g : Nat → Int32} {n : Nat} (hL : PL_ vi ar pr m pl dr an) (F : PF_ vi ar v a) (hR : v 69 1 = nI n) (hn : n ≤ 10) (hd : sm_ 9 g n) (hg : ∀ q, q < n → a 70 q = g q) : m_X3_winner (wd_h v a pr hh) 9 69 0 = some (wo_ (wn_ (fi_ vi ar pr pl g n) (cx_ ar pr) m 0 none)) := by
  rw [pn_wn (F.pn hL) ⟨rfl, rfl, by decide, hR, hn⟩ (sm_eq hd hg), fi_eq hL F hg, cx_fr hL F.a]
theorem lc_ {s nd x : Nat} (hL : PL_ vi ar pr m pl dr an) (hN : Ln_ vi ar s nd) (S : SC_ vi ar v a) (hx : x ≤ 7 ∨ (10 ≤ x ∧ x < 20)) : ∃ v' a', m_X6_line (wd_h v a pr hh) 0 (nI x) = some (wd_h v' a' pr hh, lv_ vi ar pr m pl dr an s nd x) ∧ SC_ vi ar v' a' := by
  obtain ⟨n1, n2, n3, n4, n5, n6, n7, n8, n9, n10, n11, n12⟩ := S.ln hN
  have hd : sm_ 9 (ar 70) nd := hN.2.2.2.2.2.2.2.1
  have hg : ∀ q, q < nd → a 70 q = ar 70 q := fun q _ => by rw [S.a70]
  have hR := (S.ln hN).rw
  rcases hx with hx | ⟨hx, hx2⟩
  · have c8 : x = 0 ∨ x = 1 ∨ x = 2 ∨ x = 3 ∨ x = 4 ∨ x = 5 ∨ x = 6 ∨ x = 7 := by omega
    rw [m_X6_line, wd_ck w0_ (by decide), if_pos (show nI x < 10 from nI_lt (b := 10) (by omega) (by omega))]
    unfold b_X6_line_27
    have h6 : wd_k 0 = 6 := w0_
    rcases c8 with rfl | rfl | rfl | rfl | rfl | rfl | rfl | rfl
    · rw [if_pos (show nI 0 = 0 from rfl), gr_6_5 w0_, Option.bind_some, m_X0_state, wd_ck w68 (by decide), gi_0_2 w68, n2]
      exact ⟨v, a, rfl, S⟩
    · rw [if_neg (show ¬ nI 1 = 0 by decide), if_pos (show nI 1 = 1 from rfl), gr_6_5 w0_, Option.bind_some, m_X0_dialled, wd_ck w68 (by decide), gr_0_0 w68, Option.bind_some, Option.bind_some, ro_size hR]
      exact ⟨v, a, rfl, S⟩
    · rw [if_neg (show ¬ nI 2 = 0 by decide), if_neg (show ¬ nI 2 = 1 by decide), if_pos (show nI 2 = 2 from rfl), gr_6_5 w0_, Option.bind_some, m_X0_ticksLeft, wd_ck w68 (by decide), gi_0_4 w68, S.v68]
      exact ⟨v, a, rfl, S⟩
    · rw [if_neg (show ¬ nI 3 = 0 by decide), if_neg (show ¬ nI 3 = 1 by decide), if_neg (show ¬ nI 3 = 2 by decide), if_pos (show nI 3 = 3 from rfl), gr_6_5 w0_, Option.bind_some, wt_ n2 n1, Option.bind_some]
      refine ⟨v, a, ?_, S⟩
      show _ = some (wd_h v a pr hh, if s = 1 then (if nd = 0 then 0 else if bt_ (fi_ vi ar pr pl (ar 70) nd) m 0 0 = 0 then 1 else 2) else -1)
      by_cases e : s = 1
      · rw [if_pos e, if_neg (show ¬ (1 : Int32) = 0 by decide), if_pos e, Option.bind_some, gr_6_2 w0_, Option.bind_some, m_X0_currentStage, wd_ck w68 (by decide), gr_0_0 w68, Option.bind_some, ro_size hR, Option.bind_some, Option.bind_some, c_fit hL S.pf n5 n4 hd hg, Option.bind_some]
        by_cases e0 : nd = 0
        · rw [if_pos (show nI nd = 0 by rw [e0]; rfl), if_pos e0]; rfl
        · rw [if_neg (nI_ne0 (by omega) (by omega)), if_neg e0]
          by_cases hz : bt_ (fi_ vi ar pr pl (ar 70) nd) m 0 0 = 0
          · rw [if_pos hz, if_pos hz]; rfl
          · rw [if_neg hz, if_neg hz]; rfl
      · rw [if_neg e, if_pos rfl, if_neg e]
    · rw [if_neg (show ¬ nI 4 = 0 by decide), if_neg (show ¬ nI 4 = 1 by decide), if_neg (show ¬ nI 4 = 2 by decide), if_neg (show ¬ nI 4 = 3 by decide), if_pos (show nI 4 = 4 from rfl), gr_6_5 w0_, Option.bind_some, gr_6_2 w0_, Option.bind_some, m_X0_winner, wd_ck w68 (by decide), gi_0_2 w68, n2, Option.bind_some, gr_0_0 w68, Option.bind_some, gi_0_3 w68, S.v68, Option.bind_some, c_wn hL S.pf n5 n4 hd hg, c_wh hL S.pf n5 n4 hd hg, Option.bind_some, Option.bind_some]
      refine ⟨v, a, ?_, S⟩
      show _ = some (wd_h v a pr hh, if s = 2 then (if vi 68 3 = 4 then wo_ (wn_ (fun i => fi_ vi ar pr pl (ar 70) nd i && he_ vi pr i) (cx_ ar pr) m 0 none) else wo_ (wn_ (fi_ vi ar pr pl (ar 70) nd) (cx_ ar pr) m 0 none)) else -1)
      by_cases e : s = 2
      · rw [if_pos (show nI s = 2 by rw [e]; rfl), if_pos e]
        by_cases e4 : vi 68 3 = 4
        · rw [if_pos e4, if_pos e4]; rfl
        · rw [if_neg e4, if_neg e4]; rfl
      · rw [if_neg (show ¬ nI s = 2 by rw [show (2 : Int32) = nI 2 from rfl, nI_eq (by omega) (by omega)]; exact e), if_neg e]; rfl
    · rw [if_neg (show ¬ nI 5 = 0 by decide), if_neg (show ¬ nI 5 = 1 by decide), if_neg (show ¬ nI 5 = 2 by decide), if_neg (show ¬ nI 5 = 3 by decide), if_neg (show ¬ nI 5 = 4 by decide), if_pos (show nI 5 = 5 from rfl), gr_6_2 w0_, Option.bind_some, gr_6_5 w0_, Option.bind_some, m_X0_dialled, wd_ck w68 (by decide), gr_0_0 w68, Option.bind_some, Option.bind_some, pn_sf (S.pn hL) hR n8, Option.bind_some, show (68 + 1 + 1 : Nat) = 70 from rfl, S.a70, sb_fr hL S.pf.v S.pf.a]
      exact ⟨v, a, rfl, S⟩
    · rw [if_neg (show ¬ nI 6 = 0 by decide), if_neg (show ¬ nI 6 = 1 by decide), if_neg (show ¬ nI 6 = 2 by decide), if_neg (show ¬ nI 6 = 3 by decide), if_neg (show ¬ nI 6 = 4 by decide), if_neg (show ¬ nI 6 = 5 by decide), if_pos (show nI 6 = 6 from rfl), gr_6_5 w0_, Option.bind_some, m_X0_ended, wd_ck w68 (by decide), gi_0_3 w68, S.v68]
      exact ⟨v, a, rfl, S⟩
    · rw [if_neg (show ¬ nI 7 = 0 by decide), if_neg (show ¬ nI 7 = 1 by decide), if_neg (show ¬ nI 7 = 2 by decide), if_neg (show ¬ nI 7 = 3 by decide), if_neg (show ¬ nI 7 = 4 by decide), if_neg (show ¬ nI 7 = 5 by decide), if_neg (show ¬ nI 7 = 6 by decide), if_pos (show nI 7 = 7 from rfl), b2i, m_X6_wayOfTheLine, wd_ck w0_ (by decide), gr_6_5 w0_, Option.bind_some, m_X0_state, wd_ck w68 (by decide), gi_0_2 w68, n2, Option.bind_some, Option.bind_some]
      show ∃ v' a', _ = some (wd_h v' a' pr hh, if s = 2 then (if vi 68 3 = 4 then 9 else (rx_ vi ar pr m pl dr an 6 nd (ar 70)).1) else -1) ∧ _
      by_cases e : s = 2
      · rw [if_pos (show nI s = 2 by rw [e]; rfl), if_pos e, Option.bind_some, m_X0_ended, wd_ck w68 (by decide), gi_0_3 w68, S.v68, Option.bind_some, Option.bind_some]
        by_cases e4 : vi 68 3 = 4
        · rw [if_pos e4, if_pos e4]
          exact ⟨v, a, rfl, S⟩
        · obtain ⟨v2, a2, g1, g2, g3, g4, -⟩ := cd_ (hh := hh) (S.pn hL) hR n8 (by decide) (by decide)
          rw [if_neg e4, if_neg e4, gr_6_4 w0_, Option.bind_some, gr_6_2 w0_, Option.bind_some, Option.bind_some, m_X0_dialled, wd_ck w68 (by decide), gr_0_0 w68, Option.bind_some, Option.bind_some, g1, Option.bind_some, gr_6_4 w0_, Option.bind_some, m_X4_way, wd_ck w63 (by decide), gi_4_2 w63, g4, Option.bind_some, Option.bind_some, rx_fr hL S.pf.v S.pf.a, show (69 + 1 : Nat) = 70 from rfl, S.a70]
          exact ⟨v2, a2, rfl, S.trans ⟨fun c e q => by unfold kv_ at q; rw [g2 c (by omega) (by omega) (by omega)], fun c e q => by unfold ka_ at q; rw [g3 c (by omega) (by omega)]⟩⟩
      · rw [if_neg (show ¬ nI s = 2 by rw [show (2 : Int32) = nI 2 from rfl, nI_eq (by omega) (by omega)]; exact e), if_neg e]
        exact ⟨v, a, rfl, S⟩
  · refine ⟨v, a, ?_, S⟩
    rw [m_X6_line, wd_ck w0_ (by decide), if_neg (show ¬ nI x < 10 from nI_nlt (b := 10) hx (by omega)), if_neg (show ¬ 20 ≤ nI x from nI_ge (b := 20) hx2 (by omega)), gr_6_5 w0_, Option.bind_some, m_X0_dialled, wd_ck w68 (by decide), gr_0_0 w68, Option.bind_some, Option.bind_some, show (10 : Int32) = nI 10 from rfl, pk_sub hx, ro_at hR (by omega), Option.bind_some, show (68 + 1 + 1 : Nat) = 70 from rfl, S.a70]
    rw [lv_d hx]
theorem lm_ {s nd x : Nat} (hL : PL_ vi ar pr m pl dr an) (hN : Ln_ vi ar s nd) (S : SC_ vi ar v a) (hx : x ≤ 7 ∨ (10 ≤ x ∧ x < 20)) : ∃ v' a', m_X7_lineNow (wd_h v a pr hh) 72 (nI x) = some (wd_h v' a' pr hh, lv_ vi ar pr m pl dr an s nd x) ∧ SC_ vi ar v' a' := by
  obtain ⟨n1, n2, n3, n4, n5, n6, n7, n8, n9, n10, n11, n12⟩ := S.ln hN
  have hd : sm_ 9 (ar 70) nd := hN.2.2.2.2.2.2.2.1
  obtain ⟨c, p1, p2, p3⟩ := lp_ (ar := a) (pr := pr) (hh := hh) n4 n6
  have S2 : SC_ vi ar (up2 v 72 24 (nI nd)) c := S.trans (lp_sc p2)
  have hg : ∀ q, q < nd → c 84 q = ar 70 q := fun q hq => by rw [p3 q hq, n7 q hq, S.a70]
  have v31 : v 72 31 = vi 68 3 := by rw [← n9, S.v68]
  rw [m_X7_lineNow, wd_ck w72 (by decide)]
  rcases hx with hx | ⟨hx, hx2⟩
  · have c8 : x = 0 ∨ x = 1 ∨ x = 2 ∨ x = 3 ∨ x = 4 ∨ x = 5 ∨ x = 6 ∨ x = 7 := by omega
    rcases c8 with rfl | rfl | rfl | rfl | rfl | rfl | rfl | rfl
    · rw [if_pos (show nI 0 = 0 from rfl), gi_7_27 w72, n3]
      exact ⟨v, a, rfl, S⟩
    · rw [if_neg (show ¬ nI 1 = 0 by decide), if_pos (show nI 1 = 1 from rfl), gi_7_28 w72, n6]
      exact ⟨v, a, rfl, S⟩
    · rw [if_neg (show ¬ nI 2 = 0 by decide), if_neg (show ¬ nI 2 = 1 by decide), if_pos (show nI 2 = 2 from rfl), gi_7_27 w72, n3, Option.bind_some]
      refine ⟨v, a, ?_, S⟩
      show _ = some (wd_h v a pr hh, vi 68 4)
      by_cases e : s = 1
      · rw [if_pos (show nI s = 1 by rw [e]; rfl), gi_7_30 w72, (n10 e).2.1, S.v68]; rfl
      · rw [if_neg (show ¬ nI s = 1 by rw [show (1 : Int32) = nI 1 from rfl, nI_eq (by omega) (by omega)]; exact e), ← S.v68, n11 e]
    · rw [if_neg (show ¬ nI 3 = 0 by decide), if_neg (show ¬ nI 3 = 1 by decide), if_neg (show ¬ nI 3 = 2 by decide), if_pos (show nI 3 = 3 from rfl), gi_7_27 w72, n3, Option.bind_some]
      show ∃ v' a', _ = some (wd_h v' a' pr hh, if s = 1 then (if nd = 0 then 0 else if bt_ (fi_ vi ar pr pl (ar 70) nd) m 0 0 = 0 then 1 else 2) else -1) ∧ _
      by_cases e : s = 1
      · rw [if_pos (show nI s = 1 by rw [e]; rfl), if_pos e, b2i, m_X7_stageNow, wd_ck w72 (by decide), p1, Option.bind_some, gi_7_28 w72, up2_n (by omega), n6, Option.bind_some, Option.bind_some, m_fit hL S2.pf n4 hd hg, Option.bind_some]
        refine ⟨_, c, ?_, S2⟩
        by_cases e0 : nd = 0
        · rw [if_pos (show nI nd = 0 by rw [e0]; rfl), if_pos e0]
        · rw [if_neg (nI_ne0 (by omega) (by omega)), if_neg e0]
          by_cases hz : bt_ (fi_ vi ar pr pl (ar 70) nd) m 0 0 = 0
          · rw [if_pos hz, if_pos hz]
          · rw [if_neg hz, if_neg hz]
      · rw [if_neg (show ¬ nI s = 1 by rw [show (1 : Int32) = nI 1 from rfl, nI_eq (by omega) (by omega)]; exact e), if_neg e]
        exact ⟨v, a, rfl, S⟩
    · rw [if_neg (show ¬ nI 4 = 0 by decide), if_neg (show ¬ nI 4 = 1 by decide), if_neg (show ¬ nI 4 = 2 by decide), if_neg (show ¬ nI 4 = 3 by decide), if_pos (show nI 4 = 4 from rfl), gi_7_27 w72, n3, Option.bind_some]
      show ∃ v' a', _ = some (wd_h v' a' pr hh, if s = 2 then (if vi 68 3 = 4 then wo_ (wn_ (fun i => fi_ vi ar pr pl (ar 70) nd i && he_ vi pr i) (cx_ ar pr) m 0 none) else wo_ (wn_ (fi_ vi ar pr pl (ar 70) nd) (cx_ ar pr) m 0 none)) else -1) ∧ _
      by_cases e : s = 2
      · rw [if_pos (show nI s = 2 by rw [e]; rfl), if_pos e, b2i, m_X7_winsNow, wd_ck w72 (by decide), p1, Option.bind_some, gi_7_31 w72, up2_n (by omega), v31, Option.bind_some]
        refine ⟨_, c, ?_, S2⟩
        by_cases e4 : vi 68 3 = 4
        · rw [if_pos e4, if_pos e4, gi_7_28 w72, up2_n (by omega), n6, Option.bind_some, m_fit hL S2.pf n4 hd hg, Option.bind_some, m_he hL S2.pf, Option.bind_some, m_wn hL S2.pf, Option.bind_some]
        · rw [if_neg e4, if_neg e4, gi_7_28 w72, up2_n (by omega), n6, Option.bind_some, m_fit hL S2.pf n4 hd hg, Option.bind_some, m_wn hL S2.pf, Option.bind_some]
      · rw [if_neg (show ¬ nI s = 2 by rw [show (2 : Int32) = nI 2 from rfl, nI_eq (by omega) (by omega)]; exact e), if_neg e]
        exact ⟨v, a, rfl, S⟩
    · have e1 := ml_sn_l (hh := hh) (S2.pn hL) n4 (sm_eq hd hg) 64 (nd + 1) (by omega) (by omega)
      rw [pk_m1, show nd + 1 - (nd + 1) = 0 by omega] at e1
      rw [if_neg (show ¬ nI 5 = 0 by decide), if_neg (show ¬ nI 5 = 1 by decide), if_neg (show ¬ nI 5 = 2 by decide), if_neg (show ¬ nI 5 = 3 by decide), if_neg (show ¬ nI 5 = 4 by decide), if_pos (show nI 5 = 5 from rfl), b2i, m_X7_sureNow, wd_ck w72 (by decide), p1, Option.bind_some, gi_7_28 w72, up2_n (by omega), n6, Option.bind_some]
      refine ⟨_, c, e1.trans ?_, S2⟩
      show _ = some (_, wo_ (fl_ (sb_ vi ar pr m pl an (ar 70)) (nd + 1) 0))
      rw [sb_fr hL S2.pf.v S2.pf.a, fl_congr (s := sb_ vi ar pr m pl an (c 84)) (t := sb_ vi ar pr m pl an (ar 70)) (nd + 1) 0 (fun q _ hq => sb_congr (fun i hi => hg i (by omega)))]
    · rw [if_neg (show ¬ nI 6 = 0 by decide), if_neg (show ¬ nI 6 = 1 by decide), if_neg (show ¬ nI 6 = 2 by decide), if_neg (show ¬ nI 6 = 3 by decide), if_neg (show ¬ nI 6 = 4 by decide), if_neg (show ¬ nI 6 = 5 by decide), if_pos (show nI 6 = 6 from rfl), gi_7_31 w72, v31]
      exact ⟨v, a, rfl, S⟩
    · rw [if_neg (show ¬ nI 7 = 0 by decide), if_neg (show ¬ nI 7 = 1 by decide), if_neg (show ¬ nI 7 = 2 by decide), if_neg (show ¬ nI 7 = 3 by decide), if_neg (show ¬ nI 7 = 4 by decide), if_neg (show ¬ nI 7 = 5 by decide), if_neg (show ¬ nI 7 = 6 by decide), if_pos (show nI 7 = 7 from rfl), gi_7_27 w72, n3, Option.bind_some]
      show ∃ v' a', _ = some (wd_h v' a' pr hh, if s = 2 then (if vi 68 3 = 4 then 9 else (rx_ vi ar pr m pl dr an 6 nd (ar 70)).1) else -1) ∧ _
      by_cases e : s = 2
      · rw [if_pos (show nI s = 2 by rw [e]; rfl), if_pos e, b2i, m_X7_wayNow, wd_ck w72 (by decide), p1, Option.bind_some, gi_7_31 w72, up2_n (by omega), v31, Option.bind_some]
        by_cases e4 : vi 68 3 = 4
        · rw [if_pos e4, if_pos e4]
          exact ⟨_, c, rfl, S2⟩
        · obtain ⟨v2, a2, g1, g2, g3, g4, -⟩ := md_ (hh := hh) (S2.pn hL) n4 up2_s (sm_eq hd hg)
          rw [if_neg e4, if_neg e4, b2i, g1, rx_fr hL S2.pf.v S2.pf.a, (rx_congr (n := nd) (g := c 84) (g' := ar 70) hL 6 nd (c 84) (ar 70) hg).1]
          exact ⟨v2, a2, rfl, S2.trans ⟨fun k e q => by
            unfold kv_ at q
            by_cases ek : k = 72
            · rw [ek, g3 e (by omega) (by omega)]
            · rw [g2 k ek], fun k e q => by unfold ka_ at q; rw [g4 k (by omega)]⟩⟩
      · rw [if_neg (show ¬ nI s = 2 by rw [show (2 : Int32) = nI 2 from rfl, nI_eq (by omega) (by omega)]; exact e), if_neg e]
        exact ⟨v, a, rfl, S⟩
  · have ne : ∀ {y : Int32} (k : Nat), y = nI k → k ≤ 7 → ¬ nI x = y := fun k hy hk z => by
      rw [hy, nI_eq (by omega) (by omega)] at z
      omega
    refine ⟨v, a, ?_, S⟩
    rw [if_neg (show ¬ nI x = 0 from ne 0 rfl (by omega)), if_neg (show ¬ nI x = 1 from ne 1 rfl (by omega)), if_neg (show ¬ nI x = 2 from ne 2 rfl (by omega)), if_neg (show ¬ nI x = 3 from ne 3 rfl (by omega)), if_neg (show ¬ nI x = 4 from ne 4 rfl (by omega)), if_neg (show ¬ nI x = 5 from ne 5 rfl (by omega)), if_neg (show ¬ nI x = 6 from ne 6 rfl (by omega)), if_neg (show ¬ nI x = 7 from ne 7 rfl (by omega)), gi_7_28 w72, n6, Option.bind_some, show (10 : Int32) = nI 10 from rfl, pk_sub hx]
    rw [lv_d hx]
    by_cases hl : x - 10 < nd
    · rw [if_neg (nI_ge hl (by omega)), if_pos hl, gr_7_29 w72, Option.bind_some, wd_ai (by decide) (by decide) (show x - 10 < 10 by omega), Option.bind_some, n7 _ hl, S.a70]
    · rw [if_pos (nI_le (by omega) (by omega)), if_neg hl]
end TL
theorem ok_line (x : Int32) : OK_ (fun h => m_X6_line h 0 x) (fun h => m_X7_line h 72 x) := by
  intro vi ar pr hh hI
  show ∃ vi1 ar1 pr1 vi2 ar2 r, m_X6_line (wd_h vi ar pr hh) 0 x = _ ∧ m_X7_line (wd_h vi1 ar1 pr1 hh) 72 x = _ ∧ _
  obtain ⟨n, m, pl, dr, an, s, nd, hP, hL, hN, hS, hC⟩ := id hI
  have good : ∀ k : Nat, (k ≤ 7 ∨ (10 ≤ k ∧ k < 20)) → x = nI k → (∀ h : dp_H, dp_ck h 72 7 (some (0 : Int32)) = some 0 → m_X7_line h 72 x = dp_b2 (m_X7_lineNow h 72 x) fun h v => some (h, v)) → ∃ vi1 ar1 pr1 vi2 ar2 r, m_X6_line (wd_h vi ar pr hh) 0 x = some (wd_h vi1 ar1 pr1 hh, r) ∧ m_X7_line (wd_h vi1 ar1 pr1 hh) 72 x = some (wd_h vi2 ar2 pr1 hh, r) ∧ I_ vi2 ar2 pr1 := by
    intro k hk hx hM
    obtain ⟨v1, a1, e1, S1⟩ := lc_ (hh := hh) hL hN SC_.refl hk
    obtain ⟨v2, a2, e2, S2⟩ := lm_ (hh := hh) hL hN S1 hk
    exact ⟨v1, a1, pr, v2, a2, _, by rw [hx, e1], by rw [hM _ (wd_ck w72 (by decide)), b2i, hx, e2], hI.sc S2⟩
  have ck : ∀ {h : dp_H} {β : Type} {o : Option β}, dp_ck h 72 7 (some (0 : Int32)) = some 0 → dp_ck h 72 7 o = o := fun {h β o} q => by
    unfold dp_ck at q ⊢
    split at q
    · rename_i z; rw [if_pos z]
    · cases q
  rcases pk_ix x (n := 20) (by decide) with h0 | h1 | ⟨k, hk, hx⟩
  · refine ⟨vi, ar, pr, vi, ar, -1002, ?_, ?_, hI⟩
    · rw [m_X6_line, wd_ck w0_ (by decide), if_pos (Int32.lt_trans h0 (by decide))]
      unfold b_X6_line_27
      have ne : ∀ {y : Int32}, ¬ y < 0 → ¬ x = y := fun q z => q (z ▸ h0)
      rw [if_neg (ne (by decide)), if_neg (ne (by decide)), if_neg (ne (by decide)), if_neg (ne (by decide)), if_neg (ne (by decide)), if_neg (ne (by decide)), if_neg (ne (by decide)), if_neg (ne (by decide))]
    · rw [m_X7_line, wd_ck w72 (by decide), wi_, if_pos h0, Option.bind_some, if_pos rfl, wi_, if_pos (Int32.lt_trans h0 (by decide)), Option.bind_some, if_pos rfl]
  · have g : ∀ {y : Int32}, y < 20 → y < x := fun q => Int32.lt_of_lt_of_le q h1
    have ne : ∀ {y : Int32}, y < 20 → ¬ x = y := fun q z => by rw [← z] at q; exact absurd (g q) Int32.lt_irrefl
    refine ⟨vi, ar, pr, vi, ar, -1002, ?_, ?_, hI⟩
    · rw [m_X6_line, wd_ck w0_ (by decide), if_neg (Int32.not_lt.mpr (Int32.le_of_lt (g (y := 10) (by decide)))), if_pos (show 20 ≤ x from h1)]
      unfold b_X6_line_27
      rw [if_neg (ne (by decide)), if_neg (ne (by decide)), if_neg (ne (by decide)), if_neg (ne (by decide)), if_neg (ne (by decide)), if_neg (ne (by decide)), if_neg (ne (by decide)), if_neg (ne (by decide))]
    · rw [m_X7_line, wd_ck w72 (by decide), wi_, if_neg (Int32.not_lt.mpr (Int32.le_of_lt (g (y := 0) (by decide)))), if_pos (g (y := 7) (by decide)), Option.bind_some, if_pos rfl, wi_, if_neg (Int32.not_lt.mpr (Int32.le_of_lt (g (y := 10) (by decide)))), if_pos (g (y := 19) (by decide)), Option.bind_some, if_pos rfl]
  · by_cases h7 : k ≤ 7
    · refine good k (Or.inl h7) hx (fun h hck => ?_)
      rw [m_X7_line, ck hck, wi_, hx, if_neg (nI_pos (by omega)), if_neg (show ¬ 7 < nI k from nI_nlt (a := 7) h7 (by omega)), Option.bind_some, if_neg (show ¬ (1 : Int32) = 0 by decide)]
    · by_cases h10 : 10 ≤ k
      · refine good k (Or.inr ⟨h10, hk⟩) hx (fun h hck => ?_)
        rw [m_X7_line, ck hck, wi_, hx, if_neg (nI_pos (by omega)), if_pos (show 7 < nI k from nI_lt (a := 7) (by omega) (by omega)), Option.bind_some, if_pos rfl, wi_, if_neg (show ¬ nI k < 10 from nI_nlt (b := 10) h10 (by omega)), if_neg (show ¬ 19 < nI k from nI_nlt (a := 19) (by omega) (by omega)), Option.bind_some, if_neg (show ¬ (1 : Int32) = 0 by decide)]
      · have k89 : k = 8 ∨ k = 9 := by omega
        refine ⟨vi, ar, pr, vi, ar, -1002, ?_, ?_, hI⟩
        · rcases k89 with rfl | rfl <;> subst hx <;> rw [m_X6_line, wd_ck w0_ (by decide)] <;> rfl
        · rcases k89 with rfl | rfl <;> subst hx <;> rw [m_X7_line, wd_ck w72 (by decide)] <;> rfl
