/-! press -/
section PS
variable {vi ar v a w b : Nat → Nat → Int32} {pr : Nat → Nat} {hh : Int64} {m : Nat} {pl dr an : Nat → Nat}
theorem bi_ {α : Type} {o : Option α} : (o.bind fun x => some x) = o := by cases o <;> rfl
theorem b2i {o : Option (dp_H × Int32)} : (dp_b2 o fun h v => some (h, v)) = o := by
  cases o with
  | none => rfl
  | some x => obtain ⟨h, v⟩ := x; rfl
theorem wz_ {G : Nat → Bool} {c : Nat → Nat → Int32} (hm : m ≤ 10) : wo_ (wn_ G c m 0 none) = -1 ↔ bt_ G m 0 0 = 0 := by
  rw [bt_z hm]
  have hs := wn_some (F := G) (c := c) m 0 none
  cases e : wn_ G c m 0 none with
  | none =>
    have h2 := (hs.mp e).2
    exact ⟨fun _ q hq => h2 q (by omega) (by omega), fun _ => rfl⟩
  | some j =>
    have hj := wn_lt (m := m) m 0 none (by omega) (fun j hj => by cases hj) j e
    refine ⟨fun h => absurd h (wo_ne (j := j) (by omega)), fun h => ?_⟩
    have := hs.mpr ⟨rfl, fun q _ hq => h q (by omega)⟩
    rw [e] at this
    cases this
theorem c_take {nd d : Nat} (hL : PL_ vi ar pr m pl dr an) (h69 : vi 69 1 = nI nd) (hn : nd ≤ 9) (hd : sm_ 9 (up2 ar 70 nd (nI d) 70) (nd + 1)) : m_X0_take (wd_h vi ar pr hh) 68 (nI d) 9 = if bt_ (fun i => fi_ vi ar pr pl (up2 ar 70 nd (nI d) 70) (nd + 1) i && he_ vi pr i) m 0 0 = 0 then (if nd + 1 = 10 ∨ bt_ (li_ vi ar pr pl (up2 ar 70 nd (nI d) 70) (nd + 1)) m 0 0 = 0 then m_X0_settle (wd_h (up2 (up2 vi 69 1 (nI (nd + 1))) 68 8 (vi 68 8 + 1)) (up2 ar 70 nd (nI d)) pr hh) 68 1 9 else m_X0_goOnWaiting (wd_h (up2 (up2 vi 69 1 (nI (nd + 1))) 68 8 (vi 68 8 + 1)) (up2 ar 70 nd (nI d)) pr hh) 68 9) else m_X0_settle (wd_h (up2 (up2 vi 69 1 (nI (nd + 1))) 68 8 (vi 68 8 + 1)) (up2 ar 70 nd (nI d)) pr hh) 68 4 9 := by
  have hm := hL.1
  have hR : Rw_ vi 69 10 nd := ⟨rfl, rfl, by decide, h69, by omega⟩
  have F : PF_ vi ar (up2 (up2 vi 69 1 (nI (nd + 1))) 68 8 (vi 68 8 + 1)) (up2 ar 70 nd (nI d)) := ⟨fun c e q => by rw [up2_n (by omega), up2_n (by omega)], fun c e q => up2_n (by omega)⟩
  have h1 : (up2 (up2 vi 69 1 (nI (nd + 1))) 68 8 (vi 68 8 + 1)) 69 1 = nI (nd + 1) := by rw [up2_n (by omega), up2_s]
  have hR2 : Rw_ (up2 (up2 vi 69 1 (nI (nd + 1))) 68 8 (vi 68 8 + 1)) 69 10 (nd + 1) := ⟨rfl, rfl, by decide, h1, by omega⟩
  have t40 : ∀ y : Int32, b_X0_take_40 (wd_h (up2 (up2 vi 69 1 (nI (nd + 1))) 68 8 (vi 68 8 + 1)) (up2 ar 70 nd (nI d)) pr hh) 68 9 y = b_X0_take_70 (wd_h (up2 (up2 vi 69 1 (nI (nd + 1))) 68 8 (vi 68 8 + 1)) (up2 ar 70 nd (nI d)) pr hh) 68 9 y (if nd + 1 = 10 ∨ bt_ (li_ vi ar pr pl (up2 ar 70 nd (nI d) 70) (nd + 1)) m 0 0 = 0 then 1 else 0) := by
    intro y
    unfold b_X0_take_40
    rw [gr_0_0 w68, Option.bind_some, ro_size hR2, Option.bind_some]
    by_cases h10 : nd + 1 = 10
    · rw [if_pos (show 10 ≤ nI (nd + 1) by rw [h10]; decide), if_pos (Or.inl h10)]
    · rw [if_neg (show ¬ 10 ≤ nI (nd + 1) from nI_ge (b := 10) (by omega) (by omega)), Option.bind_some, c_lead hL F h1 (by omega) hd (fun _ _ => rfl), Option.bind_some]
      by_cases hz : bt_ (li_ vi ar pr pl (up2 ar 70 nd (nI d) 70) (nd + 1)) m 0 0 = 0
      · rw [if_pos hz, if_pos (Or.inr hz)]
      · rw [if_neg hz, if_neg (fun z => z.elim h10 hz)]
  rw [m_X0_take, wd_ck w68 (by decide), gr_0_0 w68, Option.bind_some, ro_append hR, if_pos (by omega), dp_b2_s, if_neg (show ¬ (1 : Int32) = 0 by decide), gi_0_8 w68, up2_n (by omega), Option.bind_some, pi_0_8 w68, Option.bind_some, gr_0_0 w68, Option.bind_some, c_wh hL F h1 (by omega) hd (fun _ _ => rfl), Option.bind_some, t40, t40]
  by_cases hz : bt_ (fun i => fi_ vi ar pr pl (up2 ar 70 nd (nI d) 70) (nd + 1) i && he_ vi pr i) m 0 0 = 0
  · rw [if_pos ((wz_ hm).mpr hz), if_pos hz]
    unfold b_X0_take_70
    rw [if_pos rfl, bi_, bi_]
    by_cases hy : nd + 1 = 10 ∨ bt_ (li_ vi ar pr pl (up2 ar 70 nd (nI d) 70) (nd + 1)) m 0 0 = 0
    · rw [if_pos hy, if_pos hy, if_neg (show ¬ (1 : Int32) = 0 by decide)]
    · rw [if_neg hy, if_neg hy, if_pos rfl]
  · rw [if_neg (fun q => hz ((wz_ hm).mp q)), if_neg hz]
    unfold b_X0_take_70
    rw [if_neg (show ¬ (1 : Int32) = 0 by decide), bi_]
theorem c_goon {g : Nat → Int32} {n : Nat} (hL : PL_ vi ar pr m pl dr an) (F : PF_ vi ar v a) (hR : v 69 1 = nI (n + 1)) (hn : n + 1 ≤ 10) (hd : sm_ 9 g (n + 1)) (hg : ∀ q, q < n + 1 → a 70 q = g q) : m_X0_goOnWaiting (wd_h v a pr hh) 68 9 = some (wd_h (up2 (up2 v 68 2 1) 68 4 (if bt_ (fi_ vi ar pr pl g (n + 1)) m 0 0 = 0 then a 71 1 else a 71 2)) a pr hh) := by
  have F2 : PF_ vi ar (up2 v 68 2 1) a := ⟨fun c e q => by rw [up2_n (by omega)]; exact F.1 c e q, F.2⟩
  have h1 : up2 v 68 2 1 69 1 = nI (n + 1) := by rw [up2_n (by omega)]; exact hR
  rw [m_X0_goOnWaiting, wd_ck w68 (by decide), pi_0_2 w68, Option.bind_some, m_X0_currentStage, wd_ck w68 (by decide), gr_0_0 w68, Option.bind_some, ro_size (k := 69) (cap := 10) (n := n + 1) ⟨rfl, rfl, by decide, h1, hn⟩, Option.bind_some, if_neg (nI_ne0 (by omega) (by omega)), Option.bind_some, c_fit hL F2 h1 hn hd hg, Option.bind_some]
  by_cases hz : bt_ (fi_ vi ar pr pl g (n + 1)) m 0 0 = 0
  · rw [if_pos hz, if_pos hz, Option.bind_some, show (1 : Int32) = nI 1 from rfl, tks_ (by omega), Option.bind_some, pi_0_4 w68]
    rfl
  · rw [if_neg hz, if_neg hz, Option.bind_some, show (2 : Int32) = nI 2 from rfl, tks_ (by omega), Option.bind_some, pi_0_4 w68]
    rfl
theorem m_press {g : Nat → Int32} {nd d : Nat} (hL : PL_ vi ar pr m pl dr an) (F : PF_ vi ar w a) (h28 : w 72 28 = nI nd) (h27 : w 72 27 = 1) (hn : nd ≤ 9) (hd : sm_ 9 g (nd + 1)) (hg : ∀ q, q < nd → a 85 q = g q) (hgd : g nd = nI d) (hd9 : d ≤ 9) :
    ∃ c, (∀ k, k ≠ 84 → c k = up2 a 85 nd (nI d) k) ∧ m_X7_press (wd_h w a pr hh) 72 (nI d) = if bt_ (fun i => fi_ vi ar pr pl g (nd + 1) i && he_ vi pr i) m 0 0 = 0 then (if nd + 1 = 10 ∨ bt_ (li_ vi ar pr pl g (nd + 1)) m 0 0 = 0 then m_X7_ends (wd_h (up2 (up2 (up2 w 72 28 (nI (nd + 1))) 72 14 (w 72 14 + 1)) 72 24 (nI (nd + 1))) c pr hh) 72 1 else some (wd_h (up2 (up2 (up2 (up2 w 72 28 (nI (nd + 1))) 72 14 (w 72 14 + 1)) 72 24 (nI (nd + 1))) 72 30 (if bt_ (fi_ vi ar pr pl g (nd + 1)) m 0 0 = 0 then a 81 1 else a 81 2)) c pr hh, 1)) else m_X7_ends (wd_h (up2 (up2 (up2 w 72 28 (nI (nd + 1))) 72 14 (w 72 14 + 1)) 72 24 (nI (nd + 1))) c pr hh) 72 4 := by
  have h28' : up2 (up2 w 72 28 (nI (nd + 1))) 72 14 (w 72 14 + 1) 72 28 = nI (nd + 1) := by rw [up2_n (by omega), up2_s]
  obtain ⟨c, e1, e2, e3⟩ := lp_ (ar := up2 a 85 nd (nI d)) (pr := pr) (hh := hh) (nd := nd + 1) (by omega) h28'
  refine ⟨c, e2, ?_⟩
  have F2 : PF_ vi ar (up2 (up2 (up2 w 72 28 (nI (nd + 1))) 72 14 (w 72 14 + 1)) 72 24 (nI (nd + 1))) c := ⟨fun k e q => by rw [up2_n (by omega), up2_n (by omega), up2_n (by omega)]; exact F.1 k e q, fun k e q => by rw [e2 k (by omega), up2_n (by omega)]; exact F.2 k e q⟩
  have h84 : ∀ q, q < nd + 1 → c 84 q = g q := fun q hq => by
    rw [e3 q hq]
    by_cases e : q = nd
    · rw [e, up2_s, hgd]
    · rw [up2_n (by omega), hg q (by omega)]
  have c81 : ∀ k, c 81 k = a 81 k := fun k => by rw [e2 81 (by decide), up2_n (by omega)]
  rw [m_X7_press, wd_ck w72 (by decide), wi_, if_neg (nI_pos (by omega)), if_neg (show ¬ 9 < nI d from nI_nlt (a := 9) hd9 (by omega)), Option.bind_some, if_neg (show ¬ (1 : Int32) = 0 by decide), gi_7_27 w72, h27, Option.bind_some, if_pos rfl, gr_7_29 w72, Option.bind_some, gi_7_28 w72, h28, Option.bind_some, wd_si (by decide) (by decide) (show nd < 10 by omega), Option.bind_some, gi_7_28 w72, h28, Option.bind_some, pi_7_28 w72, Option.bind_some, gi_7_14 w72, Option.bind_some, pi_7_14 w72, Option.bind_some, nI_1, up2_n (a := 72) (b := 14) (by omega), e1, Option.bind_some, gi_7_28 w72, up2_n (by omega), h28', Option.bind_some, m_fit hL F2 (by omega) hd h84, Option.bind_some, m_he hL F2, Option.bind_some]
  by_cases hz : bt_ (fun i => fi_ vi ar pr pl g (nd + 1) i && he_ vi pr i) m 0 0 = 0
  · rw [if_pos hz, if_pos hz, Option.bind_some]
    by_cases h10 : nd + 1 = 10
    · rw [if_pos (show nI (nd + 1) = 10 by rw [h10]; rfl), if_pos (Or.inl h10), b2i]
    · rw [if_neg (show ¬ nI (nd + 1) = 10 by rw [show (10 : Int32) = nI 10 from rfl, nI_eq (by omega) (by omega)]; exact h10), Option.bind_some, m_lead hL F2 (by omega) hd h84, Option.bind_some]
      by_cases hy : bt_ (li_ vi ar pr pl g (nd + 1)) m 0 0 = 0
      · rw [if_pos hy, if_pos (Or.inr hy), b2i]
      · rw [if_neg hy, if_neg (fun z => z.elim h10 hy), gr_7_10 w72, Option.bind_some]
        by_cases hx : bt_ (fi_ vi ar pr pl g (nd + 1)) m 0 0 = 0
        · rw [if_pos hx, if_pos hx, show dp_ai false (wd_h (up2 (up2 (up2 w 72 28 (nI (nd + 1))) 72 14 (w 72 14 + 1)) 72 24 (nI (nd + 1))) c pr hh) 81 1 = some (c 81 1) from wd_ai (i := 1) (by decide) (by decide) (by decide), Option.bind_some, pi_7_30 w72, Option.bind_some, c81]
        · rw [if_neg hx, if_neg hx, show dp_ai false (wd_h (up2 (up2 (up2 w 72 28 (nI (nd + 1))) 72 14 (w 72 14 + 1)) 72 24 (nI (nd + 1))) c pr hh) 81 2 = some (c 81 2) from wd_ai (i := 2) (by decide) (by decide) (by decide), Option.bind_some, pi_7_30 w72, Option.bind_some, c81]
  · rw [if_neg hz, if_neg hz, b2i]
end PS
theorem ok_press (x : Int32) : OK_ (fun h => m_X6_press h 0 x) (fun h => m_X7_press h 72 x) := by
  intro vi ar pr hh hI
  show ∃ vi1 ar1 pr1 vi2 ar2 r, m_X6_press (wd_h vi ar pr hh) 0 x = _ ∧ m_X7_press (wd_h vi1 ar1 pr1 hh) 72 x = _ ∧ _
  obtain ⟨n, m, pl, dr, an, s, nd, hP, hL, hN, hS, hC⟩ := id hI
  obtain ⟨n1, n2, n3, n4, n5, n6, n7, n8, n9, n10, n11, n12⟩ := id hN
  rw [m_X6_press, wd_ck w0_ (by decide)]
  by_cases h1 : x < 0
  · rw [if_pos h1]
    exact ⟨vi, ar, pr, vi, ar, _, rfl, by rw [m_X7_press, wd_ck w72 (by decide), wi_, if_pos h1]; rfl, hI⟩
  · rw [if_neg h1]
    by_cases h2 : x ≤ 9
    · rw [if_pos h2, gr_6_5 w0_, Option.bind_some, wt_ n2 n1, Option.bind_some]
      by_cases e : s = 1
      · obtain ⟨d, hd9, rfl⟩ := nI_of2 (M := 9) (n := 9) (by decide) h1 h2
        obtain ⟨nd9, -, -⟩ := n10 e
        have K1 : KF_ vi ar (up2 (up2 vi 69 1 (nI (nd + 1))) 68 8 (vi 68 8 + 1)) (up2 ar 70 nd (nI d)) := ⟨fun c e q => by rw [up2_n (by omega), up2_n (by omega)], fun c e q => up2_n (by omega)⟩
        have hd : sm_ 9 (up2 ar 70 nd (nI d) 70) (nd + 1) := fun i hi => by
          by_cases ei : i = nd
          · rw [ei, up2_s]; exact ⟨d, hd9, rfl⟩
          · rw [up2_n (by omega)]; exact n8 i (by omega)
        have hg : ∀ q, q < nd → up2 ar 70 nd (nI d) 85 q = up2 ar 70 nd (nI d) 70 q := fun q hq => by rw [up2_n (by omega), up2_n (by omega), n7 q hq]
        rw [if_pos e, if_neg (show ¬ (1 : Int32) = 0 by decide), Option.bind_some, gr_6_2 w0_, Option.bind_some, c_take hL n5 nd9 hd]
        /- both sides settle -/
        have both : ∀ (y : Int32) (w : Nat → Nat → Int32), m_X0_settle (wd_h (up2 (up2 vi 69 1 (nI (nd + 1))) 68 8 (vi 68 8 + 1)) (up2 ar 70 nd (nI d)) pr hh) 68 y 9 = some (wd_h w (up2 ar 70 nd (nI d)) pr hh) → (∀ c, c ≠ 68 → w c = (up2 (up2 vi 69 1 (nI (nd + 1))) 68 8 (vi 68 8 + 1)) c) → w 68 8 = (up2 (up2 vi 69 1 (nI (nd + 1))) 68 8 (vi 68 8 + 1)) 68 8 → (∀ (u c : Nat → Nat → Int32), KF_ w (up2 ar 70 nd (nI d)) u c → (∀ e, e ≤ 8 → u 68 e = w 68 e) → u 69 1 = nI (nd + 1) → (∀ q, q < nd + 1 → c 70 q = up2 ar 70 nd (nI d) 70 q) → u 72 28 = nI (nd + 1) → (∀ q, q < nd + 1 → c 85 q = up2 ar 70 nd (nI d) 70 q) → u 72 11 = vi 72 11 → u 72 12 = vi 72 12 → u 72 13 = vi 72 13 → u 72 14 = w 68 8 → ∃ u2 c2, m_X7_ends (wd_h u c pr hh) 72 y = some (wd_h u2 c2 pr hh, w 68 2) ∧ I_ u2 c2 pr) → (∀ c : Nat → Nat → Int32, (∀ k, k ≠ 84 → c k = up2 (up2 ar 70 nd (nI d)) 85 nd (nI d) k) → m_X7_press (wd_h w (up2 ar 70 nd (nI d)) pr hh) 72 (nI d) = m_X7_ends (wd_h (up2 (up2 (up2 w 72 28 (nI (nd + 1))) 72 14 (w 72 14 + 1)) 72 24 (nI (nd + 1))) c pr hh) 72 y → ∃ vi1 ar1 pr1 vi2 ar2 r, ((m_X0_settle (wd_h (up2 (up2 vi 69 1 (nI (nd + 1))) 68 8 (vi 68 8 + 1)) (up2 ar 70 nd (nI d)) pr hh) 68 y 9).bind fun h5 => (dp_gr h5 0 6 5).bind fun v6 => (m_X0_state h5 v6).bind fun v7 => some (h5, v7)) = some (wd_h vi1 ar1 pr1 hh, r) ∧ m_X7_press (wd_h vi1 ar1 pr1 hh) 72 (nI d) = some (wd_h vi2 ar2 pr1 hh, r) ∧ I_ vi2 ar2 pr1) := by
          intro y w c1 c3 w8 c4 c ec ep
          have w72' : ∀ e, w 72 e = vi 72 e := fun e => by rw [c3 72 (by decide), up2_n (by omega), up2_n (by omega)]
          obtain ⟨u2, d2, f1, f2⟩ := c4 (up2 (up2 (up2 w 72 28 (nI (nd + 1))) 72 14 (w 72 14 + 1)) 72 24 (nI (nd + 1))) c ⟨fun k e q => by rw [up2_n (by omega), up2_n (by omega), up2_n (by omega)], fun k e q => by rw [ec k (by omega), up2_n (by omega)]⟩ (fun e _ => by rw [up2_n (by omega), up2_n (by omega), up2_n (by omega)]) (by rw [up2_n (by omega), up2_n (by omega), up2_n (by omega), c3 69 (by decide), up2_n (by omega), up2_s]) (fun q hq => by rw [ec 70 (by decide), up2_n (by omega)]) (by rw [up2_n (by omega), up2_n (by omega), up2_s]) (fun q hq => by
            rw [ec 85 (by decide)]
            by_cases eq : q = nd
            · rw [eq, up2_s, up2_s]
            · rw [up2_n (by omega)]; exact hg q (by omega)) (by rw [up2_n (by omega), up2_n (by omega), up2_n (by omega), w72']) (by rw [up2_n (by omega), up2_n (by omega), up2_n (by omega), w72']) (by rw [up2_n (by omega), up2_n (by omega), up2_n (by omega), w72']) (by rw [up2_n (by omega), up2_s, w72', w8, up2_s, hC.2.2.2])
          rw [c1, Option.bind_some, gr_6_5 w0_, Option.bind_some, m_X0_state, wd_ck w68 (by decide), gi_0_2 w68, Option.bind_some, Option.bind_some]
          exact ⟨w, _, pr, u2, d2, _, rfl, by rw [ep, f1], f2⟩
        have v69 : (up2 (up2 vi 69 1 (nI (nd + 1))) 68 8 (vi 68 8 + 1)) 69 1 = nI (nd + 1) := by rw [up2_n (by omega), up2_s]
        by_cases hz : bt_ (fun i => fi_ vi ar pr pl (up2 ar 70 nd (nI d) 70) (nd + 1) i && he_ vi pr i) m 0 0 = 0
        · rw [if_pos hz]
          by_cases hy : nd + 1 = 10 ∨ bt_ (li_ vi ar pr pl (up2 ar 70 nd (nI d) 70) (nd + 1)) m 0 0 = 0
          · rw [if_pos hy]
            obtain ⟨w, c1, c2, c3, w8, c4⟩ := fin_ (x := 1) (hh := hh) (g := up2 ar 70 nd (nI d) 70) (nd := nd + 1) hP hL hS hC (by omega) hd K1 v69 (fun _ _ => rfl) (by rw [up2_n (by omega), up2_n (by omega)]) (by rw [up2_n (by omega), up2_n (by omega)]) (by rw [up2_n (by omega), up2_n (by omega)])
            have KW : KF_ vi ar w (up2 ar 70 nd (nI d)) := K1.trans ⟨fun c e q => by rw [c3 c (by omega)], fun _ _ _ => rfl⟩
            obtain ⟨c, ec, ep⟩ := m_press (hh := hh) (d := d) hL KW.pf (by rw [c3 72 (by decide), up2_n (by omega), up2_n (by omega)]; exact n6) (by rw [c3 72 (by decide), up2_n (by omega), up2_n (by omega), n3, e]; rfl) nd9 hd hg up2_s hd9
            rw [if_pos hz, if_pos hy] at ep
            exact both 1 w c1 c3 w8 c4 c ec ep
          · rw [if_neg hy, c_goon hL K1.pf v69 (by omega) hd (fun _ _ => rfl), Option.bind_some, gr_6_5 w0_, Option.bind_some, m_X0_state, wd_ck w68 (by decide), gi_0_2 w68, up2_n (by omega), up2_s, Option.bind_some, Option.bind_some, up2_n (a := 71) (by omega), up2_n (a := 71) (by omega)]
            have KW : KF_ vi ar (up2 (up2 (up2 (up2 vi 69 1 (nI (nd + 1))) 68 8 (vi 68 8 + 1)) 68 2 1) 68 4 (if bt_ (fi_ vi ar pr pl (up2 ar 70 nd (nI d) 70) (nd + 1)) m 0 0 = 0 then ar 71 1 else ar 71 2)) (up2 ar 70 nd (nI d)) := K1.trans ⟨fun c e q => by rw [up2_n (by omega), up2_n (by omega)], fun _ _ _ => rfl⟩
            obtain ⟨c, ec, ep⟩ := m_press (hh := hh) (d := d) hL KW.pf (by rw [up2_n (by omega), up2_n (by omega), up2_n (by omega), up2_n (by omega)]; exact n6) (by rw [up2_n (by omega), up2_n (by omega), up2_n (by omega), up2_n (by omega), n3, e]; rfl) nd9 hd hg up2_s hd9
            rw [if_pos hz, if_neg hy] at ep
            refine ⟨_, _, pr, _, c, _, rfl, ep, ?_⟩
            have tt : ∃ t : Nat, 1 ≤ t ∧ t ≤ 99 ∧ (if bt_ (fi_ vi ar pr pl (up2 ar 70 nd (nI d) 70) (nd + 1)) m 0 0 = 0 then ar 71 1 else ar 71 2) = nI t := by
              by_cases hx : bt_ (fi_ vi ar pr pl (up2 ar 70 nd (nI d) 70) (nd + 1)) m 0 0 = 0
              · rw [if_pos hx]; exact (hS 1 (by omega)).2
              · rw [if_neg hx]; exact (hS 2 (by omega)).2
            have ts : (if bt_ (fi_ vi ar pr pl (up2 ar 70 nd (nI d) 70) (nd + 1)) m 0 0 = 0 then up2 ar 70 nd (nI d) 81 1 else up2 ar 70 nd (nI d) 81 2) = (if bt_ (fi_ vi ar pr pl (up2 ar 70 nd (nI d) 70) (nd + 1)) m 0 0 = 0 then ar 71 1 else ar 71 2) := by rw [up2_n (by omega), up2_n (by omega), (hS 1 (by omega)).1, (hS 2 (by omega)).1]
            refine (KW.trans ⟨fun k e q => by rw [up2_n (by omega), up2_n (by omega), up2_n (by omega), up2_n (by omega)], fun k e q => by rw [ec k (by omega), up2_n (by omega)]⟩).inv (s := 1) (nd := nd + 1) hP hL hS ⟨by omega, ?_, ?_, by omega, ?_, ?_, fun q hq => ?_, ?_, ?_, fun _ => ⟨by omega, ?_, ?_⟩, by omega, by omega⟩ ⟨?_, ?_, ?_, ?_⟩
            · rw [up2_n (by omega), up2_n (by omega), up2_n (by omega), up2_n (by omega), up2_n (by omega), up2_s]; rfl
            · rw [up2_n (by omega), up2_n (by omega), up2_n (by omega), up2_n (by omega), up2_n (by omega), up2_n (by omega), up2_n (by omega), up2_n (by omega), n3, e]
            · rw [up2_n (by omega), up2_n (by omega), up2_n (by omega), up2_n (by omega), up2_n (by omega), up2_n (by omega), up2_n (by omega), up2_s]
            · rw [up2_n (by omega), up2_n (by omega), up2_n (by omega), up2_s]
            · rw [ec 85 (by decide), ec 70 (by decide), up2_n (a := 70) (by omega)]
              by_cases eq : q = nd
              · rw [eq, up2_s, up2_s]
              · rw [up2_n (by omega)]; exact hg q (by omega)
            · rw [ec 70 (by decide), show up2 (up2 ar 70 nd (nI d)) 85 nd (nI d) 70 = up2 ar 70 nd (nI d) 70 from up2_k (by decide)]
              exact hd
            · rw [up2_n (by omega), up2_n (by omega), up2_n (by omega), up2_n (by omega), up2_n (by omega), up2_n (by omega), up2_n (by omega), up2_n (by omega), up2_n (a := 72) (by omega), up2_n (a := 72) (by omega), up2_n (a := 72) (by omega), up2_n (a := 72) (by omega), up2_n (a := 72) (by omega), up2_n (a := 72) (by omega), up2_n (a := 72) (by omega), up2_n (a := 72) (by omega), n9]
            · rw [up2_s, ts, up2_n (a := 68) (b := 4) (by omega), up2_n (a := 68) (b := 4) (by omega), up2_n (a := 68) (b := 4) (by omega), up2_n (a := 68) (b := 4) (by omega), up2_s]
            · rw [up2_n (by omega), up2_n (by omega), up2_n (by omega), up2_n (by omega), up2_s]
              exact tt
            · rw [up2_n (a := 72) (by omega), up2_n (a := 72) (by omega), up2_n (a := 72) (by omega), up2_n (a := 72) (by omega), up2_n (a := 72) (by omega), up2_n (a := 72) (by omega), up2_n (a := 72) (by omega), up2_n (a := 72) (by omega), up2_n (by omega), up2_n (by omega), up2_n (by omega), up2_n (by omega), up2_n (by omega), up2_n (by omega), up2_n (by omega), up2_n (by omega), hC.1]
            · rw [up2_n (a := 72) (by omega), up2_n (a := 72) (by omega), up2_n (a := 72) (by omega), up2_n (a := 72) (by omega), up2_n (a := 72) (by omega), up2_n (a := 72) (by omega), up2_n (a := 72) (by omega), up2_n (a := 72) (by omega), up2_n (by omega), up2_n (by omega), up2_n (by omega), up2_n (by omega), up2_n (by omega), up2_n (by omega), up2_n (by omega), up2_n (by omega), hC.2.1]
            · rw [up2_n (a := 72) (by omega), up2_n (a := 72) (by omega), up2_n (a := 72) (by omega), up2_n (a := 72) (by omega), up2_n (a := 72) (by omega), up2_n (a := 72) (by omega), up2_n (a := 72) (by omega), up2_n (a := 72) (by omega), up2_n (by omega), up2_n (by omega), up2_n (by omega), up2_n (by omega), up2_n (by omega), up2_n (by omega), up2_n (by omega), up2_n (by omega), hC.2.2.1]
            · rw [up2_n (a := 72) (b := 14) (by omega), up2_n (a := 72) (b := 14) (by omega), up2_s, up2_n (a := 72) (b := 14) (by omega), up2_n (a := 72) (b := 14) (by omega), up2_n (a := 72) (b := 14) (by omega), up2_n (a := 72) (b := 14) (by omega), up2_n (a := 68) (b := 8) (by omega), up2_n (a := 68) (b := 8) (by omega), up2_n (a := 68) (b := 8) (by omega), up2_n (a := 68) (b := 8) (by omega), up2_n (a := 68) (b := 8) (by omega), up2_n (a := 68) (b := 8) (by omega), up2_s, hC.2.2.2]
        · rw [if_neg hz]
          obtain ⟨w, c1, c2, c3, w8, c4⟩ := fin_ (x := 4) (hh := hh) (g := up2 ar 70 nd (nI d) 70) (nd := nd + 1) hP hL hS hC (by omega) hd K1 v69 (fun _ _ => rfl) (by rw [up2_n (by omega), up2_n (by omega)]) (by rw [up2_n (by omega), up2_n (by omega)]) (by rw [up2_n (by omega), up2_n (by omega)])
          have KW : KF_ vi ar w (up2 ar 70 nd (nI d)) := K1.trans ⟨fun c e q => by rw [c3 c (by omega)], fun _ _ _ => rfl⟩
          obtain ⟨c, ec, ep⟩ := m_press (hh := hh) (d := d) hL KW.pf (by rw [c3 72 (by decide), up2_n (by omega), up2_n (by omega)]; exact n6) (by rw [c3 72 (by decide), up2_n (by omega), up2_n (by omega), n3, e]; rfl) nd9 hd hg up2_s hd9
          rw [if_neg hz] at ep
          exact both 4 w c1 c3 w8 c4 c ec ep
      · rw [if_neg e, if_pos rfl]
        exact ⟨vi, ar, pr, vi, ar, _, rfl, by rw [m_X7_press, wd_ck w72 (by decide), wi_, if_neg h1, if_neg (Int32.not_lt.mpr h2), Option.bind_some, if_neg (show ¬ (1 : Int32) = 0 by decide), gi_7_27 w72, n3, Option.bind_some, if_neg (show ¬ nI s = 1 by rw [show (1 : Int32) = nI 1 from rfl, nI_eq (by omega) (by omega)]; exact e)], hI⟩
    · rw [if_neg h2]
      exact ⟨vi, ar, pr, vi, ar, _, rfl, by rw [m_X7_press, wd_ck w72 (by decide), wi_, if_neg h1, if_pos (Int32.not_le.mp h2)]; rfl, hI⟩
