/-! press, pass, end -/
def KF_ (vi ar w b : Nat → Nat → Int32) : Prop := (∀ c e, (c = 1 ∧ e = 1) ∨ (c = 9 ∧ e = 1) ∨ (c = 72 ∧ (e = 0 ∨ e = 2)) ∨ (11 ≤ c ∧ c < 61) → w c e = vi c e) ∧ (∀ c e, c = 2 ∨ (11 ≤ c ∧ c < 61) ∨ c = 71 ∨ (73 ≤ c ∧ c < 82) → b c e = ar c e)
section PR
variable {vi ar v a w b : Nat → Nat → Int32} {pr : Nat → Nat} {hh : Int64} {m : Nat} {pl dr an : Nat → Nat}
theorem KF_.pf (g : KF_ vi ar w b) : PF_ vi ar w b := ⟨fun c e q => g.1 c e (by omega), fun c e q => g.2 c e (by omega)⟩
theorem KF_.trans {v2 a2 : Nat → Nat → Int32} (h : KF_ vi ar v a) (g : KF_ v a v2 a2) : KF_ vi ar v2 a2 := ⟨fun c e q => (g.1 c e q).trans (h.1 c e q), fun c e q => (g.2 c e q).trans (h.2 c e q)⟩
theorem KF_.inv {n s nd : Nat} (g : KF_ vi ar w b) (hP : Pg_ vi ar n) (hL : PL_ vi ar pr m pl dr an) (hS : St_ ar) (hN : Ln_ w b s nd) (hC : Ct_ w) : I_ w b pr := ⟨n, m, pl, dr, an, s, nd, hP.fr (fun c e q => g.1 c e (by omega)) (fun c e q => g.2 c e (by omega)), g.pf.pn hL, hN, hS.fr (fun c e q => g.2 c e (by omega)), hC⟩
theorem c_settle {g : Nat → Int32} {n : Nat} {x : Int32} (hL : PL_ vi ar pr m pl dr an) (F : PF_ vi ar v a) (hR : v 69 1 = nI n) (hn : n ≤ 10) (hd : sm_ 9 g n) (hg : ∀ q, q < n → a 70 q = g q) : ∃ w, m_X0_settle (wd_h v a pr hh) 68 x 9 = some (wd_h w a pr hh) ∧ (∀ c, c ≠ 68 → w c = v c) ∧ w 68 5 = v 68 5 ∧ w 68 8 = v 68 8 ∧ w 68 3 = x ∧ w 68 4 = 0 ∧ w 68 2 = (if bt_ (fi_ vi ar pr pl g n) m 0 0 = 0 then 3 else 2) ∧ w 68 6 = v 68 6 + (if bt_ (fi_ vi ar pr pl g n) m 0 0 = 0 then 0 else 1) ∧ w 68 7 = v 68 7 + (if bt_ (fi_ vi ar pr pl g n) m 0 0 = 0 then 1 else 0) := by
  have F2 : PF_ vi ar (up2 (up2 v 68 3 x) 68 4 0) a := ⟨fun c e q => by rw [up2_n (by omega), up2_n (by omega)]; exact F.1 c e q, F.2⟩
  rw [m_X0_settle, wd_ck w68 (by decide), pi_0_3 w68, Option.bind_some, pi_0_4 w68, Option.bind_some, gr_0_0 w68, Option.bind_some, c_fit hL F2 (by rw [up2_n (by omega), up2_n (by omega)]; exact hR) hn hd hg, Option.bind_some]
  by_cases hz : bt_ (fi_ vi ar pr pl g n) m 0 0 = 0
  · rw [if_pos hz, if_pos hz, if_pos hz, if_pos hz, pi_0_2 w68, Option.bind_some, gi_0_7 w68, Option.bind_some, pi_0_7 w68, Option.bind_some]
    refine ⟨_, rfl, fun c h => by rw [up2_k h, up2_k h, up2_k h, up2_k h], ?_, ?_, ?_, ?_, ?_, ?_, ?_⟩
    · rw [up2_n (by omega), up2_n (by omega), up2_n (by omega), up2_n (by omega)]
    · rw [up2_n (by omega), up2_n (by omega), up2_n (by omega), up2_n (by omega)]
    · rw [up2_n (by omega), up2_n (by omega), up2_n (by omega), up2_s]
    · rw [up2_n (by omega), up2_n (by omega), up2_s]
    · rw [up2_n (by omega), up2_s]
    · rw [up2_n (by omega), up2_n (by omega), up2_n (by omega), up2_n (by omega), Int32.add_zero]
    · rw [up2_s, up2_n (by omega), up2_n (by omega), up2_n (by omega)]
  · rw [if_neg hz, if_neg hz, if_neg hz, if_neg hz, pi_0_2 w68, Option.bind_some, gi_0_6 w68, Option.bind_some, pi_0_6 w68, Option.bind_some]
    refine ⟨_, rfl, fun c h => by rw [up2_k h, up2_k h, up2_k h, up2_k h], ?_, ?_, ?_, ?_, ?_, ?_, ?_⟩
    · rw [up2_n (by omega), up2_n (by omega), up2_n (by omega), up2_n (by omega)]
    · rw [up2_n (by omega), up2_n (by omega), up2_n (by omega), up2_n (by omega)]
    · rw [up2_n (by omega), up2_n (by omega), up2_n (by omega), up2_s]
    · rw [up2_n (by omega), up2_n (by omega), up2_s]
    · rw [up2_n (by omega), up2_s]
    · rw [up2_s, up2_n (by omega), up2_n (by omega), up2_n (by omega)]
    · rw [up2_n (by omega), up2_n (by omega), up2_n (by omega), up2_n (by omega), Int32.add_zero]
theorem m_e47 {y z : Int32} : b_X7_ends_47 (wd_h v a pr hh) 72 y z 72 = some (wd_h (up2 (up2 v 72 12 (z + y)) 72 13 (v 72 13 + (if v 72 27 = 3 then 1 else 0))) a pr hh, v 72 27) := by
  unfold b_X7_ends_47
  rw [pi_7_12 w72, Option.bind_some, gi_7_13 w72, Option.bind_some, gi_7_27 w72, Option.bind_some, up2_n (by omega), up2_n (by omega)]
  by_cases h : v 72 27 = 3
  · rw [if_pos h, if_pos h, pi_7_13 w72, Option.bind_some, gi_7_27 w72, Option.bind_some, up2_n (a := 72) (b := 27) (by omega), up2_n (a := 72) (b := 27) (by omega)]
  · rw [if_neg h, if_neg h, pi_7_13 w72, Option.bind_some, gi_7_27 w72, Option.bind_some, up2_n (a := 72) (b := 27) (by omega), up2_n (a := 72) (b := 27) (by omega)]
theorem m_ends {g : Nat → Int32} {n : Nat} {x : Int32} (hL : PL_ vi ar pr m pl dr an) (F : PF_ vi ar v a) (h28 : v 72 28 = nI n) (hn : n ≤ 10) (hd : sm_ 9 g n) (hg : ∀ q, q < n → a 85 q = g q) : ∃ w b, m_X7_ends (wd_h v a pr hh) 72 x = some (wd_h w b pr hh, if bt_ (fi_ vi ar pr pl g n) m 0 0 = 0 then 3 else 2) ∧ (∀ c, c ≠ 72 → w c = v c) ∧ (∀ e, e ≠ 24 → e ≠ 31 → e ≠ 27 → e ≠ 12 → e ≠ 13 → w 72 e = v 72 e) ∧ (∀ c, c ≠ 84 → b c = a c) ∧ w 72 31 = x ∧ w 72 27 = (if bt_ (fi_ vi ar pr pl g n) m 0 0 = 0 then 3 else 2) ∧ w 72 12 = v 72 12 + (if bt_ (fi_ vi ar pr pl g n) m 0 0 = 0 then 0 else 1) ∧ w 72 13 = v 72 13 + (if bt_ (fi_ vi ar pr pl g n) m 0 0 = 0 then 1 else 0) := by
  obtain ⟨a1, e1, e2, e3⟩ := lp_ (ar := a) (pr := pr) (hh := hh) hn h28
  have F2 : PF_ vi ar (up2 (up2 v 72 24 (nI n)) 72 31 x) a1 := ⟨fun c e q => by rw [up2_n (by omega), up2_n (by omega)]; exact F.1 c e q, fun c e q => by rw [e2 c (by omega)]; exact F.2 c e q⟩
  rw [m_X7_ends, wd_ck w72 (by decide), e1, Option.bind_some, pi_7_31 w72, Option.bind_some, gi_7_28 w72, up2_n (by omega), up2_n (by omega), h28, Option.bind_some, m_fit hL F2 hn hd (fun q hq => (e3 q hq).trans (hg q hq)), Option.bind_some]
  by_cases hz : bt_ (fi_ vi ar pr pl g n) m 0 0 = 0
  · rw [if_pos hz, if_pos hz, if_pos hz, if_pos hz, pi_7_27 w72, Option.bind_some, gi_7_12 w72, Option.bind_some, gi_7_27 w72, up2_s, Option.bind_some, if_neg (show ¬ (3 : Int32) = 2 by decide), m_e47, up2_s, if_pos rfl]
    refine ⟨_, a1, rfl, fun c h => by rw [up2_k h, up2_k h, up2_k h, up2_k h, up2_k h], fun e q1 q2 q3 q4 q5 => by rw [up2_n (by omega), up2_n (by omega), up2_n (by omega), up2_n (by omega), up2_n (by omega)], e2, ?_, ?_, ?_, ?_⟩
    · rw [up2_n (by omega), up2_n (by omega), up2_n (by omega), up2_s]
    · rw [up2_n (by omega), up2_n (by omega), up2_s]
    · rw [up2_n (by omega), up2_s, up2_n (by omega), up2_n (by omega), up2_n (by omega)]
    · rw [up2_s, up2_n (by omega), up2_n (by omega), up2_n (by omega)]
  · rw [if_neg hz, if_neg hz, if_neg hz, if_neg hz, pi_7_27 w72, Option.bind_some, gi_7_12 w72, Option.bind_some, gi_7_27 w72, up2_s, Option.bind_some, if_pos rfl, m_e47, up2_s, if_neg (show ¬ (2 : Int32) = 3 by decide)]
    refine ⟨_, a1, rfl, fun c h => by rw [up2_k h, up2_k h, up2_k h, up2_k h, up2_k h], fun e q1 q2 q3 q4 q5 => by rw [up2_n (by omega), up2_n (by omega), up2_n (by omega), up2_n (by omega), up2_n (by omega)], e2, ?_, ?_, ?_, ?_⟩
    · rw [up2_n (by omega), up2_n (by omega), up2_n (by omega), up2_s]
    · rw [up2_n (by omega), up2_n (by omega), up2_s]
    · rw [up2_n (by omega), up2_s, up2_n (by omega), up2_n (by omega), up2_n (by omega)]
    · rw [up2_s, up2_n (by omega), up2_n (by omega), up2_n (by omega)]
/-- both sides settle -/
theorem fin_ {g : Nat → Int32} {n nd : Nat} {x : Int32} (hP : Pg_ vi ar n) (hL : PL_ vi ar pr m pl dr an) (hS : St_ ar) (hC : Ct_ vi) (hn : nd ≤ 10) (hd : sm_ 9 g nd)
    (hv : KF_ vi ar v a) (v69 : v 69 1 = nI nd) (v70 : ∀ q, q < nd → a 70 q = g q) (v5 : v 68 5 = vi 68 5) (v6 : v 68 6 = vi 68 6) (v7 : v 68 7 = vi 68 7) :
    ∃ w, m_X0_settle (wd_h v a pr hh) 68 x 9 = some (wd_h w a pr hh) ∧ w 68 2 = (if bt_ (fi_ vi ar pr pl g nd) m 0 0 = 0 then 3 else 2) ∧ (∀ c, c ≠ 68 → w c = v c) ∧ w 68 8 = v 68 8 ∧
    ∀ (u c : Nat → Nat → Int32), KF_ w a u c → (∀ e, e ≤ 8 → u 68 e = w 68 e) → u 69 1 = nI nd → (∀ q, q < nd → c 70 q = g q) → u 72 28 = nI nd → (∀ q, q < nd → c 85 q = g q) → u 72 11 = vi 72 11 → u 72 12 = vi 72 12 → u 72 13 = vi 72 13 → u 72 14 = w 68 8 → ∃ u2 c2, m_X7_ends (wd_h u c pr hh) 72 x = some (wd_h u2 c2 pr hh, w 68 2) ∧ I_ u2 c2 pr := by
  obtain ⟨w, e0, e1, e2, e3, e4, e5, e6, e7, e8⟩ := c_settle (x := x) (hh := hh) hL hv.pf v69 hn hd v70
  refine ⟨w, e0, e6, e1, e3, fun u c K u68 u69 c70 u28 c85 u11 u12 u13 u14 => ?_⟩
  have KW : KF_ v a w a := ⟨fun c e q => by rw [e1 c (by omega)], fun _ _ _ => rfl⟩
  have KU := (hv.trans KW).trans K
  obtain ⟨u2, c2, g0, g1, g2, g3, g4, g5, g6, g7⟩ := m_ends (x := x) (hh := hh) hL KU.pf u28 hn hd c85
  have KL : KF_ u c u2 c2 := ⟨fun c e q => by
    by_cases h : c = 72
    · rw [h, g2 e (by omega) (by omega) (by omega) (by omega) (by omega)]
    · rw [g1 c h], fun c e q => by rw [g3 c (by omega)]⟩
  refine ⟨u2, c2, by rw [g0, e6], (KU.trans KL).inv (s := if bt_ (fi_ vi ar pr pl g nd) m 0 0 = 0 then 3 else 2) (nd := nd) hP hL hS ⟨?_, ?_, ?_, hn, ?_, ?_, ?_, ?_, ?_, ?_, ?_, ?_⟩ ⟨?_, ?_, ?_, ?_⟩⟩
  · by_cases hz : bt_ (fi_ vi ar pr pl g nd) m 0 0 = 0
    · rw [if_pos hz]; omega
    · rw [if_neg hz]; omega
  · rw [g1 68 (by decide), u68 2 (by omega), e6]
    by_cases hz : bt_ (fi_ vi ar pr pl g nd) m 0 0 = 0
    · rw [if_pos hz, if_pos hz]; rfl
    · rw [if_neg hz, if_neg hz]; rfl
  · rw [g5]
    by_cases hz : bt_ (fi_ vi ar pr pl g nd) m 0 0 = 0
    · rw [if_pos hz, if_pos hz]; rfl
    · rw [if_neg hz, if_neg hz]; rfl
  · rw [g1 69 (by decide)]; exact u69
  · rw [g2 28 (by omega) (by omega) (by omega) (by omega) (by omega)]; exact u28
  · intro q hq
    rw [g3 85 (by decide), g3 70 (by decide), c85 q hq, c70 q hq]
  · rw [g3 70 (by decide)]
    exact sm_eq hd c70
  · rw [g1 68 (by decide), u68 3 (by omega), e4, g4]
  · intro h
    by_cases hz : bt_ (fi_ vi ar pr pl g nd) m 0 0 = 0
    · rw [if_pos hz] at h; omega
    · rw [if_neg hz] at h; omega
  · intro _
    rw [g1 68 (by decide), u68 4 (by omega), e5]
  · intro h
    by_cases hz : bt_ (fi_ vi ar pr pl g nd) m 0 0 = 0
    · rw [if_pos hz] at h; omega
    · rw [if_neg hz] at h; omega
  · rw [g2 11 (by omega) (by omega) (by omega) (by omega) (by omega), u11, hC.1, g1 68 (by decide), u68 5 (by omega), e2, v5]
  · rw [g6, u12, hC.2.1, g1 68 (by decide), u68 6 (by omega), e7, v6]
  · rw [g7, u13, hC.2.2.1, g1 68 (by decide), u68 7 (by omega), e8, v7]
  · rw [g2 14 (by omega) (by omega) (by omega) (by omega) (by omega), u14, g1 68 (by decide), u68 8 (by omega)]
end PR
theorem ok_end : OK_ (fun h => m_X6_end h 0) (fun h => m_X7_end h 72) := by
  intro vi ar pr hh hI
  show ∃ vi1 ar1 pr1 vi2 ar2 r, m_X6_end (wd_h vi ar pr hh) 0 = _ ∧ m_X7_end (wd_h vi1 ar1 pr1 hh) 72 = _ ∧ _
  obtain ⟨n, m, pl, dr, an, s, nd, hP, hL, hN, hS, hC⟩ := id hI
  obtain ⟨n1, n2, n3, n4, n5, n6, n7, n8, n9, n10, n11, n12⟩ := id hN
  rw [m_X6_end, wd_ck w0_ (by decide), gr_6_5 w0_, Option.bind_some, wt_ n2 n1, Option.bind_some]
  by_cases e : s = 1
  · have K0 : KF_ vi ar vi ar := ⟨fun _ _ _ => rfl, fun _ _ _ => rfl⟩
    obtain ⟨w, c1, c2, c3, w8, c4⟩ := fin_ (x := 3) (hh := hh) (g := ar 70) hP hL hS hC n4 n8 K0 n5 (fun _ _ => rfl) rfl rfl rfl
    obtain ⟨u2, d2, f1, f2⟩ := c4 w ar ⟨fun _ _ _ => rfl, fun _ _ _ => rfl⟩ (fun _ _ => rfl) (by rw [c3 69 (by decide)]; exact n5) (fun _ _ => rfl) (by rw [c3 72 (by decide)]; exact n6) n7 (by rw [c3 72 (by decide)]) (by rw [c3 72 (by decide)]) (by rw [c3 72 (by decide)]) (by rw [c3 72 (by decide), w8, hC.2.2.2])
    rw [if_pos e, if_neg (show ¬ (1 : Int32) = 0 by decide), Option.bind_some, gr_6_2 w0_, Option.bind_some, c1, Option.bind_some, gr_6_5 w0_, Option.bind_some, m_X0_state, wd_ck w68 (by decide), gi_0_2 w68, Option.bind_some, Option.bind_some]
    refine ⟨w, ar, pr, u2, d2, _, rfl, ?_, f2⟩
    rw [m_X7_end, wd_ck w72 (by decide), gi_7_27 w72, c3 72 (by decide), n3, e, Option.bind_some, if_pos (show nI 1 = 1 from rfl), f1, dp_b2_s]
  · rw [if_neg e, if_pos rfl]
    exact ⟨vi, ar, pr, vi, ar, _, rfl, by rw [m_X7_end, wd_ck w72 (by decide), gi_7_27 w72, n3, Option.bind_some, if_neg (show ¬ nI s = 1 by rw [show (1 : Int32) = nI 1 from rfl, nI_eq (by omega) (by omega)]; exact e)], hI⟩
theorem ok_pass (x : Int32) : OK_ (fun h => m_X6_pass h 0 x) (fun h => m_X7_pass h 72 x) := by
  intro vi ar pr hh hI
  show ∃ vi1 ar1 pr1 vi2 ar2 r, m_X6_pass (wd_h vi ar pr hh) 0 x = _ ∧ m_X7_pass (wd_h vi1 ar1 pr1 hh) 72 x = _ ∧ _
  obtain ⟨n, m, pl, dr, an, s, nd, hP, hL, hN, hS, hC⟩ := id hI
  obtain ⟨n1, n2, n3, n4, n5, n6, n7, n8, n9, n10, n11, n12⟩ := id hN
  rw [m_X6_pass, wd_ck w0_ (by decide)]
  simp only [m_X7_pass]
  by_cases h1 : x < 1
  · rw [if_pos h1]
    exact ⟨vi, ar, pr, vi, ar, _, rfl, by rw [wd_ck w72 (by decide), wi_, if_pos h1]; rfl, hI⟩
  · rw [if_neg h1]
    by_cases h2 : x ≤ 99
    · have wi : ∀ h : dp_H, m_X7_within h x 1 99 = some 1 := fun h => by rw [wi_, if_neg h1, if_neg (Int32.not_lt.mpr h2)]
      rw [if_pos h2, gr_6_5 w0_, Option.bind_some, wt_ n2 n1, Option.bind_some]
      by_cases e : s = 1
      · obtain ⟨k, hk, rfl⟩ := nI_of2 (M := 99) (n := 99) (by decide) (fun z => h1 (Int32.lt_trans z (by decide))) h2
        obtain ⟨n10a, n10b, t, t1, t2, t3⟩ := n10 e
        rw [if_pos e, if_neg (show ¬ (1 : Int32) = 0 by decide), Option.bind_some, gr_6_2 w0_, Option.bind_some, m_X0_letTicksGo, wd_ck w68 (by decide), gi_0_4 w68, t3, Option.bind_some]
        have k1 : 1 ≤ k := by
          rcases Nat.eq_zero_or_pos k with z | z
          · rw [z] at h1; exact absurd (by decide) h1
          · exact z
        by_cases hl : t ≤ k
        · rw [if_pos (nI_le hl (by omega))]
          have K0 : KF_ vi ar vi ar := ⟨fun _ _ _ => rfl, fun _ _ _ => rfl⟩
          obtain ⟨w, c1, c2, c3, w8, c4⟩ := fin_ (x := 2) (hh := hh) (g := ar 70) hP hL hS hC n4 n8 K0 n5 (fun _ _ => rfl) rfl rfl rfl
          obtain ⟨u2, d2, f1, f2⟩ := c4 (up2 w 72 30 (nI t - nI k)) ar ⟨fun c e q => up2_n (by omega), fun _ _ _ => rfl⟩ (fun e _ => up2_n (by omega)) (by rw [up2_n (by omega), c3 69 (by decide)]; exact n5) (fun _ _ => rfl) (by rw [up2_n (by omega), c3 72 (by decide)]; exact n6) n7 (by rw [up2_n (by omega), c3 72 (by decide)]) (by rw [up2_n (by omega), c3 72 (by decide)]) (by rw [up2_n (by omega), c3 72 (by decide)]) (by rw [up2_n (by omega), c3 72 (by decide), w8, hC.2.2.2])
          rw [c1, Option.bind_some, Option.bind_some, gr_6_5 w0_, Option.bind_some, m_X0_state, wd_ck w68 (by decide), gi_0_2 w68, Option.bind_some, Option.bind_some]
          refine ⟨w, ar, pr, u2, d2, _, rfl, ?_, f2⟩
          rw [wd_ck w72 (by decide), wi, Option.bind_some, if_neg (show ¬ (1 : Int32) = 0 by decide), gi_7_27 w72, c3 72 (by decide), n3, e, Option.bind_some, if_pos (show nI 1 = 1 from rfl), gi_7_30 w72, c3 72 (by decide), n10b, t3, Option.bind_some, pi_7_30 w72, Option.bind_some, gi_7_30 w72, up2_s, Option.bind_some, if_neg (Int32.not_lt.mpr (nI_ge0 hl (by omega))), f1, dp_b2_s]
        · rw [if_neg (nI_ge (by omega) (by omega)), Option.bind_some, pi_0_4 w68, Option.bind_some, Option.bind_some, gr_6_5 w0_, Option.bind_some, m_X0_state, wd_ck w68 (by decide), gi_0_2 w68, up2_n (by omega), n2, e, Option.bind_some, Option.bind_some, pk_sub (by omega)]
          refine ⟨_, ar, pr, up2 (up2 vi 68 4 (nI (t - k))) 72 30 (nI (t - k)), ar, _, rfl, ?_, ?_⟩
          · rw [wd_ck w72 (by decide), wi, Option.bind_some, if_neg (show ¬ (1 : Int32) = 0 by decide), gi_7_27 w72, up2_n (by omega), n3, e, Option.bind_some, if_pos (show nI 1 = 1 from rfl), gi_7_30 w72, up2_n (by omega), n10b, t3, Option.bind_some, pk_sub (by omega), pi_7_30 w72, Option.bind_some, gi_7_30 w72, up2_s, Option.bind_some, if_pos (show 0 < nI (t - k) from nI_lt (a := 0) (by omega) (by omega))]
            rfl
          · refine KF_.inv (vi := vi) (ar := ar) (s := 1) (nd := nd) ⟨fun c e q => by rw [up2_n (by omega), up2_n (by omega)], fun _ _ _ => rfl⟩ hP hL hS ⟨by omega, ?_, ?_, n4, ?_, ?_, n7, n8, ?_, fun _ => ⟨n10a, ?_, t - k, by omega, by omega, ?_⟩, by omega, by omega⟩ (hC.fr (fun c e q => by rw [up2_n (by omega), up2_n (by omega)]))
            · rw [up2_n (by omega), up2_n (by omega), n2, e]
            · rw [up2_n (by omega), up2_n (by omega), n3, e]
            · rw [up2_n (by omega), up2_n (by omega), n5]
            · rw [up2_n (by omega), up2_n (by omega), n6]
            · rw [up2_n (by omega), up2_n (by omega), up2_n (by omega), up2_n (by omega), n9]
            · rw [up2_s, up2_n (by omega), up2_s]
            · rw [up2_n (by omega), up2_s]
      · rw [if_neg e, if_pos rfl]
        exact ⟨vi, ar, pr, vi, ar, _, rfl, by rw [wd_ck w72 (by decide), wi, Option.bind_some, if_neg (show ¬ (1 : Int32) = 0 by decide), gi_7_27 w72, n3, Option.bind_some, if_neg (show ¬ nI s = 1 by rw [show (1 : Int32) = nI 1 from rfl, nI_eq (by omega) (by omega)]; exact e)], hI⟩
    · rw [if_neg h2]
      exact ⟨vi, ar, pr, vi, ar, _, rfl, by rw [wd_ck w72 (by decide), wi_, if_neg h1, if_pos (Int32.not_le.mp h2)]; rfl, hI⟩
