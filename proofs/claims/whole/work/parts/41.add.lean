/-! add -/
section AD
variable {vi ar v a : Nat → Nat → Int32} {pr : Nat → Nat} {hh : Int64} {m : Nat} {pl dr an : Nat → Nat}
theorem kp_85 {m an : Nat} (hm : m < 10) (h22 : v 72 22 = nI an) (han : an ≤ 4) : ∀ (r k f : Nat) (a1 : Nat → Nat → Int32), k + r = an → r < f → ∃ a', m_X7_keepPattern_85 f (wd_h v a1 pr hh) 72 (nI m) (nI k) = some (wd_h v a' pr hh) ∧ (∀ c, c ≠ 80 → a' c = a1 c) ∧ (∀ q, q < 4 * m + k → a' 80 q = a1 80 q) ∧ (∀ q, k ≤ q → q < an → a' 80 (4 * m + q) = a1 83 q) := by
  intro r
  induction r with
  | zero =>
    intro k f a1 hk hf
    obtain ⟨f, rfl⟩ : ∃ g, f = g + 1 := ⟨f - 1, by omega⟩
    refine ⟨a1, ?_, fun _ _ => rfl, fun _ _ => rfl, fun q h1 h2 => by omega⟩
    show b_X7_keepPattern_85 _ _ _ _ _ = _
    unfold b_X7_keepPattern_85
    rw [gi_7_22 w72, h22, Option.bind_some, if_pos (nI_le (by omega) (by omega))]
  | succ r ih =>
    intro k f a1 hk hf
    obtain ⟨f, rfl⟩ : ∃ g, f = g + 1 := ⟨f - 1, by omega⟩
    have hb : m_X7_keepPattern_85 (f + 1) (wd_h v a1 pr hh) 72 (nI m) (nI k) = m_X7_keepPattern_85 f (wd_h v (up2 a1 80 (4 * m + k) (a1 83 k)) pr hh) 72 (nI m) (nI (k + 1)) := by
      show b_X7_keepPattern_85 _ _ _ _ _ = _
      unfold b_X7_keepPattern_85
      rw [gi_7_22 w72, h22, Option.bind_some, if_neg (nI_ge (by omega) (by omega)), gr_7_9 w72, Option.bind_some, gr_7_23 w72, Option.bind_some, wd_ai (by decide) (by decide) (show k < 4 by omega), Option.bind_some, ix_4, wd_si (by decide) (by decide) (show 4 * m + k < 40 by omega), Option.bind_some, nI_1]
    obtain ⟨a', e1, e2, e3, e4⟩ := ih (k + 1) f (up2 a1 80 (4 * m + k) (a1 83 k)) (by omega) (by omega)
    refine ⟨a', by rw [hb, e1], fun c hc => by rw [e2 c hc, up2_k hc], fun q hq => by rw [e3 q (by omega), up2_n (by omega)], fun q h1 h2 => ?_⟩
    by_cases e : q = k
    · rw [e, e3 _ (by omega), up2_s]
    · rw [e4 q (by omega) h2, up2_n (by omega)]
theorem kp_52 {m pl : Nat} (hm : m < 10) (h16 : v 72 16 = nI pl) (hpl : pl ≤ 8) : ∀ (r k f : Nat) (a1 : Nat → Nat → Int32), k + r = pl → r < f → ∃ a', m_X7_keepPattern_52 f (wd_h v a1 pr hh) 72 (nI m) (nI k) = m_X7_keepPattern_85 64 (wd_h v a' pr hh) 72 (nI m) 0 ∧ (∀ c, c ≠ 76 → a' c = a1 c) ∧ (∀ q, q < 8 * m + k → a' 76 q = a1 76 q) ∧ (∀ q, k ≤ q → q < pl → a' 76 (8 * m + q) = a1 82 q) := by
  intro r
  induction r with
  | zero =>
    intro k f a1 hk hf
    obtain ⟨f, rfl⟩ : ∃ g, f = g + 1 := ⟨f - 1, by omega⟩
    refine ⟨a1, ?_, fun _ _ => rfl, fun _ _ => rfl, fun q h1 h2 => by omega⟩
    show b_X7_keepPattern_52 _ _ _ _ _ = _
    unfold b_X7_keepPattern_52
    rw [gi_7_16 w72, h16, Option.bind_some, if_pos (nI_le (by omega) (by omega))]
  | succ r ih =>
    intro k f a1 hk hf
    obtain ⟨f, rfl⟩ : ∃ g, f = g + 1 := ⟨f - 1, by omega⟩
    have hb : m_X7_keepPattern_52 (f + 1) (wd_h v a1 pr hh) 72 (nI m) (nI k) = m_X7_keepPattern_52 f (wd_h v (up2 a1 76 (8 * m + k) (a1 82 k)) pr hh) 72 (nI m) (nI (k + 1)) := by
      show b_X7_keepPattern_52 _ _ _ _ _ = _
      unfold b_X7_keepPattern_52
      rw [gi_7_16 w72, h16, Option.bind_some, if_neg (nI_ge (by omega) (by omega)), gr_7_5 w72, Option.bind_some, gr_7_18 w72, Option.bind_some, wd_ai (by decide) (by decide) (show k < 8 by omega), Option.bind_some, ix_8, wd_si (by decide) (by decide) (show 8 * m + k < 80 by omega), Option.bind_some, nI_1]
    obtain ⟨a', e1, e2, e3, e4⟩ := ih (k + 1) f (up2 a1 76 (8 * m + k) (a1 82 k)) (by omega) (by omega)
    refine ⟨a', by rw [hb, e1], fun c hc => by rw [e2 c hc, up2_k hc], fun q hq => by rw [e3 q (by omega), up2_n (by omega)], fun q h1 h2 => ?_⟩
    by_cases e : q = k
    · rw [e, e3 _ (by omega), up2_s]
    · rw [e4 q (by omega) h2, up2_n (by omega)]
theorem kp_ {m pl an : Nat} (hm : m < 10) (h16 : v 72 16 = nI pl) (hpl : pl ≤ 8) (h17 : v 72 17 = 0 ∨ v 72 17 = 1) (h22 : v 72 22 = nI an) (han : an ≤ 4) : ∃ a', m_X7_keepPattern (wd_h v a pr hh) 72 (nI m) = some (wd_h v a' pr hh) ∧ (∀ c, c < 74 ∨ 80 < c → a' c = a c) ∧ (∀ q, a' 74 q = if q = m then nI pl else a 74 q) ∧ (∀ q, a' 75 q = if q = m then v 72 17 else a 75 q) ∧ (∀ q, a' 77 q = if q = m then v 72 20 else a 77 q) ∧ (∀ q, a' 78 q = if q = m then v 72 21 else a 78 q) ∧ (∀ q, a' 79 q = if q = m then nI an else a 79 q) ∧ (∀ q, q < 8 * m → a' 76 q = a 76 q) ∧ (∀ q, q < pl → a' 76 (8 * m + q) = a 82 q) ∧ (∀ q, q < 4 * m → a' 80 q = a 80 q) ∧ (∀ q, q < an → a' 80 (4 * m + q) = a 83 q) := by
  rw [m_X7_keepPattern, wd_ck w72 (by decide), gr_7_3 w72, Option.bind_some, gi_7_16 w72, h16, Option.bind_some, wd_si (by decide) (by decide) (show m < 10 from hm), Option.bind_some, gr_7_4 w72, Option.bind_some, gi_7_17 w72, Option.bind_some, dp_b, if_pos h17, wd_sz hm, Option.bind_some, gr_7_6 w72, Option.bind_some, gi_7_20 w72, Option.bind_some, wd_si (by decide) (by decide) (show m < 10 from hm), Option.bind_some, gr_7_7 w72, Option.bind_some, gi_7_21 w72, Option.bind_some, wd_si (by decide) (by decide) (show m < 10 from hm), Option.bind_some, gr_7_8 w72, Option.bind_some, gi_7_22 w72, h22, Option.bind_some, wd_si (by decide) (by decide) (show m < 10 from hm), Option.bind_some]
  obtain ⟨a1, e1, e2, e3, e4⟩ := kp_52 (v := v) (pr := pr) (hh := hh) hm h16 hpl pl 0 64 (up2 (up2 (up2 (up2 (up2 a 74 m (nI pl)) 75 m (v 72 17)) 77 m (v 72 20)) 78 m (v 72 21)) 79 m (nI an)) (by omega) (by omega)
  obtain ⟨a2, f1, f2, f3, f4⟩ := kp_85 (v := v) (pr := pr) (hh := hh) hm h22 han an 0 64 a1 (by omega) (by omega)
  have pt : ∀ {c q : Nat} {z : Int32} {b : Nat → Nat → Int32}, (up2 b c m z) c q = if q = m then z else b c q := fun {c q z b} => by
    by_cases e : q = m
    · rw [if_pos e, e, up2_s]
    · rw [if_neg e, up2_n (by omega)]
  refine ⟨a2, e1.trans f1, fun c hc => ?_, fun q => ?_, fun q => ?_, fun q => ?_, fun q => ?_, fun q => ?_, fun q hq => ?_, fun q hq => ?_, fun q hq => ?_, fun q hq => ?_⟩
  · rw [f2 c (by omega), e2 c (by omega), up2_k (by omega), up2_k (by omega), up2_k (by omega), up2_k (by omega), up2_k (by omega)]
  · rw [f2 74 (by decide), e2 74 (by decide), up2_n (by omega), up2_n (by omega), up2_n (by omega), up2_n (by omega), pt]
  · rw [f2 75 (by decide), e2 75 (by decide), up2_n (by omega), up2_n (by omega), up2_n (by omega), pt, up2_n (by omega)]
  · rw [f2 77 (by decide), e2 77 (by decide), up2_n (by omega), up2_n (by omega), pt, up2_n (by omega), up2_n (by omega)]
  · rw [f2 78 (by decide), e2 78 (by decide), up2_n (by omega), pt, up2_n (by omega), up2_n (by omega), up2_n (by omega)]
  · rw [f2 79 (by decide), e2 79 (by decide), pt, up2_n (by omega), up2_n (by omega), up2_n (by omega), up2_n (by omega)]
  · rw [f2 76 (by decide), e3 q (by omega), up2_n (by omega), up2_n (by omega), up2_n (by omega), up2_n (by omega), up2_n (by omega)]
  · rw [f2 76 (by decide), e4 q (by omega) hq, up2_n (by omega), up2_n (by omega), up2_n (by omega), up2_n (by omega), up2_n (by omega)]
  · rw [f3 q (by omega), e2 80 (by decide), up2_n (by omega), up2_n (by omega), up2_n (by omega), up2_n (by omega), up2_n (by omega)]
  · rw [f4 q (by omega) hq, e2 83 (by decide), up2_n (by omega), up2_n (by omega), up2_n (by omega), up2_n (by omega), up2_n (by omega)]
end AD
theorem ok_add : OK_ (fun h => m_X6_add h 0) (fun h => m_X7_add h 72) := by
  intro vi ar pr hh hI
  show ∃ vi1 ar1 pr1 vi2 ar2 r, m_X6_add (wd_h vi ar pr hh) 0 = _ ∧ m_X7_add (wd_h vi1 ar1 pr1 hh) 72 = _ ∧ _
  obtain ⟨n, m, pl, dr, an, s, nd, hP, hL, hN, hS, hC⟩ := id hI
  have hn := hP.1
  have hm := hL.1
  obtain ⟨v1, a1, e1, e2, e3, e4⟩ := cs_ (ar := ar) (pr := pr) (hh := hh) hP.1 hP.2.1
  have S1 := SC_cs e2 e3
  have hP1 := S1.pg hP
  have hN1 := S1.ln hN
  obtain ⟨i1, i2, i3⟩ := sc_i (cs := ar 2) n 0 s0_
  rw [m_X6_add, wd_ck w0_ (by decide), gr_6_1 w0_, Option.bind_some, gr_6_0 w0_, Option.bind_some, e1, dp_b2_s, gr_6_0 w0_, Option.bind_some, ro_size hP1.rw, Option.bind_some]
  /- the reference, in any heap that has the same page -/
  have mod : ∀ v a : Nat → Nat → Int32, v 72 0 = nI n → (∀ k, k < n → a 73 k = ar 2 k) → ∃ v' a', m_X7_goAlong (wd_h v a pr hh) 72 = some (wd_h v' a' pr hh, nI (sc_ (ar 2) n 0 s0_).1) ∧ (∀ a, a ≠ 72 → v' a = v a) ∧ (∀ b, b < 15 ∨ 22 < b → v' 72 b = v 72 b) ∧ (∀ c, c ≠ 82 → c ≠ 83 → a' c = a c) ∧ ∀ s', (sc_ (ar 2) n 0 s0_).2 = some s' → MS_ v' a' s' := fun v a h1 h2 => ms_ hP.1 h1 h2
  obtain ⟨v2, a2, g1, g2, g3, g4, g5⟩ := mod v1 a1 hP1.2.2.1 (fun k hk => by rw [e3 73 (by decide) (by decide) (by decide)]; exact hP.2.2.2 k hk)
  have S2 := S1.trans (SC_ms g2 g3 g4)
  have z0 : ∀ h : dp_H, b_X6_add_36 h 0 0 = some (h, -1003) := fun h => by unfold b_X6_add_36; rw [if_pos rfl]
  cases ho : (sc_ (ar 2) n 0 s0_).2 with
  | none =>
    have hi := i2 ho
    rw [if_neg (show ¬ nI (sc_ (ar 2) n 0 s0_).1 = nI n by rw [nI_eq (by omega) (by omega)]; omega), z0]
    refine ⟨v1, a1, pr, v2, a2, _, rfl, ?_, hI.sc S2⟩
    rw [m_X7_add, wd_ck w72 (by decide), g1, dp_b2_s, gi_7_0 w72, (S2.pg hP).2.2.1, Option.bind_some, if_pos (nI_lt (by omega) (by omega))]
  | some s' =>
    have hi := i3 s' ho
    have hV := sc_V n 0 s0_ V_0 s' ho
    have hCS := e4 s' ho
    have hMS := g5 s' ho
    obtain ⟨st, spl, lh, op, lo, hi', w, sdr, san, af⟩ := s'
    obtain ⟨hB, d1, d2, d3, d4, d5⟩ := hCS
    obtain ⟨hMB, m1, m2, m3, m4, m5⟩ := hMS
    obtain ⟨w1, w2, w3, w4, w5, w6, w7, w8, w9, w10, w11, w12, w13⟩ := hV
    rw [if_pos (show nI (sc_ (ar 2) n 0 s0_).1 = nI n by rw [hi, Nat.zero_add]), gr_6_1 w0_, Option.bind_some, m_X2_isWhole, wd_ck t3_ (by decide), gi_2_1 t3_, d1, Option.bind_some]
    have hnl : ¬ nI (sc_ (ar 2) n 0 s0_).1 < nI n := by rw [hi, Nat.zero_add]; exact nI_nlt (by omega) (by omega)
    by_cases h9 : st = 9
    · subst h9
      rw [if_pos (show nI 9 = 9 from rfl), Option.bind_some, if_neg (show ¬ (1 : Int32) = 0 by decide)]
      unfold b_X6_add_36
      rw [if_neg (show ¬ (1 : Int32) = 0 by decide), gr_6_5 w0_, Option.bind_some, up_ hN1.2.1 hN1.1, Option.bind_some]
      by_cases hs : s = 0
      · rw [if_pos hs, if_pos rfl, gr_6_2 w0_, Option.bind_some, gr_6_1 w0_, Option.bind_some, m_X2_draft, wd_ck t3_ (by decide), gr_2_0 t3_, Option.bind_some, Option.bind_some, show (3 + 1 : Nat) = 4 from rfl]
        have hL1 := S1.pn hL
        by_cases hf : m = 10
        · have ea : m_X3_append (wd_h v1 a1 pr hh) 9 4 = some (wd_h v1 a1 pr hh, 0) := by
            rw [m_X3_append, wd_ck w9_ (by decide), gi_3_1 w9_, hL1.2.1, Option.bind_some, if_neg (nI_pos (by omega)), Option.bind_some, gr_3_0 w9_, Option.bind_some, wd_ln10, Option.bind_some, if_neg (show ¬ nI m < 10 by rw [hf]; decide)]
          rw [ea, dp_b2_s, if_pos rfl]
          refine ⟨v1, a1, pr, v2, a2, _, rfl, ?_, hI.sc S2⟩
          rw [m_X7_add, wd_ck w72 (by decide), g1, dp_b2_s, gi_7_0 w72, (S2.pg hP).2.2.1, Option.bind_some, if_neg hnl, gi_7_15 w72, m1, Option.bind_some, if_pos (show nI 9 = 9 from rfl), gi_7_27 w72, (S2.ln hN).2.2.1, hs, Option.bind_some, if_pos (show nI 0 = 0 from rfl), gi_7_2 w72, (S2.pn hL).2.2.1, hf, Option.bind_some, if_pos (show nI 10 = 10 from rfl)]
        · have hm' : m < 10 := by omega
          obtain ⟨jm, hjm, ejm⟩ := hL.2.2.2.1 m
          have o01 : v1 4 4 = 0 ∨ v1 4 4 = 1 := by
            rw [hB.2.1]
            have : op = 0 ∨ op = 1 := by omega
            rcases this with rfl | rfl
            · exact Or.inl rfl
            · exact Or.inr rfl
          obtain ⟨v3, a3, c1, c2, c3, c4, c5, c6, c7, c8, c9, c10⟩ := pt_copy (ar := a1) (pr := pr) (hh := hh) (hL.pa hm') Pa_4 (by omega) hB.2.2.2.2.1 w12 o01
          have ea : m_X3_append (wd_h v1 a1 pr hh) 9 4 = some (wd_h (up2 v3 9 1 (nI (m + 1))) a3 pr hh, 1) := by
            rw [m_X3_append, wd_ck w9_ (by decide), gi_3_1 w9_, hL1.2.1, Option.bind_some, if_neg (nI_pos (by omega)), Option.bind_some, gr_3_0 w9_, Option.bind_some, wd_ln10, Option.bind_some, if_pos (show nI m < 10 from nI_lt (b := 10) hm' (by omega)), Option.bind_some, Option.bind_some, show dp_ar (wd_h v1 a1 pr hh) (9 + 1) (nI m) = some (pr m) from wd_ar hm', Option.bind_some, c1, Option.bind_some, gi_3_1 w9_, c2 9 (by omega) (by omega), hL1.2.1, Option.bind_some, pi_3_1 w9_, Option.bind_some, nI_1]
          rw [ea, dp_b2_s, if_neg (show ¬ (1 : Int32) = 0 by decide), gr_6_0 w0_, Option.bind_some, ro_clear (k := 1) (cap := 52) (n := n) ⟨rfl, rfl, by decide, by rw [up2_n (by omega), c2 1 (by omega) (by omega)]; exact hP1.2.1, hn⟩, Option.bind_some, gr_6_2 w0_, Option.bind_some, m_X3_size, wd_ck w9_ (by decide), gi_3_1 w9_, up2_n (a := 9) (by omega), up2_s, Option.bind_some, Option.bind_some]
          have v72 : ∀ b, (up2 (up2 v3 9 1 (nI (m + 1))) 1 1 0) 72 b = v1 72 b := fun b => by rw [up2_n (by omega), up2_n (by omega), c2 72 (by omega) (by omega)]
          obtain ⟨v4, a4, k1, k2, k3, k4, k5⟩ := mod (up2 (up2 v3 9 1 (nI (m + 1))) 1 1 0) a3 (by rw [v72]; exact hP1.2.2.1) (fun k hk => by rw [c3 73 (by omega) (by omega) (by omega), e3 73 (by decide) (by decide) (by decide)]; exact hP.2.2.2 k hk)
          obtain ⟨kB, q1, q2, q3, q4, q5⟩ := k5 _ ho
          have o17 : v4 72 17 = 0 ∨ v4 72 17 = 1 := by
            rw [kB.2.1]
            have : op = 0 ∨ op = 1 := by omega
            rcases this with rfl | rfl
            · exact Or.inl rfl
            · exact Or.inr rfl
          obtain ⟨a5, p1, p2, p3, p4, p5, p6, p7, p8, p9, p10, p11⟩ := kp_ (a := a4) (pr := pr) (hh := hh) hm' kB.1 w2 o17 kB.2.2.2.1 w12
          have h72 : v4 72 2 = nI m := by rw [k3 2 (by omega), v72]; exact hL1.2.2.1
          refine ⟨_, a3, pr, up2 (up2 v4 72 2 (nI (m + 1))) 72 0 0, a5, _, rfl, ?_, ?_⟩
          · rw [m_X7_add, wd_ck w72 (by decide), k1, dp_b2_s, gi_7_0 w72, k3 0 (by omega), v72, hP1.2.2.1, Option.bind_some, if_neg hnl, gi_7_15 w72, q1, Option.bind_some, if_pos (show nI 9 = 9 from rfl), gi_7_27 w72, k3 27 (by omega), v72, hN1.2.2.1, hs, Option.bind_some, if_pos (show nI 0 = 0 from rfl), gi_7_2 w72, h72, Option.bind_some, if_neg (show ¬ nI m = 10 by rw [show (10 : Int32) = nI 10 from rfl, nI_eq (by omega) (by omega)]; exact hf), Option.bind_some, p1, Option.bind_some, gi_7_2 w72, h72, Option.bind_some, pi_7_2 w72, Option.bind_some, pi_7_0 w72, Option.bind_some, gi_7_2 w72, up2_n (by omega), up2_s, Option.bind_some, nI_1]
          · /- what the new heap keeps -/
            have keepv : ∀ c b, c ≠ 3 → c ≠ 4 → c ≠ 7 → c ≠ pr m → c ≠ pr m + 3 → ¬ (c = 9 ∧ b = 1) → ¬ (c = 1 ∧ b = 1) → ¬ (c = 72 ∧ (b = 0 ∨ b = 2 ∨ (15 ≤ b ∧ b ≤ 22))) → (up2 (up2 v4 72 2 (nI (m + 1))) 72 0 0) c b = vi c b := fun c b h1 h2 h3 h4 h5 h6 h7 h8 => by
              rw [up2_n (by omega), up2_n (by omega)]
              by_cases ec : c = 72
              · subst ec
                rw [k3 b (by omega), v72, e2 72 (by decide) (by decide) (by decide)]
              · rw [k2 c ec, up2_n h7, up2_n h6, c2 c h4 h5, e2 c h1 h2 h3]
            have keepa : ∀ c, (c < 74 ∨ 80 < c) → c ≠ 5 → c ≠ 6 → c ≠ 8 → c ≠ 82 → c ≠ 83 → c ≠ pr m + 1 → c ≠ pr m + 2 → c ≠ pr m + 4 → a5 c = ar c := fun c h1 h2 h3 h4 h5 h6 h7 h8 h9 => by
              rw [p2 c h1, k4 c h5 h6, c3 c h7 h8 h9, e3 c h2 h3 h4]
            have keept : ∀ c, 74 ≤ c → c < 81 → a4 c = ar c := fun c h1 h2 => by
              rw [k4 c (by omega) (by omega), c3 c (by omega) (by omega) (by omega), e3 c (by omega) (by omega) (by omega)]
            have newv : ∀ b, (up2 (up2 v4 72 2 (nI (m + 1))) 72 0 0) (pr m) b = v3 (pr m) b := fun b => by rw [up2_n (by omega), up2_n (by omega), k2 _ (by omega), up2_n (by omega), up2_n (by omega)]
            have newv3 : ∀ b, (up2 (up2 v4 72 2 (nI (m + 1))) 72 0 0) (pr m + 3) b = v3 (pr m + 3) b := fun b => by rw [up2_n (by omega), up2_n (by omega), k2 _ (by omega), up2_n (by omega), up2_n (by omega)]
            have newa : ∀ c, 11 ≤ c → c < 61 → a5 c = a3 c := fun c h1 h2 => by rw [p2 c (by omega), k4 c (by omega) (by omega)]
            refine ⟨0, m + 1, va_up pl m spl, va_up dr m sdr, va_up an m san, s, nd, ⟨by omega, ?_, up2_s, fun k hk => absurd hk (Nat.not_lt_zero k)⟩, ⟨by omega, ?_, ?_, hL.2.2.2.1, hL.2.2.2.2.1, fun i hi => ?_⟩, hN.fr (fun c b q => keepv c b (by omega) (by omega) (by omega) (by omega) (by omega) (by omega) (by omega) (by omega)) (fun c b q => by rw [keepa c (by omega) (by omega) (by omega) (by omega) (by omega) (by omega) (by omega) (by omega) (by omega)]), hS.fr (fun c b q => by rw [keepa c (by omega) (by omega) (by omega) (by omega) (by omega) (by omega) (by omega) (by omega) (by omega)]), hC.fr (fun c b q => keepv c b (by omega) (by omega) (by omega) (by omega) (by omega) (by omega) (by omega) (by omega))⟩
            · rw [up2_n (by omega), up2_n (by omega), k2 1 (by decide), up2_s]; rfl
            · rw [up2_n (by omega), up2_n (by omega), k2 9 (by decide), up2_n (by omega), up2_s]
            · rw [up2_n (by omega), up2_s]
            · unfold va_up
              by_cases ei : i = m
              · subst ei
                rw [if_pos rfl, if_pos rfl, if_pos rfl]
                refine ⟨?_, ?_⟩
                · unfold pw_
                  rw [newv, newv, newv, newv, newv3, newa (pr i + 4) (by omega) (by omega), newa (pr i + 1) (by omega) (by omega), newa (pr i + 2) (by omega) (by omega), c4, c5, c6, c7, c8]
                  refine ⟨hB.1, w6 (by omega), w2, o01, ⟨w, w10 (by omega), d4 (by omega)⟩, d5 rfl, w11 rfl, rfl, w12, fun k hk => ⟨af k, w13 k hk, by rw [c10 k hk]; exact hB.2.2.2.2.2 k hk⟩, fun k hk => ⟨(lh k).1, (lh k).2, (w7 k hk).1, (w7 k hk).2, by rw [(c9 k (by omega)).1]; exact (hB.2.2.1 k hk).1, by rw [(c9 k (by omega)).2]; exact (hB.2.2.1 k hk).2⟩, fun k h1 h2 => ?_⟩
                  rw [(c9 k h2).1, (c9 k h2).2, show a1 (4 + 1) k = a1 5 k from rfl, show a1 (4 + 2) k = a1 6 k from rfl, (hB.2.2.2.1 k h1 h2).1, (hB.2.2.2.1 k h1 h2).2, hB.2.1]
                  have : op = 0 ∨ op = 1 := by omega
                  rcases this with rfl | rfl
                  · exact ⟨rfl, rfl⟩
                  · exact ⟨rfl, rfl⟩
                · unfold pm_
                  rw [newv, newv, newa (pr i + 4) (by omega) (by omega), newa (pr i + 1) (by omega) (by omega), p3, if_pos rfl, p4, if_pos rfl, p5, if_pos rfl, p6, if_pos rfl, p7, if_pos rfl, c5, c6]
                  refine ⟨rfl, ?_, ?_, q5 rfl, rfl, fun k hk => ?_, fun k hk => ?_⟩
                  · rw [kB.2.1]; exact hB.2.1.symm
                  · rw [q4 (by omega)]; exact (d4 (by omega)).symm
                  · rw [p9 k hk, (c9 k (by omega)).1, kB.2.2.1 k hk]; exact (hB.2.2.1 k hk).1.symm
                  · rw [p11 k hk, c10 k hk, kB.2.2.2.2 k hk]; exact (hB.2.2.2.2.2 k hk).symm
              · rw [if_neg ei, if_neg ei, if_neg ei]
                obtain ⟨hw, hq⟩ := hL.2.2.2.2.2 i (by omega)
                obtain ⟨ji, hji, eji⟩ := hL.2.2.2.1 i
                have hne : ji ≠ jm := fun z => ei (hL.2.2.2.2.1 i m (by omega) (by omega) (by omega))
                have f0 : (up2 (up2 v4 72 2 (nI (m + 1))) 72 0 0) (pr i) = vi (pr i) := funext fun b => keepv _ b (by omega) (by omega) (by omega) (by omega) (by omega) (by omega) (by omega) (by omega)
                have f3 : (up2 (up2 v4 72 2 (nI (m + 1))) 72 0 0) (pr i + 3) = vi (pr i + 3) := funext fun b => keepv _ b (by omega) (by omega) (by omega) (by omega) (by omega) (by omega) (by omega) (by omega)
                have b1 : a5 (pr i + 1) = ar (pr i + 1) := keepa _ (by omega) (by omega) (by omega) (by omega) (by omega) (by omega) (by omega) (by omega) (by omega)
                have b2 : a5 (pr i + 2) = ar (pr i + 2) := keepa _ (by omega) (by omega) (by omega) (by omega) (by omega) (by omega) (by omega) (by omega) (by omega)
                have b4 : a5 (pr i + 4) = ar (pr i + 4) := keepa _ (by omega) (by omega) (by omega) (by omega) (by omega) (by omega) (by omega) (by omega) (by omega)
                refine ⟨?_, ?_⟩
                · unfold pw_
                  rw [f0, f3, b1, b2, b4]
                  exact hw
                · unfold pm_
                  rw [f0, b1, b4, p3, if_neg ei, p4, if_neg ei, p5, if_neg ei, p6, if_neg ei, p7, if_neg ei, keept 74 (by omega) (by omega), keept 75 (by omega) (by omega), keept 77 (by omega) (by omega), keept 78 (by omega) (by omega), keept 79 (by omega) (by omega)]
                  have h8 := hw.2.2.1
                  have h4 := hw.2.2.2.2.2.2.2.2.1
                  exact ⟨hq.1, hq.2.1, hq.2.2.1, hq.2.2.2.1, hq.2.2.2.2.1, fun k hk => by rw [p8 _ (by omega), keept 76 (by omega) (by omega)]; exact hq.2.2.2.2.2.1 k hk, fun k hk => by rw [p10 _ (by omega), keept 80 (by omega) (by omega)]; exact hq.2.2.2.2.2.2 k hk⟩
      · rw [if_neg hs, if_neg (show ¬ (1 : Int32) = 0 by decide)]
        refine ⟨v1, a1, pr, v2, a2, _, rfl, ?_, hI.sc S2⟩
        have n1 := hN.1
        rw [m_X7_add, wd_ck w72 (by decide), g1, dp_b2_s, gi_7_0 w72, (S2.pg hP).2.2.1, Option.bind_some, if_neg hnl, gi_7_15 w72, m1, Option.bind_some, if_pos (show nI 9 = 9 from rfl), gi_7_27 w72, (S2.ln hN).2.2.1, Option.bind_some, if_neg (nI_ne0 (by omega) (by omega))]
    · have n9 : ¬ nI st = 9 := by rw [show (9 : Int32) = nI 9 from rfl, nI_eq (by omega) (by omega)]; exact h9
      rw [if_neg n9, Option.bind_some, if_pos rfl, z0]
      refine ⟨v1, a1, pr, v2, a2, _, rfl, ?_, hI.sc S2⟩
      rw [m_X7_add, wd_ck w72 (by decide), g1, dp_b2_s, gi_7_0 w72, (S2.pg hP).2.2.1, Option.bind_some, if_neg hnl, gi_7_15 w72, m1, Option.bind_some, if_neg n9]
